def f_X9_in_16 (l0 : Nat) (l1 : Int32) (l2 : Int32) (l3 : Int32) (l4 : Int32) (n : Nat) (h : AH) (l5 : Int32) : Option AH := match n with
| 0 => none
| n + 1 =>
if l5 ≤ l3 then
some h
else
Option.bind (gP h 9 l0 12) fun x3 =>
Option.bind (gP h 9 l0 12) fun x4 =>
Option.bind (ldI h x4 (((252 + (l2 * 40)) + l5) - 1)) fun x5 =>
Option.bind (stI h x3 ((252 + (l2 * 40)) + l5) x5) fun h6 =>
f_X9_in_16 l0 l1 l2 l3 l4 n h6 (l5 + (-1))
def f_X9_in (h : AH) (a0 : Nat) (a1 : Int32) (a2 : Int32) (a3 : Int32) : Option AH :=
if aK h a0 = 9 then
Option.bind (gP h 9 a0 12) fun x1 =>
Option.bind (ldI h x1 (492 + a2)) fun x2 =>
Option.bind (f_X9_in_16 a0 a1 a2 a3 x2 FU h x2) fun h7 =>
Option.bind (gP h7 9 a0 12) fun x8 =>
Option.bind (stI h7 x8 ((252 + (a2 * 40)) + a3) a1) fun h9 =>
Option.bind (gP h9 9 a0 12) fun x10 =>
Option.bind (stI h9 x10 (492 + a2) (x2 + 1)) fun h11 =>
Option.bind (gP h11 9 a0 12) fun x12 =>
Option.bind (stI h11 x12 (212 + a1) a2) fun h13 =>
some h13
else none
set_option maxRecDepth 100000 in
set_option maxHeartbeats 4000000 in
theorem s_X9_in_16 {p : Program} {l : Launch} {e : Env} {s : State} {m : MethodId} {args : Array Value} {below : List Frame} {meth : Method} {c : Code} {G : GT} {Q : State → Prop} (O : OkC p l s m args meth c G cX9_in 6 RX9) {l0 : Nat} {l1 : Int32} {l2 : Int32} {l3 : Int32} {l4 : Int32} {wh : AH} (kk : AW p l e { frames := 0, cells := 0, slots := 0, locals := 0 } s m args below meth c G 6 Q wh 0 0 62 [(0, .ref l0), (1, .int l1), (2, .int l2), (3, .int l3), (4, .int l4)] []) : ∀ (n : Nat), ∀ (h : AH) (l5 : Int32), f_X9_in_16 l0 l1 l2 l3 l4 n h l5 = some wh → AW p l e { frames := 0, cells := 0, slots := 0, locals := 0 } s m args below meth c G 6 Q h 0 0 16 [(0, .ref l0), (1, .int l1), (2, .int l2), (3, .int l3), (4, .int l4), (5, .int l5)] [] := by
  intro n
  induction n with
  | zero =>
    intro h l5 hf
    simp [f_X9_in_16] at hf
  | succ n ih =>
    intro h l5 hf
    unfold f_X9_in_16 at hf
    refine r_iload O 5 dX9_in_16 rfl ?_
    refine r_iload_n O 3 dX9_in_18 rfl ?_
    by_cases hc : l5 ≤ l3
    · rw [if_pos hc] at hf
      refine r_icmp_le_t (tgt := 62) O dX9_in_19 (by decide) hc ?_
      obtain rfl := oi1 hf
      refine AW.sub [0, 1, 2, 3, 4] rfl ?_
      exact kk
    · rw [if_neg hc] at hf
      refine r_icmp_le_f (tgt := 62) O dX9_in_19 (by decide) hc ?_
      refine r_aload_n O 0 dX9_in_22 rfl (Or.inl rfl) ?_
      obtain ⟨x3, ex3, hf⟩ := bnd hf
      refine r_gP O cf9 12 (by decide) rfl fl_X9_39 ex3 dX9_in_23 ?_
      refine r_sipush O (v := 252) dX9_in_26 (by decide) ?_
      refine r_iload_n O 2 dX9_in_29 rfl ?_
      refine r_bipush O (v := 40) dX9_in_30 (by decide) ?_
      refine r_imul O dX9_in_32 ?_
      refine r_iadd O dX9_in_33 ?_
      refine r_iload O 5 dX9_in_34 rfl ?_
      refine r_iadd O dX9_in_36 ?_
      refine r_aload_n O 0 dX9_in_37 rfl (Or.inl rfl) ?_
      obtain ⟨x4, ex4, hf⟩ := bnd hf
      refine r_gP O cf9 12 (by decide) rfl fl_X9_39 ex4 dX9_in_38 ?_
      refine r_sipush O (v := 252) dX9_in_41 (by decide) ?_
      refine r_iload_n O 2 dX9_in_44 rfl ?_
      refine r_bipush O (v := 40) dX9_in_45 (by decide) ?_
      refine r_imul O dX9_in_47 ?_
      refine r_iadd O dX9_in_48 ?_
      refine r_iload O 5 dX9_in_49 rfl ?_
      refine r_iadd O dX9_in_51 ?_
      refine r_iconst O (v := 1) dX9_in_52 (by decide) ?_
      refine r_isub O dX9_in_53 ?_
      obtain ⟨x5, ex5, hf⟩ := bnd hf
      refine r_ldI O ex5 dX9_in_54 ?_
      obtain ⟨h6, eh6, hf⟩ := bnd hf
      refine r_stI O eh6 dX9_in_55 ?_
      refine r_iinc O 5 [(5, .int (l5 + (-1))), (0, .ref l0), (1, .int l1), (2, .int l2), (3, .int l3), (4, .int l4)] dX9_in_56 rfl rfl (by decide) rfl ?_
      refine r_goto (tgt := 16) O dX9_in_59 (by decide) ?_
      refine AW.sub [1, 2, 3, 4, 5, 0] rfl ?_
      exact ih _ _ hf
theorem kd_X9_in {h : AH} {a0 : Nat} {a1 : Int32} {a2 : Int32} {a3 : Int32} {r : AH} (hf : f_X9_in h a0 a1 a2 a3 = some r) : aK h a0 = 9 := by
  unfold f_X9_in at hf
  exact (ifk hf).1
set_option maxRecDepth 100000 in
set_option maxHeartbeats 4000000 in
theorem c_X9_in {l : Launch} {G : GT} {h : AH} {a0 : Nat} {a1 : Int32} {a2 : Int32} {a3 : Int32} {r : AH} (hf : f_X9_in h a0 a1 a2 a3 = some r) : Cn l yX9_in cX9_in 6 none 0 0 0 0 G h [.ref a0, .int a1, .int a2, .int a3] (.ok none) r := by
  refine Cn.of (by decide) (Nat.le_of_ble_eq_true rfl) ?_
  intro p e s m args below meth c O hr hx hin
  have O : OkC p l s m args meth c G cX9_in 6 RX9 := O
  unfold f_X9_in at hf
  obtain ⟨hk0, hf⟩ := ifk hf
  refine AW.sub (lv' := [(0, .ref a0), (1, .int a1), (2, .int a2), (3, .int a3)]) [0, 1, 2, 3] rfl ?_
  refine r_aload_n O 0 dX9_in_0 rfl (Or.inl rfl) ?_
  obtain ⟨x1, ex1, hf⟩ := bnd hf
  refine r_gP O cf9 12 (by decide) rfl fl_X9_39 ex1 dX9_in_1 ?_
  refine r_sipush O (v := 492) dX9_in_4 (by decide) ?_
  refine r_iload_n O 2 dX9_in_7 rfl ?_
  refine r_iadd O dX9_in_8 ?_
  obtain ⟨x2, ex2, hf⟩ := bnd hf
  refine r_ldI O ex2 dX9_in_9 ?_
  refine r_istore O [(4, .int x2), (0, .ref a0), (1, .int a1), (2, .int a2), (3, .int a3)] dX9_in_10 (by decide) rfl ?_
  refine r_iload O 0 dX9_in_12 rfl ?_
  refine r_istore O [(5, .int x2), (4, .int x2), (0, .ref a0), (1, .int a1), (2, .int a2), (3, .int a3)] dX9_in_14 (by decide) rfl ?_
  obtain ⟨h7, hw, hf⟩ := bnd hf
  refine AW.sub [2, 3, 4, 5, 1, 0] rfl ?_
  refine s_X9_in_16 O ?_ _ _ _ hw
  refine r_aload_n O 0 dX9_in_62 rfl (Or.inl rfl) ?_
  obtain ⟨x8, ex8, hf⟩ := bnd hf
  refine r_gP O cf9 12 (by decide) rfl fl_X9_39 ex8 dX9_in_63 ?_
  refine r_sipush O (v := 252) dX9_in_66 (by decide) ?_
  refine r_iload_n O 2 dX9_in_69 rfl ?_
  refine r_bipush O (v := 40) dX9_in_70 (by decide) ?_
  refine r_imul O dX9_in_72 ?_
  refine r_iadd O dX9_in_73 ?_
  refine r_iload_n O 3 dX9_in_74 rfl ?_
  refine r_iadd O dX9_in_75 ?_
  refine r_iload_n O 1 dX9_in_76 rfl ?_
  obtain ⟨h9, eh9, hf⟩ := bnd hf
  refine r_stI O eh9 dX9_in_77 ?_
  refine r_aload_n O 0 dX9_in_78 rfl (Or.inl rfl) ?_
  obtain ⟨x10, ex10, hf⟩ := bnd hf
  refine r_gP O cf9 12 (by decide) rfl fl_X9_39 ex10 dX9_in_79 ?_
  refine r_sipush O (v := 492) dX9_in_82 (by decide) ?_
  refine r_iload_n O 2 dX9_in_85 rfl ?_
  refine r_iadd O dX9_in_86 ?_
  refine r_iload O 4 dX9_in_87 rfl ?_
  refine r_iconst O (v := 1) dX9_in_89 (by decide) ?_
  refine r_iadd O dX9_in_90 ?_
  obtain ⟨h11, eh11, hf⟩ := bnd hf
  refine r_stI O eh11 dX9_in_91 ?_
  refine r_aload_n O 0 dX9_in_92 rfl (Or.inl rfl) ?_
  obtain ⟨x12, ex12, hf⟩ := bnd hf
  refine r_gP O cf9 12 (by decide) rfl fl_X9_39 ex12 dX9_in_93 ?_
  refine r_sipush O (v := 212) dX9_in_96 (by decide) ?_
  refine r_iload_n O 1 dX9_in_99 rfl ?_
  refine r_iadd O dX9_in_100 ?_
  refine r_iload_n O 2 dX9_in_101 rfl ?_
  obtain ⟨h13, eh13, hf⟩ := bnd hf
  refine r_stI O eh13 dX9_in_102 ?_
  obtain rfl := Option.some.inj hf
  exact r_vret O hr rfl rfl (by decide) (by decide) dX9_in_103
def f_X9_place (h : AH) (a0 : Nat) (a1 : Int32) (a2 : Int32) (a3 : Int32) : Option (Int32 × AH) :=
if aK h a0 = 9 then
Option.bind (pI h 9 a0 0 0) fun h1 =>
Option.bind (f_X9_isThing h1 a0 a1) fun x2 =>
if x2 = 0 then
Option.bind (f_X9_fail h1 a0 1) fun w => match w with
| (x4, h5) =>
some (x4, h5)
else
Option.bind (f_X9_isList h1 a0 a2) fun x6 =>
if x6 = 0 then
Option.bind (f_X9_fail h1 a0 1) fun w => match w with
| (x25, h26) =>
some (x25, h26)
else
Option.bind (gI h1 9 a0 1) fun x8 =>
if x8 = 0 then
if a3 < 0 then
Option.bind (f_X9_fail h1 a0 3) fun w => match w with
| (x9, h10) =>
some (x9, h10)
else
Option.bind (gP h1 9 a0 10) fun x11 =>
Option.bind (ldI h1 x11 (492 + a2)) fun x12 =>
if a3 ≤ x12 then
Option.bind (gP h1 9 a0 10) fun x13 =>
Option.bind (ldI h1 x13 (212 + a1)) fun x14 =>
if x14 = (-1) then
Option.bind (f_X9_begun h1 a0) fun h16 =>
Option.bind (f_X9_in h16 a0 a1 a2 a3) fun h18 =>
Option.bind (f_X9_done h18 a0) fun w => match w with
| (x19, h20) =>
some (x19, h20)
else
some ((-4), h1)
else
Option.bind (f_X9_fail h1 a0 3) fun w => match w with
| (x21, h22) =>
some (x21, h22)
else
Option.bind (f_X9_fail h1 a0 2) fun w => match w with
| (x23, h24) =>
some (x23, h24)
else none
theorem kd_X9_place {h : AH} {a0 : Nat} {a1 : Int32} {a2 : Int32} {a3 : Int32} {r : (Int32 × AH)} (hf : f_X9_place h a0 a1 a2 a3 = some r) : aK h a0 = 9 := by
  unfold f_X9_place at hf
  exact (ifk hf).1
set_option maxRecDepth 100000 in
set_option maxHeartbeats 4000000 in
theorem c_X9_place {l : Launch} {G : GT} {h : AH} {a0 : Nat} {a1 : Int32} {a2 : Int32} {a3 : Int32} {r : (Int32 × AH)} (hf : f_X9_place h a0 a1 a2 a3 = some r) : Cn l yX9_place cX9_place 4 (some .int) 7 183 0 0 G h [.ref a0, .int a1, .int a2, .int a3] (.ok (some (.int r.1))) r.2 := by
  refine Cn.of (by decide) (Nat.le_of_ble_eq_true rfl) ?_
  intro p e s m args below meth c O hr hx hin
  have O : OkC p l s m args meth c G cX9_place 4 RX9 := O
  unfold f_X9_place at hf
  obtain ⟨hk0, hf⟩ := ifk hf
  refine AW.sub (lv' := [(0, .ref a0), (1, .int a1), (2, .int a2), (3, .int a3)]) [0, 1, 2, 3] rfl ?_
  refine r_aload_n O 0 dX9_place_0 rfl (Or.inl rfl) ?_
  refine r_iconst O (v := 0) dX9_place_1 (by decide) ?_
  obtain ⟨h1, eh1, hf⟩ := bnd hf
  refine r_pI O cf9 0 (by decide) rfl fl_X9_1 rfl eh1 dX9_place_2 ?_
  refine r_aload_n O 0 dX9_place_5 rfl (Or.inl rfl) ?_
  refine r_iload_n O 1 dX9_place_6 rfl ?_
  obtain ⟨x2, ex2, hf⟩ := bnd hf
  refine r_callV (av := [.int a1]) (st := []) O (c_X9_isThing ex2) mf_X9_isThing cf9 (kd_X9_isThing ex2) ml_X9_253 mi_X9_isThing mv_X9_isThing (by decide) (Nat.le_of_ble_eq_true rfl) (by decide) dX9_place_7 ?_
  by_cases hc : x2 = 0
  · rw [if_pos hc] at hf
    refine r_if_eq_t (tgt := 21) O dX9_place_10 (by decide) hc ?_
    refine r_aload_n O 0 dX9_place_21 rfl (Or.inl rfl) ?_
    refine r_iconst O (v := 1) dX9_place_22 (by decide) ?_
    obtain ⟨⟨x4, h5⟩, ex4, hf⟩ := bnd hf
    dsimp only at hf
    refine r_callV (av := [.int 1]) (st := []) O (c_X9_fail ex4) mf_X9_fail cf9 (kd_X9_fail ex4) ml_X9_106 mi_X9_fail mv_X9_fail (by decide) (Nat.le_of_ble_eq_true rfl) (by decide) dX9_place_23 ?_
    obtain rfl := Option.some.inj hf
    exact r_iret O hr rfl rfl (by decide) (by decide) dX9_place_26
  · rw [if_neg hc] at hf
    refine r_if_eq_f (tgt := 21) O dX9_place_10 (by decide) hc ?_
    refine r_aload_n O 0 dX9_place_13 rfl (Or.inl rfl) ?_
    refine r_iload_n O 2 dX9_place_14 rfl ?_
    obtain ⟨x6, ex6, hf⟩ := bnd hf
    refine r_callV (av := [.int a2]) (st := []) O (c_X9_isList ex6) mf_X9_isList cf9 (kd_X9_isList ex6) ml_X9_257 mi_X9_isList mv_X9_isList (by decide) (Nat.le_of_ble_eq_true rfl) (by decide) dX9_place_15 ?_
    by_cases hc : x6 = 0
    · rw [if_pos hc] at hf
      refine r_if_ne_f (tgt := 27) O dX9_place_18 (by decide) hc ?_
      refine r_aload_n O 0 dX9_place_21 rfl (Or.inl rfl) ?_
      refine r_iconst O (v := 1) dX9_place_22 (by decide) ?_
      obtain ⟨⟨x25, h26⟩, ex25, hf⟩ := bnd hf
      dsimp only at hf
      refine r_callV (av := [.int 1]) (st := []) O (c_X9_fail ex25) mf_X9_fail cf9 (kd_X9_fail ex25) ml_X9_106 mi_X9_fail mv_X9_fail (by decide) (Nat.le_of_ble_eq_true rfl) (by decide) dX9_place_23 ?_
      obtain rfl := Option.some.inj hf
      exact r_iret O hr rfl rfl (by decide) (by decide) dX9_place_26
    · rw [if_neg hc] at hf
      refine r_if_ne_t (tgt := 27) O dX9_place_18 (by decide) hc ?_
      refine r_aload_n O 0 dX9_place_27 rfl (Or.inl rfl) ?_
      obtain ⟨x8, ex8, hf⟩ := bnd hf
      refine r_gI O cf9 1 (by decide) rfl fl_X9_13 ex8 dX9_place_28 ?_
      by_cases hc : x8 = 0
      · rw [if_pos hc] at hf
        refine r_if_eq_t (tgt := 40) O dX9_place_31 (by decide) hc ?_
        refine r_iload_n O 3 dX9_place_40 rfl ?_
        by_cases hc : a3 < 0
        · rw [if_pos hc] at hf
          refine r_if_lt_t (tgt := 58) O dX9_place_41 (by decide) hc ?_
          refine r_aload_n O 0 dX9_place_58 rfl (Or.inl rfl) ?_
          refine r_iconst O (v := 3) dX9_place_59 (by decide) ?_
          obtain ⟨⟨x9, h10⟩, ex9, hf⟩ := bnd hf
          dsimp only at hf
          refine r_callV (av := [.int 3]) (st := []) O (c_X9_fail ex9) mf_X9_fail cf9 (kd_X9_fail ex9) ml_X9_106 mi_X9_fail mv_X9_fail (by decide) (Nat.le_of_ble_eq_true rfl) (by decide) dX9_place_60 ?_
          obtain rfl := Option.some.inj hf
          exact r_iret O hr rfl rfl (by decide) (by decide) dX9_place_63
        · rw [if_neg hc] at hf
          refine r_if_lt_f (tgt := 58) O dX9_place_41 (by decide) hc ?_
          refine r_iload_n O 3 dX9_place_44 rfl ?_
          refine r_aload_n O 0 dX9_place_45 rfl (Or.inl rfl) ?_
          obtain ⟨x11, ex11, hf⟩ := bnd hf
          refine r_gP O cf9 10 (by decide) rfl fl_X9_33 ex11 dX9_place_46 ?_
          refine r_sipush O (v := 492) dX9_place_49 (by decide) ?_
          refine r_iload_n O 2 dX9_place_52 rfl ?_
          refine r_iadd O dX9_place_53 ?_
          obtain ⟨x12, ex12, hf⟩ := bnd hf
          refine r_ldI O ex12 dX9_place_54 ?_
          by_cases hc : a3 ≤ x12
          · rw [if_pos hc] at hf
            refine r_icmp_le_t (tgt := 64) O dX9_place_55 (by decide) hc ?_
            refine r_aload_n O 0 dX9_place_64 rfl (Or.inl rfl) ?_
            obtain ⟨x13, ex13, hf⟩ := bnd hf
            refine r_gP O cf9 10 (by decide) rfl fl_X9_33 ex13 dX9_place_65 ?_
            refine r_sipush O (v := 212) dX9_place_68 (by decide) ?_
            refine r_iload_n O 1 dX9_place_71 rfl ?_
            refine r_iadd O dX9_place_72 ?_
            obtain ⟨x14, ex14, hf⟩ := bnd hf
            refine r_ldI O ex14 dX9_place_73 ?_
            refine r_iconst O (v := -1) dX9_place_74 (by decide) ?_
            by_cases hc : x14 = (-1)
            · rw [if_pos hc] at hf
              refine r_icmp_eq_t (tgt := 81) O dX9_place_75 (by decide) hc ?_
              refine r_aload_n O 0 dX9_place_81 rfl (Or.inl rfl) ?_
              obtain ⟨h16, eh16, hf⟩ := bnd hf
              refine r_callV (av := []) (st := []) O (c_X9_begun eh16) mf_X9_begun cf9 (kd_X9_begun eh16) ml_X9_260 mi_X9_begun mv_X9_begun (by decide) (Nat.le_of_ble_eq_true rfl) (by decide) dX9_place_82 ?_
              refine r_aload_n O 0 dX9_place_85 rfl (Or.inl rfl) ?_
              refine r_iload_n O 1 dX9_place_86 rfl ?_
              refine r_iload_n O 2 dX9_place_87 rfl ?_
              refine r_iload_n O 3 dX9_place_88 rfl ?_
              obtain ⟨h18, eh18, hf⟩ := bnd hf
              refine r_callV (av := [.int a1, .int a2, .int a3]) (st := []) O (c_X9_in eh18) mf_X9_in cf9 (kd_X9_in eh18) ml_X9_263 mi_X9_in mv_X9_in (by decide) (Nat.le_of_ble_eq_true rfl) (by decide) dX9_place_89 ?_
              refine r_aload_n O 0 dX9_place_92 rfl (Or.inl rfl) ?_
              obtain ⟨⟨x19, h20⟩, ex19, hf⟩ := bnd hf
              dsimp only at hf
              refine r_callV (av := []) (st := []) O (c_X9_done ex19) mf_X9_done cf9 (kd_X9_done ex19) ml_X9_267 mi_X9_done mv_X9_done (by decide) (Nat.le_of_ble_eq_true rfl) (by decide) dX9_place_93 ?_
              obtain rfl := Option.some.inj hf
              exact r_iret O hr rfl rfl (by decide) (by decide) dX9_place_96
            · rw [if_neg hc] at hf
              refine r_icmp_eq_f (tgt := 81) O dX9_place_75 (by decide) hc ?_
              refine r_bipush O (v := -4) dX9_place_78 (by decide) ?_
              obtain rfl := Option.some.inj hf
              exact r_iret O hr rfl rfl (by decide) (by decide) dX9_place_80
          · rw [if_neg hc] at hf
            refine r_icmp_le_f (tgt := 64) O dX9_place_55 (by decide) hc ?_
            refine r_aload_n O 0 dX9_place_58 rfl (Or.inl rfl) ?_
            refine r_iconst O (v := 3) dX9_place_59 (by decide) ?_
            obtain ⟨⟨x21, h22⟩, ex21, hf⟩ := bnd hf
            dsimp only at hf
            refine r_callV (av := [.int 3]) (st := []) O (c_X9_fail ex21) mf_X9_fail cf9 (kd_X9_fail ex21) ml_X9_106 mi_X9_fail mv_X9_fail (by decide) (Nat.le_of_ble_eq_true rfl) (by decide) dX9_place_60 ?_
            obtain rfl := Option.some.inj hf
            exact r_iret O hr rfl rfl (by decide) (by decide) dX9_place_63
      · rw [if_neg hc] at hf
        refine r_if_eq_f (tgt := 40) O dX9_place_31 (by decide) hc ?_
        refine r_aload_n O 0 dX9_place_34 rfl (Or.inl rfl) ?_
        refine r_iconst O (v := 2) dX9_place_35 (by decide) ?_
        obtain ⟨⟨x23, h24⟩, ex23, hf⟩ := bnd hf
        dsimp only at hf
        refine r_callV (av := [.int 2]) (st := []) O (c_X9_fail ex23) mf_X9_fail cf9 (kd_X9_fail ex23) ml_X9_106 mi_X9_fail mv_X9_fail (by decide) (Nat.le_of_ble_eq_true rfl) (by decide) dX9_place_36 ?_
        obtain rfl := Option.some.inj hf
        exact r_iret O hr rfl rfl (by decide) (by decide) dX9_place_39
def f_X9_take (h : AH) (a0 : Nat) (a1 : Int32) : Option (Int32 × AH) :=
if aK h a0 = 9 then
Option.bind (pI h 9 a0 0 0) fun h1 =>
Option.bind (f_X9_isThing h1 a0 a1) fun x2 =>
if x2 = 0 then
Option.bind (f_X9_fail h1 a0 1) fun w => match w with
| (x15, h16) =>
some (x15, h16)
else
Option.bind (gI h1 9 a0 1) fun x4 =>
if x4 = 0 then
Option.bind (gP h1 9 a0 10) fun x5 =>
Option.bind (ldI h1 x5 (212 + a1)) fun x6 =>
if x6 = (-1) then
some ((-4), h1)
else
Option.bind (f_X9_begun h1 a0) fun h8 =>
Option.bind (f_X9_out h8 a0 a1) fun h10 =>
Option.bind (f_X9_done h10 a0) fun w => match w with
| (x11, h12) =>
some (x11, h12)
else
Option.bind (f_X9_fail h1 a0 2) fun w => match w with
| (x13, h14) =>
some (x13, h14)
else none
theorem kd_X9_take {h : AH} {a0 : Nat} {a1 : Int32} {r : (Int32 × AH)} (hf : f_X9_take h a0 a1 = some r) : aK h a0 = 9 := by
  unfold f_X9_take at hf
  exact (ifk hf).1
set_option maxRecDepth 100000 in
set_option maxHeartbeats 4000000 in
theorem c_X9_take {l : Launch} {G : GT} {h : AH} {a0 : Nat} {a1 : Int32} {r : (Int32 × AH)} (hf : f_X9_take h a0 a1 = some r) : Cn l yX9_take cX9_take 2 (some .int) 7 183 0 0 G h [.ref a0, .int a1] (.ok (some (.int r.1))) r.2 := by
  refine Cn.of (by decide) (Nat.le_of_ble_eq_true rfl) ?_
  intro p e s m args below meth c O hr hx hin
  have O : OkC p l s m args meth c G cX9_take 2 RX9 := O
  unfold f_X9_take at hf
  obtain ⟨hk0, hf⟩ := ifk hf
  refine AW.sub (lv' := [(0, .ref a0), (1, .int a1)]) [0, 1] rfl ?_
  refine r_aload_n O 0 dX9_take_0 rfl (Or.inl rfl) ?_
  refine r_iconst O (v := 0) dX9_take_1 (by decide) ?_
  obtain ⟨h1, eh1, hf⟩ := bnd hf
  refine r_pI O cf9 0 (by decide) rfl fl_X9_1 rfl eh1 dX9_take_2 ?_
  refine r_aload_n O 0 dX9_take_5 rfl (Or.inl rfl) ?_
  refine r_iload_n O 1 dX9_take_6 rfl ?_
  obtain ⟨x2, ex2, hf⟩ := bnd hf
  refine r_callV (av := [.int a1]) (st := []) O (c_X9_isThing ex2) mf_X9_isThing cf9 (kd_X9_isThing ex2) ml_X9_253 mi_X9_isThing mv_X9_isThing (by decide) (Nat.le_of_ble_eq_true rfl) (by decide) dX9_take_7 ?_
  by_cases hc : x2 = 0
  · rw [if_pos hc] at hf
    refine r_if_ne_f (tgt := 19) O dX9_take_10 (by decide) hc ?_
    refine r_aload_n O 0 dX9_take_13 rfl (Or.inl rfl) ?_
    refine r_iconst O (v := 1) dX9_take_14 (by decide) ?_
    obtain ⟨⟨x15, h16⟩, ex15, hf⟩ := bnd hf
    dsimp only at hf
    refine r_callV (av := [.int 1]) (st := []) O (c_X9_fail ex15) mf_X9_fail cf9 (kd_X9_fail ex15) ml_X9_106 mi_X9_fail mv_X9_fail (by decide) (Nat.le_of_ble_eq_true rfl) (by decide) dX9_take_15 ?_
    obtain rfl := Option.some.inj hf
    exact r_iret O hr rfl rfl (by decide) (by decide) dX9_take_18
  · rw [if_neg hc] at hf
    refine r_if_ne_t (tgt := 19) O dX9_take_10 (by decide) hc ?_
    refine r_aload_n O 0 dX9_take_19 rfl (Or.inl rfl) ?_
    obtain ⟨x4, ex4, hf⟩ := bnd hf
    refine r_gI O cf9 1 (by decide) rfl fl_X9_13 ex4 dX9_take_20 ?_
    by_cases hc : x4 = 0
    · rw [if_pos hc] at hf
      refine r_if_eq_t (tgt := 32) O dX9_take_23 (by decide) hc ?_
      refine r_aload_n O 0 dX9_take_32 rfl (Or.inl rfl) ?_
      obtain ⟨x5, ex5, hf⟩ := bnd hf
      refine r_gP O cf9 10 (by decide) rfl fl_X9_33 ex5 dX9_take_33 ?_
      refine r_sipush O (v := 212) dX9_take_36 (by decide) ?_
      refine r_iload_n O 1 dX9_take_39 rfl ?_
      refine r_iadd O dX9_take_40 ?_
      obtain ⟨x6, ex6, hf⟩ := bnd hf
      refine r_ldI O ex6 dX9_take_41 ?_
      refine r_iconst O (v := -1) dX9_take_42 (by decide) ?_
      by_cases hc : x6 = (-1)
      · rw [if_pos hc] at hf
        refine r_icmp_ne_f (tgt := 49) O dX9_take_43 (by decide) hc ?_
        refine r_bipush O (v := -4) dX9_take_46 (by decide) ?_
        obtain rfl := Option.some.inj hf
        exact r_iret O hr rfl rfl (by decide) (by decide) dX9_take_48
      · rw [if_neg hc] at hf
        refine r_icmp_ne_t (tgt := 49) O dX9_take_43 (by decide) hc ?_
        refine r_aload_n O 0 dX9_take_49 rfl (Or.inl rfl) ?_
        obtain ⟨h8, eh8, hf⟩ := bnd hf
        refine r_callV (av := []) (st := []) O (c_X9_begun eh8) mf_X9_begun cf9 (kd_X9_begun eh8) ml_X9_260 mi_X9_begun mv_X9_begun (by decide) (Nat.le_of_ble_eq_true rfl) (by decide) dX9_take_50 ?_
        refine r_aload_n O 0 dX9_take_53 rfl (Or.inl rfl) ?_
        refine r_iload_n O 1 dX9_take_54 rfl ?_
        obtain ⟨h10, eh10, hf⟩ := bnd hf
        refine r_callV (av := [.int a1]) (st := []) O (c_X9_out eh10) mf_X9_out cf9 (kd_X9_out eh10) ml_X9_271 mi_X9_out mv_X9_out (by decide) (Nat.le_of_ble_eq_true rfl) (by decide) dX9_take_55 ?_
        refine r_aload_n O 0 dX9_take_58 rfl (Or.inl rfl) ?_
        obtain ⟨⟨x11, h12⟩, ex11, hf⟩ := bnd hf
        dsimp only at hf
        refine r_callV (av := []) (st := []) O (c_X9_done ex11) mf_X9_done cf9 (kd_X9_done ex11) ml_X9_267 mi_X9_done mv_X9_done (by decide) (Nat.le_of_ble_eq_true rfl) (by decide) dX9_take_59 ?_
        obtain rfl := Option.some.inj hf
        exact r_iret O hr rfl rfl (by decide) (by decide) dX9_take_62
    · rw [if_neg hc] at hf
      refine r_if_eq_f (tgt := 32) O dX9_take_23 (by decide) hc ?_
      refine r_aload_n O 0 dX9_take_26 rfl (Or.inl rfl) ?_
      refine r_iconst O (v := 2) dX9_take_27 (by decide) ?_
      obtain ⟨⟨x13, h14⟩, ex13, hf⟩ := bnd hf
      dsimp only at hf
      refine r_callV (av := [.int 2]) (st := []) O (c_X9_fail ex13) mf_X9_fail cf9 (kd_X9_fail ex13) ml_X9_106 mi_X9_fail mv_X9_fail (by decide) (Nat.le_of_ble_eq_true rfl) (by decide) dX9_take_28 ?_
      obtain rfl := Option.some.inj hf
      exact r_iret O hr rfl rfl (by decide) (by decide) dX9_take_31
def f_X9_move (h : AH) (a0 : Nat) (a1 : Int32) (a2 : Int32) (a3 : Int32) : Option (Int32 × AH) :=
if aK h a0 = 9 then
Option.bind (pI h 9 a0 0 0) fun h1 =>
Option.bind (f_X9_isThing h1 a0 a1) fun x2 =>
if x2 = 0 then
Option.bind (f_X9_fail h1 a0 1) fun w => match w with
| (x4, h5) =>
some (x4, h5)
else
Option.bind (f_X9_isList h1 a0 a2) fun x6 =>
if x6 = 0 then
Option.bind (f_X9_fail h1 a0 1) fun w => match w with
| (x30, h31) =>
some (x30, h31)
else
Option.bind (gI h1 9 a0 1) fun x8 =>
if x8 = 0 then
if a3 < 0 then
Option.bind (f_X9_fail h1 a0 3) fun w => match w with
| (x9, h10) =>
some (x9, h10)
else
Option.bind (gP h1 9 a0 10) fun x11 =>
Option.bind (ldI h1 x11 (492 + a2)) fun x12 =>
Option.bind (gP h1 9 a0 10) fun x13 =>
Option.bind (ldI h1 x13 (212 + a1)) fun x14 =>
Option.bind (if x14 = a2 then
some (1 : Int32)
else
some (0 : Int32)) fun x15 =>
if a3 ≤ (x12 - x15) then
Option.bind (gP h1 9 a0 10) fun x16 =>
Option.bind (ldI h1 x16 (212 + a1)) fun x17 =>
if x17 = (-1) then
some ((-4), h1)
else
Option.bind (f_X9_begun h1 a0) fun h19 =>
Option.bind (f_X9_out h19 a0 a1) fun h21 =>
Option.bind (f_X9_in h21 a0 a1 a2 a3) fun h23 =>
Option.bind (f_X9_done h23 a0) fun w => match w with
| (x24, h25) =>
some (x24, h25)
else
Option.bind (f_X9_fail h1 a0 3) fun w => match w with
| (x26, h27) =>
some (x26, h27)
else
Option.bind (f_X9_fail h1 a0 2) fun w => match w with
| (x28, h29) =>
some (x28, h29)
else none
theorem kd_X9_move {h : AH} {a0 : Nat} {a1 : Int32} {a2 : Int32} {a3 : Int32} {r : (Int32 × AH)} (hf : f_X9_move h a0 a1 a2 a3 = some r) : aK h a0 = 9 := by
  unfold f_X9_move at hf
  exact (ifk hf).1
set_option maxRecDepth 100000 in
set_option maxHeartbeats 4000000 in
theorem c_X9_move {l : Launch} {G : GT} {h : AH} {a0 : Nat} {a1 : Int32} {a2 : Int32} {a3 : Int32} {r : (Int32 × AH)} (hf : f_X9_move h a0 a1 a2 a3 = some r) : Cn l yX9_move cX9_move 4 (some .int) 7 183 0 0 G h [.ref a0, .int a1, .int a2, .int a3] (.ok (some (.int r.1))) r.2 := by
  refine Cn.of (by decide) (Nat.le_of_ble_eq_true rfl) ?_
  intro p e s m args below meth c O hr hx hin
  have O : OkC p l s m args meth c G cX9_move 4 RX9 := O
  unfold f_X9_move at hf
  obtain ⟨hk0, hf⟩ := ifk hf
  refine AW.sub (lv' := [(0, .ref a0), (1, .int a1), (2, .int a2), (3, .int a3)]) [0, 1, 2, 3] rfl ?_
  refine r_aload_n O 0 dX9_move_0 rfl (Or.inl rfl) ?_
  refine r_iconst O (v := 0) dX9_move_1 (by decide) ?_
  obtain ⟨h1, eh1, hf⟩ := bnd hf
  refine r_pI O cf9 0 (by decide) rfl fl_X9_1 rfl eh1 dX9_move_2 ?_
  refine r_aload_n O 0 dX9_move_5 rfl (Or.inl rfl) ?_
  refine r_iload_n O 1 dX9_move_6 rfl ?_
  obtain ⟨x2, ex2, hf⟩ := bnd hf
  refine r_callV (av := [.int a1]) (st := []) O (c_X9_isThing ex2) mf_X9_isThing cf9 (kd_X9_isThing ex2) ml_X9_253 mi_X9_isThing mv_X9_isThing (by decide) (Nat.le_of_ble_eq_true rfl) (by decide) dX9_move_7 ?_
  by_cases hc : x2 = 0
  · rw [if_pos hc] at hf
    refine r_if_eq_t (tgt := 21) O dX9_move_10 (by decide) hc ?_
    refine r_aload_n O 0 dX9_move_21 rfl (Or.inl rfl) ?_
    refine r_iconst O (v := 1) dX9_move_22 (by decide) ?_
    obtain ⟨⟨x4, h5⟩, ex4, hf⟩ := bnd hf
    dsimp only at hf
    refine r_callV (av := [.int 1]) (st := []) O (c_X9_fail ex4) mf_X9_fail cf9 (kd_X9_fail ex4) ml_X9_106 mi_X9_fail mv_X9_fail (by decide) (Nat.le_of_ble_eq_true rfl) (by decide) dX9_move_23 ?_
    obtain rfl := Option.some.inj hf
    exact r_iret O hr rfl rfl (by decide) (by decide) dX9_move_26
  · rw [if_neg hc] at hf
    refine r_if_eq_f (tgt := 21) O dX9_move_10 (by decide) hc ?_
    refine r_aload_n O 0 dX9_move_13 rfl (Or.inl rfl) ?_
    refine r_iload_n O 2 dX9_move_14 rfl ?_
    obtain ⟨x6, ex6, hf⟩ := bnd hf
    refine r_callV (av := [.int a2]) (st := []) O (c_X9_isList ex6) mf_X9_isList cf9 (kd_X9_isList ex6) ml_X9_257 mi_X9_isList mv_X9_isList (by decide) (Nat.le_of_ble_eq_true rfl) (by decide) dX9_move_15 ?_
    by_cases hc : x6 = 0
    · rw [if_pos hc] at hf
      refine r_if_ne_f (tgt := 27) O dX9_move_18 (by decide) hc ?_
      refine r_aload_n O 0 dX9_move_21 rfl (Or.inl rfl) ?_
      refine r_iconst O (v := 1) dX9_move_22 (by decide) ?_
      obtain ⟨⟨x30, h31⟩, ex30, hf⟩ := bnd hf
      dsimp only at hf
      refine r_callV (av := [.int 1]) (st := []) O (c_X9_fail ex30) mf_X9_fail cf9 (kd_X9_fail ex30) ml_X9_106 mi_X9_fail mv_X9_fail (by decide) (Nat.le_of_ble_eq_true rfl) (by decide) dX9_move_23 ?_
      obtain rfl := Option.some.inj hf
      exact r_iret O hr rfl rfl (by decide) (by decide) dX9_move_26
    · rw [if_neg hc] at hf
      refine r_if_ne_t (tgt := 27) O dX9_move_18 (by decide) hc ?_
      refine r_aload_n O 0 dX9_move_27 rfl (Or.inl rfl) ?_
      obtain ⟨x8, ex8, hf⟩ := bnd hf
      refine r_gI O cf9 1 (by decide) rfl fl_X9_13 ex8 dX9_move_28 ?_
      by_cases hc : x8 = 0
      · rw [if_pos hc] at hf
        refine r_if_eq_t (tgt := 40) O dX9_move_31 (by decide) hc ?_
        refine r_iload_n O 3 dX9_move_40 rfl ?_
        by_cases hc : a3 < 0
        · rw [if_pos hc] at hf
          refine r_if_lt_t (tgt := 78) O dX9_move_41 (by decide) hc ?_
          refine r_aload_n O 0 dX9_move_78 rfl (Or.inl rfl) ?_
          refine r_iconst O (v := 3) dX9_move_79 (by decide) ?_
          obtain ⟨⟨x9, h10⟩, ex9, hf⟩ := bnd hf
          dsimp only at hf
          refine r_callV (av := [.int 3]) (st := []) O (c_X9_fail ex9) mf_X9_fail cf9 (kd_X9_fail ex9) ml_X9_106 mi_X9_fail mv_X9_fail (by decide) (Nat.le_of_ble_eq_true rfl) (by decide) dX9_move_80 ?_
          obtain rfl := Option.some.inj hf
          exact r_iret O hr rfl rfl (by decide) (by decide) dX9_move_83
        · rw [if_neg hc] at hf
          refine r_if_lt_f (tgt := 78) O dX9_move_41 (by decide) hc ?_
          refine r_iload_n O 3 dX9_move_44 rfl ?_
          refine r_aload_n O 0 dX9_move_45 rfl (Or.inl rfl) ?_
          obtain ⟨x11, ex11, hf⟩ := bnd hf
          refine r_gP O cf9 10 (by decide) rfl fl_X9_33 ex11 dX9_move_46 ?_
          refine r_sipush O (v := 492) dX9_move_49 (by decide) ?_
          refine r_iload_n O 2 dX9_move_52 rfl ?_
          refine r_iadd O dX9_move_53 ?_
          obtain ⟨x12, ex12, hf⟩ := bnd hf
          refine r_ldI O ex12 dX9_move_54 ?_
          refine r_aload_n O 0 dX9_move_55 rfl (Or.inl rfl) ?_
          obtain ⟨x13, ex13, hf⟩ := bnd hf
          refine r_gP O cf9 10 (by decide) rfl fl_X9_33 ex13 dX9_move_56 ?_
          refine r_sipush O (v := 212) dX9_move_59 (by decide) ?_
          refine r_iload_n O 1 dX9_move_62 rfl ?_
          refine r_iadd O dX9_move_63 ?_
          obtain ⟨x14, ex14, hf⟩ := bnd hf
          refine r_ldI O ex14 dX9_move_64 ?_
          refine r_iload_n O 2 dX9_move_65 rfl ?_
          obtain ⟨x15, hg, hf⟩ := bnd hf
          have hJ : AW p l e { frames := 7, cells := 0, slots := 0, locals := 183 } s m args below meth c G 4 (vx_MQ below (QcN G (.ok (some (.int r.1))) r.2) (XcN G (.ok (some (.int r.1))) r.2) args s 0 0 (gA G)) h1 0 0 74 [(0, .ref a0), (1, .int a1), (2, .int a2), (3, .int a3)] [.int x15, .int x12, .int a3] := by
            refine r_isub O dX9_move_74 ?_
            by_cases hc : a3 ≤ (x12 - x15)
            · rw [if_pos hc] at hf
              refine r_icmp_le_t (tgt := 84) O dX9_move_75 (by decide) hc ?_
              refine r_aload_n O 0 dX9_move_84 rfl (Or.inl rfl) ?_
              obtain ⟨x16, ex16, hf⟩ := bnd hf
              refine r_gP O cf9 10 (by decide) rfl fl_X9_33 ex16 dX9_move_85 ?_
              refine r_sipush O (v := 212) dX9_move_88 (by decide) ?_
              refine r_iload_n O 1 dX9_move_91 rfl ?_
              refine r_iadd O dX9_move_92 ?_
              obtain ⟨x17, ex17, hf⟩ := bnd hf
              refine r_ldI O ex17 dX9_move_93 ?_
              refine r_iconst O (v := -1) dX9_move_94 (by decide) ?_
              by_cases hc : x17 = (-1)
              · rw [if_pos hc] at hf
                refine r_icmp_ne_f (tgt := 101) O dX9_move_95 (by decide) hc ?_
                refine r_bipush O (v := -4) dX9_move_98 (by decide) ?_
                obtain rfl := Option.some.inj hf
                exact r_iret O hr rfl rfl (by decide) (by decide) dX9_move_100
              · rw [if_neg hc] at hf
                refine r_icmp_ne_t (tgt := 101) O dX9_move_95 (by decide) hc ?_
                refine r_aload_n O 0 dX9_move_101 rfl (Or.inl rfl) ?_
                obtain ⟨h19, eh19, hf⟩ := bnd hf
                refine r_callV (av := []) (st := []) O (c_X9_begun eh19) mf_X9_begun cf9 (kd_X9_begun eh19) ml_X9_260 mi_X9_begun mv_X9_begun (by decide) (Nat.le_of_ble_eq_true rfl) (by decide) dX9_move_102 ?_
                refine r_aload_n O 0 dX9_move_105 rfl (Or.inl rfl) ?_
                refine r_iload_n O 1 dX9_move_106 rfl ?_
                obtain ⟨h21, eh21, hf⟩ := bnd hf
                refine r_callV (av := [.int a1]) (st := []) O (c_X9_out eh21) mf_X9_out cf9 (kd_X9_out eh21) ml_X9_271 mi_X9_out mv_X9_out (by decide) (Nat.le_of_ble_eq_true rfl) (by decide) dX9_move_107 ?_
                refine r_aload_n O 0 dX9_move_110 rfl (Or.inl rfl) ?_
                refine r_iload_n O 1 dX9_move_111 rfl ?_
                refine r_iload_n O 2 dX9_move_112 rfl ?_
                refine r_iload_n O 3 dX9_move_113 rfl ?_
                obtain ⟨h23, eh23, hf⟩ := bnd hf
                refine r_callV (av := [.int a1, .int a2, .int a3]) (st := []) O (c_X9_in eh23) mf_X9_in cf9 (kd_X9_in eh23) ml_X9_263 mi_X9_in mv_X9_in (by decide) (Nat.le_of_ble_eq_true rfl) (by decide) dX9_move_114 ?_
                refine r_aload_n O 0 dX9_move_117 rfl (Or.inl rfl) ?_
                obtain ⟨⟨x24, h25⟩, ex24, hf⟩ := bnd hf
                dsimp only at hf
                refine r_callV (av := []) (st := []) O (c_X9_done ex24) mf_X9_done cf9 (kd_X9_done ex24) ml_X9_267 mi_X9_done mv_X9_done (by decide) (Nat.le_of_ble_eq_true rfl) (by decide) dX9_move_118 ?_
                obtain rfl := Option.some.inj hf
                exact r_iret O hr rfl rfl (by decide) (by decide) dX9_move_121
            · rw [if_neg hc] at hf
              refine r_icmp_le_f (tgt := 84) O dX9_move_75 (by decide) hc ?_
              refine r_aload_n O 0 dX9_move_78 rfl (Or.inl rfl) ?_
              refine r_iconst O (v := 3) dX9_move_79 (by decide) ?_
              obtain ⟨⟨x26, h27⟩, ex26, hf⟩ := bnd hf
              dsimp only at hf
              refine r_callV (av := [.int 3]) (st := []) O (c_X9_fail ex26) mf_X9_fail cf9 (kd_X9_fail ex26) ml_X9_106 mi_X9_fail mv_X9_fail (by decide) (Nat.le_of_ble_eq_true rfl) (by decide) dX9_move_80 ?_
              obtain rfl := Option.some.inj hf
              exact r_iret O hr rfl rfl (by decide) (by decide) dX9_move_83
          clear hf
          have hf := hg
          clear hg
          by_cases hc : x14 = a2
          · rw [if_pos hc] at hf
            refine r_icmp_ne_f (tgt := 73) O dX9_move_66 (by decide) hc ?_
            refine r_iconst O (v := 1) dX9_move_69 (by decide) ?_
            refine r_goto (tgt := 74) O dX9_move_70 (by decide) ?_
            obtain rfl := oi1 hf
            refine AW.sub [0, 1, 2, 3] rfl ?_
            exact hJ
          · rw [if_neg hc] at hf
            refine r_icmp_ne_t (tgt := 73) O dX9_move_66 (by decide) hc ?_
            refine r_iconst O (v := 0) dX9_move_73 (by decide) ?_
            obtain rfl := oi1 hf
            refine AW.sub [0, 1, 2, 3] rfl ?_
            exact hJ
      · rw [if_neg hc] at hf
        refine r_if_eq_f (tgt := 40) O dX9_move_31 (by decide) hc ?_
        refine r_aload_n O 0 dX9_move_34 rfl (Or.inl rfl) ?_
        refine r_iconst O (v := 2) dX9_move_35 (by decide) ?_
        obtain ⟨⟨x28, h29⟩, ex28, hf⟩ := bnd hf
        dsimp only at hf
        refine r_callV (av := [.int 2]) (st := []) O (c_X9_fail ex28) mf_X9_fail cf9 (kd_X9_fail ex28) ml_X9_106 mi_X9_fail mv_X9_fail (by decide) (Nat.le_of_ble_eq_true rfl) (by decide) dX9_move_36 ?_
        obtain rfl := Option.some.inj hf
        exact r_iret O hr rfl rfl (by decide) (by decide) dX9_move_39
def f_X9_swap (h : AH) (a0 : Nat) (a1 : Int32) (a2 : Int32) : Option (Int32 × AH) :=
if aK h a0 = 9 then
Option.bind (pI h 9 a0 0 0) fun h1 =>
Option.bind (f_X9_isThing h1 a0 a1) fun x2 =>
if x2 = 0 then
Option.bind (f_X9_fail h1 a0 1) fun w => match w with
| (x4, h5) =>
some (x4, h5)
else
Option.bind (f_X9_isThing h1 a0 a2) fun x6 =>
if x6 = 0 then
Option.bind (f_X9_fail h1 a0 1) fun w => match w with
| (x35, h36) =>
some (x35, h36)
else
Option.bind (gI h1 9 a0 1) fun x8 =>
if x8 = 0 then
if a1 = a2 then
Option.bind (f_X9_fail h1 a0 3) fun w => match w with
| (x31, h32) =>
some (x31, h32)
else
Option.bind (gP h1 9 a0 10) fun x9 =>
Option.bind (ldI h1 x9 (212 + a1)) fun x10 =>
Option.bind (gP h1 9 a0 10) fun x11 =>
Option.bind (ldI h1 x11 (212 + a2)) fun x12 =>
if x10 = (-1) then
some ((-4), h1)
else
if x12 = (-1) then
some ((-4), h1)
else
Option.bind (f_X9_begun h1 a0) fun h14 =>
Option.bind (gP h14 9 a0 12) fun x15 =>
Option.bind (gP h14 9 a0 10) fun x16 =>
Option.bind (f_X9_placeOf h14 x16 a1) fun x17 =>
Option.bind (stI h14 x15 ((252 + (x10 * 40)) + x17) a2) fun h19 =>
Option.bind (gP h19 9 a0 12) fun x20 =>
Option.bind (gP h19 9 a0 10) fun x21 =>
Option.bind (f_X9_placeOf h19 x21 a2) fun x22 =>
Option.bind (stI h19 x20 ((252 + (x12 * 40)) + x22) a1) fun h24 =>
Option.bind (gP h24 9 a0 12) fun x25 =>
Option.bind (stI h24 x25 (212 + a1) x12) fun h26 =>
Option.bind (gP h26 9 a0 12) fun x27 =>
Option.bind (stI h26 x27 (212 + a2) x10) fun h28 =>
Option.bind (f_X9_done h28 a0) fun w => match w with
| (x29, h30) =>
some (x29, h30)
else
Option.bind (f_X9_fail h1 a0 2) fun w => match w with
| (x33, h34) =>
some (x33, h34)
else none
theorem kd_X9_swap {h : AH} {a0 : Nat} {a1 : Int32} {a2 : Int32} {r : (Int32 × AH)} (hf : f_X9_swap h a0 a1 a2 = some r) : aK h a0 = 9 := by
  unfold f_X9_swap at hf
  exact (ifk hf).1
set_option maxRecDepth 100000 in
set_option maxHeartbeats 4000000 in
theorem c_X9_swap {l : Launch} {G : GT} {h : AH} {a0 : Nat} {a1 : Int32} {a2 : Int32} {r : (Int32 × AH)} (hf : f_X9_swap h a0 a1 a2 = some r) : Cn l yX9_swap cX9_swap 5 (some .int) 7 183 0 0 G h [.ref a0, .int a1, .int a2] (.ok (some (.int r.1))) r.2 := by
  refine Cn.of (by decide) (Nat.le_of_ble_eq_true rfl) ?_
  intro p e s m args below meth c O hr hx hin
  have O : OkC p l s m args meth c G cX9_swap 5 RX9 := O
  unfold f_X9_swap at hf
  obtain ⟨hk0, hf⟩ := ifk hf
  refine AW.sub (lv' := [(0, .ref a0), (1, .int a1), (2, .int a2)]) [0, 1, 2] rfl ?_
  refine r_aload_n O 0 dX9_swap_0 rfl (Or.inl rfl) ?_
  refine r_iconst O (v := 0) dX9_swap_1 (by decide) ?_
  obtain ⟨h1, eh1, hf⟩ := bnd hf
  refine r_pI O cf9 0 (by decide) rfl fl_X9_1 rfl eh1 dX9_swap_2 ?_
  refine r_aload_n O 0 dX9_swap_5 rfl (Or.inl rfl) ?_
  refine r_iload_n O 1 dX9_swap_6 rfl ?_
  obtain ⟨x2, ex2, hf⟩ := bnd hf
  refine r_callV (av := [.int a1]) (st := []) O (c_X9_isThing ex2) mf_X9_isThing cf9 (kd_X9_isThing ex2) ml_X9_253 mi_X9_isThing mv_X9_isThing (by decide) (Nat.le_of_ble_eq_true rfl) (by decide) dX9_swap_7 ?_
  by_cases hc : x2 = 0
  · rw [if_pos hc] at hf
    refine r_if_eq_t (tgt := 21) O dX9_swap_10 (by decide) hc ?_
    refine r_aload_n O 0 dX9_swap_21 rfl (Or.inl rfl) ?_
    refine r_iconst O (v := 1) dX9_swap_22 (by decide) ?_
    obtain ⟨⟨x4, h5⟩, ex4, hf⟩ := bnd hf
    dsimp only at hf
    refine r_callV (av := [.int 1]) (st := []) O (c_X9_fail ex4) mf_X9_fail cf9 (kd_X9_fail ex4) ml_X9_106 mi_X9_fail mv_X9_fail (by decide) (Nat.le_of_ble_eq_true rfl) (by decide) dX9_swap_23 ?_
    obtain rfl := Option.some.inj hf
    exact r_iret O hr rfl rfl (by decide) (by decide) dX9_swap_26
  · rw [if_neg hc] at hf
    refine r_if_eq_f (tgt := 21) O dX9_swap_10 (by decide) hc ?_
    refine r_aload_n O 0 dX9_swap_13 rfl (Or.inl rfl) ?_
    refine r_iload_n O 2 dX9_swap_14 rfl ?_
    obtain ⟨x6, ex6, hf⟩ := bnd hf
    refine r_callV (av := [.int a2]) (st := []) O (c_X9_isThing ex6) mf_X9_isThing cf9 (kd_X9_isThing ex6) ml_X9_253 mi_X9_isThing mv_X9_isThing (by decide) (Nat.le_of_ble_eq_true rfl) (by decide) dX9_swap_15 ?_
    by_cases hc : x6 = 0
    · rw [if_pos hc] at hf
      refine r_if_ne_f (tgt := 27) O dX9_swap_18 (by decide) hc ?_
      refine r_aload_n O 0 dX9_swap_21 rfl (Or.inl rfl) ?_
      refine r_iconst O (v := 1) dX9_swap_22 (by decide) ?_
      obtain ⟨⟨x35, h36⟩, ex35, hf⟩ := bnd hf
      dsimp only at hf
      refine r_callV (av := [.int 1]) (st := []) O (c_X9_fail ex35) mf_X9_fail cf9 (kd_X9_fail ex35) ml_X9_106 mi_X9_fail mv_X9_fail (by decide) (Nat.le_of_ble_eq_true rfl) (by decide) dX9_swap_23 ?_
      obtain rfl := Option.some.inj hf
      exact r_iret O hr rfl rfl (by decide) (by decide) dX9_swap_26
    · rw [if_neg hc] at hf
      refine r_if_ne_t (tgt := 27) O dX9_swap_18 (by decide) hc ?_
      refine r_aload_n O 0 dX9_swap_27 rfl (Or.inl rfl) ?_
      obtain ⟨x8, ex8, hf⟩ := bnd hf
      refine r_gI O cf9 1 (by decide) rfl fl_X9_13 ex8 dX9_swap_28 ?_
      by_cases hc : x8 = 0
      · rw [if_pos hc] at hf
        refine r_if_eq_t (tgt := 40) O dX9_swap_31 (by decide) hc ?_
        refine r_iload_n O 1 dX9_swap_40 rfl ?_
        refine r_iload_n O 2 dX9_swap_41 rfl ?_
        by_cases hc : a1 = a2
        · rw [if_pos hc] at hf
          refine r_icmp_ne_f (tgt := 51) O dX9_swap_42 (by decide) hc ?_
          refine r_aload_n O 0 dX9_swap_45 rfl (Or.inl rfl) ?_
          refine r_iconst O (v := 3) dX9_swap_46 (by decide) ?_
          obtain ⟨⟨x31, h32⟩, ex31, hf⟩ := bnd hf
          dsimp only at hf
          refine r_callV (av := [.int 3]) (st := []) O (c_X9_fail ex31) mf_X9_fail cf9 (kd_X9_fail ex31) ml_X9_106 mi_X9_fail mv_X9_fail (by decide) (Nat.le_of_ble_eq_true rfl) (by decide) dX9_swap_47 ?_
          obtain rfl := Option.some.inj hf
          exact r_iret O hr rfl rfl (by decide) (by decide) dX9_swap_50
        · rw [if_neg hc] at hf
          refine r_icmp_ne_t (tgt := 51) O dX9_swap_42 (by decide) hc ?_
          refine r_aload_n O 0 dX9_swap_51 rfl (Or.inl rfl) ?_
          obtain ⟨x9, ex9, hf⟩ := bnd hf
          refine r_gP O cf9 10 (by decide) rfl fl_X9_33 ex9 dX9_swap_52 ?_
          refine r_sipush O (v := 212) dX9_swap_55 (by decide) ?_
          refine r_iload_n O 1 dX9_swap_58 rfl ?_
          refine r_iadd O dX9_swap_59 ?_
          obtain ⟨x10, ex10, hf⟩ := bnd hf
          refine r_ldI O ex10 dX9_swap_60 ?_
          refine r_istore_n O [(3, .int x10), (0, .ref a0), (1, .int a1), (2, .int a2)] dX9_swap_61 (by decide) rfl ?_
          refine r_aload_n O 1 dX9_swap_62 rfl (Or.inl rfl) ?_
          obtain ⟨x11, ex11, hf⟩ := bnd hf
          refine r_gP O cf9 10 (by decide) rfl fl_X9_33 ex11 dX9_swap_63 ?_
          refine r_sipush O (v := 212) dX9_swap_66 (by decide) ?_
          refine r_iload_n O 3 dX9_swap_69 rfl ?_
          refine r_iadd O dX9_swap_70 ?_
          obtain ⟨x12, ex12, hf⟩ := bnd hf
          refine r_ldI O ex12 dX9_swap_71 ?_
          refine r_istore O [(4, .int x12), (3, .int x10), (0, .ref a0), (1, .int a1), (2, .int a2)] dX9_swap_72 (by decide) rfl ?_
          refine r_iload_n O 1 dX9_swap_74 rfl ?_
          refine r_iconst O (v := -1) dX9_swap_75 (by decide) ?_
          by_cases hc : x10 = (-1)
          · rw [if_pos hc] at hf
            refine r_icmp_eq_t (tgt := 85) O dX9_swap_76 (by decide) hc ?_
            refine r_bipush O (v := -4) dX9_swap_85 (by decide) ?_
            obtain rfl := Option.some.inj hf
            exact r_iret O hr rfl rfl (by decide) (by decide) dX9_swap_87
          · rw [if_neg hc] at hf
            refine r_icmp_eq_f (tgt := 85) O dX9_swap_76 (by decide) hc ?_
            refine r_iload O 0 dX9_swap_79 rfl ?_
            refine r_iconst O (v := -1) dX9_swap_81 (by decide) ?_
            by_cases hc : x12 = (-1)
            · rw [if_pos hc] at hf
              refine r_icmp_ne_f (tgt := 88) O dX9_swap_82 (by decide) hc ?_
              refine r_bipush O (v := -4) dX9_swap_85 (by decide) ?_
              obtain rfl := Option.some.inj hf
              exact r_iret O hr rfl rfl (by decide) (by decide) dX9_swap_87
            · rw [if_neg hc] at hf
              refine r_icmp_ne_t (tgt := 88) O dX9_swap_82 (by decide) hc ?_
              refine r_aload_n O 2 dX9_swap_88 rfl (Or.inl rfl) ?_
              obtain ⟨h14, eh14, hf⟩ := bnd hf
              refine r_callV (av := []) (st := []) O (c_X9_begun eh14) mf_X9_begun cf9 (kd_X9_begun eh14) ml_X9_260 mi_X9_begun mv_X9_begun (by decide) (Nat.le_of_ble_eq_true rfl) (by decide) dX9_swap_89 ?_
              refine r_aload_n O 2 dX9_swap_92 rfl (Or.inl rfl) ?_
              obtain ⟨x15, ex15, hf⟩ := bnd hf
              refine r_gP O cf9 12 (by decide) rfl fl_X9_39 ex15 dX9_swap_93 ?_
              refine r_sipush O (v := 252) dX9_swap_96 (by decide) ?_
              refine r_iload_n O 1 dX9_swap_99 rfl ?_
              refine r_bipush O (v := 40) dX9_swap_100 (by decide) ?_
              refine r_imul O dX9_swap_102 ?_
              refine r_iadd O dX9_swap_103 ?_
              refine r_aload_n O 2 dX9_swap_104 rfl (Or.inl rfl) ?_
              obtain ⟨x16, ex16, hf⟩ := bnd hf
              refine r_gP O cf9 10 (by decide) rfl fl_X9_33 ex16 dX9_swap_105 ?_
              refine r_iload_n O 3 dX9_swap_108 rfl ?_
              obtain ⟨x17, ex17, hf⟩ := bnd hf
              refine r_callS (av := [.ref x16, .int a1]) (st := [.int (252 + (x10 * 40)), .ref x15]) O (c_X9_placeOf ex17) mf_X9_placeOf ml_X9_133 ms_X9_placeOf (by decide) (Nat.le_of_ble_eq_true rfl) (by decide) dX9_swap_109 ?_
              refine r_iadd O dX9_swap_112 ?_
              refine r_iload_n O 4 dX9_swap_113 rfl ?_
              obtain ⟨h19, eh19, hf⟩ := bnd hf
              refine r_stI O eh19 dX9_swap_114 ?_
              refine r_aload_n O 2 dX9_swap_115 rfl (Or.inl rfl) ?_
              obtain ⟨x20, ex20, hf⟩ := bnd hf
              refine r_gP O cf9 12 (by decide) rfl fl_X9_39 ex20 dX9_swap_116 ?_
              refine r_sipush O (v := 252) dX9_swap_119 (by decide) ?_
              refine r_iload O 0 dX9_swap_122 rfl ?_
              refine r_bipush O (v := 40) dX9_swap_124 (by decide) ?_
              refine r_imul O dX9_swap_126 ?_
              refine r_iadd O dX9_swap_127 ?_
              refine r_aload_n O 2 dX9_swap_128 rfl (Or.inl rfl) ?_
              obtain ⟨x21, ex21, hf⟩ := bnd hf
              refine r_gP O cf9 10 (by decide) rfl fl_X9_33 ex21 dX9_swap_129 ?_
              refine r_iload_n O 4 dX9_swap_132 rfl ?_
              obtain ⟨x22, ex22, hf⟩ := bnd hf
              refine r_callS (av := [.ref x21, .int a2]) (st := [.int (252 + (x12 * 40)), .ref x20]) O (c_X9_placeOf ex22) mf_X9_placeOf ml_X9_133 ms_X9_placeOf (by decide) (Nat.le_of_ble_eq_true rfl) (by decide) dX9_swap_133 ?_
              refine r_iadd O dX9_swap_136 ?_
              refine r_iload_n O 3 dX9_swap_137 rfl ?_
              obtain ⟨h24, eh24, hf⟩ := bnd hf
              refine r_stI O eh24 dX9_swap_138 ?_
              refine r_aload_n O 2 dX9_swap_139 rfl (Or.inl rfl) ?_
              obtain ⟨x25, ex25, hf⟩ := bnd hf
              refine r_gP O cf9 12 (by decide) rfl fl_X9_39 ex25 dX9_swap_140 ?_
              refine r_sipush O (v := 212) dX9_swap_143 (by decide) ?_
              refine r_iload_n O 3 dX9_swap_146 rfl ?_
              refine r_iadd O dX9_swap_147 ?_
              refine r_iload O 0 dX9_swap_148 rfl ?_
              obtain ⟨h26, eh26, hf⟩ := bnd hf
              refine r_stI O eh26 dX9_swap_150 ?_
              refine r_aload_n O 2 dX9_swap_151 rfl (Or.inl rfl) ?_
              obtain ⟨x27, ex27, hf⟩ := bnd hf
              refine r_gP O cf9 12 (by decide) rfl fl_X9_39 ex27 dX9_swap_152 ?_
              refine r_sipush O (v := 212) dX9_swap_155 (by decide) ?_
              refine r_iload_n O 4 dX9_swap_158 rfl ?_
              refine r_iadd O dX9_swap_159 ?_
              refine r_iload_n O 1 dX9_swap_160 rfl ?_
              obtain ⟨h28, eh28, hf⟩ := bnd hf
              refine r_stI O eh28 dX9_swap_161 ?_
              refine r_aload_n O 2 dX9_swap_162 rfl (Or.inl rfl) ?_
              obtain ⟨⟨x29, h30⟩, ex29, hf⟩ := bnd hf
              dsimp only at hf
              refine r_callV (av := []) (st := []) O (c_X9_done ex29) mf_X9_done cf9 (kd_X9_done ex29) ml_X9_267 mi_X9_done mv_X9_done (by decide) (Nat.le_of_ble_eq_true rfl) (by decide) dX9_swap_163 ?_
              obtain rfl := Option.some.inj hf
              exact r_iret O hr rfl rfl (by decide) (by decide) dX9_swap_166
      · rw [if_neg hc] at hf
        refine r_if_eq_f (tgt := 40) O dX9_swap_31 (by decide) hc ?_
        refine r_aload_n O 0 dX9_swap_34 rfl (Or.inl rfl) ?_
        refine r_iconst O (v := 2) dX9_swap_35 (by decide) ?_
        obtain ⟨⟨x33, h34⟩, ex33, hf⟩ := bnd hf
        dsimp only at hf
        refine r_callV (av := [.int 2]) (st := []) O (c_X9_fail ex33) mf_X9_fail cf9 (kd_X9_fail ex33) ml_X9_106 mi_X9_fail mv_X9_fail (by decide) (Nat.le_of_ble_eq_true rfl) (by decide) dX9_swap_36 ?_
        obtain rfl := Option.some.inj hf
        exact r_iret O hr rfl rfl (by decide) (by decide) dX9_swap_39
def f_X9_turn_68 (l0 : Nat) (l1 : Int32) (l2 : Int32) (l3 : Int32) (n : Nat) (h : AH) (l4 : Int32) : Option AH := match n with
| 0 => none
| n + 1 =>
if l3 < l4 then
some h
else
Option.bind (gP h 9 l0 12) fun x13 =>
Option.bind (gP h 9 l0 10) fun x14 =>
Option.bind (ldI h x14 ((((252 + (l1 * 40)) + l2) + l3) - l4)) fun x15 =>
Option.bind (stI h x13 ((252 + (l1 * 40)) + l4) x15) fun h16 =>
f_X9_turn_68 l0 l1 l2 l3 n h16 (l4 + 1)
def f_X9_turn (h : AH) (a0 : Nat) (a1 : Int32) (a2 : Int32) (a3 : Int32) : Option (Int32 × AH) :=
if aK h a0 = 9 then
Option.bind (pI h 9 a0 0 0) fun h1 =>
Option.bind (f_X9_isList h1 a0 a1) fun x2 =>
if x2 = 0 then
Option.bind (f_X9_fail h1 a0 1) fun w => match w with
| (x24, h25) =>
some (x24, h25)
else
Option.bind (gI h1 9 a0 1) fun x4 =>
if x4 = 0 then
if a2 < 0 then
Option.bind (f_X9_fail h1 a0 3) fun w => match w with
| (x5, h6) =>
some (x5, h6)
else
if a3 < a2 then
Option.bind (f_X9_fail h1 a0 3) fun w => match w with
| (x7, h8) =>
some (x7, h8)
else
Option.bind (gP h1 9 a0 10) fun x9 =>
Option.bind (ldI h1 x9 (492 + a1)) fun x10 =>
if a3 < x10 then
Option.bind (f_X9_begun h1 a0) fun h12 =>
Option.bind (f_X9_turn_68 a0 a1 a2 a3 FU h12 a2) fun h17 =>
Option.bind (f_X9_done h17 a0) fun w => match w with
| (x18, h19) =>
some (x18, h19)
else
Option.bind (f_X9_fail h1 a0 3) fun w => match w with
| (x20, h21) =>
some (x20, h21)
else
Option.bind (f_X9_fail h1 a0 2) fun w => match w with
| (x22, h23) =>
some (x22, h23)
else none
set_option maxRecDepth 100000 in
set_option maxHeartbeats 4000000 in
theorem s_X9_turn_68 {p : Program} {l : Launch} {e : Env} {s : State} {m : MethodId} {args : Array Value} {below : List Frame} {meth : Method} {c : Code} {G : GT} {Q : State → Prop} (O : OkC p l s m args meth c G cX9_turn 5 RX9) {l0 : Nat} {l1 : Int32} {l2 : Int32} {l3 : Int32} {wh : AH} (kk : AW p l e { frames := 7, cells := 0, slots := 0, locals := 183 } s m args below meth c G 5 Q wh 0 0 116 [(0, .ref l0)] []) : ∀ (n : Nat), ∀ (h : AH) (l4 : Int32), f_X9_turn_68 l0 l1 l2 l3 n h l4 = some wh → AW p l e { frames := 7, cells := 0, slots := 0, locals := 183 } s m args below meth c G 5 Q h 0 0 68 [(0, .ref l0), (1, .int l1), (2, .int l2), (3, .int l3), (4, .int l4)] [] := by
  intro n
  induction n with
  | zero =>
    intro h l4 hf
    simp [f_X9_turn_68] at hf
  | succ n ih =>
    intro h l4 hf
    unfold f_X9_turn_68 at hf
    refine r_iload O 4 dX9_turn_68 rfl ?_
    refine r_iload_n O 3 dX9_turn_70 rfl ?_
    by_cases hc : l3 < l4
    · rw [if_pos hc] at hf
      refine r_icmp_gt_t (tgt := 116) O dX9_turn_71 (by decide) hc ?_
      obtain rfl := oi1 hf
      refine AW.sub [0] rfl ?_
      exact kk
    · rw [if_neg hc] at hf
      refine r_icmp_gt_f (tgt := 116) O dX9_turn_71 (by decide) hc ?_
      refine r_aload_n O 0 dX9_turn_74 rfl (Or.inl rfl) ?_
      obtain ⟨x13, ex13, hf⟩ := bnd hf
      refine r_gP O cf9 12 (by decide) rfl fl_X9_39 ex13 dX9_turn_75 ?_
      refine r_sipush O (v := 252) dX9_turn_78 (by decide) ?_
      refine r_iload_n O 1 dX9_turn_81 rfl ?_
      refine r_bipush O (v := 40) dX9_turn_82 (by decide) ?_
      refine r_imul O dX9_turn_84 ?_
      refine r_iadd O dX9_turn_85 ?_
      refine r_iload O 4 dX9_turn_86 rfl ?_
      refine r_iadd O dX9_turn_88 ?_
      refine r_aload_n O 0 dX9_turn_89 rfl (Or.inl rfl) ?_
      obtain ⟨x14, ex14, hf⟩ := bnd hf
      refine r_gP O cf9 10 (by decide) rfl fl_X9_33 ex14 dX9_turn_90 ?_
      refine r_sipush O (v := 252) dX9_turn_93 (by decide) ?_
      refine r_iload_n O 1 dX9_turn_96 rfl ?_
      refine r_bipush O (v := 40) dX9_turn_97 (by decide) ?_
      refine r_imul O dX9_turn_99 ?_
      refine r_iadd O dX9_turn_100 ?_
      refine r_iload_n O 2 dX9_turn_101 rfl ?_
      refine r_iadd O dX9_turn_102 ?_
      refine r_iload_n O 3 dX9_turn_103 rfl ?_
      refine r_iadd O dX9_turn_104 ?_
      refine r_iload O 4 dX9_turn_105 rfl ?_
      refine r_isub O dX9_turn_107 ?_
      obtain ⟨x15, ex15, hf⟩ := bnd hf
      refine r_ldI O ex15 dX9_turn_108 ?_
      obtain ⟨h16, eh16, hf⟩ := bnd hf
      refine r_stI O eh16 dX9_turn_109 ?_
      refine r_iinc O 4 [(4, .int (l4 + 1)), (0, .ref l0), (1, .int l1), (2, .int l2), (3, .int l3)] dX9_turn_110 rfl rfl (by decide) rfl ?_
      refine r_goto (tgt := 68) O dX9_turn_113 (by decide) ?_
      refine AW.sub [1, 2, 3, 4, 0] rfl ?_
      exact ih _ _ hf
theorem kd_X9_turn {h : AH} {a0 : Nat} {a1 : Int32} {a2 : Int32} {a3 : Int32} {r : (Int32 × AH)} (hf : f_X9_turn h a0 a1 a2 a3 = some r) : aK h a0 = 9 := by
  unfold f_X9_turn at hf
  exact (ifk hf).1
set_option maxRecDepth 100000 in
set_option maxHeartbeats 4000000 in
theorem c_X9_turn {l : Launch} {G : GT} {h : AH} {a0 : Nat} {a1 : Int32} {a2 : Int32} {a3 : Int32} {r : (Int32 × AH)} (hf : f_X9_turn h a0 a1 a2 a3 = some r) : Cn l yX9_turn cX9_turn 5 (some .int) 7 183 0 0 G h [.ref a0, .int a1, .int a2, .int a3] (.ok (some (.int r.1))) r.2 := by
  refine Cn.of (by decide) (Nat.le_of_ble_eq_true rfl) ?_
  intro p e s m args below meth c O hr hx hin
  have O : OkC p l s m args meth c G cX9_turn 5 RX9 := O
  unfold f_X9_turn at hf
  obtain ⟨hk0, hf⟩ := ifk hf
  refine AW.sub (lv' := [(0, .ref a0), (1, .int a1), (2, .int a2), (3, .int a3)]) [0, 1, 2, 3] rfl ?_
  refine r_aload_n O 0 dX9_turn_0 rfl (Or.inl rfl) ?_
  refine r_iconst O (v := 0) dX9_turn_1 (by decide) ?_
  obtain ⟨h1, eh1, hf⟩ := bnd hf
  refine r_pI O cf9 0 (by decide) rfl fl_X9_1 rfl eh1 dX9_turn_2 ?_
  refine r_aload_n O 0 dX9_turn_5 rfl (Or.inl rfl) ?_
  refine r_iload_n O 1 dX9_turn_6 rfl ?_
  obtain ⟨x2, ex2, hf⟩ := bnd hf
  refine r_callV (av := [.int a1]) (st := []) O (c_X9_isList ex2) mf_X9_isList cf9 (kd_X9_isList ex2) ml_X9_257 mi_X9_isList mv_X9_isList (by decide) (Nat.le_of_ble_eq_true rfl) (by decide) dX9_turn_7 ?_
  by_cases hc : x2 = 0
  · rw [if_pos hc] at hf
    refine r_if_ne_f (tgt := 19) O dX9_turn_10 (by decide) hc ?_
    refine r_aload_n O 0 dX9_turn_13 rfl (Or.inl rfl) ?_
    refine r_iconst O (v := 1) dX9_turn_14 (by decide) ?_
    obtain ⟨⟨x24, h25⟩, ex24, hf⟩ := bnd hf
    dsimp only at hf
    refine r_callV (av := [.int 1]) (st := []) O (c_X9_fail ex24) mf_X9_fail cf9 (kd_X9_fail ex24) ml_X9_106 mi_X9_fail mv_X9_fail (by decide) (Nat.le_of_ble_eq_true rfl) (by decide) dX9_turn_15 ?_
    obtain rfl := Option.some.inj hf
    exact r_iret O hr rfl rfl (by decide) (by decide) dX9_turn_18
  · rw [if_neg hc] at hf
    refine r_if_ne_t (tgt := 19) O dX9_turn_10 (by decide) hc ?_
    refine r_aload_n O 0 dX9_turn_19 rfl (Or.inl rfl) ?_
    obtain ⟨x4, ex4, hf⟩ := bnd hf
    refine r_gI O cf9 1 (by decide) rfl fl_X9_13 ex4 dX9_turn_20 ?_
    by_cases hc : x4 = 0
    · rw [if_pos hc] at hf
      refine r_if_eq_t (tgt := 32) O dX9_turn_23 (by decide) hc ?_
      refine r_iload_n O 2 dX9_turn_32 rfl ?_
      by_cases hc : a2 < 0
      · rw [if_pos hc] at hf
        refine r_if_lt_t (tgt := 55) O dX9_turn_33 (by decide) hc ?_
        refine r_aload_n O 0 dX9_turn_55 rfl (Or.inl rfl) ?_
        refine r_iconst O (v := 3) dX9_turn_56 (by decide) ?_
        obtain ⟨⟨x5, h6⟩, ex5, hf⟩ := bnd hf
        dsimp only at hf
        refine r_callV (av := [.int 3]) (st := []) O (c_X9_fail ex5) mf_X9_fail cf9 (kd_X9_fail ex5) ml_X9_106 mi_X9_fail mv_X9_fail (by decide) (Nat.le_of_ble_eq_true rfl) (by decide) dX9_turn_57 ?_
        obtain rfl := Option.some.inj hf
        exact r_iret O hr rfl rfl (by decide) (by decide) dX9_turn_60
      · rw [if_neg hc] at hf
        refine r_if_lt_f (tgt := 55) O dX9_turn_33 (by decide) hc ?_
        refine r_iload_n O 3 dX9_turn_36 rfl ?_
        refine r_iload_n O 2 dX9_turn_37 rfl ?_
        by_cases hc : a3 < a2
        · rw [if_pos hc] at hf
          refine r_icmp_lt_t (tgt := 55) O dX9_turn_38 (by decide) hc ?_
          refine r_aload_n O 0 dX9_turn_55 rfl (Or.inl rfl) ?_
          refine r_iconst O (v := 3) dX9_turn_56 (by decide) ?_
          obtain ⟨⟨x7, h8⟩, ex7, hf⟩ := bnd hf
          dsimp only at hf
          refine r_callV (av := [.int 3]) (st := []) O (c_X9_fail ex7) mf_X9_fail cf9 (kd_X9_fail ex7) ml_X9_106 mi_X9_fail mv_X9_fail (by decide) (Nat.le_of_ble_eq_true rfl) (by decide) dX9_turn_57 ?_
          obtain rfl := Option.some.inj hf
          exact r_iret O hr rfl rfl (by decide) (by decide) dX9_turn_60
        · rw [if_neg hc] at hf
          refine r_icmp_lt_f (tgt := 55) O dX9_turn_38 (by decide) hc ?_
          refine r_iload_n O 3 dX9_turn_41 rfl ?_
          refine r_aload_n O 0 dX9_turn_42 rfl (Or.inl rfl) ?_
          obtain ⟨x9, ex9, hf⟩ := bnd hf
          refine r_gP O cf9 10 (by decide) rfl fl_X9_33 ex9 dX9_turn_43 ?_
          refine r_sipush O (v := 492) dX9_turn_46 (by decide) ?_
          refine r_iload_n O 1 dX9_turn_49 rfl ?_
          refine r_iadd O dX9_turn_50 ?_
          obtain ⟨x10, ex10, hf⟩ := bnd hf
          refine r_ldI O ex10 dX9_turn_51 ?_
          by_cases hc : a3 < x10
          · rw [if_pos hc] at hf
            refine r_icmp_lt_t (tgt := 61) O dX9_turn_52 (by decide) hc ?_
            refine r_aload_n O 0 dX9_turn_61 rfl (Or.inl rfl) ?_
            obtain ⟨h12, eh12, hf⟩ := bnd hf
            refine r_callV (av := []) (st := []) O (c_X9_begun eh12) mf_X9_begun cf9 (kd_X9_begun eh12) ml_X9_260 mi_X9_begun mv_X9_begun (by decide) (Nat.le_of_ble_eq_true rfl) (by decide) dX9_turn_62 ?_
            refine r_iload_n O 2 dX9_turn_65 rfl ?_
            refine r_istore O [(4, .int a2), (0, .ref a0), (1, .int a1), (2, .int a2), (3, .int a3)] dX9_turn_66 (by decide) rfl ?_
            obtain ⟨h17, hw, hf⟩ := bnd hf
            refine AW.sub [1, 2, 3, 4, 0] rfl ?_
            refine s_X9_turn_68 O ?_ _ _ _ hw
            refine r_aload_n O 0 dX9_turn_116 rfl (Or.inl rfl) ?_
            obtain ⟨⟨x18, h19⟩, ex18, hf⟩ := bnd hf
            dsimp only at hf
            refine r_callV (av := []) (st := []) O (c_X9_done ex18) mf_X9_done cf9 (kd_X9_done ex18) ml_X9_267 mi_X9_done mv_X9_done (by decide) (Nat.le_of_ble_eq_true rfl) (by decide) dX9_turn_117 ?_
            obtain rfl := Option.some.inj hf
            exact r_iret O hr rfl rfl (by decide) (by decide) dX9_turn_120
          · rw [if_neg hc] at hf
            refine r_icmp_lt_f (tgt := 61) O dX9_turn_52 (by decide) hc ?_
            refine r_aload_n O 0 dX9_turn_55 rfl (Or.inl rfl) ?_
            refine r_iconst O (v := 3) dX9_turn_56 (by decide) ?_
            obtain ⟨⟨x20, h21⟩, ex20, hf⟩ := bnd hf
            dsimp only at hf
            refine r_callV (av := [.int 3]) (st := []) O (c_X9_fail ex20) mf_X9_fail cf9 (kd_X9_fail ex20) ml_X9_106 mi_X9_fail mv_X9_fail (by decide) (Nat.le_of_ble_eq_true rfl) (by decide) dX9_turn_57 ?_
            obtain rfl := Option.some.inj hf
            exact r_iret O hr rfl rfl (by decide) (by decide) dX9_turn_60
    · rw [if_neg hc] at hf
      refine r_if_eq_f (tgt := 32) O dX9_turn_23 (by decide) hc ?_
      refine r_aload_n O 0 dX9_turn_26 rfl (Or.inl rfl) ?_
      refine r_iconst O (v := 2) dX9_turn_27 (by decide) ?_
      obtain ⟨⟨x22, h23⟩, ex22, hf⟩ := bnd hf
      dsimp only at hf
      refine r_callV (av := [.int 2]) (st := []) O (c_X9_fail ex22) mf_X9_fail cf9 (kd_X9_fail ex22) ml_X9_106 mi_X9_fail mv_X9_fail (by decide) (Nat.le_of_ble_eq_true rfl) (by decide) dX9_turn_28 ?_
      obtain rfl := Option.some.inj hf
      exact r_iret O hr rfl rfl (by decide) (by decide) dX9_turn_31
def f_X9_tails_105 (l0 : Nat) (l1 : Int32) (l2 : Int32) (l3 : Int32) (l4 : Int32) (l5 : Int32) (l6 : Int32) (n : Nat) (h : AH) (l7 : Int32) : Option AH := match n with
| 0 => none
| n + 1 =>
if l6 ≤ l7 then
some h
else
Option.bind (gP h 9 l0 12) fun x23 =>
Option.bind (gP h 9 l0 10) fun x24 =>
Option.bind (ldI h x24 ((252 + (l3 * 40)) + l7)) fun x25 =>
Option.bind (stI h x23 ((((252 + (l1 * 40)) + l2) + l7) - l4) x25) fun h26 =>
Option.bind (gP h26 9 l0 12) fun x27 =>
Option.bind (gP h26 9 l0 10) fun x28 =>
Option.bind (ldI h26 x28 ((252 + (l3 * 40)) + l7)) fun x29 =>
Option.bind (stI h26 x27 (212 + x29) l1) fun h30 =>
f_X9_tails_105 l0 l1 l2 l3 l4 l5 l6 n h30 (l7 + 1)
def f_X9_tails_184 (l0 : Nat) (l1 : Int32) (l2 : Int32) (l3 : Int32) (l4 : Int32) (l5 : Int32) (l6 : Int32) (n : Nat) (h : AH) (l7 : Int32) : Option AH := match n with
| 0 => none
| n + 1 =>
if l5 ≤ l7 then
some h
else
Option.bind (gP h 9 l0 12) fun x32 =>
Option.bind (gP h 9 l0 10) fun x33 =>
Option.bind (ldI h x33 ((252 + (l1 * 40)) + l7)) fun x34 =>
Option.bind (stI h x32 ((((252 + (l3 * 40)) + l4) + l7) - l2) x34) fun h35 =>
Option.bind (gP h35 9 l0 12) fun x36 =>
Option.bind (gP h35 9 l0 10) fun x37 =>
Option.bind (ldI h35 x37 ((252 + (l1 * 40)) + l7)) fun x38 =>
Option.bind (stI h35 x36 (212 + x38) l3) fun h39 =>
f_X9_tails_184 l0 l1 l2 l3 l4 l5 l6 n h39 (l7 + 1)
def f_X9_tails (h : AH) (a0 : Nat) (a1 : Int32) (a2 : Int32) (a3 : Int32) (a4 : Int32) : Option (Int32 × AH) :=
if aK h a0 = 9 then
Option.bind (pI h 9 a0 0 0) fun h1 =>
Option.bind (f_X9_isList h1 a0 a1) fun x2 =>
if x2 = 0 then
Option.bind (f_X9_fail h1 a0 1) fun w => match w with
| (x4, h5) =>
some (x4, h5)
else
Option.bind (f_X9_isList h1 a0 a3) fun x6 =>
if x6 = 0 then
Option.bind (f_X9_fail h1 a0 1) fun w => match w with
| (x51, h52) =>
some (x51, h52)
else
Option.bind (gI h1 9 a0 1) fun x8 =>
if x8 = 0 then
Option.bind (gP h1 9 a0 10) fun x9 =>
Option.bind (ldI h1 x9 (492 + a1)) fun x10 =>
Option.bind (gP h1 9 a0 10) fun x11 =>
Option.bind (ldI h1 x11 (492 + a3)) fun x12 =>
if a1 = a3 then
Option.bind (f_X9_fail h1 a0 3) fun w => match w with
| (x13, h14) =>
some (x13, h14)
else
if a2 < 0 then
Option.bind (f_X9_fail h1 a0 3) fun w => match w with
| (x15, h16) =>
some (x15, h16)
else
if x10 < a2 then
Option.bind (f_X9_fail h1 a0 3) fun w => match w with
| (x17, h18) =>
some (x17, h18)
else
if a4 < 0 then
Option.bind (f_X9_fail h1 a0 3) fun w => match w with
| (x19, h20) =>
some (x19, h20)
else
if a4 ≤ x12 then
Option.bind (f_X9_begun h1 a0) fun h22 =>
Option.bind (f_X9_tails_105 a0 a1 a2 a3 a4 x10 x12 FU h22 a4) fun h31 =>
Option.bind (f_X9_tails_184 a0 a1 a2 a3 a4 x10 x12 FU h31 a2) fun h40 =>
Option.bind (gP h40 9 a0 12) fun x41 =>
Option.bind (stI h40 x41 (492 + a1) ((a2 + x12) - a4)) fun h42 =>
Option.bind (gP h42 9 a0 12) fun x43 =>
Option.bind (stI h42 x43 (492 + a3) ((a4 + x10) - a2)) fun h44 =>
Option.bind (f_X9_done h44 a0) fun w => match w with
| (x45, h46) =>
some (x45, h46)
else
Option.bind (f_X9_fail h1 a0 3) fun w => match w with
| (x47, h48) =>
some (x47, h48)
else
Option.bind (f_X9_fail h1 a0 2) fun w => match w with
| (x49, h50) =>
some (x49, h50)
else none
set_option maxRecDepth 100000 in
set_option maxHeartbeats 4000000 in
theorem s_X9_tails_105 {p : Program} {l : Launch} {e : Env} {s : State} {m : MethodId} {args : Array Value} {below : List Frame} {meth : Method} {c : Code} {G : GT} {Q : State → Prop} (O : OkC p l s m args meth c G cX9_tails 8 RX9) {l0 : Nat} {l1 : Int32} {l2 : Int32} {l3 : Int32} {l4 : Int32} {l5 : Int32} {l6 : Int32} {wh : AH} (kk : AW p l e { frames := 7, cells := 0, slots := 0, locals := 183 } s m args below meth c G 8 Q wh 0 0 181 [(0, .ref l0), (1, .int l1), (2, .int l2), (3, .int l3), (4, .int l4), (5, .int l5), (6, .int l6)] []) : ∀ (n : Nat), ∀ (h : AH) (l7 : Int32), f_X9_tails_105 l0 l1 l2 l3 l4 l5 l6 n h l7 = some wh → AW p l e { frames := 7, cells := 0, slots := 0, locals := 183 } s m args below meth c G 8 Q h 0 0 105 [(0, .ref l0), (1, .int l1), (2, .int l2), (3, .int l3), (4, .int l4), (5, .int l5), (6, .int l6), (7, .int l7)] [] := by
  intro n
  induction n with
  | zero =>
    intro h l7 hf
    simp [f_X9_tails_105] at hf
  | succ n ih =>
    intro h l7 hf
    unfold f_X9_tails_105 at hf
    refine r_iload O 7 dX9_tails_105 rfl ?_
    refine r_iload O 6 dX9_tails_107 rfl ?_
    by_cases hc : l6 ≤ l7
    · rw [if_pos hc] at hf
      refine r_icmp_ge_t (tgt := 181) O dX9_tails_109 (by decide) hc ?_
      obtain rfl := oi1 hf
      refine AW.sub [0, 1, 2, 3, 4, 5, 6] rfl ?_
      exact kk
    · rw [if_neg hc] at hf
      refine r_icmp_ge_f (tgt := 181) O dX9_tails_109 (by decide) hc ?_
      refine r_aload_n O 0 dX9_tails_112 rfl (Or.inl rfl) ?_
      obtain ⟨x23, ex23, hf⟩ := bnd hf
      refine r_gP O cf9 12 (by decide) rfl fl_X9_39 ex23 dX9_tails_113 ?_
      refine r_sipush O (v := 252) dX9_tails_116 (by decide) ?_
      refine r_iload_n O 1 dX9_tails_119 rfl ?_
      refine r_bipush O (v := 40) dX9_tails_120 (by decide) ?_
      refine r_imul O dX9_tails_122 ?_
      refine r_iadd O dX9_tails_123 ?_
      refine r_iload_n O 2 dX9_tails_124 rfl ?_
      refine r_iadd O dX9_tails_125 ?_
      refine r_iload O 7 dX9_tails_126 rfl ?_
      refine r_iadd O dX9_tails_128 ?_
      refine r_iload O 4 dX9_tails_129 rfl ?_
      refine r_isub O dX9_tails_131 ?_
      refine r_aload_n O 0 dX9_tails_132 rfl (Or.inl rfl) ?_
      obtain ⟨x24, ex24, hf⟩ := bnd hf
      refine r_gP O cf9 10 (by decide) rfl fl_X9_33 ex24 dX9_tails_133 ?_
      refine r_sipush O (v := 252) dX9_tails_136 (by decide) ?_
      refine r_iload_n O 3 dX9_tails_139 rfl ?_
      refine r_bipush O (v := 40) dX9_tails_140 (by decide) ?_
      refine r_imul O dX9_tails_142 ?_
      refine r_iadd O dX9_tails_143 ?_
      refine r_iload O 7 dX9_tails_144 rfl ?_
      refine r_iadd O dX9_tails_146 ?_
      obtain ⟨x25, ex25, hf⟩ := bnd hf
      refine r_ldI O ex25 dX9_tails_147 ?_
      obtain ⟨h26, eh26, hf⟩ := bnd hf
      refine r_stI O eh26 dX9_tails_148 ?_
      refine r_aload_n O 0 dX9_tails_149 rfl (Or.inl rfl) ?_
      obtain ⟨x27, ex27, hf⟩ := bnd hf
      refine r_gP O cf9 12 (by decide) rfl fl_X9_39 ex27 dX9_tails_150 ?_
      refine r_sipush O (v := 212) dX9_tails_153 (by decide) ?_
      refine r_aload_n O 0 dX9_tails_156 rfl (Or.inl rfl) ?_
      obtain ⟨x28, ex28, hf⟩ := bnd hf
      refine r_gP O cf9 10 (by decide) rfl fl_X9_33 ex28 dX9_tails_157 ?_
      refine r_sipush O (v := 252) dX9_tails_160 (by decide) ?_
      refine r_iload_n O 3 dX9_tails_163 rfl ?_
      refine r_bipush O (v := 40) dX9_tails_164 (by decide) ?_
      refine r_imul O dX9_tails_166 ?_
      refine r_iadd O dX9_tails_167 ?_
      refine r_iload O 7 dX9_tails_168 rfl ?_
      refine r_iadd O dX9_tails_170 ?_
      obtain ⟨x29, ex29, hf⟩ := bnd hf
      refine r_ldI O ex29 dX9_tails_171 ?_
      refine r_iadd O dX9_tails_172 ?_
      refine r_iload_n O 1 dX9_tails_173 rfl ?_
      obtain ⟨h30, eh30, hf⟩ := bnd hf
      refine r_stI O eh30 dX9_tails_174 ?_
      refine r_iinc O 7 [(7, .int (l7 + 1)), (0, .ref l0), (1, .int l1), (2, .int l2), (3, .int l3), (4, .int l4), (5, .int l5), (6, .int l6)] dX9_tails_175 rfl rfl (by decide) rfl ?_
      refine r_goto (tgt := 105) O dX9_tails_178 (by decide) ?_
      refine AW.sub [1, 2, 3, 4, 5, 6, 7, 0] rfl ?_
      exact ih _ _ hf
set_option maxRecDepth 100000 in
set_option maxHeartbeats 4000000 in
theorem s_X9_tails_184 {p : Program} {l : Launch} {e : Env} {s : State} {m : MethodId} {args : Array Value} {below : List Frame} {meth : Method} {c : Code} {G : GT} {Q : State → Prop} (O : OkC p l s m args meth c G cX9_tails 8 RX9) {l0 : Nat} {l1 : Int32} {l2 : Int32} {l3 : Int32} {l4 : Int32} {l5 : Int32} {l6 : Int32} {wh : AH} (kk : AW p l e { frames := 7, cells := 0, slots := 0, locals := 183 } s m args below meth c G 8 Q wh 0 0 260 [(0, .ref l0), (1, .int l1), (2, .int l2), (3, .int l3), (4, .int l4), (5, .int l5), (6, .int l6)] []) : ∀ (n : Nat), ∀ (h : AH) (l7 : Int32), f_X9_tails_184 l0 l1 l2 l3 l4 l5 l6 n h l7 = some wh → AW p l e { frames := 7, cells := 0, slots := 0, locals := 183 } s m args below meth c G 8 Q h 0 0 184 [(0, .ref l0), (1, .int l1), (2, .int l2), (3, .int l3), (4, .int l4), (5, .int l5), (6, .int l6), (7, .int l7)] [] := by
  intro n
  induction n with
  | zero =>
    intro h l7 hf
    simp [f_X9_tails_184] at hf
  | succ n ih =>
    intro h l7 hf
    unfold f_X9_tails_184 at hf
    refine r_iload O 7 dX9_tails_184 rfl ?_
    refine r_iload O 5 dX9_tails_186 rfl ?_
    by_cases hc : l5 ≤ l7
    · rw [if_pos hc] at hf
      refine r_icmp_ge_t (tgt := 260) O dX9_tails_188 (by decide) hc ?_
      obtain rfl := oi1 hf
      refine AW.sub [0, 1, 2, 3, 4, 5, 6] rfl ?_
      exact kk
    · rw [if_neg hc] at hf
      refine r_icmp_ge_f (tgt := 260) O dX9_tails_188 (by decide) hc ?_
      refine r_aload_n O 0 dX9_tails_191 rfl (Or.inl rfl) ?_
      obtain ⟨x32, ex32, hf⟩ := bnd hf
      refine r_gP O cf9 12 (by decide) rfl fl_X9_39 ex32 dX9_tails_192 ?_
      refine r_sipush O (v := 252) dX9_tails_195 (by decide) ?_
      refine r_iload_n O 3 dX9_tails_198 rfl ?_
      refine r_bipush O (v := 40) dX9_tails_199 (by decide) ?_
      refine r_imul O dX9_tails_201 ?_
      refine r_iadd O dX9_tails_202 ?_
      refine r_iload O 4 dX9_tails_203 rfl ?_
      refine r_iadd O dX9_tails_205 ?_
      refine r_iload O 7 dX9_tails_206 rfl ?_
      refine r_iadd O dX9_tails_208 ?_
      refine r_iload_n O 2 dX9_tails_209 rfl ?_
      refine r_isub O dX9_tails_210 ?_
      refine r_aload_n O 0 dX9_tails_211 rfl (Or.inl rfl) ?_
      obtain ⟨x33, ex33, hf⟩ := bnd hf
      refine r_gP O cf9 10 (by decide) rfl fl_X9_33 ex33 dX9_tails_212 ?_
      refine r_sipush O (v := 252) dX9_tails_215 (by decide) ?_
      refine r_iload_n O 1 dX9_tails_218 rfl ?_
      refine r_bipush O (v := 40) dX9_tails_219 (by decide) ?_
      refine r_imul O dX9_tails_221 ?_
      refine r_iadd O dX9_tails_222 ?_
      refine r_iload O 7 dX9_tails_223 rfl ?_
      refine r_iadd O dX9_tails_225 ?_
      obtain ⟨x34, ex34, hf⟩ := bnd hf
      refine r_ldI O ex34 dX9_tails_226 ?_
      obtain ⟨h35, eh35, hf⟩ := bnd hf
      refine r_stI O eh35 dX9_tails_227 ?_
      refine r_aload_n O 0 dX9_tails_228 rfl (Or.inl rfl) ?_
      obtain ⟨x36, ex36, hf⟩ := bnd hf
      refine r_gP O cf9 12 (by decide) rfl fl_X9_39 ex36 dX9_tails_229 ?_
      refine r_sipush O (v := 212) dX9_tails_232 (by decide) ?_
      refine r_aload_n O 0 dX9_tails_235 rfl (Or.inl rfl) ?_
      obtain ⟨x37, ex37, hf⟩ := bnd hf
      refine r_gP O cf9 10 (by decide) rfl fl_X9_33 ex37 dX9_tails_236 ?_
      refine r_sipush O (v := 252) dX9_tails_239 (by decide) ?_
      refine r_iload_n O 1 dX9_tails_242 rfl ?_
      refine r_bipush O (v := 40) dX9_tails_243 (by decide) ?_
      refine r_imul O dX9_tails_245 ?_
      refine r_iadd O dX9_tails_246 ?_
      refine r_iload O 7 dX9_tails_247 rfl ?_
      refine r_iadd O dX9_tails_249 ?_
      obtain ⟨x38, ex38, hf⟩ := bnd hf
      refine r_ldI O ex38 dX9_tails_250 ?_
      refine r_iadd O dX9_tails_251 ?_
      refine r_iload_n O 3 dX9_tails_252 rfl ?_
      obtain ⟨h39, eh39, hf⟩ := bnd hf
      refine r_stI O eh39 dX9_tails_253 ?_
      refine r_iinc O 7 [(7, .int (l7 + 1)), (0, .ref l0), (1, .int l1), (2, .int l2), (3, .int l3), (4, .int l4), (5, .int l5), (6, .int l6)] dX9_tails_254 rfl rfl (by decide) rfl ?_
      refine r_goto (tgt := 184) O dX9_tails_257 (by decide) ?_
      refine AW.sub [1, 2, 3, 4, 5, 6, 7, 0] rfl ?_
      exact ih _ _ hf
theorem kd_X9_tails {h : AH} {a0 : Nat} {a1 : Int32} {a2 : Int32} {a3 : Int32} {a4 : Int32} {r : (Int32 × AH)} (hf : f_X9_tails h a0 a1 a2 a3 a4 = some r) : aK h a0 = 9 := by
  unfold f_X9_tails at hf
  exact (ifk hf).1
set_option maxRecDepth 100000 in
set_option maxHeartbeats 4000000 in
theorem c_X9_tails {l : Launch} {G : GT} {h : AH} {a0 : Nat} {a1 : Int32} {a2 : Int32} {a3 : Int32} {a4 : Int32} {r : (Int32 × AH)} (hf : f_X9_tails h a0 a1 a2 a3 a4 = some r) : Cn l yX9_tails cX9_tails 8 (some .int) 7 183 0 0 G h [.ref a0, .int a1, .int a2, .int a3, .int a4] (.ok (some (.int r.1))) r.2 := by
  refine Cn.of (by decide) (Nat.le_of_ble_eq_true rfl) ?_
  intro p e s m args below meth c O hr hx hin
  have O : OkC p l s m args meth c G cX9_tails 8 RX9 := O
  unfold f_X9_tails at hf
  obtain ⟨hk0, hf⟩ := ifk hf
  refine AW.sub (lv' := [(0, .ref a0), (1, .int a1), (2, .int a2), (3, .int a3), (4, .int a4)]) [0, 1, 2, 3, 4] rfl ?_
  refine r_aload_n O 0 dX9_tails_0 rfl (Or.inl rfl) ?_
  refine r_iconst O (v := 0) dX9_tails_1 (by decide) ?_
  obtain ⟨h1, eh1, hf⟩ := bnd hf
  refine r_pI O cf9 0 (by decide) rfl fl_X9_1 rfl eh1 dX9_tails_2 ?_
  refine r_aload_n O 0 dX9_tails_5 rfl (Or.inl rfl) ?_
  refine r_iload_n O 1 dX9_tails_6 rfl ?_
  obtain ⟨x2, ex2, hf⟩ := bnd hf
  refine r_callV (av := [.int a1]) (st := []) O (c_X9_isList ex2) mf_X9_isList cf9 (kd_X9_isList ex2) ml_X9_257 mi_X9_isList mv_X9_isList (by decide) (Nat.le_of_ble_eq_true rfl) (by decide) dX9_tails_7 ?_
  by_cases hc : x2 = 0
  · rw [if_pos hc] at hf
    refine r_if_eq_t (tgt := 21) O dX9_tails_10 (by decide) hc ?_
    refine r_aload_n O 0 dX9_tails_21 rfl (Or.inl rfl) ?_
    refine r_iconst O (v := 1) dX9_tails_22 (by decide) ?_
    obtain ⟨⟨x4, h5⟩, ex4, hf⟩ := bnd hf
    dsimp only at hf
    refine r_callV (av := [.int 1]) (st := []) O (c_X9_fail ex4) mf_X9_fail cf9 (kd_X9_fail ex4) ml_X9_106 mi_X9_fail mv_X9_fail (by decide) (Nat.le_of_ble_eq_true rfl) (by decide) dX9_tails_23 ?_
    obtain rfl := Option.some.inj hf
    exact r_iret O hr rfl rfl (by decide) (by decide) dX9_tails_26
  · rw [if_neg hc] at hf
    refine r_if_eq_f (tgt := 21) O dX9_tails_10 (by decide) hc ?_
    refine r_aload_n O 0 dX9_tails_13 rfl (Or.inl rfl) ?_
    refine r_iload_n O 3 dX9_tails_14 rfl ?_
    obtain ⟨x6, ex6, hf⟩ := bnd hf
    refine r_callV (av := [.int a3]) (st := []) O (c_X9_isList ex6) mf_X9_isList cf9 (kd_X9_isList ex6) ml_X9_257 mi_X9_isList mv_X9_isList (by decide) (Nat.le_of_ble_eq_true rfl) (by decide) dX9_tails_15 ?_
    by_cases hc : x6 = 0
    · rw [if_pos hc] at hf
      refine r_if_ne_f (tgt := 27) O dX9_tails_18 (by decide) hc ?_
      refine r_aload_n O 0 dX9_tails_21 rfl (Or.inl rfl) ?_
      refine r_iconst O (v := 1) dX9_tails_22 (by decide) ?_
      obtain ⟨⟨x51, h52⟩, ex51, hf⟩ := bnd hf
      dsimp only at hf
      refine r_callV (av := [.int 1]) (st := []) O (c_X9_fail ex51) mf_X9_fail cf9 (kd_X9_fail ex51) ml_X9_106 mi_X9_fail mv_X9_fail (by decide) (Nat.le_of_ble_eq_true rfl) (by decide) dX9_tails_23 ?_
      obtain rfl := Option.some.inj hf
      exact r_iret O hr rfl rfl (by decide) (by decide) dX9_tails_26
    · rw [if_neg hc] at hf
      refine r_if_ne_t (tgt := 27) O dX9_tails_18 (by decide) hc ?_
      refine r_aload_n O 0 dX9_tails_27 rfl (Or.inl rfl) ?_
      obtain ⟨x8, ex8, hf⟩ := bnd hf
      refine r_gI O cf9 1 (by decide) rfl fl_X9_13 ex8 dX9_tails_28 ?_
      by_cases hc : x8 = 0
      · rw [if_pos hc] at hf
        refine r_if_eq_t (tgt := 40) O dX9_tails_31 (by decide) hc ?_
        refine r_aload_n O 0 dX9_tails_40 rfl (Or.inl rfl) ?_
        obtain ⟨x9, ex9, hf⟩ := bnd hf
        refine r_gP O cf9 10 (by decide) rfl fl_X9_33 ex9 dX9_tails_41 ?_
        refine r_sipush O (v := 492) dX9_tails_44 (by decide) ?_
        refine r_iload_n O 1 dX9_tails_47 rfl ?_
        refine r_iadd O dX9_tails_48 ?_
        obtain ⟨x10, ex10, hf⟩ := bnd hf
        refine r_ldI O ex10 dX9_tails_49 ?_
        refine r_istore O [(5, .int x10), (0, .ref a0), (1, .int a1), (2, .int a2), (3, .int a3), (4, .int a4)] dX9_tails_50 (by decide) rfl ?_
        refine r_aload_n O 1 dX9_tails_52 rfl (Or.inl rfl) ?_
        obtain ⟨x11, ex11, hf⟩ := bnd hf
        refine r_gP O cf9 10 (by decide) rfl fl_X9_33 ex11 dX9_tails_53 ?_
        refine r_sipush O (v := 492) dX9_tails_56 (by decide) ?_
        refine r_iload_n O 4 dX9_tails_59 rfl ?_
        refine r_iadd O dX9_tails_60 ?_
        obtain ⟨x12, ex12, hf⟩ := bnd hf
        refine r_ldI O ex12 dX9_tails_61 ?_
        refine r_istore O [(6, .int x12), (5, .int x10), (0, .ref a0), (1, .int a1), (2, .int a2), (3, .int a3), (4, .int a4)] dX9_tails_62 (by decide) rfl ?_
        refine r_iload_n O 3 dX9_tails_64 rfl ?_
        refine r_iload_n O 5 dX9_tails_65 rfl ?_
        by_cases hc : a1 = a3
        · rw [if_pos hc] at hf
          refine r_icmp_eq_t (tgt := 91) O dX9_tails_66 (by decide) hc ?_
          refine r_aload_n O 2 dX9_tails_91 rfl (Or.inl rfl) ?_
          refine r_iconst O (v := 3) dX9_tails_92 (by decide) ?_
          obtain ⟨⟨x13, h14⟩, ex13, hf⟩ := bnd hf
          dsimp only at hf
          refine r_callV (av := [.int 3]) (st := []) O (c_X9_fail ex13) mf_X9_fail cf9 (kd_X9_fail ex13) ml_X9_106 mi_X9_fail mv_X9_fail (by decide) (Nat.le_of_ble_eq_true rfl) (by decide) dX9_tails_93 ?_
          obtain rfl := Option.some.inj hf
          exact r_iret O hr rfl rfl (by decide) (by decide) dX9_tails_96
        · rw [if_neg hc] at hf
          refine r_icmp_eq_f (tgt := 91) O dX9_tails_66 (by decide) hc ?_
          refine r_iload_n O 4 dX9_tails_69 rfl ?_
          by_cases hc : a2 < 0
          · rw [if_pos hc] at hf
            refine r_if_lt_t (tgt := 91) O dX9_tails_70 (by decide) hc ?_
            refine r_aload_n O 2 dX9_tails_91 rfl (Or.inl rfl) ?_
            refine r_iconst O (v := 3) dX9_tails_92 (by decide) ?_
            obtain ⟨⟨x15, h16⟩, ex15, hf⟩ := bnd hf
            dsimp only at hf
            refine r_callV (av := [.int 3]) (st := []) O (c_X9_fail ex15) mf_X9_fail cf9 (kd_X9_fail ex15) ml_X9_106 mi_X9_fail mv_X9_fail (by decide) (Nat.le_of_ble_eq_true rfl) (by decide) dX9_tails_93 ?_
            obtain rfl := Option.some.inj hf
            exact r_iret O hr rfl rfl (by decide) (by decide) dX9_tails_96
          · rw [if_neg hc] at hf
            refine r_if_lt_f (tgt := 91) O dX9_tails_70 (by decide) hc ?_
            refine r_iload_n O 4 dX9_tails_73 rfl ?_
            refine r_iload O 1 dX9_tails_74 rfl ?_
            by_cases hc : x10 < a2
            · rw [if_pos hc] at hf
              refine r_icmp_gt_t (tgt := 91) O dX9_tails_76 (by decide) hc ?_
              refine r_aload_n O 2 dX9_tails_91 rfl (Or.inl rfl) ?_
              refine r_iconst O (v := 3) dX9_tails_92 (by decide) ?_
              obtain ⟨⟨x17, h18⟩, ex17, hf⟩ := bnd hf
              dsimp only at hf
              refine r_callV (av := [.int 3]) (st := []) O (c_X9_fail ex17) mf_X9_fail cf9 (kd_X9_fail ex17) ml_X9_106 mi_X9_fail mv_X9_fail (by decide) (Nat.le_of_ble_eq_true rfl) (by decide) dX9_tails_93 ?_
              obtain rfl := Option.some.inj hf
              exact r_iret O hr rfl rfl (by decide) (by decide) dX9_tails_96
            · rw [if_neg hc] at hf
              refine r_icmp_gt_f (tgt := 91) O dX9_tails_76 (by decide) hc ?_
              refine r_iload O 6 dX9_tails_79 rfl ?_
              by_cases hc : a4 < 0
              · rw [if_pos hc] at hf
                refine r_if_lt_t (tgt := 91) O dX9_tails_81 (by decide) hc ?_
                refine r_aload_n O 2 dX9_tails_91 rfl (Or.inl rfl) ?_
                refine r_iconst O (v := 3) dX9_tails_92 (by decide) ?_
                obtain ⟨⟨x19, h20⟩, ex19, hf⟩ := bnd hf
                dsimp only at hf
                refine r_callV (av := [.int 3]) (st := []) O (c_X9_fail ex19) mf_X9_fail cf9 (kd_X9_fail ex19) ml_X9_106 mi_X9_fail mv_X9_fail (by decide) (Nat.le_of_ble_eq_true rfl) (by decide) dX9_tails_93 ?_
                obtain rfl := Option.some.inj hf
                exact r_iret O hr rfl rfl (by decide) (by decide) dX9_tails_96
              · rw [if_neg hc] at hf
                refine r_if_lt_f (tgt := 91) O dX9_tails_81 (by decide) hc ?_
                refine r_iload O 6 dX9_tails_84 rfl ?_
                refine r_iload O 0 dX9_tails_86 rfl ?_
                by_cases hc : a4 ≤ x12
                · rw [if_pos hc] at hf
                  refine r_icmp_le_t (tgt := 97) O dX9_tails_88 (by decide) hc ?_
                  refine r_aload_n O 2 dX9_tails_97 rfl (Or.inl rfl) ?_
                  obtain ⟨h22, eh22, hf⟩ := bnd hf
                  refine r_callV (av := []) (st := []) O (c_X9_begun eh22) mf_X9_begun cf9 (kd_X9_begun eh22) ml_X9_260 mi_X9_begun mv_X9_begun (by decide) (Nat.le_of_ble_eq_true rfl) (by decide) dX9_tails_98 ?_
                  refine r_iload O 6 dX9_tails_101 rfl ?_
                  refine r_istore O [(7, .int a4), (6, .int x12), (5, .int x10), (0, .ref a0), (1, .int a1), (2, .int a2), (3, .int a3), (4, .int a4)] dX9_tails_103 (by decide) rfl ?_
                  obtain ⟨h31, hw, hf⟩ := bnd hf
                  refine AW.sub [3, 4, 5, 6, 7, 2, 1, 0] rfl ?_
                  refine s_X9_tails_105 O ?_ _ _ _ hw
                  refine r_iload_n O 2 dX9_tails_181 rfl ?_
                  refine r_istore O [(7, .int a2), (0, .ref a0), (1, .int a1), (2, .int a2), (3, .int a3), (4, .int a4), (5, .int x10), (6, .int x12)] dX9_tails_182 (by decide) rfl ?_
                  obtain ⟨h40, hw, hf⟩ := bnd hf
                  refine AW.sub [1, 2, 3, 4, 5, 6, 7, 0] rfl ?_
                  refine s_X9_tails_184 O ?_ _ _ _ hw
                  refine r_aload_n O 0 dX9_tails_260 rfl (Or.inl rfl) ?_
                  obtain ⟨x41, ex41, hf⟩ := bnd hf
                  refine r_gP O cf9 12 (by decide) rfl fl_X9_39 ex41 dX9_tails_261 ?_
                  refine r_sipush O (v := 492) dX9_tails_264 (by decide) ?_
                  refine r_iload_n O 1 dX9_tails_267 rfl ?_
                  refine r_iadd O dX9_tails_268 ?_
                  refine r_iload_n O 2 dX9_tails_269 rfl ?_
                  refine r_iload O 6 dX9_tails_270 rfl ?_
                  refine r_iadd O dX9_tails_272 ?_
                  refine r_iload O 4 dX9_tails_273 rfl ?_
                  refine r_isub O dX9_tails_275 ?_
                  obtain ⟨h42, eh42, hf⟩ := bnd hf
                  refine r_stI O eh42 dX9_tails_276 ?_
                  refine r_aload_n O 0 dX9_tails_277 rfl (Or.inl rfl) ?_
                  obtain ⟨x43, ex43, hf⟩ := bnd hf
                  refine r_gP O cf9 12 (by decide) rfl fl_X9_39 ex43 dX9_tails_278 ?_
                  refine r_sipush O (v := 492) dX9_tails_281 (by decide) ?_
                  refine r_iload_n O 3 dX9_tails_284 rfl ?_
                  refine r_iadd O dX9_tails_285 ?_
                  refine r_iload O 4 dX9_tails_286 rfl ?_
                  refine r_iload O 5 dX9_tails_288 rfl ?_
                  refine r_iadd O dX9_tails_290 ?_
                  refine r_iload_n O 2 dX9_tails_291 rfl ?_
                  refine r_isub O dX9_tails_292 ?_
                  obtain ⟨h44, eh44, hf⟩ := bnd hf
                  refine r_stI O eh44 dX9_tails_293 ?_
                  refine r_aload_n O 0 dX9_tails_294 rfl (Or.inl rfl) ?_
                  obtain ⟨⟨x45, h46⟩, ex45, hf⟩ := bnd hf
                  dsimp only at hf
                  refine r_callV (av := []) (st := []) O (c_X9_done ex45) mf_X9_done cf9 (kd_X9_done ex45) ml_X9_267 mi_X9_done mv_X9_done (by decide) (Nat.le_of_ble_eq_true rfl) (by decide) dX9_tails_295 ?_
                  obtain rfl := Option.some.inj hf
                  exact r_iret O hr rfl rfl (by decide) (by decide) dX9_tails_298
                · rw [if_neg hc] at hf
                  refine r_icmp_le_f (tgt := 97) O dX9_tails_88 (by decide) hc ?_
                  refine r_aload_n O 2 dX9_tails_91 rfl (Or.inl rfl) ?_
                  refine r_iconst O (v := 3) dX9_tails_92 (by decide) ?_
                  obtain ⟨⟨x47, h48⟩, ex47, hf⟩ := bnd hf
                  dsimp only at hf
                  refine r_callV (av := [.int 3]) (st := []) O (c_X9_fail ex47) mf_X9_fail cf9 (kd_X9_fail ex47) ml_X9_106 mi_X9_fail mv_X9_fail (by decide) (Nat.le_of_ble_eq_true rfl) (by decide) dX9_tails_93 ?_
                  obtain rfl := Option.some.inj hf
                  exact r_iret O hr rfl rfl (by decide) (by decide) dX9_tails_96
      · rw [if_neg hc] at hf
        refine r_if_eq_f (tgt := 40) O dX9_tails_31 (by decide) hc ?_
        refine r_aload_n O 0 dX9_tails_34 rfl (Or.inl rfl) ?_
        refine r_iconst O (v := 2) dX9_tails_35 (by decide) ?_
        obtain ⟨⟨x49, h50⟩, ex49, hf⟩ := bnd hf
        dsimp only at hf
        refine r_callV (av := [.int 2]) (st := []) O (c_X9_fail ex49) mf_X9_fail cf9 (kd_X9_fail ex49) ml_X9_106 mi_X9_fail mv_X9_fail (by decide) (Nat.le_of_ble_eq_true rfl) (by decide) dX9_tails_36 ?_
        obtain rfl := Option.some.inj hf
        exact r_iret O hr rfl rfl (by decide) (by decide) dX9_tails_39
