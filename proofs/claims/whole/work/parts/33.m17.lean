def f_X9_keep (h : AH) (a0 : Nat) : Option AH :=
if aK h a0 = 9 then
Option.bind (gI h 9 a0 17) fun x1 =>
Option.bind (if x1 = 60 then
Option.bind (gP h 9 a0 18) fun x3 =>
Option.bind (gP h 9 a0 18) fun x4 =>
Option.bind (f_X9_copyInts h x3 504 x4 0 29736) fun h6 =>
Option.bind (gP h6 9 a0 19) fun x7 =>
Option.bind (gP h6 9 a0 19) fun x8 =>
Option.bind (f_X9_copyLongs h6 x7 258 x8 0 15222) fun h10 =>
Option.bind (gI h10 9 a0 17) fun x11 =>
Option.bind (pI h10 9 a0 17 (x11 - 1)) fun h12 =>
some h12
else
some h) fun h2 =>
Option.bind (gP h2 9 a0 11) fun x13 =>
Option.bind (gP h2 9 a0 18) fun x14 =>
Option.bind (gI h2 9 a0 17) fun x15 =>
Option.bind (f_X9_copyInts h2 x13 0 x14 (x15 * 504) 504) fun h17 =>
Option.bind (gP h17 9 a0 13) fun x18 =>
Option.bind (gP h17 9 a0 19) fun x19 =>
Option.bind (gI h17 9 a0 17) fun x20 =>
Option.bind (f_X9_copyLongs h17 x18 0 x19 (x20 * 258) 258) fun h22 =>
Option.bind (gI h22 9 a0 17) fun x23 =>
Option.bind (pI h22 9 a0 17 (x23 + 1)) fun h24 =>
some h24
else none
theorem kd_X9_keep {h : AH} {a0 : Nat} {r : AH} (hf : f_X9_keep h a0 = some r) : aK h a0 = 9 := by
  unfold f_X9_keep at hf
  exact (ifk hf).1
set_option maxRecDepth 100000 in
set_option maxHeartbeats 4000000 in
theorem c_X9_keep {l : Launch} {G : GT} {h : AH} {a0 : Nat} {r : AH} (hf : f_X9_keep h a0 = some r) : Cn l yX9_keep cX9_keep 1 none 1 25 0 0 G h [.ref a0] (.ok none) r := by
  refine Cn.of (by decide) (Nat.le_of_ble_eq_true rfl) ?_
  intro p e s m args below meth c O hr hx hin
  have O : OkC p l s m args meth c G cX9_keep 1 RX9 := O
  unfold f_X9_keep at hf
  obtain ⟨hk0, hf⟩ := ifk hf
  refine AW.sub (lv' := [(0, .ref a0)]) [0] rfl ?_
  refine r_aload_n O 0 dX9_keep_0 rfl (Or.inl rfl) ?_
  obtain ⟨x1, ex1, hf⟩ := bnd hf
  refine r_gI O cf9 17 (by decide) rfl fl_X9_244 ex1 dX9_keep_1 ?_
  refine r_bipush O (v := 60) dX9_keep_4 (by decide) ?_
  obtain ⟨h2, hg, hf⟩ := bnd hf
  have hJ : AW p l e { frames := 1, cells := 0, slots := 0, locals := 25 } s m args below meth c G 1 (vx_MQ below (QcN G (.ok none) r) (XcN G (.ok none) r) args s 0 0 (gA G)) h2 0 0 55 [(0, .ref a0)] [] := by
    refine r_aload_n O 0 dX9_keep_55 rfl (Or.inl rfl) ?_
    obtain ⟨x13, ex13, hf⟩ := bnd hf
    refine r_gP O cf9 11 (by decide) rfl fl_X9_36 ex13 dX9_keep_56 ?_
    refine r_iconst O (v := 0) dX9_keep_59 (by decide) ?_
    refine r_aload_n O 0 dX9_keep_60 rfl (Or.inl rfl) ?_
    obtain ⟨x14, ex14, hf⟩ := bnd hf
    refine r_gP O cf9 18 (by decide) rfl fl_X9_49 ex14 dX9_keep_61 ?_
    refine r_aload_n O 0 dX9_keep_64 rfl (Or.inl rfl) ?_
    obtain ⟨x15, ex15, hf⟩ := bnd hf
    refine r_gI O cf9 17 (by decide) rfl fl_X9_244 ex15 dX9_keep_65 ?_
    refine r_sipush O (v := 504) dX9_keep_68 (by decide) ?_
    refine r_imul O dX9_keep_71 ?_
    refine r_sipush O (v := 504) dX9_keep_72 (by decide) ?_
    obtain ⟨h17, eh17, hf⟩ := bnd hf
    refine r_callS (av := [.ref x13, .int 0, .ref x14, .int (x15 * 504), .int 504]) (st := []) O (c_X9_copyInts eh17) mf_X9_copyInts ml_X9_96 ms_X9_copyInts (by decide) (Nat.le_of_ble_eq_true rfl) (by decide) dX9_keep_75 ?_
    refine r_aload_n O 0 dX9_keep_78 rfl (Or.inl rfl) ?_
    obtain ⟨x18, ex18, hf⟩ := bnd hf
    refine r_gP O cf9 13 (by decide) rfl fl_X9_42 ex18 dX9_keep_79 ?_
    refine r_iconst O (v := 0) dX9_keep_82 (by decide) ?_
    refine r_aload_n O 0 dX9_keep_83 rfl (Or.inl rfl) ?_
    obtain ⟨x19, ex19, hf⟩ := bnd hf
    refine r_gP O cf9 19 (by decide) rfl fl_X9_52 ex19 dX9_keep_84 ?_
    refine r_aload_n O 0 dX9_keep_87 rfl (Or.inl rfl) ?_
    obtain ⟨x20, ex20, hf⟩ := bnd hf
    refine r_gI O cf9 17 (by decide) rfl fl_X9_244 ex20 dX9_keep_88 ?_
    refine r_sipush O (v := 258) dX9_keep_91 (by decide) ?_
    refine r_imul O dX9_keep_94 ?_
    refine r_sipush O (v := 258) dX9_keep_95 (by decide) ?_
    obtain ⟨h22, eh22, hf⟩ := bnd hf
    refine r_callS (av := [.ref x18, .int 0, .ref x19, .int (x20 * 258), .int 258]) (st := []) O (c_X9_copyLongs eh22) mf_X9_copyLongs ml_X9_231 ms_X9_copyLongs (by decide) (Nat.le_of_ble_eq_true rfl) (by decide) dX9_keep_98 ?_
    refine r_aload_n O 0 dX9_keep_101 rfl (Or.inl rfl) ?_
    refine r_dup O dX9_keep_102 rfl ?_
    obtain ⟨x23, ex23, hf⟩ := bnd hf
    refine r_gI O cf9 17 (by decide) rfl fl_X9_244 ex23 dX9_keep_103 ?_
    refine r_iconst O (v := 1) dX9_keep_106 (by decide) ?_
    refine r_iadd O dX9_keep_107 ?_
    obtain ⟨h24, eh24, hf⟩ := bnd hf
    refine r_pI O cf9 17 (by decide) rfl fl_X9_244 rfl eh24 dX9_keep_108 ?_
    obtain rfl := Option.some.inj hf
    exact r_vret O hr rfl rfl (by decide) (by decide) dX9_keep_111
  clear hf
  have hf := hg
  clear hg
  by_cases hc : x1 = 60
  · rw [if_pos hc] at hf
    refine r_icmp_ne_f (tgt := 55) O dX9_keep_6 (by decide) hc ?_
    refine r_aload_n O 0 dX9_keep_9 rfl (Or.inl rfl) ?_
    obtain ⟨x3, ex3, hf⟩ := bnd hf
    refine r_gP O cf9 18 (by decide) rfl fl_X9_49 ex3 dX9_keep_10 ?_
    refine r_sipush O (v := 504) dX9_keep_13 (by decide) ?_
    refine r_aload_n O 0 dX9_keep_16 rfl (Or.inl rfl) ?_
    obtain ⟨x4, ex4, hf⟩ := bnd hf
    refine r_gP O cf9 18 (by decide) rfl fl_X9_49 ex4 dX9_keep_17 ?_
    refine r_iconst O (v := 0) dX9_keep_20 (by decide) ?_
    refine r_sipush O (v := 29736) dX9_keep_21 (by decide) ?_
    obtain ⟨h6, eh6, hf⟩ := bnd hf
    refine r_callS (av := [.ref x3, .int 504, .ref x4, .int 0, .int 29736]) (st := []) O (c_X9_copyInts eh6) mf_X9_copyInts ml_X9_96 ms_X9_copyInts (by decide) (Nat.le_of_ble_eq_true rfl) (by decide) dX9_keep_24 ?_
    refine r_aload_n O 0 dX9_keep_27 rfl (Or.inl rfl) ?_
    obtain ⟨x7, ex7, hf⟩ := bnd hf
    refine r_gP O cf9 19 (by decide) rfl fl_X9_52 ex7 dX9_keep_28 ?_
    refine r_sipush O (v := 258) dX9_keep_31 (by decide) ?_
    refine r_aload_n O 0 dX9_keep_34 rfl (Or.inl rfl) ?_
    obtain ⟨x8, ex8, hf⟩ := bnd hf
    refine r_gP O cf9 19 (by decide) rfl fl_X9_52 ex8 dX9_keep_35 ?_
    refine r_iconst O (v := 0) dX9_keep_38 (by decide) ?_
    refine r_sipush O (v := 15222) dX9_keep_39 (by decide) ?_
    obtain ⟨h10, eh10, hf⟩ := bnd hf
    refine r_callS (av := [.ref x7, .int 258, .ref x8, .int 0, .int 15222]) (st := []) O (c_X9_copyLongs eh10) mf_X9_copyLongs ml_X9_231 ms_X9_copyLongs (by decide) (Nat.le_of_ble_eq_true rfl) (by decide) dX9_keep_42 ?_
    refine r_aload_n O 0 dX9_keep_45 rfl (Or.inl rfl) ?_
    refine r_dup O dX9_keep_46 rfl ?_
    obtain ⟨x11, ex11, hf⟩ := bnd hf
    refine r_gI O cf9 17 (by decide) rfl fl_X9_244 ex11 dX9_keep_47 ?_
    refine r_iconst O (v := 1) dX9_keep_50 (by decide) ?_
    refine r_isub O dX9_keep_51 ?_
    obtain ⟨h12, eh12, hf⟩ := bnd hf
    refine r_pI O cf9 17 (by decide) rfl fl_X9_244 rfl eh12 dX9_keep_52 ?_
    obtain rfl := oi1 hf
    refine AW.sub [0] rfl ?_
    exact hJ
  · rw [if_neg hc] at hf
    refine r_icmp_ne_t (tgt := 55) O dX9_keep_6 (by decide) hc ?_
    obtain rfl := oi1 hf
    refine AW.sub [0] rfl ?_
    exact hJ
def f_X9_judge_62 (l0 : Nat) (l1 : Int32) (n : Nat) (h : AH) (l2 : Int32) : Option AH := match n with
| 0 => none
| n + 1 =>
if 258 ≤ l2 then
some h
else
Option.bind (gP h 9 l0 14) fun x10 =>
Option.bind (gP h 9 l0 10) fun x11 =>
Option.bind (f_X9_isCell h l0 x11 l2) fun x12 =>
Option.bind (if x12 = 0 then
some (0 : Int64)
else
if l1 = 0 then
Option.bind (gP h 9 l0 11) fun x15 =>
Option.bind (f_X9_isCell h l0 x15 l2) fun x16 =>
if x16 = 0 then
some (0 : Int64)
else
Option.bind (gP h 9 l0 13) fun x18 =>
Option.bind (ldJ h x18 l2) fun x19 =>
some x19
else
some (0 : Int64)) fun x14 =>
Option.bind (stJ h x10 l2 x14) fun h20 =>
f_X9_judge_62 l0 l1 n h20 (l2 + 1)
def f_X9_judge_121 (l0 : Nat) (l1 : Int32) (n : Nat) (h : AH) (l2 : Int32) : Option ((Int32 × AH) ⊕ AH) := match n with
| 0 => none
| n + 1 =>
Option.bind (gI h 9 l0 36) fun x22 =>
if x22 ≤ l2 then
some (.inr h)
else
Option.bind (gP h 9 l0 37) fun x23 =>
Option.bind (ldI h x23 l2) fun x24 =>
Option.bind (gP h 9 l0 10) fun x25 =>
Option.bind (f_X9_isFrozen h x25 x24) fun x26 =>
if x26 = 0 then
Option.bind (f_X9_isTouched h l0 x24 l1) fun w => match w with
| (x28, h29) =>
if x28 = 0 then
f_X9_judge_121 l0 l1 n h29 (l2 + 1)
else
Option.bind (gP h29 9 l0 10) fun x30 =>
Option.bind (f_X9_work h29 l0 x30 x24) fun w => match w with
| (x31, h32) =>
Option.bind (gI h32 9 l0 28) fun x33 =>
if x33 = (-1) then
Option.bind (gP h32 9 l0 14) fun x34 =>
Option.bind (stJ h32 x34 x24 x31) fun h35 =>
Option.bind (gP h35 9 l0 23) fun x36 =>
Option.bind (gI h35 9 l0 22) fun x37 =>
Option.bind (stI h35 x36 x37 x24) fun h38 =>
Option.bind (gI h38 9 l0 22) fun x39 =>
Option.bind (pI h38 9 l0 22 (x39 + 1)) fun h40 =>
f_X9_judge_121 l0 l1 n h40 (l2 + 1)
else
Option.bind (pI h32 9 l0 27 x24) fun h41 =>
Option.bind (pI h41 9 l0 26 2) fun h42 =>
Option.bind (f_X9_refuse h42 l0 (-2)) fun w => match w with
| (x43, h44) =>
some (.inl (x43, h44))
else
f_X9_judge_121 l0 l1 n h (l2 + 1)
def f_X9_judge (h : AH) (a0 : Nat) (a1 : Int32) : Option (Int32 × AH) :=
if aK h a0 = 9 then
Option.bind (pI h 9 a0 24 0) fun h1 =>
Option.bind (pI h1 9 a0 26 0) fun h2 =>
Option.bind (pI h2 9 a0 27 (-1)) fun h3 =>
Option.bind (pI h3 9 a0 28 (-1)) fun h4 =>
Option.bind (pI h4 9 a0 29 (-1)) fun h5 =>
Option.bind (pI h5 9 a0 22 0) fun h6 =>
Option.bind (gP h6 9 a0 10) fun x7 =>
Option.bind (f_X9_arrange h6 a0 x7) fun w => match w with
| (x8, h9) =>
if x8 = 0 then
Option.bind (gP h9 9 a0 10) fun x69 =>
Option.bind (f_X9_findRing h9 a0 x69) fun h71 =>
Option.bind (pI h71 9 a0 26 1) fun h72 =>
Option.bind (f_X9_refuse h72 a0 (-1)) fun w => match w with
| (x73, h74) =>
some (x73, h74)
else
Option.bind (f_X9_judge_62 a0 a1 FU h9 0) fun h21 =>
Option.bind (f_X9_judge_121 a0 a1 FU h21 0) fun w => match w with
| .inl r9 => some r9
| .inr h45 =>
Option.bind (pI h45 9 a0 29 (-1)) fun h46 =>
Option.bind (if a1 = 0 then
Option.bind (f_X9_keep h46 a0) fun h49 =>
some h49
else
some h46) fun h47 =>
Option.bind (gP h47 9 a0 10) fun x50 =>
Option.bind (gP h47 9 a0 11) fun x51 =>
Option.bind (f_X9_copyInts h47 x50 0 x51 0 504) fun h53 =>
Option.bind (gP h53 9 a0 14) fun x54 =>
Option.bind (gP h53 9 a0 13) fun x55 =>
Option.bind (f_X9_copyLongs h53 x54 0 x55 0 258) fun h57 =>
Option.bind (gI h57 9 a0 22) fun x58 =>
Option.bind (pI h57 9 a0 20 x58) fun h59 =>
Option.bind (gP h59 9 a0 23) fun x60 =>
Option.bind (gP h59 9 a0 21) fun x61 =>
Option.bind (gI h59 9 a0 22) fun x62 =>
Option.bind (f_X9_copyInts h59 x60 0 x61 0 x62) fun h64 =>
Option.bind (gI h64 9 a0 30) fun x65 =>
Option.bind (gI h64 9 a0 22) fun x66 =>
Option.bind (pI h64 9 a0 30 (x65 + x66)) fun h67 =>
Option.bind (gI h67 9 a0 22) fun x68 =>
some (x68, h67)
else none
set_option maxRecDepth 100000 in
set_option maxHeartbeats 4000000 in
theorem s_X9_judge_62 {p : Program} {l : Launch} {e : Env} {s : State} {m : MethodId} {args : Array Value} {below : List Frame} {meth : Method} {c : Code} {G : GT} {Q : State → Prop} (O : OkC p l s m args meth c G cX9_judge 6 RX9) {l0 : Nat} {l1 : Int32} {wh : AH} (kk : AW p l e { frames := 5, cells := 0, slots := 0, locals := 135 } s m args below meth c G 6 Q wh 0 0 119 [(0, .ref l0), (1, .int l1)] []) : ∀ (n : Nat), ∀ (h : AH) (l2 : Int32), f_X9_judge_62 l0 l1 n h l2 = some wh → AW p l e { frames := 5, cells := 0, slots := 0, locals := 135 } s m args below meth c G 6 Q h 0 0 62 [(0, .ref l0), (1, .int l1), (2, .int l2)] [] := by
  intro n
  induction n with
  | zero =>
    intro h l2 hf
    simp [f_X9_judge_62] at hf
  | succ n ih =>
    intro h l2 hf
    unfold f_X9_judge_62 at hf
    refine r_iload_n O 2 dX9_judge_62 rfl ?_
    refine r_sipush O (v := 258) dX9_judge_63 (by decide) ?_
    by_cases hc : 258 ≤ l2
    · rw [if_pos hc] at hf
      refine r_icmp_ge_t (tgt := 119) O dX9_judge_66 (by decide) hc ?_
      obtain rfl := oi1 hf
      refine AW.sub [0, 1] rfl ?_
      exact kk
    · rw [if_neg hc] at hf
      refine r_icmp_ge_f (tgt := 119) O dX9_judge_66 (by decide) hc ?_
      refine r_aload_n O 0 dX9_judge_69 rfl (Or.inl rfl) ?_
      obtain ⟨x10, ex10, hf⟩ := bnd hf
      refine r_gP O cf9 14 (by decide) rfl fl_X9_46 ex10 dX9_judge_70 ?_
      refine r_iload_n O 2 dX9_judge_73 rfl ?_
      refine r_aload_n O 0 dX9_judge_74 rfl (Or.inl rfl) ?_
      refine r_aload_n O 0 dX9_judge_75 rfl (Or.inl rfl) ?_
      obtain ⟨x11, ex11, hf⟩ := bnd hf
      refine r_gP O cf9 10 (by decide) rfl fl_X9_33 ex11 dX9_judge_76 ?_
      refine r_iload_n O 2 dX9_judge_79 rfl ?_
      obtain ⟨x12, ex12, hf⟩ := bnd hf
      refine r_callV (av := [.ref x11, .int l2]) (st := [.int l2, .ref x10]) O (c_X9_isCell ex12) mf_X9_isCell cf9 (kd_X9_isCell ex12) ml_X9_162 mi_X9_isCell mv_X9_isCell (by decide) (Nat.le_of_ble_eq_true rfl) (by decide) dX9_judge_80 ?_
      obtain ⟨x14, hg, hf⟩ := bnd hf
      have hJ : AW p l e { frames := 5, cells := 0, slots := 0, locals := 135 } s m args below meth c G 6 Q h 0 0 112 [(0, .ref l0), (1, .int l1), (2, .int l2)] [.long x14, .int l2, .ref x10] := by
        obtain ⟨h20, eh20, hf⟩ := bnd hf
        refine r_stJ O eh20 dX9_judge_112 ?_
        refine r_iinc O 2 [(2, .int (l2 + 1)), (0, .ref l0), (1, .int l1)] dX9_judge_113 rfl rfl (by decide) rfl ?_
        refine r_goto (tgt := 62) O dX9_judge_116 (by decide) ?_
        refine AW.sub [1, 2, 0] rfl ?_
        exact ih _ _ hf
      clear hf
      have hf := hg
      clear hg
      by_cases hc : x12 = 0
      · rw [if_pos hc] at hf
        refine r_if_eq_t (tgt := 111) O dX9_judge_83 (by decide) hc ?_
        refine r_lconst O (v := 0) dX9_judge_111 (by decide) ?_
        obtain rfl := oi1 hf
        refine AW.sub [0, 1, 2] rfl ?_
        exact hJ
      · rw [if_neg hc] at hf
        refine r_if_eq_f (tgt := 111) O dX9_judge_83 (by decide) hc ?_
        refine r_iload_n O 1 dX9_judge_86 rfl ?_
        by_cases hc : l1 = 0
        · rw [if_pos hc] at hf
          refine r_if_ne_f (tgt := 111) O dX9_judge_87 (by decide) hc ?_
          refine r_aload_n O 0 dX9_judge_90 rfl (Or.inl rfl) ?_
          refine r_aload_n O 0 dX9_judge_91 rfl (Or.inl rfl) ?_
          obtain ⟨x15, ex15, hf⟩ := bnd hf
          refine r_gP O cf9 11 (by decide) rfl fl_X9_36 ex15 dX9_judge_92 ?_
          refine r_iload_n O 2 dX9_judge_95 rfl ?_
          obtain ⟨x16, ex16, hf⟩ := bnd hf
          refine r_callV (av := [.ref x15, .int l2]) (st := [.int l2, .ref x10]) O (c_X9_isCell ex16) mf_X9_isCell cf9 (kd_X9_isCell ex16) ml_X9_162 mi_X9_isCell mv_X9_isCell (by decide) (Nat.le_of_ble_eq_true rfl) (by decide) dX9_judge_96 ?_
          by_cases hc : x16 = 0
          · rw [if_pos hc] at hf
            refine r_if_eq_t (tgt := 111) O dX9_judge_99 (by decide) hc ?_
            refine r_lconst O (v := 0) dX9_judge_111 (by decide) ?_
            obtain rfl := oi1 hf
            refine AW.sub [0, 1, 2] rfl ?_
            exact hJ
          · rw [if_neg hc] at hf
            refine r_if_eq_f (tgt := 111) O dX9_judge_99 (by decide) hc ?_
            refine r_aload_n O 0 dX9_judge_102 rfl (Or.inl rfl) ?_
            obtain ⟨x18, ex18, hf⟩ := bnd hf
            refine r_gP O cf9 13 (by decide) rfl fl_X9_42 ex18 dX9_judge_103 ?_
            refine r_iload_n O 2 dX9_judge_106 rfl ?_
            obtain ⟨x19, ex19, hf⟩ := bnd hf
            refine r_ldJ O ex19 dX9_judge_107 ?_
            refine r_goto (tgt := 112) O dX9_judge_108 (by decide) ?_
            obtain rfl := oi1 hf
            refine AW.sub [0, 1, 2] rfl ?_
            exact hJ
        · rw [if_neg hc] at hf
          refine r_if_ne_t (tgt := 111) O dX9_judge_87 (by decide) hc ?_
          refine r_lconst O (v := 0) dX9_judge_111 (by decide) ?_
          obtain rfl := oi1 hf
          refine AW.sub [0, 1, 2] rfl ?_
          exact hJ
set_option maxRecDepth 100000 in
set_option maxHeartbeats 4000000 in
theorem s_X9_judge_121 {p : Program} {l : Launch} {e : Env} {s : State} {m : MethodId} {args : Array Value} {below : List Frame} {meth : Method} {c : Code} {G : GT} {o : Except Nat (Option Value)} {h9 : AH} (O : OkC p l s m args meth c G cX9_judge 6 RX9) (hr : meth.sig.returnType = (some .int)) {l0 : Nat} {l1 : Int32} {w : ((Int32 × AH) ⊕ AH)} (he : ∀ r, w = .inl r → o = (.ok (some (.int r.1))) ∧ h9 = r.2) (kk : ∀ (wh : AH), w = .inr wh → AW p l e { frames := 5, cells := 0, slots := 0, locals := 135 } s m args below meth c G 6 (vx_MQ below (QcN G o h9) (XcN G o h9) args s 0 0 (gA G)) wh 0 0 229 [(0, .ref l0), (1, .int l1)] []) : ∀ (n : Nat), ∀ (h : AH) (l2 : Int32), f_X9_judge_121 l0 l1 n h l2 = some w → AW p l e { frames := 5, cells := 0, slots := 0, locals := 135 } s m args below meth c G 6 (vx_MQ below (QcN G o h9) (XcN G o h9) args s 0 0 (gA G)) h 0 0 121 [(0, .ref l0), (1, .int l1), (2, .int l2)] [] := by
  intro n
  induction n with
  | zero =>
    intro h l2 hf
    simp [f_X9_judge_121] at hf
  | succ n ih =>
    intro h l2 hf
    unfold f_X9_judge_121 at hf
    refine r_iload_n O 2 dX9_judge_121 rfl ?_
    refine r_aload_n O 0 dX9_judge_122 rfl (Or.inl rfl) ?_
    obtain ⟨x22, ex22, hf⟩ := bnd hf
    refine r_gI O cf9 36 (by decide) rfl fl_X9_172 ex22 dX9_judge_123 ?_
    by_cases hc : x22 ≤ l2
    · rw [if_pos hc] at hf
      refine r_icmp_ge_t (tgt := 229) O dX9_judge_126 (by decide) hc ?_
      obtain rfl := Option.some.inj hf
      refine AW.sub [0, 1] rfl ?_
      exact kk _ rfl
    · rw [if_neg hc] at hf
      refine r_icmp_ge_f (tgt := 229) O dX9_judge_126 (by decide) hc ?_
      refine r_aload_n O 0 dX9_judge_129 rfl (Or.inl rfl) ?_
      obtain ⟨x23, ex23, hf⟩ := bnd hf
      refine r_gP O cf9 37 (by decide) rfl fl_X9_79 ex23 dX9_judge_130 ?_
      refine r_iload_n O 2 dX9_judge_133 rfl ?_
      obtain ⟨x24, ex24, hf⟩ := bnd hf
      refine r_ldI O ex24 dX9_judge_134 ?_
      refine r_istore_n O [(3, .int x24), (0, .ref l0), (1, .int l1), (2, .int l2)] dX9_judge_135 (by decide) rfl ?_
      refine r_aload_n O 1 dX9_judge_136 rfl (Or.inl rfl) ?_
      obtain ⟨x25, ex25, hf⟩ := bnd hf
      refine r_gP O cf9 10 (by decide) rfl fl_X9_33 ex25 dX9_judge_137 ?_
      refine r_iload_n O 0 dX9_judge_140 rfl ?_
      obtain ⟨x26, ex26, hf⟩ := bnd hf
      refine r_callS (av := [.ref x25, .int x24]) (st := []) O (c_X9_isFrozen ex26) mf_X9_isFrozen ml_X9_148 ms_X9_isFrozen (by decide) (Nat.le_of_ble_eq_true rfl) (by decide) dX9_judge_141 ?_
      by_cases hc : x26 = 0
      · rw [if_pos hc] at hf
        refine r_if_ne_f (tgt := 223) O dX9_judge_144 (by decide) hc ?_
        refine r_aload_n O 1 dX9_judge_147 rfl (Or.inl rfl) ?_
        refine r_iload_n O 0 dX9_judge_148 rfl ?_
        refine r_iload_n O 2 dX9_judge_149 rfl ?_
        obtain ⟨⟨x28, h29⟩, ex28, hf⟩ := bnd hf
        dsimp only at hf
        refine r_callV (av := [.int x24, .int l1]) (st := []) O (c_X9_isTouched ex28) mf_X9_isTouched cf9 (kd_X9_isTouched ex28) ml_X9_220 mi_X9_isTouched mv_X9_isTouched (by decide) (Nat.le_of_ble_eq_true rfl) (by decide) dX9_judge_150 ?_
        by_cases hc : x28 = 0
        · rw [if_pos hc] at hf
          refine r_if_ne_f (tgt := 159) O dX9_judge_153 (by decide) hc ?_
          refine r_goto (tgt := 223) O dX9_judge_156 (by decide) ?_
          refine r_iinc O 3 [(2, .int (l2 + 1)), (3, .int x24), (0, .ref l0), (1, .int l1)] dX9_judge_223 rfl rfl (by decide) rfl ?_
          refine r_goto (tgt := 121) O dX9_judge_226 (by decide) ?_
          refine AW.sub [2, 3, 0] rfl ?_
          exact ih _ _ hf
        · rw [if_neg hc] at hf
          refine r_if_ne_t (tgt := 159) O dX9_judge_153 (by decide) hc ?_
          refine r_aload_n O 1 dX9_judge_159 rfl (Or.inl rfl) ?_
          refine r_aload_n O 1 dX9_judge_160 rfl (Or.inl rfl) ?_
          obtain ⟨x30, ex30, hf⟩ := bnd hf
          refine r_gP O cf9 10 (by decide) rfl fl_X9_33 ex30 dX9_judge_161 ?_
          refine r_iload_n O 0 dX9_judge_164 rfl ?_
          obtain ⟨⟨x31, h32⟩, ex31, hf⟩ := bnd hf
          dsimp only at hf
          refine r_callV (av := [.ref x30, .int x24]) (st := []) O (c_X9_work ex31) mf_X9_work cf9 (kd_X9_work ex31) ml_X9_224 mi_X9_work mv_X9_work (by decide) (Nat.le_of_ble_eq_true rfl) (by decide) dX9_judge_165 ?_
          refine r_lstore O [(4, .long x31), (3, .int x24), (0, .ref l0), (1, .int l1), (2, .int l2)] dX9_judge_168 (by decide) rfl ?_
          refine r_aload_n O 2 dX9_judge_170 rfl (Or.inl rfl) ?_
          obtain ⟨x33, ex33, hf⟩ := bnd hf
          refine r_gI O cf9 28 (by decide) rfl fl_X9_67 ex33 dX9_judge_171 ?_
          refine r_iconst O (v := -1) dX9_judge_174 (by decide) ?_
          by_cases hc : x33 = (-1)
          · rw [if_pos hc] at hf
            refine r_icmp_eq_t (tgt := 195) O dX9_judge_175 (by decide) hc ?_
            refine r_aload_n O 2 dX9_judge_195 rfl (Or.inl rfl) ?_
            obtain ⟨x34, ex34, hf⟩ := bnd hf
            refine r_gP O cf9 14 (by decide) rfl fl_X9_46 ex34 dX9_judge_196 ?_
            refine r_iload_n O 1 dX9_judge_199 rfl ?_
            refine r_lload O 0 dX9_judge_200 rfl ?_
            obtain ⟨h35, eh35, hf⟩ := bnd hf
            refine r_stJ O eh35 dX9_judge_202 ?_
            refine r_aload_n O 2 dX9_judge_203 rfl (Or.inl rfl) ?_
            obtain ⟨x36, ex36, hf⟩ := bnd hf
            refine r_gP O cf9 23 (by decide) rfl fl_X9_58 ex36 dX9_judge_204 ?_
            refine r_aload_n O 2 dX9_judge_207 rfl (Or.inl rfl) ?_
            obtain ⟨x37, ex37, hf⟩ := bnd hf
            refine r_gI O cf9 22 (by decide) rfl fl_X9_206 ex37 dX9_judge_208 ?_
            refine r_iload_n O 1 dX9_judge_211 rfl ?_
            obtain ⟨h38, eh38, hf⟩ := bnd hf
            refine r_stI O eh38 dX9_judge_212 ?_
            refine r_aload_n O 2 dX9_judge_213 rfl (Or.inl rfl) ?_
            refine r_dup O dX9_judge_214 rfl ?_
            obtain ⟨x39, ex39, hf⟩ := bnd hf
            refine r_gI O cf9 22 (by decide) rfl fl_X9_206 ex39 dX9_judge_215 ?_
            refine r_iconst O (v := 1) dX9_judge_218 (by decide) ?_
            refine r_iadd O dX9_judge_219 ?_
            obtain ⟨h40, eh40, hf⟩ := bnd hf
            refine r_pI O cf9 22 (by decide) rfl fl_X9_206 rfl eh40 dX9_judge_220 ?_
            refine r_iinc O 4 [(2, .int (l2 + 1)), (4, .long x31), (3, .int x24), (0, .ref l0), (1, .int l1)] dX9_judge_223 rfl rfl (by decide) rfl ?_
            refine r_goto (tgt := 121) O dX9_judge_226 (by decide) ?_
            refine AW.sub [3, 4, 0] rfl ?_
            exact ih _ _ hf
          · rw [if_neg hc] at hf
            refine r_icmp_eq_f (tgt := 195) O dX9_judge_175 (by decide) hc ?_
            refine r_aload_n O 2 dX9_judge_178 rfl (Or.inl rfl) ?_
            refine r_iload_n O 1 dX9_judge_179 rfl ?_
            obtain ⟨h41, eh41, hf⟩ := bnd hf
            refine r_pI O cf9 27 (by decide) rfl fl_X9_64 rfl eh41 dX9_judge_180 ?_
            refine r_aload_n O 2 dX9_judge_183 rfl (Or.inl rfl) ?_
            refine r_iconst O (v := 2) dX9_judge_184 (by decide) ?_
            obtain ⟨h42, eh42, hf⟩ := bnd hf
            refine r_pI O cf9 26 (by decide) rfl fl_X9_203 rfl eh42 dX9_judge_185 ?_
            refine r_aload_n O 2 dX9_judge_188 rfl (Or.inl rfl) ?_
            refine r_bipush O (v := -2) dX9_judge_189 (by decide) ?_
            obtain ⟨⟨x43, h44⟩, ex43, hf⟩ := bnd hf
            dsimp only at hf
            refine r_callV (av := [.int (-2)]) (st := []) O (c_X9_refuse ex43) mf_X9_refuse cf9 (kd_X9_refuse ex43) ml_X9_217 mi_X9_refuse mv_X9_refuse (by decide) (Nat.le_of_ble_eq_true rfl) (by decide) dX9_judge_191 ?_
            obtain rfl := Option.some.inj hf
            obtain ⟨ho, hh⟩ := he _ rfl
            exact r_iret O hr ho hh.symm (by decide) (by decide) dX9_judge_194
      · rw [if_neg hc] at hf
        refine r_if_ne_t (tgt := 223) O dX9_judge_144 (by decide) hc ?_
        refine r_iinc O 3 [(2, .int (l2 + 1)), (3, .int x24), (0, .ref l0), (1, .int l1)] dX9_judge_223 rfl rfl (by decide) rfl ?_
        refine r_goto (tgt := 121) O dX9_judge_226 (by decide) ?_
        refine AW.sub [2, 3, 0] rfl ?_
        exact ih _ _ hf
theorem kd_X9_judge {h : AH} {a0 : Nat} {a1 : Int32} {r : (Int32 × AH)} (hf : f_X9_judge h a0 a1 = some r) : aK h a0 = 9 := by
  unfold f_X9_judge at hf
  exact (ifk hf).1
set_option maxRecDepth 100000 in
set_option maxHeartbeats 4000000 in
theorem c_X9_judge {l : Launch} {G : GT} {h : AH} {a0 : Nat} {a1 : Int32} {r : (Int32 × AH)} (hf : f_X9_judge h a0 a1 = some r) : Cn l yX9_judge cX9_judge 6 (some .int) 5 135 0 0 G h [.ref a0, .int a1] (.ok (some (.int r.1))) r.2 := by
  refine Cn.of (by decide) (Nat.le_of_ble_eq_true rfl) ?_
  intro p e s m args below meth c O hr hx hin
  have O : OkC p l s m args meth c G cX9_judge 6 RX9 := O
  unfold f_X9_judge at hf
  obtain ⟨hk0, hf⟩ := ifk hf
  refine AW.sub (lv' := [(0, .ref a0), (1, .int a1)]) [0, 1] rfl ?_
  refine r_aload_n O 0 dX9_judge_0 rfl (Or.inl rfl) ?_
  refine r_iconst O (v := 0) dX9_judge_1 (by decide) ?_
  obtain ⟨h1, eh1, hf⟩ := bnd hf
  refine r_pI O cf9 24 (by decide) rfl fl_X9_181 rfl eh1 dX9_judge_2 ?_
  refine r_aload_n O 0 dX9_judge_5 rfl (Or.inl rfl) ?_
  refine r_iconst O (v := 0) dX9_judge_6 (by decide) ?_
  obtain ⟨h2, eh2, hf⟩ := bnd hf
  refine r_pI O cf9 26 (by decide) rfl fl_X9_203 rfl eh2 dX9_judge_7 ?_
  refine r_aload_n O 0 dX9_judge_10 rfl (Or.inl rfl) ?_
  refine r_iconst O (v := -1) dX9_judge_11 (by decide) ?_
  obtain ⟨h3, eh3, hf⟩ := bnd hf
  refine r_pI O cf9 27 (by decide) rfl fl_X9_64 rfl eh3 dX9_judge_12 ?_
  refine r_aload_n O 0 dX9_judge_15 rfl (Or.inl rfl) ?_
  refine r_iconst O (v := -1) dX9_judge_16 (by decide) ?_
  obtain ⟨h4, eh4, hf⟩ := bnd hf
  refine r_pI O cf9 28 (by decide) rfl fl_X9_67 rfl eh4 dX9_judge_17 ?_
  refine r_aload_n O 0 dX9_judge_20 rfl (Or.inl rfl) ?_
  refine r_iconst O (v := -1) dX9_judge_21 (by decide) ?_
  obtain ⟨h5, eh5, hf⟩ := bnd hf
  refine r_pI O cf9 29 (by decide) rfl fl_X9_70 rfl eh5 dX9_judge_22 ?_
  refine r_aload_n O 0 dX9_judge_25 rfl (Or.inl rfl) ?_
  refine r_iconst O (v := 0) dX9_judge_26 (by decide) ?_
  obtain ⟨h6, eh6, hf⟩ := bnd hf
  refine r_pI O cf9 22 (by decide) rfl fl_X9_206 rfl eh6 dX9_judge_27 ?_
  refine r_aload_n O 0 dX9_judge_30 rfl (Or.inl rfl) ?_
  refine r_aload_n O 0 dX9_judge_31 rfl (Or.inl rfl) ?_
  obtain ⟨x7, ex7, hf⟩ := bnd hf
  refine r_gP O cf9 10 (by decide) rfl fl_X9_33 ex7 dX9_judge_32 ?_
  obtain ⟨⟨x8, h9⟩, ex8, hf⟩ := bnd hf
  dsimp only at hf
  refine r_callV (av := [.ref x7]) (st := []) O (c_X9_arrange ex8) mf_X9_arrange cf9 (kd_X9_arrange ex8) ml_X9_209 mi_X9_arrange mv_X9_arrange (by decide) (Nat.le_of_ble_eq_true rfl) (by decide) dX9_judge_35 ?_
  by_cases hc : x8 = 0
  · rw [if_pos hc] at hf
    refine r_if_ne_f (tgt := 60) O dX9_judge_38 (by decide) hc ?_
    refine r_aload_n O 0 dX9_judge_41 rfl (Or.inl rfl) ?_
    refine r_aload_n O 0 dX9_judge_42 rfl (Or.inl rfl) ?_
    obtain ⟨x69, ex69, hf⟩ := bnd hf
    refine r_gP O cf9 10 (by decide) rfl fl_X9_33 ex69 dX9_judge_43 ?_
    obtain ⟨h71, eh71, hf⟩ := bnd hf
    refine r_callV (av := [.ref x69]) (st := []) O (c_X9_findRing eh71) mf_X9_findRing cf9 (kd_X9_findRing eh71) ml_X9_213 mi_X9_findRing mv_X9_findRing (by decide) (Nat.le_of_ble_eq_true rfl) (by decide) dX9_judge_46 ?_
    refine r_aload_n O 0 dX9_judge_49 rfl (Or.inl rfl) ?_
    refine r_iconst O (v := 1) dX9_judge_50 (by decide) ?_
    obtain ⟨h72, eh72, hf⟩ := bnd hf
    refine r_pI O cf9 26 (by decide) rfl fl_X9_203 rfl eh72 dX9_judge_51 ?_
    refine r_aload_n O 0 dX9_judge_54 rfl (Or.inl rfl) ?_
    refine r_iconst O (v := -1) dX9_judge_55 (by decide) ?_
    obtain ⟨⟨x73, h74⟩, ex73, hf⟩ := bnd hf
    dsimp only at hf
    refine r_callV (av := [.int (-1)]) (st := []) O (c_X9_refuse ex73) mf_X9_refuse cf9 (kd_X9_refuse ex73) ml_X9_217 mi_X9_refuse mv_X9_refuse (by decide) (Nat.le_of_ble_eq_true rfl) (by decide) dX9_judge_56 ?_
    obtain rfl := Option.some.inj hf
    exact r_iret O hr rfl rfl (by decide) (by decide) dX9_judge_59
  · rw [if_neg hc] at hf
    refine r_if_ne_t (tgt := 60) O dX9_judge_38 (by decide) hc ?_
    refine r_iconst O (v := 0) dX9_judge_60 (by decide) ?_
    refine r_istore_n O [(2, .int 0), (0, .ref a0), (1, .int a1)] dX9_judge_61 (by decide) rfl ?_
    obtain ⟨h21, hw, hf⟩ := bnd hf
    refine AW.sub [1, 2, 0] rfl ?_
    refine s_X9_judge_62 O ?_ _ _ _ hw
    refine r_iconst O (v := 0) dX9_judge_119 (by decide) ?_
    refine r_istore_n O [(2, .int 0), (0, .ref a0), (1, .int a1)] dX9_judge_120 (by decide) rfl ?_
    obtain ⟨w9, hw, hf⟩ := bnd hf
    refine AW.sub [1, 2, 0] rfl ?_
    refine s_X9_judge_121 O hr (w := w9) ?_ ?_ _ _ _ hw
    · intro r9 hr9
      subst hr9
      dsimp only at hf
      obtain rfl := Option.some.inj hf
      exact ⟨rfl, rfl⟩
    · intro h45 hw9
      subst hw9
      dsimp only at hf
      refine r_aload_n O 0 dX9_judge_229 rfl (Or.inl rfl) ?_
      refine r_iconst O (v := -1) dX9_judge_230 (by decide) ?_
      obtain ⟨h46, eh46, hf⟩ := bnd hf
      refine r_pI O cf9 29 (by decide) rfl fl_X9_70 rfl eh46 dX9_judge_231 ?_
      refine r_iload_n O 1 dX9_judge_234 rfl ?_
      obtain ⟨h47, hg, hf⟩ := bnd hf
      have hJ : AW p l e { frames := 5, cells := 0, slots := 0, locals := 135 } s m args below meth c G 6 (vx_MQ below (QcN G (.ok (some (.int r.1))) r.2) (XcN G (.ok (some (.int r.1))) r.2) args s 0 0 (gA G)) h47 0 0 242 [(0, .ref a0)] [] := by
        refine r_aload_n O 0 dX9_judge_242 rfl (Or.inl rfl) ?_
        obtain ⟨x50, ex50, hf⟩ := bnd hf
        refine r_gP O cf9 10 (by decide) rfl fl_X9_33 ex50 dX9_judge_243 ?_
        refine r_iconst O (v := 0) dX9_judge_246 (by decide) ?_
        refine r_aload_n O 0 dX9_judge_247 rfl (Or.inl rfl) ?_
        obtain ⟨x51, ex51, hf⟩ := bnd hf
        refine r_gP O cf9 11 (by decide) rfl fl_X9_36 ex51 dX9_judge_248 ?_
        refine r_iconst O (v := 0) dX9_judge_251 (by decide) ?_
        refine r_sipush O (v := 504) dX9_judge_252 (by decide) ?_
        obtain ⟨h53, eh53, hf⟩ := bnd hf
        refine r_callS (av := [.ref x50, .int 0, .ref x51, .int 0, .int 504]) (st := []) O (c_X9_copyInts eh53) mf_X9_copyInts ml_X9_96 ms_X9_copyInts (by decide) (Nat.le_of_ble_eq_true rfl) (by decide) dX9_judge_255 ?_
        refine r_aload_n O 0 dX9_judge_258 rfl (Or.inl rfl) ?_
        obtain ⟨x54, ex54, hf⟩ := bnd hf
        refine r_gP O cf9 14 (by decide) rfl fl_X9_46 ex54 dX9_judge_259 ?_
        refine r_iconst O (v := 0) dX9_judge_262 (by decide) ?_
        refine r_aload_n O 0 dX9_judge_263 rfl (Or.inl rfl) ?_
        obtain ⟨x55, ex55, hf⟩ := bnd hf
        refine r_gP O cf9 13 (by decide) rfl fl_X9_42 ex55 dX9_judge_264 ?_
        refine r_iconst O (v := 0) dX9_judge_267 (by decide) ?_
        refine r_sipush O (v := 258) dX9_judge_268 (by decide) ?_
        obtain ⟨h57, eh57, hf⟩ := bnd hf
        refine r_callS (av := [.ref x54, .int 0, .ref x55, .int 0, .int 258]) (st := []) O (c_X9_copyLongs eh57) mf_X9_copyLongs ml_X9_231 ms_X9_copyLongs (by decide) (Nat.le_of_ble_eq_true rfl) (by decide) dX9_judge_271 ?_
        refine r_aload_n O 0 dX9_judge_274 rfl (Or.inl rfl) ?_
        refine r_aload_n O 0 dX9_judge_275 rfl (Or.inl rfl) ?_
        obtain ⟨x58, ex58, hf⟩ := bnd hf
        refine r_gI O cf9 22 (by decide) rfl fl_X9_206 ex58 dX9_judge_276 ?_
        obtain ⟨h59, eh59, hf⟩ := bnd hf
        refine r_pI O cf9 20 (by decide) rfl fl_X9_235 rfl eh59 dX9_judge_279 ?_
        refine r_aload_n O 0 dX9_judge_282 rfl (Or.inl rfl) ?_
        obtain ⟨x60, ex60, hf⟩ := bnd hf
        refine r_gP O cf9 23 (by decide) rfl fl_X9_58 ex60 dX9_judge_283 ?_
        refine r_iconst O (v := 0) dX9_judge_286 (by decide) ?_
        refine r_aload_n O 0 dX9_judge_287 rfl (Or.inl rfl) ?_
        obtain ⟨x61, ex61, hf⟩ := bnd hf
        refine r_gP O cf9 21 (by decide) rfl fl_X9_55 ex61 dX9_judge_288 ?_
        refine r_iconst O (v := 0) dX9_judge_291 (by decide) ?_
        refine r_aload_n O 0 dX9_judge_292 rfl (Or.inl rfl) ?_
        obtain ⟨x62, ex62, hf⟩ := bnd hf
        refine r_gI O cf9 22 (by decide) rfl fl_X9_206 ex62 dX9_judge_293 ?_
        obtain ⟨h64, eh64, hf⟩ := bnd hf
        refine r_callS (av := [.ref x60, .int 0, .ref x61, .int 0, .int x62]) (st := []) O (c_X9_copyInts eh64) mf_X9_copyInts ml_X9_96 ms_X9_copyInts (by decide) (Nat.le_of_ble_eq_true rfl) (by decide) dX9_judge_296 ?_
        refine r_aload_n O 0 dX9_judge_299 rfl (Or.inl rfl) ?_
        refine r_dup O dX9_judge_300 rfl ?_
        obtain ⟨x65, ex65, hf⟩ := bnd hf
        refine r_gI O cf9 30 (by decide) rfl fl_X9_238 ex65 dX9_judge_301 ?_
        refine r_aload_n O 0 dX9_judge_304 rfl (Or.inl rfl) ?_
        obtain ⟨x66, ex66, hf⟩ := bnd hf
        refine r_gI O cf9 22 (by decide) rfl fl_X9_206 ex66 dX9_judge_305 ?_
        refine r_iadd O dX9_judge_308 ?_
        obtain ⟨h67, eh67, hf⟩ := bnd hf
        refine r_pI O cf9 30 (by decide) rfl fl_X9_238 rfl eh67 dX9_judge_309 ?_
        refine r_aload_n O 0 dX9_judge_312 rfl (Or.inl rfl) ?_
        obtain ⟨x68, ex68, hf⟩ := bnd hf
        refine r_gI O cf9 22 (by decide) rfl fl_X9_206 ex68 dX9_judge_313 ?_
        obtain rfl := Option.some.inj hf
        exact r_iret O hr rfl rfl (by decide) (by decide) dX9_judge_316
      clear hf
      have hf := hg
      clear hg
      by_cases hc : a1 = 0
      · rw [if_pos hc] at hf
        refine r_if_ne_f (tgt := 242) O dX9_judge_235 (by decide) hc ?_
        refine r_aload_n O 0 dX9_judge_238 rfl (Or.inl rfl) ?_
        obtain ⟨h49, eh49, hf⟩ := bnd hf
        refine r_callV (av := []) (st := []) O (c_X9_keep eh49) mf_X9_keep cf9 (kd_X9_keep eh49) ml_X9_228 mi_X9_keep mv_X9_keep (by decide) (Nat.le_of_ble_eq_true rfl) (by decide) dX9_judge_239 ?_
        obtain rfl := oi1 hf
        refine AW.sub [0] rfl ?_
        exact hJ
      · rw [if_neg hc] at hf
        refine r_if_ne_t (tgt := 242) O dX9_judge_235 (by decide) hc ?_
        obtain rfl := oi1 hf
        refine AW.sub [0] rfl ?_
        exact hJ
def f_X9_open (h : AH) (a0 : Nat) : Option (Int32 × AH) :=
if aK h a0 = 9 then
Option.bind (pI h 9 a0 0 0) fun h1 =>
Option.bind (gI h1 9 a0 1) fun x2 =>
if x2 = 0 then
Option.bind (f_X9_fail h1 a0 1) fun w => match w with
| (x8, h9) =>
some (x8, h9)
else
Option.bind (pZ h1 9 a0 1 0) fun h3 =>
Option.bind (f_X9_judge h3 a0 1) fun w => match w with
| (x4, h5) =>
Option.bind (if 0 ≤ x4 then
some (0 : Int32)
else
some (1 : Int32)) fun x6 =>
Option.bind (pZ h5 9 a0 1 x6) fun h7 =>
some (x4, h7)
else none
theorem kd_X9_open {h : AH} {a0 : Nat} {r : (Int32 × AH)} (hf : f_X9_open h a0 = some r) : aK h a0 = 9 := by
  unfold f_X9_open at hf
  exact (ifk hf).1
set_option maxRecDepth 100000 in
set_option maxHeartbeats 4000000 in
theorem c_X9_open {l : Launch} {G : GT} {h : AH} {a0 : Nat} {r : (Int32 × AH)} (hf : f_X9_open h a0 = some r) : Cn l yX9_open cX9_open 2 (some .int) 6 160 0 0 G h [.ref a0] (.ok (some (.int r.1))) r.2 := by
  refine Cn.of (by decide) (Nat.le_of_ble_eq_true rfl) ?_
  intro p e s m args below meth c O hr hx hin
  have O : OkC p l s m args meth c G cX9_open 2 RX9 := O
  unfold f_X9_open at hf
  obtain ⟨hk0, hf⟩ := ifk hf
  refine AW.sub (lv' := [(0, .ref a0)]) [0] rfl ?_
  refine r_aload_n O 0 dX9_open_0 rfl (Or.inl rfl) ?_
  refine r_iconst O (v := 0) dX9_open_1 (by decide) ?_
  obtain ⟨h1, eh1, hf⟩ := bnd hf
  refine r_pI O cf9 0 (by decide) rfl fl_X9_1 rfl eh1 dX9_open_2 ?_
  refine r_aload_n O 0 dX9_open_5 rfl (Or.inl rfl) ?_
  obtain ⟨x2, ex2, hf⟩ := bnd hf
  refine r_gI O cf9 1 (by decide) rfl fl_X9_13 ex2 dX9_open_6 ?_
  by_cases hc : x2 = 0
  · rw [if_pos hc] at hf
    refine r_if_ne_f (tgt := 18) O dX9_open_9 (by decide) hc ?_
    refine r_aload_n O 0 dX9_open_12 rfl (Or.inl rfl) ?_
    refine r_iconst O (v := 1) dX9_open_13 (by decide) ?_
    obtain ⟨⟨x8, h9⟩, ex8, hf⟩ := bnd hf
    dsimp only at hf
    refine r_callV (av := [.int 1]) (st := []) O (c_X9_fail ex8) mf_X9_fail cf9 (kd_X9_fail ex8) ml_X9_106 mi_X9_fail mv_X9_fail (by decide) (Nat.le_of_ble_eq_true rfl) (by decide) dX9_open_14 ?_
    obtain rfl := Option.some.inj hf
    exact r_iret O hr rfl rfl (by decide) (by decide) dX9_open_17
  · rw [if_neg hc] at hf
    refine r_if_ne_t (tgt := 18) O dX9_open_9 (by decide) hc ?_
    refine r_aload_n O 0 dX9_open_18 rfl (Or.inl rfl) ?_
    refine r_iconst O (v := 0) dX9_open_19 (by decide) ?_
    obtain ⟨h3, eh3, hf⟩ := bnd hf
    refine r_pZ O cf9 1 (by decide) rfl fl_X9_13 rfl eh3 dX9_open_20 ?_
    refine r_aload_n O 0 dX9_open_23 rfl (Or.inl rfl) ?_
    refine r_iconst O (v := 1) dX9_open_24 (by decide) ?_
    obtain ⟨⟨x4, h5⟩, ex4, hf⟩ := bnd hf
    dsimp only at hf
    refine r_callV (av := [.int 1]) (st := []) O (c_X9_judge ex4) mf_X9_judge cf9 (kd_X9_judge ex4) ml_X9_123 mi_X9_judge mv_X9_judge (by decide) (Nat.le_of_ble_eq_true rfl) (by decide) dX9_open_25 ?_
    refine r_istore_n O [(1, .int x4), (0, .ref a0)] dX9_open_28 (by decide) rfl ?_
    refine r_aload_n O 1 dX9_open_29 rfl (Or.inl rfl) ?_
    refine r_iload_n O 0 dX9_open_30 rfl ?_
    obtain ⟨x6, hg, hf⟩ := bnd hf
    have hJ : AW p l e { frames := 6, cells := 0, slots := 0, locals := 160 } s m args below meth c G 2 (vx_MQ below (QcN G (.ok (some (.int r.1))) r.2) (XcN G (.ok (some (.int r.1))) r.2) args s 0 0 (gA G)) h5 0 0 39 [(1, .int x4)] [.int x6, .ref a0] := by
      obtain ⟨h7, eh7, hf⟩ := bnd hf
      refine r_pZ O cf9 1 (by decide) rfl fl_X9_13 rfl eh7 dX9_open_39 ?_
      refine r_iload_n O 0 dX9_open_42 rfl ?_
      obtain rfl := Option.some.inj hf
      exact r_iret O hr rfl rfl (by decide) (by decide) dX9_open_43
    clear hf
    have hf := hg
    clear hg
    by_cases hc : 0 ≤ x4
    · rw [if_pos hc] at hf
      refine r_if_ge_t (tgt := 38) O dX9_open_31 (by decide) hc ?_
      refine r_iconst O (v := 0) dX9_open_38 (by decide) ?_
      obtain rfl := oi1 hf
      refine AW.sub [0] rfl ?_
      exact hJ
    · rw [if_neg hc] at hf
      refine r_if_ge_f (tgt := 38) O dX9_open_31 (by decide) hc ?_
      refine r_iconst O (v := 1) dX9_open_34 (by decide) ?_
      refine r_goto (tgt := 39) O dX9_open_35 (by decide) ?_
      obtain rfl := oi1 hf
      refine AW.sub [0] rfl ?_
      exact hJ
def f_X9_done_97 (l0 : Nat) (l1 : Int32) (n : Nat) (h : AH) (l2 : Int32) (l3 : Int32) : Option Int32 := match n with
| 0 => none
| n + 1 =>
if 4 ≤ l3 then
some l2
else
Option.bind (gP h 9 l0 12) fun x20 =>
Option.bind (ldI h x20 ((0 + (4 * l1)) + l3)) fun x21 =>
Option.bind (gP h 9 l0 10) fun x22 =>
Option.bind (ldI h x22 ((0 + (4 * l1)) + l3)) fun x23 =>
Option.bind (if x21 = x23 then
some (1 : Int32)
else
some (0 : Int32)) fun x24 =>
f_X9_done_97 l0 l1 n h (l2 &&& x24) (l3 + 1)
def f_X9_done_2 (l0 : Nat) (n : Nat) (h : AH) (l1 : Int32) : Option ((Int32 × AH) ⊕ Unit) := match n with
| 0 => none
| n + 1 =>
Option.bind (gI h 9 l0 2) fun x1 =>
if x1 ≤ l1 then
some (.inr ())
else
Option.bind (gP h 9 l0 10) fun x2 =>
Option.bind (f_X9_isFrozenThing h x2 l1) fun x3 =>
if x3 = 0 then
f_X9_done_2 l0 n h (l1 + 1)
else
Option.bind (gP h 9 l0 12) fun x5 =>
Option.bind (ldI h x5 (212 + l1)) fun x6 =>
Option.bind (gP h 9 l0 10) fun x7 =>
Option.bind (ldI h x7 (212 + l1)) fun x8 =>
Option.bind (if x6 = x8 then
Option.bind (gP h 9 l0 12) fun x10 =>
Option.bind (ldI h x10 (172 + l1)) fun x11 =>
Option.bind (gP h 9 l0 10) fun x12 =>
Option.bind (ldI h x12 (172 + l1)) fun x13 =>
if x11 = x13 then
Option.bind (gP h 9 l0 12) fun x14 =>
Option.bind (f_X9_placeOf h x14 l1) fun x15 =>
Option.bind (gP h 9 l0 10) fun x17 =>
Option.bind (f_X9_placeOf h x17 l1) fun x18 =>
if x15 = x18 then
some (1 : Int32)
else
some (0 : Int32)
else
some (0 : Int32)
else
some (0 : Int32)) fun x9 =>
Option.bind (f_X9_done_97 l0 l1 FU h x9 0) fun x25 =>
if x25 = 0 then
some (.inl ((-3), h))
else
f_X9_done_2 l0 n h (l1 + 1)
def f_X9_done (h : AH) (a0 : Nat) : Option (Int32 × AH) :=
if aK h a0 = 9 then
Option.bind (f_X9_done_2 a0 FU h 0) fun w => match w with
| .inl r9 => some r9
| .inr () =>
Option.bind (gP h 9 a0 12) fun x26 =>
Option.bind (gP h 9 a0 10) fun x27 =>
Option.bind (f_X9_copyInts h x26 0 x27 0 504) fun h29 =>
Option.bind (gI h29 9 a0 15) fun x30 =>
if x30 = 0 then
Option.bind (f_X9_judge h29 a0 0) fun w => match w with
| (x31, h32) =>
some (x31, h32)
else
Option.bind (gI h29 9 a0 16) fun x33 =>
Option.bind (pI h29 9 a0 16 (x33 + 1)) fun h34 =>
some (0, h34)
else none
set_option maxRecDepth 100000 in
set_option maxHeartbeats 4000000 in
theorem s_X9_done_97 {p : Program} {l : Launch} {e : Env} {s : State} {m : MethodId} {args : Array Value} {below : List Frame} {meth : Method} {c : Code} {G : GT} {Q : State → Prop} (O : OkC p l s m args meth c G cX9_done 4 RX9) {l0 : Nat} {l1 : Int32} {h : AH} {w2 : Int32} (kk : AW p l e { frames := 6, cells := 0, slots := 0, locals := 160 } s m args below meth c G 4 Q h 0 0 143 [(0, .ref l0), (1, .int l1), (2, .int w2)] []) : ∀ (n : Nat), ∀ (l2 : Int32) (l3 : Int32), f_X9_done_97 l0 l1 n h l2 l3 = some w2 → AW p l e { frames := 6, cells := 0, slots := 0, locals := 160 } s m args below meth c G 4 Q h 0 0 97 [(0, .ref l0), (1, .int l1), (2, .int l2), (3, .int l3)] [] := by
  intro n
  induction n with
  | zero =>
    intro l2 l3 hf
    simp [f_X9_done_97] at hf
  | succ n ih =>
    intro l2 l3 hf
    unfold f_X9_done_97 at hf
    refine r_iload_n O 3 dX9_done_97 rfl ?_
    refine r_iconst O (v := 4) dX9_done_98 (by decide) ?_
    by_cases hc : 4 ≤ l3
    · rw [if_pos hc] at hf
      refine r_icmp_ge_t (tgt := 143) O dX9_done_99 (by decide) hc ?_
      obtain rfl := oi1 hf
      refine AW.sub [0, 1, 2] rfl ?_
      exact kk
    · rw [if_neg hc] at hf
      refine r_icmp_ge_f (tgt := 143) O dX9_done_99 (by decide) hc ?_
      refine r_iload_n O 2 dX9_done_102 rfl ?_
      refine r_aload_n O 0 dX9_done_103 rfl (Or.inl rfl) ?_
      obtain ⟨x20, ex20, hf⟩ := bnd hf
      refine r_gP O cf9 12 (by decide) rfl fl_X9_39 ex20 dX9_done_104 ?_
      refine r_iconst O (v := 0) dX9_done_107 (by decide) ?_
      refine r_iconst O (v := 4) dX9_done_108 (by decide) ?_
      refine r_iload_n O 1 dX9_done_109 rfl ?_
      refine r_imul O dX9_done_110 ?_
      refine r_iadd O dX9_done_111 ?_
      refine r_iload_n O 3 dX9_done_112 rfl ?_
      refine r_iadd O dX9_done_113 ?_
      obtain ⟨x21, ex21, hf⟩ := bnd hf
      refine r_ldI O ex21 dX9_done_114 ?_
      refine r_aload_n O 0 dX9_done_115 rfl (Or.inl rfl) ?_
      obtain ⟨x22, ex22, hf⟩ := bnd hf
      refine r_gP O cf9 10 (by decide) rfl fl_X9_33 ex22 dX9_done_116 ?_
      refine r_iconst O (v := 0) dX9_done_119 (by decide) ?_
      refine r_iconst O (v := 4) dX9_done_120 (by decide) ?_
      refine r_iload_n O 1 dX9_done_121 rfl ?_
      refine r_imul O dX9_done_122 ?_
      refine r_iadd O dX9_done_123 ?_
      refine r_iload_n O 3 dX9_done_124 rfl ?_
      refine r_iadd O dX9_done_125 ?_
      obtain ⟨x23, ex23, hf⟩ := bnd hf
      refine r_ldI O ex23 dX9_done_126 ?_
      obtain ⟨x24, hg, hf⟩ := bnd hf
      have hJ : AW p l e { frames := 6, cells := 0, slots := 0, locals := 160 } s m args below meth c G 4 Q h 0 0 135 [(0, .ref l0), (1, .int l1), (3, .int l3)] [.int x24, .int l2] := by
        refine r_iand O dX9_done_135 ?_
        refine r_istore_n O [(2, .int (l2 &&& x24)), (0, .ref l0), (1, .int l1), (3, .int l3)] dX9_done_136 (by decide) rfl ?_
        refine r_iinc O 3 [(3, .int (l3 + 1)), (2, .int (l2 &&& x24)), (0, .ref l0), (1, .int l1)] dX9_done_137 rfl rfl (by decide) rfl ?_
        refine r_goto (tgt := 97) O dX9_done_140 (by decide) ?_
        refine AW.sub [2, 3, 1, 0] rfl ?_
        exact ih _ _ hf
      clear hf
      have hf := hg
      clear hg
      by_cases hc : x21 = x23
      · rw [if_pos hc] at hf
        refine r_icmp_ne_f (tgt := 134) O dX9_done_127 (by decide) hc ?_
        refine r_iconst O (v := 1) dX9_done_130 (by decide) ?_
        refine r_goto (tgt := 135) O dX9_done_131 (by decide) ?_
        obtain rfl := oi1 hf
        refine AW.sub [0, 1, 3] rfl ?_
        exact hJ
      · rw [if_neg hc] at hf
        refine r_icmp_ne_t (tgt := 134) O dX9_done_127 (by decide) hc ?_
        refine r_iconst O (v := 0) dX9_done_134 (by decide) ?_
        obtain rfl := oi1 hf
        refine AW.sub [0, 1, 3] rfl ?_
        exact hJ
set_option maxRecDepth 100000 in
set_option maxHeartbeats 4000000 in
theorem s_X9_done_2 {p : Program} {l : Launch} {e : Env} {s : State} {m : MethodId} {args : Array Value} {below : List Frame} {meth : Method} {c : Code} {G : GT} {o : Except Nat (Option Value)} {h9 : AH} (O : OkC p l s m args meth c G cX9_done 4 RX9) (hr : meth.sig.returnType = (some .int)) {l0 : Nat} {h : AH} {w : ((Int32 × AH) ⊕ Unit)} (he : ∀ r, w = .inl r → o = (.ok (some (.int r.1))) ∧ h9 = r.2) (kk : w = .inr () → AW p l e { frames := 6, cells := 0, slots := 0, locals := 160 } s m args below meth c G 4 (vx_MQ below (QcN G o h9) (XcN G o h9) args s 0 0 (gA G)) h 0 0 156 [(0, .ref l0)] []) : ∀ (n : Nat), ∀ (l1 : Int32), f_X9_done_2 l0 n h l1 = some w → AW p l e { frames := 6, cells := 0, slots := 0, locals := 160 } s m args below meth c G 4 (vx_MQ below (QcN G o h9) (XcN G o h9) args s 0 0 (gA G)) h 0 0 2 [(0, .ref l0), (1, .int l1)] [] := by
  intro n
  induction n with
  | zero =>
    intro l1 hf
    simp [f_X9_done_2] at hf
  | succ n ih =>
    intro l1 hf
    unfold f_X9_done_2 at hf
    refine r_iload_n O 1 dX9_done_2 rfl ?_
    refine r_aload_n O 0 dX9_done_3 rfl (Or.inl rfl) ?_
    obtain ⟨x1, ex1, hf⟩ := bnd hf
    refine r_gI O cf9 2 (by decide) rfl fl_X9_100 ex1 dX9_done_4 ?_
    by_cases hc : x1 ≤ l1
    · rw [if_pos hc] at hf
      refine r_icmp_ge_t (tgt := 156) O dX9_done_7 (by decide) hc ?_
      obtain rfl := Option.some.inj hf
      refine AW.sub [0] rfl ?_
      exact kk  rfl
    · rw [if_neg hc] at hf
      refine r_icmp_ge_f (tgt := 156) O dX9_done_7 (by decide) hc ?_
      refine r_aload_n O 0 dX9_done_10 rfl (Or.inl rfl) ?_
      obtain ⟨x2, ex2, hf⟩ := bnd hf
      refine r_gP O cf9 10 (by decide) rfl fl_X9_33 ex2 dX9_done_11 ?_
      refine r_iload_n O 1 dX9_done_14 rfl ?_
      obtain ⟨x3, ex3, hf⟩ := bnd hf
      refine r_callS (av := [.ref x2, .int l1]) (st := []) O (c_X9_isFrozenThing ex3) mf_X9_isFrozenThing ml_X9_137 ms_X9_isFrozenThing (by decide) (Nat.le_of_ble_eq_true rfl) (by decide) dX9_done_15 ?_
      by_cases hc : x3 = 0
      · rw [if_pos hc] at hf
        refine r_if_ne_f (tgt := 24) O dX9_done_18 (by decide) hc ?_
        refine r_goto (tgt := 150) O dX9_done_21 (by decide) ?_
        refine r_iinc O 1 [(1, .int (l1 + 1)), (0, .ref l0)] dX9_done_150 rfl rfl (by decide) rfl ?_
        refine r_goto (tgt := 2) O dX9_done_153 (by decide) ?_
        refine AW.sub [1, 0] rfl ?_
        exact ih _ hf
      · rw [if_neg hc] at hf
        refine r_if_ne_t (tgt := 24) O dX9_done_18 (by decide) hc ?_
        refine r_aload_n O 0 dX9_done_24 rfl (Or.inl rfl) ?_
        obtain ⟨x5, ex5, hf⟩ := bnd hf
        refine r_gP O cf9 12 (by decide) rfl fl_X9_39 ex5 dX9_done_25 ?_
        refine r_sipush O (v := 212) dX9_done_28 (by decide) ?_
        refine r_iload_n O 1 dX9_done_31 rfl ?_
        refine r_iadd O dX9_done_32 ?_
        obtain ⟨x6, ex6, hf⟩ := bnd hf
        refine r_ldI O ex6 dX9_done_33 ?_
        refine r_aload_n O 0 dX9_done_34 rfl (Or.inl rfl) ?_
        obtain ⟨x7, ex7, hf⟩ := bnd hf
        refine r_gP O cf9 10 (by decide) rfl fl_X9_33 ex7 dX9_done_35 ?_
        refine r_sipush O (v := 212) dX9_done_38 (by decide) ?_
        refine r_iload_n O 1 dX9_done_41 rfl ?_
        refine r_iadd O dX9_done_42 ?_
        obtain ⟨x8, ex8, hf⟩ := bnd hf
        refine r_ldI O ex8 dX9_done_43 ?_
        obtain ⟨x9, hg, hf⟩ := bnd hf
        have hJ : AW p l e { frames := 6, cells := 0, slots := 0, locals := 160 } s m args below meth c G 4 (vx_MQ below (QcN G o h9) (XcN G o h9) args s 0 0 (gA G)) h 0 0 94 [(0, .ref l0), (1, .int l1)] [.int x9] := by
          refine r_istore_n O [(2, .int x9), (0, .ref l0), (1, .int l1)] dX9_done_94 (by decide) rfl ?_
          refine r_iconst O (v := 0) dX9_done_95 (by decide) ?_
          refine r_istore_n O [(3, .int 0), (2, .int x9), (0, .ref l0), (1, .int l1)] dX9_done_96 (by decide) rfl ?_
          obtain ⟨x25, hw, hf⟩ := bnd hf
          refine AW.sub [2, 3, 1, 0] rfl ?_
          refine s_X9_done_97 O ?_ _ _ _ hw
          refine r_iload_n O 2 dX9_done_143 rfl ?_
          by_cases hc : x25 = 0
          · rw [if_pos hc] at hf
            refine r_if_ne_f (tgt := 150) O dX9_done_144 (by decide) hc ?_
            refine r_bipush O (v := -3) dX9_done_147 (by decide) ?_
            obtain rfl := Option.some.inj hf
            obtain ⟨ho, hh⟩ := he _ rfl
            exact r_iret O hr ho hh.symm (by decide) (by decide) dX9_done_149
          · rw [if_neg hc] at hf
            refine r_if_ne_t (tgt := 150) O dX9_done_144 (by decide) hc ?_
            refine r_iinc O 1 [(1, .int (l1 + 1)), (0, .ref l0), (2, .int x25)] dX9_done_150 rfl rfl (by decide) rfl ?_
            refine r_goto (tgt := 2) O dX9_done_153 (by decide) ?_
            refine AW.sub [1, 0] rfl ?_
            exact ih _ hf
        clear hf
        have hf := hg
        clear hg
        by_cases hc : x6 = x8
        · rw [if_pos hc] at hf
          refine r_icmp_ne_f (tgt := 93) O dX9_done_44 (by decide) hc ?_
          refine r_aload_n O 0 dX9_done_47 rfl (Or.inl rfl) ?_
          obtain ⟨x10, ex10, hf⟩ := bnd hf
          refine r_gP O cf9 12 (by decide) rfl fl_X9_39 ex10 dX9_done_48 ?_
          refine r_sipush O (v := 172) dX9_done_51 (by decide) ?_
          refine r_iload_n O 1 dX9_done_54 rfl ?_
          refine r_iadd O dX9_done_55 ?_
          obtain ⟨x11, ex11, hf⟩ := bnd hf
          refine r_ldI O ex11 dX9_done_56 ?_
          refine r_aload_n O 0 dX9_done_57 rfl (Or.inl rfl) ?_
          obtain ⟨x12, ex12, hf⟩ := bnd hf
          refine r_gP O cf9 10 (by decide) rfl fl_X9_33 ex12 dX9_done_58 ?_
          refine r_sipush O (v := 172) dX9_done_61 (by decide) ?_
          refine r_iload_n O 1 dX9_done_64 rfl ?_
          refine r_iadd O dX9_done_65 ?_
          obtain ⟨x13, ex13, hf⟩ := bnd hf
          refine r_ldI O ex13 dX9_done_66 ?_
          by_cases hc : x11 = x13
          · rw [if_pos hc] at hf
            refine r_icmp_ne_f (tgt := 93) O dX9_done_67 (by decide) hc ?_
            refine r_aload_n O 0 dX9_done_70 rfl (Or.inl rfl) ?_
            obtain ⟨x14, ex14, hf⟩ := bnd hf
            refine r_gP O cf9 12 (by decide) rfl fl_X9_39 ex14 dX9_done_71 ?_
            refine r_iload_n O 1 dX9_done_74 rfl ?_
            obtain ⟨x15, ex15, hf⟩ := bnd hf
            refine r_callS (av := [.ref x14, .int l1]) (st := []) O (c_X9_placeOf ex15) mf_X9_placeOf ml_X9_133 ms_X9_placeOf (by decide) (Nat.le_of_ble_eq_true rfl) (by decide) dX9_done_75 ?_
            refine r_aload_n O 0 dX9_done_78 rfl (Or.inl rfl) ?_
            obtain ⟨x17, ex17, hf⟩ := bnd hf
            refine r_gP O cf9 10 (by decide) rfl fl_X9_33 ex17 dX9_done_79 ?_
            refine r_iload_n O 1 dX9_done_82 rfl ?_
            obtain ⟨x18, ex18, hf⟩ := bnd hf
            refine r_callS (av := [.ref x17, .int l1]) (st := [.int x15]) O (c_X9_placeOf ex18) mf_X9_placeOf ml_X9_133 ms_X9_placeOf (by decide) (Nat.le_of_ble_eq_true rfl) (by decide) dX9_done_83 ?_
            by_cases hc : x15 = x18
            · rw [if_pos hc] at hf
              refine r_icmp_ne_f (tgt := 93) O dX9_done_86 (by decide) hc ?_
              refine r_iconst O (v := 1) dX9_done_89 (by decide) ?_
              refine r_goto (tgt := 94) O dX9_done_90 (by decide) ?_
              obtain rfl := oi1 hf
              refine AW.sub [0, 1] rfl ?_
              exact hJ
            · rw [if_neg hc] at hf
              refine r_icmp_ne_t (tgt := 93) O dX9_done_86 (by decide) hc ?_
              refine r_iconst O (v := 0) dX9_done_93 (by decide) ?_
              obtain rfl := oi1 hf
              refine AW.sub [0, 1] rfl ?_
              exact hJ
          · rw [if_neg hc] at hf
            refine r_icmp_ne_t (tgt := 93) O dX9_done_67 (by decide) hc ?_
            refine r_iconst O (v := 0) dX9_done_93 (by decide) ?_
            obtain rfl := oi1 hf
            refine AW.sub [0, 1] rfl ?_
            exact hJ
        · rw [if_neg hc] at hf
          refine r_icmp_ne_t (tgt := 93) O dX9_done_44 (by decide) hc ?_
          refine r_iconst O (v := 0) dX9_done_93 (by decide) ?_
          obtain rfl := oi1 hf
          refine AW.sub [0, 1] rfl ?_
          exact hJ
theorem kd_X9_done {h : AH} {a0 : Nat} {r : (Int32 × AH)} (hf : f_X9_done h a0 = some r) : aK h a0 = 9 := by
  unfold f_X9_done at hf
  exact (ifk hf).1
set_option maxRecDepth 100000 in
set_option maxHeartbeats 4000000 in
theorem c_X9_done {l : Launch} {G : GT} {h : AH} {a0 : Nat} {r : (Int32 × AH)} (hf : f_X9_done h a0 = some r) : Cn l yX9_done cX9_done 4 (some .int) 6 160 0 0 G h [.ref a0] (.ok (some (.int r.1))) r.2 := by
  refine Cn.of (by decide) (Nat.le_of_ble_eq_true rfl) ?_
  intro p e s m args below meth c O hr hx hin
  have O : OkC p l s m args meth c G cX9_done 4 RX9 := O
  unfold f_X9_done at hf
  obtain ⟨hk0, hf⟩ := ifk hf
  refine AW.sub (lv' := [(0, .ref a0)]) [0] rfl ?_
  refine r_iconst O (v := 0) dX9_done_0 (by decide) ?_
  refine r_istore_n O [(1, .int 0), (0, .ref a0)] dX9_done_1 (by decide) rfl ?_
  obtain ⟨w9, hw, hf⟩ := bnd hf
  refine AW.sub [1, 0] rfl ?_
  refine s_X9_done_2 O hr (w := w9) ?_ ?_ _ _ hw
  · intro r9 hr9
    subst hr9
    dsimp only at hf
    obtain rfl := Option.some.inj hf
    exact ⟨rfl, rfl⟩
  · intro hw9
    subst hw9
    dsimp only at hf
    refine r_aload_n O 0 dX9_done_156 rfl (Or.inl rfl) ?_
    obtain ⟨x26, ex26, hf⟩ := bnd hf
    refine r_gP O cf9 12 (by decide) rfl fl_X9_39 ex26 dX9_done_157 ?_
    refine r_iconst O (v := 0) dX9_done_160 (by decide) ?_
    refine r_aload_n O 0 dX9_done_161 rfl (Or.inl rfl) ?_
    obtain ⟨x27, ex27, hf⟩ := bnd hf
    refine r_gP O cf9 10 (by decide) rfl fl_X9_33 ex27 dX9_done_162 ?_
    refine r_iconst O (v := 0) dX9_done_165 (by decide) ?_
    refine r_sipush O (v := 504) dX9_done_166 (by decide) ?_
    obtain ⟨h29, eh29, hf⟩ := bnd hf
    refine r_callS (av := [.ref x26, .int 0, .ref x27, .int 0, .int 504]) (st := []) O (c_X9_copyInts eh29) mf_X9_copyInts ml_X9_96 ms_X9_copyInts (by decide) (Nat.le_of_ble_eq_true rfl) (by decide) dX9_done_169 ?_
    refine r_aload_n O 0 dX9_done_172 rfl (Or.inl rfl) ?_
    obtain ⟨x30, ex30, hf⟩ := bnd hf
    refine r_gI O cf9 15 (by decide) rfl fl_X9_247 ex30 dX9_done_173 ?_
    by_cases hc : x30 = 0
    · rw [if_pos hc] at hf
      refine r_if_eq_t (tgt := 191) O dX9_done_176 (by decide) hc ?_
      refine r_aload_n O 0 dX9_done_191 rfl (Or.inl rfl) ?_
      refine r_iconst O (v := 0) dX9_done_192 (by decide) ?_
      obtain ⟨⟨x31, h32⟩, ex31, hf⟩ := bnd hf
      dsimp only at hf
      refine r_callV (av := [.int 0]) (st := []) O (c_X9_judge ex31) mf_X9_judge cf9 (kd_X9_judge ex31) ml_X9_123 mi_X9_judge mv_X9_judge (by decide) (Nat.le_of_ble_eq_true rfl) (by decide) dX9_done_193 ?_
      obtain rfl := Option.some.inj hf
      exact r_iret O hr rfl rfl (by decide) (by decide) dX9_done_196
    · rw [if_neg hc] at hf
      refine r_if_eq_f (tgt := 191) O dX9_done_176 (by decide) hc ?_
      refine r_aload_n O 0 dX9_done_179 rfl (Or.inl rfl) ?_
      refine r_dup O dX9_done_180 rfl ?_
      obtain ⟨x33, ex33, hf⟩ := bnd hf
      refine r_gI O cf9 16 (by decide) rfl fl_X9_250 ex33 dX9_done_181 ?_
      refine r_iconst O (v := 1) dX9_done_184 (by decide) ?_
      refine r_iadd O dX9_done_185 ?_
      obtain ⟨h34, eh34, hf⟩ := bnd hf
      refine r_pI O cf9 16 (by decide) rfl fl_X9_250 rfl eh34 dX9_done_186 ?_
      refine r_iconst O (v := 0) dX9_done_189 (by decide) ?_
      obtain rfl := Option.some.inj hf
      exact r_iret O hr rfl rfl (by decide) (by decide) dX9_done_190
def f_X9_begun (h : AH) (a0 : Nat) : Option AH :=
if aK h a0 = 9 then
Option.bind (gP h 9 a0 10) fun x1 =>
Option.bind (gP h 9 a0 12) fun x2 =>
Option.bind (f_X9_copyInts h x1 0 x2 0 504) fun h4 =>
some h4
else none
theorem kd_X9_begun {h : AH} {a0 : Nat} {r : AH} (hf : f_X9_begun h a0 = some r) : aK h a0 = 9 := by
  unfold f_X9_begun at hf
  exact (ifk hf).1
set_option maxRecDepth 100000 in
set_option maxHeartbeats 4000000 in
theorem c_X9_begun {l : Launch} {G : GT} {h : AH} {a0 : Nat} {r : AH} (hf : f_X9_begun h a0 = some r) : Cn l yX9_begun cX9_begun 1 none 1 25 0 0 G h [.ref a0] (.ok none) r := by
  refine Cn.of (by decide) (Nat.le_of_ble_eq_true rfl) ?_
  intro p e s m args below meth c O hr hx hin
  have O : OkC p l s m args meth c G cX9_begun 1 RX9 := O
  unfold f_X9_begun at hf
  obtain ⟨hk0, hf⟩ := ifk hf
  refine AW.sub (lv' := [(0, .ref a0)]) [0] rfl ?_
  refine r_aload_n O 0 dX9_begun_0 rfl (Or.inl rfl) ?_
  obtain ⟨x1, ex1, hf⟩ := bnd hf
  refine r_gP O cf9 10 (by decide) rfl fl_X9_33 ex1 dX9_begun_1 ?_
  refine r_iconst O (v := 0) dX9_begun_4 (by decide) ?_
  refine r_aload_n O 0 dX9_begun_5 rfl (Or.inl rfl) ?_
  obtain ⟨x2, ex2, hf⟩ := bnd hf
  refine r_gP O cf9 12 (by decide) rfl fl_X9_39 ex2 dX9_begun_6 ?_
  refine r_iconst O (v := 0) dX9_begun_9 (by decide) ?_
  refine r_sipush O (v := 504) dX9_begun_10 (by decide) ?_
  obtain ⟨h4, eh4, hf⟩ := bnd hf
  refine r_callS (av := [.ref x1, .int 0, .ref x2, .int 0, .int 504]) (st := []) O (c_X9_copyInts eh4) mf_X9_copyInts ml_X9_96 ms_X9_copyInts (by decide) (Nat.le_of_ble_eq_true rfl) (by decide) dX9_begun_13 ?_
  obtain rfl := Option.some.inj hf
  exact r_vret O hr rfl rfl (by decide) (by decide) dX9_begun_16
def f_X9_out_35 (l0 : Nat) (l1 : Int32) (l2 : Int32) (l4 : Int32) (n : Nat) (h : AH) (l5 : Int32) : Option AH := match n with
| 0 => none
| n + 1 =>
if l4 ≤ (l5 + 1) then
some h
else
Option.bind (gP h 9 l0 12) fun x8 =>
Option.bind (gP h 9 l0 12) fun x9 =>
Option.bind (ldI h x9 (((252 + (l2 * 40)) + l5) + 1)) fun x10 =>
Option.bind (stI h x8 ((252 + (l2 * 40)) + l5) x10) fun h11 =>
f_X9_out_35 l0 l1 l2 l4 n h11 (l5 + 1)
def f_X9_out (h : AH) (a0 : Nat) (a1 : Int32) : Option AH :=
if aK h a0 = 9 then
Option.bind (gP h 9 a0 12) fun x1 =>
Option.bind (ldI h x1 (212 + a1)) fun x2 =>
Option.bind (gP h 9 a0 12) fun x3 =>
Option.bind (f_X9_placeOf h x3 a1) fun x4 =>
Option.bind (gP h 9 a0 12) fun x6 =>
Option.bind (ldI h x6 (492 + x2)) fun x7 =>
Option.bind (f_X9_out_35 a0 a1 x2 x7 FU h x4) fun h12 =>
Option.bind (gP h12 9 a0 12) fun x13 =>
Option.bind (stI h12 x13 (492 + x2) (x7 - 1)) fun h14 =>
Option.bind (gP h14 9 a0 12) fun x15 =>
Option.bind (stI h14 x15 (212 + a1) (-1)) fun h16 =>
some h16
else none
set_option maxRecDepth 100000 in
set_option maxHeartbeats 4000000 in
theorem s_X9_out_35 {p : Program} {l : Launch} {e : Env} {s : State} {m : MethodId} {args : Array Value} {below : List Frame} {meth : Method} {c : Code} {G : GT} {Q : State → Prop} (O : OkC p l s m args meth c G cX9_out 6 RX9) {l0 : Nat} {l1 : Int32} {l2 : Int32} {l4 : Int32} {wh : AH} (kk : AW p l e { frames := 1, cells := 0, slots := 0, locals := 23 } s m args below meth c G 6 Q wh 0 0 84 [(0, .ref l0), (1, .int l1), (2, .int l2), (4, .int l4)] []) : ∀ (n : Nat), ∀ (h : AH) (l5 : Int32), f_X9_out_35 l0 l1 l2 l4 n h l5 = some wh → AW p l e { frames := 1, cells := 0, slots := 0, locals := 23 } s m args below meth c G 6 Q h 0 0 35 [(0, .ref l0), (1, .int l1), (2, .int l2), (4, .int l4), (5, .int l5)] [] := by
  intro n
  induction n with
  | zero =>
    intro h l5 hf
    simp [f_X9_out_35] at hf
  | succ n ih =>
    intro h l5 hf
    unfold f_X9_out_35 at hf
    refine r_iload O 4 dX9_out_35 rfl ?_
    refine r_iconst O (v := 1) dX9_out_37 (by decide) ?_
    refine r_iadd O dX9_out_38 ?_
    refine r_iload O 3 dX9_out_39 rfl ?_
    by_cases hc : l4 ≤ (l5 + 1)
    · rw [if_pos hc] at hf
      refine r_icmp_ge_t (tgt := 84) O dX9_out_41 (by decide) hc ?_
      obtain rfl := oi1 hf
      refine AW.sub [0, 1, 2, 3] rfl ?_
      exact kk
    · rw [if_neg hc] at hf
      refine r_icmp_ge_f (tgt := 84) O dX9_out_41 (by decide) hc ?_
      refine r_aload_n O 0 dX9_out_44 rfl (Or.inl rfl) ?_
      obtain ⟨x8, ex8, hf⟩ := bnd hf
      refine r_gP O cf9 12 (by decide) rfl fl_X9_39 ex8 dX9_out_45 ?_
      refine r_sipush O (v := 252) dX9_out_48 (by decide) ?_
      refine r_iload_n O 2 dX9_out_51 rfl ?_
      refine r_bipush O (v := 40) dX9_out_52 (by decide) ?_
      refine r_imul O dX9_out_54 ?_
      refine r_iadd O dX9_out_55 ?_
      refine r_iload O 4 dX9_out_56 rfl ?_
      refine r_iadd O dX9_out_58 ?_
      refine r_aload_n O 0 dX9_out_59 rfl (Or.inl rfl) ?_
      obtain ⟨x9, ex9, hf⟩ := bnd hf
      refine r_gP O cf9 12 (by decide) rfl fl_X9_39 ex9 dX9_out_60 ?_
      refine r_sipush O (v := 252) dX9_out_63 (by decide) ?_
      refine r_iload_n O 2 dX9_out_66 rfl ?_
      refine r_bipush O (v := 40) dX9_out_67 (by decide) ?_
      refine r_imul O dX9_out_69 ?_
      refine r_iadd O dX9_out_70 ?_
      refine r_iload O 4 dX9_out_71 rfl ?_
      refine r_iadd O dX9_out_73 ?_
      refine r_iconst O (v := 1) dX9_out_74 (by decide) ?_
      refine r_iadd O dX9_out_75 ?_
      obtain ⟨x10, ex10, hf⟩ := bnd hf
      refine r_ldI O ex10 dX9_out_76 ?_
      obtain ⟨h11, eh11, hf⟩ := bnd hf
      refine r_stI O eh11 dX9_out_77 ?_
      refine r_iinc O 4 [(5, .int (l5 + 1)), (0, .ref l0), (1, .int l1), (2, .int l2), (4, .int l4)] dX9_out_78 rfl rfl (by decide) rfl ?_
      refine r_goto (tgt := 35) O dX9_out_81 (by decide) ?_
      refine AW.sub [1, 2, 3, 4, 0] rfl ?_
      exact ih _ _ hf
theorem kd_X9_out {h : AH} {a0 : Nat} {a1 : Int32} {r : AH} (hf : f_X9_out h a0 a1 = some r) : aK h a0 = 9 := by
  unfold f_X9_out at hf
  exact (ifk hf).1
set_option maxRecDepth 100000 in
set_option maxHeartbeats 4000000 in
theorem c_X9_out {l : Launch} {G : GT} {h : AH} {a0 : Nat} {a1 : Int32} {r : AH} (hf : f_X9_out h a0 a1 = some r) : Cn l yX9_out cX9_out 6 none 1 23 0 0 G h [.ref a0, .int a1] (.ok none) r := by
  refine Cn.of (by decide) (Nat.le_of_ble_eq_true rfl) ?_
  intro p e s m args below meth c O hr hx hin
  have O : OkC p l s m args meth c G cX9_out 6 RX9 := O
  unfold f_X9_out at hf
  obtain ⟨hk0, hf⟩ := ifk hf
  refine AW.sub (lv' := [(0, .ref a0), (1, .int a1)]) [0, 1] rfl ?_
  refine r_aload_n O 0 dX9_out_0 rfl (Or.inl rfl) ?_
  obtain ⟨x1, ex1, hf⟩ := bnd hf
  refine r_gP O cf9 12 (by decide) rfl fl_X9_39 ex1 dX9_out_1 ?_
  refine r_sipush O (v := 212) dX9_out_4 (by decide) ?_
  refine r_iload_n O 1 dX9_out_7 rfl ?_
  refine r_iadd O dX9_out_8 ?_
  obtain ⟨x2, ex2, hf⟩ := bnd hf
  refine r_ldI O ex2 dX9_out_9 ?_
  refine r_istore_n O [(2, .int x2), (0, .ref a0), (1, .int a1)] dX9_out_10 (by decide) rfl ?_
  refine r_aload_n O 1 dX9_out_11 rfl (Or.inl rfl) ?_
  obtain ⟨x3, ex3, hf⟩ := bnd hf
  refine r_gP O cf9 12 (by decide) rfl fl_X9_39 ex3 dX9_out_12 ?_
  refine r_iload_n O 2 dX9_out_15 rfl ?_
  obtain ⟨x4, ex4, hf⟩ := bnd hf
  refine r_callS (av := [.ref x3, .int a1]) (st := []) O (c_X9_placeOf ex4) mf_X9_placeOf ml_X9_133 ms_X9_placeOf (by decide) (Nat.le_of_ble_eq_true rfl) (by decide) dX9_out_16 ?_
  refine r_istore_n O [(3, .int x4), (2, .int x2), (0, .ref a0), (1, .int a1)] dX9_out_19 (by decide) rfl ?_
  refine r_aload_n O 2 dX9_out_20 rfl (Or.inl rfl) ?_
  obtain ⟨x6, ex6, hf⟩ := bnd hf
  refine r_gP O cf9 12 (by decide) rfl fl_X9_39 ex6 dX9_out_21 ?_
  refine r_sipush O (v := 492) dX9_out_24 (by decide) ?_
  refine r_iload_n O 1 dX9_out_27 rfl ?_
  refine r_iadd O dX9_out_28 ?_
  obtain ⟨x7, ex7, hf⟩ := bnd hf
  refine r_ldI O ex7 dX9_out_29 ?_
  refine r_istore O [(4, .int x7), (3, .int x4), (2, .int x2), (0, .ref a0), (1, .int a1)] dX9_out_30 (by decide) rfl ?_
  refine r_iload_n O 1 dX9_out_32 rfl ?_
  refine r_istore O [(5, .int x4), (4, .int x7), (3, .int x4), (2, .int x2), (0, .ref a0), (1, .int a1)] dX9_out_33 (by decide) rfl ?_
  obtain ⟨h12, hw, hf⟩ := bnd hf
  refine AW.sub [4, 5, 3, 1, 0] rfl ?_
  refine s_X9_out_35 O ?_ _ _ _ hw
  refine r_aload_n O 0 dX9_out_84 rfl (Or.inl rfl) ?_
  obtain ⟨x13, ex13, hf⟩ := bnd hf
  refine r_gP O cf9 12 (by decide) rfl fl_X9_39 ex13 dX9_out_85 ?_
  refine r_sipush O (v := 492) dX9_out_88 (by decide) ?_
  refine r_iload_n O 2 dX9_out_91 rfl ?_
  refine r_iadd O dX9_out_92 ?_
  refine r_iload O 3 dX9_out_93 rfl ?_
  refine r_iconst O (v := 1) dX9_out_95 (by decide) ?_
  refine r_isub O dX9_out_96 ?_
  obtain ⟨h14, eh14, hf⟩ := bnd hf
  refine r_stI O eh14 dX9_out_97 ?_
  refine r_aload_n O 0 dX9_out_98 rfl (Or.inl rfl) ?_
  obtain ⟨x15, ex15, hf⟩ := bnd hf
  refine r_gP O cf9 12 (by decide) rfl fl_X9_39 ex15 dX9_out_99 ?_
  refine r_sipush O (v := 212) dX9_out_102 (by decide) ?_
  refine r_iload_n O 1 dX9_out_105 rfl ?_
  refine r_iadd O dX9_out_106 ?_
  refine r_iconst O (v := -1) dX9_out_107 (by decide) ?_
  obtain ⟨h16, eh16, hf⟩ := bnd hf
  refine r_stI O eh16 dX9_out_108 ?_
  obtain rfl := Option.some.inj hf
  exact r_vret O hr rfl rfl (by decide) (by decide) dX9_out_109
