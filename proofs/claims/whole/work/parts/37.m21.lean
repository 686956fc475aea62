def f_X9_isSame_25 (l0 : Nat) (l1 : Int32) (n : Nat) (h : AH) (l2 : Int32) : Option AH := match n with
| 0 => none
| n + 1 =>
if 258 ≤ l2 then
some h
else
Option.bind (gP h 9 l0 14) fun x6 =>
Option.bind (gP h 9 l0 11) fun x7 =>
Option.bind (f_X9_isCell h l0 x7 l2) fun x8 =>
Option.bind (if x8 = 0 then
some (0 : Int64)
else
Option.bind (gP h 9 l0 13) fun x11 =>
Option.bind (ldJ h x11 l2) fun x12 =>
some x12) fun x10 =>
Option.bind (stJ h x6 l2 x10) fun h13 =>
f_X9_isSame_25 l0 l1 n h13 (l2 + 1)
def f_X9_isSame_84 (l0 : Nat) (l2 : Int32) (l3 : Int32) (n : Nat) (h : AH) (l1 : Int32) (l4 : Int32) : Option (Int32 × AH) := match n with
| 0 => none
| n + 1 =>
Option.bind (gI h 9 l0 36) fun x18 =>
if x18 ≤ l4 then
some (l1, h)
else
Option.bind (gP h 9 l0 37) fun x19 =>
Option.bind (ldI h x19 l4) fun x20 =>
Option.bind (gP h 9 l0 11) fun x21 =>
Option.bind (f_X9_isFrozen h x21 x20) fun x22 =>
Option.bind (if x22 = 0 then
Option.bind (gP h 9 l0 11) fun x26 =>
Option.bind (f_X9_work h l0 x26 x20) fun w => match w with
| (x27, h28) =>
Option.bind (gI h28 9 l0 28) fun x29 =>
Option.bind (if x29 = (-1) then
Option.bind (gP h28 9 l0 13) fun x31 =>
Option.bind (ldJ h28 x31 x20) fun x32 =>
if (lg_cmp x27 x32) = 0 then
some (1 : Int32)
else
some (0 : Int32)
else
some (0 : Int32)) fun x30 =>
Option.bind (gP h28 9 l0 14) fun x33 =>
Option.bind (stJ h28 x33 x20 x27) fun h34 =>
some (l1 &&& x30, h34)
else
some (l1, h)) fun w => match w with
| (x24, h25) =>
f_X9_isSame_84 l0 l2 l3 n h25 x24 (l4 + 1)
def f_X9_isSame (h : AH) (a0 : Nat) : Option (Int32 × AH) :=
if aK h a0 = 9 then
Option.bind (pI h 9 a0 0 0) fun h1 =>
Option.bind (gI h1 9 a0 1) fun x2 =>
if x2 = 0 then
Option.bind (gP h1 9 a0 11) fun x3 =>
Option.bind (f_X9_arrange h1 a0 x3) fun w => match w with
| (x4, h5) =>
Option.bind (f_X9_isSame_25 a0 x4 FU h5 0) fun h14 =>
Option.bind (gI h14 9 a0 28) fun x15 =>
Option.bind (gI h14 9 a0 29) fun x16 =>
Option.bind (pI h14 9 a0 28 (-1)) fun h17 =>
Option.bind (f_X9_isSame_84 a0 x15 x16 FU h17 x4 0) fun w => match w with
| (x35, h36) =>
Option.bind (pI h36 9 a0 28 x15) fun h37 =>
Option.bind (pI h37 9 a0 29 x16) fun h38 =>
Option.bind (bz x35) fun x39 =>
some (x39, h38)
else
some (1, h1)
else none
set_option maxRecDepth 100000 in
set_option maxHeartbeats 4000000 in
theorem s_X9_isSame_25 {p : Program} {l : Launch} {e : Env} {s : State} {m : MethodId} {args : Array Value} {below : List Frame} {meth : Method} {c : Code} {G : GT} {Q : State → Prop} (O : OkC p l s m args meth c G cX9_isSame 8 RX9) {l0 : Nat} {l1 : Int32} {wh : AH} (kk : AW p l e { frames := 5, cells := 0, slots := 0, locals := 135 } s m args below meth c G 8 Q wh 0 0 66 [(0, .ref l0), (1, .int l1)] []) : ∀ (n : Nat), ∀ (h : AH) (l2 : Int32), f_X9_isSame_25 l0 l1 n h l2 = some wh → AW p l e { frames := 5, cells := 0, slots := 0, locals := 135 } s m args below meth c G 8 Q h 0 0 25 [(0, .ref l0), (1, .int l1), (2, .int l2)] [] := by
  intro n
  induction n with
  | zero =>
    intro h l2 hf
    simp [f_X9_isSame_25] at hf
  | succ n ih =>
    intro h l2 hf
    unfold f_X9_isSame_25 at hf
    refine r_iload_n O 2 dX9_isSame_25 rfl ?_
    refine r_sipush O (v := 258) dX9_isSame_26 (by decide) ?_
    by_cases hc : 258 ≤ l2
    · rw [if_pos hc] at hf
      refine r_icmp_ge_t (tgt := 66) O dX9_isSame_29 (by decide) hc ?_
      obtain rfl := oi1 hf
      refine AW.sub [0, 1] rfl ?_
      exact kk
    · rw [if_neg hc] at hf
      refine r_icmp_ge_f (tgt := 66) O dX9_isSame_29 (by decide) hc ?_
      refine r_aload_n O 0 dX9_isSame_32 rfl (Or.inl rfl) ?_
      obtain ⟨x6, ex6, hf⟩ := bnd hf
      refine r_gP O cf9 14 (by decide) rfl fl_X9_46 ex6 dX9_isSame_33 ?_
      refine r_iload_n O 2 dX9_isSame_36 rfl ?_
      refine r_aload_n O 0 dX9_isSame_37 rfl (Or.inl rfl) ?_
      refine r_aload_n O 0 dX9_isSame_38 rfl (Or.inl rfl) ?_
      obtain ⟨x7, ex7, hf⟩ := bnd hf
      refine r_gP O cf9 11 (by decide) rfl fl_X9_36 ex7 dX9_isSame_39 ?_
      refine r_iload_n O 2 dX9_isSame_42 rfl ?_
      obtain ⟨x8, ex8, hf⟩ := bnd hf
      refine r_callV (av := [.ref x7, .int l2]) (st := [.int l2, .ref x6]) O (c_X9_isCell ex8) mf_X9_isCell cf9 (kd_X9_isCell ex8) ml_X9_162 mi_X9_isCell mv_X9_isCell (by decide) (Nat.le_of_ble_eq_true rfl) (by decide) dX9_isSame_43 ?_
      obtain ⟨x10, hg, hf⟩ := bnd hf
      have hJ : AW p l e { frames := 5, cells := 0, slots := 0, locals := 135 } s m args below meth c G 8 Q h 0 0 59 [(0, .ref l0), (1, .int l1), (2, .int l2)] [.long x10, .int l2, .ref x6] := by
        obtain ⟨h13, eh13, hf⟩ := bnd hf
        refine r_stJ O eh13 dX9_isSame_59 ?_
        refine r_iinc O 2 [(2, .int (l2 + 1)), (0, .ref l0), (1, .int l1)] dX9_isSame_60 rfl rfl (by decide) rfl ?_
        refine r_goto (tgt := 25) O dX9_isSame_63 (by decide) ?_
        refine AW.sub [1, 2, 0] rfl ?_
        exact ih _ _ hf
      clear hf
      have hf := hg
      clear hg
      by_cases hc : x8 = 0
      · rw [if_pos hc] at hf
        refine r_if_eq_t (tgt := 58) O dX9_isSame_46 (by decide) hc ?_
        refine r_lconst O (v := 0) dX9_isSame_58 (by decide) ?_
        obtain rfl := oi1 hf
        refine AW.sub [0, 1, 2] rfl ?_
        exact hJ
      · rw [if_neg hc] at hf
        refine r_if_eq_f (tgt := 58) O dX9_isSame_46 (by decide) hc ?_
        refine r_aload_n O 0 dX9_isSame_49 rfl (Or.inl rfl) ?_
        obtain ⟨x11, ex11, hf⟩ := bnd hf
        refine r_gP O cf9 13 (by decide) rfl fl_X9_42 ex11 dX9_isSame_50 ?_
        refine r_iload_n O 2 dX9_isSame_53 rfl ?_
        obtain ⟨x12, ex12, hf⟩ := bnd hf
        refine r_ldJ O ex12 dX9_isSame_54 ?_
        refine r_goto (tgt := 59) O dX9_isSame_55 (by decide) ?_
        obtain rfl := oi1 hf
        refine AW.sub [0, 1, 2] rfl ?_
        exact hJ
set_option maxRecDepth 100000 in
set_option maxHeartbeats 4000000 in
theorem s_X9_isSame_84 {p : Program} {l : Launch} {e : Env} {s : State} {m : MethodId} {args : Array Value} {below : List Frame} {meth : Method} {c : Code} {G : GT} {Q : State → Prop} (O : OkC p l s m args meth c G cX9_isSame 8 RX9) {l0 : Nat} {l2 : Int32} {l3 : Int32} {w1 : Int32} {wh : AH} (kk : AW p l e { frames := 5, cells := 0, slots := 0, locals := 135 } s m args below meth c G 8 Q wh 0 0 170 [(0, .ref l0), (1, .int w1), (2, .int l2), (3, .int l3)] []) : ∀ (n : Nat), ∀ (h : AH) (l1 : Int32) (l4 : Int32), f_X9_isSame_84 l0 l2 l3 n h l1 l4 = some (w1, wh) → AW p l e { frames := 5, cells := 0, slots := 0, locals := 135 } s m args below meth c G 8 Q h 0 0 84 [(0, .ref l0), (1, .int l1), (2, .int l2), (3, .int l3), (4, .int l4)] [] := by
  intro n
  induction n with
  | zero =>
    intro h l1 l4 hf
    simp [f_X9_isSame_84] at hf
  | succ n ih =>
    intro h l1 l4 hf
    unfold f_X9_isSame_84 at hf
    refine r_iload O 4 dX9_isSame_84 rfl ?_
    refine r_aload_n O 0 dX9_isSame_86 rfl (Or.inl rfl) ?_
    obtain ⟨x18, ex18, hf⟩ := bnd hf
    refine r_gI O cf9 36 (by decide) rfl fl_X9_172 ex18 dX9_isSame_87 ?_
    by_cases hc : x18 ≤ l4
    · rw [if_pos hc] at hf
      refine r_icmp_ge_t (tgt := 170) O dX9_isSame_90 (by decide) hc ?_
      obtain ⟨rfl, rfl⟩ := oi2 hf
      refine AW.sub [0, 1, 2, 3] rfl ?_
      exact kk
    · rw [if_neg hc] at hf
      refine r_icmp_ge_f (tgt := 170) O dX9_isSame_90 (by decide) hc ?_
      refine r_aload_n O 0 dX9_isSame_93 rfl (Or.inl rfl) ?_
      obtain ⟨x19, ex19, hf⟩ := bnd hf
      refine r_gP O cf9 37 (by decide) rfl fl_X9_79 ex19 dX9_isSame_94 ?_
      refine r_iload O 4 dX9_isSame_97 rfl ?_
      obtain ⟨x20, ex20, hf⟩ := bnd hf
      refine r_ldI O ex20 dX9_isSame_99 ?_
      refine r_istore O [(5, .int x20), (0, .ref l0), (1, .int l1), (2, .int l2), (3, .int l3), (4, .int l4)] dX9_isSame_100 (by decide) rfl ?_
      refine r_aload_n O 1 dX9_isSame_102 rfl (Or.inl rfl) ?_
      obtain ⟨x21, ex21, hf⟩ := bnd hf
      refine r_gP O cf9 11 (by decide) rfl fl_X9_36 ex21 dX9_isSame_103 ?_
      refine r_iload O 0 dX9_isSame_106 rfl ?_
      obtain ⟨x22, ex22, hf⟩ := bnd hf
      refine r_callS (av := [.ref x21, .int x20]) (st := []) O (c_X9_isFrozen ex22) mf_X9_isFrozen ml_X9_148 ms_X9_isFrozen (by decide) (Nat.le_of_ble_eq_true rfl) (by decide) dX9_isSame_108 ?_
      obtain ⟨⟨x24, h25⟩, hg, hf⟩ := bnd hf
      dsimp only at hf
      have hJ : AW p l e { frames := 5, cells := 0, slots := 0, locals := 135 } s m args below meth c G 8 Q h25 0 0 164 [(0, .ref l0), (1, .int x24), (2, .int l2), (3, .int l3), (4, .int l4)] [] := by
        refine r_iinc O 4 [(4, .int (l4 + 1)), (0, .ref l0), (1, .int x24), (2, .int l2), (3, .int l3)] dX9_isSame_164 rfl rfl (by decide) rfl ?_
        refine r_goto (tgt := 84) O dX9_isSame_167 (by decide) ?_
        refine AW.sub [1, 2, 3, 4, 0] rfl ?_
        exact ih _ _ _ hf
      clear hf
      have hf := hg
      clear hg
      by_cases hc : x22 = 0
      · rw [if_pos hc] at hf
        refine r_if_ne_f (tgt := 164) O dX9_isSame_111 (by decide) hc ?_
        refine r_aload_n O 1 dX9_isSame_114 rfl (Or.inl rfl) ?_
        refine r_aload_n O 1 dX9_isSame_115 rfl (Or.inl rfl) ?_
        obtain ⟨x26, ex26, hf⟩ := bnd hf
        refine r_gP O cf9 11 (by decide) rfl fl_X9_36 ex26 dX9_isSame_116 ?_
        refine r_iload O 0 dX9_isSame_119 rfl ?_
        obtain ⟨⟨x27, h28⟩, ex27, hf⟩ := bnd hf
        dsimp only at hf
        refine r_callV (av := [.ref x26, .int x20]) (st := []) O (c_X9_work ex27) mf_X9_work cf9 (kd_X9_work ex27) ml_X9_224 mi_X9_work mv_X9_work (by decide) (Nat.le_of_ble_eq_true rfl) (by decide) dX9_isSame_121 ?_
        refine r_lstore O [(6, .long x27), (5, .int x20), (0, .ref l0), (1, .int l1), (2, .int l2), (3, .int l3), (4, .int l4)] dX9_isSame_124 (by decide) rfl ?_
        refine r_iload_n O 3 dX9_isSame_126 rfl ?_
        refine r_aload_n O 2 dX9_isSame_127 rfl (Or.inl rfl) ?_
        obtain ⟨x29, ex29, hf⟩ := bnd hf
        refine r_gI O cf9 28 (by decide) rfl fl_X9_67 ex29 dX9_isSame_128 ?_
        refine r_iconst O (v := -1) dX9_isSame_131 (by decide) ?_
        obtain ⟨x30, hg, hf⟩ := bnd hf
        have hJ : AW p l e { frames := 5, cells := 0, slots := 0, locals := 135 } s m args below meth c G 8 Q h28 0 0 153 [(0, .ref l0), (2, .int l2), (3, .int l3), (4, .int l4), (5, .int x20), (6, .long x27)] [.int x30, .int l1] := by
          refine r_iand O dX9_isSame_153 ?_
          refine r_istore_n O [(1, .int (l1 &&& x30)), (0, .ref l0), (2, .int l2), (3, .int l3), (4, .int l4), (5, .int x20), (6, .long x27)] dX9_isSame_154 (by decide) rfl ?_
          refine r_aload_n O 1 dX9_isSame_155 rfl (Or.inl rfl) ?_
          obtain ⟨x33, ex33, hf⟩ := bnd hf
          refine r_gP O cf9 14 (by decide) rfl fl_X9_46 ex33 dX9_isSame_156 ?_
          refine r_iload O 5 dX9_isSame_159 rfl ?_
          refine r_lload O 6 dX9_isSame_161 rfl ?_
          obtain ⟨h34, eh34, hf⟩ := bnd hf
          refine r_stJ O eh34 dX9_isSame_163 ?_
          obtain ⟨rfl, rfl⟩ := oi2 hf
          refine AW.sub [1, 0, 2, 3, 4] rfl ?_
          exact hJ
        clear hf
        have hf := hg
        clear hg
        by_cases hc : x29 = (-1)
        · rw [if_pos hc] at hf
          refine r_icmp_ne_f (tgt := 152) O dX9_isSame_132 (by decide) hc ?_
          refine r_lload O 0 dX9_isSame_135 rfl ?_
          refine r_aload_n O 2 dX9_isSame_137 rfl (Or.inl rfl) ?_
          obtain ⟨x31, ex31, hf⟩ := bnd hf
          refine r_gP O cf9 13 (by decide) rfl fl_X9_42 ex31 dX9_isSame_138 ?_
          refine r_iload O 1 dX9_isSame_141 rfl ?_
          obtain ⟨x32, ex32, hf⟩ := bnd hf
          refine r_ldJ O ex32 dX9_isSame_143 ?_
          refine r_lcmp O dX9_isSame_144 ?_
          by_cases hc : (lg_cmp x27 x32) = 0
          · rw [if_pos hc] at hf
            refine r_if_ne_f (tgt := 152) O dX9_isSame_145 (by decide) hc ?_
            refine r_iconst O (v := 1) dX9_isSame_148 (by decide) ?_
            refine r_goto (tgt := 153) O dX9_isSame_149 (by decide) ?_
            obtain rfl := oi1 hf
            refine AW.sub [2, 4, 5, 6, 1, 0] rfl ?_
            exact hJ
          · rw [if_neg hc] at hf
            refine r_if_ne_t (tgt := 152) O dX9_isSame_145 (by decide) hc ?_
            refine r_iconst O (v := 0) dX9_isSame_152 (by decide) ?_
            obtain rfl := oi1 hf
            refine AW.sub [2, 4, 5, 6, 1, 0] rfl ?_
            exact hJ
        · rw [if_neg hc] at hf
          refine r_icmp_ne_t (tgt := 152) O dX9_isSame_132 (by decide) hc ?_
          refine r_iconst O (v := 0) dX9_isSame_152 (by decide) ?_
          obtain rfl := oi1 hf
          refine AW.sub [2, 4, 5, 6, 1, 0] rfl ?_
          exact hJ
      · rw [if_neg hc] at hf
        refine r_if_ne_t (tgt := 164) O dX9_isSame_111 (by decide) hc ?_
        obtain ⟨rfl, rfl⟩ := oi2 hf
        refine AW.sub [1, 2, 3, 4, 5] rfl ?_
        exact hJ
theorem kd_X9_isSame {h : AH} {a0 : Nat} {r : (Int32 × AH)} (hf : f_X9_isSame h a0 = some r) : aK h a0 = 9 := by
  unfold f_X9_isSame at hf
  exact (ifk hf).1
set_option maxRecDepth 100000 in
set_option maxHeartbeats 4000000 in
theorem c_X9_isSame {l : Launch} {G : GT} {h : AH} {a0 : Nat} {r : (Int32 × AH)} (hf : f_X9_isSame h a0 = some r) : Cn l yX9_isSame cX9_isSame 8 (some .boolean) 5 135 0 0 G h [.ref a0] (.ok (some (.int r.1))) r.2 := by
  refine Cn.of (by decide) (Nat.le_of_ble_eq_true rfl) ?_
  intro p e s m args below meth c O hr hx hin
  have O : OkC p l s m args meth c G cX9_isSame 8 RX9 := O
  unfold f_X9_isSame at hf
  obtain ⟨hk0, hf⟩ := ifk hf
  refine AW.sub (lv' := [(0, .ref a0)]) [0] rfl ?_
  refine r_aload_n O 0 dX9_isSame_0 rfl (Or.inl rfl) ?_
  refine r_iconst O (v := 0) dX9_isSame_1 (by decide) ?_
  obtain ⟨h1, eh1, hf⟩ := bnd hf
  refine r_pI O cf9 0 (by decide) rfl fl_X9_1 rfl eh1 dX9_isSame_2 ?_
  refine r_aload_n O 0 dX9_isSame_5 rfl (Or.inl rfl) ?_
  obtain ⟨x2, ex2, hf⟩ := bnd hf
  refine r_gI O cf9 1 (by decide) rfl fl_X9_13 ex2 dX9_isSame_6 ?_
  by_cases hc : x2 = 0
  · rw [if_pos hc] at hf
    refine r_if_eq_t (tgt := 14) O dX9_isSame_9 (by decide) hc ?_
    refine r_aload_n O 0 dX9_isSame_14 rfl (Or.inl rfl) ?_
    refine r_aload_n O 0 dX9_isSame_15 rfl (Or.inl rfl) ?_
    obtain ⟨x3, ex3, hf⟩ := bnd hf
    refine r_gP O cf9 11 (by decide) rfl fl_X9_36 ex3 dX9_isSame_16 ?_
    obtain ⟨⟨x4, h5⟩, ex4, hf⟩ := bnd hf
    dsimp only at hf
    refine r_callV (av := [.ref x3]) (st := []) O (c_X9_arrange ex4) mf_X9_arrange cf9 (kd_X9_arrange ex4) ml_X9_209 mi_X9_arrange mv_X9_arrange (by decide) (Nat.le_of_ble_eq_true rfl) (by decide) dX9_isSame_19 ?_
    refine r_istore_n O [(1, .int x4), (0, .ref a0)] dX9_isSame_22 (by decide) rfl ?_
    refine r_iconst O (v := 0) dX9_isSame_23 (by decide) ?_
    refine r_istore_n O [(2, .int 0), (1, .int x4), (0, .ref a0)] dX9_isSame_24 (by decide) rfl ?_
    obtain ⟨h14, hw, hf⟩ := bnd hf
    refine AW.sub [2, 1, 0] rfl ?_
    refine s_X9_isSame_25 O ?_ _ _ _ hw
    refine r_aload_n O 0 dX9_isSame_66 rfl (Or.inl rfl) ?_
    obtain ⟨x15, ex15, hf⟩ := bnd hf
    refine r_gI O cf9 28 (by decide) rfl fl_X9_67 ex15 dX9_isSame_67 ?_
    refine r_istore_n O [(2, .int x15), (0, .ref a0), (1, .int x4)] dX9_isSame_70 (by decide) rfl ?_
    refine r_aload_n O 1 dX9_isSame_71 rfl (Or.inl rfl) ?_
    obtain ⟨x16, ex16, hf⟩ := bnd hf
    refine r_gI O cf9 29 (by decide) rfl fl_X9_70 ex16 dX9_isSame_72 ?_
    refine r_istore_n O [(3, .int x16), (2, .int x15), (0, .ref a0), (1, .int x4)] dX9_isSame_75 (by decide) rfl ?_
    refine r_aload_n O 2 dX9_isSame_76 rfl (Or.inl rfl) ?_
    refine r_iconst O (v := -1) dX9_isSame_77 (by decide) ?_
    obtain ⟨h17, eh17, hf⟩ := bnd hf
    refine r_pI O cf9 28 (by decide) rfl fl_X9_67 rfl eh17 dX9_isSame_78 ?_
    refine r_iconst O (v := 0) dX9_isSame_81 (by decide) ?_
    refine r_istore O [(4, .int 0), (3, .int x16), (2, .int x15), (0, .ref a0), (1, .int x4)] dX9_isSame_82 (by decide) rfl ?_
    obtain ⟨⟨x35, h36⟩, hw, hf⟩ := bnd hf
    dsimp only at hf
    refine AW.sub [3, 4, 2, 1, 0] rfl ?_
    refine s_X9_isSame_84 O ?_ _ _ _ _ hw
    refine r_aload_n O 0 dX9_isSame_170 rfl (Or.inl rfl) ?_
    refine r_iload_n O 2 dX9_isSame_171 rfl ?_
    obtain ⟨h37, eh37, hf⟩ := bnd hf
    refine r_pI O cf9 28 (by decide) rfl fl_X9_67 rfl eh37 dX9_isSame_172 ?_
    refine r_aload_n O 0 dX9_isSame_175 rfl (Or.inl rfl) ?_
    refine r_iload_n O 3 dX9_isSame_176 rfl ?_
    obtain ⟨h38, eh38, hf⟩ := bnd hf
    refine r_pI O cf9 29 (by decide) rfl fl_X9_70 rfl eh38 dX9_isSame_177 ?_
    refine r_iload_n O 1 dX9_isSame_180 rfl ?_
    obtain ⟨x39, ex39, hf⟩ := bnd hf
    refine r_nmI (bz_eq ex39) ?_
    obtain rfl := Option.some.inj hf
    exact r_zret O hr (bz_or ex39) rfl rfl (by decide) (by decide) dX9_isSame_181
  · rw [if_neg hc] at hf
    refine r_if_eq_f (tgt := 14) O dX9_isSame_9 (by decide) hc ?_
    refine r_iconst O (v := 1) dX9_isSame_12 (by decide) ?_
    obtain rfl := Option.some.inj hf
    exact r_zret O hr (by decide) rfl rfl (by decide) (by decide) dX9_isSame_13
