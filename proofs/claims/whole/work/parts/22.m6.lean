def f_X7_push (h : AH) (a0 : Nat) (a1 : Int64) : Option AH :=
if aK h a0 = 7 then
Option.bind (if (lg_cmp a1 (-1000000000000000)) < 0 then
Option.bind (pI h 7 a0 3 3) fun h2 =>
some h2
else
if (lg_cmp a1 1000000000000000) ≤ 0 then
Option.bind (gI h 7 a0 2) fun x3 =>
if 8 ≤ x3 then
some h
else
Option.bind (gP h 7 a0 1) fun x4 =>
Option.bind (gI h 7 a0 2) fun x5 =>
Option.bind (stJ h x4 x5 a1) fun h6 =>
Option.bind (gI h6 7 a0 2) fun x7 =>
Option.bind (pI h6 7 a0 2 (x7 + 1)) fun h8 =>
some h8
else
Option.bind (pI h 7 a0 3 3) fun h9 =>
some h9) fun h1 =>
some h1
else none
theorem kd_X7_push {h : AH} {a0 : Nat} {a1 : Int64} {r : AH} (hf : f_X7_push h a0 a1 = some r) : aK h a0 = 7 := by
  unfold f_X7_push at hf
  exact (ifk hf).1
set_option maxRecDepth 100000 in
set_option maxHeartbeats 4000000 in
theorem c_X7_push {l : Launch} {G : GT} {h : AH} {a0 : Nat} {a1 : Int64} {r : AH} (hf : f_X7_push h a0 a1 = some r) : Cn l yX7_push cX7_push 3 none 0 0 0 0 G h [.ref a0, .long a1] (.ok none) r := by
  refine Cn.of (by decide) (Nat.le_of_ble_eq_true rfl) ?_
  intro p e s m args below meth c O hr hx hin
  have O : OkC p l s m args meth c G cX7_push 3 RX7 := O
  unfold f_X7_push at hf
  obtain ⟨hk0, hf⟩ := ifk hf
  refine AW.sub (lv' := [(0, .ref a0), (1, .long a1)]) [0, 1] rfl ?_
  refine r_lload_n O 1 dX7_push_0 rfl ?_
  refine r_ldc2 O cl_X7_88 dX7_push_1 ?_
  refine r_lcmp O dX7_push_4 ?_
  obtain ⟨h1, hg, hf⟩ := bnd hf
  have hJ : AW p l e { frames := 0, cells := 0, slots := 0, locals := 0 } s m args below meth c G 3 (vx_MQ below (QcN G (.ok none) r) (XcN G (.ok none) r) args s 0 0 (gA G)) h1 0 0 53 [] [] := by
    obtain rfl := Option.some.inj hf
    exact r_vret O hr rfl rfl (by decide) (by decide) dX7_push_53
  clear hf
  have hf := hg
  clear hg
  by_cases hc : (lg_cmp a1 (-1000000000000000)) < 0
  · rw [if_pos hc] at hf
    refine r_if_lt_t (tgt := 16) O dX7_push_5 (by decide) hc ?_
    refine r_aload_n O 0 dX7_push_16 rfl (Or.inl rfl) ?_
    refine r_iconst O (v := 3) dX7_push_17 (by decide) ?_
    obtain ⟨h2, eh2, hf⟩ := bnd hf
    refine r_pI O cf7 3 (by decide) rfl fl_X7_30 rfl eh2 dX7_push_18 ?_
    refine r_goto (tgt := 53) O dX7_push_21 (by decide) ?_
    obtain rfl := oi1 hf
    refine AW.sub [] rfl ?_
    exact hJ
  · rw [if_neg hc] at hf
    refine r_if_lt_f (tgt := 16) O dX7_push_5 (by decide) hc ?_
    refine r_lload_n O 1 dX7_push_8 rfl ?_
    refine r_ldc2 O cl_X7_90 dX7_push_9 ?_
    refine r_lcmp O dX7_push_12 ?_
    by_cases hc : (lg_cmp a1 1000000000000000) ≤ 0
    · rw [if_pos hc] at hf
      refine r_if_le_t (tgt := 24) O dX7_push_13 (by decide) hc ?_
      refine r_aload_n O 0 dX7_push_24 rfl (Or.inl rfl) ?_
      obtain ⟨x3, ex3, hf⟩ := bnd hf
      refine r_gI O cf7 2 (by decide) rfl fl_X7_26 ex3 dX7_push_25 ?_
      refine r_bipush O (v := 8) dX7_push_28 (by decide) ?_
      by_cases hc : 8 ≤ x3
      · rw [if_pos hc] at hf
        refine r_icmp_ge_t (tgt := 53) O dX7_push_30 (by decide) hc ?_
        obtain rfl := oi1 hf
        refine AW.sub [] rfl ?_
        exact hJ
      · rw [if_neg hc] at hf
        refine r_icmp_ge_f (tgt := 53) O dX7_push_30 (by decide) hc ?_
        refine r_aload_n O 0 dX7_push_33 rfl (Or.inl rfl) ?_
        obtain ⟨x4, ex4, hf⟩ := bnd hf
        refine r_gP O cf7 1 (by decide) rfl fl_X7_9 ex4 dX7_push_34 ?_
        refine r_aload_n O 0 dX7_push_37 rfl (Or.inl rfl) ?_
        obtain ⟨x5, ex5, hf⟩ := bnd hf
        refine r_gI O cf7 2 (by decide) rfl fl_X7_26 ex5 dX7_push_38 ?_
        refine r_lload_n O 1 dX7_push_41 rfl ?_
        obtain ⟨h6, eh6, hf⟩ := bnd hf
        refine r_stJ O eh6 dX7_push_42 ?_
        refine r_aload_n O 0 dX7_push_43 rfl (Or.inl rfl) ?_
        refine r_dup O dX7_push_44 rfl ?_
        obtain ⟨x7, ex7, hf⟩ := bnd hf
        refine r_gI O cf7 2 (by decide) rfl fl_X7_26 ex7 dX7_push_45 ?_
        refine r_iconst O (v := 1) dX7_push_48 (by decide) ?_
        refine r_iadd O dX7_push_49 ?_
        obtain ⟨h8, eh8, hf⟩ := bnd hf
        refine r_pI O cf7 2 (by decide) rfl fl_X7_26 rfl eh8 dX7_push_50 ?_
        obtain rfl := oi1 hf
        refine AW.sub [] rfl ?_
        exact hJ
    · rw [if_neg hc] at hf
      refine r_if_le_f (tgt := 24) O dX7_push_13 (by decide) hc ?_
      refine r_aload_n O 0 dX7_push_16 rfl (Or.inl rfl) ?_
      refine r_iconst O (v := 3) dX7_push_17 (by decide) ?_
      obtain ⟨h9, eh9, hf⟩ := bnd hf
      refine r_pI O cf7 3 (by decide) rfl fl_X7_30 rfl eh9 dX7_push_18 ?_
      refine r_goto (tgt := 53) O dX7_push_21 (by decide) ?_
      obtain rfl := oi1 hf
      refine AW.sub [] rfl ?_
      exact hJ
def f_X7_pop (h : AH) (a0 : Nat) : Option (Int64 × AH) :=
if aK h a0 = 7 then
Option.bind (gI h 7 a0 2) fun x1 =>
if x1 = 0 then
some (0, h)
else
Option.bind (gI h 7 a0 2) fun x2 =>
Option.bind (pI h 7 a0 2 (x2 - 1)) fun h3 =>
Option.bind (gP h3 7 a0 1) fun x4 =>
Option.bind (gI h3 7 a0 2) fun x5 =>
Option.bind (ldJ h3 x4 x5) fun x6 =>
some (x6, h3)
else none
theorem kd_X7_pop {h : AH} {a0 : Nat} {r : (Int64 × AH)} (hf : f_X7_pop h a0 = some r) : aK h a0 = 7 := by
  unfold f_X7_pop at hf
  exact (ifk hf).1
set_option maxRecDepth 100000 in
set_option maxHeartbeats 4000000 in
theorem c_X7_pop {l : Launch} {G : GT} {h : AH} {a0 : Nat} {r : (Int64 × AH)} (hf : f_X7_pop h a0 = some r) : Cn l yX7_pop cX7_pop 1 (some .long) 0 0 0 0 G h [.ref a0] (.ok (some (.long r.1))) r.2 := by
  refine Cn.of (by decide) (Nat.le_of_ble_eq_true rfl) ?_
  intro p e s m args below meth c O hr hx hin
  have O : OkC p l s m args meth c G cX7_pop 1 RX7 := O
  unfold f_X7_pop at hf
  obtain ⟨hk0, hf⟩ := ifk hf
  refine AW.sub (lv' := [(0, .ref a0)]) [0] rfl ?_
  refine r_aload_n O 0 dX7_pop_0 rfl (Or.inl rfl) ?_
  obtain ⟨x1, ex1, hf⟩ := bnd hf
  refine r_gI O cf7 2 (by decide) rfl fl_X7_26 ex1 dX7_pop_1 ?_
  by_cases hc : x1 = 0
  · rw [if_pos hc] at hf
    refine r_if_ne_f (tgt := 9) O dX7_pop_4 (by decide) hc ?_
    refine r_lconst O (v := 0) dX7_pop_7 (by decide) ?_
    obtain rfl := Option.some.inj hf
    exact r_lret O hr rfl rfl (by decide) (by decide) dX7_pop_8
  · rw [if_neg hc] at hf
    refine r_if_ne_t (tgt := 9) O dX7_pop_4 (by decide) hc ?_
    refine r_aload_n O 0 dX7_pop_9 rfl (Or.inl rfl) ?_
    refine r_dup O dX7_pop_10 rfl ?_
    obtain ⟨x2, ex2, hf⟩ := bnd hf
    refine r_gI O cf7 2 (by decide) rfl fl_X7_26 ex2 dX7_pop_11 ?_
    refine r_iconst O (v := 1) dX7_pop_14 (by decide) ?_
    refine r_isub O dX7_pop_15 ?_
    obtain ⟨h3, eh3, hf⟩ := bnd hf
    refine r_pI O cf7 2 (by decide) rfl fl_X7_26 rfl eh3 dX7_pop_16 ?_
    refine r_aload_n O 0 dX7_pop_19 rfl (Or.inl rfl) ?_
    obtain ⟨x4, ex4, hf⟩ := bnd hf
    refine r_gP O cf7 1 (by decide) rfl fl_X7_9 ex4 dX7_pop_20 ?_
    refine r_aload_n O 0 dX7_pop_23 rfl (Or.inl rfl) ?_
    obtain ⟨x5, ex5, hf⟩ := bnd hf
    refine r_gI O cf7 2 (by decide) rfl fl_X7_26 ex5 dX7_pop_24 ?_
    obtain ⟨x6, ex6, hf⟩ := bnd hf
    refine r_ldJ O ex6 dX7_pop_27 ?_
    obtain rfl := Option.some.inj hf
    exact r_lret O hr rfl rfl (by decide) (by decide) dX7_pop_28
def f_X7_lookAtAll_102 (l0 : Nat) (l1 : Int32) (l2 : Int32) (l3 : Int32) (l4 : Int32) (n : Nat) (h : AH) (l5 : Int64) (l7 : Int32) : Option Int64 := match n with
| 0 => none
| n + 1 =>
if l4 ≤ l7 then
some l5
else
Option.bind (gP h 7 l0 7) fun x14 =>
Option.bind (gP h 7 l0 6) fun x15 =>
Option.bind (f_X4_standsAt h x15 l1 l7) fun x16 =>
Option.bind (f_X8_shadowOf h x16 l3) fun x18 =>
Option.bind (ldJ h x14 x18) fun x20 =>
Option.bind (if l2 = 10 then
Option.bind (some (mxJ l5 x20)) fun x23 =>
some x23
else
Option.bind (some (mnJ l5 x20)) fun x22 =>
some x22) fun x21 =>
f_X7_lookAtAll_102 l0 l1 l2 l3 l4 n h x21 (l7 + 1)
def f_X7_lookAtAll_23 (l0 : Nat) (l1 : Int32) (l3 : Int32) (l4 : Int32) (n : Nat) (h : AH) (l5 : Int64) (l7 : Int32) : Option Int64 := match n with
| 0 => none
| n + 1 =>
if l4 ≤ l7 then
some l5
else
Option.bind (gP h 7 l0 7) fun x27 =>
Option.bind (gP h 7 l0 6) fun x28 =>
Option.bind (f_X4_standsAt h x28 l1 l7) fun x29 =>
Option.bind (f_X8_shadowOf h x29 l3) fun x31 =>
Option.bind (ldJ h x27 x31) fun x33 =>
f_X7_lookAtAll_23 l0 l1 l3 l4 n h (l5 + x33) (l7 + 1)
def f_X7_lookAtAll (h : AH) (a0 : Nat) (a1 : Int32) (a2 : Int32) (a3 : Int32) : Option AH :=
if aK h a0 = 7 then
Option.bind (gP h 7 a0 6) fun x1 =>
Option.bind (gP h 4 x1 6) fun x2 =>
Option.bind (ldI h x2 a1) fun x3 =>
Option.bind (if a2 = 9 then
Option.bind (f_X7_lookAtAll_23 a0 a1 a3 x3 FU h 0 0) fun x34 =>
Option.bind (f_X7_push h a0 x34) fun h36 =>
some h36
else
if x3 ≤ 0 then
some h
else
Option.bind (f_X7_pop h a0) fun w => match w with
| (x5, h6) =>
Option.bind (gP h6 7 a0 7) fun x7 =>
Option.bind (gP h6 7 a0 6) fun x8 =>
Option.bind (f_X4_standsAt h6 x8 a1 0) fun x9 =>
Option.bind (f_X8_shadowOf h6 x9 a3) fun x11 =>
Option.bind (ldJ h6 x7 x11) fun x13 =>
Option.bind (f_X7_lookAtAll_102 a0 a1 a2 a3 x3 FU h6 x13 1) fun x24 =>
Option.bind (f_X7_push h6 a0 x24) fun h26 =>
some h26) fun h4 =>
some h4
else none
set_option maxRecDepth 100000 in
set_option maxHeartbeats 4000000 in
theorem s_X7_lookAtAll_102 {p : Program} {l : Launch} {e : Env} {s : State} {m : MethodId} {args : Array Value} {below : List Frame} {meth : Method} {c : Code} {G : GT} {Q : State → Prop} (O : OkC p l s m args meth c G cX7_lookAtAll 10 RX7) {l0 : Nat} {l1 : Int32} {l2 : Int32} {l3 : Int32} {l4 : Int32} {h : AH} {w5 : Int64} (kk : AW p l e { frames := 1, cells := 0, slots := 0, locals := 23 } s m args below meth c G 10 Q h 0 0 161 [(0, .ref l0), (5, .long w5)] []) : ∀ (n : Nat), ∀ (l5 : Int64) (l7 : Int32), f_X7_lookAtAll_102 l0 l1 l2 l3 l4 n h l5 l7 = some w5 → AW p l e { frames := 1, cells := 0, slots := 0, locals := 23 } s m args below meth c G 10 Q h 0 0 102 [(0, .ref l0), (1, .int l1), (2, .int l2), (3, .int l3), (4, .int l4), (5, .long l5), (7, .int l7)] [] := by
  intro n
  induction n with
  | zero =>
    intro l5 l7 hf
    simp [f_X7_lookAtAll_102] at hf
  | succ n ih =>
    intro l5 l7 hf
    unfold f_X7_lookAtAll_102 at hf
    refine r_iload O 6 dX7_lookAtAll_102 rfl ?_
    refine r_iload O 4 dX7_lookAtAll_104 rfl ?_
    by_cases hc : l4 ≤ l7
    · rw [if_pos hc] at hf
      refine r_icmp_ge_t (tgt := 161) O dX7_lookAtAll_106 (by decide) hc ?_
      obtain rfl := oi1 hf
      refine AW.sub [0, 5] rfl ?_
      exact kk
    · rw [if_neg hc] at hf
      refine r_icmp_ge_f (tgt := 161) O dX7_lookAtAll_106 (by decide) hc ?_
      refine r_aload_n O 0 dX7_lookAtAll_109 rfl (Or.inl rfl) ?_
      obtain ⟨x14, ex14, hf⟩ := bnd hf
      refine r_gP O cf7 7 (by decide) rfl fl_X7_23 ex14 dX7_lookAtAll_110 ?_
      refine r_aload_n O 0 dX7_lookAtAll_113 rfl (Or.inl rfl) ?_
      obtain ⟨x15, ex15, hf⟩ := bnd hf
      refine r_gP O cf7 6 (by decide) rfl fl_X7_19 ex15 dX7_lookAtAll_114 ?_
      refine r_iload_n O 1 dX7_lookAtAll_117 rfl ?_
      refine r_iload O 6 dX7_lookAtAll_118 rfl ?_
      obtain ⟨x16, ex16, hf⟩ := bnd hf
      refine r_callV (av := [.int l1, .int l7]) (st := [.ref x14]) O (c_X4_standsAt ex16) mf_X4_standsAt cf4 (kd_X4_standsAt ex16) ml_X7_118 mi_X4_standsAt mv_X4_standsAt (by decide) (Nat.le_of_ble_eq_true rfl) (by decide) dX7_lookAtAll_120 ?_
      refine r_iload_n O 3 dX7_lookAtAll_123 rfl ?_
      obtain ⟨x18, ex18, hf⟩ := bnd hf
      refine r_callSN (av := [.int x16, .int l3]) (st := [.ref x14]) O (c_X8_shadowOf ex18) mf_X8_shadowOf mn_X7_121 ms_X8_shadowOf (by decide) (Nat.le_of_ble_eq_true rfl) (by decide) dX7_lookAtAll_124 ?_
      obtain ⟨x20, ex20, hf⟩ := bnd hf
      refine r_ldJ O ex20 dX7_lookAtAll_127 ?_
      refine r_lstore O [(8, .long x20), (0, .ref l0), (1, .int l1), (2, .int l2), (3, .int l3), (4, .int l4), (5, .long l5), (7, .int l7)] dX7_lookAtAll_128 (by decide) rfl ?_
      refine r_iload_n O 3 dX7_lookAtAll_130 rfl ?_
      refine r_bipush O (v := 10) dX7_lookAtAll_131 (by decide) ?_
      obtain ⟨x21, hg, hf⟩ := bnd hf
      have hJ : AW p l e { frames := 1, cells := 0, slots := 0, locals := 23 } s m args below meth c G 10 Q h 0 0 153 [(0, .ref l0), (1, .int l1), (2, .int l2), (3, .int l3), (4, .int l4), (7, .int l7)] [.long x21] := by
        refine r_lstore O [(5, .long x21), (0, .ref l0), (1, .int l1), (2, .int l2), (3, .int l3), (4, .int l4), (7, .int l7)] dX7_lookAtAll_153 (by decide) rfl ?_
        refine r_iinc O 6 [(7, .int (l7 + 1)), (5, .long x21), (0, .ref l0), (1, .int l1), (2, .int l2), (3, .int l3), (4, .int l4)] dX7_lookAtAll_155 rfl rfl (by decide) rfl ?_
        refine r_goto (tgt := 102) O dX7_lookAtAll_158 (by decide) ?_
        refine AW.sub [2, 3, 4, 5, 6, 1, 0] rfl ?_
        exact ih _ _ hf
      clear hf
      have hf := hg
      clear hg
      by_cases hc : l2 = 10
      · rw [if_pos hc] at hf
        refine r_icmp_ne_f (tgt := 146) O dX7_lookAtAll_133 (by decide) hc ?_
        refine r_lload O 6 dX7_lookAtAll_136 rfl ?_
        refine r_lload O 0 dX7_lookAtAll_138 rfl ?_
        obtain ⟨x23, ex23, hf⟩ := bnd hf
        refine r_mxJ O ml_X7_124 (by decide) (Nat.le_of_ble_eq_true rfl) (by decide) (by decide) dX7_lookAtAll_140 ?_
        refine r_nmJ (Option.some.inj ex23) ?_
        refine r_goto (tgt := 153) O dX7_lookAtAll_143 (by decide) ?_
        obtain rfl := oi1 hf
        refine AW.sub [1, 2, 3, 4, 5, 7] rfl ?_
        exact hJ
      · rw [if_neg hc] at hf
        refine r_icmp_ne_t (tgt := 146) O dX7_lookAtAll_133 (by decide) hc ?_
        refine r_lload O 6 dX7_lookAtAll_146 rfl ?_
        refine r_lload O 0 dX7_lookAtAll_148 rfl ?_
        obtain ⟨x22, ex22, hf⟩ := bnd hf
        refine r_mnJ O ml_X7_130 (by decide) (Nat.le_of_ble_eq_true rfl) (by decide) (by decide) dX7_lookAtAll_150 ?_
        refine r_nmJ (Option.some.inj ex22) ?_
        obtain rfl := oi1 hf
        refine AW.sub [1, 2, 3, 4, 5, 7] rfl ?_
        exact hJ
set_option maxRecDepth 100000 in
set_option maxHeartbeats 4000000 in
theorem s_X7_lookAtAll_23 {p : Program} {l : Launch} {e : Env} {s : State} {m : MethodId} {args : Array Value} {below : List Frame} {meth : Method} {c : Code} {G : GT} {Q : State → Prop} (O : OkC p l s m args meth c G cX7_lookAtAll 10 RX7) {l0 : Nat} {l1 : Int32} {l3 : Int32} {l4 : Int32} {h : AH} {w5 : Int64} (kk : AW p l e { frames := 1, cells := 0, slots := 0, locals := 23 } s m args below meth c G 10 Q h 0 0 60 [(0, .ref l0), (5, .long w5)] []) : ∀ (n : Nat), ∀ (l5 : Int64) (l7 : Int32), f_X7_lookAtAll_23 l0 l1 l3 l4 n h l5 l7 = some w5 → AW p l e { frames := 1, cells := 0, slots := 0, locals := 23 } s m args below meth c G 10 Q h 0 0 23 [(0, .ref l0), (1, .int l1), (3, .int l3), (4, .int l4), (5, .long l5), (7, .int l7)] [] := by
  intro n
  induction n with
  | zero =>
    intro l5 l7 hf
    simp [f_X7_lookAtAll_23] at hf
  | succ n ih =>
    intro l5 l7 hf
    unfold f_X7_lookAtAll_23 at hf
    refine r_iload O 5 dX7_lookAtAll_23 rfl ?_
    refine r_iload O 3 dX7_lookAtAll_25 rfl ?_
    by_cases hc : l4 ≤ l7
    · rw [if_pos hc] at hf
      refine r_icmp_ge_t (tgt := 60) O dX7_lookAtAll_27 (by decide) hc ?_
      obtain rfl := oi1 hf
      refine AW.sub [0, 4] rfl ?_
      exact kk
    · rw [if_neg hc] at hf
      refine r_icmp_ge_f (tgt := 60) O dX7_lookAtAll_27 (by decide) hc ?_
      refine r_lload O 4 dX7_lookAtAll_30 rfl ?_
      refine r_aload_n O 0 dX7_lookAtAll_32 rfl (Or.inl rfl) ?_
      obtain ⟨x27, ex27, hf⟩ := bnd hf
      refine r_gP O cf7 7 (by decide) rfl fl_X7_23 ex27 dX7_lookAtAll_33 ?_
      refine r_aload_n O 0 dX7_lookAtAll_36 rfl (Or.inl rfl) ?_
      obtain ⟨x28, ex28, hf⟩ := bnd hf
      refine r_gP O cf7 6 (by decide) rfl fl_X7_19 ex28 dX7_lookAtAll_37 ?_
      refine r_iload_n O 1 dX7_lookAtAll_40 rfl ?_
      refine r_iload O 5 dX7_lookAtAll_41 rfl ?_
      obtain ⟨x29, ex29, hf⟩ := bnd hf
      refine r_callV (av := [.int l1, .int l7]) (st := [.ref x27, .long l5]) O (c_X4_standsAt ex29) mf_X4_standsAt cf4 (kd_X4_standsAt ex29) ml_X7_118 mi_X4_standsAt mv_X4_standsAt (by decide) (Nat.le_of_ble_eq_true rfl) (by decide) dX7_lookAtAll_43 ?_
      refine r_iload_n O 2 dX7_lookAtAll_46 rfl ?_
      obtain ⟨x31, ex31, hf⟩ := bnd hf
      refine r_callSN (av := [.int x29, .int l3]) (st := [.ref x27, .long l5]) O (c_X8_shadowOf ex31) mf_X8_shadowOf mn_X7_121 ms_X8_shadowOf (by decide) (Nat.le_of_ble_eq_true rfl) (by decide) dX7_lookAtAll_47 ?_
      obtain ⟨x33, ex33, hf⟩ := bnd hf
      refine r_ldJ O ex33 dX7_lookAtAll_50 ?_
      refine r_ladd O dX7_lookAtAll_51 ?_
      refine r_lstore O [(5, .long (l5 + x33)), (0, .ref l0), (1, .int l1), (3, .int l3), (4, .int l4), (7, .int l7)] dX7_lookAtAll_52 (by decide) rfl ?_
      refine r_iinc O 5 [(7, .int (l7 + 1)), (5, .long (l5 + x33)), (0, .ref l0), (1, .int l1), (3, .int l3), (4, .int l4)] dX7_lookAtAll_54 rfl rfl (by decide) rfl ?_
      refine r_goto (tgt := 23) O dX7_lookAtAll_57 (by decide) ?_
      refine AW.sub [2, 3, 4, 5, 1, 0] rfl ?_
      exact ih _ _ hf
theorem kd_X7_lookAtAll {h : AH} {a0 : Nat} {a1 : Int32} {a2 : Int32} {a3 : Int32} {r : AH} (hf : f_X7_lookAtAll h a0 a1 a2 a3 = some r) : aK h a0 = 7 := by
  unfold f_X7_lookAtAll at hf
  exact (ifk hf).1
set_option maxRecDepth 100000 in
set_option maxHeartbeats 4000000 in
theorem c_X7_lookAtAll {l : Launch} {G : GT} {h : AH} {a0 : Nat} {a1 : Int32} {a2 : Int32} {a3 : Int32} {r : AH} (hf : f_X7_lookAtAll h a0 a1 a2 a3 = some r) : Cn l yX7_lookAtAll cX7_lookAtAll 10 none 1 23 0 0 G h [.ref a0, .int a1, .int a2, .int a3] (.ok none) r := by
  refine Cn.of (by decide) (Nat.le_of_ble_eq_true rfl) ?_
  intro p e s m args below meth c O hr hx hin
  have O : OkC p l s m args meth c G cX7_lookAtAll 10 RX7 := O
  unfold f_X7_lookAtAll at hf
  obtain ⟨hk0, hf⟩ := ifk hf
  refine AW.sub (lv' := [(0, .ref a0), (1, .int a1), (2, .int a2), (3, .int a3)]) [0, 1, 2, 3] rfl ?_
  refine r_aload_n O 0 dX7_lookAtAll_0 rfl (Or.inl rfl) ?_
  obtain ⟨x1, ex1, hf⟩ := bnd hf
  refine r_gP O cf7 6 (by decide) rfl fl_X7_19 ex1 dX7_lookAtAll_1 ?_
  obtain ⟨x2, ex2, hf⟩ := bnd hf
  refine r_gP O cf4 6 (by decide) rfl fl_X7_108 ex2 dX7_lookAtAll_4 ?_
  refine r_iload_n O 1 dX7_lookAtAll_7 rfl ?_
  obtain ⟨x3, ex3, hf⟩ := bnd hf
  refine r_ldI O ex3 dX7_lookAtAll_8 ?_
  refine r_istore O [(4, .int x3), (0, .ref a0), (1, .int a1), (2, .int a2), (3, .int a3)] dX7_lookAtAll_9 (by decide) rfl ?_
  refine r_iload_n O 3 dX7_lookAtAll_11 rfl ?_
  refine r_bipush O (v := 9) dX7_lookAtAll_12 (by decide) ?_
  obtain ⟨h4, hg, hf⟩ := bnd hf
  have hJ : AW p l e { frames := 1, cells := 0, slots := 0, locals := 23 } s m args below meth c G 10 (vx_MQ below (QcN G (.ok none) r) (XcN G (.ok none) r) args s 0 0 (gA G)) h4 0 0 167 [] [] := by
    obtain rfl := Option.some.inj hf
    exact r_vret O hr rfl rfl (by decide) (by decide) dX7_lookAtAll_167
  clear hf
  have hf := hg
  clear hg
  by_cases hc : a2 = 9
  · rw [if_pos hc] at hf
    refine r_icmp_ne_f (tgt := 69) O dX7_lookAtAll_14 (by decide) hc ?_
    refine r_lconst O (v := 0) dX7_lookAtAll_17 (by decide) ?_
    refine r_lstore O [(5, .long 0), (4, .int x3), (0, .ref a0), (1, .int a1), (2, .int a2), (3, .int a3)] dX7_lookAtAll_18 (by decide) rfl ?_
    refine r_iconst O (v := 0) dX7_lookAtAll_20 (by decide) ?_
    refine r_istore O [(7, .int 0), (5, .long 0), (4, .int x3), (0, .ref a0), (1, .int a1), (2, .int a2), (3, .int a3)] dX7_lookAtAll_21 (by decide) rfl ?_
    obtain ⟨x34, hw, hf⟩ := bnd hf
    refine AW.sub [3, 4, 6, 2, 1, 0] rfl ?_
    refine s_X7_lookAtAll_23 O ?_ _ _ _ hw
    refine r_aload_n O 0 dX7_lookAtAll_60 rfl (Or.inl rfl) ?_
    refine r_lload O 1 dX7_lookAtAll_61 rfl ?_
    obtain ⟨h36, eh36, hf⟩ := bnd hf
    refine r_callV (av := [.long x34]) (st := []) O (c_X7_push eh36) mf_X7_push cf7 (kd_X7_push eh36) ml_X7_72 mi_X7_push mv_X7_push (by decide) (Nat.le_of_ble_eq_true rfl) (by decide) dX7_lookAtAll_63 ?_
    refine r_goto (tgt := 167) O dX7_lookAtAll_66 (by decide) ?_
    obtain rfl := oi1 hf
    refine AW.sub [] rfl ?_
    exact hJ
  · rw [if_neg hc] at hf
    refine r_icmp_ne_t (tgt := 69) O dX7_lookAtAll_14 (by decide) hc ?_
    refine r_iload O 0 dX7_lookAtAll_69 rfl ?_
    by_cases hc : x3 ≤ 0
    · rw [if_pos hc] at hf
      refine r_if_le_t (tgt := 167) O dX7_lookAtAll_71 (by decide) hc ?_
      obtain rfl := oi1 hf
      refine AW.sub [] rfl ?_
      exact hJ
    · rw [if_neg hc] at hf
      refine r_if_le_f (tgt := 167) O dX7_lookAtAll_71 (by decide) hc ?_
      refine r_aload_n O 1 dX7_lookAtAll_74 rfl (Or.inl rfl) ?_
      obtain ⟨⟨x5, h6⟩, ex5, hf⟩ := bnd hf
      dsimp only at hf
      refine r_callV (av := []) (st := []) O (c_X7_pop ex5) mf_X7_pop cf7 (kd_X7_pop ex5) ml_X7_80 mi_X7_pop mv_X7_pop (by decide) (Nat.le_of_ble_eq_true rfl) (by decide) dX7_lookAtAll_75 ?_
      refine r_pop2 O dX7_lookAtAll_78 rfl ?_
      refine r_aload_n O 1 dX7_lookAtAll_79 rfl (Or.inl rfl) ?_
      obtain ⟨x7, ex7, hf⟩ := bnd hf
      refine r_gP O cf7 7 (by decide) rfl fl_X7_23 ex7 dX7_lookAtAll_80 ?_
      refine r_aload_n O 1 dX7_lookAtAll_83 rfl (Or.inl rfl) ?_
      obtain ⟨x8, ex8, hf⟩ := bnd hf
      refine r_gP O cf7 6 (by decide) rfl fl_X7_19 ex8 dX7_lookAtAll_84 ?_
      refine r_iload_n O 2 dX7_lookAtAll_87 rfl ?_
      refine r_iconst O (v := 0) dX7_lookAtAll_88 (by decide) ?_
      obtain ⟨x9, ex9, hf⟩ := bnd hf
      refine r_callV (av := [.int a1, .int 0]) (st := [.ref x7]) O (c_X4_standsAt ex9) mf_X4_standsAt cf4 (kd_X4_standsAt ex9) ml_X7_118 mi_X4_standsAt mv_X4_standsAt (by decide) (Nat.le_of_ble_eq_true rfl) (by decide) dX7_lookAtAll_89 ?_
      refine r_iload_n O 4 dX7_lookAtAll_92 rfl ?_
      obtain ⟨x11, ex11, hf⟩ := bnd hf
      refine r_callSN (av := [.int x9, .int a3]) (st := [.ref x7]) O (c_X8_shadowOf ex11) mf_X8_shadowOf mn_X7_121 ms_X8_shadowOf (by decide) (Nat.le_of_ble_eq_true rfl) (by decide) dX7_lookAtAll_93 ?_
      obtain ⟨x13, ex13, hf⟩ := bnd hf
      refine r_ldJ O ex13 dX7_lookAtAll_96 ?_
      refine r_lstore O [(5, .long x13), (4, .int x3), (0, .ref a0), (1, .int a1), (2, .int a2), (3, .int a3)] dX7_lookAtAll_97 (by decide) rfl ?_
      refine r_iconst O (v := 1) dX7_lookAtAll_99 (by decide) ?_
      refine r_istore O [(7, .int 1), (5, .long x13), (4, .int x3), (0, .ref a0), (1, .int a1), (2, .int a2), (3, .int a3)] dX7_lookAtAll_100 (by decide) rfl ?_
      obtain ⟨x24, hw, hf⟩ := bnd hf
      refine AW.sub [3, 4, 5, 6, 2, 1, 0] rfl ?_
      refine s_X7_lookAtAll_102 O ?_ _ _ _ hw
      refine r_aload_n O 0 dX7_lookAtAll_161 rfl (Or.inl rfl) ?_
      refine r_lload O 1 dX7_lookAtAll_162 rfl ?_
      obtain ⟨h26, eh26, hf⟩ := bnd hf
      refine r_callV (av := [.long x24]) (st := []) O (c_X7_push eh26) mf_X7_push cf7 (kd_X7_push eh26) ml_X7_72 mi_X7_push mv_X7_push (by decide) (Nat.le_of_ble_eq_true rfl) (by decide) dX7_lookAtAll_164 ?_
      obtain rfl := oi1 hf
      refine AW.sub [] rfl ?_
      exact hJ
def f_X7_lookAtOne (h : AH) (a0 : Nat) (a1 : Int32) (a2 : Int32) (a3 : Int32) : Option AH :=
if aK h a0 = 7 then
Option.bind (gP h 7 a0 6) fun x1 =>
Option.bind (f_X4_shadowSeen h x1 a1 a2 a3) fun x2 =>
if x2 = (-1) then
some h
else
Option.bind (tkI a2) fun x4 =>
Option.bind (if x4 ≤ 0 then
some h
else
Option.bind (f_X7_pop h a0) fun w => match w with
| (x6, h7) =>
some h7) fun h5 =>
Option.bind (gP h5 7 a0 7) fun x8 =>
Option.bind (ldJ h5 x8 x2) fun x9 =>
Option.bind (f_X7_push h5 a0 x9) fun h11 =>
some h11
else none
theorem kd_X7_lookAtOne {h : AH} {a0 : Nat} {a1 : Int32} {a2 : Int32} {a3 : Int32} {r : AH} (hf : f_X7_lookAtOne h a0 a1 a2 a3 = some r) : aK h a0 = 7 := by
  unfold f_X7_lookAtOne at hf
  exact (ifk hf).1
set_option maxRecDepth 100000 in
set_option maxHeartbeats 4000000 in
theorem c_X7_lookAtOne {l : Launch} {G : GT} {h : AH} {a0 : Nat} {a1 : Int32} {a2 : Int32} {a3 : Int32} {r : AH} (hf : f_X7_lookAtOne h a0 a1 a2 a3 = some r) : Cn l yX7_lookAtOne cX7_lookAtOne 5 none 3 67 0 0 G h [.ref a0, .int a1, .int a2, .int a3] (.ok none) r := by
  refine Cn.of (by decide) (Nat.le_of_ble_eq_true rfl) ?_
  intro p e s m args below meth c O hr hx hin
  have O : OkC p l s m args meth c G cX7_lookAtOne 5 RX7 := O
  unfold f_X7_lookAtOne at hf
  obtain ⟨hk0, hf⟩ := ifk hf
  refine AW.sub (lv' := [(0, .ref a0), (1, .int a1), (2, .int a2), (3, .int a3)]) [0, 1, 2, 3] rfl ?_
  refine r_aload_n O 0 dX7_lookAtOne_0 rfl (Or.inl rfl) ?_
  obtain ⟨x1, ex1, hf⟩ := bnd hf
  refine r_gP O cf7 6 (by decide) rfl fl_X7_19 ex1 dX7_lookAtOne_1 ?_
  refine r_iload_n O 1 dX7_lookAtOne_4 rfl ?_
  refine r_iload_n O 2 dX7_lookAtOne_5 rfl ?_
  refine r_iload_n O 3 dX7_lookAtOne_6 rfl ?_
  obtain ⟨x2, ex2, hf⟩ := bnd hf
  refine r_callV (av := [.int a1, .int a2, .int a3]) (st := []) O (c_X4_shadowSeen ex2) mf_X4_shadowSeen cf4 (kd_X4_shadowSeen ex2) ml_X7_111 mi_X4_shadowSeen mv_X4_shadowSeen (by decide) (Nat.le_of_ble_eq_true rfl) (by decide) dX7_lookAtOne_7 ?_
  refine r_istore O [(4, .int x2), (0, .ref a0), (1, .int a1), (2, .int a2), (3, .int a3)] dX7_lookAtOne_10 (by decide) rfl ?_
  refine r_iload O 0 dX7_lookAtOne_12 rfl ?_
  refine r_iconst O (v := -1) dX7_lookAtOne_14 (by decide) ?_
  by_cases hc : x2 = (-1)
  · rw [if_pos hc] at hf
    refine r_icmp_ne_f (tgt := 19) O dX7_lookAtOne_15 (by decide) hc ?_
    obtain rfl := Option.some.inj hf
    exact r_vret O hr rfl rfl (by decide) (by decide) dX7_lookAtOne_18
  · rw [if_neg hc] at hf
    refine r_icmp_ne_t (tgt := 19) O dX7_lookAtOne_15 (by decide) hc ?_
    refine r_gs1N O fn_X7_115 dX7_lookAtOne_19 ?_
    refine r_iload_n O 3 dX7_lookAtOne_22 rfl ?_
    obtain ⟨x4, ex4, hf⟩ := bnd hf
    refine r_tkI O ex4 dX7_lookAtOne_23 ?_
    obtain ⟨h5, hg, hf⟩ := bnd hf
    have hJ : AW p l e { frames := 3, cells := 0, slots := 0, locals := 67 } s m args below meth c G 5 (vx_MQ below (QcN G (.ok none) r) (XcN G (.ok none) r) args s 0 0 (gA G)) h5 0 0 32 [(0, .ref a0), (4, .int x2)] [] := by
      refine r_aload_n O 0 dX7_lookAtOne_32 rfl (Or.inl rfl) ?_
      refine r_aload_n O 0 dX7_lookAtOne_33 rfl (Or.inl rfl) ?_
      obtain ⟨x8, ex8, hf⟩ := bnd hf
      refine r_gP O cf7 7 (by decide) rfl fl_X7_23 ex8 dX7_lookAtOne_34 ?_
      refine r_iload O 1 dX7_lookAtOne_37 rfl ?_
      obtain ⟨x9, ex9, hf⟩ := bnd hf
      refine r_ldJ O ex9 dX7_lookAtOne_39 ?_
      obtain ⟨h11, eh11, hf⟩ := bnd hf
      refine r_callV (av := [.long x9]) (st := []) O (c_X7_push eh11) mf_X7_push cf7 (kd_X7_push eh11) ml_X7_72 mi_X7_push mv_X7_push (by decide) (Nat.le_of_ble_eq_true rfl) (by decide) dX7_lookAtOne_40 ?_
      obtain rfl := Option.some.inj hf
      exact r_vret O hr rfl rfl (by decide) (by decide) dX7_lookAtOne_43
    clear hf
    have hf := hg
    clear hg
    by_cases hc : x4 ≤ 0
    · rw [if_pos hc] at hf
      refine r_if_le_t (tgt := 32) O dX7_lookAtOne_24 (by decide) hc ?_
      obtain rfl := oi1 hf
      refine AW.sub [1, 0] rfl ?_
      exact hJ
    · rw [if_neg hc] at hf
      refine r_if_le_f (tgt := 32) O dX7_lookAtOne_24 (by decide) hc ?_
      refine r_aload_n O 1 dX7_lookAtOne_27 rfl (Or.inl rfl) ?_
      obtain ⟨⟨x6, h7⟩, ex6, hf⟩ := bnd hf
      dsimp only at hf
      refine r_callV (av := []) (st := []) O (c_X7_pop ex6) mf_X7_pop cf7 (kd_X7_pop ex6) ml_X7_80 mi_X7_pop mv_X7_pop (by decide) (Nat.le_of_ble_eq_true rfl) (by decide) dX7_lookAtOne_28 ?_
      refine r_pop2 O dX7_lookAtOne_31 rfl ?_
      obtain rfl := oi1 hf
      refine AW.sub [1, 0] rfl ?_
      exact hJ
def f_X7_given (h : AH) (a0 : Nat) (a1 : Int32) (a2 : Int32) (a3 : Int32) : Option Int64 :=
if aK h a0 = 7 then
Option.bind (f_X8_ownerOf h a1) fun x1 =>
Option.bind (gP h 7 a0 6) fun x3 =>
Option.bind (f_X4_listOf h x3 a1) fun x4 =>
if a2 = 1 then
Option.bind (f_X8_isOfThing h a1) fun x6 =>
Option.bind (if x6 = 0 then
Option.bind (gP h 7 a0 6) fun x9 =>
Option.bind (gP h 4 x9 1) fun x10 =>
Option.bind (ldI h x10 ((2 * x1) + a3)) fun x11 =>
some x11.toInt64
else
Option.bind (gP h 7 a0 6) fun x12 =>
Option.bind (gP h 4 x12 0) fun x13 =>
Option.bind (ldI h x13 ((4 * x1) + a3)) fun x14 =>
some x14.toInt64) fun x8 =>
some x8
else
if a2 = 2 then
Option.bind (gP h 7 a0 6) fun x15 =>
Option.bind (gP h 4 x15 1) fun x16 =>
Option.bind (ldI h x16 ((2 * x4) + a3)) fun x17 =>
some x17.toInt64
else
if a2 = 3 then
Option.bind (if a3 = 0 then
Option.bind (gP h 7 a0 6) fun x22 =>
Option.bind (gP h 4 x22 4) fun x23 =>
Option.bind (ldI h x23 x1) fun x24 =>
some x24.toInt64
else
Option.bind (gP h 7 a0 6) fun x19 =>
Option.bind (gP h 4 x19 6) fun x20 =>
Option.bind (ldI h x20 x4) fun x21 =>
some x21.toInt64) fun x18 =>
some x18
else
some a3.toInt64
else none
theorem kd_X7_given {h : AH} {a0 : Nat} {a1 : Int32} {a2 : Int32} {a3 : Int32} {r : Int64} (hf : f_X7_given h a0 a1 a2 a3 = some r) : aK h a0 = 7 := by
  unfold f_X7_given at hf
  exact (ifk hf).1
set_option maxRecDepth 100000 in
set_option maxHeartbeats 4000000 in
theorem c_X7_given {l : Launch} {G : GT} {h : AH} {a0 : Nat} {a1 : Int32} {a2 : Int32} {a3 : Int32} {r : Int64} (hf : f_X7_given h a0 a1 a2 a3 = some r) : Cn l yX7_given cX7_given 6 (some .long) 2 41 0 0 G h [.ref a0, .int a1, .int a2, .int a3] (.ok (some (.long r))) h := by
  refine Cn.of (by decide) (Nat.le_of_ble_eq_true rfl) ?_
  intro p e s m args below meth c O hr hx hin
  have O : OkC p l s m args meth c G cX7_given 6 RX7 := O
  unfold f_X7_given at hf
  obtain ⟨hk0, hf⟩ := ifk hf
  refine AW.sub (lv' := [(0, .ref a0), (1, .int a1), (2, .int a2), (3, .int a3)]) [0, 1, 2, 3] rfl ?_
  refine r_iload_n O 1 dX7_given_0 rfl ?_
  obtain ⟨x1, ex1, hf⟩ := bnd hf
  refine r_callSN (av := [.int a1]) (st := []) O (c_X8_ownerOf ex1) mf_X8_ownerOf mn_X7_92 ms_X8_ownerOf (by decide) (Nat.le_of_ble_eq_true rfl) (by decide) dX7_given_1 ?_
  refine r_istore O [(4, .int x1), (0, .ref a0), (1, .int a1), (2, .int a2), (3, .int a3)] dX7_given_4 (by decide) rfl ?_
  refine r_aload_n O 1 dX7_given_6 rfl (Or.inl rfl) ?_
  obtain ⟨x3, ex3, hf⟩ := bnd hf
  refine r_gP O cf7 6 (by decide) rfl fl_X7_19 ex3 dX7_given_7 ?_
  refine r_iload_n O 2 dX7_given_10 rfl ?_
  obtain ⟨x4, ex4, hf⟩ := bnd hf
  refine r_callV (av := [.int a1]) (st := []) O (c_X4_listOf ex4) mf_X4_listOf cf4 (kd_X4_listOf ex4) ml_X7_53 mi_X4_listOf mv_X4_listOf (by decide) (Nat.le_of_ble_eq_true rfl) (by decide) dX7_given_11 ?_
  refine r_istore O [(5, .int x4), (4, .int x1), (0, .ref a0), (1, .int a1), (2, .int a2), (3, .int a3)] dX7_given_14 (by decide) rfl ?_
  refine r_iload_n O 4 dX7_given_16 rfl ?_
  by_cases hc : a2 = 1
  · rw [if_pos hc] at hf
    refine r_table_in (off := 27) (tgt := 44) O dX7_given_17 (by (rw [hc]; decide)) (by (rw [hc]; decide)) (by (rw [hc]; rfl)) (by decide) ?_
    refine r_iload_n O 3 dX7_given_44 rfl ?_
    obtain ⟨x6, ex6, hf⟩ := bnd hf
    refine r_callSN (av := [.int a1]) (st := []) O (c_X8_isOfThing ex6) mf_X8_isOfThing mn_X7_95 ms_X8_isOfThing (by decide) (Nat.le_of_ble_eq_true rfl) (by decide) dX7_given_45 ?_
    obtain ⟨x8, hg, hf⟩ := bnd hf
    have hJ : AW p l e { frames := 2, cells := 0, slots := 0, locals := 41 } s m args below meth c G 6 (vx_MQ below (QcN G (.ok (some (.long r))) h) (XcN G (.ok (some (.long r))) h) args s 0 0 (gA G)) h 0 0 84 [] [.long x8] := by
      obtain rfl := Option.some.inj hf
      exact r_lret O hr rfl rfl (by decide) (by decide) dX7_given_84
    clear hf
    have hf := hg
    clear hg
    by_cases hc : x6 = 0
    · rw [if_pos hc] at hf
      refine r_if_eq_t (tgt := 69) O dX7_given_48 (by decide) hc ?_
      refine r_aload_n O 2 dX7_given_69 rfl (Or.inl rfl) ?_
      obtain ⟨x9, ex9, hf⟩ := bnd hf
      refine r_gP O cf7 6 (by decide) rfl fl_X7_19 ex9 dX7_given_70 ?_
      obtain ⟨x10, ex10, hf⟩ := bnd hf
      refine r_gP O cf4 1 (by decide) rfl fl_X7_102 ex10 dX7_given_73 ?_
      refine r_iconst O (v := 2) dX7_given_76 (by decide) ?_
      refine r_iload O 1 dX7_given_77 rfl ?_
      refine r_imul O dX7_given_79 ?_
      refine r_iload_n O 5 dX7_given_80 rfl ?_
      refine r_iadd O dX7_given_81 ?_
      obtain ⟨x11, ex11, hf⟩ := bnd hf
      refine r_ldI O ex11 dX7_given_82 ?_
      refine r_i2l O dX7_given_83 ?_
      obtain rfl := oi1 hf
      refine AW.sub [] rfl ?_
      exact hJ
    · rw [if_neg hc] at hf
      refine r_if_eq_f (tgt := 69) O dX7_given_48 (by decide) hc ?_
      refine r_aload_n O 2 dX7_given_51 rfl (Or.inl rfl) ?_
      obtain ⟨x12, ex12, hf⟩ := bnd hf
      refine r_gP O cf7 6 (by decide) rfl fl_X7_19 ex12 dX7_given_52 ?_
      obtain ⟨x13, ex13, hf⟩ := bnd hf
      refine r_gP O cf4 0 (by decide) rfl fl_X7_98 ex13 dX7_given_55 ?_
      refine r_iconst O (v := 4) dX7_given_58 (by decide) ?_
      refine r_iload O 1 dX7_given_59 rfl ?_
      refine r_imul O dX7_given_61 ?_
      refine r_iload_n O 5 dX7_given_62 rfl ?_
      refine r_iadd O dX7_given_63 ?_
      obtain ⟨x14, ex14, hf⟩ := bnd hf
      refine r_ldI O ex14 dX7_given_64 ?_
      refine r_i2l O dX7_given_65 ?_
      refine r_goto (tgt := 84) O dX7_given_66 (by decide) ?_
      obtain rfl := oi1 hf
      refine AW.sub [] rfl ?_
      exact hJ
  · rw [if_neg hc] at hf
    have hn44 := hc
    by_cases hc : a2 = 2
    · rw [if_pos hc] at hf
      refine r_table_in (off := 68) (tgt := 85) O dX7_given_17 (by (rw [hc]; decide)) (by (rw [hc]; decide)) (by (rw [hc]; rfl)) (by decide) ?_
      refine r_aload_n O 2 dX7_given_85 rfl (Or.inl rfl) ?_
      obtain ⟨x15, ex15, hf⟩ := bnd hf
      refine r_gP O cf7 6 (by decide) rfl fl_X7_19 ex15 dX7_given_86 ?_
      obtain ⟨x16, ex16, hf⟩ := bnd hf
      refine r_gP O cf4 1 (by decide) rfl fl_X7_102 ex16 dX7_given_89 ?_
      refine r_iconst O (v := 2) dX7_given_92 (by decide) ?_
      refine r_iload O 0 dX7_given_93 rfl ?_
      refine r_imul O dX7_given_95 ?_
      refine r_iload_n O 5 dX7_given_96 rfl ?_
      refine r_iadd O dX7_given_97 ?_
      obtain ⟨x17, ex17, hf⟩ := bnd hf
      refine r_ldI O ex17 dX7_given_98 ?_
      refine r_i2l O dX7_given_99 ?_
      obtain rfl := Option.some.inj hf
      exact r_lret O hr rfl rfl (by decide) (by decide) dX7_given_100
    · rw [if_neg hc] at hf
      have hn85 := hc
      by_cases hc : a2 = 3
      · rw [if_pos hc] at hf
        refine r_table_in (off := 84) (tgt := 101) O dX7_given_17 (by (rw [hc]; decide)) (by (rw [hc]; decide)) (by (rw [hc]; rfl)) (by decide) ?_
        refine r_iload_n O 5 dX7_given_101 rfl ?_
        obtain ⟨x18, hg, hf⟩ := bnd hf
        have hJ : AW p l e { frames := 2, cells := 0, slots := 0, locals := 41 } s m args below meth c G 6 (vx_MQ below (QcN G (.ok (some (.long r))) h) (XcN G (.ok (some (.long r))) h) args s 0 0 (gA G)) h 0 0 130 [] [.long x18] := by
          obtain rfl := Option.some.inj hf
          exact r_lret O hr rfl rfl (by decide) (by decide) dX7_given_130
        clear hf
        have hf := hg
        clear hg
        by_cases hc : a3 = 0
        · rw [if_pos hc] at hf
          refine r_if_ne_f (tgt := 119) O dX7_given_102 (by decide) hc ?_
          refine r_aload_n O 2 dX7_given_105 rfl (Or.inl rfl) ?_
          obtain ⟨x22, ex22, hf⟩ := bnd hf
          refine r_gP O cf7 6 (by decide) rfl fl_X7_19 ex22 dX7_given_106 ?_
          obtain ⟨x23, ex23, hf⟩ := bnd hf
          refine r_gP O cf4 4 (by decide) rfl fl_X7_105 ex23 dX7_given_109 ?_
          refine r_iload O 1 dX7_given_112 rfl ?_
          obtain ⟨x24, ex24, hf⟩ := bnd hf
          refine r_ldI O ex24 dX7_given_114 ?_
          refine r_i2l O dX7_given_115 ?_
          refine r_goto (tgt := 130) O dX7_given_116 (by decide) ?_
          obtain rfl := oi1 hf
          refine AW.sub [] rfl ?_
          exact hJ
        · rw [if_neg hc] at hf
          refine r_if_ne_t (tgt := 119) O dX7_given_102 (by decide) hc ?_
          refine r_aload_n O 2 dX7_given_119 rfl (Or.inl rfl) ?_
          obtain ⟨x19, ex19, hf⟩ := bnd hf
          refine r_gP O cf7 6 (by decide) rfl fl_X7_19 ex19 dX7_given_120 ?_
          obtain ⟨x20, ex20, hf⟩ := bnd hf
          refine r_gP O cf4 6 (by decide) rfl fl_X7_108 ex20 dX7_given_123 ?_
          refine r_iload O 0 dX7_given_126 rfl ?_
          obtain ⟨x21, ex21, hf⟩ := bnd hf
          refine r_ldI O ex21 dX7_given_128 ?_
          refine r_i2l O dX7_given_129 ?_
          obtain rfl := oi1 hf
          refine AW.sub [] rfl ?_
          exact hJ
      · rw [if_neg hc] at hf
        have hn101 := hc
        have hout := tb_out (x := a2) 1 3 (fun j hj => by
          rcases (show j = 0 ∨ j = 1 ∨ j = 2 by omega) with rfl | rfl | rfl
          · exact fun q => hn44 (q.trans (by decide))
          · exact fun q => hn85 (q.trans (by decide))
          · exact fun q => hn101 (q.trans (by decide)))
        refine r_table_out (tgt := 131) O dX7_given_17 hout (by decide) ?_
        refine r_iload_n O 5 dX7_given_131 rfl ?_
        refine r_i2l O dX7_given_132 ?_
        obtain rfl := Option.some.inj hf
        exact r_lret O hr rfl rfl (by decide) (by decide) dX7_given_133
def f_X7_choose (h : AH) (a0 : Nat) (a1 : Int64) : Option AH :=
if aK h a0 = 7 then
Option.bind (f_X7_pop h a0) fun w => match w with
| (x1, h2) =>
Option.bind (f_X7_pop h2 a0) fun w => match w with
| (x3, h4) =>
Option.bind (if (lg_cmp x3 0) ≤ 0 then
some a1
else
some x1) fun x5 =>
Option.bind (f_X7_push h4 a0 x5) fun h7 =>
some h7
else none
theorem kd_X7_choose {h : AH} {a0 : Nat} {a1 : Int64} {r : AH} (hf : f_X7_choose h a0 a1 = some r) : aK h a0 = 7 := by
  unfold f_X7_choose at hf
  exact (ifk hf).1
set_option maxRecDepth 100000 in
set_option maxHeartbeats 4000000 in
theorem c_X7_choose {l : Launch} {G : GT} {h : AH} {a0 : Nat} {a1 : Int64} {r : AH} (hf : f_X7_choose h a0 a1 = some r) : Cn l yX7_choose cX7_choose 5 none 1 22 0 0 G h [.ref a0, .long a1] (.ok none) r := by
  refine Cn.of (by decide) (Nat.le_of_ble_eq_true rfl) ?_
  intro p e s m args below meth c O hr hx hin
  have O : OkC p l s m args meth c G cX7_choose 5 RX7 := O
  unfold f_X7_choose at hf
  obtain ⟨hk0, hf⟩ := ifk hf
  refine AW.sub (lv' := [(0, .ref a0), (1, .long a1)]) [0, 1] rfl ?_
  refine r_aload_n O 0 dX7_choose_0 rfl (Or.inl rfl) ?_
  obtain ⟨⟨x1, h2⟩, ex1, hf⟩ := bnd hf
  dsimp only at hf
  refine r_callV (av := []) (st := []) O (c_X7_pop ex1) mf_X7_pop cf7 (kd_X7_pop ex1) ml_X7_80 mi_X7_pop mv_X7_pop (by decide) (Nat.le_of_ble_eq_true rfl) (by decide) dX7_choose_1 ?_
  refine r_lstore_n O [(3, .long x1), (0, .ref a0), (1, .long a1)] dX7_choose_4 (by decide) rfl ?_
  refine r_aload_n O 1 dX7_choose_5 rfl (Or.inl rfl) ?_
  refine r_aload_n O 1 dX7_choose_6 rfl (Or.inl rfl) ?_
  obtain ⟨⟨x3, h4⟩, ex3, hf⟩ := bnd hf
  dsimp only at hf
  refine r_callV (av := []) (st := [.ref a0]) O (c_X7_pop ex3) mf_X7_pop cf7 (kd_X7_pop ex3) ml_X7_80 mi_X7_pop mv_X7_pop (by decide) (Nat.le_of_ble_eq_true rfl) (by decide) dX7_choose_7 ?_
  refine r_lconst O (v := 0) dX7_choose_10 (by decide) ?_
  refine r_lcmp O dX7_choose_11 ?_
  obtain ⟨x5, hg, hf⟩ := bnd hf
  have hJ : AW p l e { frames := 1, cells := 0, slots := 0, locals := 22 } s m args below meth c G 5 (vx_MQ below (QcN G (.ok none) r) (XcN G (.ok none) r) args s 0 0 (gA G)) h4 0 0 20 [] [.long x5, .ref a0] := by
    obtain ⟨h7, eh7, hf⟩ := bnd hf
    refine r_callV (av := [.long x5]) (st := []) O (c_X7_push eh7) mf_X7_push cf7 (kd_X7_push eh7) ml_X7_72 mi_X7_push mv_X7_push (by decide) (Nat.le_of_ble_eq_true rfl) (by decide) dX7_choose_20 ?_
    obtain rfl := Option.some.inj hf
    exact r_vret O hr rfl rfl (by decide) (by decide) dX7_choose_23
  clear hf
  have hf := hg
  clear hg
  by_cases hc : (lg_cmp x3 0) ≤ 0
  · rw [if_pos hc] at hf
    refine r_if_le_t (tgt := 19) O dX7_choose_12 (by decide) hc ?_
    refine r_lload_n O 2 dX7_choose_19 rfl ?_
    obtain rfl := oi1 hf
    refine AW.sub [] rfl ?_
    exact hJ
  · rw [if_neg hc] at hf
    refine r_if_le_f (tgt := 19) O dX7_choose_12 (by decide) hc ?_
    refine r_lload_n O 0 dX7_choose_15 rfl ?_
    refine r_goto (tgt := 20) O dX7_choose_16 (by decide) ?_
    obtain rfl := oi1 hf
    refine AW.sub [] rfl ?_
    exact hJ
def f_X7_times (h : AH) (a0 : Nat) (a1 : Int64) (a3 : Int64) : Option AH :=
if aK h a0 = 7 then
Option.bind (if (lg_cmp a1 0) = 0 then
Option.bind (f_X7_push h a0 (a1 * a3)) fun h3 =>
some h3
else
Option.bind (some (abJ a3)) fun x4 =>
Option.bind (some (abJ a1)) fun x5 =>
Option.bind (dvJ 1000000000000000 x5) fun x6 =>
if (lg_cmp x4 x6) ≤ 0 then
Option.bind (f_X7_push h a0 (a1 * a3)) fun h8 =>
some h8
else
Option.bind (pI h 7 a0 3 3) fun h9 =>
some h9) fun h1 =>
some h1
else none
theorem kd_X7_times {h : AH} {a0 : Nat} {a1 : Int64} {a3 : Int64} {r : AH} (hf : f_X7_times h a0 a1 a3 = some r) : aK h a0 = 7 := by
  unfold f_X7_times at hf
  exact (ifk hf).1
set_option maxRecDepth 100000 in
set_option maxHeartbeats 4000000 in
theorem c_X7_times {l : Launch} {G : GT} {h : AH} {a0 : Nat} {a1 : Int64} {a3 : Int64} {r : AH} (hf : f_X7_times h a0 a1 a3 = some r) : Cn l yX7_times cX7_times 5 none 1 23 0 0 G h [.ref a0, .long a1, .long a3] (.ok none) r := by
  refine Cn.of (by decide) (Nat.le_of_ble_eq_true rfl) ?_
  intro p e s m args below meth c O hr hx hin
  have O : OkC p l s m args meth c G cX7_times 5 RX7 := O
  unfold f_X7_times at hf
  obtain ⟨hk0, hf⟩ := ifk hf
  refine AW.sub (lv' := [(0, .ref a0), (1, .long a1), (3, .long a3)]) [0, 1, 2] rfl ?_
  refine r_lload_n O 1 dX7_times_0 rfl ?_
  refine r_lconst O (v := 0) dX7_times_1 (by decide) ?_
  refine r_lcmp O dX7_times_2 ?_
  obtain ⟨h1, hg, hf⟩ := bnd hf
  have hJ : AW p l e { frames := 1, cells := 0, slots := 0, locals := 23 } s m args below meth c G 5 (vx_MQ below (QcN G (.ok none) r) (XcN G (.ok none) r) args s 0 0 (gA G)) h1 0 0 37 [] [] := by
    obtain rfl := Option.some.inj hf
    exact r_vret O hr rfl rfl (by decide) (by decide) dX7_times_37
  clear hf
  have hf := hg
  clear hg
  by_cases hc : (lg_cmp a1 0) = 0
  · rw [if_pos hc] at hf
    refine r_if_eq_t (tgt := 30) O dX7_times_3 (by decide) hc ?_
    refine r_aload_n O 0 dX7_times_30 rfl (Or.inl rfl) ?_
    refine r_lload_n O 1 dX7_times_31 rfl ?_
    refine r_lload_n O 2 dX7_times_32 rfl ?_
    refine r_lmul O dX7_times_33 ?_
    obtain ⟨h3, eh3, hf⟩ := bnd hf
    refine r_callV (av := [.long (a1 * a3)]) (st := []) O (c_X7_push eh3) mf_X7_push cf7 (kd_X7_push eh3) ml_X7_72 mi_X7_push mv_X7_push (by decide) (Nat.le_of_ble_eq_true rfl) (by decide) dX7_times_34 ?_
    obtain rfl := oi1 hf
    refine AW.sub [] rfl ?_
    exact hJ
  · rw [if_neg hc] at hf
    refine r_if_eq_f (tgt := 30) O dX7_times_3 (by decide) hc ?_
    refine r_lload_n O 2 dX7_times_6 rfl ?_
    obtain ⟨x4, ex4, hf⟩ := bnd hf
    refine r_abJ O ml_X7_147 (by decide) (Nat.le_of_ble_eq_true rfl) (by decide) (by decide) dX7_times_7 ?_
    refine r_nmJ (Option.some.inj ex4) ?_
    refine r_ldc2 O cl_X7_90 dX7_times_10 ?_
    refine r_lload_n O 1 dX7_times_13 rfl ?_
    obtain ⟨x5, ex5, hf⟩ := bnd hf
    refine r_abJ O ml_X7_147 (by decide) (Nat.le_of_ble_eq_true rfl) (by decide) (by decide) dX7_times_14 ?_
    refine r_nmJ (Option.some.inj ex5) ?_
    obtain ⟨x6, ex6, hf⟩ := bnd hf
    refine r_dvJ O ex6 dX7_times_17 ?_
    refine r_lcmp O dX7_times_18 ?_
    by_cases hc : (lg_cmp x4 x6) ≤ 0
    · rw [if_pos hc] at hf
      refine r_if_le_t (tgt := 30) O dX7_times_19 (by decide) hc ?_
      refine r_aload_n O 0 dX7_times_30 rfl (Or.inl rfl) ?_
      refine r_lload_n O 1 dX7_times_31 rfl ?_
      refine r_lload_n O 2 dX7_times_32 rfl ?_
      refine r_lmul O dX7_times_33 ?_
      obtain ⟨h8, eh8, hf⟩ := bnd hf
      refine r_callV (av := [.long (a1 * a3)]) (st := []) O (c_X7_push eh8) mf_X7_push cf7 (kd_X7_push eh8) ml_X7_72 mi_X7_push mv_X7_push (by decide) (Nat.le_of_ble_eq_true rfl) (by decide) dX7_times_34 ?_
      obtain rfl := oi1 hf
      refine AW.sub [] rfl ?_
      exact hJ
    · rw [if_neg hc] at hf
      refine r_if_le_f (tgt := 30) O dX7_times_19 (by decide) hc ?_
      refine r_aload_n O 0 dX7_times_22 rfl (Or.inl rfl) ?_
      refine r_iconst O (v := 3) dX7_times_23 (by decide) ?_
      obtain ⟨h9, eh9, hf⟩ := bnd hf
      refine r_pI O cf7 3 (by decide) rfl fl_X7_30 rfl eh9 dX7_times_24 ?_
      refine r_goto (tgt := 37) O dX7_times_27 (by decide) ?_
      obtain rfl := oi1 hf
      refine AW.sub [] rfl ?_
      exact hJ
def f_X7_by (h : AH) (a0 : Nat) (a1 : Int64) (a3 : Int64) : Option AH :=
if aK h a0 = 7 then
Option.bind (if (lg_cmp a3 0) = 0 then
Option.bind (pI h 7 a0 3 1) fun h5 =>
some h5
else
Option.bind (dvJ a1 a3) fun x2 =>
Option.bind (f_X7_push h a0 x2) fun h4 =>
some h4) fun h1 =>
some h1
else none
theorem kd_X7_by {h : AH} {a0 : Nat} {a1 : Int64} {a3 : Int64} {r : AH} (hf : f_X7_by h a0 a1 a3 = some r) : aK h a0 = 7 := by
  unfold f_X7_by at hf
  exact (ifk hf).1
set_option maxRecDepth 100000 in
set_option maxHeartbeats 4000000 in
theorem c_X7_by {l : Launch} {G : GT} {h : AH} {a0 : Nat} {a1 : Int64} {a3 : Int64} {r : AH} (hf : f_X7_by h a0 a1 a3 = some r) : Cn l yX7_by cX7_by 5 none 1 22 0 0 G h [.ref a0, .long a1, .long a3] (.ok none) r := by
  refine Cn.of (by decide) (Nat.le_of_ble_eq_true rfl) ?_
  intro p e s m args below meth c O hr hx hin
  have O : OkC p l s m args meth c G cX7_by 5 RX7 := O
  unfold f_X7_by at hf
  obtain ⟨hk0, hf⟩ := ifk hf
  refine AW.sub (lv' := [(0, .ref a0), (1, .long a1), (3, .long a3)]) [0, 1, 2] rfl ?_
  refine r_lload_n O 2 dX7_by_0 rfl ?_
  refine r_lconst O (v := 0) dX7_by_1 (by decide) ?_
  refine r_lcmp O dX7_by_2 ?_
  obtain ⟨h1, hg, hf⟩ := bnd hf
  have hJ : AW p l e { frames := 1, cells := 0, slots := 0, locals := 22 } s m args below meth c G 5 (vx_MQ below (QcN G (.ok none) r) (XcN G (.ok none) r) args s 0 0 (gA G)) h1 0 0 21 [] [] := by
    obtain rfl := Option.some.inj hf
    exact r_vret O hr rfl rfl (by decide) (by decide) dX7_by_21
  clear hf
  have hf := hg
  clear hg
  by_cases hc : (lg_cmp a3 0) = 0
  · rw [if_pos hc] at hf
    refine r_if_ne_f (tgt := 14) O dX7_by_3 (by decide) hc ?_
    refine r_aload_n O 0 dX7_by_6 rfl (Or.inl rfl) ?_
    refine r_iconst O (v := 1) dX7_by_7 (by decide) ?_
    obtain ⟨h5, eh5, hf⟩ := bnd hf
    refine r_pI O cf7 3 (by decide) rfl fl_X7_30 rfl eh5 dX7_by_8 ?_
    refine r_goto (tgt := 21) O dX7_by_11 (by decide) ?_
    obtain rfl := oi1 hf
    refine AW.sub [] rfl ?_
    exact hJ
  · rw [if_neg hc] at hf
    refine r_if_ne_t (tgt := 14) O dX7_by_3 (by decide) hc ?_
    refine r_aload_n O 0 dX7_by_14 rfl (Or.inl rfl) ?_
    refine r_lload_n O 1 dX7_by_15 rfl ?_
    refine r_lload_n O 2 dX7_by_16 rfl ?_
    obtain ⟨x2, ex2, hf⟩ := bnd hf
    refine r_dvJ O ex2 dX7_by_17 ?_
    obtain ⟨h4, eh4, hf⟩ := bnd hf
    refine r_callV (av := [.long x2]) (st := []) O (c_X7_push eh4) mf_X7_push cf7 (kd_X7_push eh4) ml_X7_72 mi_X7_push mv_X7_push (by decide) (Nat.le_of_ble_eq_true rfl) (by decide) dX7_by_18 ?_
    obtain rfl := oi1 hf
    refine AW.sub [] rfl ?_
    exact hJ
def f_X7_join (h : AH) (a0 : Nat) (a1 : Int32) (a2 : Int64) (a4 : Int64) : Option AH :=
if aK h a0 = 7 then
Option.bind (if a1 = 14 then
Option.bind (f_X7_push h a0 (a2 + a4)) fun h3 =>
some h3
else
if a1 = 15 then
Option.bind (f_X7_push h a0 (a2 - a4)) fun h5 =>
some h5
else
if a1 = 16 then
Option.bind (f_X7_times h a0 a2 a4) fun h7 =>
some h7
else
if a1 = 17 then
Option.bind (f_X7_by h a0 a2 a4) fun h9 =>
some h9
else
if a1 = 18 then
Option.bind (some (mnJ a2 a4)) fun x10 =>
Option.bind (f_X7_push h a0 x10) fun h12 =>
some h12
else
if a1 = 19 then
Option.bind (some (mxJ a2 a4)) fun x13 =>
Option.bind (f_X7_push h a0 x13) fun h15 =>
some h15
else
if a1 = 20 ∨ a1 = 21 ∨ a1 = 22 then
some h
else
if a1 = 23 then
Option.bind (f_X7_push h a0 a4) fun h17 =>
Option.bind (f_X7_push h17 a0 a2) fun h19 =>
some h19
else
some h) fun h1 =>
some h1
else none
theorem kd_X7_join {h : AH} {a0 : Nat} {a1 : Int32} {a2 : Int64} {a4 : Int64} {r : AH} (hf : f_X7_join h a0 a1 a2 a4 = some r) : aK h a0 = 7 := by
  unfold f_X7_join at hf
  exact (ifk hf).1
set_option maxRecDepth 100000 in
set_option maxHeartbeats 4000000 in
theorem c_X7_join {l : Launch} {G : GT} {h : AH} {a0 : Nat} {a1 : Int32} {a2 : Int64} {a4 : Int64} {r : AH} (hf : f_X7_join h a0 a1 a2 a4 = some r) : Cn l yX7_join cX7_join 6 none 2 47 0 0 G h [.ref a0, .int a1, .long a2, .long a4] (.ok none) r := by
  refine Cn.of (by decide) (Nat.le_of_ble_eq_true rfl) ?_
  intro p e s m args below meth c O hr hx hin
  have O : OkC p l s m args meth c G cX7_join 6 RX7 := O
  unfold f_X7_join at hf
  obtain ⟨hk0, hf⟩ := ifk hf
  refine AW.sub (lv' := [(0, .ref a0), (1, .int a1), (2, .long a2), (4, .long a4)]) [0, 1, 2, 3] rfl ?_
  refine r_iload_n O 1 dX7_join_0 rfl ?_
  obtain ⟨h1, hg, hf⟩ := bnd hf
  have hJ : AW p l e { frames := 2, cells := 0, slots := 0, locals := 47 } s m args below meth c G 6 (vx_MQ below (QcN G (.ok none) r) (XcN G (.ok none) r) args s 0 0 (gA G)) h1 0 0 138 [] [] := by
    obtain rfl := Option.some.inj hf
    exact r_vret O hr rfl rfl (by decide) (by decide) dX7_join_138
  clear hf
  have hf := hg
  clear hg
  by_cases hc : a1 = 14
  · rw [if_pos hc] at hf
    refine r_table_in (off := 55) (tgt := 56) O dX7_join_1 (by (rw [hc]; decide)) (by (rw [hc]; decide)) (by (rw [hc]; rfl)) (by decide) ?_
    refine r_aload_n O 0 dX7_join_56 rfl (Or.inl rfl) ?_
    refine r_lload_n O 2 dX7_join_57 rfl ?_
    refine r_lload O 3 dX7_join_58 rfl ?_
    refine r_ladd O dX7_join_60 ?_
    obtain ⟨h3, eh3, hf⟩ := bnd hf
    refine r_callV (av := [.long (a2 + a4)]) (st := []) O (c_X7_push eh3) mf_X7_push cf7 (kd_X7_push eh3) ml_X7_72 mi_X7_push mv_X7_push (by decide) (Nat.le_of_ble_eq_true rfl) (by decide) dX7_join_61 ?_
    refine r_goto (tgt := 138) O dX7_join_64 (by decide) ?_
    obtain rfl := oi1 hf
    refine AW.sub [] rfl ?_
    exact hJ
  · rw [if_neg hc] at hf
    have hn56 := hc
    by_cases hc : a1 = 15
    · rw [if_pos hc] at hf
      refine r_table_in (off := 66) (tgt := 67) O dX7_join_1 (by (rw [hc]; decide)) (by (rw [hc]; decide)) (by (rw [hc]; rfl)) (by decide) ?_
      refine r_aload_n O 0 dX7_join_67 rfl (Or.inl rfl) ?_
      refine r_lload_n O 2 dX7_join_68 rfl ?_
      refine r_lload O 3 dX7_join_69 rfl ?_
      refine r_lsub O dX7_join_71 ?_
      obtain ⟨h5, eh5, hf⟩ := bnd hf
      refine r_callV (av := [.long (a2 - a4)]) (st := []) O (c_X7_push eh5) mf_X7_push cf7 (kd_X7_push eh5) ml_X7_72 mi_X7_push mv_X7_push (by decide) (Nat.le_of_ble_eq_true rfl) (by decide) dX7_join_72 ?_
      refine r_goto (tgt := 138) O dX7_join_75 (by decide) ?_
      obtain rfl := oi1 hf
      refine AW.sub [] rfl ?_
      exact hJ
    · rw [if_neg hc] at hf
      have hn67 := hc
      by_cases hc : a1 = 16
      · rw [if_pos hc] at hf
        refine r_table_in (off := 77) (tgt := 78) O dX7_join_1 (by (rw [hc]; decide)) (by (rw [hc]; decide)) (by (rw [hc]; rfl)) (by decide) ?_
        refine r_aload_n O 0 dX7_join_78 rfl (Or.inl rfl) ?_
        refine r_lload_n O 2 dX7_join_79 rfl ?_
        refine r_lload O 3 dX7_join_80 rfl ?_
        obtain ⟨h7, eh7, hf⟩ := bnd hf
        refine r_callV (av := [.long a2, .long a4]) (st := []) O (c_X7_times eh7) mf_X7_times cf7 (kd_X7_times eh7) ml_X7_140 mi_X7_times mv_X7_times (by decide) (Nat.le_of_ble_eq_true rfl) (by decide) dX7_join_82 ?_
        refine r_goto (tgt := 138) O dX7_join_85 (by decide) ?_
        obtain rfl := oi1 hf
        refine AW.sub [] rfl ?_
        exact hJ
      · rw [if_neg hc] at hf
        have hn78 := hc
        by_cases hc : a1 = 17
        · rw [if_pos hc] at hf
          refine r_table_in (off := 87) (tgt := 88) O dX7_join_1 (by (rw [hc]; decide)) (by (rw [hc]; decide)) (by (rw [hc]; rfl)) (by decide) ?_
          refine r_aload_n O 0 dX7_join_88 rfl (Or.inl rfl) ?_
          refine r_lload_n O 2 dX7_join_89 rfl ?_
          refine r_lload O 3 dX7_join_90 rfl ?_
          obtain ⟨h9, eh9, hf⟩ := bnd hf
          refine r_callV (av := [.long a2, .long a4]) (st := []) O (c_X7_by eh9) mf_X7_by cf7 (kd_X7_by eh9) ml_X7_144 mi_X7_by mv_X7_by (by decide) (Nat.le_of_ble_eq_true rfl) (by decide) dX7_join_92 ?_
          refine r_goto (tgt := 138) O dX7_join_95 (by decide) ?_
          obtain rfl := oi1 hf
          refine AW.sub [] rfl ?_
          exact hJ
        · rw [if_neg hc] at hf
          have hn88 := hc
          by_cases hc : a1 = 18
          · rw [if_pos hc] at hf
            refine r_table_in (off := 97) (tgt := 98) O dX7_join_1 (by (rw [hc]; decide)) (by (rw [hc]; decide)) (by (rw [hc]; rfl)) (by decide) ?_
            refine r_aload_n O 0 dX7_join_98 rfl (Or.inl rfl) ?_
            refine r_lload_n O 2 dX7_join_99 rfl ?_
            refine r_lload O 3 dX7_join_100 rfl ?_
            obtain ⟨x10, ex10, hf⟩ := bnd hf
            refine r_mnJ O ml_X7_130 (by decide) (Nat.le_of_ble_eq_true rfl) (by decide) (by decide) dX7_join_102 ?_
            refine r_nmJ (Option.some.inj ex10) ?_
            obtain ⟨h12, eh12, hf⟩ := bnd hf
            refine r_callV (av := [.long x10]) (st := []) O (c_X7_push eh12) mf_X7_push cf7 (kd_X7_push eh12) ml_X7_72 mi_X7_push mv_X7_push (by decide) (Nat.le_of_ble_eq_true rfl) (by decide) dX7_join_105 ?_
            refine r_goto (tgt := 138) O dX7_join_108 (by decide) ?_
            obtain rfl := oi1 hf
            refine AW.sub [] rfl ?_
            exact hJ
          · rw [if_neg hc] at hf
            have hn98 := hc
            by_cases hc : a1 = 19
            · rw [if_pos hc] at hf
              refine r_table_in (off := 110) (tgt := 111) O dX7_join_1 (by (rw [hc]; decide)) (by (rw [hc]; decide)) (by (rw [hc]; rfl)) (by decide) ?_
              refine r_aload_n O 0 dX7_join_111 rfl (Or.inl rfl) ?_
              refine r_lload_n O 2 dX7_join_112 rfl ?_
              refine r_lload O 3 dX7_join_113 rfl ?_
              obtain ⟨x13, ex13, hf⟩ := bnd hf
              refine r_mxJ O ml_X7_124 (by decide) (Nat.le_of_ble_eq_true rfl) (by decide) (by decide) dX7_join_115 ?_
              refine r_nmJ (Option.some.inj ex13) ?_
              obtain ⟨h15, eh15, hf⟩ := bnd hf
              refine r_callV (av := [.long x13]) (st := []) O (c_X7_push eh15) mf_X7_push cf7 (kd_X7_push eh15) ml_X7_72 mi_X7_push mv_X7_push (by decide) (Nat.le_of_ble_eq_true rfl) (by decide) dX7_join_118 ?_
              refine r_goto (tgt := 138) O dX7_join_121 (by decide) ?_
              obtain rfl := oi1 hf
              refine AW.sub [] rfl ?_
              exact hJ
            · rw [if_neg hc] at hf
              have hn111 := hc
              by_cases hc : a1 = 20 ∨ a1 = 21 ∨ a1 = 22
              · rw [if_pos hc] at hf
                refine r_table_in (off := 137) (tgt := 138) O dX7_join_1 (by rcases hc with hc | hc | hc <;> (rw [hc]; decide)) (by rcases hc with hc | hc | hc <;> (rw [hc]; decide)) (by rcases hc with hc | hc | hc <;> (rw [hc]; rfl)) (by decide) ?_
                obtain rfl := oi1 hf
                refine AW.sub [] rfl ?_
                exact hJ
              · rw [if_neg hc] at hf
                have hn138 := hc
                by_cases hc : a1 = 23
                · rw [if_pos hc] at hf
                  refine r_table_in (off := 123) (tgt := 124) O dX7_join_1 (by (rw [hc]; decide)) (by (rw [hc]; decide)) (by (rw [hc]; rfl)) (by decide) ?_
                  refine r_aload_n O 0 dX7_join_124 rfl (Or.inl rfl) ?_
                  refine r_lload O 3 dX7_join_125 rfl ?_
                  obtain ⟨h17, eh17, hf⟩ := bnd hf
                  refine r_callV (av := [.long a4]) (st := []) O (c_X7_push eh17) mf_X7_push cf7 (kd_X7_push eh17) ml_X7_72 mi_X7_push mv_X7_push (by decide) (Nat.le_of_ble_eq_true rfl) (by decide) dX7_join_127 ?_
                  refine r_aload_n O 0 dX7_join_130 rfl (Or.inl rfl) ?_
                  refine r_lload_n O 2 dX7_join_131 rfl ?_
                  obtain ⟨h19, eh19, hf⟩ := bnd hf
                  refine r_callV (av := [.long a2]) (st := []) O (c_X7_push eh19) mf_X7_push cf7 (kd_X7_push eh19) ml_X7_72 mi_X7_push mv_X7_push (by decide) (Nat.le_of_ble_eq_true rfl) (by decide) dX7_join_132 ?_
                  refine r_goto (tgt := 138) O dX7_join_135 (by decide) ?_
                  obtain rfl := oi1 hf
                  refine AW.sub [] rfl ?_
                  exact hJ
                · rw [if_neg hc] at hf
                  have hn124 := hc
                  have hout := tb_out (x := a1) 14 10 (fun j hj => by
                    rcases (show j = 0 ∨ j = 1 ∨ j = 2 ∨ j = 3 ∨ j = 4 ∨ j = 5 ∨ j = 6 ∨ j = 7 ∨ j = 8 ∨ j = 9 by omega) with rfl | rfl | rfl | rfl | rfl | rfl | rfl | rfl | rfl | rfl
                    · exact fun q => hn56 (q.trans (by decide))
                    · exact fun q => hn67 (q.trans (by decide))
                    · exact fun q => hn78 (q.trans (by decide))
                    · exact fun q => hn88 (q.trans (by decide))
                    · exact fun q => hn98 (q.trans (by decide))
                    · exact fun q => hn111 (q.trans (by decide))
                    · exact fun q => hn138 (Or.inl (q.trans (by decide)))
                    · exact fun q => hn138 (Or.inr (Or.inl (q.trans (by decide))))
                    · exact fun q => hn138 (Or.inr (Or.inr (q.trans (by decide))))
                    · exact fun q => hn124 (q.trans (by decide)))
                  refine r_table_out (tgt := 138) O dX7_join_1 hout (by decide) ?_
                  obtain rfl := oi1 hf
                  refine AW.sub [] rfl ?_
                  exact hJ
def f_X7_reckon (h : AH) (a0 : Nat) (a1 : Int32) : Option AH :=
if aK h a0 = 7 then
Option.bind (f_X7_pop h a0) fun w => match w with
| (x1, h2) =>
Option.bind (if a1 = 20 then
Option.bind (f_X7_choose h2 a0 x1) fun h5 =>
some h5
else
if a1 = 21 then
Option.bind (if (lg_cmp x1 0) = 0 then
some (0 : Int32)
else
some (2 : Int32)) fun x6 =>
Option.bind (pI h2 7 a0 3 x6) fun h7 =>
some h7
else
if a1 = 22 then
Option.bind (f_X7_push h2 a0 x1) fun h9 =>
Option.bind (f_X7_push h9 a0 x1) fun h11 =>
some h11
else
if a1 = 23 then
Option.bind (f_X7_pop h2 a0) fun w => match w with
| (x12, h13) =>
Option.bind (f_X7_join h13 a0 a1 x12 x1) fun h15 =>
some h15
else
if a1 = 24 then
some h2
else
Option.bind (f_X7_pop h2 a0) fun w => match w with
| (x16, h17) =>
Option.bind (f_X7_join h17 a0 a1 x16 x1) fun h19 =>
some h19) fun h3 =>
some h3
else none
theorem kd_X7_reckon {h : AH} {a0 : Nat} {a1 : Int32} {r : AH} (hf : f_X7_reckon h a0 a1 = some r) : aK h a0 = 7 := by
  unfold f_X7_reckon at hf
  exact (ifk hf).1
set_option maxRecDepth 100000 in
set_option maxHeartbeats 4000000 in
theorem c_X7_reckon {l : Launch} {G : GT} {h : AH} {a0 : Nat} {a1 : Int32} {r : AH} (hf : f_X7_reckon h a0 a1 = some r) : Cn l yX7_reckon cX7_reckon 4 none 3 72 0 0 G h [.ref a0, .int a1] (.ok none) r := by
  refine Cn.of (by decide) (Nat.le_of_ble_eq_true rfl) ?_
  intro p e s m args below meth c O hr hx hin
  have O : OkC p l s m args meth c G cX7_reckon 4 RX7 := O
  unfold f_X7_reckon at hf
  obtain ⟨hk0, hf⟩ := ifk hf
  refine AW.sub (lv' := [(0, .ref a0), (1, .int a1)]) [0, 1] rfl ?_
  refine r_aload_n O 0 dX7_reckon_0 rfl (Or.inl rfl) ?_
  obtain ⟨⟨x1, h2⟩, ex1, hf⟩ := bnd hf
  dsimp only at hf
  refine r_callV (av := []) (st := []) O (c_X7_pop ex1) mf_X7_pop cf7 (kd_X7_pop ex1) ml_X7_80 mi_X7_pop mv_X7_pop (by decide) (Nat.le_of_ble_eq_true rfl) (by decide) dX7_reckon_1 ?_
  refine r_lstore_n O [(2, .long x1), (0, .ref a0), (1, .int a1)] dX7_reckon_4 (by decide) rfl ?_
  refine r_iload_n O 2 dX7_reckon_5 rfl ?_
  obtain ⟨h3, hg, hf⟩ := bnd hf
  have hJ : AW p l e { frames := 3, cells := 0, slots := 0, locals := 72 } s m args below meth c G 4 (vx_MQ below (QcN G (.ok none) r) (XcN G (.ok none) r) args s 0 0 (gA G)) h3 0 0 92 [] [] := by
    obtain rfl := Option.some.inj hf
    exact r_vret O hr rfl rfl (by decide) (by decide) dX7_reckon_92
  clear hf
  have hf := hg
  clear hg
  by_cases hc : a1 = 20
  · rw [if_pos hc] at hf
    refine r_table_in (off := 34) (tgt := 40) O dX7_reckon_6 (by (rw [hc]; decide)) (by (rw [hc]; decide)) (by (rw [hc]; rfl)) (by decide) ?_
    refine r_aload_n O 1 dX7_reckon_40 rfl (Or.inl rfl) ?_
    refine r_lload_n O 0 dX7_reckon_41 rfl ?_
    obtain ⟨h5, eh5, hf⟩ := bnd hf
    refine r_callV (av := [.long x1]) (st := []) O (c_X7_choose eh5) mf_X7_choose cf7 (kd_X7_choose eh5) ml_X7_133 mi_X7_choose mv_X7_choose (by decide) (Nat.le_of_ble_eq_true rfl) (by decide) dX7_reckon_42 ?_
    refine r_goto (tgt := 92) O dX7_reckon_45 (by decide) ?_
    obtain rfl := oi1 hf
    refine AW.sub [] rfl ?_
    exact hJ
  · rw [if_neg hc] at hf
    have hn40 := hc
    by_cases hc : a1 = 21
    · rw [if_pos hc] at hf
      refine r_table_in (off := 42) (tgt := 48) O dX7_reckon_6 (by (rw [hc]; decide)) (by (rw [hc]; decide)) (by (rw [hc]; rfl)) (by decide) ?_
      refine r_aload_n O 1 dX7_reckon_48 rfl (Or.inl rfl) ?_
      refine r_lload_n O 0 dX7_reckon_49 rfl ?_
      refine r_lconst O (v := 0) dX7_reckon_50 (by decide) ?_
      refine r_lcmp O dX7_reckon_51 ?_
      obtain ⟨x6, hg, hf⟩ := bnd hf
      have hJ : AW p l e { frames := 3, cells := 0, slots := 0, locals := 72 } s m args below meth c G 4 (vx_MQ below (QcN G (.ok none) r) (XcN G (.ok none) r) args s 0 0 (gA G)) h2 0 0 60 [] [.int x6, .ref a0] := by
        obtain ⟨h7, eh7, hf⟩ := bnd hf
        refine r_pI O cf7 3 (by decide) rfl fl_X7_30 rfl eh7 dX7_reckon_60 ?_
        refine r_goto (tgt := 92) O dX7_reckon_63 (by decide) ?_
        obtain rfl := oi1 hf
        refine AW.sub [] rfl ?_
        exact hJ
      clear hf
      have hf := hg
      clear hg
      by_cases hc : (lg_cmp x1 0) = 0
      · rw [if_pos hc] at hf
        refine r_if_ne_f (tgt := 59) O dX7_reckon_52 (by decide) hc ?_
        refine r_iconst O (v := 0) dX7_reckon_55 (by decide) ?_
        refine r_goto (tgt := 60) O dX7_reckon_56 (by decide) ?_
        obtain rfl := oi1 hf
        refine AW.sub [] rfl ?_
        exact hJ
      · rw [if_neg hc] at hf
        refine r_if_ne_t (tgt := 59) O dX7_reckon_52 (by decide) hc ?_
        refine r_iconst O (v := 2) dX7_reckon_59 (by decide) ?_
        obtain rfl := oi1 hf
        refine AW.sub [] rfl ?_
        exact hJ
    · rw [if_neg hc] at hf
      have hn48 := hc
      by_cases hc : a1 = 22
      · rw [if_pos hc] at hf
        refine r_table_in (off := 60) (tgt := 66) O dX7_reckon_6 (by (rw [hc]; decide)) (by (rw [hc]; decide)) (by (rw [hc]; rfl)) (by decide) ?_
        refine r_aload_n O 1 dX7_reckon_66 rfl (Or.inl rfl) ?_
        refine r_lload_n O 0 dX7_reckon_67 rfl ?_
        obtain ⟨h9, eh9, hf⟩ := bnd hf
        refine r_callV (av := [.long x1]) (st := []) O (c_X7_push eh9) mf_X7_push cf7 (kd_X7_push eh9) ml_X7_72 mi_X7_push mv_X7_push (by decide) (Nat.le_of_ble_eq_true rfl) (by decide) dX7_reckon_68 ?_
        refine r_aload_n O 1 dX7_reckon_71 rfl (Or.inl rfl) ?_
        refine r_lload_n O 0 dX7_reckon_72 rfl ?_
        obtain ⟨h11, eh11, hf⟩ := bnd hf
        refine r_callV (av := [.long x1]) (st := []) O (c_X7_push eh11) mf_X7_push cf7 (kd_X7_push eh11) ml_X7_72 mi_X7_push mv_X7_push (by decide) (Nat.le_of_ble_eq_true rfl) (by decide) dX7_reckon_73 ?_
        refine r_goto (tgt := 92) O dX7_reckon_76 (by decide) ?_
        obtain rfl := oi1 hf
        refine AW.sub [] rfl ?_
        exact hJ
      · rw [if_neg hc] at hf
        have hn66 := hc
        by_cases hc : a1 = 23
        · rw [if_pos hc] at hf
          refine r_table_in (off := 76) (tgt := 82) O dX7_reckon_6 (by (rw [hc]; decide)) (by (rw [hc]; decide)) (by (rw [hc]; rfl)) (by decide) ?_
          refine r_aload_n O 1 dX7_reckon_82 rfl (Or.inl rfl) ?_
          refine r_iload_n O 2 dX7_reckon_83 rfl ?_
          refine r_aload_n O 1 dX7_reckon_84 rfl (Or.inl rfl) ?_
          obtain ⟨⟨x12, h13⟩, ex12, hf⟩ := bnd hf
          dsimp only at hf
          refine r_callV (av := []) (st := [.int a1, .ref a0]) O (c_X7_pop ex12) mf_X7_pop cf7 (kd_X7_pop ex12) ml_X7_80 mi_X7_pop mv_X7_pop (by decide) (Nat.le_of_ble_eq_true rfl) (by decide) dX7_reckon_85 ?_
          refine r_lload_n O 0 dX7_reckon_88 rfl ?_
          obtain ⟨h15, eh15, hf⟩ := bnd hf
          refine r_callV (av := [.int a1, .long x12, .long x1]) (st := []) O (c_X7_join eh15) mf_X7_join cf7 (kd_X7_join eh15) ml_X7_136 mi_X7_join mv_X7_join (by decide) (Nat.le_of_ble_eq_true rfl) (by decide) dX7_reckon_89 ?_
          obtain rfl := oi1 hf
          refine AW.sub [] rfl ?_
          exact hJ
        · rw [if_neg hc] at hf
          have hn82 := hc
          by_cases hc : a1 = 24
          · rw [if_pos hc] at hf
            refine r_table_in (off := 73) (tgt := 79) O dX7_reckon_6 (by (rw [hc]; decide)) (by (rw [hc]; decide)) (by (rw [hc]; rfl)) (by decide) ?_
            refine r_goto (tgt := 92) O dX7_reckon_79 (by decide) ?_
            obtain rfl := oi1 hf
            refine AW.sub [] rfl ?_
            exact hJ
          · rw [if_neg hc] at hf
            have hn79 := hc
            have hout := tb_out (x := a1) 20 5 (fun j hj => by
              rcases (show j = 0 ∨ j = 1 ∨ j = 2 ∨ j = 3 ∨ j = 4 by omega) with rfl | rfl | rfl | rfl | rfl
              · exact fun q => hn40 (q.trans (by decide))
              · exact fun q => hn48 (q.trans (by decide))
              · exact fun q => hn66 (q.trans (by decide))
              · exact fun q => hn82 (q.trans (by decide))
              · exact fun q => hn79 (q.trans (by decide)))
            refine r_table_out (tgt := 82) O dX7_reckon_6 hout (by decide) ?_
            refine r_aload_n O 1 dX7_reckon_82 rfl (Or.inl rfl) ?_
            refine r_iload_n O 2 dX7_reckon_83 rfl ?_
            refine r_aload_n O 1 dX7_reckon_84 rfl (Or.inl rfl) ?_
            obtain ⟨⟨x16, h17⟩, ex16, hf⟩ := bnd hf
            dsimp only at hf
            refine r_callV (av := []) (st := [.int a1, .ref a0]) O (c_X7_pop ex16) mf_X7_pop cf7 (kd_X7_pop ex16) ml_X7_80 mi_X7_pop mv_X7_pop (by decide) (Nat.le_of_ble_eq_true rfl) (by decide) dX7_reckon_85 ?_
            refine r_lload_n O 0 dX7_reckon_88 rfl ?_
            obtain ⟨h19, eh19, hf⟩ := bnd hf
            refine r_callV (av := [.int a1, .long x16, .long x1]) (st := []) O (c_X7_join eh19) mf_X7_join cf7 (kd_X7_join eh19) ml_X7_136 mi_X7_join mv_X7_join (by decide) (Nat.le_of_ble_eq_true rfl) (by decide) dX7_reckon_89 ?_
            obtain rfl := oi1 hf
            refine AW.sub [] rfl ?_
            exact hJ
