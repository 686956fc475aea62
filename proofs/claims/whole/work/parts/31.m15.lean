def f_X9_readsCell (h : AH) (a0 : Nat) (a1 : Nat) (a2 : Int32) : Option Int32 :=
if aK h a0 = 9 then
Option.bind (if a2 < 5000 then
some (0 : Int32)
else
Option.bind (f_X9_isCell h a0 a1 (a2 - 5000)) fun x2 =>
if x2 = 0 then
some (0 : Int32)
else
some (1 : Int32)) fun x1 =>
Option.bind (bz x1) fun x4 =>
some x4
else none
theorem kd_X9_readsCell {h : AH} {a0 : Nat} {a1 : Nat} {a2 : Int32} {r : Int32} (hf : f_X9_readsCell h a0 a1 a2 = some r) : aK h a0 = 9 := by
  unfold f_X9_readsCell at hf
  exact (ifk hf).1
set_option maxRecDepth 100000 in
set_option maxHeartbeats 4000000 in
theorem c_X9_readsCell {l : Launch} {G : GT} {h : AH} {a0 : Nat} {a1 : Nat} {a2 : Int32} {r : Int32} (hf : f_X9_readsCell h a0 a1 a2 = some r) : Cn l yX9_readsCell cX9_readsCell 3 (some .boolean) 2 42 0 0 G h [.ref a0, .ref a1, .int a2] (.ok (some (.int r))) h := by
  refine Cn.of (by decide) (Nat.le_of_ble_eq_true rfl) ?_
  intro p e s m args below meth c O hr hx hin
  have O : OkC p l s m args meth c G cX9_readsCell 3 RX9 := O
  unfold f_X9_readsCell at hf
  obtain ⟨hk0, hf⟩ := ifk hf
  refine AW.sub (lv' := [(0, .ref a0), (1, .ref a1), (2, .int a2)]) [0, 1, 2] rfl ?_
  refine r_iload_n O 2 dX9_readsCell_0 rfl ?_
  refine r_sipush O (v := 5000) dX9_readsCell_1 (by decide) ?_
  obtain ⟨x1, hg, hf⟩ := bnd hf
  have hJ : AW p l e { frames := 2, cells := 0, slots := 0, locals := 42 } s m args below meth c G 3 (vx_MQ below (QcN G (.ok (some (.int r))) h) (XcN G (.ok (some (.int r))) h) args s 0 0 (gA G)) h 0 0 25 [] [.int x1] := by
    obtain ⟨x4, ex4, hf⟩ := bnd hf
    refine r_nmI (bz_eq ex4) ?_
    obtain rfl := Option.some.inj hf
    exact r_zret O hr (bz_or ex4) rfl rfl (by decide) (by decide) dX9_readsCell_25
  clear hf
  have hf := hg
  clear hg
  by_cases hc : a2 < 5000
  · rw [if_pos hc] at hf
    refine r_icmp_lt_t (tgt := 24) O dX9_readsCell_4 (by decide) hc ?_
    refine r_iconst O (v := 0) dX9_readsCell_24 (by decide) ?_
    obtain rfl := oi1 hf
    refine AW.sub [] rfl ?_
    exact hJ
  · rw [if_neg hc] at hf
    refine r_icmp_lt_f (tgt := 24) O dX9_readsCell_4 (by decide) hc ?_
    refine r_aload_n O 0 dX9_readsCell_7 rfl (Or.inl rfl) ?_
    refine r_aload_n O 1 dX9_readsCell_8 rfl (Or.inl rfl) ?_
    refine r_iload_n O 2 dX9_readsCell_9 rfl ?_
    refine r_sipush O (v := 5000) dX9_readsCell_10 (by decide) ?_
    refine r_isub O dX9_readsCell_13 ?_
    obtain ⟨x2, ex2, hf⟩ := bnd hf
    refine r_callV (av := [.ref a1, .int (a2 - 5000)]) (st := []) O (c_X9_isCell ex2) mf_X9_isCell cf9 (kd_X9_isCell ex2) ml_X9_162 mi_X9_isCell mv_X9_isCell (by decide) (Nat.le_of_ble_eq_true rfl) (by decide) dX9_readsCell_14 ?_
    by_cases hc : x2 = 0
    · rw [if_pos hc] at hf
      refine r_if_eq_t (tgt := 24) O dX9_readsCell_17 (by decide) hc ?_
      refine r_iconst O (v := 0) dX9_readsCell_24 (by decide) ?_
      obtain rfl := oi1 hf
      refine AW.sub [] rfl ?_
      exact hJ
    · rw [if_neg hc] at hf
      refine r_if_eq_f (tgt := 24) O dX9_readsCell_17 (by decide) hc ?_
      refine r_iconst O (v := 1) dX9_readsCell_20 (by decide) ?_
      refine r_goto (tgt := 25) O dX9_readsCell_21 (by decide) ?_
      obtain rfl := oi1 hf
      refine AW.sub [] rfl ?_
      exact hJ
def f_X9_arrange_36 (l0 : Nat) (l1 : Nat) (l2 : Int32) (l3 : Int32) (n : Nat) (h : AH) (l4 : Int32) : Option AH := match n with
| 0 => none
| n + 1 =>
if 258 ≤ l4 then
some h
else
Option.bind (gP h 9 l0 39) fun x7 =>
Option.bind (stZ h x7 ((l3 * 258) + l4) 0) fun h8 =>
f_X9_arrange_36 l0 l1 l2 l3 n h8 (l4 + 1)
def f_X9_arrange_73 (l0 : Nat) (l1 : Nat) (l2 : Int32) (l3 : Int32) (n : Nat) (h : AH) (l4 : Int32) : Option AH := match n with
| 0 => none
| n + 1 =>
Option.bind (gI h 9 l0 32) fun x12 =>
if x12 ≤ l4 then
some h
else
Option.bind (gP h 9 l0 33) fun x13 =>
Option.bind (ldI h x13 l4) fun x14 =>
Option.bind (f_X9_readsCell h l0 l1 x14) fun x15 =>
Option.bind (if x15 = 0 then
some h
else
Option.bind (gP h 9 l0 39) fun x18 =>
Option.bind (gP h 9 l0 33) fun x19 =>
Option.bind (ldI h x19 l4) fun x20 =>
Option.bind (stZ h x18 (((l3 * 258) + x20) - 5000) 1) fun h21 =>
some h21) fun h17 =>
f_X9_arrange_73 l0 l1 l2 l3 n h17 (l4 + 1)
def f_X9_arrange_4 (l0 : Nat) (l1 : Nat) (n : Nat) (h : AH) (l2 : Int32) (l3 : Int32) : Option (Int32 × AH) := match n with
| 0 => none
| n + 1 =>
if 258 ≤ l3 then
some (l2, h)
else
Option.bind (gP h 9 l0 38) fun x1 =>
Option.bind (stZ h x1 l3 0) fun h2 =>
Option.bind (f_X9_isCell h2 l0 l1 l3) fun x3 =>
Option.bind (if x3 = 0 then
some (l2, h2)
else
Option.bind (f_X9_arrange_36 l0 l1 (l2 + 1) l3 FU h2 0) fun h9 =>
Option.bind (f_X9_lookAt h9 l0 l1 l3) fun h11 =>
Option.bind (f_X9_arrange_73 l0 l1 (l2 + 1) l3 FU h11 0) fun h22 =>
some (l2 + 1, h22)) fun w => match w with
| (x5, h6) =>
f_X9_arrange_4 l0 l1 n h6 x5 (l3 + 1)
def f_X9_arrange_189 (l0 : Nat) (l1 : Nat) (l2 : Int32) (l3 : Int32) (l4 : Int32) (n : Nat) (h : AH) (l5 : Int32) (l6 : Int32) : Option Int32 := match n with
| 0 => none
| n + 1 =>
if 258 ≤ l6 then
some l5
else
if l5 = 0 then
some l5
else
Option.bind (gP h 9 l0 39) fun x32 =>
Option.bind (ldZ h x32 ((l4 * 258) + l6)) fun x33 =>
Option.bind (if x33 = 0 then
some (1 : Int32)
else
Option.bind (gP h 9 l0 38) fun x35 =>
Option.bind (ldZ h x35 l6) fun x36 =>
if x36 = 0 then
some (0 : Int32)
else
some (1 : Int32)) fun x34 =>
f_X9_arrange_189 l0 l1 l2 l3 l4 n h x34 (l6 + 1)
def f_X9_arrange_148 (l0 : Nat) (l1 : Nat) (l2 : Int32) (n : Nat) (h : AH) (l3 : Int32) (l4 : Int32) : Option (Int32 × AH) := match n with
| 0 => none
| n + 1 =>
if 258 ≤ l4 then
some (l3, h)
else
if l3 = 0 then
Option.bind (f_X9_isCell h l0 l1 l4) fun x26 =>
Option.bind (if x26 = 0 then
some (l3, h)
else
Option.bind (gP h 9 l0 38) fun x30 =>
Option.bind (ldZ h x30 l4) fun x31 =>
if x31 = 0 then
Option.bind (f_X9_arrange_189 l0 l1 l2 l3 l4 FU h 1 0) fun x37 =>
if x37 = 0 then
some (l3, h)
else
Option.bind (gP h 9 l0 38) fun x38 =>
Option.bind (stZ h x38 l4 1) fun h39 =>
Option.bind (gP h39 9 l0 37) fun x40 =>
Option.bind (gI h39 9 l0 36) fun x41 =>
Option.bind (stI h39 x40 x41 l4) fun h42 =>
Option.bind (gI h42 9 l0 36) fun x43 =>
Option.bind (pI h42 9 l0 36 (x43 + 1)) fun h44 =>
some ((1 : Int32), h44)
else
some (l3, h)) fun w => match w with
| (x28, h29) =>
f_X9_arrange_148 l0 l1 l2 n h29 x28 (l4 + 1)
else
some (l3, h)
def f_X9_arrange_139 (l0 : Nat) (l1 : Nat) (l2 : Int32) (n : Nat) (h : AH) (l3 : Int32) : Option AH := match n with
| 0 => none
| n + 1 =>
if l3 = 0 then
some h
else
Option.bind (f_X9_arrange_148 l0 l1 l2 FU h 0 0) fun w => match w with
| (x45, h46) =>
f_X9_arrange_139 l0 l1 l2 n h46 x45
def f_X9_arrange (h : AH) (a0 : Nat) (a1 : Nat) : Option (Int32 × AH) :=
if aK h a0 = 9 then
Option.bind (f_X9_arrange_4 a0 a1 FU h 0 0) fun w => match w with
| (x23, h24) =>
Option.bind (pI h24 9 a0 36 0) fun h25 =>
Option.bind (f_X9_arrange_139 a0 a1 x23 FU h25 1) fun h47 =>
Option.bind (gI h47 9 a0 36) fun x48 =>
Option.bind (if x48 = x23 then
some (1 : Int32)
else
some (0 : Int32)) fun x49 =>
Option.bind (bz x49) fun x50 =>
some (x50, h47)
else none
set_option maxRecDepth 100000 in
set_option maxHeartbeats 4000000 in
theorem s_X9_arrange_36 {p : Program} {l : Launch} {e : Env} {s : State} {m : MethodId} {args : Array Value} {below : List Frame} {meth : Method} {c : Code} {G : GT} {Q : State → Prop} (O : OkC p l s m args meth c G cX9_arrange 7 RX9) {l0 : Nat} {l1 : Nat} {l2 : Int32} {l3 : Int32} {wh : AH} (kk : AW p l e { frames := 4, cells := 0, slots := 0, locals := 93 } s m args below meth c G 7 Q wh 0 0 64 [(0, .ref l0), (1, .ref l1), (2, .int l2), (3, .int l3)] []) : ∀ (n : Nat), ∀ (h : AH) (l4 : Int32), f_X9_arrange_36 l0 l1 l2 l3 n h l4 = some wh → AW p l e { frames := 4, cells := 0, slots := 0, locals := 93 } s m args below meth c G 7 Q h 0 0 36 [(0, .ref l0), (1, .ref l1), (2, .int l2), (3, .int l3), (4, .int l4)] [] := by
  intro n
  induction n with
  | zero =>
    intro h l4 hf
    simp [f_X9_arrange_36] at hf
  | succ n ih =>
    intro h l4 hf
    unfold f_X9_arrange_36 at hf
    refine r_iload O 4 dX9_arrange_36 rfl ?_
    refine r_sipush O (v := 258) dX9_arrange_38 (by decide) ?_
    by_cases hc : 258 ≤ l4
    · rw [if_pos hc] at hf
      refine r_icmp_ge_t (tgt := 64) O dX9_arrange_41 (by decide) hc ?_
      obtain rfl := oi1 hf
      refine AW.sub [0, 1, 2, 3] rfl ?_
      exact kk
    · rw [if_neg hc] at hf
      refine r_icmp_ge_f (tgt := 64) O dX9_arrange_41 (by decide) hc ?_
      refine r_aload_n O 0 dX9_arrange_44 rfl (Or.inl rfl) ?_
      obtain ⟨x7, ex7, hf⟩ := bnd hf
      refine r_gP O cf9 39 (by decide) rfl fl_X9_87 ex7 dX9_arrange_45 ?_
      refine r_iload_n O 3 dX9_arrange_48 rfl ?_
      refine r_sipush O (v := 258) dX9_arrange_49 (by decide) ?_
      refine r_imul O dX9_arrange_52 ?_
      refine r_iload O 4 dX9_arrange_53 rfl ?_
      refine r_iadd O dX9_arrange_55 ?_
      refine r_iconst O (v := 0) dX9_arrange_56 (by decide) ?_
      obtain ⟨h8, eh8, hf⟩ := bnd hf
      refine r_stZ O eh8 dX9_arrange_57 ?_
      refine r_iinc O 4 [(4, .int (l4 + 1)), (0, .ref l0), (1, .ref l1), (2, .int l2), (3, .int l3)] dX9_arrange_58 rfl rfl (by decide) rfl ?_
      refine r_goto (tgt := 36) O dX9_arrange_61 (by decide) ?_
      refine AW.sub [1, 2, 3, 4, 0] rfl ?_
      exact ih _ _ hf
set_option maxRecDepth 100000 in
set_option maxHeartbeats 4000000 in
theorem s_X9_arrange_73 {p : Program} {l : Launch} {e : Env} {s : State} {m : MethodId} {args : Array Value} {below : List Frame} {meth : Method} {c : Code} {G : GT} {Q : State → Prop} (O : OkC p l s m args meth c G cX9_arrange 7 RX9) {l0 : Nat} {l1 : Nat} {l2 : Int32} {l3 : Int32} {wh : AH} (kk : AW p l e { frames := 4, cells := 0, slots := 0, locals := 93 } s m args below meth c G 7 Q wh 0 0 126 [(0, .ref l0), (1, .ref l1), (2, .int l2), (3, .int l3)] []) : ∀ (n : Nat), ∀ (h : AH) (l4 : Int32), f_X9_arrange_73 l0 l1 l2 l3 n h l4 = some wh → AW p l e { frames := 4, cells := 0, slots := 0, locals := 93 } s m args below meth c G 7 Q h 0 0 73 [(0, .ref l0), (1, .ref l1), (2, .int l2), (3, .int l3), (4, .int l4)] [] := by
  intro n
  induction n with
  | zero =>
    intro h l4 hf
    simp [f_X9_arrange_73] at hf
  | succ n ih =>
    intro h l4 hf
    unfold f_X9_arrange_73 at hf
    refine r_iload O 4 dX9_arrange_73 rfl ?_
    refine r_aload_n O 0 dX9_arrange_75 rfl (Or.inl rfl) ?_
    obtain ⟨x12, ex12, hf⟩ := bnd hf
    refine r_gI O cf9 32 (by decide) rfl fl_X9_141 ex12 dX9_arrange_76 ?_
    by_cases hc : x12 ≤ l4
    · rw [if_pos hc] at hf
      refine r_icmp_ge_t (tgt := 126) O dX9_arrange_79 (by decide) hc ?_
      obtain rfl := oi1 hf
      refine AW.sub [0, 1, 2, 3] rfl ?_
      exact kk
    · rw [if_neg hc] at hf
      refine r_icmp_ge_f (tgt := 126) O dX9_arrange_79 (by decide) hc ?_
      refine r_aload_n O 0 dX9_arrange_82 rfl (Or.inl rfl) ?_
      refine r_aload_n O 1 dX9_arrange_83 rfl (Or.inl rfl) ?_
      refine r_aload_n O 0 dX9_arrange_84 rfl (Or.inl rfl) ?_
      obtain ⟨x13, ex13, hf⟩ := bnd hf
      refine r_gP O cf9 33 (by decide) rfl fl_X9_73 ex13 dX9_arrange_85 ?_
      refine r_iload O 4 dX9_arrange_88 rfl ?_
      obtain ⟨x14, ex14, hf⟩ := bnd hf
      refine r_ldI O ex14 dX9_arrange_90 ?_
      obtain ⟨x15, ex15, hf⟩ := bnd hf
      refine r_callV (av := [.ref l1, .int x14]) (st := []) O (c_X9_readsCell ex15) mf_X9_readsCell cf9 (kd_X9_readsCell ex15) ml_X9_169 mi_X9_readsCell mv_X9_readsCell (by decide) (Nat.le_of_ble_eq_true rfl) (by decide) dX9_arrange_91 ?_
      obtain ⟨h17, hg, hf⟩ := bnd hf
      have hJ : AW p l e { frames := 4, cells := 0, slots := 0, locals := 93 } s m args below meth c G 7 Q h17 0 0 120 [(0, .ref l0), (1, .ref l1), (2, .int l2), (3, .int l3), (4, .int l4)] [] := by
        refine r_iinc O 4 [(4, .int (l4 + 1)), (0, .ref l0), (1, .ref l1), (2, .int l2), (3, .int l3)] dX9_arrange_120 rfl rfl (by decide) rfl ?_
        refine r_goto (tgt := 73) O dX9_arrange_123 (by decide) ?_
        refine AW.sub [1, 2, 3, 4, 0] rfl ?_
        exact ih _ _ hf
      clear hf
      have hf := hg
      clear hg
      by_cases hc : x15 = 0
      · rw [if_pos hc] at hf
        refine r_if_eq_t (tgt := 120) O dX9_arrange_94 (by decide) hc ?_
        obtain rfl := oi1 hf
        refine AW.sub [0, 1, 2, 3, 4] rfl ?_
        exact hJ
      · rw [if_neg hc] at hf
        refine r_if_eq_f (tgt := 120) O dX9_arrange_94 (by decide) hc ?_
        refine r_aload_n O 0 dX9_arrange_97 rfl (Or.inl rfl) ?_
        obtain ⟨x18, ex18, hf⟩ := bnd hf
        refine r_gP O cf9 39 (by decide) rfl fl_X9_87 ex18 dX9_arrange_98 ?_
        refine r_iload_n O 3 dX9_arrange_101 rfl ?_
        refine r_sipush O (v := 258) dX9_arrange_102 (by decide) ?_
        refine r_imul O dX9_arrange_105 ?_
        refine r_aload_n O 0 dX9_arrange_106 rfl (Or.inl rfl) ?_
        obtain ⟨x19, ex19, hf⟩ := bnd hf
        refine r_gP O cf9 33 (by decide) rfl fl_X9_73 ex19 dX9_arrange_107 ?_
        refine r_iload O 4 dX9_arrange_110 rfl ?_
        obtain ⟨x20, ex20, hf⟩ := bnd hf
        refine r_ldI O ex20 dX9_arrange_112 ?_
        refine r_iadd O dX9_arrange_113 ?_
        refine r_sipush O (v := 5000) dX9_arrange_114 (by decide) ?_
        refine r_isub O dX9_arrange_117 ?_
        refine r_iconst O (v := 1) dX9_arrange_118 (by decide) ?_
        obtain ⟨h21, eh21, hf⟩ := bnd hf
        refine r_stZ O eh21 dX9_arrange_119 ?_
        obtain rfl := oi1 hf
        refine AW.sub [0, 1, 2, 3, 4] rfl ?_
        exact hJ
set_option maxRecDepth 100000 in
set_option maxHeartbeats 4000000 in
theorem s_X9_arrange_4 {p : Program} {l : Launch} {e : Env} {s : State} {m : MethodId} {args : Array Value} {below : List Frame} {meth : Method} {c : Code} {G : GT} {Q : State → Prop} (O : OkC p l s m args meth c G cX9_arrange 7 RX9) {l0 : Nat} {l1 : Nat} {w2 : Int32} {wh : AH} (kk : AW p l e { frames := 4, cells := 0, slots := 0, locals := 93 } s m args below meth c G 7 Q wh 0 0 132 [(0, .ref l0), (1, .ref l1), (2, .int w2)] []) : ∀ (n : Nat), ∀ (h : AH) (l2 : Int32) (l3 : Int32), f_X9_arrange_4 l0 l1 n h l2 l3 = some (w2, wh) → AW p l e { frames := 4, cells := 0, slots := 0, locals := 93 } s m args below meth c G 7 Q h 0 0 4 [(0, .ref l0), (1, .ref l1), (2, .int l2), (3, .int l3)] [] := by
  intro n
  induction n with
  | zero =>
    intro h l2 l3 hf
    simp [f_X9_arrange_4] at hf
  | succ n ih =>
    intro h l2 l3 hf
    unfold f_X9_arrange_4 at hf
    refine r_iload_n O 3 dX9_arrange_4 rfl ?_
    refine r_sipush O (v := 258) dX9_arrange_5 (by decide) ?_
    by_cases hc : 258 ≤ l3
    · rw [if_pos hc] at hf
      refine r_icmp_ge_t (tgt := 132) O dX9_arrange_8 (by decide) hc ?_
      obtain ⟨rfl, rfl⟩ := oi2 hf
      refine AW.sub [0, 1, 2] rfl ?_
      exact kk
    · rw [if_neg hc] at hf
      refine r_icmp_ge_f (tgt := 132) O dX9_arrange_8 (by decide) hc ?_
      refine r_aload_n O 0 dX9_arrange_11 rfl (Or.inl rfl) ?_
      obtain ⟨x1, ex1, hf⟩ := bnd hf
      refine r_gP O cf9 38 (by decide) rfl fl_X9_82 ex1 dX9_arrange_12 ?_
      refine r_iload_n O 3 dX9_arrange_15 rfl ?_
      refine r_iconst O (v := 0) dX9_arrange_16 (by decide) ?_
      obtain ⟨h2, eh2, hf⟩ := bnd hf
      refine r_stZ O eh2 dX9_arrange_17 ?_
      refine r_aload_n O 0 dX9_arrange_18 rfl (Or.inl rfl) ?_
      refine r_aload_n O 1 dX9_arrange_19 rfl (Or.inl rfl) ?_
      refine r_iload_n O 3 dX9_arrange_20 rfl ?_
      obtain ⟨x3, ex3, hf⟩ := bnd hf
      refine r_callV (av := [.ref l1, .int l3]) (st := []) O (c_X9_isCell ex3) mf_X9_isCell cf9 (kd_X9_isCell ex3) ml_X9_162 mi_X9_isCell mv_X9_isCell (by decide) (Nat.le_of_ble_eq_true rfl) (by decide) dX9_arrange_21 ?_
      obtain ⟨⟨x5, h6⟩, hg, hf⟩ := bnd hf
      dsimp only at hf
      have hJ : AW p l e { frames := 4, cells := 0, slots := 0, locals := 93 } s m args below meth c G 7 Q h6 0 0 126 [(0, .ref l0), (1, .ref l1), (2, .int x5), (3, .int l3)] [] := by
        refine r_iinc O 3 [(3, .int (l3 + 1)), (0, .ref l0), (1, .ref l1), (2, .int x5)] dX9_arrange_126 rfl rfl (by decide) rfl ?_
        refine r_goto (tgt := 4) O dX9_arrange_129 (by decide) ?_
        refine AW.sub [1, 2, 3, 0] rfl ?_
        exact ih _ _ _ hf
      clear hf
      have hf := hg
      clear hg
      by_cases hc : x3 = 0
      · rw [if_pos hc] at hf
        refine r_if_ne_f (tgt := 30) O dX9_arrange_24 (by decide) hc ?_
        refine r_goto (tgt := 126) O dX9_arrange_27 (by decide) ?_
        obtain ⟨rfl, rfl⟩ := oi2 hf
        refine AW.sub [0, 1, 2, 3] rfl ?_
        exact hJ
      · rw [if_neg hc] at hf
        refine r_if_ne_t (tgt := 30) O dX9_arrange_24 (by decide) hc ?_
        refine r_iinc O 2 [(2, .int (l2 + 1)), (0, .ref l0), (1, .ref l1), (3, .int l3)] dX9_arrange_30 rfl rfl (by decide) rfl ?_
        refine r_iconst O (v := 0) dX9_arrange_33 (by decide) ?_
        refine r_istore O [(4, .int 0), (2, .int (l2 + 1)), (0, .ref l0), (1, .ref l1), (3, .int l3)] dX9_arrange_34 (by decide) rfl ?_
        obtain ⟨h9, hw, hf⟩ := bnd hf
        refine AW.sub [2, 3, 1, 4, 0] rfl ?_
        refine s_X9_arrange_36 O ?_ _ _ _ hw
        refine r_aload_n O 0 dX9_arrange_64 rfl (Or.inl rfl) ?_
        refine r_aload_n O 1 dX9_arrange_65 rfl (Or.inl rfl) ?_
        refine r_iload_n O 3 dX9_arrange_66 rfl ?_
        obtain ⟨h11, eh11, hf⟩ := bnd hf
        refine r_callV (av := [.ref l1, .int l3]) (st := []) O (c_X9_lookAt eh11) mf_X9_lookAt cf9 (kd_X9_lookAt eh11) ml_X9_165 mi_X9_lookAt mv_X9_lookAt (by decide) (Nat.le_of_ble_eq_true rfl) (by decide) dX9_arrange_67 ?_
        refine r_iconst O (v := 0) dX9_arrange_70 (by decide) ?_
        refine r_istore O [(4, .int 0), (0, .ref l0), (1, .ref l1), (2, .int (l2 + 1)), (3, .int l3)] dX9_arrange_71 (by decide) rfl ?_
        obtain ⟨h22, hw, hf⟩ := bnd hf
        refine AW.sub [1, 2, 3, 4, 0] rfl ?_
        refine s_X9_arrange_73 O ?_ _ _ _ hw
        obtain ⟨rfl, rfl⟩ := oi2 hf
        refine AW.sub [0, 1, 2, 3] rfl ?_
        exact hJ
set_option maxRecDepth 100000 in
set_option maxHeartbeats 4000000 in
theorem s_X9_arrange_189 {p : Program} {l : Launch} {e : Env} {s : State} {m : MethodId} {args : Array Value} {below : List Frame} {meth : Method} {c : Code} {G : GT} {Q : State → Prop} (O : OkC p l s m args meth c G cX9_arrange 7 RX9) {l0 : Nat} {l1 : Nat} {l2 : Int32} {l3 : Int32} {l4 : Int32} {h : AH} {w5 : Int32} (kk : AW p l e { frames := 4, cells := 0, slots := 0, locals := 93 } s m args below meth c G 7 Q h 0 0 242 [(0, .ref l0), (1, .ref l1), (2, .int l2), (3, .int l3), (4, .int l4), (5, .int w5)] []) : ∀ (n : Nat), ∀ (l5 : Int32) (l6 : Int32), f_X9_arrange_189 l0 l1 l2 l3 l4 n h l5 l6 = some w5 → AW p l e { frames := 4, cells := 0, slots := 0, locals := 93 } s m args below meth c G 7 Q h 0 0 189 [(0, .ref l0), (1, .ref l1), (2, .int l2), (3, .int l3), (4, .int l4), (5, .int l5), (6, .int l6)] [] := by
  intro n
  induction n with
  | zero =>
    intro l5 l6 hf
    simp [f_X9_arrange_189] at hf
  | succ n ih =>
    intro l5 l6 hf
    unfold f_X9_arrange_189 at hf
    refine r_iload O 6 dX9_arrange_189 rfl ?_
    refine r_sipush O (v := 258) dX9_arrange_191 (by decide) ?_
    by_cases hc : 258 ≤ l6
    · rw [if_pos hc] at hf
      refine r_icmp_ge_t (tgt := 242) O dX9_arrange_194 (by decide) hc ?_
      obtain rfl := oi1 hf
      refine AW.sub [0, 1, 2, 3, 4, 5] rfl ?_
      exact kk
    · rw [if_neg hc] at hf
      refine r_icmp_ge_f (tgt := 242) O dX9_arrange_194 (by decide) hc ?_
      refine r_iload O 5 dX9_arrange_197 rfl ?_
      by_cases hc : l5 = 0
      · rw [if_pos hc] at hf
        refine r_if_eq_t (tgt := 242) O dX9_arrange_199 (by decide) hc ?_
        obtain rfl := oi1 hf
        refine AW.sub [0, 1, 2, 3, 4, 5] rfl ?_
        exact kk
      · rw [if_neg hc] at hf
        refine r_if_eq_f (tgt := 242) O dX9_arrange_199 (by decide) hc ?_
        refine r_aload_n O 0 dX9_arrange_202 rfl (Or.inl rfl) ?_
        obtain ⟨x32, ex32, hf⟩ := bnd hf
        refine r_gP O cf9 39 (by decide) rfl fl_X9_87 ex32 dX9_arrange_203 ?_
        refine r_iload O 4 dX9_arrange_206 rfl ?_
        refine r_sipush O (v := 258) dX9_arrange_208 (by decide) ?_
        refine r_imul O dX9_arrange_211 ?_
        refine r_iload O 6 dX9_arrange_212 rfl ?_
        refine r_iadd O dX9_arrange_214 ?_
        obtain ⟨x33, ex33, hf⟩ := bnd hf
        refine r_ldZ O ex33 dX9_arrange_215 ?_
        obtain ⟨x34, hg, hf⟩ := bnd hf
        have hJ : AW p l e { frames := 4, cells := 0, slots := 0, locals := 93 } s m args below meth c G 7 Q h 0 0 234 [(0, .ref l0), (1, .ref l1), (2, .int l2), (3, .int l3), (4, .int l4), (6, .int l6)] [.int x34] := by
          refine r_istore O [(5, .int x34), (0, .ref l0), (1, .ref l1), (2, .int l2), (3, .int l3), (4, .int l4), (6, .int l6)] dX9_arrange_234 (by decide) rfl ?_
          refine r_iinc O 6 [(6, .int (l6 + 1)), (5, .int x34), (0, .ref l0), (1, .ref l1), (2, .int l2), (3, .int l3), (4, .int l4)] dX9_arrange_236 rfl rfl (by decide) rfl ?_
          refine r_goto (tgt := 189) O dX9_arrange_239 (by decide) ?_
          refine AW.sub [2, 3, 4, 5, 6, 1, 0] rfl ?_
          exact ih _ _ hf
        clear hf
        have hf := hg
        clear hg
        by_cases hc : x33 = 0
        · rw [if_pos hc] at hf
          refine r_if_eq_t (tgt := 229) O dX9_arrange_216 (by decide) hc ?_
          refine r_iconst O (v := 1) dX9_arrange_229 (by decide) ?_
          refine r_goto (tgt := 234) O dX9_arrange_230 (by decide) ?_
          obtain rfl := oi1 hf
          refine AW.sub [0, 1, 2, 3, 4, 6] rfl ?_
          exact hJ
        · rw [if_neg hc] at hf
          refine r_if_eq_f (tgt := 229) O dX9_arrange_216 (by decide) hc ?_
          refine r_aload_n O 0 dX9_arrange_219 rfl (Or.inl rfl) ?_
          obtain ⟨x35, ex35, hf⟩ := bnd hf
          refine r_gP O cf9 38 (by decide) rfl fl_X9_82 ex35 dX9_arrange_220 ?_
          refine r_iload O 6 dX9_arrange_223 rfl ?_
          obtain ⟨x36, ex36, hf⟩ := bnd hf
          refine r_ldZ O ex36 dX9_arrange_225 ?_
          by_cases hc : x36 = 0
          · rw [if_pos hc] at hf
            refine r_if_eq_t (tgt := 233) O dX9_arrange_226 (by decide) hc ?_
            refine r_iconst O (v := 0) dX9_arrange_233 (by decide) ?_
            obtain rfl := oi1 hf
            refine AW.sub [0, 1, 2, 3, 4, 6] rfl ?_
            exact hJ
          · rw [if_neg hc] at hf
            refine r_if_eq_f (tgt := 233) O dX9_arrange_226 (by decide) hc ?_
            refine r_iconst O (v := 1) dX9_arrange_229 (by decide) ?_
            refine r_goto (tgt := 234) O dX9_arrange_230 (by decide) ?_
            obtain rfl := oi1 hf
            refine AW.sub [0, 1, 2, 3, 4, 6] rfl ?_
            exact hJ
set_option maxRecDepth 100000 in
set_option maxHeartbeats 4000000 in
theorem s_X9_arrange_148 {p : Program} {l : Launch} {e : Env} {s : State} {m : MethodId} {args : Array Value} {below : List Frame} {meth : Method} {c : Code} {G : GT} {Q : State → Prop} (O : OkC p l s m args meth c G cX9_arrange 7 RX9) {l0 : Nat} {l1 : Nat} {l2 : Int32} {w3 : Int32} {wh : AH} (kk : AW p l e { frames := 4, cells := 0, slots := 0, locals := 93 } s m args below meth c G 7 Q wh 0 0 284 [(0, .ref l0), (1, .ref l1), (2, .int l2), (3, .int w3)] []) : ∀ (n : Nat), ∀ (h : AH) (l3 : Int32) (l4 : Int32), f_X9_arrange_148 l0 l1 l2 n h l3 l4 = some (w3, wh) → AW p l e { frames := 4, cells := 0, slots := 0, locals := 93 } s m args below meth c G 7 Q h 0 0 148 [(0, .ref l0), (1, .ref l1), (2, .int l2), (3, .int l3), (4, .int l4)] [] := by
  intro n
  induction n with
  | zero =>
    intro h l3 l4 hf
    simp [f_X9_arrange_148] at hf
  | succ n ih =>
    intro h l3 l4 hf
    unfold f_X9_arrange_148 at hf
    refine r_iload O 4 dX9_arrange_148 rfl ?_
    refine r_sipush O (v := 258) dX9_arrange_150 (by decide) ?_
    by_cases hc : 258 ≤ l4
    · rw [if_pos hc] at hf
      refine r_icmp_ge_t (tgt := 284) O dX9_arrange_153 (by decide) hc ?_
      obtain ⟨rfl, rfl⟩ := oi2 hf
      refine AW.sub [0, 1, 2, 3] rfl ?_
      exact kk
    · rw [if_neg hc] at hf
      refine r_icmp_ge_f (tgt := 284) O dX9_arrange_153 (by decide) hc ?_
      refine r_iload_n O 3 dX9_arrange_156 rfl ?_
      by_cases hc : l3 = 0
      · rw [if_pos hc] at hf
        refine r_if_ne_f (tgt := 284) O dX9_arrange_157 (by decide) hc ?_
        refine r_aload_n O 0 dX9_arrange_160 rfl (Or.inl rfl) ?_
        refine r_aload_n O 1 dX9_arrange_161 rfl (Or.inl rfl) ?_
        refine r_iload O 4 dX9_arrange_162 rfl ?_
        obtain ⟨x26, ex26, hf⟩ := bnd hf
        refine r_callV (av := [.ref l1, .int l4]) (st := []) O (c_X9_isCell ex26) mf_X9_isCell cf9 (kd_X9_isCell ex26) ml_X9_162 mi_X9_isCell mv_X9_isCell (by decide) (Nat.le_of_ble_eq_true rfl) (by decide) dX9_arrange_164 ?_
        obtain ⟨⟨x28, h29⟩, hg, hf⟩ := bnd hf
        dsimp only at hf
        have hJ : AW p l e { frames := 4, cells := 0, slots := 0, locals := 93 } s m args below meth c G 7 Q h29 0 0 278 [(0, .ref l0), (1, .ref l1), (2, .int l2), (3, .int x28), (4, .int l4)] [] := by
          refine r_iinc O 4 [(4, .int (l4 + 1)), (0, .ref l0), (1, .ref l1), (2, .int l2), (3, .int x28)] dX9_arrange_278 rfl rfl (by decide) rfl ?_
          refine r_goto (tgt := 148) O dX9_arrange_281 (by decide) ?_
          refine AW.sub [1, 2, 3, 4, 0] rfl ?_
          exact ih _ _ _ hf
        clear hf
        have hf := hg
        clear hg
        by_cases hc : x26 = 0
        · rw [if_pos hc] at hf
          refine r_if_eq_t (tgt := 278) O dX9_arrange_167 (by decide) hc ?_
          obtain ⟨rfl, rfl⟩ := oi2 hf
          refine AW.sub [0, 1, 2, 3, 4] rfl ?_
          exact hJ
        · rw [if_neg hc] at hf
          refine r_if_eq_f (tgt := 278) O dX9_arrange_167 (by decide) hc ?_
          refine r_aload_n O 0 dX9_arrange_170 rfl (Or.inl rfl) ?_
          obtain ⟨x30, ex30, hf⟩ := bnd hf
          refine r_gP O cf9 38 (by decide) rfl fl_X9_82 ex30 dX9_arrange_171 ?_
          refine r_iload O 4 dX9_arrange_174 rfl ?_
          obtain ⟨x31, ex31, hf⟩ := bnd hf
          refine r_ldZ O ex31 dX9_arrange_176 ?_
          by_cases hc : x31 = 0
          · rw [if_pos hc] at hf
            refine r_if_eq_t (tgt := 183) O dX9_arrange_177 (by decide) hc ?_
            refine r_iconst O (v := 1) dX9_arrange_183 (by decide) ?_
            refine r_istore O [(5, .int 1), (0, .ref l0), (1, .ref l1), (2, .int l2), (3, .int l3), (4, .int l4)] dX9_arrange_184 (by decide) rfl ?_
            refine r_iconst O (v := 0) dX9_arrange_186 (by decide) ?_
            refine r_istore O [(6, .int 0), (5, .int 1), (0, .ref l0), (1, .ref l1), (2, .int l2), (3, .int l3), (4, .int l4)] dX9_arrange_187 (by decide) rfl ?_
            obtain ⟨x37, hw, hf⟩ := bnd hf
            refine AW.sub [2, 3, 4, 5, 6, 1, 0] rfl ?_
            refine s_X9_arrange_189 O ?_ _ _ _ hw
            refine r_iload O 5 dX9_arrange_242 rfl ?_
            by_cases hc : x37 = 0
            · rw [if_pos hc] at hf
              refine r_if_eq_t (tgt := 278) O dX9_arrange_244 (by decide) hc ?_
              obtain ⟨rfl, rfl⟩ := oi2 hf
              refine AW.sub [0, 1, 2, 3, 4] rfl ?_
              exact hJ
            · rw [if_neg hc] at hf
              refine r_if_eq_f (tgt := 278) O dX9_arrange_244 (by decide) hc ?_
              refine r_aload_n O 0 dX9_arrange_247 rfl (Or.inl rfl) ?_
              obtain ⟨x38, ex38, hf⟩ := bnd hf
              refine r_gP O cf9 38 (by decide) rfl fl_X9_82 ex38 dX9_arrange_248 ?_
              refine r_iload O 4 dX9_arrange_251 rfl ?_
              refine r_iconst O (v := 1) dX9_arrange_253 (by decide) ?_
              obtain ⟨h39, eh39, hf⟩ := bnd hf
              refine r_stZ O eh39 dX9_arrange_254 ?_
              refine r_aload_n O 0 dX9_arrange_255 rfl (Or.inl rfl) ?_
              obtain ⟨x40, ex40, hf⟩ := bnd hf
              refine r_gP O cf9 37 (by decide) rfl fl_X9_79 ex40 dX9_arrange_256 ?_
              refine r_aload_n O 0 dX9_arrange_259 rfl (Or.inl rfl) ?_
              obtain ⟨x41, ex41, hf⟩ := bnd hf
              refine r_gI O cf9 36 (by decide) rfl fl_X9_172 ex41 dX9_arrange_260 ?_
              refine r_iload O 4 dX9_arrange_263 rfl ?_
              obtain ⟨h42, eh42, hf⟩ := bnd hf
              refine r_stI O eh42 dX9_arrange_265 ?_
              refine r_aload_n O 0 dX9_arrange_266 rfl (Or.inl rfl) ?_
              refine r_dup O dX9_arrange_267 rfl ?_
              obtain ⟨x43, ex43, hf⟩ := bnd hf
              refine r_gI O cf9 36 (by decide) rfl fl_X9_172 ex43 dX9_arrange_268 ?_
              refine r_iconst O (v := 1) dX9_arrange_271 (by decide) ?_
              refine r_iadd O dX9_arrange_272 ?_
              obtain ⟨h44, eh44, hf⟩ := bnd hf
              refine r_pI O cf9 36 (by decide) rfl fl_X9_172 rfl eh44 dX9_arrange_273 ?_
              refine r_iconst O (v := 1) dX9_arrange_276 (by decide) ?_
              refine r_istore_n O [(3, .int 1), (0, .ref l0), (1, .ref l1), (2, .int l2), (4, .int l4), (5, .int x37)] dX9_arrange_277 (by decide) rfl ?_
              obtain ⟨rfl, rfl⟩ := oi2 hf
              refine AW.sub [1, 2, 3, 0, 4] rfl ?_
              exact hJ
          · rw [if_neg hc] at hf
            refine r_if_eq_f (tgt := 183) O dX9_arrange_177 (by decide) hc ?_
            refine r_goto (tgt := 278) O dX9_arrange_180 (by decide) ?_
            obtain ⟨rfl, rfl⟩ := oi2 hf
            refine AW.sub [0, 1, 2, 3, 4] rfl ?_
            exact hJ
      · rw [if_neg hc] at hf
        refine r_if_ne_t (tgt := 284) O dX9_arrange_157 (by decide) hc ?_
        obtain ⟨rfl, rfl⟩ := oi2 hf
        refine AW.sub [0, 1, 2, 3] rfl ?_
        exact kk
set_option maxRecDepth 100000 in
set_option maxHeartbeats 4000000 in
theorem s_X9_arrange_139 {p : Program} {l : Launch} {e : Env} {s : State} {m : MethodId} {args : Array Value} {below : List Frame} {meth : Method} {c : Code} {G : GT} {Q : State → Prop} (O : OkC p l s m args meth c G cX9_arrange 7 RX9) {l0 : Nat} {l1 : Nat} {l2 : Int32} {wh : AH} (kk : AW p l e { frames := 4, cells := 0, slots := 0, locals := 93 } s m args below meth c G 7 Q wh 0 0 287 [(0, .ref l0), (2, .int l2)] []) : ∀ (n : Nat), ∀ (h : AH) (l3 : Int32), f_X9_arrange_139 l0 l1 l2 n h l3 = some wh → AW p l e { frames := 4, cells := 0, slots := 0, locals := 93 } s m args below meth c G 7 Q h 0 0 139 [(0, .ref l0), (1, .ref l1), (2, .int l2), (3, .int l3)] [] := by
  intro n
  induction n with
  | zero =>
    intro h l3 hf
    simp [f_X9_arrange_139] at hf
  | succ n ih =>
    intro h l3 hf
    unfold f_X9_arrange_139 at hf
    refine r_iload_n O 3 dX9_arrange_139 rfl ?_
    by_cases hc : l3 = 0
    · rw [if_pos hc] at hf
      refine r_if_eq_t (tgt := 287) O dX9_arrange_140 (by decide) hc ?_
      obtain rfl := oi1 hf
      refine AW.sub [0, 2] rfl ?_
      exact kk
    · rw [if_neg hc] at hf
      refine r_if_eq_f (tgt := 287) O dX9_arrange_140 (by decide) hc ?_
      refine r_iconst O (v := 0) dX9_arrange_143 (by decide) ?_
      refine r_istore_n O [(3, .int 0), (0, .ref l0), (1, .ref l1), (2, .int l2)] dX9_arrange_144 (by decide) rfl ?_
      refine r_iconst O (v := 0) dX9_arrange_145 (by decide) ?_
      refine r_istore O [(4, .int 0), (3, .int 0), (0, .ref l0), (1, .ref l1), (2, .int l2)] dX9_arrange_146 (by decide) rfl ?_
      obtain ⟨⟨x45, h46⟩, hw, hf⟩ := bnd hf
      dsimp only at hf
      refine AW.sub [2, 3, 4, 1, 0] rfl ?_
      refine s_X9_arrange_148 O ?_ _ _ _ _ hw
      refine r_goto (tgt := 139) O dX9_arrange_284 (by decide) ?_
      refine AW.sub [0, 1, 2, 3] rfl ?_
      exact ih _ _ hf
theorem kd_X9_arrange {h : AH} {a0 : Nat} {a1 : Nat} {r : (Int32 × AH)} (hf : f_X9_arrange h a0 a1 = some r) : aK h a0 = 9 := by
  unfold f_X9_arrange at hf
  exact (ifk hf).1
set_option maxRecDepth 100000 in
set_option maxHeartbeats 4000000 in
theorem c_X9_arrange {l : Launch} {G : GT} {h : AH} {a0 : Nat} {a1 : Nat} {r : (Int32 × AH)} (hf : f_X9_arrange h a0 a1 = some r) : Cn l yX9_arrange cX9_arrange 7 (some .boolean) 4 93 0 0 G h [.ref a0, .ref a1] (.ok (some (.int r.1))) r.2 := by
  refine Cn.of (by decide) (Nat.le_of_ble_eq_true rfl) ?_
  intro p e s m args below meth c O hr hx hin
  have O : OkC p l s m args meth c G cX9_arrange 7 RX9 := O
  unfold f_X9_arrange at hf
  obtain ⟨hk0, hf⟩ := ifk hf
  refine AW.sub (lv' := [(0, .ref a0), (1, .ref a1)]) [0, 1] rfl ?_
  refine r_iconst O (v := 0) dX9_arrange_0 (by decide) ?_
  refine r_istore_n O [(2, .int 0), (0, .ref a0), (1, .ref a1)] dX9_arrange_1 (by decide) rfl ?_
  refine r_iconst O (v := 0) dX9_arrange_2 (by decide) ?_
  refine r_istore_n O [(3, .int 0), (2, .int 0), (0, .ref a0), (1, .ref a1)] dX9_arrange_3 (by decide) rfl ?_
  obtain ⟨⟨x23, h24⟩, hw, hf⟩ := bnd hf
  dsimp only at hf
  refine AW.sub [2, 3, 1, 0] rfl ?_
  refine s_X9_arrange_4 O ?_ _ _ _ _ hw
  refine r_aload_n O 0 dX9_arrange_132 rfl (Or.inl rfl) ?_
  refine r_iconst O (v := 0) dX9_arrange_133 (by decide) ?_
  obtain ⟨h25, eh25, hf⟩ := bnd hf
  refine r_pI O cf9 36 (by decide) rfl fl_X9_172 rfl eh25 dX9_arrange_134 ?_
  refine r_iconst O (v := 1) dX9_arrange_137 (by decide) ?_
  refine r_istore_n O [(3, .int 1), (0, .ref a0), (1, .ref a1), (2, .int x23)] dX9_arrange_138 (by decide) rfl ?_
  obtain ⟨h47, hw, hf⟩ := bnd hf
  refine AW.sub [1, 2, 3, 0] rfl ?_
  refine s_X9_arrange_139 O ?_ _ _ _ hw
  refine r_aload_n O 0 dX9_arrange_287 rfl (Or.inl rfl) ?_
  obtain ⟨x48, ex48, hf⟩ := bnd hf
  refine r_gI O cf9 36 (by decide) rfl fl_X9_172 ex48 dX9_arrange_288 ?_
  refine r_iload_n O 1 dX9_arrange_291 rfl ?_
  obtain ⟨x49, hg, hf⟩ := bnd hf
  have hJ : AW p l e { frames := 4, cells := 0, slots := 0, locals := 93 } s m args below meth c G 7 (vx_MQ below (QcN G (.ok (some (.int r.1))) r.2) (XcN G (.ok (some (.int r.1))) r.2) args s 0 0 (gA G)) h47 0 0 300 [] [.int x49] := by
    obtain ⟨x50, ex50, hf⟩ := bnd hf
    refine r_nmI (bz_eq ex50) ?_
    obtain rfl := Option.some.inj hf
    exact r_zret O hr (bz_or ex50) rfl rfl (by decide) (by decide) dX9_arrange_300
  clear hf
  have hf := hg
  clear hg
  by_cases hc : x48 = x23
  · rw [if_pos hc] at hf
    refine r_icmp_ne_f (tgt := 299) O dX9_arrange_292 (by decide) hc ?_
    refine r_iconst O (v := 1) dX9_arrange_295 (by decide) ?_
    refine r_goto (tgt := 300) O dX9_arrange_296 (by decide) ?_
    obtain rfl := oi1 hf
    refine AW.sub [] rfl ?_
    exact hJ
  · rw [if_neg hc] at hf
    refine r_icmp_ne_t (tgt := 299) O dX9_arrange_292 (by decide) hc ?_
    refine r_iconst O (v := 0) dX9_arrange_299 (by decide) ?_
    obtain rfl := oi1 hf
    refine AW.sub [] rfl ?_
    exact hJ
def f_X9_measure_2 (l0 : Nat) (l1 : Nat) (l2 : Int32) (n : Nat) (h : AH) (l3 : Int32) : Option AH := match n with
| 0 => none
| n + 1 =>
if 258 ≤ l3 then
some h
else
Option.bind (gP h 9 l0 40) fun x1 =>
Option.bind (if l3 = l2 then
some (0 : Int32)
else
some (258 : Int32)) fun x2 =>
Option.bind (stI h x1 l3 x2) fun h3 =>
f_X9_measure_2 l0 l1 l2 n h3 (l3 + 1)
def f_X9_measure_74 (l0 : Nat) (l1 : Nat) (l2 : Int32) (l4 : Int32) (n : Nat) (h : AH) (l3 : Int32) (l5 : Int32) : Option (Int32 × AH) := match n with
| 0 => none
| n + 1 =>
if 258 ≤ l5 then
some (l3, h)
else
Option.bind (gP h 9 l0 39) fun x9 =>
Option.bind (ldZ h x9 ((l4 * 258) + l5)) fun x10 =>
Option.bind (if x10 = 0 then
some (l3, h)
else
Option.bind (gP h 9 l0 40) fun x13 =>
Option.bind (ldI h x13 l5) fun x14 =>
Option.bind (gP h 9 l0 40) fun x15 =>
Option.bind (ldI h x15 l4) fun x16 =>
if x16 ≤ (x14 + 1) then
some (l3, h)
else
Option.bind (gP h 9 l0 40) fun x17 =>
Option.bind (gP h 9 l0 40) fun x18 =>
Option.bind (ldI h x18 l5) fun x19 =>
Option.bind (stI h x17 l4 (x19 + 1)) fun h20 =>
some ((1 : Int32), h20)) fun w => match w with
| (x11, h12) =>
f_X9_measure_74 l0 l1 l2 l4 n h12 x11 (l5 + 1)
def f_X9_measure_44 (l0 : Nat) (l1 : Nat) (l2 : Int32) (n : Nat) (h : AH) (l3 : Int32) (l4 : Int32) : Option (Int32 × AH) := match n with
| 0 => none
| n + 1 =>
if 258 ≤ l4 then
some (l3, h)
else
Option.bind (f_X9_isCell h l0 l1 l4) fun x5 =>
Option.bind (if x5 = 0 then
some (l3, h)
else
if l4 = l2 then
some (l3, h)
else
Option.bind (f_X9_measure_74 l0 l1 l2 l4 FU h l3 0) fun w => match w with
| (x21, h22) =>
some (x21, h22)) fun w => match w with
| (x7, h8) =>
f_X9_measure_44 l0 l1 l2 n h8 x7 (l4 + 1)
def f_X9_measure_35 (l0 : Nat) (l1 : Nat) (l2 : Int32) (n : Nat) (h : AH) (l3 : Int32) : Option AH := match n with
| 0 => none
| n + 1 =>
if l3 = 0 then
some h
else
Option.bind (f_X9_measure_44 l0 l1 l2 FU h 0 0) fun w => match w with
| (x23, h24) =>
f_X9_measure_35 l0 l1 l2 n h24 x23
def f_X9_measure (h : AH) (a0 : Nat) (a1 : Nat) (a2 : Int32) : Option AH :=
if aK h a0 = 9 then
Option.bind (f_X9_measure_2 a0 a1 a2 FU h 0) fun h4 =>
Option.bind (f_X9_measure_35 a0 a1 a2 FU h4 1) fun h25 =>
some h25
else none
set_option maxRecDepth 100000 in
set_option maxHeartbeats 4000000 in
theorem s_X9_measure_2 {p : Program} {l : Launch} {e : Env} {s : State} {m : MethodId} {args : Array Value} {below : List Frame} {meth : Method} {c : Code} {G : GT} {Q : State → Prop} (O : OkC p l s m args meth c G cX9_measure 6 RX9) {l0 : Nat} {l1 : Nat} {l2 : Int32} {wh : AH} (kk : AW p l e { frames := 2, cells := 0, slots := 0, locals := 42 } s m args below meth c G 6 Q wh 0 0 33 [(0, .ref l0), (1, .ref l1), (2, .int l2)] []) : ∀ (n : Nat), ∀ (h : AH) (l3 : Int32), f_X9_measure_2 l0 l1 l2 n h l3 = some wh → AW p l e { frames := 2, cells := 0, slots := 0, locals := 42 } s m args below meth c G 6 Q h 0 0 2 [(0, .ref l0), (1, .ref l1), (2, .int l2), (3, .int l3)] [] := by
  intro n
  induction n with
  | zero =>
    intro h l3 hf
    simp [f_X9_measure_2] at hf
  | succ n ih =>
    intro h l3 hf
    unfold f_X9_measure_2 at hf
    refine r_iload_n O 3 dX9_measure_2 rfl ?_
    refine r_sipush O (v := 258) dX9_measure_3 (by decide) ?_
    by_cases hc : 258 ≤ l3
    · rw [if_pos hc] at hf
      refine r_icmp_ge_t (tgt := 33) O dX9_measure_6 (by decide) hc ?_
      obtain rfl := oi1 hf
      refine AW.sub [0, 1, 2] rfl ?_
      exact kk
    · rw [if_neg hc] at hf
      refine r_icmp_ge_f (tgt := 33) O dX9_measure_6 (by decide) hc ?_
      refine r_aload_n O 0 dX9_measure_9 rfl (Or.inl rfl) ?_
      obtain ⟨x1, ex1, hf⟩ := bnd hf
      refine r_gP O cf9 40 (by decide) rfl fl_X9_90 ex1 dX9_measure_10 ?_
      refine r_iload_n O 3 dX9_measure_13 rfl ?_
      refine r_iload_n O 3 dX9_measure_14 rfl ?_
      refine r_iload_n O 2 dX9_measure_15 rfl ?_
      obtain ⟨x2, hg, hf⟩ := bnd hf
      have hJ : AW p l e { frames := 2, cells := 0, slots := 0, locals := 42 } s m args below meth c G 6 Q h 0 0 26 [(0, .ref l0), (1, .ref l1), (2, .int l2), (3, .int l3)] [.int x2, .int l3, .ref x1] := by
        obtain ⟨h3, eh3, hf⟩ := bnd hf
        refine r_stI O eh3 dX9_measure_26 ?_
        refine r_iinc O 3 [(3, .int (l3 + 1)), (0, .ref l0), (1, .ref l1), (2, .int l2)] dX9_measure_27 rfl rfl (by decide) rfl ?_
        refine r_goto (tgt := 2) O dX9_measure_30 (by decide) ?_
        refine AW.sub [1, 2, 3, 0] rfl ?_
        exact ih _ _ hf
      clear hf
      have hf := hg
      clear hg
      by_cases hc : l3 = l2
      · rw [if_pos hc] at hf
        refine r_icmp_ne_f (tgt := 23) O dX9_measure_16 (by decide) hc ?_
        refine r_iconst O (v := 0) dX9_measure_19 (by decide) ?_
        refine r_goto (tgt := 26) O dX9_measure_20 (by decide) ?_
        obtain rfl := oi1 hf
        refine AW.sub [0, 1, 2, 3] rfl ?_
        exact hJ
      · rw [if_neg hc] at hf
        refine r_icmp_ne_t (tgt := 23) O dX9_measure_16 (by decide) hc ?_
        refine r_sipush O (v := 258) dX9_measure_23 (by decide) ?_
        obtain rfl := oi1 hf
        refine AW.sub [0, 1, 2, 3] rfl ?_
        exact hJ
set_option maxRecDepth 100000 in
set_option maxHeartbeats 4000000 in
theorem s_X9_measure_74 {p : Program} {l : Launch} {e : Env} {s : State} {m : MethodId} {args : Array Value} {below : List Frame} {meth : Method} {c : Code} {G : GT} {Q : State → Prop} (O : OkC p l s m args meth c G cX9_measure 6 RX9) {l0 : Nat} {l1 : Nat} {l2 : Int32} {l4 : Int32} {w3 : Int32} {wh : AH} (kk : AW p l e { frames := 2, cells := 0, slots := 0, locals := 42 } s m args below meth c G 6 Q wh 0 0 142 [(0, .ref l0), (1, .ref l1), (2, .int l2), (3, .int w3), (4, .int l4)] []) : ∀ (n : Nat), ∀ (h : AH) (l3 : Int32) (l5 : Int32), f_X9_measure_74 l0 l1 l2 l4 n h l3 l5 = some (w3, wh) → AW p l e { frames := 2, cells := 0, slots := 0, locals := 42 } s m args below meth c G 6 Q h 0 0 74 [(0, .ref l0), (1, .ref l1), (2, .int l2), (3, .int l3), (4, .int l4), (5, .int l5)] [] := by
  intro n
  induction n with
  | zero =>
    intro h l3 l5 hf
    simp [f_X9_measure_74] at hf
  | succ n ih =>
    intro h l3 l5 hf
    unfold f_X9_measure_74 at hf
    refine r_iload O 5 dX9_measure_74 rfl ?_
    refine r_sipush O (v := 258) dX9_measure_76 (by decide) ?_
    by_cases hc : 258 ≤ l5
    · rw [if_pos hc] at hf
      refine r_icmp_ge_t (tgt := 142) O dX9_measure_79 (by decide) hc ?_
      obtain ⟨rfl, rfl⟩ := oi2 hf
      refine AW.sub [0, 1, 2, 3, 4] rfl ?_
      exact kk
    · rw [if_neg hc] at hf
      refine r_icmp_ge_f (tgt := 142) O dX9_measure_79 (by decide) hc ?_
      refine r_aload_n O 0 dX9_measure_82 rfl (Or.inl rfl) ?_
      obtain ⟨x9, ex9, hf⟩ := bnd hf
      refine r_gP O cf9 39 (by decide) rfl fl_X9_87 ex9 dX9_measure_83 ?_
      refine r_iload O 4 dX9_measure_86 rfl ?_
      refine r_sipush O (v := 258) dX9_measure_88 (by decide) ?_
      refine r_imul O dX9_measure_91 ?_
      refine r_iload O 5 dX9_measure_92 rfl ?_
      refine r_iadd O dX9_measure_94 ?_
      obtain ⟨x10, ex10, hf⟩ := bnd hf
      refine r_ldZ O ex10 dX9_measure_95 ?_
      obtain ⟨⟨x11, h12⟩, hg, hf⟩ := bnd hf
      dsimp only at hf
      have hJ : AW p l e { frames := 2, cells := 0, slots := 0, locals := 42 } s m args below meth c G 6 Q h12 0 0 136 [(0, .ref l0), (1, .ref l1), (2, .int l2), (3, .int x11), (4, .int l4), (5, .int l5)] [] := by
        refine r_iinc O 5 [(5, .int (l5 + 1)), (0, .ref l0), (1, .ref l1), (2, .int l2), (3, .int x11), (4, .int l4)] dX9_measure_136 rfl rfl (by decide) rfl ?_
        refine r_goto (tgt := 74) O dX9_measure_139 (by decide) ?_
        refine AW.sub [1, 2, 3, 4, 5, 0] rfl ?_
        exact ih _ _ _ hf
      clear hf
      have hf := hg
      clear hg
      by_cases hc : x10 = 0
      · rw [if_pos hc] at hf
        refine r_if_eq_t (tgt := 136) O dX9_measure_96 (by decide) hc ?_
        obtain ⟨rfl, rfl⟩ := oi2 hf
        refine AW.sub [0, 1, 2, 3, 4, 5] rfl ?_
        exact hJ
      · rw [if_neg hc] at hf
        refine r_if_eq_f (tgt := 136) O dX9_measure_96 (by decide) hc ?_
        refine r_aload_n O 0 dX9_measure_99 rfl (Or.inl rfl) ?_
        obtain ⟨x13, ex13, hf⟩ := bnd hf
        refine r_gP O cf9 40 (by decide) rfl fl_X9_90 ex13 dX9_measure_100 ?_
        refine r_iload O 5 dX9_measure_103 rfl ?_
        obtain ⟨x14, ex14, hf⟩ := bnd hf
        refine r_ldI O ex14 dX9_measure_105 ?_
        refine r_iconst O (v := 1) dX9_measure_106 (by decide) ?_
        refine r_iadd O dX9_measure_107 ?_
        refine r_aload_n O 0 dX9_measure_108 rfl (Or.inl rfl) ?_
        obtain ⟨x15, ex15, hf⟩ := bnd hf
        refine r_gP O cf9 40 (by decide) rfl fl_X9_90 ex15 dX9_measure_109 ?_
        refine r_iload O 4 dX9_measure_112 rfl ?_
        obtain ⟨x16, ex16, hf⟩ := bnd hf
        refine r_ldI O ex16 dX9_measure_114 ?_
        by_cases hc : x16 ≤ (x14 + 1)
        · rw [if_pos hc] at hf
          refine r_icmp_ge_t (tgt := 136) O dX9_measure_115 (by decide) hc ?_
          obtain ⟨rfl, rfl⟩ := oi2 hf
          refine AW.sub [0, 1, 2, 3, 4, 5] rfl ?_
          exact hJ
        · rw [if_neg hc] at hf
          refine r_icmp_ge_f (tgt := 136) O dX9_measure_115 (by decide) hc ?_
          refine r_aload_n O 0 dX9_measure_118 rfl (Or.inl rfl) ?_
          obtain ⟨x17, ex17, hf⟩ := bnd hf
          refine r_gP O cf9 40 (by decide) rfl fl_X9_90 ex17 dX9_measure_119 ?_
          refine r_iload O 4 dX9_measure_122 rfl ?_
          refine r_aload_n O 0 dX9_measure_124 rfl (Or.inl rfl) ?_
          obtain ⟨x18, ex18, hf⟩ := bnd hf
          refine r_gP O cf9 40 (by decide) rfl fl_X9_90 ex18 dX9_measure_125 ?_
          refine r_iload O 5 dX9_measure_128 rfl ?_
          obtain ⟨x19, ex19, hf⟩ := bnd hf
          refine r_ldI O ex19 dX9_measure_130 ?_
          refine r_iconst O (v := 1) dX9_measure_131 (by decide) ?_
          refine r_iadd O dX9_measure_132 ?_
          obtain ⟨h20, eh20, hf⟩ := bnd hf
          refine r_stI O eh20 dX9_measure_133 ?_
          refine r_iconst O (v := 1) dX9_measure_134 (by decide) ?_
          refine r_istore_n O [(3, .int 1), (0, .ref l0), (1, .ref l1), (2, .int l2), (4, .int l4), (5, .int l5)] dX9_measure_135 (by decide) rfl ?_
          obtain ⟨rfl, rfl⟩ := oi2 hf
          refine AW.sub [1, 2, 3, 0, 4, 5] rfl ?_
          exact hJ
set_option maxRecDepth 100000 in
set_option maxHeartbeats 4000000 in
theorem s_X9_measure_44 {p : Program} {l : Launch} {e : Env} {s : State} {m : MethodId} {args : Array Value} {below : List Frame} {meth : Method} {c : Code} {G : GT} {Q : State → Prop} (O : OkC p l s m args meth c G cX9_measure 6 RX9) {l0 : Nat} {l1 : Nat} {l2 : Int32} {w3 : Int32} {wh : AH} (kk : AW p l e { frames := 2, cells := 0, slots := 0, locals := 42 } s m args below meth c G 6 Q wh 0 0 148 [(0, .ref l0), (1, .ref l1), (2, .int l2), (3, .int w3)] []) : ∀ (n : Nat), ∀ (h : AH) (l3 : Int32) (l4 : Int32), f_X9_measure_44 l0 l1 l2 n h l3 l4 = some (w3, wh) → AW p l e { frames := 2, cells := 0, slots := 0, locals := 42 } s m args below meth c G 6 Q h 0 0 44 [(0, .ref l0), (1, .ref l1), (2, .int l2), (3, .int l3), (4, .int l4)] [] := by
  intro n
  induction n with
  | zero =>
    intro h l3 l4 hf
    simp [f_X9_measure_44] at hf
  | succ n ih =>
    intro h l3 l4 hf
    unfold f_X9_measure_44 at hf
    refine r_iload O 4 dX9_measure_44 rfl ?_
    refine r_sipush O (v := 258) dX9_measure_46 (by decide) ?_
    by_cases hc : 258 ≤ l4
    · rw [if_pos hc] at hf
      refine r_icmp_ge_t (tgt := 148) O dX9_measure_49 (by decide) hc ?_
      obtain ⟨rfl, rfl⟩ := oi2 hf
      refine AW.sub [0, 1, 2, 3] rfl ?_
      exact kk
    · rw [if_neg hc] at hf
      refine r_icmp_ge_f (tgt := 148) O dX9_measure_49 (by decide) hc ?_
      refine r_aload_n O 0 dX9_measure_52 rfl (Or.inl rfl) ?_
      refine r_aload_n O 1 dX9_measure_53 rfl (Or.inl rfl) ?_
      refine r_iload O 4 dX9_measure_54 rfl ?_
      obtain ⟨x5, ex5, hf⟩ := bnd hf
      refine r_callV (av := [.ref l1, .int l4]) (st := []) O (c_X9_isCell ex5) mf_X9_isCell cf9 (kd_X9_isCell ex5) ml_X9_162 mi_X9_isCell mv_X9_isCell (by decide) (Nat.le_of_ble_eq_true rfl) (by decide) dX9_measure_56 ?_
      obtain ⟨⟨x7, h8⟩, hg, hf⟩ := bnd hf
      dsimp only at hf
      have hJ : AW p l e { frames := 2, cells := 0, slots := 0, locals := 42 } s m args below meth c G 6 Q h8 0 0 142 [(0, .ref l0), (1, .ref l1), (2, .int l2), (3, .int x7), (4, .int l4)] [] := by
        refine r_iinc O 4 [(4, .int (l4 + 1)), (0, .ref l0), (1, .ref l1), (2, .int l2), (3, .int x7)] dX9_measure_142 rfl rfl (by decide) rfl ?_
        refine r_goto (tgt := 44) O dX9_measure_145 (by decide) ?_
        refine AW.sub [1, 2, 3, 4, 0] rfl ?_
        exact ih _ _ _ hf
      clear hf
      have hf := hg
      clear hg
      by_cases hc : x5 = 0
      · rw [if_pos hc] at hf
        refine r_if_eq_t (tgt := 142) O dX9_measure_59 (by decide) hc ?_
        obtain ⟨rfl, rfl⟩ := oi2 hf
        refine AW.sub [0, 1, 2, 3, 4] rfl ?_
        exact hJ
      · rw [if_neg hc] at hf
        refine r_if_eq_f (tgt := 142) O dX9_measure_59 (by decide) hc ?_
        refine r_iload O 4 dX9_measure_62 rfl ?_
        refine r_iload_n O 2 dX9_measure_64 rfl ?_
        by_cases hc : l4 = l2
        · rw [if_pos hc] at hf
          refine r_icmp_ne_f (tgt := 71) O dX9_measure_65 (by decide) hc ?_
          refine r_goto (tgt := 142) O dX9_measure_68 (by decide) ?_
          obtain ⟨rfl, rfl⟩ := oi2 hf
          refine AW.sub [0, 1, 2, 3, 4] rfl ?_
          exact hJ
        · rw [if_neg hc] at hf
          refine r_icmp_ne_t (tgt := 71) O dX9_measure_65 (by decide) hc ?_
          refine r_iconst O (v := 0) dX9_measure_71 (by decide) ?_
          refine r_istore O [(5, .int 0), (0, .ref l0), (1, .ref l1), (2, .int l2), (3, .int l3), (4, .int l4)] dX9_measure_72 (by decide) rfl ?_
          obtain ⟨⟨x21, h22⟩, hw, hf⟩ := bnd hf
          dsimp only at hf
          refine AW.sub [1, 2, 3, 4, 5, 0] rfl ?_
          refine s_X9_measure_74 O ?_ _ _ _ _ hw
          obtain ⟨rfl, rfl⟩ := oi2 hf
          refine AW.sub [0, 1, 2, 3, 4] rfl ?_
          exact hJ
set_option maxRecDepth 100000 in
set_option maxHeartbeats 4000000 in
theorem s_X9_measure_35 {p : Program} {l : Launch} {e : Env} {s : State} {m : MethodId} {args : Array Value} {below : List Frame} {meth : Method} {c : Code} {G : GT} {Q : State → Prop} (O : OkC p l s m args meth c G cX9_measure 6 RX9) {l0 : Nat} {l1 : Nat} {l2 : Int32} {wh : AH} (kk : AW p l e { frames := 2, cells := 0, slots := 0, locals := 42 } s m args below meth c G 6 Q wh 0 0 151 [] []) : ∀ (n : Nat), ∀ (h : AH) (l3 : Int32), f_X9_measure_35 l0 l1 l2 n h l3 = some wh → AW p l e { frames := 2, cells := 0, slots := 0, locals := 42 } s m args below meth c G 6 Q h 0 0 35 [(0, .ref l0), (1, .ref l1), (2, .int l2), (3, .int l3)] [] := by
  intro n
  induction n with
  | zero =>
    intro h l3 hf
    simp [f_X9_measure_35] at hf
  | succ n ih =>
    intro h l3 hf
    unfold f_X9_measure_35 at hf
    refine r_iload_n O 3 dX9_measure_35 rfl ?_
    by_cases hc : l3 = 0
    · rw [if_pos hc] at hf
      refine r_if_eq_t (tgt := 151) O dX9_measure_36 (by decide) hc ?_
      obtain rfl := oi1 hf
      refine AW.sub [] rfl ?_
      exact kk
    · rw [if_neg hc] at hf
      refine r_if_eq_f (tgt := 151) O dX9_measure_36 (by decide) hc ?_
      refine r_iconst O (v := 0) dX9_measure_39 (by decide) ?_
      refine r_istore_n O [(3, .int 0), (0, .ref l0), (1, .ref l1), (2, .int l2)] dX9_measure_40 (by decide) rfl ?_
      refine r_iconst O (v := 0) dX9_measure_41 (by decide) ?_
      refine r_istore O [(4, .int 0), (3, .int 0), (0, .ref l0), (1, .ref l1), (2, .int l2)] dX9_measure_42 (by decide) rfl ?_
      obtain ⟨⟨x23, h24⟩, hw, hf⟩ := bnd hf
      dsimp only at hf
      refine AW.sub [2, 3, 4, 1, 0] rfl ?_
      refine s_X9_measure_44 O ?_ _ _ _ _ hw
      refine r_goto (tgt := 35) O dX9_measure_148 (by decide) ?_
      refine AW.sub [0, 1, 2, 3] rfl ?_
      exact ih _ _ hf
theorem kd_X9_measure {h : AH} {a0 : Nat} {a1 : Nat} {a2 : Int32} {r : AH} (hf : f_X9_measure h a0 a1 a2 = some r) : aK h a0 = 9 := by
  unfold f_X9_measure at hf
  exact (ifk hf).1
set_option maxRecDepth 100000 in
set_option maxHeartbeats 4000000 in
theorem c_X9_measure {l : Launch} {G : GT} {h : AH} {a0 : Nat} {a1 : Nat} {a2 : Int32} {r : AH} (hf : f_X9_measure h a0 a1 a2 = some r) : Cn l yX9_measure cX9_measure 6 none 2 42 0 0 G h [.ref a0, .ref a1, .int a2] (.ok none) r := by
  refine Cn.of (by decide) (Nat.le_of_ble_eq_true rfl) ?_
  intro p e s m args below meth c O hr hx hin
  have O : OkC p l s m args meth c G cX9_measure 6 RX9 := O
  unfold f_X9_measure at hf
  obtain ⟨hk0, hf⟩ := ifk hf
  refine AW.sub (lv' := [(0, .ref a0), (1, .ref a1), (2, .int a2)]) [0, 1, 2] rfl ?_
  refine r_iconst O (v := 0) dX9_measure_0 (by decide) ?_
  refine r_istore_n O [(3, .int 0), (0, .ref a0), (1, .ref a1), (2, .int a2)] dX9_measure_1 (by decide) rfl ?_
  obtain ⟨h4, hw, hf⟩ := bnd hf
  refine AW.sub [1, 2, 3, 0] rfl ?_
  refine s_X9_measure_2 O ?_ _ _ _ hw
  refine r_iconst O (v := 1) dX9_measure_33 (by decide) ?_
  refine r_istore_n O [(3, .int 1), (0, .ref a0), (1, .ref a1), (2, .int a2)] dX9_measure_34 (by decide) rfl ?_
  obtain ⟨h25, hw, hf⟩ := bnd hf
  refine AW.sub [1, 2, 3, 0] rfl ?_
  refine s_X9_measure_35 O ?_ _ _ _ hw
  obtain rfl := Option.some.inj hf
  exact r_vret O hr rfl rfl (by decide) (by decide) dX9_measure_151
def f_X9_isInRing_11 (l0 : Nat) (l2 : Int32) (n : Nat) (h : AH) (l3 : Int32) (l4 : Int32) : Option Int32 := match n with
| 0 => none
| n + 1 =>
if 258 ≤ l4 then
some l3
else
Option.bind (gP h 9 l0 39) fun x3 =>
Option.bind (ldZ h x3 ((l2 * 258) + l4)) fun x4 =>
Option.bind (if x4 = 0 then
some (0 : Int32)
else
Option.bind (gP h 9 l0 40) fun x6 =>
Option.bind (ldI h x6 l4) fun x7 =>
if 258 ≤ x7 then
some (0 : Int32)
else
some (1 : Int32)) fun x5 =>
f_X9_isInRing_11 l0 l2 n h (l3 ||| x5) (l4 + 1)
def f_X9_isInRing (h : AH) (a0 : Nat) (a1 : Nat) (a2 : Int32) : Option (Int32 × AH) :=
if aK h a0 = 9 then
Option.bind (f_X9_measure h a0 a1 a2) fun h2 =>
Option.bind (f_X9_isInRing_11 a0 a2 FU h2 0 0) fun x8 =>
Option.bind (bz x8) fun x9 =>
some (x9, h2)
else none
set_option maxRecDepth 100000 in
set_option maxHeartbeats 4000000 in
theorem s_X9_isInRing_11 {p : Program} {l : Launch} {e : Env} {s : State} {m : MethodId} {args : Array Value} {below : List Frame} {meth : Method} {c : Code} {G : GT} {Q : State → Prop} (O : OkC p l s m args meth c G cX9_isInRing 5 RX9) {l0 : Nat} {l2 : Int32} {h : AH} {w3 : Int32} (kk : AW p l e { frames := 3, cells := 0, slots := 0, locals := 67 } s m args below meth c G 5 Q h 0 0 62 [(3, .int w3)] []) : ∀ (n : Nat), ∀ (l3 : Int32) (l4 : Int32), f_X9_isInRing_11 l0 l2 n h l3 l4 = some w3 → AW p l e { frames := 3, cells := 0, slots := 0, locals := 67 } s m args below meth c G 5 Q h 0 0 11 [(0, .ref l0), (2, .int l2), (3, .int l3), (4, .int l4)] [] := by
  intro n
  induction n with
  | zero =>
    intro l3 l4 hf
    simp [f_X9_isInRing_11] at hf
  | succ n ih =>
    intro l3 l4 hf
    unfold f_X9_isInRing_11 at hf
    refine r_iload O 3 dX9_isInRing_11 rfl ?_
    refine r_sipush O (v := 258) dX9_isInRing_13 (by decide) ?_
    by_cases hc : 258 ≤ l4
    · rw [if_pos hc] at hf
      refine r_icmp_ge_t (tgt := 62) O dX9_isInRing_16 (by decide) hc ?_
      obtain rfl := oi1 hf
      refine AW.sub [2] rfl ?_
      exact kk
    · rw [if_neg hc] at hf
      refine r_icmp_ge_f (tgt := 62) O dX9_isInRing_16 (by decide) hc ?_
      refine r_iload_n O 2 dX9_isInRing_19 rfl ?_
      refine r_aload_n O 0 dX9_isInRing_20 rfl (Or.inl rfl) ?_
      obtain ⟨x3, ex3, hf⟩ := bnd hf
      refine r_gP O cf9 39 (by decide) rfl fl_X9_87 ex3 dX9_isInRing_21 ?_
      refine r_iload_n O 1 dX9_isInRing_24 rfl ?_
      refine r_sipush O (v := 258) dX9_isInRing_25 (by decide) ?_
      refine r_imul O dX9_isInRing_28 ?_
      refine r_iload O 3 dX9_isInRing_29 rfl ?_
      refine r_iadd O dX9_isInRing_31 ?_
      obtain ⟨x4, ex4, hf⟩ := bnd hf
      refine r_ldZ O ex4 dX9_isInRing_32 ?_
      obtain ⟨x5, hg, hf⟩ := bnd hf
      have hJ : AW p l e { frames := 3, cells := 0, slots := 0, locals := 67 } s m args below meth c G 5 Q h 0 0 54 [(0, .ref l0), (2, .int l2), (4, .int l4)] [.int x5, .int l3] := by
        refine r_ior O dX9_isInRing_54 ?_
        refine r_istore_n O [(3, .int (l3 ||| x5)), (0, .ref l0), (2, .int l2), (4, .int l4)] dX9_isInRing_55 (by decide) rfl ?_
        refine r_iinc O 3 [(4, .int (l4 + 1)), (3, .int (l3 ||| x5)), (0, .ref l0), (2, .int l2)] dX9_isInRing_56 rfl rfl (by decide) rfl ?_
        refine r_goto (tgt := 11) O dX9_isInRing_59 (by decide) ?_
        refine AW.sub [2, 3, 1, 0] rfl ?_
        exact ih _ _ hf
      clear hf
      have hf := hg
      clear hg
      by_cases hc : x4 = 0
      · rw [if_pos hc] at hf
        refine r_if_eq_t (tgt := 53) O dX9_isInRing_33 (by decide) hc ?_
        refine r_iconst O (v := 0) dX9_isInRing_53 (by decide) ?_
        obtain rfl := oi1 hf
        refine AW.sub [0, 1, 3] rfl ?_
        exact hJ
      · rw [if_neg hc] at hf
        refine r_if_eq_f (tgt := 53) O dX9_isInRing_33 (by decide) hc ?_
        refine r_aload_n O 0 dX9_isInRing_36 rfl (Or.inl rfl) ?_
        obtain ⟨x6, ex6, hf⟩ := bnd hf
        refine r_gP O cf9 40 (by decide) rfl fl_X9_90 ex6 dX9_isInRing_37 ?_
        refine r_iload O 3 dX9_isInRing_40 rfl ?_
        obtain ⟨x7, ex7, hf⟩ := bnd hf
        refine r_ldI O ex7 dX9_isInRing_42 ?_
        refine r_sipush O (v := 258) dX9_isInRing_43 (by decide) ?_
        by_cases hc : 258 ≤ x7
        · rw [if_pos hc] at hf
          refine r_icmp_ge_t (tgt := 53) O dX9_isInRing_46 (by decide) hc ?_
          refine r_iconst O (v := 0) dX9_isInRing_53 (by decide) ?_
          obtain rfl := oi1 hf
          refine AW.sub [0, 1, 3] rfl ?_
          exact hJ
        · rw [if_neg hc] at hf
          refine r_icmp_ge_f (tgt := 53) O dX9_isInRing_46 (by decide) hc ?_
          refine r_iconst O (v := 1) dX9_isInRing_49 (by decide) ?_
          refine r_goto (tgt := 54) O dX9_isInRing_50 (by decide) ?_
          obtain rfl := oi1 hf
          refine AW.sub [0, 1, 3] rfl ?_
          exact hJ
theorem kd_X9_isInRing {h : AH} {a0 : Nat} {a1 : Nat} {a2 : Int32} {r : (Int32 × AH)} (hf : f_X9_isInRing h a0 a1 a2 = some r) : aK h a0 = 9 := by
  unfold f_X9_isInRing at hf
  exact (ifk hf).1
set_option maxRecDepth 100000 in
set_option maxHeartbeats 4000000 in
theorem c_X9_isInRing {l : Launch} {G : GT} {h : AH} {a0 : Nat} {a1 : Nat} {a2 : Int32} {r : (Int32 × AH)} (hf : f_X9_isInRing h a0 a1 a2 = some r) : Cn l yX9_isInRing cX9_isInRing 5 (some .boolean) 3 67 0 0 G h [.ref a0, .ref a1, .int a2] (.ok (some (.int r.1))) r.2 := by
  refine Cn.of (by decide) (Nat.le_of_ble_eq_true rfl) ?_
  intro p e s m args below meth c O hr hx hin
  have O : OkC p l s m args meth c G cX9_isInRing 5 RX9 := O
  unfold f_X9_isInRing at hf
  obtain ⟨hk0, hf⟩ := ifk hf
  refine AW.sub (lv' := [(0, .ref a0), (1, .ref a1), (2, .int a2)]) [0, 1, 2] rfl ?_
  refine r_aload_n O 0 dX9_isInRing_0 rfl (Or.inl rfl) ?_
  refine r_aload_n O 1 dX9_isInRing_1 rfl (Or.inl rfl) ?_
  refine r_iload_n O 2 dX9_isInRing_2 rfl ?_
  obtain ⟨h2, eh2, hf⟩ := bnd hf
  refine r_callV (av := [.ref a1, .int a2]) (st := []) O (c_X9_measure eh2) mf_X9_measure cf9 (kd_X9_measure eh2) ml_X9_175 mi_X9_measure mv_X9_measure (by decide) (Nat.le_of_ble_eq_true rfl) (by decide) dX9_isInRing_3 ?_
  refine r_iconst O (v := 0) dX9_isInRing_6 (by decide) ?_
  refine r_istore_n O [(3, .int 0), (0, .ref a0), (1, .ref a1), (2, .int a2)] dX9_isInRing_7 (by decide) rfl ?_
  refine r_iconst O (v := 0) dX9_isInRing_8 (by decide) ?_
  refine r_istore O [(4, .int 0), (3, .int 0), (0, .ref a0), (1, .ref a1), (2, .int a2)] dX9_isInRing_9 (by decide) rfl ?_
  obtain ⟨x8, hw, hf⟩ := bnd hf
  refine AW.sub [2, 4, 1, 0] rfl ?_
  refine s_X9_isInRing_11 O ?_ _ _ _ hw
  refine r_iload_n O 0 dX9_isInRing_62 rfl ?_
  obtain ⟨x9, ex9, hf⟩ := bnd hf
  refine r_nmI (bz_eq ex9) ?_
  obtain rfl := Option.some.inj hf
  exact r_zret O hr (bz_or ex9) rfl rfl (by decide) (by decide) dX9_isInRing_63
def f_X9_findRing_2 (l0 : Nat) (l1 : Nat) (n : Nat) (h : AH) (l2 : Int32) : Option (Int32 × AH) := match n with
| 0 => none
| n + 1 =>
Option.bind (f_X9_isCell h l0 l1 l2) fun x1 =>
if x1 = 0 then
f_X9_findRing_2 l0 l1 n h (l2 + 1)
else
Option.bind (f_X9_isInRing h l0 l1 l2) fun w => match w with
| (x3, h4) =>
if x3 = 0 then
f_X9_findRing_2 l0 l1 n h4 (l2 + 1)
else
some (l2, h4)
def f_X9_findRing_65 (l0 : Nat) (l1 : Nat) (l2 : Int32) (n : Nat) (h : AH) (l4 : Int32) (l5 : Int32) : Option Int32 := match n with
| 0 => none
| n + 1 =>
Option.bind (gI h 9 l0 32) fun x15 =>
if x15 ≤ l5 then
some l4
else
Option.bind (gP h 9 l0 33) fun x16 =>
Option.bind (ldI h x16 l5) fun x17 =>
Option.bind (f_X9_readsCell h l0 l1 x17) fun x18 =>
Option.bind (if x18 = 0 then
some ((-1) : Int32)
else
Option.bind (gP h 9 l0 33) fun x21 =>
Option.bind (ldI h x21 l5) fun x22 =>
some (x22 - 5000)) fun x20 =>
Option.bind (if x20 = (-1) then
some l4
else
if l4 = (-1) then
some x20
else
Option.bind (gP h 9 l0 40) fun x24 =>
Option.bind (ldI h x24 x20) fun x25 =>
Option.bind (gP h 9 l0 40) fun x26 =>
Option.bind (ldI h x26 l4) fun x27 =>
if x27 ≤ x25 then
some l4
else
some x20) fun x23 =>
f_X9_findRing_65 l0 l1 l2 n h x23 (l5 + 1)
def f_X9_findRing_33 (l0 : Nat) (l1 : Nat) (l2 : Int32) (n : Nat) (h : AH) (l3 : Int32) : Option AH := match n with
| 0 => none
| n + 1 =>
Option.bind (gP h 9 l0 25) fun x8 =>
Option.bind (gI h 9 l0 24) fun x9 =>
Option.bind (stI h x8 x9 l3) fun h10 =>
Option.bind (gI h10 9 l0 24) fun x11 =>
Option.bind (pI h10 9 l0 24 (x11 + 1)) fun h12 =>
Option.bind (f_X9_lookAt h12 l0 l1 l3) fun h14 =>
Option.bind (f_X9_findRing_65 l0 l1 l2 FU h14 (-1) 0) fun x28 =>
if x28 = l2 then
some h14
else
f_X9_findRing_33 l0 l1 l2 n h14 x28
def f_X9_findRing (h : AH) (a0 : Nat) (a1 : Nat) : Option AH :=
if aK h a0 = 9 then
Option.bind (f_X9_findRing_2 a0 a1 FU h 0) fun w => match w with
| (x5, h6) =>
Option.bind (pI h6 9 a0 24 0) fun h7 =>
Option.bind (f_X9_findRing_33 a0 a1 x5 FU h7 x5) fun h29 =>
some h29
else none
set_option maxRecDepth 100000 in
set_option maxHeartbeats 4000000 in
theorem s_X9_findRing_2 {p : Program} {l : Launch} {e : Env} {s : State} {m : MethodId} {args : Array Value} {below : List Frame} {meth : Method} {c : Code} {G : GT} {Q : State → Prop} (O : OkC p l s m args meth c G cX9_findRing 7 RX9) {l0 : Nat} {l1 : Nat} {w2 : Int32} {wh : AH} (kk : AW p l e { frames := 4, cells := 0, slots := 0, locals := 93 } s m args below meth c G 7 Q wh 0 0 26 [(0, .ref l0), (1, .ref l1), (2, .int w2)] []) : ∀ (n : Nat), ∀ (h : AH) (l2 : Int32), f_X9_findRing_2 l0 l1 n h l2 = some (w2, wh) → AW p l e { frames := 4, cells := 0, slots := 0, locals := 93 } s m args below meth c G 7 Q h 0 0 2 [(0, .ref l0), (1, .ref l1), (2, .int l2)] [] := by
  intro n
  induction n with
  | zero =>
    intro h l2 hf
    simp [f_X9_findRing_2] at hf
  | succ n ih =>
    intro h l2 hf
    unfold f_X9_findRing_2 at hf
    refine r_aload_n O 0 dX9_findRing_2 rfl (Or.inl rfl) ?_
    refine r_aload_n O 1 dX9_findRing_3 rfl (Or.inl rfl) ?_
    refine r_iload_n O 2 dX9_findRing_4 rfl ?_
    obtain ⟨x1, ex1, hf⟩ := bnd hf
    refine r_callV (av := [.ref l1, .int l2]) (st := []) O (c_X9_isCell ex1) mf_X9_isCell cf9 (kd_X9_isCell ex1) ml_X9_162 mi_X9_isCell mv_X9_isCell (by decide) (Nat.le_of_ble_eq_true rfl) (by decide) dX9_findRing_5 ?_
    by_cases hc : x1 = 0
    · rw [if_pos hc] at hf
      refine r_if_eq_t (tgt := 20) O dX9_findRing_8 (by decide) hc ?_
      refine r_iinc O 2 [(2, .int (l2 + 1)), (0, .ref l0), (1, .ref l1)] dX9_findRing_20 rfl rfl (by decide) rfl ?_
      refine r_goto (tgt := 2) O dX9_findRing_23 (by decide) ?_
      refine AW.sub [1, 2, 0] rfl ?_
      exact ih _ _ hf
    · rw [if_neg hc] at hf
      refine r_if_eq_f (tgt := 20) O dX9_findRing_8 (by decide) hc ?_
      refine r_aload_n O 0 dX9_findRing_11 rfl (Or.inl rfl) ?_
      refine r_aload_n O 1 dX9_findRing_12 rfl (Or.inl rfl) ?_
      refine r_iload_n O 2 dX9_findRing_13 rfl ?_
      obtain ⟨⟨x3, h4⟩, ex3, hf⟩ := bnd hf
      dsimp only at hf
      refine r_callV (av := [.ref l1, .int l2]) (st := []) O (c_X9_isInRing ex3) mf_X9_isInRing cf9 (kd_X9_isInRing ex3) ml_X9_178 mi_X9_isInRing mv_X9_isInRing (by decide) (Nat.le_of_ble_eq_true rfl) (by decide) dX9_findRing_14 ?_
      by_cases hc : x3 = 0
      · rw [if_pos hc] at hf
        refine r_if_ne_f (tgt := 26) O dX9_findRing_17 (by decide) hc ?_
        refine r_iinc O 2 [(2, .int (l2 + 1)), (0, .ref l0), (1, .ref l1)] dX9_findRing_20 rfl rfl (by decide) rfl ?_
        refine r_goto (tgt := 2) O dX9_findRing_23 (by decide) ?_
        refine AW.sub [1, 2, 0] rfl ?_
        exact ih _ _ hf
      · rw [if_neg hc] at hf
        refine r_if_ne_t (tgt := 26) O dX9_findRing_17 (by decide) hc ?_
        obtain ⟨rfl, rfl⟩ := oi2 hf
        refine AW.sub [0, 1, 2] rfl ?_
        exact kk
set_option maxRecDepth 100000 in
set_option maxHeartbeats 4000000 in
theorem s_X9_findRing_65 {p : Program} {l : Launch} {e : Env} {s : State} {m : MethodId} {args : Array Value} {below : List Frame} {meth : Method} {c : Code} {G : GT} {Q : State → Prop} (O : OkC p l s m args meth c G cX9_findRing 7 RX9) {l0 : Nat} {l1 : Nat} {l2 : Int32} {h : AH} {w4 : Int32} (kk : AW p l e { frames := 4, cells := 0, slots := 0, locals := 93 } s m args below meth c G 7 Q h 0 0 145 [(0, .ref l0), (1, .ref l1), (2, .int l2), (4, .int w4)] []) : ∀ (n : Nat), ∀ (l4 : Int32) (l5 : Int32), f_X9_findRing_65 l0 l1 l2 n h l4 l5 = some w4 → AW p l e { frames := 4, cells := 0, slots := 0, locals := 93 } s m args below meth c G 7 Q h 0 0 65 [(0, .ref l0), (1, .ref l1), (2, .int l2), (4, .int l4), (5, .int l5)] [] := by
  intro n
  induction n with
  | zero =>
    intro l4 l5 hf
    simp [f_X9_findRing_65] at hf
  | succ n ih =>
    intro l4 l5 hf
    unfold f_X9_findRing_65 at hf
    refine r_iload O 4 dX9_findRing_65 rfl ?_
    refine r_aload_n O 0 dX9_findRing_67 rfl (Or.inl rfl) ?_
    obtain ⟨x15, ex15, hf⟩ := bnd hf
    refine r_gI O cf9 32 (by decide) rfl fl_X9_141 ex15 dX9_findRing_68 ?_
    by_cases hc : x15 ≤ l5
    · rw [if_pos hc] at hf
      refine r_icmp_ge_t (tgt := 145) O dX9_findRing_71 (by decide) hc ?_
      obtain rfl := oi1 hf
      refine AW.sub [0, 1, 2, 3] rfl ?_
      exact kk
    · rw [if_neg hc] at hf
      refine r_icmp_ge_f (tgt := 145) O dX9_findRing_71 (by decide) hc ?_
      refine r_aload_n O 0 dX9_findRing_74 rfl (Or.inl rfl) ?_
      refine r_aload_n O 1 dX9_findRing_75 rfl (Or.inl rfl) ?_
      refine r_aload_n O 0 dX9_findRing_76 rfl (Or.inl rfl) ?_
      obtain ⟨x16, ex16, hf⟩ := bnd hf
      refine r_gP O cf9 33 (by decide) rfl fl_X9_73 ex16 dX9_findRing_77 ?_
      refine r_iload O 4 dX9_findRing_80 rfl ?_
      obtain ⟨x17, ex17, hf⟩ := bnd hf
      refine r_ldI O ex17 dX9_findRing_82 ?_
      obtain ⟨x18, ex18, hf⟩ := bnd hf
      refine r_callV (av := [.ref l1, .int x17]) (st := []) O (c_X9_readsCell ex18) mf_X9_readsCell cf9 (kd_X9_readsCell ex18) ml_X9_169 mi_X9_readsCell mv_X9_readsCell (by decide) (Nat.le_of_ble_eq_true rfl) (by decide) dX9_findRing_83 ?_
      obtain ⟨x20, hg, hf⟩ := bnd hf
      have hJ : AW p l e { frames := 4, cells := 0, slots := 0, locals := 93 } s m args below meth c G 7 Q h 0 0 104 [(0, .ref l0), (1, .ref l1), (2, .int l2), (4, .int l4), (5, .int l5)] [.int x20] := by
        refine r_istore O [(6, .int x20), (0, .ref l0), (1, .ref l1), (2, .int l2), (4, .int l4), (5, .int l5)] dX9_findRing_104 (by decide) rfl ?_
        refine r_iload O 0 dX9_findRing_106 rfl ?_
        refine r_iconst O (v := -1) dX9_findRing_108 (by decide) ?_
        obtain ⟨x23, hg, hf⟩ := bnd hf
        have hJ : AW p l e { frames := 4, cells := 0, slots := 0, locals := 93 } s m args below meth c G 7 Q h 0 0 139 [(0, .ref l0), (1, .ref l1), (2, .int l2), (4, .int x23), (5, .int l5)] [] := by
          refine r_iinc O 4 [(5, .int (l5 + 1)), (0, .ref l0), (1, .ref l1), (2, .int l2), (4, .int x23)] dX9_findRing_139 rfl rfl (by decide) rfl ?_
          refine r_goto (tgt := 65) O dX9_findRing_142 (by decide) ?_
          refine AW.sub [1, 2, 3, 4, 0] rfl ?_
          exact ih _ _ hf
        clear hf
        have hf := hg
        clear hg
        by_cases hc : x20 = (-1)
        · rw [if_pos hc] at hf
          refine r_icmp_eq_t (tgt := 139) O dX9_findRing_109 (by decide) hc ?_
          obtain rfl := oi1 hf
          refine AW.sub [1, 2, 3, 4, 5] rfl ?_
          exact hJ
        · rw [if_neg hc] at hf
          refine r_icmp_eq_f (tgt := 139) O dX9_findRing_109 (by decide) hc ?_
          refine r_iload O 4 dX9_findRing_112 rfl ?_
          refine r_iconst O (v := -1) dX9_findRing_114 (by decide) ?_
          by_cases hc : l4 = (-1)
          · rw [if_pos hc] at hf
            refine r_icmp_eq_t (tgt := 135) O dX9_findRing_115 (by decide) hc ?_
            refine r_iload O 0 dX9_findRing_135 rfl ?_
            refine r_istore O [(4, .int x20), (6, .int x20), (0, .ref l0), (1, .ref l1), (2, .int l2), (5, .int l5)] dX9_findRing_137 (by decide) rfl ?_
            obtain rfl := oi1 hf
            refine AW.sub [2, 3, 4, 0, 5] rfl ?_
            exact hJ
          · rw [if_neg hc] at hf
            refine r_icmp_eq_f (tgt := 135) O dX9_findRing_115 (by decide) hc ?_
            refine r_aload_n O 1 dX9_findRing_118 rfl (Or.inl rfl) ?_
            obtain ⟨x24, ex24, hf⟩ := bnd hf
            refine r_gP O cf9 40 (by decide) rfl fl_X9_90 ex24 dX9_findRing_119 ?_
            refine r_iload O 0 dX9_findRing_122 rfl ?_
            obtain ⟨x25, ex25, hf⟩ := bnd hf
            refine r_ldI O ex25 dX9_findRing_124 ?_
            refine r_aload_n O 1 dX9_findRing_125 rfl (Or.inl rfl) ?_
            obtain ⟨x26, ex26, hf⟩ := bnd hf
            refine r_gP O cf9 40 (by decide) rfl fl_X9_90 ex26 dX9_findRing_126 ?_
            refine r_iload O 4 dX9_findRing_129 rfl ?_
            obtain ⟨x27, ex27, hf⟩ := bnd hf
            refine r_ldI O ex27 dX9_findRing_131 ?_
            by_cases hc : x27 ≤ x25
            · rw [if_pos hc] at hf
              refine r_icmp_ge_t (tgt := 139) O dX9_findRing_132 (by decide) hc ?_
              obtain rfl := oi1 hf
              refine AW.sub [1, 2, 3, 4, 5] rfl ?_
              exact hJ
            · rw [if_neg hc] at hf
              refine r_icmp_ge_f (tgt := 139) O dX9_findRing_132 (by decide) hc ?_
              refine r_iload O 0 dX9_findRing_135 rfl ?_
              refine r_istore O [(4, .int x20), (6, .int x20), (0, .ref l0), (1, .ref l1), (2, .int l2), (5, .int l5)] dX9_findRing_137 (by decide) rfl ?_
              obtain rfl := oi1 hf
              refine AW.sub [2, 3, 4, 0, 5] rfl ?_
              exact hJ
      clear hf
      have hf := hg
      clear hg
      by_cases hc : x18 = 0
      · rw [if_pos hc] at hf
        refine r_if_eq_t (tgt := 103) O dX9_findRing_86 (by decide) hc ?_
        refine r_iconst O (v := -1) dX9_findRing_103 (by decide) ?_
        obtain rfl := oi1 hf
        refine AW.sub [0, 1, 2, 3, 4] rfl ?_
        exact hJ
      · rw [if_neg hc] at hf
        refine r_if_eq_f (tgt := 103) O dX9_findRing_86 (by decide) hc ?_
        refine r_aload_n O 0 dX9_findRing_89 rfl (Or.inl rfl) ?_
        obtain ⟨x21, ex21, hf⟩ := bnd hf
        refine r_gP O cf9 33 (by decide) rfl fl_X9_73 ex21 dX9_findRing_90 ?_
        refine r_iload O 4 dX9_findRing_93 rfl ?_
        obtain ⟨x22, ex22, hf⟩ := bnd hf
        refine r_ldI O ex22 dX9_findRing_95 ?_
        refine r_sipush O (v := 5000) dX9_findRing_96 (by decide) ?_
        refine r_isub O dX9_findRing_99 ?_
        refine r_goto (tgt := 104) O dX9_findRing_100 (by decide) ?_
        obtain rfl := oi1 hf
        refine AW.sub [0, 1, 2, 3, 4] rfl ?_
        exact hJ
set_option maxRecDepth 100000 in
set_option maxHeartbeats 4000000 in
theorem s_X9_findRing_33 {p : Program} {l : Launch} {e : Env} {s : State} {m : MethodId} {args : Array Value} {below : List Frame} {meth : Method} {c : Code} {G : GT} {Q : State → Prop} (O : OkC p l s m args meth c G cX9_findRing 7 RX9) {l0 : Nat} {l1 : Nat} {l2 : Int32} {wh : AH} (kk : AW p l e { frames := 4, cells := 0, slots := 0, locals := 93 } s m args below meth c G 7 Q wh 0 0 153 [] []) : ∀ (n : Nat), ∀ (h : AH) (l3 : Int32), f_X9_findRing_33 l0 l1 l2 n h l3 = some wh → AW p l e { frames := 4, cells := 0, slots := 0, locals := 93 } s m args below meth c G 7 Q h 0 0 33 [(0, .ref l0), (1, .ref l1), (2, .int l2), (3, .int l3)] [] := by
  intro n
  induction n with
  | zero =>
    intro h l3 hf
    simp [f_X9_findRing_33] at hf
  | succ n ih =>
    intro h l3 hf
    unfold f_X9_findRing_33 at hf
    refine r_aload_n O 0 dX9_findRing_33 rfl (Or.inl rfl) ?_
    obtain ⟨x8, ex8, hf⟩ := bnd hf
    refine r_gP O cf9 25 (by decide) rfl fl_X9_61 ex8 dX9_findRing_34 ?_
    refine r_aload_n O 0 dX9_findRing_37 rfl (Or.inl rfl) ?_
    obtain ⟨x9, ex9, hf⟩ := bnd hf
    refine r_gI O cf9 24 (by decide) rfl fl_X9_181 ex9 dX9_findRing_38 ?_
    refine r_iload_n O 3 dX9_findRing_41 rfl ?_
    obtain ⟨h10, eh10, hf⟩ := bnd hf
    refine r_stI O eh10 dX9_findRing_42 ?_
    refine r_aload_n O 0 dX9_findRing_43 rfl (Or.inl rfl) ?_
    refine r_dup O dX9_findRing_44 rfl ?_
    obtain ⟨x11, ex11, hf⟩ := bnd hf
    refine r_gI O cf9 24 (by decide) rfl fl_X9_181 ex11 dX9_findRing_45 ?_
    refine r_iconst O (v := 1) dX9_findRing_48 (by decide) ?_
    refine r_iadd O dX9_findRing_49 ?_
    obtain ⟨h12, eh12, hf⟩ := bnd hf
    refine r_pI O cf9 24 (by decide) rfl fl_X9_181 rfl eh12 dX9_findRing_50 ?_
    refine r_aload_n O 0 dX9_findRing_53 rfl (Or.inl rfl) ?_
    refine r_aload_n O 1 dX9_findRing_54 rfl (Or.inl rfl) ?_
    refine r_iload_n O 3 dX9_findRing_55 rfl ?_
    obtain ⟨h14, eh14, hf⟩ := bnd hf
    refine r_callV (av := [.ref l1, .int l3]) (st := []) O (c_X9_lookAt eh14) mf_X9_lookAt cf9 (kd_X9_lookAt eh14) ml_X9_165 mi_X9_lookAt mv_X9_lookAt (by decide) (Nat.le_of_ble_eq_true rfl) (by decide) dX9_findRing_56 ?_
    refine r_iconst O (v := -1) dX9_findRing_59 (by decide) ?_
    refine r_istore O [(4, .int (-1)), (0, .ref l0), (1, .ref l1), (2, .int l2), (3, .int l3)] dX9_findRing_60 (by decide) rfl ?_
    refine r_iconst O (v := 0) dX9_findRing_62 (by decide) ?_
    refine r_istore O [(5, .int 0), (4, .int (-1)), (0, .ref l0), (1, .ref l1), (2, .int l2), (3, .int l3)] dX9_findRing_63 (by decide) rfl ?_
    obtain ⟨x28, hw, hf⟩ := bnd hf
    refine AW.sub [2, 3, 4, 1, 0] rfl ?_
    refine s_X9_findRing_65 O ?_ _ _ _ hw
    refine r_iload O 3 dX9_findRing_145 rfl ?_
    refine r_istore_n O [(3, .int x28), (0, .ref l0), (1, .ref l1), (2, .int l2), (4, .int x28)] dX9_findRing_147 (by decide) rfl ?_
    refine r_iload_n O 0 dX9_findRing_148 rfl ?_
    refine r_iload_n O 3 dX9_findRing_149 rfl ?_
    by_cases hc : x28 = l2
    · rw [if_pos hc] at hf
      refine r_icmp_ne_f (tgt := 33) O dX9_findRing_150 (by decide) hc ?_
      obtain rfl := oi1 hf
      refine AW.sub [] rfl ?_
      exact kk
    · rw [if_neg hc] at hf
      refine r_icmp_ne_t (tgt := 33) O dX9_findRing_150 (by decide) hc ?_
      refine AW.sub [1, 2, 3, 0] rfl ?_
      exact ih _ _ hf
theorem kd_X9_findRing {h : AH} {a0 : Nat} {a1 : Nat} {r : AH} (hf : f_X9_findRing h a0 a1 = some r) : aK h a0 = 9 := by
  unfold f_X9_findRing at hf
  exact (ifk hf).1
set_option maxRecDepth 100000 in
set_option maxHeartbeats 4000000 in
theorem c_X9_findRing {l : Launch} {G : GT} {h : AH} {a0 : Nat} {a1 : Nat} {r : AH} (hf : f_X9_findRing h a0 a1 = some r) : Cn l yX9_findRing cX9_findRing 7 none 4 93 0 0 G h [.ref a0, .ref a1] (.ok none) r := by
  refine Cn.of (by decide) (Nat.le_of_ble_eq_true rfl) ?_
  intro p e s m args below meth c O hr hx hin
  have O : OkC p l s m args meth c G cX9_findRing 7 RX9 := O
  unfold f_X9_findRing at hf
  obtain ⟨hk0, hf⟩ := ifk hf
  refine AW.sub (lv' := [(0, .ref a0), (1, .ref a1)]) [0, 1] rfl ?_
  refine r_iconst O (v := 0) dX9_findRing_0 (by decide) ?_
  refine r_istore_n O [(2, .int 0), (0, .ref a0), (1, .ref a1)] dX9_findRing_1 (by decide) rfl ?_
  obtain ⟨⟨x5, h6⟩, hw, hf⟩ := bnd hf
  dsimp only at hf
  refine AW.sub [1, 2, 0] rfl ?_
  refine s_X9_findRing_2 O ?_ _ _ _ hw
  refine r_iload_n O 2 dX9_findRing_26 rfl ?_
  refine r_istore_n O [(3, .int x5), (0, .ref a0), (1, .ref a1), (2, .int x5)] dX9_findRing_27 (by decide) rfl ?_
  refine r_aload_n O 1 dX9_findRing_28 rfl (Or.inl rfl) ?_
  refine r_iconst O (v := 0) dX9_findRing_29 (by decide) ?_
  obtain ⟨h7, eh7, hf⟩ := bnd hf
  refine r_pI O cf9 24 (by decide) rfl fl_X9_181 rfl eh7 dX9_findRing_30 ?_
  obtain ⟨h29, hw, hf⟩ := bnd hf
  refine AW.sub [1, 2, 3, 0] rfl ?_
  refine s_X9_findRing_33 O ?_ _ _ _ hw
  obtain rfl := Option.some.inj hf
  exact r_vret O hr rfl rfl (by decide) (by decide) dX9_findRing_153
