def f_X5_findRing_27 (l0 : Nat) (l1 : Int32) (n : Nat) (h : AH) (l2 : Int32) (l3 : Int32) : Option (AH ⊕ AH) := match n with
| 0 => none
| n + 1 =>
if 258 ≤ l3 then
some (.inr h)
else
Option.bind (gP h 5 l0 10) fun x8 =>
Option.bind (f_X6_add h x8 l2) fun h10 =>
Option.bind (f_X5_nearestRead h10 l0 l2) fun x11 =>
if x11 = l1 then
some (.inl h10)
else
if x11 = (-1) then
some (.inl h10)
else
f_X5_findRing_27 l0 l1 n h10 x11 (l3 + 1)
def f_X5_findRing (h : AH) (a0 : Nat) : Option AH :=
if aK h a0 = 5 then
Option.bind (gP h 5 a0 10) fun x1 =>
Option.bind (f_X6_clear h x1) fun h3 =>
Option.bind (f_X5_firstInRing h3 a0) fun w => match w with
| (x4, h5) =>
if x4 = (-1) then
some h5
else
Option.bind (f_X5_measure h5 a0 x4) fun h7 =>
Option.bind (f_X5_findRing_27 a0 x4 FU h7 x4 0) fun w => match w with
| .inl r9 => some r9
| .inr h13 =>
some h13
else none
set_option maxRecDepth 100000 in
set_option maxHeartbeats 4000000 in
theorem s_X5_findRing_27 {p : Program} {l : Launch} {e : Env} {s : State} {m : MethodId} {args : Array Value} {below : List Frame} {meth : Method} {c : Code} {G : GT} {o : Except Nat (Option Value)} {h9 : AH} (O : OkC p l s m args meth c G cX5_findRing 4 RX5) (hr : meth.sig.returnType = none) {l0 : Nat} {l1 : Int32} {w : (AH ⊕ AH)} (he : ∀ r, w = .inl r → o = (.ok none) ∧ h9 = r) (kk : ∀ (wh : AH), w = .inr wh → AW p l e { frames := 4, cells := 0, slots := 0, locals := 95 } s m args below meth c G 4 (vx_MQ below (QcN G o h9) (XcN G o h9) args s 0 0 (gA G)) wh 0 0 65 [] []) : ∀ (n : Nat), ∀ (h : AH) (l2 : Int32) (l3 : Int32), f_X5_findRing_27 l0 l1 n h l2 l3 = some w → AW p l e { frames := 4, cells := 0, slots := 0, locals := 95 } s m args below meth c G 4 (vx_MQ below (QcN G o h9) (XcN G o h9) args s 0 0 (gA G)) h 0 0 27 [(0, .ref l0), (1, .int l1), (2, .int l2), (3, .int l3)] [] := by
  intro n
  induction n with
  | zero =>
    intro h l2 l3 hf
    simp [f_X5_findRing_27] at hf
  | succ n ih =>
    intro h l2 l3 hf
    unfold f_X5_findRing_27 at hf
    refine r_iload_n O 3 dX5_findRing_27 rfl ?_
    refine r_sipush O (v := 258) dX5_findRing_28 (by decide) ?_
    by_cases hc : 258 ≤ l3
    · rw [if_pos hc] at hf
      refine r_icmp_ge_t (tgt := 65) O dX5_findRing_31 (by decide) hc ?_
      obtain rfl := Option.some.inj hf
      refine AW.sub [] rfl ?_
      exact kk _ rfl
    · rw [if_neg hc] at hf
      refine r_icmp_ge_f (tgt := 65) O dX5_findRing_31 (by decide) hc ?_
      refine r_aload_n O 0 dX5_findRing_34 rfl (Or.inl rfl) ?_
      obtain ⟨x8, ex8, hf⟩ := bnd hf
      refine r_gP O cf5 10 (by decide) rfl fl_X5_44 ex8 dX5_findRing_35 ?_
      refine r_iload_n O 2 dX5_findRing_38 rfl ?_
      obtain ⟨h10, eh10, hf⟩ := bnd hf
      refine r_callV (av := [.int l2]) (st := []) O (c_X6_add eh10) mf_X6_add cf6 (kd_X6_add eh10) ml_X5_157 mi_X6_add mv_X6_add (by decide) (Nat.le_of_ble_eq_true rfl) (by decide) dX5_findRing_39 ?_
      refine r_aload_n O 0 dX5_findRing_42 rfl (Or.inl rfl) ?_
      refine r_iload_n O 2 dX5_findRing_43 rfl ?_
      obtain ⟨x11, ex11, hf⟩ := bnd hf
      refine r_callV (av := [.int l2]) (st := []) O (c_X5_nearestRead ex11) mf_X5_nearestRead cf5 (kd_X5_nearestRead ex11) ml_X5_166 mi_X5_nearestRead mv_X5_nearestRead (by decide) (Nat.le_of_ble_eq_true rfl) (by decide) dX5_findRing_44 ?_
      refine r_istore_n O [(2, .int x11), (0, .ref l0), (1, .int l1), (3, .int l3)] dX5_findRing_47 (by decide) rfl ?_
      refine r_iload_n O 0 dX5_findRing_48 rfl ?_
      refine r_iload_n O 2 dX5_findRing_49 rfl ?_
      by_cases hc : x11 = l1
      · rw [if_pos hc] at hf
        refine r_icmp_eq_t (tgt := 58) O dX5_findRing_50 (by decide) hc ?_
        obtain rfl := Option.some.inj hf
        obtain ⟨ho, hh⟩ := he _ rfl
        exact r_vret O hr ho hh.symm (by decide) (by decide) dX5_findRing_58
      · rw [if_neg hc] at hf
        refine r_icmp_eq_f (tgt := 58) O dX5_findRing_50 (by decide) hc ?_
        refine r_iload_n O 0 dX5_findRing_53 rfl ?_
        refine r_iconst O (v := -1) dX5_findRing_54 (by decide) ?_
        by_cases hc : x11 = (-1)
        · rw [if_pos hc] at hf
          refine r_icmp_ne_f (tgt := 59) O dX5_findRing_55 (by decide) hc ?_
          obtain rfl := Option.some.inj hf
          obtain ⟨ho, hh⟩ := he _ rfl
          exact r_vret O hr ho hh.symm (by decide) (by decide) dX5_findRing_58
        · rw [if_neg hc] at hf
          refine r_icmp_ne_t (tgt := 59) O dX5_findRing_55 (by decide) hc ?_
          refine r_iinc O 3 [(3, .int (l3 + 1)), (2, .int x11), (0, .ref l0), (1, .int l1)] dX5_findRing_59 rfl rfl (by decide) rfl ?_
          refine r_goto (tgt := 27) O dX5_findRing_62 (by decide) ?_
          refine AW.sub [2, 3, 1, 0] rfl ?_
          exact ih _ _ _ hf
theorem kd_X5_findRing {h : AH} {a0 : Nat} {r : AH} (hf : f_X5_findRing h a0 = some r) : aK h a0 = 5 := by
  unfold f_X5_findRing at hf
  exact (ifk hf).1
set_option maxRecDepth 100000 in
set_option maxHeartbeats 4000000 in
theorem c_X5_findRing {l : Launch} {G : GT} {h : AH} {a0 : Nat} {r : AH} (hf : f_X5_findRing h a0 = some r) : Cn l yX5_findRing cX5_findRing 4 none 4 95 0 0 G h [.ref a0] (.ok none) r := by
  refine Cn.of (by decide) (Nat.le_of_ble_eq_true rfl) ?_
  intro p e s m args below meth c O hr hx hin
  have O : OkC p l s m args meth c G cX5_findRing 4 RX5 := O
  unfold f_X5_findRing at hf
  obtain ⟨hk0, hf⟩ := ifk hf
  refine AW.sub (lv' := [(0, .ref a0)]) [0] rfl ?_
  refine r_aload_n O 0 dX5_findRing_0 rfl (Or.inl rfl) ?_
  obtain ⟨x1, ex1, hf⟩ := bnd hf
  refine r_gP O cf5 10 (by decide) rfl fl_X5_44 ex1 dX5_findRing_1 ?_
  obtain ⟨h3, eh3, hf⟩ := bnd hf
  refine r_callV (av := []) (st := []) O (c_X6_clear eh3) mf_X6_clear cf6 (kd_X6_clear eh3) ml_X5_58 mi_X6_clear mv_X6_clear (by decide) (Nat.le_of_ble_eq_true rfl) (by decide) dX5_findRing_4 ?_
  refine r_aload_n O 0 dX5_findRing_7 rfl (Or.inl rfl) ?_
  obtain ⟨⟨x4, h5⟩, ex4, hf⟩ := bnd hf
  dsimp only at hf
  refine r_callV (av := []) (st := []) O (c_X5_firstInRing ex4) mf_X5_firstInRing cf5 (kd_X5_firstInRing ex4) ml_X5_160 mi_X5_firstInRing mv_X5_firstInRing (by decide) (Nat.le_of_ble_eq_true rfl) (by decide) dX5_findRing_8 ?_
  refine r_istore_n O [(1, .int x4), (0, .ref a0)] dX5_findRing_11 (by decide) rfl ?_
  refine r_iload_n O 0 dX5_findRing_12 rfl ?_
  refine r_iconst O (v := -1) dX5_findRing_13 (by decide) ?_
  by_cases hc : x4 = (-1)
  · rw [if_pos hc] at hf
    refine r_icmp_ne_f (tgt := 18) O dX5_findRing_14 (by decide) hc ?_
    obtain rfl := Option.some.inj hf
    exact r_vret O hr rfl rfl (by decide) (by decide) dX5_findRing_17
  · rw [if_neg hc] at hf
    refine r_icmp_ne_t (tgt := 18) O dX5_findRing_14 (by decide) hc ?_
    refine r_aload_n O 1 dX5_findRing_18 rfl (Or.inl rfl) ?_
    refine r_iload_n O 0 dX5_findRing_19 rfl ?_
    obtain ⟨h7, eh7, hf⟩ := bnd hf
    refine r_callV (av := [.int x4]) (st := []) O (c_X5_measure eh7) mf_X5_measure cf5 (kd_X5_measure eh7) ml_X5_163 mi_X5_measure mv_X5_measure (by decide) (Nat.le_of_ble_eq_true rfl) (by decide) dX5_findRing_20 ?_
    refine r_iload_n O 0 dX5_findRing_23 rfl ?_
    refine r_istore_n O [(2, .int x4), (1, .int x4), (0, .ref a0)] dX5_findRing_24 (by decide) rfl ?_
    refine r_iconst O (v := 0) dX5_findRing_25 (by decide) ?_
    refine r_istore_n O [(3, .int 0), (2, .int x4), (1, .int x4), (0, .ref a0)] dX5_findRing_26 (by decide) rfl ?_
    obtain ⟨w9, hw, hf⟩ := bnd hf
    refine AW.sub [3, 2, 1, 0] rfl ?_
    refine s_X5_findRing_27 O hr (w := w9) ?_ ?_ _ _ _ _ hw
    · intro r9 hr9
      subst hr9
      dsimp only at hf
      obtain rfl := Option.some.inj hf
      exact ⟨rfl, rfl⟩
    · intro h13 hw9
      subst hw9
      dsimp only at hf
      obtain rfl := Option.some.inj hf
      exact r_vret O hr rfl rfl (by decide) (by decide) dX5_findRing_65
def f_X1_startFresh_2 (l0 : Nat) (n : Nat) (h : AH) (l1 : Int32) : Option AH := match n with
| 0 => none
| n + 1 =>
if 258 ≤ l1 then
some h
else
Option.bind (gP h 1 l0 4) fun x1 =>
Option.bind (gP h 1 l0 0) fun x2 =>
Option.bind (gP h 1 l0 10) fun x3 =>
Option.bind (f_X0_isCell h x2 x3 l1) fun x4 =>
Option.bind (if x4 = 0 then
some (0 : Int64)
else
Option.bind (gP h 1 l0 11) fun x7 =>
Option.bind (ldJ h x7 l1) fun x8 =>
some x8) fun x6 =>
Option.bind (stJ h x1 l1 x6) fun h9 =>
f_X1_startFresh_2 l0 n h9 (l1 + 1)
def f_X1_startFresh (h : AH) (a0 : Nat) : Option AH :=
if aK h a0 = 1 then
Option.bind (f_X1_startFresh_2 a0 FU h 0) fun h10 =>
some h10
else none
set_option maxRecDepth 100000 in
set_option maxHeartbeats 4000000 in
theorem s_X1_startFresh_2 {p : Program} {l : Launch} {e : Env} {s : State} {m : MethodId} {args : Array Value} {below : List Frame} {meth : Method} {c : Code} {G : GT} {Q : State → Prop} (O : OkC p l s m args meth c G cX1_startFresh 2 RX1) {l0 : Nat} {wh : AH} (kk : AW p l e { frames := 2, cells := 0, slots := 0, locals := 42 } s m args below meth c G 2 Q wh 0 0 46 [] []) : ∀ (n : Nat), ∀ (h : AH) (l1 : Int32), f_X1_startFresh_2 l0 n h l1 = some wh → AW p l e { frames := 2, cells := 0, slots := 0, locals := 42 } s m args below meth c G 2 Q h 0 0 2 [(0, .ref l0), (1, .int l1)] [] := by
  intro n
  induction n with
  | zero =>
    intro h l1 hf
    simp [f_X1_startFresh_2] at hf
  | succ n ih =>
    intro h l1 hf
    unfold f_X1_startFresh_2 at hf
    refine r_iload_n O 1 dX1_startFresh_2 rfl ?_
    refine r_sipush O (v := 258) dX1_startFresh_3 (by decide) ?_
    by_cases hc : 258 ≤ l1
    · rw [if_pos hc] at hf
      refine r_icmp_ge_t (tgt := 46) O dX1_startFresh_6 (by decide) hc ?_
      obtain rfl := oi1 hf
      refine AW.sub [] rfl ?_
      exact kk
    · rw [if_neg hc] at hf
      refine r_icmp_ge_f (tgt := 46) O dX1_startFresh_6 (by decide) hc ?_
      refine r_aload_n O 0 dX1_startFresh_9 rfl (Or.inl rfl) ?_
      obtain ⟨x1, ex1, hf⟩ := bnd hf
      refine r_gP O cf1 4 (by decide) rfl fl_X1_18 ex1 dX1_startFresh_10 ?_
      refine r_iload_n O 1 dX1_startFresh_13 rfl ?_
      refine r_aload_n O 0 dX1_startFresh_14 rfl (Or.inl rfl) ?_
      obtain ⟨x2, ex2, hf⟩ := bnd hf
      refine r_gP O cf1 0 (by decide) rfl fl_X1_32 ex2 dX1_startFresh_15 ?_
      refine r_aload_n O 0 dX1_startFresh_18 rfl (Or.inl rfl) ?_
      obtain ⟨x3, ex3, hf⟩ := bnd hf
      refine r_gP O cf1 10 (by decide) rfl fl_X1_40 ex3 dX1_startFresh_19 ?_
      refine r_iload_n O 1 dX1_startFresh_22 rfl ?_
      obtain ⟨x4, ex4, hf⟩ := bnd hf
      refine r_callV (av := [.ref x3, .int l1]) (st := [.int l1, .ref x1]) O (c_X0_isCell ex4) mf_X0_isCell cf0 (kd_X0_isCell ex4) ml_X1_126 mi_X0_isCell mv_X0_isCell (by decide) (Nat.le_of_ble_eq_true rfl) (by decide) dX1_startFresh_23 ?_
      obtain ⟨x6, hg, hf⟩ := bnd hf
      have hJ : AW p l e { frames := 2, cells := 0, slots := 0, locals := 42 } s m args below meth c G 2 Q h 0 0 39 [(0, .ref l0), (1, .int l1)] [.long x6, .int l1, .ref x1] := by
        obtain ⟨h9, eh9, hf⟩ := bnd hf
        refine r_stJ O eh9 dX1_startFresh_39 ?_
        refine r_iinc O 1 [(1, .int (l1 + 1)), (0, .ref l0)] dX1_startFresh_40 rfl rfl (by decide) rfl ?_
        refine r_goto (tgt := 2) O dX1_startFresh_43 (by decide) ?_
        refine AW.sub [1, 0] rfl ?_
        exact ih _ _ hf
      clear hf
      have hf := hg
      clear hg
      by_cases hc : x4 = 0
      · rw [if_pos hc] at hf
        refine r_if_eq_t (tgt := 38) O dX1_startFresh_26 (by decide) hc ?_
        refine r_lconst O (v := 0) dX1_startFresh_38 (by decide) ?_
        obtain rfl := oi1 hf
        refine AW.sub [0, 1] rfl ?_
        exact hJ
      · rw [if_neg hc] at hf
        refine r_if_eq_f (tgt := 38) O dX1_startFresh_26 (by decide) hc ?_
        refine r_aload_n O 0 dX1_startFresh_29 rfl (Or.inl rfl) ?_
        obtain ⟨x7, ex7, hf⟩ := bnd hf
        refine r_gP O cf1 11 (by decide) rfl fl_X1_43 ex7 dX1_startFresh_30 ?_
        refine r_iload_n O 1 dX1_startFresh_33 rfl ?_
        obtain ⟨x8, ex8, hf⟩ := bnd hf
        refine r_ldJ O ex8 dX1_startFresh_34 ?_
        refine r_goto (tgt := 39) O dX1_startFresh_35 (by decide) ?_
        obtain rfl := oi1 hf
        refine AW.sub [0, 1] rfl ?_
        exact hJ
theorem kd_X1_startFresh {h : AH} {a0 : Nat} {r : AH} (hf : f_X1_startFresh h a0 = some r) : aK h a0 = 1 := by
  unfold f_X1_startFresh at hf
  exact (ifk hf).1
set_option maxRecDepth 100000 in
set_option maxHeartbeats 4000000 in
theorem c_X1_startFresh {l : Launch} {G : GT} {h : AH} {a0 : Nat} {r : AH} (hf : f_X1_startFresh h a0 = some r) : Cn l yX1_startFresh cX1_startFresh 2 none 2 42 0 0 G h [.ref a0] (.ok none) r := by
  refine Cn.of (by decide) (Nat.le_of_ble_eq_true rfl) ?_
  intro p e s m args below meth c O hr hx hin
  have O : OkC p l s m args meth c G cX1_startFresh 2 RX1 := O
  unfold f_X1_startFresh at hf
  obtain ⟨hk0, hf⟩ := ifk hf
  refine AW.sub (lv' := [(0, .ref a0)]) [0] rfl ?_
  refine r_iconst O (v := 0) dX1_startFresh_0 (by decide) ?_
  refine r_istore_n O [(1, .int 0), (0, .ref a0)] dX1_startFresh_1 (by decide) rfl ?_
  obtain ⟨h10, hw, hf⟩ := bnd hf
  refine AW.sub [1, 0] rfl ?_
  refine s_X1_startFresh_2 O ?_ _ _ _ hw
  obtain rfl := Option.some.inj hf
  exact r_vret O hr rfl rfl (by decide) (by decide) dX1_startFresh_46
def f_X1_hasChanged (h : AH) (a0 : Nat) (a1 : Int32) : Option Int32 :=
if aK h a0 = 1 then
Option.bind (gP h 1 a0 11) fun x1 =>
Option.bind (ldJ h x1 a1) fun x2 =>
Option.bind (gP h 1 a0 4) fun x3 =>
Option.bind (ldJ h x3 a1) fun x4 =>
Option.bind (if (lg_cmp x2 x4) = 0 then
some (0 : Int32)
else
some (1 : Int32)) fun x5 =>
Option.bind (bz x5) fun x6 =>
some x6
else none
theorem kd_X1_hasChanged {h : AH} {a0 : Nat} {a1 : Int32} {r : Int32} (hf : f_X1_hasChanged h a0 a1 = some r) : aK h a0 = 1 := by
  unfold f_X1_hasChanged at hf
  exact (ifk hf).1
set_option maxRecDepth 100000 in
set_option maxHeartbeats 4000000 in
theorem c_X1_hasChanged {l : Launch} {G : GT} {h : AH} {a0 : Nat} {a1 : Int32} {r : Int32} (hf : f_X1_hasChanged h a0 a1 = some r) : Cn l yX1_hasChanged cX1_hasChanged 2 (some .boolean) 0 0 0 0 G h [.ref a0, .int a1] (.ok (some (.int r))) h := by
  refine Cn.of (by decide) (Nat.le_of_ble_eq_true rfl) ?_
  intro p e s m args below meth c O hr hx hin
  have O : OkC p l s m args meth c G cX1_hasChanged 2 RX1 := O
  unfold f_X1_hasChanged at hf
  obtain ⟨hk0, hf⟩ := ifk hf
  refine AW.sub (lv' := [(0, .ref a0), (1, .int a1)]) [0, 1] rfl ?_
  refine r_aload_n O 0 dX1_hasChanged_0 rfl (Or.inl rfl) ?_
  obtain ⟨x1, ex1, hf⟩ := bnd hf
  refine r_gP O cf1 11 (by decide) rfl fl_X1_43 ex1 dX1_hasChanged_1 ?_
  refine r_iload_n O 1 dX1_hasChanged_4 rfl ?_
  obtain ⟨x2, ex2, hf⟩ := bnd hf
  refine r_ldJ O ex2 dX1_hasChanged_5 ?_
  refine r_aload_n O 0 dX1_hasChanged_6 rfl (Or.inl rfl) ?_
  obtain ⟨x3, ex3, hf⟩ := bnd hf
  refine r_gP O cf1 4 (by decide) rfl fl_X1_18 ex3 dX1_hasChanged_7 ?_
  refine r_iload_n O 1 dX1_hasChanged_10 rfl ?_
  obtain ⟨x4, ex4, hf⟩ := bnd hf
  refine r_ldJ O ex4 dX1_hasChanged_11 ?_
  refine r_lcmp O dX1_hasChanged_12 ?_
  obtain ⟨x5, hg, hf⟩ := bnd hf
  have hJ : AW p l e { frames := 0, cells := 0, slots := 0, locals := 0 } s m args below meth c G 2 (vx_MQ below (QcN G (.ok (some (.int r))) h) (XcN G (.ok (some (.int r))) h) args s 0 0 (gA G)) h 0 0 21 [] [.int x5] := by
    obtain ⟨x6, ex6, hf⟩ := bnd hf
    refine r_nmI (bz_eq ex6) ?_
    obtain rfl := Option.some.inj hf
    exact r_zret O hr (bz_or ex6) rfl rfl (by decide) (by decide) dX1_hasChanged_21
  clear hf
  have hf := hg
  clear hg
  by_cases hc : (lg_cmp x2 x4) = 0
  · rw [if_pos hc] at hf
    refine r_if_eq_t (tgt := 20) O dX1_hasChanged_13 (by decide) hc ?_
    refine r_iconst O (v := 0) dX1_hasChanged_20 (by decide) ?_
    obtain rfl := oi1 hf
    refine AW.sub [] rfl ?_
    exact hJ
  · rw [if_neg hc] at hf
    refine r_if_eq_f (tgt := 20) O dX1_hasChanged_13 (by decide) hc ?_
    refine r_iconst O (v := 1) dX1_hasChanged_16 (by decide) ?_
    refine r_goto (tgt := 21) O dX1_hasChanged_17 (by decide) ?_
    obtain rfl := oi1 hf
    refine AW.sub [] rfl ?_
    exact hJ
def f_X1_allDiffer_31 (l0 : Nat) (l2 : Int32) (l3 : Int32) (n : Nat) (h : AH) (l4 : Int32) : Option (Int32 ⊕ Unit) := match n with
| 0 => none
| n + 1 =>
Option.bind (gP h 1 l0 10) fun x9 =>
Option.bind (gP h 4 x9 6) fun x10 =>
Option.bind (ldI h x10 l3) fun x11 =>
if x11 ≤ l4 then
some (.inr ())
else
Option.bind (gP h 1 l0 10) fun x12 =>
Option.bind (f_X4_standsAt h x12 l3 l4) fun x13 =>
Option.bind (gP h 1 l0 9) fun x15 =>
Option.bind (f_X4_standsAt h x15 l3 l4) fun x16 =>
if x16 = x13 then
Option.bind (f_X8_shadowOf h x13 l2) fun x18 =>
Option.bind (f_X1_hasChanged h l0 x18) fun x20 =>
if x20 = 0 then
f_X1_allDiffer_31 l0 l2 l3 n h (l4 + 1)
else
some (.inl 1)
else
some (.inl 1)
def f_X1_allDiffer (h : AH) (a0 : Nat) (a1 : Int32) (a2 : Int32) : Option Int32 :=
if aK h a0 = 1 then
Option.bind (f_X8_ownerOf h a1) fun x1 =>
Option.bind (gP h 1 a0 9) fun x3 =>
Option.bind (gP h 4 x3 6) fun x4 =>
Option.bind (ldI h x4 x1) fun x5 =>
Option.bind (gP h 1 a0 10) fun x6 =>
Option.bind (gP h 4 x6 6) fun x7 =>
Option.bind (ldI h x7 x1) fun x8 =>
if x5 = x8 then
Option.bind (f_X1_allDiffer_31 a0 a2 x1 FU h 0) fun w => match w with
| .inl r9 => some r9
| .inr () =>
some 0
else
some 1
else none
set_option maxRecDepth 100000 in
set_option maxHeartbeats 4000000 in
theorem s_X1_allDiffer_31 {p : Program} {l : Launch} {e : Env} {s : State} {m : MethodId} {args : Array Value} {below : List Frame} {meth : Method} {c : Code} {G : GT} {o : Except Nat (Option Value)} {h9 : AH} (O : OkC p l s m args meth c G cX1_allDiffer 6 RX1) (hr : meth.sig.returnType = (some .boolean)) {l0 : Nat} {l2 : Int32} {l3 : Int32} {h : AH} {w : (Int32 ⊕ Unit)} (he : ∀ r, w = .inl r → o = (.ok (some (.int r))) ∧ h9 = h) (kk : w = .inr () → AW p l e { frames := 1, cells := 0, slots := 0, locals := 22 } s m args below meth c G 6 (vx_MQ below (QcN G o h9) (XcN G o h9) args s 0 0 (gA G)) h 0 0 93 [] []) : ∀ (n : Nat), ∀ (l4 : Int32), f_X1_allDiffer_31 l0 l2 l3 n h l4 = some w → AW p l e { frames := 1, cells := 0, slots := 0, locals := 22 } s m args below meth c G 6 (vx_MQ below (QcN G o h9) (XcN G o h9) args s 0 0 (gA G)) h 0 0 31 [(0, .ref l0), (2, .int l2), (3, .int l3), (4, .int l4)] [] := by
  intro n
  induction n with
  | zero =>
    intro l4 hf
    simp [f_X1_allDiffer_31] at hf
  | succ n ih =>
    intro l4 hf
    unfold f_X1_allDiffer_31 at hf
    refine r_iload O 3 dX1_allDiffer_31 rfl ?_
    refine r_aload_n O 0 dX1_allDiffer_33 rfl (Or.inl rfl) ?_
    obtain ⟨x9, ex9, hf⟩ := bnd hf
    refine r_gP O cf1 10 (by decide) rfl fl_X1_40 ex9 dX1_allDiffer_34 ?_
    obtain ⟨x10, ex10, hf⟩ := bnd hf
    refine r_gP O cf4 6 (by decide) rfl fl_X1_162 ex10 dX1_allDiffer_37 ?_
    refine r_iload_n O 2 dX1_allDiffer_40 rfl ?_
    obtain ⟨x11, ex11, hf⟩ := bnd hf
    refine r_ldI O ex11 dX1_allDiffer_41 ?_
    by_cases hc : x11 ≤ l4
    · rw [if_pos hc] at hf
      refine r_icmp_ge_t (tgt := 93) O dX1_allDiffer_42 (by decide) hc ?_
      obtain rfl := Option.some.inj hf
      refine AW.sub [] rfl ?_
      exact kk  rfl
    · rw [if_neg hc] at hf
      refine r_icmp_ge_f (tgt := 93) O dX1_allDiffer_42 (by decide) hc ?_
      refine r_aload_n O 0 dX1_allDiffer_45 rfl (Or.inl rfl) ?_
      obtain ⟨x12, ex12, hf⟩ := bnd hf
      refine r_gP O cf1 10 (by decide) rfl fl_X1_40 ex12 dX1_allDiffer_46 ?_
      refine r_iload_n O 2 dX1_allDiffer_49 rfl ?_
      refine r_iload O 3 dX1_allDiffer_50 rfl ?_
      obtain ⟨x13, ex13, hf⟩ := bnd hf
      refine r_callV (av := [.int l3, .int l4]) (st := []) O (c_X4_standsAt ex13) mf_X4_standsAt cf4 (kd_X4_standsAt ex13) ml_X1_166 mi_X4_standsAt mv_X4_standsAt (by decide) (Nat.le_of_ble_eq_true rfl) (by decide) dX1_allDiffer_52 ?_
      refine r_istore O [(5, .int x13), (0, .ref l0), (2, .int l2), (3, .int l3), (4, .int l4)] dX1_allDiffer_55 (by decide) rfl ?_
      refine r_aload_n O 1 dX1_allDiffer_57 rfl (Or.inl rfl) ?_
      obtain ⟨x15, ex15, hf⟩ := bnd hf
      refine r_gP O cf1 9 (by decide) rfl fl_X1_36 ex15 dX1_allDiffer_58 ?_
      refine r_iload_n O 3 dX1_allDiffer_61 rfl ?_
      refine r_iload O 4 dX1_allDiffer_62 rfl ?_
      obtain ⟨x16, ex16, hf⟩ := bnd hf
      refine r_callV (av := [.int l3, .int l4]) (st := []) O (c_X4_standsAt ex16) mf_X4_standsAt cf4 (kd_X4_standsAt ex16) ml_X1_166 mi_X4_standsAt mv_X4_standsAt (by decide) (Nat.le_of_ble_eq_true rfl) (by decide) dX1_allDiffer_64 ?_
      refine r_iload O 0 dX1_allDiffer_67 rfl ?_
      by_cases hc : x16 = x13
      · rw [if_pos hc] at hf
        refine r_icmp_ne_f (tgt := 85) O dX1_allDiffer_69 (by decide) hc ?_
        refine r_aload_n O 1 dX1_allDiffer_72 rfl (Or.inl rfl) ?_
        refine r_iload O 0 dX1_allDiffer_73 rfl ?_
        refine r_iload_n O 2 dX1_allDiffer_75 rfl ?_
        obtain ⟨x18, ex18, hf⟩ := bnd hf
        refine r_callSN (av := [.int x13, .int l2]) (st := [.ref l0]) O (c_X8_shadowOf ex18) mf_X8_shadowOf mn_X1_169 ms_X8_shadowOf (by decide) (Nat.le_of_ble_eq_true rfl) (by decide) dX1_allDiffer_76 ?_
        obtain ⟨x20, ex20, hf⟩ := bnd hf
        refine r_callV (av := [.int x18]) (st := []) O (c_X1_hasChanged ex20) mf_X1_hasChanged cf1 (kd_X1_hasChanged ex20) ml_X1_172 mi_X1_hasChanged mv_X1_hasChanged (by decide) (Nat.le_of_ble_eq_true rfl) (by decide) dX1_allDiffer_79 ?_
        by_cases hc : x20 = 0
        · rw [if_pos hc] at hf
          refine r_if_eq_t (tgt := 87) O dX1_allDiffer_82 (by decide) hc ?_
          refine r_iinc O 4 [(4, .int (l4 + 1)), (5, .int x13), (0, .ref l0), (2, .int l2), (3, .int l3)] dX1_allDiffer_87 rfl rfl (by decide) rfl ?_
          refine r_goto (tgt := 31) O dX1_allDiffer_90 (by decide) ?_
          refine AW.sub [2, 3, 4, 0] rfl ?_
          exact ih _ hf
        · rw [if_neg hc] at hf
          refine r_if_eq_f (tgt := 87) O dX1_allDiffer_82 (by decide) hc ?_
          refine r_iconst O (v := 1) dX1_allDiffer_85 (by decide) ?_
          obtain rfl := Option.some.inj hf
          obtain ⟨ho, hh⟩ := he _ rfl
          exact r_zret O hr (by decide) ho hh.symm (by decide) (by decide) dX1_allDiffer_86
      · rw [if_neg hc] at hf
        refine r_icmp_ne_t (tgt := 85) O dX1_allDiffer_69 (by decide) hc ?_
        refine r_iconst O (v := 1) dX1_allDiffer_85 (by decide) ?_
        obtain rfl := Option.some.inj hf
        obtain ⟨ho, hh⟩ := he _ rfl
        exact r_zret O hr (by decide) ho hh.symm (by decide) (by decide) dX1_allDiffer_86
theorem kd_X1_allDiffer {h : AH} {a0 : Nat} {a1 : Int32} {a2 : Int32} {r : Int32} (hf : f_X1_allDiffer h a0 a1 a2 = some r) : aK h a0 = 1 := by
  unfold f_X1_allDiffer at hf
  exact (ifk hf).1
set_option maxRecDepth 100000 in
set_option maxHeartbeats 4000000 in
theorem c_X1_allDiffer {l : Launch} {G : GT} {h : AH} {a0 : Nat} {a1 : Int32} {a2 : Int32} {r : Int32} (hf : f_X1_allDiffer h a0 a1 a2 = some r) : Cn l yX1_allDiffer cX1_allDiffer 6 (some .boolean) 1 22 0 0 G h [.ref a0, .int a1, .int a2] (.ok (some (.int r))) h := by
  refine Cn.of (by decide) (Nat.le_of_ble_eq_true rfl) ?_
  intro p e s m args below meth c O hr hx hin
  have O : OkC p l s m args meth c G cX1_allDiffer 6 RX1 := O
  unfold f_X1_allDiffer at hf
  obtain ⟨hk0, hf⟩ := ifk hf
  refine AW.sub (lv' := [(0, .ref a0), (1, .int a1), (2, .int a2)]) [0, 1, 2] rfl ?_
  refine r_iload_n O 1 dX1_allDiffer_0 rfl ?_
  obtain ⟨x1, ex1, hf⟩ := bnd hf
  refine r_callSN (av := [.int a1]) (st := []) O (c_X8_ownerOf ex1) mf_X8_ownerOf mn_X1_159 ms_X8_ownerOf (by decide) (Nat.le_of_ble_eq_true rfl) (by decide) dX1_allDiffer_1 ?_
  refine r_istore_n O [(3, .int x1), (0, .ref a0), (1, .int a1), (2, .int a2)] dX1_allDiffer_4 (by decide) rfl ?_
  refine r_aload_n O 1 dX1_allDiffer_5 rfl (Or.inl rfl) ?_
  obtain ⟨x3, ex3, hf⟩ := bnd hf
  refine r_gP O cf1 9 (by decide) rfl fl_X1_36 ex3 dX1_allDiffer_6 ?_
  obtain ⟨x4, ex4, hf⟩ := bnd hf
  refine r_gP O cf4 6 (by decide) rfl fl_X1_162 ex4 dX1_allDiffer_9 ?_
  refine r_iload_n O 0 dX1_allDiffer_12 rfl ?_
  obtain ⟨x5, ex5, hf⟩ := bnd hf
  refine r_ldI O ex5 dX1_allDiffer_13 ?_
  refine r_aload_n O 1 dX1_allDiffer_14 rfl (Or.inl rfl) ?_
  obtain ⟨x6, ex6, hf⟩ := bnd hf
  refine r_gP O cf1 10 (by decide) rfl fl_X1_40 ex6 dX1_allDiffer_15 ?_
  obtain ⟨x7, ex7, hf⟩ := bnd hf
  refine r_gP O cf4 6 (by decide) rfl fl_X1_162 ex7 dX1_allDiffer_18 ?_
  refine r_iload_n O 0 dX1_allDiffer_21 rfl ?_
  obtain ⟨x8, ex8, hf⟩ := bnd hf
  refine r_ldI O ex8 dX1_allDiffer_22 ?_
  by_cases hc : x5 = x8
  · rw [if_pos hc] at hf
    refine r_icmp_eq_t (tgt := 28) O dX1_allDiffer_23 (by decide) hc ?_
    refine r_iconst O (v := 0) dX1_allDiffer_28 (by decide) ?_
    refine r_istore O [(4, .int 0), (3, .int x1), (0, .ref a0), (1, .int a1), (2, .int a2)] dX1_allDiffer_29 (by decide) rfl ?_
    obtain ⟨w9, hw, hf⟩ := bnd hf
    refine AW.sub [2, 4, 1, 0] rfl ?_
    refine s_X1_allDiffer_31 O hr (w := w9) ?_ ?_ _ _ hw
    · intro r9 hr9
      subst hr9
      dsimp only at hf
      obtain rfl := Option.some.inj hf
      exact ⟨rfl, rfl⟩
    · intro hw9
      subst hw9
      dsimp only at hf
      refine r_iconst O (v := 0) dX1_allDiffer_93 (by decide) ?_
      obtain rfl := Option.some.inj hf
      exact r_zret O hr (by decide) rfl rfl (by decide) (by decide) dX1_allDiffer_94
  · rw [if_neg hc] at hf
    refine r_icmp_eq_f (tgt := 28) O dX1_allDiffer_23 (by decide) hc ?_
    refine r_iconst O (v := 1) dX1_allDiffer_26 (by decide) ?_
    obtain rfl := Option.some.inj hf
    exact r_zret O hr (by decide) rfl rfl (by decide) (by decide) dX1_allDiffer_27
def f_X1_oneDiffers (h : AH) (a0 : Nat) (a1 : Int32) (a2 : Int32) (a3 : Int32) : Option Int32 :=
if aK h a0 = 1 then
Option.bind (gP h 1 a0 9) fun x1 =>
Option.bind (f_X4_shadowSeen h x1 a1 a2 a3) fun x2 =>
Option.bind (gP h 1 a0 10) fun x4 =>
Option.bind (f_X4_shadowSeen h x4 a1 a2 a3) fun x5 =>
Option.bind (if x2 = x5 then
if x5 = (-1) then
some (0 : Int32)
else
Option.bind (f_X1_hasChanged h a0 x5) fun x8 =>
if x8 = 0 then
some (0 : Int32)
else
some (1 : Int32)
else
some (1 : Int32)) fun x7 =>
Option.bind (bz x7) fun x10 =>
some x10
else none
theorem kd_X1_oneDiffers {h : AH} {a0 : Nat} {a1 : Int32} {a2 : Int32} {a3 : Int32} {r : Int32} (hf : f_X1_oneDiffers h a0 a1 a2 a3 = some r) : aK h a0 = 1 := by
  unfold f_X1_oneDiffers at hf
  exact (ifk hf).1
set_option maxRecDepth 100000 in
set_option maxHeartbeats 4000000 in
theorem c_X1_oneDiffers {l : Launch} {G : GT} {h : AH} {a0 : Nat} {a1 : Int32} {a2 : Int32} {a3 : Int32} {r : Int32} (hf : f_X1_oneDiffers h a0 a1 a2 a3 = some r) : Cn l yX1_oneDiffers cX1_oneDiffers 6 (some .boolean) 3 67 0 0 G h [.ref a0, .int a1, .int a2, .int a3] (.ok (some (.int r))) h := by
  refine Cn.of (by decide) (Nat.le_of_ble_eq_true rfl) ?_
  intro p e s m args below meth c O hr hx hin
  have O : OkC p l s m args meth c G cX1_oneDiffers 6 RX1 := O
  unfold f_X1_oneDiffers at hf
  obtain ⟨hk0, hf⟩ := ifk hf
  refine AW.sub (lv' := [(0, .ref a0), (1, .int a1), (2, .int a2), (3, .int a3)]) [0, 1, 2, 3] rfl ?_
  refine r_aload_n O 0 dX1_oneDiffers_0 rfl (Or.inl rfl) ?_
  obtain ⟨x1, ex1, hf⟩ := bnd hf
  refine r_gP O cf1 9 (by decide) rfl fl_X1_36 ex1 dX1_oneDiffers_1 ?_
  refine r_iload_n O 1 dX1_oneDiffers_4 rfl ?_
  refine r_iload_n O 2 dX1_oneDiffers_5 rfl ?_
  refine r_iload_n O 3 dX1_oneDiffers_6 rfl ?_
  obtain ⟨x2, ex2, hf⟩ := bnd hf
  refine r_callV (av := [.int a1, .int a2, .int a3]) (st := []) O (c_X4_shadowSeen ex2) mf_X4_shadowSeen cf4 (kd_X4_shadowSeen ex2) ml_X1_175 mi_X4_shadowSeen mv_X4_shadowSeen (by decide) (Nat.le_of_ble_eq_true rfl) (by decide) dX1_oneDiffers_7 ?_
  refine r_istore O [(4, .int x2), (0, .ref a0), (1, .int a1), (2, .int a2), (3, .int a3)] dX1_oneDiffers_10 (by decide) rfl ?_
  refine r_aload_n O 1 dX1_oneDiffers_12 rfl (Or.inl rfl) ?_
  obtain ⟨x4, ex4, hf⟩ := bnd hf
  refine r_gP O cf1 10 (by decide) rfl fl_X1_40 ex4 dX1_oneDiffers_13 ?_
  refine r_iload_n O 2 dX1_oneDiffers_16 rfl ?_
  refine r_iload_n O 3 dX1_oneDiffers_17 rfl ?_
  refine r_iload_n O 4 dX1_oneDiffers_18 rfl ?_
  obtain ⟨x5, ex5, hf⟩ := bnd hf
  refine r_callV (av := [.int a1, .int a2, .int a3]) (st := []) O (c_X4_shadowSeen ex5) mf_X4_shadowSeen cf4 (kd_X4_shadowSeen ex5) ml_X1_175 mi_X4_shadowSeen mv_X4_shadowSeen (by decide) (Nat.le_of_ble_eq_true rfl) (by decide) dX1_oneDiffers_19 ?_
  refine r_istore O [(5, .int x5), (4, .int x2), (0, .ref a0), (1, .int a1), (2, .int a2), (3, .int a3)] dX1_oneDiffers_22 (by decide) rfl ?_
  refine r_iload O 1 dX1_oneDiffers_24 rfl ?_
  refine r_iload O 0 dX1_oneDiffers_26 rfl ?_
  obtain ⟨x7, hg, hf⟩ := bnd hf
  have hJ : AW p l e { frames := 3, cells := 0, slots := 0, locals := 67 } s m args below meth c G 6 (vx_MQ below (QcN G (.ok (some (.int r))) h) (XcN G (.ok (some (.int r))) h) args s 0 0 (gA G)) h 0 0 51 [] [.int x7] := by
    obtain ⟨x10, ex10, hf⟩ := bnd hf
    refine r_nmI (bz_eq ex10) ?_
    obtain rfl := Option.some.inj hf
    exact r_zret O hr (bz_or ex10) rfl rfl (by decide) (by decide) dX1_oneDiffers_51
  clear hf
  have hf := hg
  clear hg
  by_cases hc : x2 = x5
  · rw [if_pos hc] at hf
    refine r_icmp_ne_f (tgt := 46) O dX1_oneDiffers_28 (by decide) hc ?_
    refine r_iload O 0 dX1_oneDiffers_31 rfl ?_
    refine r_iconst O (v := -1) dX1_oneDiffers_33 (by decide) ?_
    by_cases hc : x5 = (-1)
    · rw [if_pos hc] at hf
      refine r_icmp_eq_t (tgt := 50) O dX1_oneDiffers_34 (by decide) hc ?_
      refine r_iconst O (v := 0) dX1_oneDiffers_50 (by decide) ?_
      obtain rfl := oi1 hf
      refine AW.sub [] rfl ?_
      exact hJ
    · rw [if_neg hc] at hf
      refine r_icmp_eq_f (tgt := 50) O dX1_oneDiffers_34 (by decide) hc ?_
      refine r_aload_n O 2 dX1_oneDiffers_37 rfl (Or.inl rfl) ?_
      refine r_iload O 0 dX1_oneDiffers_38 rfl ?_
      obtain ⟨x8, ex8, hf⟩ := bnd hf
      refine r_callV (av := [.int x5]) (st := []) O (c_X1_hasChanged ex8) mf_X1_hasChanged cf1 (kd_X1_hasChanged ex8) ml_X1_172 mi_X1_hasChanged mv_X1_hasChanged (by decide) (Nat.le_of_ble_eq_true rfl) (by decide) dX1_oneDiffers_40 ?_
      by_cases hc : x8 = 0
      · rw [if_pos hc] at hf
        refine r_if_eq_t (tgt := 50) O dX1_oneDiffers_43 (by decide) hc ?_
        refine r_iconst O (v := 0) dX1_oneDiffers_50 (by decide) ?_
        obtain rfl := oi1 hf
        refine AW.sub [] rfl ?_
        exact hJ
      · rw [if_neg hc] at hf
        refine r_if_eq_f (tgt := 50) O dX1_oneDiffers_43 (by decide) hc ?_
        refine r_iconst O (v := 1) dX1_oneDiffers_46 (by decide) ?_
        refine r_goto (tgt := 51) O dX1_oneDiffers_47 (by decide) ?_
        obtain rfl := oi1 hf
        refine AW.sub [] rfl ?_
        exact hJ
  · rw [if_neg hc] at hf
    refine r_icmp_ne_t (tgt := 46) O dX1_oneDiffers_28 (by decide) hc ?_
    refine r_iconst O (v := 1) dX1_oneDiffers_46 (by decide) ?_
    refine r_goto (tgt := 51) O dX1_oneDiffers_47 (by decide) ?_
    obtain rfl := oi1 hf
    refine AW.sub [] rfl ?_
    exact hJ
def f_X1_factDiffers (h : AH) (a0 : Nat) (a1 : Int32) (a2 : Int32) : Option Int32 :=
if aK h a0 = 1 then
Option.bind (gP h 1 a0 9) fun x1 =>
Option.bind (gP h 4 x1 0) fun x2 =>
Option.bind (ldI h x2 ((4 * a1) + a2)) fun x3 =>
Option.bind (gP h 1 a0 10) fun x4 =>
Option.bind (gP h 4 x4 0) fun x5 =>
Option.bind (ldI h x5 ((4 * a1) + a2)) fun x6 =>
Option.bind (if x3 = x6 then
some (0 : Int32)
else
some (1 : Int32)) fun x7 =>
Option.bind (bz x7) fun x8 =>
some x8
else none
theorem kd_X1_factDiffers {h : AH} {a0 : Nat} {a1 : Int32} {a2 : Int32} {r : Int32} (hf : f_X1_factDiffers h a0 a1 a2 = some r) : aK h a0 = 1 := by
  unfold f_X1_factDiffers at hf
  exact (ifk hf).1
set_option maxRecDepth 100000 in
set_option maxHeartbeats 4000000 in
theorem c_X1_factDiffers {l : Launch} {G : GT} {h : AH} {a0 : Nat} {a1 : Int32} {a2 : Int32} {r : Int32} (hf : f_X1_factDiffers h a0 a1 a2 = some r) : Cn l yX1_factDiffers cX1_factDiffers 4 (some .boolean) 0 0 0 0 G h [.ref a0, .int a1, .int a2] (.ok (some (.int r))) h := by
  refine Cn.of (by decide) (Nat.le_of_ble_eq_true rfl) ?_
  intro p e s m args below meth c O hr hx hin
  have O : OkC p l s m args meth c G cX1_factDiffers 4 RX1 := O
  unfold f_X1_factDiffers at hf
  obtain ⟨hk0, hf⟩ := ifk hf
  refine AW.sub (lv' := [(0, .ref a0), (1, .int a1), (2, .int a2)]) [0, 1, 2] rfl ?_
  refine r_iconst O (v := 4) dX1_factDiffers_0 (by decide) ?_
  refine r_iload_n O 1 dX1_factDiffers_1 rfl ?_
  refine r_imul O dX1_factDiffers_2 ?_
  refine r_iload_n O 2 dX1_factDiffers_3 rfl ?_
  refine r_iadd O dX1_factDiffers_4 ?_
  refine r_istore_n O [(3, .int ((4 * a1) + a2)), (0, .ref a0), (1, .int a1), (2, .int a2)] dX1_factDiffers_5 (by decide) rfl ?_
  refine r_aload_n O 1 dX1_factDiffers_6 rfl (Or.inl rfl) ?_
  obtain ⟨x1, ex1, hf⟩ := bnd hf
  refine r_gP O cf1 9 (by decide) rfl fl_X1_36 ex1 dX1_factDiffers_7 ?_
  obtain ⟨x2, ex2, hf⟩ := bnd hf
  refine r_gP O cf4 0 (by decide) rfl fl_X1_194 ex2 dX1_factDiffers_10 ?_
  refine r_iload_n O 0 dX1_factDiffers_13 rfl ?_
  obtain ⟨x3, ex3, hf⟩ := bnd hf
  refine r_ldI O ex3 dX1_factDiffers_14 ?_
  refine r_aload_n O 1 dX1_factDiffers_15 rfl (Or.inl rfl) ?_
  obtain ⟨x4, ex4, hf⟩ := bnd hf
  refine r_gP O cf1 10 (by decide) rfl fl_X1_40 ex4 dX1_factDiffers_16 ?_
  obtain ⟨x5, ex5, hf⟩ := bnd hf
  refine r_gP O cf4 0 (by decide) rfl fl_X1_194 ex5 dX1_factDiffers_19 ?_
  refine r_iload_n O 0 dX1_factDiffers_22 rfl ?_
  obtain ⟨x6, ex6, hf⟩ := bnd hf
  refine r_ldI O ex6 dX1_factDiffers_23 ?_
  obtain ⟨x7, hg, hf⟩ := bnd hf
  have hJ : AW p l e { frames := 0, cells := 0, slots := 0, locals := 0 } s m args below meth c G 4 (vx_MQ below (QcN G (.ok (some (.int r))) h) (XcN G (.ok (some (.int r))) h) args s 0 0 (gA G)) h 0 0 32 [] [.int x7] := by
    obtain ⟨x8, ex8, hf⟩ := bnd hf
    refine r_nmI (bz_eq ex8) ?_
    obtain rfl := Option.some.inj hf
    exact r_zret O hr (bz_or ex8) rfl rfl (by decide) (by decide) dX1_factDiffers_32
  clear hf
  have hf := hg
  clear hg
  by_cases hc : x3 = x6
  · rw [if_pos hc] at hf
    refine r_icmp_eq_t (tgt := 31) O dX1_factDiffers_24 (by decide) hc ?_
    refine r_iconst O (v := 0) dX1_factDiffers_31 (by decide) ?_
    obtain rfl := oi1 hf
    refine AW.sub [] rfl ?_
    exact hJ
  · rw [if_neg hc] at hf
    refine r_icmp_eq_f (tgt := 31) O dX1_factDiffers_24 (by decide) hc ?_
    refine r_iconst O (v := 1) dX1_factDiffers_27 (by decide) ?_
    refine r_goto (tgt := 32) O dX1_factDiffers_28 (by decide) ?_
    obtain rfl := oi1 hf
    refine AW.sub [] rfl ?_
    exact hJ
def f_X1_listFactDiffers (h : AH) (a0 : Nat) (a1 : Int32) (a2 : Int32) : Option Int32 :=
if aK h a0 = 1 then
Option.bind (gP h 1 a0 9) fun x1 =>
Option.bind (gP h 4 x1 1) fun x2 =>
Option.bind (ldI h x2 ((2 * a1) + a2)) fun x3 =>
Option.bind (gP h 1 a0 10) fun x4 =>
Option.bind (gP h 4 x4 1) fun x5 =>
Option.bind (ldI h x5 ((2 * a1) + a2)) fun x6 =>
Option.bind (if x3 = x6 then
some (0 : Int32)
else
some (1 : Int32)) fun x7 =>
Option.bind (bz x7) fun x8 =>
some x8
else none
theorem kd_X1_listFactDiffers {h : AH} {a0 : Nat} {a1 : Int32} {a2 : Int32} {r : Int32} (hf : f_X1_listFactDiffers h a0 a1 a2 = some r) : aK h a0 = 1 := by
  unfold f_X1_listFactDiffers at hf
  exact (ifk hf).1
set_option maxRecDepth 100000 in
set_option maxHeartbeats 4000000 in
theorem c_X1_listFactDiffers {l : Launch} {G : GT} {h : AH} {a0 : Nat} {a1 : Int32} {a2 : Int32} {r : Int32} (hf : f_X1_listFactDiffers h a0 a1 a2 = some r) : Cn l yX1_listFactDiffers cX1_listFactDiffers 4 (some .boolean) 0 0 0 0 G h [.ref a0, .int a1, .int a2] (.ok (some (.int r))) h := by
  refine Cn.of (by decide) (Nat.le_of_ble_eq_true rfl) ?_
  intro p e s m args below meth c O hr hx hin
  have O : OkC p l s m args meth c G cX1_listFactDiffers 4 RX1 := O
  unfold f_X1_listFactDiffers at hf
  obtain ⟨hk0, hf⟩ := ifk hf
  refine AW.sub (lv' := [(0, .ref a0), (1, .int a1), (2, .int a2)]) [0, 1, 2] rfl ?_
  refine r_iconst O (v := 2) dX1_listFactDiffers_0 (by decide) ?_
  refine r_iload_n O 1 dX1_listFactDiffers_1 rfl ?_
  refine r_imul O dX1_listFactDiffers_2 ?_
  refine r_iload_n O 2 dX1_listFactDiffers_3 rfl ?_
  refine r_iadd O dX1_listFactDiffers_4 ?_
  refine r_istore_n O [(3, .int ((2 * a1) + a2)), (0, .ref a0), (1, .int a1), (2, .int a2)] dX1_listFactDiffers_5 (by decide) rfl ?_
  refine r_aload_n O 1 dX1_listFactDiffers_6 rfl (Or.inl rfl) ?_
  obtain ⟨x1, ex1, hf⟩ := bnd hf
  refine r_gP O cf1 9 (by decide) rfl fl_X1_36 ex1 dX1_listFactDiffers_7 ?_
  obtain ⟨x2, ex2, hf⟩ := bnd hf
  refine r_gP O cf4 1 (by decide) rfl fl_X1_197 ex2 dX1_listFactDiffers_10 ?_
  refine r_iload_n O 0 dX1_listFactDiffers_13 rfl ?_
  obtain ⟨x3, ex3, hf⟩ := bnd hf
  refine r_ldI O ex3 dX1_listFactDiffers_14 ?_
  refine r_aload_n O 1 dX1_listFactDiffers_15 rfl (Or.inl rfl) ?_
  obtain ⟨x4, ex4, hf⟩ := bnd hf
  refine r_gP O cf1 10 (by decide) rfl fl_X1_40 ex4 dX1_listFactDiffers_16 ?_
  obtain ⟨x5, ex5, hf⟩ := bnd hf
  refine r_gP O cf4 1 (by decide) rfl fl_X1_197 ex5 dX1_listFactDiffers_19 ?_
  refine r_iload_n O 0 dX1_listFactDiffers_22 rfl ?_
  obtain ⟨x6, ex6, hf⟩ := bnd hf
  refine r_ldI O ex6 dX1_listFactDiffers_23 ?_
  obtain ⟨x7, hg, hf⟩ := bnd hf
  have hJ : AW p l e { frames := 0, cells := 0, slots := 0, locals := 0 } s m args below meth c G 4 (vx_MQ below (QcN G (.ok (some (.int r))) h) (XcN G (.ok (some (.int r))) h) args s 0 0 (gA G)) h 0 0 32 [] [.int x7] := by
    obtain ⟨x8, ex8, hf⟩ := bnd hf
    refine r_nmI (bz_eq ex8) ?_
    obtain rfl := Option.some.inj hf
    exact r_zret O hr (bz_or ex8) rfl rfl (by decide) (by decide) dX1_listFactDiffers_32
  clear hf
  have hf := hg
  clear hg
  by_cases hc : x3 = x6
  · rw [if_pos hc] at hf
    refine r_icmp_eq_t (tgt := 31) O dX1_listFactDiffers_24 (by decide) hc ?_
    refine r_iconst O (v := 0) dX1_listFactDiffers_31 (by decide) ?_
    obtain rfl := oi1 hf
    refine AW.sub [] rfl ?_
    exact hJ
  · rw [if_neg hc] at hf
    refine r_icmp_eq_f (tgt := 31) O dX1_listFactDiffers_24 (by decide) hc ?_
    refine r_iconst O (v := 1) dX1_listFactDiffers_27 (by decide) ?_
    refine r_goto (tgt := 32) O dX1_listFactDiffers_28 (by decide) ?_
    obtain rfl := oi1 hf
    refine AW.sub [] rfl ?_
    exact hJ
def f_X1_givenDiffers (h : AH) (a0 : Nat) (a1 : Int32) (a2 : Int32) (a3 : Int32) : Option Int32 :=
if aK h a0 = 1 then
Option.bind (f_X8_ownerOf h a1) fun x1 =>
Option.bind (gP h 1 a0 9) fun x3 =>
Option.bind (f_X4_listOf h x3 a1) fun x4 =>
Option.bind (gP h 1 a0 10) fun x6 =>
Option.bind (f_X4_listOf h x6 a1) fun x7 =>
if a2 = 1 then
Option.bind (f_X8_isOfThing h a1) fun x9 =>
Option.bind (if x9 = 0 then
Option.bind (f_X1_listFactDiffers h a0 x1 a3) fun x12 =>
some x12
else
Option.bind (f_X1_factDiffers h a0 x1 a3) fun x14 =>
some x14) fun x11 =>
Option.bind (bz x11) fun x16 =>
some x16
else
if a2 = 2 then
Option.bind (if x4 = x7 then
Option.bind (f_X1_listFactDiffers h a0 x7 a3) fun x18 =>
if x18 = 0 then
some (0 : Int32)
else
some (1 : Int32)
else
some (1 : Int32)) fun x17 =>
Option.bind (bz x17) fun x20 =>
some x20
else
if a2 = 3 then
Option.bind (if x4 = x7 then
if a3 = 0 then
Option.bind (gP h 1 a0 9) fun x28 =>
Option.bind (gP h 4 x28 4) fun x29 =>
Option.bind (ldI h x29 x1) fun x30 =>
Option.bind (gP h 1 a0 10) fun x31 =>
Option.bind (gP h 4 x31 4) fun x32 =>
Option.bind (ldI h x32 x1) fun x33 =>
if x30 = x33 then
some (0 : Int32)
else
some (1 : Int32)
else
Option.bind (gP h 1 a0 9) fun x22 =>
Option.bind (gP h 4 x22 6) fun x23 =>
Option.bind (ldI h x23 x7) fun x24 =>
Option.bind (gP h 1 a0 10) fun x25 =>
Option.bind (gP h 4 x25 6) fun x26 =>
Option.bind (ldI h x26 x7) fun x27 =>
if x24 = x27 then
some (0 : Int32)
else
some (1 : Int32)
else
some (1 : Int32)) fun x21 =>
Option.bind (bz x21) fun x34 =>
some x34
else
some 0
else none
theorem kd_X1_givenDiffers {h : AH} {a0 : Nat} {a1 : Int32} {a2 : Int32} {a3 : Int32} {r : Int32} (hf : f_X1_givenDiffers h a0 a1 a2 a3 = some r) : aK h a0 = 1 := by
  unfold f_X1_givenDiffers at hf
  exact (ifk hf).1
set_option maxRecDepth 100000 in
set_option maxHeartbeats 4000000 in
theorem c_X1_givenDiffers {l : Launch} {G : GT} {h : AH} {a0 : Nat} {a1 : Int32} {a2 : Int32} {a3 : Int32} {r : Int32} (hf : f_X1_givenDiffers h a0 a1 a2 a3 = some r) : Cn l yX1_givenDiffers cX1_givenDiffers 7 (some .boolean) 2 41 0 0 G h [.ref a0, .int a1, .int a2, .int a3] (.ok (some (.int r))) h := by
  refine Cn.of (by decide) (Nat.le_of_ble_eq_true rfl) ?_
  intro p e s m args below meth c O hr hx hin
  have O : OkC p l s m args meth c G cX1_givenDiffers 7 RX1 := O
  unfold f_X1_givenDiffers at hf
  obtain ⟨hk0, hf⟩ := ifk hf
  refine AW.sub (lv' := [(0, .ref a0), (1, .int a1), (2, .int a2), (3, .int a3)]) [0, 1, 2, 3] rfl ?_
  refine r_iload_n O 1 dX1_givenDiffers_0 rfl ?_
  obtain ⟨x1, ex1, hf⟩ := bnd hf
  refine r_callSN (av := [.int a1]) (st := []) O (c_X8_ownerOf ex1) mf_X8_ownerOf mn_X1_159 ms_X8_ownerOf (by decide) (Nat.le_of_ble_eq_true rfl) (by decide) dX1_givenDiffers_1 ?_
  refine r_istore O [(4, .int x1), (0, .ref a0), (1, .int a1), (2, .int a2), (3, .int a3)] dX1_givenDiffers_4 (by decide) rfl ?_
  refine r_aload_n O 1 dX1_givenDiffers_6 rfl (Or.inl rfl) ?_
  obtain ⟨x3, ex3, hf⟩ := bnd hf
  refine r_gP O cf1 9 (by decide) rfl fl_X1_36 ex3 dX1_givenDiffers_7 ?_
  refine r_iload_n O 2 dX1_givenDiffers_10 rfl ?_
  obtain ⟨x4, ex4, hf⟩ := bnd hf
  refine r_callV (av := [.int a1]) (st := []) O (c_X4_listOf ex4) mf_X4_listOf cf4 (kd_X4_listOf ex4) ml_X1_179 mi_X4_listOf mv_X4_listOf (by decide) (Nat.le_of_ble_eq_true rfl) (by decide) dX1_givenDiffers_11 ?_
  refine r_istore O [(5, .int x4), (4, .int x1), (0, .ref a0), (1, .int a1), (2, .int a2), (3, .int a3)] dX1_givenDiffers_14 (by decide) rfl ?_
  refine r_aload_n O 2 dX1_givenDiffers_16 rfl (Or.inl rfl) ?_
  obtain ⟨x6, ex6, hf⟩ := bnd hf
  refine r_gP O cf1 10 (by decide) rfl fl_X1_40 ex6 dX1_givenDiffers_17 ?_
  refine r_iload_n O 3 dX1_givenDiffers_20 rfl ?_
  obtain ⟨x7, ex7, hf⟩ := bnd hf
  refine r_callV (av := [.int a1]) (st := []) O (c_X4_listOf ex7) mf_X4_listOf cf4 (kd_X4_listOf ex7) ml_X1_179 mi_X4_listOf mv_X4_listOf (by decide) (Nat.le_of_ble_eq_true rfl) (by decide) dX1_givenDiffers_21 ?_
  refine r_istore O [(6, .int x7), (5, .int x4), (4, .int x1), (0, .ref a0), (1, .int a1), (2, .int a2), (3, .int a3)] dX1_givenDiffers_24 (by decide) rfl ?_
  refine r_iload_n O 5 dX1_givenDiffers_26 rfl ?_
  by_cases hc : a2 = 1
  · rw [if_pos hc] at hf
    refine r_table_in (off := 25) (tgt := 52) O dX1_givenDiffers_27 (by (rw [hc]; decide)) (by (rw [hc]; decide)) (by (rw [hc]; rfl)) (by decide) ?_
    refine r_iload_n O 4 dX1_givenDiffers_52 rfl ?_
    obtain ⟨x9, ex9, hf⟩ := bnd hf
    refine r_callSN (av := [.int a1]) (st := []) O (c_X8_isOfThing ex9) mf_X8_isOfThing mn_X1_182 ms_X8_isOfThing (by decide) (Nat.le_of_ble_eq_true rfl) (by decide) dX1_givenDiffers_53 ?_
    obtain ⟨x11, hg, hf⟩ := bnd hf
    have hJ : AW p l e { frames := 2, cells := 0, slots := 0, locals := 41 } s m args below meth c G 7 (vx_MQ below (QcN G (.ok (some (.int r))) h) (XcN G (.ok (some (.int r))) h) args s 0 0 (gA G)) h 0 0 76 [] [.int x11] := by
      obtain ⟨x16, ex16, hf⟩ := bnd hf
      refine r_nmI (bz_eq ex16) ?_
      obtain rfl := Option.some.inj hf
      exact r_zret O hr (bz_or ex16) rfl rfl (by decide) (by decide) dX1_givenDiffers_76
    clear hf
    have hf := hg
    clear hg
    by_cases hc : x9 = 0
    · rw [if_pos hc] at hf
      refine r_if_eq_t (tgt := 69) O dX1_givenDiffers_56 (by decide) hc ?_
      refine r_aload_n O 3 dX1_givenDiffers_69 rfl (Or.inl rfl) ?_
      refine r_iload O 2 dX1_givenDiffers_70 rfl ?_
      refine r_iload_n O 6 dX1_givenDiffers_72 rfl ?_
      obtain ⟨x12, ex12, hf⟩ := bnd hf
      refine r_callV (av := [.int x1, .int a3]) (st := []) O (c_X1_listFactDiffers ex12) mf_X1_listFactDiffers cf1 (kd_X1_listFactDiffers ex12) ml_X1_188 mi_X1_listFactDiffers mv_X1_listFactDiffers (by decide) (Nat.le_of_ble_eq_true rfl) (by decide) dX1_givenDiffers_73 ?_
      obtain rfl := oi1 hf
      refine AW.sub [] rfl ?_
      exact hJ
    · rw [if_neg hc] at hf
      refine r_if_eq_f (tgt := 69) O dX1_givenDiffers_56 (by decide) hc ?_
      refine r_aload_n O 3 dX1_givenDiffers_59 rfl (Or.inl rfl) ?_
      refine r_iload O 2 dX1_givenDiffers_60 rfl ?_
      refine r_iload_n O 6 dX1_givenDiffers_62 rfl ?_
      obtain ⟨x14, ex14, hf⟩ := bnd hf
      refine r_callV (av := [.int x1, .int a3]) (st := []) O (c_X1_factDiffers ex14) mf_X1_factDiffers cf1 (kd_X1_factDiffers ex14) ml_X1_185 mi_X1_factDiffers mv_X1_factDiffers (by decide) (Nat.le_of_ble_eq_true rfl) (by decide) dX1_givenDiffers_63 ?_
      refine r_goto (tgt := 76) O dX1_givenDiffers_66 (by decide) ?_
      obtain rfl := oi1 hf
      refine AW.sub [] rfl ?_
      exact hJ
  · rw [if_neg hc] at hf
    have hn52 := hc
    by_cases hc : a2 = 2
    · rw [if_pos hc] at hf
      refine r_table_in (off := 50) (tgt := 77) O dX1_givenDiffers_27 (by (rw [hc]; decide)) (by (rw [hc]; decide)) (by (rw [hc]; rfl)) (by decide) ?_
      refine r_iload O 1 dX1_givenDiffers_77 rfl ?_
      refine r_iload O 0 dX1_givenDiffers_79 rfl ?_
      obtain ⟨x17, hg, hf⟩ := bnd hf
      have hJ : AW p l e { frames := 2, cells := 0, slots := 0, locals := 41 } s m args below meth c G 7 (vx_MQ below (QcN G (.ok (some (.int r))) h) (XcN G (.ok (some (.int r))) h) args s 0 0 (gA G)) h 0 0 99 [] [.int x17] := by
        obtain ⟨x20, ex20, hf⟩ := bnd hf
        refine r_nmI (bz_eq ex20) ?_
        obtain rfl := Option.some.inj hf
        exact r_zret O hr (bz_or ex20) rfl rfl (by decide) (by decide) dX1_givenDiffers_99
      clear hf
      have hf := hg
      clear hg
      by_cases hc : x4 = x7
      · rw [if_pos hc] at hf
        refine r_icmp_ne_f (tgt := 94) O dX1_givenDiffers_81 (by decide) hc ?_
        refine r_aload_n O 3 dX1_givenDiffers_84 rfl (Or.inl rfl) ?_
        refine r_iload O 0 dX1_givenDiffers_85 rfl ?_
        refine r_iload_n O 6 dX1_givenDiffers_87 rfl ?_
        obtain ⟨x18, ex18, hf⟩ := bnd hf
        refine r_callV (av := [.int x7, .int a3]) (st := []) O (c_X1_listFactDiffers ex18) mf_X1_listFactDiffers cf1 (kd_X1_listFactDiffers ex18) ml_X1_188 mi_X1_listFactDiffers mv_X1_listFactDiffers (by decide) (Nat.le_of_ble_eq_true rfl) (by decide) dX1_givenDiffers_88 ?_
        by_cases hc : x18 = 0
        · rw [if_pos hc] at hf
          refine r_if_eq_t (tgt := 98) O dX1_givenDiffers_91 (by decide) hc ?_
          refine r_iconst O (v := 0) dX1_givenDiffers_98 (by decide) ?_
          obtain rfl := oi1 hf
          refine AW.sub [] rfl ?_
          exact hJ
        · rw [if_neg hc] at hf
          refine r_if_eq_f (tgt := 98) O dX1_givenDiffers_91 (by decide) hc ?_
          refine r_iconst O (v := 1) dX1_givenDiffers_94 (by decide) ?_
          refine r_goto (tgt := 99) O dX1_givenDiffers_95 (by decide) ?_
          obtain rfl := oi1 hf
          refine AW.sub [] rfl ?_
          exact hJ
      · rw [if_neg hc] at hf
        refine r_icmp_ne_t (tgt := 94) O dX1_givenDiffers_81 (by decide) hc ?_
        refine r_iconst O (v := 1) dX1_givenDiffers_94 (by decide) ?_
        refine r_goto (tgt := 99) O dX1_givenDiffers_95 (by decide) ?_
        obtain rfl := oi1 hf
        refine AW.sub [] rfl ?_
        exact hJ
    · rw [if_neg hc] at hf
      have hn77 := hc
      by_cases hc : a2 = 3
      · rw [if_pos hc] at hf
        refine r_table_in (off := 73) (tgt := 100) O dX1_givenDiffers_27 (by (rw [hc]; decide)) (by (rw [hc]; decide)) (by (rw [hc]; rfl)) (by decide) ?_
        refine r_iload O 1 dX1_givenDiffers_100 rfl ?_
        refine r_iload O 0 dX1_givenDiffers_102 rfl ?_
        obtain ⟨x21, hg, hf⟩ := bnd hf
        have hJ : AW p l e { frames := 2, cells := 0, slots := 0, locals := 41 } s m args below meth c G 7 (vx_MQ below (QcN G (.ok (some (.int r))) h) (XcN G (.ok (some (.int r))) h) args s 0 0 (gA G)) h 0 0 165 [] [.int x21] := by
          obtain ⟨x34, ex34, hf⟩ := bnd hf
          refine r_nmI (bz_eq ex34) ?_
          obtain rfl := Option.some.inj hf
          exact r_zret O hr (bz_or ex34) rfl rfl (by decide) (by decide) dX1_givenDiffers_165
        clear hf
        have hf := hg
        clear hg
        by_cases hc : x4 = x7
        · rw [if_pos hc] at hf
          refine r_icmp_ne_f (tgt := 160) O dX1_givenDiffers_104 (by decide) hc ?_
          refine r_iload_n O 6 dX1_givenDiffers_107 rfl ?_
          by_cases hc : a3 = 0
          · rw [if_pos hc] at hf
            refine r_if_ne_f (tgt := 137) O dX1_givenDiffers_108 (by decide) hc ?_
            refine r_aload_n O 3 dX1_givenDiffers_111 rfl (Or.inl rfl) ?_
            obtain ⟨x28, ex28, hf⟩ := bnd hf
            refine r_gP O cf1 9 (by decide) rfl fl_X1_36 ex28 dX1_givenDiffers_112 ?_
            obtain ⟨x29, ex29, hf⟩ := bnd hf
            refine r_gP O cf4 4 (by decide) rfl fl_X1_191 ex29 dX1_givenDiffers_115 ?_
            refine r_iload O 2 dX1_givenDiffers_118 rfl ?_
            obtain ⟨x30, ex30, hf⟩ := bnd hf
            refine r_ldI O ex30 dX1_givenDiffers_120 ?_
            refine r_aload_n O 3 dX1_givenDiffers_121 rfl (Or.inl rfl) ?_
            obtain ⟨x31, ex31, hf⟩ := bnd hf
            refine r_gP O cf1 10 (by decide) rfl fl_X1_40 ex31 dX1_givenDiffers_122 ?_
            obtain ⟨x32, ex32, hf⟩ := bnd hf
            refine r_gP O cf4 4 (by decide) rfl fl_X1_191 ex32 dX1_givenDiffers_125 ?_
            refine r_iload O 2 dX1_givenDiffers_128 rfl ?_
            obtain ⟨x33, ex33, hf⟩ := bnd hf
            refine r_ldI O ex33 dX1_givenDiffers_130 ?_
            by_cases hc : x30 = x33
            · rw [if_pos hc] at hf
              refine r_icmp_eq_t (tgt := 164) O dX1_givenDiffers_131 (by decide) hc ?_
              refine r_iconst O (v := 0) dX1_givenDiffers_164 (by decide) ?_
              obtain rfl := oi1 hf
              refine AW.sub [] rfl ?_
              exact hJ
            · rw [if_neg hc] at hf
              refine r_icmp_eq_f (tgt := 164) O dX1_givenDiffers_131 (by decide) hc ?_
              refine r_goto (tgt := 160) O dX1_givenDiffers_134 (by decide) ?_
              refine r_iconst O (v := 1) dX1_givenDiffers_160 (by decide) ?_
              refine r_goto (tgt := 165) O dX1_givenDiffers_161 (by decide) ?_
              obtain rfl := oi1 hf
              refine AW.sub [] rfl ?_
              exact hJ
          · rw [if_neg hc] at hf
            refine r_if_ne_t (tgt := 137) O dX1_givenDiffers_108 (by decide) hc ?_
            refine r_aload_n O 3 dX1_givenDiffers_137 rfl (Or.inl rfl) ?_
            obtain ⟨x22, ex22, hf⟩ := bnd hf
            refine r_gP O cf1 9 (by decide) rfl fl_X1_36 ex22 dX1_givenDiffers_138 ?_
            obtain ⟨x23, ex23, hf⟩ := bnd hf
            refine r_gP O cf4 6 (by decide) rfl fl_X1_162 ex23 dX1_givenDiffers_141 ?_
            refine r_iload O 0 dX1_givenDiffers_144 rfl ?_
            obtain ⟨x24, ex24, hf⟩ := bnd hf
            refine r_ldI O ex24 dX1_givenDiffers_146 ?_
            refine r_aload_n O 3 dX1_givenDiffers_147 rfl (Or.inl rfl) ?_
            obtain ⟨x25, ex25, hf⟩ := bnd hf
            refine r_gP O cf1 10 (by decide) rfl fl_X1_40 ex25 dX1_givenDiffers_148 ?_
            obtain ⟨x26, ex26, hf⟩ := bnd hf
            refine r_gP O cf4 6 (by decide) rfl fl_X1_162 ex26 dX1_givenDiffers_151 ?_
            refine r_iload O 0 dX1_givenDiffers_154 rfl ?_
            obtain ⟨x27, ex27, hf⟩ := bnd hf
            refine r_ldI O ex27 dX1_givenDiffers_156 ?_
            by_cases hc : x24 = x27
            · rw [if_pos hc] at hf
              refine r_icmp_eq_t (tgt := 164) O dX1_givenDiffers_157 (by decide) hc ?_
              refine r_iconst O (v := 0) dX1_givenDiffers_164 (by decide) ?_
              obtain rfl := oi1 hf
              refine AW.sub [] rfl ?_
              exact hJ
            · rw [if_neg hc] at hf
              refine r_icmp_eq_f (tgt := 164) O dX1_givenDiffers_157 (by decide) hc ?_
              refine r_iconst O (v := 1) dX1_givenDiffers_160 (by decide) ?_
              refine r_goto (tgt := 165) O dX1_givenDiffers_161 (by decide) ?_
              obtain rfl := oi1 hf
              refine AW.sub [] rfl ?_
              exact hJ
        · rw [if_neg hc] at hf
          refine r_icmp_ne_t (tgt := 160) O dX1_givenDiffers_104 (by decide) hc ?_
          refine r_iconst O (v := 1) dX1_givenDiffers_160 (by decide) ?_
          refine r_goto (tgt := 165) O dX1_givenDiffers_161 (by decide) ?_
          obtain rfl := oi1 hf
          refine AW.sub [] rfl ?_
          exact hJ
      · rw [if_neg hc] at hf
        have hn100 := hc
        have hout := tb_out (x := a2) 1 3 (fun j hj => by
          rcases (show j = 0 ∨ j = 1 ∨ j = 2 by omega) with rfl | rfl | rfl
          · exact fun q => hn52 (q.trans (by decide))
          · exact fun q => hn77 (q.trans (by decide))
          · exact fun q => hn100 (q.trans (by decide)))
        refine r_table_out (tgt := 166) O dX1_givenDiffers_27 hout (by decide) ?_
        refine r_iconst O (v := 0) dX1_givenDiffers_166 (by decide) ?_
        obtain rfl := Option.some.inj hf
        exact r_zret O hr (by decide) rfl rfl (by decide) (by decide) dX1_givenDiffers_167
def f_X1_isTouched_39 (l0 : Nat) (l1 : Int32) (l2 : Int32) (n : Nat) (h : AH) (l3 : Int32) : Option (Int32 ⊕ Unit) := match n with
| 0 => none
| n + 1 =>
if l2 ≤ l3 then
some (.inr ())
else
Option.bind (gP h 1 l0 0) fun x11 =>
Option.bind (f_X0_codeOf h x11 l1 l3) fun x12 =>
Option.bind (gP h 1 l0 0) fun x14 =>
Option.bind (f_X0_valueOf h x14 l1 l3) fun x15 =>
Option.bind (f_X8_isOverAll h x12) fun x17 =>
Option.bind (if x17 = 0 then
Option.bind (f_X8_isOverOne h x12) fun x20 =>
if x20 = 0 then
Option.bind (f_X1_givenDiffers h l0 l1 x12 x15) fun x22 =>
some x22
else
Option.bind (f_X1_oneDiffers h l0 l1 x12 x15) fun x24 =>
some x24
else
Option.bind (f_X1_allDiffer h l0 l1 x15) fun x26 =>
some x26) fun x19 =>
if x19 = 0 then
f_X1_isTouched_39 l0 l1 l2 n h (l3 + 1)
else
some (.inl 1)
def f_X1_isTouched (h : AH) (a0 : Nat) (a1 : Int32) : Option Int32 :=
if aK h a0 = 1 then
Option.bind (gP h 1 a0 0) fun x1 =>
Option.bind (gP h 1 a0 9) fun x2 =>
Option.bind (f_X0_isCell h x1 x2 a1) fun x3 =>
if x3 = 0 then
some 1
else
Option.bind (gP h 1 a0 9) fun x5 =>
Option.bind (f_X4_isFrozenCell h x5 a1) fun x6 =>
if x6 = 0 then
Option.bind (gP h 1 a0 0) fun x8 =>
Option.bind (f_X0_stepsOf h x8 a1) fun x9 =>
Option.bind (f_X1_isTouched_39 a0 a1 x9 FU h 0) fun w => match w with
| .inl r9 => some r9
| .inr () =>
some 0
else
some 1
else none
set_option maxRecDepth 100000 in
set_option maxHeartbeats 4000000 in
theorem s_X1_isTouched_39 {p : Program} {l : Launch} {e : Env} {s : State} {m : MethodId} {args : Array Value} {below : List Frame} {meth : Method} {c : Code} {G : GT} {o : Except Nat (Option Value)} {h9 : AH} (O : OkC p l s m args meth c G cX1_isTouched 7 RX1) (hr : meth.sig.returnType = (some .boolean)) {l0 : Nat} {l1 : Int32} {l2 : Int32} {h : AH} {w : (Int32 ⊕ Unit)} (he : ∀ r, w = .inl r → o = (.ok (some (.int r))) ∧ h9 = h) (kk : w = .inr () → AW p l e { frames := 4, cells := 0, slots := 0, locals := 92 } s m args below meth c G 7 (vx_MQ below (QcN G o h9) (XcN G o h9) args s 0 0 (gA G)) h 0 0 128 [] []) : ∀ (n : Nat), ∀ (l3 : Int32), f_X1_isTouched_39 l0 l1 l2 n h l3 = some w → AW p l e { frames := 4, cells := 0, slots := 0, locals := 92 } s m args below meth c G 7 (vx_MQ below (QcN G o h9) (XcN G o h9) args s 0 0 (gA G)) h 0 0 39 [(0, .ref l0), (1, .int l1), (2, .int l2), (3, .int l3)] [] := by
  intro n
  induction n with
  | zero =>
    intro l3 hf
    simp [f_X1_isTouched_39] at hf
  | succ n ih =>
    intro l3 hf
    unfold f_X1_isTouched_39 at hf
    refine r_iload_n O 3 dX1_isTouched_39 rfl ?_
    refine r_iload_n O 2 dX1_isTouched_40 rfl ?_
    by_cases hc : l2 ≤ l3
    · rw [if_pos hc] at hf
      refine r_icmp_ge_t (tgt := 128) O dX1_isTouched_41 (by decide) hc ?_
      obtain rfl := Option.some.inj hf
      refine AW.sub [] rfl ?_
      exact kk  rfl
    · rw [if_neg hc] at hf
      refine r_icmp_ge_f (tgt := 128) O dX1_isTouched_41 (by decide) hc ?_
      refine r_aload_n O 0 dX1_isTouched_44 rfl (Or.inl rfl) ?_
      obtain ⟨x11, ex11, hf⟩ := bnd hf
      refine r_gP O cf1 0 (by decide) rfl fl_X1_32 ex11 dX1_isTouched_45 ?_
      refine r_iload_n O 1 dX1_isTouched_48 rfl ?_
      refine r_iload_n O 3 dX1_isTouched_49 rfl ?_
      obtain ⟨x12, ex12, hf⟩ := bnd hf
      refine r_callV (av := [.int l1, .int l3]) (st := []) O (c_X0_codeOf ex12) mf_X0_codeOf cf0 (kd_X0_codeOf ex12) ml_X1_135 mi_X0_codeOf mv_X0_codeOf (by decide) (Nat.le_of_ble_eq_true rfl) (by decide) dX1_isTouched_50 ?_
      refine r_istore O [(4, .int x12), (0, .ref l0), (1, .int l1), (2, .int l2), (3, .int l3)] dX1_isTouched_53 (by decide) rfl ?_
      refine r_aload_n O 1 dX1_isTouched_55 rfl (Or.inl rfl) ?_
      obtain ⟨x14, ex14, hf⟩ := bnd hf
      refine r_gP O cf1 0 (by decide) rfl fl_X1_32 ex14 dX1_isTouched_56 ?_
      refine r_iload_n O 2 dX1_isTouched_59 rfl ?_
      refine r_iload_n O 4 dX1_isTouched_60 rfl ?_
      obtain ⟨x15, ex15, hf⟩ := bnd hf
      refine r_callV (av := [.int l1, .int l3]) (st := []) O (c_X0_valueOf ex15) mf_X0_valueOf cf0 (kd_X0_valueOf ex15) ml_X1_139 mi_X0_valueOf mv_X0_valueOf (by decide) (Nat.le_of_ble_eq_true rfl) (by decide) dX1_isTouched_61 ?_
      refine r_istore O [(5, .int x15), (4, .int x12), (0, .ref l0), (1, .int l1), (2, .int l2), (3, .int l3)] dX1_isTouched_64 (by decide) rfl ?_
      refine r_iload O 1 dX1_isTouched_66 rfl ?_
      obtain ⟨x17, ex17, hf⟩ := bnd hf
      refine r_callSN (av := [.int x12]) (st := []) O (c_X8_isOverAll ex17) mf_X8_isOverAll mn_X1_142 ms_X8_isOverAll (by decide) (Nat.le_of_ble_eq_true rfl) (by decide) dX1_isTouched_68 ?_
      obtain ⟨x19, hg, hf⟩ := bnd hf
      have hJ : AW p l e { frames := 4, cells := 0, slots := 0, locals := 92 } s m args below meth c G 7 (vx_MQ below (QcN G o h9) (XcN G o h9) args s 0 0 (gA G)) h 0 0 113 [(0, .ref l0), (1, .int l1), (2, .int l2), (3, .int l3)] [.int x19] := by
        refine r_istore O [(6, .int x19), (0, .ref l0), (1, .int l1), (2, .int l2), (3, .int l3)] dX1_isTouched_113 (by decide) rfl ?_
        refine r_iload O 0 dX1_isTouched_115 rfl ?_
        by_cases hc : x19 = 0
        · rw [if_pos hc] at hf
          refine r_if_eq_t (tgt := 122) O dX1_isTouched_117 (by decide) hc ?_
          refine r_iinc O 4 [(3, .int (l3 + 1)), (6, .int x19), (0, .ref l0), (1, .int l1), (2, .int l2)] dX1_isTouched_122 rfl rfl (by decide) rfl ?_
          refine r_goto (tgt := 39) O dX1_isTouched_125 (by decide) ?_
          refine AW.sub [2, 3, 4, 0] rfl ?_
          exact ih _ hf
        · rw [if_neg hc] at hf
          refine r_if_eq_f (tgt := 122) O dX1_isTouched_117 (by decide) hc ?_
          refine r_iconst O (v := 1) dX1_isTouched_120 (by decide) ?_
          obtain rfl := Option.some.inj hf
          obtain ⟨ho, hh⟩ := he _ rfl
          exact r_zret O hr (by decide) ho hh.symm (by decide) (by decide) dX1_isTouched_121
      clear hf
      have hf := hg
      clear hg
      by_cases hc : x17 = 0
      · rw [if_pos hc] at hf
        refine r_if_eq_t (tgt := 84) O dX1_isTouched_71 (by decide) hc ?_
        refine r_iload O 1 dX1_isTouched_84 rfl ?_
        obtain ⟨x20, ex20, hf⟩ := bnd hf
        refine r_callSN (av := [.int x12]) (st := []) O (c_X8_isOverOne ex20) mf_X8_isOverOne mn_X1_149 ms_X8_isOverOne (by decide) (Nat.le_of_ble_eq_true rfl) (by decide) dX1_isTouched_86 ?_
        by_cases hc : x20 = 0
        · rw [if_pos hc] at hf
          refine r_if_eq_t (tgt := 104) O dX1_isTouched_89 (by decide) hc ?_
          refine r_aload_n O 2 dX1_isTouched_104 rfl (Or.inl rfl) ?_
          refine r_iload_n O 3 dX1_isTouched_105 rfl ?_
          refine r_iload O 1 dX1_isTouched_106 rfl ?_
          refine r_iload O 0 dX1_isTouched_108 rfl ?_
          obtain ⟨x22, ex22, hf⟩ := bnd hf
          refine r_callV (av := [.int l1, .int x12, .int x15]) (st := []) O (c_X1_givenDiffers ex22) mf_X1_givenDiffers cf1 (kd_X1_givenDiffers ex22) ml_X1_156 mi_X1_givenDiffers mv_X1_givenDiffers (by decide) (Nat.le_of_ble_eq_true rfl) (by decide) dX1_isTouched_110 ?_
          obtain rfl := oi1 hf
          refine AW.sub [2, 3, 4, 5] rfl ?_
          exact hJ
        · rw [if_neg hc] at hf
          refine r_if_eq_f (tgt := 104) O dX1_isTouched_89 (by decide) hc ?_
          refine r_aload_n O 2 dX1_isTouched_92 rfl (Or.inl rfl) ?_
          refine r_iload_n O 3 dX1_isTouched_93 rfl ?_
          refine r_iload O 1 dX1_isTouched_94 rfl ?_
          refine r_iload O 0 dX1_isTouched_96 rfl ?_
          obtain ⟨x24, ex24, hf⟩ := bnd hf
          refine r_callV (av := [.int l1, .int x12, .int x15]) (st := []) O (c_X1_oneDiffers ex24) mf_X1_oneDiffers cf1 (kd_X1_oneDiffers ex24) ml_X1_152 mi_X1_oneDiffers mv_X1_oneDiffers (by decide) (Nat.le_of_ble_eq_true rfl) (by decide) dX1_isTouched_98 ?_
          refine r_goto (tgt := 113) O dX1_isTouched_101 (by decide) ?_
          obtain rfl := oi1 hf
          refine AW.sub [2, 3, 4, 5] rfl ?_
          exact hJ
      · rw [if_neg hc] at hf
        refine r_if_eq_f (tgt := 84) O dX1_isTouched_71 (by decide) hc ?_
        refine r_aload_n O 2 dX1_isTouched_74 rfl (Or.inl rfl) ?_
        refine r_iload_n O 3 dX1_isTouched_75 rfl ?_
        refine r_iload O 0 dX1_isTouched_76 rfl ?_
        obtain ⟨x26, ex26, hf⟩ := bnd hf
        refine r_callV (av := [.int l1, .int x15]) (st := []) O (c_X1_allDiffer ex26) mf_X1_allDiffer cf1 (kd_X1_allDiffer ex26) ml_X1_145 mi_X1_allDiffer mv_X1_allDiffer (by decide) (Nat.le_of_ble_eq_true rfl) (by decide) dX1_isTouched_78 ?_
        refine r_goto (tgt := 113) O dX1_isTouched_81 (by decide) ?_
        obtain rfl := oi1 hf
        refine AW.sub [2, 3, 4, 5] rfl ?_
        exact hJ
theorem kd_X1_isTouched {h : AH} {a0 : Nat} {a1 : Int32} {r : Int32} (hf : f_X1_isTouched h a0 a1 = some r) : aK h a0 = 1 := by
  unfold f_X1_isTouched at hf
  exact (ifk hf).1
set_option maxRecDepth 100000 in
set_option maxHeartbeats 4000000 in
theorem c_X1_isTouched {l : Launch} {G : GT} {h : AH} {a0 : Nat} {a1 : Int32} {r : Int32} (hf : f_X1_isTouched h a0 a1 = some r) : Cn l yX1_isTouched cX1_isTouched 7 (some .boolean) 4 92 0 0 G h [.ref a0, .int a1] (.ok (some (.int r))) h := by
  refine Cn.of (by decide) (Nat.le_of_ble_eq_true rfl) ?_
  intro p e s m args below meth c O hr hx hin
  have O : OkC p l s m args meth c G cX1_isTouched 7 RX1 := O
  unfold f_X1_isTouched at hf
  obtain ⟨hk0, hf⟩ := ifk hf
  refine AW.sub (lv' := [(0, .ref a0), (1, .int a1)]) [0, 1] rfl ?_
  refine r_aload_n O 0 dX1_isTouched_0 rfl (Or.inl rfl) ?_
  obtain ⟨x1, ex1, hf⟩ := bnd hf
  refine r_gP O cf1 0 (by decide) rfl fl_X1_32 ex1 dX1_isTouched_1 ?_
  refine r_aload_n O 0 dX1_isTouched_4 rfl (Or.inl rfl) ?_
  obtain ⟨x2, ex2, hf⟩ := bnd hf
  refine r_gP O cf1 9 (by decide) rfl fl_X1_36 ex2 dX1_isTouched_5 ?_
  refine r_iload_n O 1 dX1_isTouched_8 rfl ?_
  obtain ⟨x3, ex3, hf⟩ := bnd hf
  refine r_callV (av := [.ref x2, .int a1]) (st := []) O (c_X0_isCell ex3) mf_X0_isCell cf0 (kd_X0_isCell ex3) ml_X1_126 mi_X0_isCell mv_X0_isCell (by decide) (Nat.le_of_ble_eq_true rfl) (by decide) dX1_isTouched_9 ?_
  by_cases hc : x3 = 0
  · rw [if_pos hc] at hf
    refine r_if_eq_t (tgt := 26) O dX1_isTouched_12 (by decide) hc ?_
    refine r_iconst O (v := 1) dX1_isTouched_26 (by decide) ?_
    obtain rfl := Option.some.inj hf
    exact r_zret O hr (by decide) rfl rfl (by decide) (by decide) dX1_isTouched_27
  · rw [if_neg hc] at hf
    refine r_if_eq_f (tgt := 26) O dX1_isTouched_12 (by decide) hc ?_
    refine r_aload_n O 0 dX1_isTouched_15 rfl (Or.inl rfl) ?_
    obtain ⟨x5, ex5, hf⟩ := bnd hf
    refine r_gP O cf1 9 (by decide) rfl fl_X1_36 ex5 dX1_isTouched_16 ?_
    refine r_iload_n O 1 dX1_isTouched_19 rfl ?_
    obtain ⟨x6, ex6, hf⟩ := bnd hf
    refine r_callV (av := [.int a1]) (st := []) O (c_X4_isFrozenCell ex6) mf_X4_isFrozenCell cf4 (kd_X4_isFrozenCell ex6) ml_X1_90 mi_X4_isFrozenCell mv_X4_isFrozenCell (by decide) (Nat.le_of_ble_eq_true rfl) (by decide) dX1_isTouched_20 ?_
    by_cases hc : x6 = 0
    · rw [if_pos hc] at hf
      refine r_if_eq_t (tgt := 28) O dX1_isTouched_23 (by decide) hc ?_
      refine r_aload_n O 0 dX1_isTouched_28 rfl (Or.inl rfl) ?_
      obtain ⟨x8, ex8, hf⟩ := bnd hf
      refine r_gP O cf1 0 (by decide) rfl fl_X1_32 ex8 dX1_isTouched_29 ?_
      refine r_iload_n O 1 dX1_isTouched_32 rfl ?_
      obtain ⟨x9, ex9, hf⟩ := bnd hf
      refine r_callV (av := [.int a1]) (st := []) O (c_X0_stepsOf ex9) mf_X0_stepsOf cf0 (kd_X0_stepsOf ex9) ml_X1_132 mi_X0_stepsOf mv_X0_stepsOf (by decide) (Nat.le_of_ble_eq_true rfl) (by decide) dX1_isTouched_33 ?_
      refine r_istore_n O [(2, .int x9), (0, .ref a0), (1, .int a1)] dX1_isTouched_36 (by decide) rfl ?_
      refine r_iconst O (v := 0) dX1_isTouched_37 (by decide) ?_
      refine r_istore_n O [(3, .int 0), (2, .int x9), (0, .ref a0), (1, .int a1)] dX1_isTouched_38 (by decide) rfl ?_
      obtain ⟨w9, hw, hf⟩ := bnd hf
      refine AW.sub [2, 3, 1, 0] rfl ?_
      refine s_X1_isTouched_39 O hr (w := w9) ?_ ?_ _ _ hw
      · intro r9 hr9
        subst hr9
        dsimp only at hf
        obtain rfl := Option.some.inj hf
        exact ⟨rfl, rfl⟩
      · intro hw9
        subst hw9
        dsimp only at hf
        refine r_iconst O (v := 0) dX1_isTouched_128 (by decide) ?_
        obtain rfl := Option.some.inj hf
        exact r_zret O hr (by decide) rfl rfl (by decide) (by decide) dX1_isTouched_129
    · rw [if_neg hc] at hf
      refine r_if_eq_f (tgt := 28) O dX1_isTouched_23 (by decide) hc ?_
      refine r_iconst O (v := 1) dX1_isTouched_26 (by decide) ?_
      obtain rfl := Option.some.inj hf
      exact r_zret O hr (by decide) rfl rfl (by decide) (by decide) dX1_isTouched_27
