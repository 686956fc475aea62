def f_X7_work_33 (l0 : Nat) (l1 : Int32) (l4 : Int32) (n : Nat) (h : AH) (l5 : Int32) : Option ((Int32 × AH) ⊕ AH) := match n with
| 0 => none
| n + 1 =>
if l4 ≤ l5 then
some (.inr h)
else
Option.bind (pI h 7 l0 4 l5) fun h8 =>
Option.bind (gP h8 7 l0 0) fun x9 =>
Option.bind (f_X0_codeOf h8 x9 l1 l5) fun x10 =>
Option.bind (gP h8 7 l0 0) fun x12 =>
Option.bind (f_X0_valueOf h8 x12 l1 l5) fun x13 =>
Option.bind (f_X8_isOverAll h8 x10) fun x15 =>
Option.bind (if x15 = 0 then
Option.bind (f_X8_isOverOne h8 x10) fun x18 =>
if x18 = 0 then
if 3 < x10 then
Option.bind (f_X7_reckon h8 l0 x10) fun h21 =>
some h21
else
Option.bind (f_X7_given h8 l0 l1 x10 x13) fun x22 =>
Option.bind (f_X7_push h8 l0 x22) fun h25 =>
some h25
else
Option.bind (f_X7_lookAtOne h8 l0 l1 x10 x13) fun h27 =>
some h27
else
Option.bind (gP h8 7 l0 6) fun x28 =>
Option.bind (f_X4_listOf h8 x28 l1) fun x29 =>
Option.bind (f_X7_lookAtAll h8 l0 x29 x10 x13) fun h32 =>
some h32) fun h17 =>
Option.bind (gI h17 7 l0 3) fun x33 =>
if x33 = 0 then
f_X7_work_33 l0 l1 l4 n h17 (l5 + 1)
else
some (.inl (0, h17))
def f_X7_work (h : AH) (a0 : Nat) (a1 : Int32) (a2 : Nat) (a3 : Nat) : Option (Int32 × AH) :=
if aK h a0 = 7 then
Option.bind (pP h 7 a0 6 a2) fun h1 =>
Option.bind (pP h1 7 a0 7 a3) fun h2 =>
Option.bind (pI h2 7 a0 2 0) fun h3 =>
Option.bind (pI h3 7 a0 3 0) fun h4 =>
Option.bind (gP h4 7 a0 0) fun x5 =>
Option.bind (f_X0_stepsOf h4 x5 a1) fun x6 =>
Option.bind (f_X7_work_33 a0 a1 x6 FU h4 0) fun w => match w with
| .inl r9 => some r9
| .inr h34 =>
Option.bind (f_X7_pop h34 a0) fun w => match w with
| (x35, h36) =>
Option.bind (pJ h36 7 a0 5 x35) fun h37 =>
some (1, h37)
else none
set_option maxRecDepth 100000 in
set_option maxHeartbeats 4000000 in
theorem s_X7_work_33 {p : Program} {l : Launch} {e : Env} {s : State} {m : MethodId} {args : Array Value} {below : List Frame} {meth : Method} {c : Code} {G : GT} {o : Except Nat (Option Value)} {h9 : AH} (O : OkC p l s m args meth c G cX7_work 8 RX7) (hr : meth.sig.returnType = (some .boolean)) {l0 : Nat} {l1 : Int32} {l4 : Int32} {w : ((Int32 × AH) ⊕ AH)} (he : ∀ r, w = .inl r → o = (.ok (some (.int r.1))) ∧ h9 = r.2) (kk : ∀ (wh : AH), w = .inr wh → AW p l e { frames := 4, cells := 0, slots := 0, locals := 95 } s m args below meth c G 8 (vx_MQ below (QcN G o h9) (XcN G o h9) args s 0 0 (gA G)) wh 0 0 160 [(0, .ref l0)] []) : ∀ (n : Nat), ∀ (h : AH) (l5 : Int32), f_X7_work_33 l0 l1 l4 n h l5 = some w → AW p l e { frames := 4, cells := 0, slots := 0, locals := 95 } s m args below meth c G 8 (vx_MQ below (QcN G o h9) (XcN G o h9) args s 0 0 (gA G)) h 0 0 33 [(0, .ref l0), (1, .int l1), (4, .int l4), (5, .int l5)] [] := by
  intro n
  induction n with
  | zero =>
    intro h l5 hf
    simp [f_X7_work_33] at hf
  | succ n ih =>
    intro h l5 hf
    unfold f_X7_work_33 at hf
    refine r_iload O 3 dX7_work_33 rfl ?_
    refine r_iload O 2 dX7_work_35 rfl ?_
    by_cases hc : l4 ≤ l5
    · rw [if_pos hc] at hf
      refine r_icmp_ge_t (tgt := 160) O dX7_work_37 (by decide) hc ?_
      obtain rfl := Option.some.inj hf
      refine AW.sub [0] rfl ?_
      exact kk _ rfl
    · rw [if_neg hc] at hf
      refine r_icmp_ge_f (tgt := 160) O dX7_work_37 (by decide) hc ?_
      refine r_aload_n O 0 dX7_work_40 rfl (Or.inl rfl) ?_
      refine r_iload O 3 dX7_work_41 rfl ?_
      obtain ⟨h8, eh8, hf⟩ := bnd hf
      refine r_pI O cf7 4 (by decide) rfl fl_X7_39 rfl eh8 dX7_work_43 ?_
      refine r_aload_n O 0 dX7_work_46 rfl (Or.inl rfl) ?_
      obtain ⟨x9, ex9, hf⟩ := bnd hf
      refine r_gP O cf7 0 (by decide) rfl fl_X7_15 ex9 dX7_work_47 ?_
      refine r_iload_n O 1 dX7_work_50 rfl ?_
      refine r_iload O 3 dX7_work_51 rfl ?_
      obtain ⟨x10, ex10, hf⟩ := bnd hf
      refine r_callV (av := [.int l1, .int l5]) (st := []) O (c_X0_codeOf ex10) mf_X0_codeOf cf0 (kd_X0_codeOf ex10) ml_X7_42 mi_X0_codeOf mv_X0_codeOf (by decide) (Nat.le_of_ble_eq_true rfl) (by decide) dX7_work_53 ?_
      refine r_istore O [(6, .int x10), (0, .ref l0), (1, .int l1), (4, .int l4), (5, .int l5)] dX7_work_56 (by decide) rfl ?_
      refine r_aload_n O 1 dX7_work_58 rfl (Or.inl rfl) ?_
      obtain ⟨x12, ex12, hf⟩ := bnd hf
      refine r_gP O cf7 0 (by decide) rfl fl_X7_15 ex12 dX7_work_59 ?_
      refine r_iload_n O 2 dX7_work_62 rfl ?_
      refine r_iload O 4 dX7_work_63 rfl ?_
      obtain ⟨x13, ex13, hf⟩ := bnd hf
      refine r_callV (av := [.int l1, .int l5]) (st := []) O (c_X0_valueOf ex13) mf_X0_valueOf cf0 (kd_X0_valueOf ex13) ml_X7_46 mi_X0_valueOf mv_X0_valueOf (by decide) (Nat.le_of_ble_eq_true rfl) (by decide) dX7_work_65 ?_
      refine r_istore O [(7, .int x13), (6, .int x10), (0, .ref l0), (1, .int l1), (4, .int l4), (5, .int l5)] dX7_work_68 (by decide) rfl ?_
      refine r_iload O 1 dX7_work_70 rfl ?_
      obtain ⟨x15, ex15, hf⟩ := bnd hf
      refine r_callSN (av := [.int x10]) (st := []) O (c_X8_isOverAll ex15) mf_X8_isOverAll mn_X7_49 ms_X8_isOverAll (by decide) (Nat.le_of_ble_eq_true rfl) (by decide) dX7_work_72 ?_
      obtain ⟨h17, hg, hf⟩ := bnd hf
      have hJ : AW p l e { frames := 4, cells := 0, slots := 0, locals := 95 } s m args below meth c G 8 (vx_MQ below (QcN G o h9) (XcN G o h9) args s 0 0 (gA G)) h17 0 0 145 [(0, .ref l0), (1, .int l1), (4, .int l4), (5, .int l5)] [] := by
        refine r_aload_n O 0 dX7_work_145 rfl (Or.inl rfl) ?_
        obtain ⟨x33, ex33, hf⟩ := bnd hf
        refine r_gI O cf7 3 (by decide) rfl fl_X7_30 ex33 dX7_work_146 ?_
        by_cases hc : x33 = 0
        · rw [if_pos hc] at hf
          refine r_if_eq_t (tgt := 154) O dX7_work_149 (by decide) hc ?_
          refine r_iinc O 3 [(5, .int (l5 + 1)), (0, .ref l0), (1, .int l1), (4, .int l4)] dX7_work_154 rfl rfl (by decide) rfl ?_
          refine r_goto (tgt := 33) O dX7_work_157 (by decide) ?_
          refine AW.sub [1, 2, 3, 0] rfl ?_
          exact ih _ _ hf
        · rw [if_neg hc] at hf
          refine r_if_eq_f (tgt := 154) O dX7_work_149 (by decide) hc ?_
          refine r_iconst O (v := 0) dX7_work_152 (by decide) ?_
          obtain rfl := Option.some.inj hf
          obtain ⟨ho, hh⟩ := he _ rfl
          exact r_zret O hr (by decide) ho hh.symm (by decide) (by decide) dX7_work_153
      clear hf
      have hf := hg
      clear hg
      by_cases hc : x15 = 0
      · rw [if_pos hc] at hf
        refine r_if_eq_t (tgt := 97) O dX7_work_75 (by decide) hc ?_
        refine r_iload O 1 dX7_work_97 rfl ?_
        obtain ⟨x18, ex18, hf⟩ := bnd hf
        refine r_callSN (av := [.int x10]) (st := []) O (c_X8_isOverOne ex18) mf_X8_isOverOne mn_X7_62 ms_X8_isOverOne (by decide) (Nat.le_of_ble_eq_true rfl) (by decide) dX7_work_99 ?_
        by_cases hc : x18 = 0
        · rw [if_pos hc] at hf
          refine r_if_eq_t (tgt := 117) O dX7_work_102 (by decide) hc ?_
          refine r_iload O 1 dX7_work_117 rfl ?_
          refine r_iconst O (v := 3) dX7_work_119 (by decide) ?_
          by_cases hc : 3 < x10
          · rw [if_pos hc] at hf
            refine r_icmp_gt_t (tgt := 139) O dX7_work_120 (by decide) hc ?_
            refine r_aload_n O 2 dX7_work_139 rfl (Or.inl rfl) ?_
            refine r_iload O 1 dX7_work_140 rfl ?_
            obtain ⟨h21, eh21, hf⟩ := bnd hf
            refine r_callV (av := [.int x10]) (st := []) O (c_X7_reckon eh21) mf_X7_reckon cf7 (kd_X7_reckon eh21) ml_X7_76 mi_X7_reckon mv_X7_reckon (by decide) (Nat.le_of_ble_eq_true rfl) (by decide) dX7_work_142 ?_
            obtain rfl := oi1 hf
            refine AW.sub [2, 3, 4, 5] rfl ?_
            exact hJ
          · rw [if_neg hc] at hf
            refine r_icmp_gt_f (tgt := 139) O dX7_work_120 (by decide) hc ?_
            refine r_aload_n O 2 dX7_work_123 rfl (Or.inl rfl) ?_
            refine r_aload_n O 2 dX7_work_124 rfl (Or.inl rfl) ?_
            refine r_iload_n O 3 dX7_work_125 rfl ?_
            refine r_iload O 1 dX7_work_126 rfl ?_
            refine r_iload O 0 dX7_work_128 rfl ?_
            obtain ⟨x22, ex22, hf⟩ := bnd hf
            refine r_callV (av := [.int l1, .int x10, .int x13]) (st := [.ref l0]) O (c_X7_given ex22) mf_X7_given cf7 (kd_X7_given ex22) ml_X7_68 mi_X7_given mv_X7_given (by decide) (Nat.le_of_ble_eq_true rfl) (by decide) dX7_work_130 ?_
            obtain ⟨h25, eh25, hf⟩ := bnd hf
            refine r_callV (av := [.long x22]) (st := []) O (c_X7_push eh25) mf_X7_push cf7 (kd_X7_push eh25) ml_X7_72 mi_X7_push mv_X7_push (by decide) (Nat.le_of_ble_eq_true rfl) (by decide) dX7_work_133 ?_
            refine r_goto (tgt := 145) O dX7_work_136 (by decide) ?_
            obtain rfl := oi1 hf
            refine AW.sub [2, 3, 4, 5] rfl ?_
            exact hJ
        · rw [if_neg hc] at hf
          refine r_if_eq_f (tgt := 117) O dX7_work_102 (by decide) hc ?_
          refine r_aload_n O 2 dX7_work_105 rfl (Or.inl rfl) ?_
          refine r_iload_n O 3 dX7_work_106 rfl ?_
          refine r_iload O 1 dX7_work_107 rfl ?_
          refine r_iload O 0 dX7_work_109 rfl ?_
          obtain ⟨h27, eh27, hf⟩ := bnd hf
          refine r_callV (av := [.int l1, .int x10, .int x13]) (st := []) O (c_X7_lookAtOne eh27) mf_X7_lookAtOne cf7 (kd_X7_lookAtOne eh27) ml_X7_65 mi_X7_lookAtOne mv_X7_lookAtOne (by decide) (Nat.le_of_ble_eq_true rfl) (by decide) dX7_work_111 ?_
          refine r_goto (tgt := 145) O dX7_work_114 (by decide) ?_
          obtain rfl := oi1 hf
          refine AW.sub [2, 3, 4, 5] rfl ?_
          exact hJ
      · rw [if_neg hc] at hf
        refine r_if_eq_f (tgt := 97) O dX7_work_75 (by decide) hc ?_
        refine r_aload_n O 2 dX7_work_78 rfl (Or.inl rfl) ?_
        refine r_aload_n O 2 dX7_work_79 rfl (Or.inl rfl) ?_
        obtain ⟨x28, ex28, hf⟩ := bnd hf
        refine r_gP O cf7 6 (by decide) rfl fl_X7_19 ex28 dX7_work_80 ?_
        refine r_iload_n O 3 dX7_work_83 rfl ?_
        obtain ⟨x29, ex29, hf⟩ := bnd hf
        refine r_callV (av := [.int l1]) (st := [.ref l0]) O (c_X4_listOf ex29) mf_X4_listOf cf4 (kd_X4_listOf ex29) ml_X7_53 mi_X4_listOf mv_X4_listOf (by decide) (Nat.le_of_ble_eq_true rfl) (by decide) dX7_work_84 ?_
        refine r_iload O 1 dX7_work_87 rfl ?_
        refine r_iload O 0 dX7_work_89 rfl ?_
        obtain ⟨h32, eh32, hf⟩ := bnd hf
        refine r_callV (av := [.int x29, .int x10, .int x13]) (st := []) O (c_X7_lookAtAll eh32) mf_X7_lookAtAll cf7 (kd_X7_lookAtAll eh32) ml_X7_58 mi_X7_lookAtAll mv_X7_lookAtAll (by decide) (Nat.le_of_ble_eq_true rfl) (by decide) dX7_work_91 ?_
        refine r_goto (tgt := 145) O dX7_work_94 (by decide) ?_
        obtain rfl := oi1 hf
        refine AW.sub [2, 3, 4, 5] rfl ?_
        exact hJ
theorem kd_X7_work {h : AH} {a0 : Nat} {a1 : Int32} {a2 : Nat} {a3 : Nat} {r : (Int32 × AH)} (hf : f_X7_work h a0 a1 a2 a3 = some r) : aK h a0 = 7 := by
  unfold f_X7_work at hf
  exact (ifk hf).1
set_option maxRecDepth 100000 in
set_option maxHeartbeats 4000000 in
theorem c_X7_work {l : Launch} {G : GT} {h : AH} {a0 : Nat} {a1 : Int32} {a2 : Nat} {a3 : Nat} {r : (Int32 × AH)} (hf : f_X7_work h a0 a1 a2 a3 = some r) : Cn l yX7_work cX7_work 8 (some .boolean) 4 95 0 0 G h [.ref a0, .int a1, .ref a2, .ref a3] (.ok (some (.int r.1))) r.2 := by
  refine Cn.of (by decide) (Nat.le_of_ble_eq_true rfl) ?_
  intro p e s m args below meth c O hr hx hin
  have O : OkC p l s m args meth c G cX7_work 8 RX7 := O
  unfold f_X7_work at hf
  obtain ⟨hk0, hf⟩ := ifk hf
  refine AW.sub (lv' := [(0, .ref a0), (1, .int a1), (2, .ref a2), (3, .ref a3)]) [0, 1, 2, 3] rfl ?_
  refine r_aload_n O 0 dX7_work_0 rfl (Or.inl rfl) ?_
  refine r_aload_n O 2 dX7_work_1 rfl (Or.inl rfl) ?_
  obtain ⟨h1, eh1, hf⟩ := bnd hf
  refine r_pP O cf7 6 (by decide) rfl fl_X7_19 rfl eh1 dX7_work_2 ?_
  refine r_aload_n O 0 dX7_work_5 rfl (Or.inl rfl) ?_
  refine r_aload_n O 3 dX7_work_6 rfl (Or.inl rfl) ?_
  obtain ⟨h2, eh2, hf⟩ := bnd hf
  refine r_pP O cf7 7 (by decide) rfl fl_X7_23 rfl eh2 dX7_work_7 ?_
  refine r_aload_n O 0 dX7_work_10 rfl (Or.inl rfl) ?_
  refine r_iconst O (v := 0) dX7_work_11 (by decide) ?_
  obtain ⟨h3, eh3, hf⟩ := bnd hf
  refine r_pI O cf7 2 (by decide) rfl fl_X7_26 rfl eh3 dX7_work_12 ?_
  refine r_aload_n O 0 dX7_work_15 rfl (Or.inl rfl) ?_
  refine r_iconst O (v := 0) dX7_work_16 (by decide) ?_
  obtain ⟨h4, eh4, hf⟩ := bnd hf
  refine r_pI O cf7 3 (by decide) rfl fl_X7_30 rfl eh4 dX7_work_17 ?_
  refine r_aload_n O 0 dX7_work_20 rfl (Or.inl rfl) ?_
  obtain ⟨x5, ex5, hf⟩ := bnd hf
  refine r_gP O cf7 0 (by decide) rfl fl_X7_15 ex5 dX7_work_21 ?_
  refine r_iload_n O 1 dX7_work_24 rfl ?_
  obtain ⟨x6, ex6, hf⟩ := bnd hf
  refine r_callV (av := [.int a1]) (st := []) O (c_X0_stepsOf ex6) mf_X0_stepsOf cf0 (kd_X0_stepsOf ex6) ml_X7_33 mi_X0_stepsOf mv_X0_stepsOf (by decide) (Nat.le_of_ble_eq_true rfl) (by decide) dX7_work_25 ?_
  refine r_istore O [(4, .int x6), (0, .ref a0), (1, .int a1), (2, .ref a2), (3, .ref a3)] dX7_work_28 (by decide) rfl ?_
  refine r_iconst O (v := 0) dX7_work_30 (by decide) ?_
  refine r_istore O [(5, .int 0), (4, .int x6), (0, .ref a0), (1, .int a1), (2, .ref a2), (3, .ref a3)] dX7_work_31 (by decide) rfl ?_
  obtain ⟨w9, hw, hf⟩ := bnd hf
  refine AW.sub [2, 3, 1, 0] rfl ?_
  refine s_X7_work_33 O hr (w := w9) ?_ ?_ _ _ _ hw
  · intro r9 hr9
    subst hr9
    dsimp only at hf
    obtain rfl := Option.some.inj hf
    exact ⟨rfl, rfl⟩
  · intro h34 hw9
    subst hw9
    dsimp only at hf
    refine r_aload_n O 0 dX7_work_160 rfl (Or.inl rfl) ?_
    refine r_aload_n O 0 dX7_work_161 rfl (Or.inl rfl) ?_
    obtain ⟨⟨x35, h36⟩, ex35, hf⟩ := bnd hf
    dsimp only at hf
    refine r_callV (av := []) (st := [.ref a0]) O (c_X7_pop ex35) mf_X7_pop cf7 (kd_X7_pop ex35) ml_X7_80 mi_X7_pop mv_X7_pop (by decide) (Nat.le_of_ble_eq_true rfl) (by decide) dX7_work_162 ?_
    obtain ⟨h37, eh37, hf⟩ := bnd hf
    refine r_pJ O cf7 5 (by decide) rfl fl_X7_84 rfl eh37 dX7_work_165 ?_
    refine r_iconst O (v := 1) dX7_work_168 (by decide) ?_
    obtain rfl := Option.some.inj hf
    exact r_zret O hr (by decide) rfl rfl (by decide) (by decide) dX7_work_169
def f_X1_fails (h : AH) (a0 : Nat) (a1 : Int32) : Option AH :=
if aK h a0 = 1 then
Option.bind (pI h 1 a0 5 2) fun h1 =>
Option.bind (pI h1 1 a0 6 a1) fun h2 =>
Option.bind (gP h2 1 a0 2) fun x3 =>
Option.bind (gI h2 7 x3 3) fun x4 =>
Option.bind (pI h2 1 a0 7 x4) fun h5 =>
Option.bind (gP h5 1 a0 2) fun x6 =>
Option.bind (gI h5 7 x6 4) fun x7 =>
Option.bind (pI h5 1 a0 8 x7) fun h8 =>
some h8
else none
theorem kd_X1_fails {h : AH} {a0 : Nat} {a1 : Int32} {r : AH} (hf : f_X1_fails h a0 a1 = some r) : aK h a0 = 1 := by
  unfold f_X1_fails at hf
  exact (ifk hf).1
set_option maxRecDepth 100000 in
set_option maxHeartbeats 4000000 in
theorem c_X1_fails {l : Launch} {G : GT} {h : AH} {a0 : Nat} {a1 : Int32} {r : AH} (hf : f_X1_fails h a0 a1 = some r) : Cn l yX1_fails cX1_fails 2 none 0 0 0 0 G h [.ref a0, .int a1] (.ok none) r := by
  refine Cn.of (by decide) (Nat.le_of_ble_eq_true rfl) ?_
  intro p e s m args below meth c O hr hx hin
  have O : OkC p l s m args meth c G cX1_fails 2 RX1 := O
  unfold f_X1_fails at hf
  obtain ⟨hk0, hf⟩ := ifk hf
  refine AW.sub (lv' := [(0, .ref a0), (1, .int a1)]) [0, 1] rfl ?_
  refine r_aload_n O 0 dX1_fails_0 rfl (Or.inl rfl) ?_
  refine r_iconst O (v := 2) dX1_fails_1 (by decide) ?_
  obtain ⟨h1, eh1, hf⟩ := bnd hf
  refine r_pI O cf1 5 (by decide) rfl fl_X1_74 rfl eh1 dX1_fails_2 ?_
  refine r_aload_n O 0 dX1_fails_5 rfl (Or.inl rfl) ?_
  refine r_iload_n O 1 dX1_fails_6 rfl ?_
  obtain ⟨h2, eh2, hf⟩ := bnd hf
  refine r_pI O cf1 6 (by decide) rfl fl_X1_22 rfl eh2 dX1_fails_7 ?_
  refine r_aload_n O 0 dX1_fails_10 rfl (Or.inl rfl) ?_
  refine r_aload_n O 0 dX1_fails_11 rfl (Or.inl rfl) ?_
  obtain ⟨x3, ex3, hf⟩ := bnd hf
  refine r_gP O cf1 2 (by decide) rfl fl_X1_60 ex3 dX1_fails_12 ?_
  obtain ⟨x4, ex4, hf⟩ := bnd hf
  refine r_gI O cf7 3 (by decide) rfl fl_X1_120 ex4 dX1_fails_15 ?_
  obtain ⟨h5, eh5, hf⟩ := bnd hf
  refine r_pI O cf1 7 (by decide) rfl fl_X1_26 rfl eh5 dX1_fails_18 ?_
  refine r_aload_n O 0 dX1_fails_21 rfl (Or.inl rfl) ?_
  refine r_aload_n O 0 dX1_fails_22 rfl (Or.inl rfl) ?_
  obtain ⟨x6, ex6, hf⟩ := bnd hf
  refine r_gP O cf1 2 (by decide) rfl fl_X1_60 ex6 dX1_fails_23 ?_
  obtain ⟨x7, ex7, hf⟩ := bnd hf
  refine r_gI O cf7 4 (by decide) rfl fl_X1_123 ex7 dX1_fails_26 ?_
  obtain ⟨h8, eh8, hf⟩ := bnd hf
  refine r_pI O cf1 8 (by decide) rfl fl_X1_29 rfl eh8 dX1_fails_29 ?_
  obtain rfl := Option.some.inj hf
  exact r_vret O hr rfl rfl (by decide) (by decide) dX1_fails_32
def f_X1_weigh_63 (l0 : Nat) (l4 : Int32) (l5 : Nat) (n : Nat) (h : AH) (l6 : Int32) : Option ((Int32 × AH) ⊕ AH) := match n with
| 0 => none
| n + 1 =>
Option.bind (gI h 6 l5 1) fun x14 =>
if x14 ≤ l6 then
some (.inr h)
else
Option.bind (f_X6_get h l5 l6) fun x15 =>
Option.bind (gP h 1 l0 10) fun x17 =>
Option.bind (f_X4_isFrozenCell h x17 x15) fun x18 =>
if x18 = 0 then
if l4 = 0 then
Option.bind (f_X1_isTouched h l0 x15) fun x34 =>
if x34 = 0 then
f_X1_weigh_63 l0 l4 l5 n h (l6 + 1)
else
Option.bind (gP h 1 l0 2) fun x36 =>
Option.bind (gP h 1 l0 10) fun x37 =>
Option.bind (gP h 1 l0 4) fun x38 =>
Option.bind (f_X7_work h x36 x15 x37 x38) fun w => match w with
| (x39, h40) =>
if x39 = 0 then
Option.bind (f_X1_fails h40 l0 x15) fun h49 =>
some (.inl ((-2), h49))
else
Option.bind (gP h40 1 l0 4) fun x41 =>
Option.bind (gP h40 1 l0 2) fun x42 =>
Option.bind (gJ h40 7 x42 5) fun x43 =>
Option.bind (stJ h40 x41 x15 x43) fun h44 =>
Option.bind (gP h44 1 l0 3) fun x45 =>
Option.bind (f_X6_add h44 x45 x15) fun h47 =>
f_X1_weigh_63 l0 l4 l5 n h47 (l6 + 1)
else
Option.bind (gP h 1 l0 2) fun x20 =>
Option.bind (gP h 1 l0 10) fun x21 =>
Option.bind (gP h 1 l0 4) fun x22 =>
Option.bind (f_X7_work h x20 x15 x21 x22) fun w => match w with
| (x23, h24) =>
if x23 = 0 then
Option.bind (f_X1_fails h24 l0 x15) fun h33 =>
some (.inl ((-2), h33))
else
Option.bind (gP h24 1 l0 4) fun x25 =>
Option.bind (gP h24 1 l0 2) fun x26 =>
Option.bind (gJ h24 7 x26 5) fun x27 =>
Option.bind (stJ h24 x25 x15 x27) fun h28 =>
Option.bind (gP h28 1 l0 3) fun x29 =>
Option.bind (f_X6_add h28 x29 x15) fun h31 =>
f_X1_weigh_63 l0 l4 l5 n h31 (l6 + 1)
else
f_X1_weigh_63 l0 l4 l5 n h (l6 + 1)
def f_X1_weigh (h : AH) (a0 : Nat) (a1 : Nat) (a2 : Nat) (a3 : Nat) (a4 : Int32) : Option (Int32 × AH) :=
if aK h a0 = 1 then
Option.bind (pP h 1 a0 9 a1) fun h1 =>
Option.bind (pP h1 1 a0 10 a2) fun h2 =>
Option.bind (pP h2 1 a0 11 a3) fun h3 =>
Option.bind (f_X1_forget h3 a0) fun h5 =>
Option.bind (gP h5 1 a0 1) fun x6 =>
Option.bind (gP h5 1 a0 10) fun x7 =>
Option.bind (f_X5_arrange h5 x6 x7) fun w => match w with
| (x8, h9) =>
if x8 = 0 then
Option.bind (gP h9 1 a0 1) fun x53 =>
Option.bind (f_X5_findRing h9 x53) fun h55 =>
Option.bind (pI h55 1 a0 5 1) fun h56 =>
some ((-1), h56)
else
Option.bind (f_X1_startFresh h9 a0) fun h11 =>
Option.bind (gP h11 1 a0 1) fun x12 =>
Option.bind (gP h11 5 x12 9) fun x13 =>
Option.bind (f_X1_weigh_63 a0 a4 x13 FU h11 0) fun w => match w with
| .inl r9 => some r9
| .inr h50 =>
Option.bind (gP h50 1 a0 3) fun x51 =>
Option.bind (gI h50 6 x51 1) fun x52 =>
some (x52, h50)
else none
set_option maxRecDepth 100000 in
set_option maxHeartbeats 4000000 in
theorem s_X1_weigh_63 {p : Program} {l : Launch} {e : Env} {s : State} {m : MethodId} {args : Array Value} {below : List Frame} {meth : Method} {c : Code} {G : GT} {o : Except Nat (Option Value)} {h9 : AH} (O : OkC p l s m args meth c G cX1_weigh 8 RX1) (hr : meth.sig.returnType = (some .int)) {l0 : Nat} {l4 : Int32} {l5 : Nat} {w : ((Int32 × AH) ⊕ AH)} (he : ∀ r, w = .inl r → o = (.ok (some (.int r.1))) ∧ h9 = r.2) (kk : ∀ (wh : AH), w = .inr wh → AW p l e { frames := 5, cells := 0, slots := 0, locals := 122 } s m args below meth c G 8 (vx_MQ below (QcN G o h9) (XcN G o h9) args s 0 0 (gA G)) wh 0 0 169 [(0, .ref l0)] []) : ∀ (n : Nat), ∀ (h : AH) (l6 : Int32), f_X1_weigh_63 l0 l4 l5 n h l6 = some w → AW p l e { frames := 5, cells := 0, slots := 0, locals := 122 } s m args below meth c G 8 (vx_MQ below (QcN G o h9) (XcN G o h9) args s 0 0 (gA G)) h 0 0 63 [(0, .ref l0), (4, .int l4), (5, .ref l5), (6, .int l6)] [] := by
  intro n
  induction n with
  | zero =>
    intro h l6 hf
    simp [f_X1_weigh_63] at hf
  | succ n ih =>
    intro h l6 hf
    unfold f_X1_weigh_63 at hf
    refine r_iload O 3 dX1_weigh_63 rfl ?_
    refine r_aload O 2 dX1_weigh_65 rfl (Or.inl rfl) ?_
    obtain ⟨x14, ex14, hf⟩ := bnd hf
    refine r_gI O cf6 1 (by decide) rfl fl_X1_83 ex14 dX1_weigh_67 ?_
    by_cases hc : x14 ≤ l6
    · rw [if_pos hc] at hf
      refine r_icmp_ge_t (tgt := 169) O dX1_weigh_70 (by decide) hc ?_
      obtain rfl := Option.some.inj hf
      refine AW.sub [0] rfl ?_
      exact kk _ rfl
    · rw [if_neg hc] at hf
      refine r_icmp_ge_f (tgt := 169) O dX1_weigh_70 (by decide) hc ?_
      refine r_aload O 2 dX1_weigh_73 rfl (Or.inl rfl) ?_
      refine r_iload O 3 dX1_weigh_75 rfl ?_
      obtain ⟨x15, ex15, hf⟩ := bnd hf
      refine r_callV (av := [.int l6]) (st := []) O (c_X6_get ex15) mf_X6_get cf6 (kd_X6_get ex15) ml_X1_86 mi_X6_get mv_X6_get (by decide) (Nat.le_of_ble_eq_true rfl) (by decide) dX1_weigh_77 ?_
      refine r_istore O [(7, .int x15), (0, .ref l0), (4, .int l4), (5, .ref l5), (6, .int l6)] dX1_weigh_80 (by decide) rfl ?_
      refine r_aload_n O 1 dX1_weigh_82 rfl (Or.inl rfl) ?_
      obtain ⟨x17, ex17, hf⟩ := bnd hf
      refine r_gP O cf1 10 (by decide) rfl fl_X1_40 ex17 dX1_weigh_83 ?_
      refine r_iload O 0 dX1_weigh_86 rfl ?_
      obtain ⟨x18, ex18, hf⟩ := bnd hf
      refine r_callV (av := [.int x15]) (st := []) O (c_X4_isFrozenCell ex18) mf_X4_isFrozenCell cf4 (kd_X4_isFrozenCell ex18) ml_X1_90 mi_X4_isFrozenCell mv_X4_isFrozenCell (by decide) (Nat.le_of_ble_eq_true rfl) (by decide) dX1_weigh_88 ?_
      by_cases hc : x18 = 0
      · rw [if_pos hc] at hf
        refine r_if_ne_f (tgt := 163) O dX1_weigh_91 (by decide) hc ?_
        refine r_iload O 2 dX1_weigh_94 rfl ?_
        by_cases hc : l4 = 0
        · rw [if_pos hc] at hf
          refine r_if_ne_f (tgt := 111) O dX1_weigh_96 (by decide) hc ?_
          refine r_aload_n O 1 dX1_weigh_99 rfl (Or.inl rfl) ?_
          refine r_iload O 0 dX1_weigh_100 rfl ?_
          obtain ⟨x34, ex34, hf⟩ := bnd hf
          refine r_callV (av := [.int x15]) (st := []) O (c_X1_isTouched ex34) mf_X1_isTouched cf1 (kd_X1_isTouched ex34) ml_X1_96 mi_X1_isTouched mv_X1_isTouched (by decide) (Nat.le_of_ble_eq_true rfl) (by decide) dX1_weigh_102 ?_
          by_cases hc : x34 = 0
          · rw [if_pos hc] at hf
            refine r_if_ne_f (tgt := 111) O dX1_weigh_105 (by decide) hc ?_
            refine r_goto (tgt := 163) O dX1_weigh_108 (by decide) ?_
            refine r_iinc O 4 [(6, .int (l6 + 1)), (7, .int x15), (0, .ref l0), (4, .int l4), (5, .ref l5)] dX1_weigh_163 rfl rfl (by decide) rfl ?_
            refine r_goto (tgt := 63) O dX1_weigh_166 (by decide) ?_
            refine AW.sub [2, 3, 4, 0] rfl ?_
            exact ih _ _ hf
          · rw [if_neg hc] at hf
            refine r_if_ne_t (tgt := 111) O dX1_weigh_105 (by decide) hc ?_
            refine r_aload_n O 1 dX1_weigh_111 rfl (Or.inl rfl) ?_
            obtain ⟨x36, ex36, hf⟩ := bnd hf
            refine r_gP O cf1 2 (by decide) rfl fl_X1_60 ex36 dX1_weigh_112 ?_
            refine r_iload O 0 dX1_weigh_115 rfl ?_
            refine r_aload_n O 1 dX1_weigh_117 rfl (Or.inl rfl) ?_
            obtain ⟨x37, ex37, hf⟩ := bnd hf
            refine r_gP O cf1 10 (by decide) rfl fl_X1_40 ex37 dX1_weigh_118 ?_
            refine r_aload_n O 1 dX1_weigh_121 rfl (Or.inl rfl) ?_
            obtain ⟨x38, ex38, hf⟩ := bnd hf
            refine r_gP O cf1 4 (by decide) rfl fl_X1_18 ex38 dX1_weigh_122 ?_
            obtain ⟨⟨x39, h40⟩, ex39, hf⟩ := bnd hf
            dsimp only at hf
            refine r_callV (av := [.int x15, .ref x37, .ref x38]) (st := []) O (c_X7_work ex39) mf_X7_work cf7 (kd_X7_work ex39) ml_X1_99 mi_X7_work mv_X7_work (by decide) (Nat.le_of_ble_eq_true rfl) (by decide) dX1_weigh_125 ?_
            by_cases hc : x39 = 0
            · rw [if_pos hc] at hf
              refine r_if_ne_f (tgt := 140) O dX1_weigh_128 (by decide) hc ?_
              refine r_aload_n O 1 dX1_weigh_131 rfl (Or.inl rfl) ?_
              refine r_iload O 0 dX1_weigh_132 rfl ?_
              obtain ⟨h49, eh49, hf⟩ := bnd hf
              refine r_callV (av := [.int x15]) (st := []) O (c_X1_fails eh49) mf_X1_fails cf1 (kd_X1_fails eh49) ml_X1_103 mi_X1_fails mv_X1_fails (by decide) (Nat.le_of_ble_eq_true rfl) (by decide) dX1_weigh_134 ?_
              refine r_bipush O (v := -2) dX1_weigh_137 (by decide) ?_
              obtain rfl := Option.some.inj hf
              obtain ⟨ho, hh⟩ := he _ rfl
              exact r_iret O hr ho hh.symm (by decide) (by decide) dX1_weigh_139
            · rw [if_neg hc] at hf
              refine r_if_ne_t (tgt := 140) O dX1_weigh_128 (by decide) hc ?_
              refine r_aload_n O 1 dX1_weigh_140 rfl (Or.inl rfl) ?_
              obtain ⟨x41, ex41, hf⟩ := bnd hf
              refine r_gP O cf1 4 (by decide) rfl fl_X1_18 ex41 dX1_weigh_141 ?_
              refine r_iload O 0 dX1_weigh_144 rfl ?_
              refine r_aload_n O 1 dX1_weigh_146 rfl (Or.inl rfl) ?_
              obtain ⟨x42, ex42, hf⟩ := bnd hf
              refine r_gP O cf1 2 (by decide) rfl fl_X1_60 ex42 dX1_weigh_147 ?_
              obtain ⟨x43, ex43, hf⟩ := bnd hf
              refine r_gJ O cf7 5 (by decide) rfl fl_X1_107 ex43 dX1_weigh_150 ?_
              obtain ⟨h44, eh44, hf⟩ := bnd hf
              refine r_stJ O eh44 dX1_weigh_153 ?_
              refine r_aload_n O 1 dX1_weigh_154 rfl (Or.inl rfl) ?_
              obtain ⟨x45, ex45, hf⟩ := bnd hf
              refine r_gP O cf1 3 (by decide) rfl fl_X1_12 ex45 dX1_weigh_155 ?_
              refine r_iload O 0 dX1_weigh_158 rfl ?_
              obtain ⟨h47, eh47, hf⟩ := bnd hf
              refine r_callV (av := [.int x15]) (st := []) O (c_X6_add eh47) mf_X6_add cf6 (kd_X6_add eh47) ml_X1_111 mi_X6_add mv_X6_add (by decide) (Nat.le_of_ble_eq_true rfl) (by decide) dX1_weigh_160 ?_
              refine r_iinc O 4 [(6, .int (l6 + 1)), (7, .int x15), (0, .ref l0), (4, .int l4), (5, .ref l5)] dX1_weigh_163 rfl rfl (by decide) rfl ?_
              refine r_goto (tgt := 63) O dX1_weigh_166 (by decide) ?_
              refine AW.sub [2, 3, 4, 0] rfl ?_
              exact ih _ _ hf
        · rw [if_neg hc] at hf
          refine r_if_ne_t (tgt := 111) O dX1_weigh_96 (by decide) hc ?_
          refine r_aload_n O 1 dX1_weigh_111 rfl (Or.inl rfl) ?_
          obtain ⟨x20, ex20, hf⟩ := bnd hf
          refine r_gP O cf1 2 (by decide) rfl fl_X1_60 ex20 dX1_weigh_112 ?_
          refine r_iload O 0 dX1_weigh_115 rfl ?_
          refine r_aload_n O 1 dX1_weigh_117 rfl (Or.inl rfl) ?_
          obtain ⟨x21, ex21, hf⟩ := bnd hf
          refine r_gP O cf1 10 (by decide) rfl fl_X1_40 ex21 dX1_weigh_118 ?_
          refine r_aload_n O 1 dX1_weigh_121 rfl (Or.inl rfl) ?_
          obtain ⟨x22, ex22, hf⟩ := bnd hf
          refine r_gP O cf1 4 (by decide) rfl fl_X1_18 ex22 dX1_weigh_122 ?_
          obtain ⟨⟨x23, h24⟩, ex23, hf⟩ := bnd hf
          dsimp only at hf
          refine r_callV (av := [.int x15, .ref x21, .ref x22]) (st := []) O (c_X7_work ex23) mf_X7_work cf7 (kd_X7_work ex23) ml_X1_99 mi_X7_work mv_X7_work (by decide) (Nat.le_of_ble_eq_true rfl) (by decide) dX1_weigh_125 ?_
          by_cases hc : x23 = 0
          · rw [if_pos hc] at hf
            refine r_if_ne_f (tgt := 140) O dX1_weigh_128 (by decide) hc ?_
            refine r_aload_n O 1 dX1_weigh_131 rfl (Or.inl rfl) ?_
            refine r_iload O 0 dX1_weigh_132 rfl ?_
            obtain ⟨h33, eh33, hf⟩ := bnd hf
            refine r_callV (av := [.int x15]) (st := []) O (c_X1_fails eh33) mf_X1_fails cf1 (kd_X1_fails eh33) ml_X1_103 mi_X1_fails mv_X1_fails (by decide) (Nat.le_of_ble_eq_true rfl) (by decide) dX1_weigh_134 ?_
            refine r_bipush O (v := -2) dX1_weigh_137 (by decide) ?_
            obtain rfl := Option.some.inj hf
            obtain ⟨ho, hh⟩ := he _ rfl
            exact r_iret O hr ho hh.symm (by decide) (by decide) dX1_weigh_139
          · rw [if_neg hc] at hf
            refine r_if_ne_t (tgt := 140) O dX1_weigh_128 (by decide) hc ?_
            refine r_aload_n O 1 dX1_weigh_140 rfl (Or.inl rfl) ?_
            obtain ⟨x25, ex25, hf⟩ := bnd hf
            refine r_gP O cf1 4 (by decide) rfl fl_X1_18 ex25 dX1_weigh_141 ?_
            refine r_iload O 0 dX1_weigh_144 rfl ?_
            refine r_aload_n O 1 dX1_weigh_146 rfl (Or.inl rfl) ?_
            obtain ⟨x26, ex26, hf⟩ := bnd hf
            refine r_gP O cf1 2 (by decide) rfl fl_X1_60 ex26 dX1_weigh_147 ?_
            obtain ⟨x27, ex27, hf⟩ := bnd hf
            refine r_gJ O cf7 5 (by decide) rfl fl_X1_107 ex27 dX1_weigh_150 ?_
            obtain ⟨h28, eh28, hf⟩ := bnd hf
            refine r_stJ O eh28 dX1_weigh_153 ?_
            refine r_aload_n O 1 dX1_weigh_154 rfl (Or.inl rfl) ?_
            obtain ⟨x29, ex29, hf⟩ := bnd hf
            refine r_gP O cf1 3 (by decide) rfl fl_X1_12 ex29 dX1_weigh_155 ?_
            refine r_iload O 0 dX1_weigh_158 rfl ?_
            obtain ⟨h31, eh31, hf⟩ := bnd hf
            refine r_callV (av := [.int x15]) (st := []) O (c_X6_add eh31) mf_X6_add cf6 (kd_X6_add eh31) ml_X1_111 mi_X6_add mv_X6_add (by decide) (Nat.le_of_ble_eq_true rfl) (by decide) dX1_weigh_160 ?_
            refine r_iinc O 4 [(6, .int (l6 + 1)), (7, .int x15), (0, .ref l0), (4, .int l4), (5, .ref l5)] dX1_weigh_163 rfl rfl (by decide) rfl ?_
            refine r_goto (tgt := 63) O dX1_weigh_166 (by decide) ?_
            refine AW.sub [2, 3, 4, 0] rfl ?_
            exact ih _ _ hf
      · rw [if_neg hc] at hf
        refine r_if_ne_t (tgt := 163) O dX1_weigh_91 (by decide) hc ?_
        refine r_iinc O 4 [(6, .int (l6 + 1)), (7, .int x15), (0, .ref l0), (4, .int l4), (5, .ref l5)] dX1_weigh_163 rfl rfl (by decide) rfl ?_
        refine r_goto (tgt := 63) O dX1_weigh_166 (by decide) ?_
        refine AW.sub [2, 3, 4, 0] rfl ?_
        exact ih _ _ hf
theorem kd_X1_weigh {h : AH} {a0 : Nat} {a1 : Nat} {a2 : Nat} {a3 : Nat} {a4 : Int32} {r : (Int32 × AH)} (hf : f_X1_weigh h a0 a1 a2 a3 a4 = some r) : aK h a0 = 1 := by
  unfold f_X1_weigh at hf
  exact (ifk hf).1
set_option maxRecDepth 100000 in
set_option maxHeartbeats 4000000 in
theorem c_X1_weigh {l : Launch} {G : GT} {h : AH} {a0 : Nat} {a1 : Nat} {a2 : Nat} {a3 : Nat} {a4 : Int32} {r : (Int32 × AH)} (hf : f_X1_weigh h a0 a1 a2 a3 a4 = some r) : Cn l yX1_weigh cX1_weigh 8 (some .int) 5 122 0 0 G h [.ref a0, .ref a1, .ref a2, .ref a3, .int a4] (.ok (some (.int r.1))) r.2 := by
  refine Cn.of (by decide) (Nat.le_of_ble_eq_true rfl) ?_
  intro p e s m args below meth c O hr hx hin
  have O : OkC p l s m args meth c G cX1_weigh 8 RX1 := O
  unfold f_X1_weigh at hf
  obtain ⟨hk0, hf⟩ := ifk hf
  refine AW.sub (lv' := [(0, .ref a0), (1, .ref a1), (2, .ref a2), (3, .ref a3), (4, .int a4)]) [0, 1, 2, 3, 4] rfl ?_
  refine r_aload_n O 0 dX1_weigh_0 rfl (Or.inl rfl) ?_
  refine r_aload_n O 1 dX1_weigh_1 rfl (Or.inl rfl) ?_
  obtain ⟨h1, eh1, hf⟩ := bnd hf
  refine r_pP O cf1 9 (by decide) rfl fl_X1_36 rfl eh1 dX1_weigh_2 ?_
  refine r_aload_n O 0 dX1_weigh_5 rfl (Or.inl rfl) ?_
  refine r_aload_n O 2 dX1_weigh_6 rfl (Or.inl rfl) ?_
  obtain ⟨h2, eh2, hf⟩ := bnd hf
  refine r_pP O cf1 10 (by decide) rfl fl_X1_40 rfl eh2 dX1_weigh_7 ?_
  refine r_aload_n O 0 dX1_weigh_10 rfl (Or.inl rfl) ?_
  refine r_aload_n O 3 dX1_weigh_11 rfl (Or.inl rfl) ?_
  obtain ⟨h3, eh3, hf⟩ := bnd hf
  refine r_pP O cf1 11 (by decide) rfl fl_X1_43 rfl eh3 dX1_weigh_12 ?_
  refine r_aload_n O 0 dX1_weigh_15 rfl (Or.inl rfl) ?_
  obtain ⟨h5, eh5, hf⟩ := bnd hf
  refine r_callV (av := []) (st := []) O (c_X1_forget eh5) mf_X1_forget cf1 (kd_X1_forget eh5) ml_X1_64 mi_X1_forget mv_X1_forget (by decide) (Nat.le_of_ble_eq_true rfl) (by decide) dX1_weigh_16 ?_
  refine r_aload_n O 0 dX1_weigh_19 rfl (Or.inl rfl) ?_
  obtain ⟨x6, ex6, hf⟩ := bnd hf
  refine r_gP O cf1 1 (by decide) rfl fl_X1_51 ex6 dX1_weigh_20 ?_
  refine r_aload_n O 0 dX1_weigh_23 rfl (Or.inl rfl) ?_
  obtain ⟨x7, ex7, hf⟩ := bnd hf
  refine r_gP O cf1 10 (by decide) rfl fl_X1_40 ex7 dX1_weigh_24 ?_
  obtain ⟨⟨x8, h9⟩, ex8, hf⟩ := bnd hf
  dsimp only at hf
  refine r_callV (av := [.ref x7]) (st := []) O (c_X5_arrange ex8) mf_X5_arrange cf5 (kd_X5_arrange ex8) ml_X1_67 mi_X5_arrange mv_X5_arrange (by decide) (Nat.le_of_ble_eq_true rfl) (by decide) dX1_weigh_27 ?_
  by_cases hc : x8 = 0
  · rw [if_pos hc] at hf
    refine r_if_ne_f (tgt := 47) O dX1_weigh_30 (by decide) hc ?_
    refine r_aload_n O 0 dX1_weigh_33 rfl (Or.inl rfl) ?_
    obtain ⟨x53, ex53, hf⟩ := bnd hf
    refine r_gP O cf1 1 (by decide) rfl fl_X1_51 ex53 dX1_weigh_34 ?_
    obtain ⟨h55, eh55, hf⟩ := bnd hf
    refine r_callV (av := []) (st := []) O (c_X5_findRing eh55) mf_X5_findRing cf5 (kd_X5_findRing eh55) ml_X1_71 mi_X5_findRing mv_X5_findRing (by decide) (Nat.le_of_ble_eq_true rfl) (by decide) dX1_weigh_37 ?_
    refine r_aload_n O 0 dX1_weigh_40 rfl (Or.inl rfl) ?_
    refine r_iconst O (v := 1) dX1_weigh_41 (by decide) ?_
    obtain ⟨h56, eh56, hf⟩ := bnd hf
    refine r_pI O cf1 5 (by decide) rfl fl_X1_74 rfl eh56 dX1_weigh_42 ?_
    refine r_iconst O (v := -1) dX1_weigh_45 (by decide) ?_
    obtain rfl := Option.some.inj hf
    exact r_iret O hr rfl rfl (by decide) (by decide) dX1_weigh_46
  · rw [if_neg hc] at hf
    refine r_if_ne_t (tgt := 47) O dX1_weigh_30 (by decide) hc ?_
    refine r_aload_n O 0 dX1_weigh_47 rfl (Or.inl rfl) ?_
    obtain ⟨h11, eh11, hf⟩ := bnd hf
    refine r_callV (av := []) (st := []) O (c_X1_startFresh eh11) mf_X1_startFresh cf1 (kd_X1_startFresh eh11) ml_X1_77 mi_X1_startFresh mv_X1_startFresh (by decide) (Nat.le_of_ble_eq_true rfl) (by decide) dX1_weigh_48 ?_
    refine r_aload_n O 0 dX1_weigh_51 rfl (Or.inl rfl) ?_
    obtain ⟨x12, ex12, hf⟩ := bnd hf
    refine r_gP O cf1 1 (by decide) rfl fl_X1_51 ex12 dX1_weigh_52 ?_
    obtain ⟨x13, ex13, hf⟩ := bnd hf
    refine r_gP O cf5 9 (by decide) rfl fl_X1_80 ex13 dX1_weigh_55 ?_
    refine r_astore O [(5, .ref x13), (0, .ref a0), (1, .ref a1), (2, .ref a2), (3, .ref a3), (4, .int a4)] dX1_weigh_58 rfl (by decide) rfl ?_
    refine r_iconst O (v := 0) dX1_weigh_60 (by decide) ?_
    refine r_istore O [(6, .int 0), (5, .ref x13), (0, .ref a0), (1, .ref a1), (2, .ref a2), (3, .ref a3), (4, .int a4)] dX1_weigh_61 (by decide) rfl ?_
    obtain ⟨w9, hw, hf⟩ := bnd hf
    refine AW.sub [2, 6, 1, 0] rfl ?_
    refine s_X1_weigh_63 O hr (w := w9) ?_ ?_ _ _ _ hw
    · intro r9 hr9
      subst hr9
      dsimp only at hf
      obtain rfl := Option.some.inj hf
      exact ⟨rfl, rfl⟩
    · intro h50 hw9
      subst hw9
      dsimp only at hf
      refine r_aload_n O 0 dX1_weigh_169 rfl (Or.inl rfl) ?_
      obtain ⟨x51, ex51, hf⟩ := bnd hf
      refine r_gP O cf1 3 (by decide) rfl fl_X1_12 ex51 dX1_weigh_170 ?_
      obtain ⟨x52, ex52, hf⟩ := bnd hf
      refine r_gI O cf6 1 (by decide) rfl fl_X1_83 ex52 dX1_weigh_173 ?_
      obtain rfl := Option.some.inj hf
      exact r_iret O hr rfl rfl (by decide) (by decide) dX1_weigh_176
def f_X6_copyFrom (h : AH) (a0 : Nat) (a1 : Nat) : Option AH :=
if aK h a0 = 6 then
Option.bind (gP h 6 a1 0) fun x1 =>
Option.bind (gP h 6 a0 0) fun x2 =>
Option.bind (gI h 6 a1 1) fun x3 =>
Option.bind (cpI h x1 0 x2 0 x3) fun h4 =>
Option.bind (gI h4 6 a1 1) fun x5 =>
Option.bind (pI h4 6 a0 1 x5) fun h6 =>
some h6
else none
theorem kd_X6_copyFrom {h : AH} {a0 : Nat} {a1 : Nat} {r : AH} (hf : f_X6_copyFrom h a0 a1 = some r) : aK h a0 = 6 := by
  unfold f_X6_copyFrom at hf
  exact (ifk hf).1
set_option maxRecDepth 100000 in
set_option maxHeartbeats 4000000 in
theorem c_X6_copyFrom {l : Launch} {G : GT} {h : AH} {a0 : Nat} {a1 : Nat} {r : AH} (hf : f_X6_copyFrom h a0 a1 = some r) : Cn l yX6_copyFrom cX6_copyFrom 2 none 1 48 0 0 G h [.ref a0, .ref a1] (.ok none) r := by
  refine Cn.of (by decide) (Nat.le_of_ble_eq_true rfl) ?_
  intro p e s m args below meth c O hr hx hin
  have O : OkC p l s m args meth c G cX6_copyFrom 2 RX6 := O
  unfold f_X6_copyFrom at hf
  obtain ⟨hk0, hf⟩ := ifk hf
  refine AW.sub (lv' := [(0, .ref a0), (1, .ref a1)]) [0, 1] rfl ?_
  refine r_aload_n O 1 dX6_copyFrom_0 rfl (Or.inl rfl) ?_
  obtain ⟨x1, ex1, hf⟩ := bnd hf
  refine r_gP O cf6 0 (by decide) rfl fl_X6_9 ex1 dX6_copyFrom_1 ?_
  refine r_iconst O (v := 0) dX6_copyFrom_4 (by decide) ?_
  refine r_aload_n O 0 dX6_copyFrom_5 rfl (Or.inl rfl) ?_
  obtain ⟨x2, ex2, hf⟩ := bnd hf
  refine r_gP O cf6 0 (by decide) rfl fl_X6_9 ex2 dX6_copyFrom_6 ?_
  refine r_iconst O (v := 0) dX6_copyFrom_9 (by decide) ?_
  refine r_aload_n O 1 dX6_copyFrom_10 rfl (Or.inl rfl) ?_
  obtain ⟨x3, ex3, hf⟩ := bnd hf
  refine r_gI O cf6 1 (by decide) rfl fl_X6_15 ex3 dX6_copyFrom_11 ?_
  obtain ⟨h4, eh4, hf⟩ := bnd hf
  refine r_cpI O eh4 ml_X6_19 (by decide) (Nat.le_of_ble_eq_true rfl) dX6_copyFrom_14 ?_
  refine r_aload_n O 0 dX6_copyFrom_17 rfl (Or.inl rfl) ?_
  refine r_aload_n O 1 dX6_copyFrom_18 rfl (Or.inl rfl) ?_
  obtain ⟨x5, ex5, hf⟩ := bnd hf
  refine r_gI O cf6 1 (by decide) rfl fl_X6_15 ex5 dX6_copyFrom_19 ?_
  obtain ⟨h6, eh6, hf⟩ := bnd hf
  refine r_pI O cf6 1 (by decide) rfl fl_X6_15 rfl eh6 dX6_copyFrom_22 ?_
  obtain rfl := Option.some.inj hf
  exact r_vret O hr rfl rfl (by decide) (by decide) dX6_copyFrom_25
def f_X8_accept (h : AH) (a0 : Nat) : Option AH :=
if aK h a0 = 8 then
Option.bind (gP h 8 a0 6) fun x1 =>
Option.bind (gP h 1 x1 4) fun x2 =>
Option.bind (gP h 8 a0 3) fun x3 =>
Option.bind (cpJ h x2 0 x3 0 258) fun h4 =>
Option.bind (gP h4 8 a0 4) fun x5 =>
Option.bind (gP h4 8 a0 6) fun x6 =>
Option.bind (gP h4 1 x6 1) fun x7 =>
Option.bind (gP h4 5 x7 9) fun x8 =>
Option.bind (f_X6_copyFrom h4 x5 x8) fun h10 =>
Option.bind (gP h10 8 a0 5) fun x11 =>
Option.bind (gP h10 8 a0 6) fun x12 =>
Option.bind (gP h10 1 x12 3) fun x13 =>
Option.bind (f_X6_copyFrom h10 x11 x13) fun h15 =>
Option.bind (gI h15 8 a0 11) fun x16 =>
Option.bind (gP h15 8 a0 5) fun x17 =>
Option.bind (gI h15 6 x17 1) fun x18 =>
Option.bind (pI h15 8 a0 11 (x16 + x18)) fun h19 =>
some h19
else none
theorem kd_X8_accept {h : AH} {a0 : Nat} {r : AH} (hf : f_X8_accept h a0 = some r) : aK h a0 = 8 := by
  unfold f_X8_accept at hf
  exact (ifk hf).1
set_option maxRecDepth 100000 in
set_option maxHeartbeats 4000000 in
theorem c_X8_accept {l : Launch} {G : GT} {h : AH} {a0 : Nat} {r : AH} (hf : f_X8_accept h a0 = some r) : Cn l yX8_accept cX8_accept 1 none 2 69 0 0 G h [.ref a0] (.ok none) r := by
  refine Cn.of (by decide) (Nat.le_of_ble_eq_true rfl) ?_
  intro p e s m args below meth c O hr hx hin
  have O : OkC p l s m args meth c G cX8_accept 1 RX8 := O
  unfold f_X8_accept at hf
  obtain ⟨hk0, hf⟩ := ifk hf
  refine AW.sub (lv' := [(0, .ref a0)]) [0] rfl ?_
  refine r_aload_n O 0 dX8_accept_0 rfl (Or.inl rfl) ?_
  obtain ⟨x1, ex1, hf⟩ := bnd hf
  refine r_gP O cf8 6 (by decide) rfl fl_X8_45 ex1 dX8_accept_1 ?_
  obtain ⟨x2, ex2, hf⟩ := bnd hf
  refine r_gP O cf1 4 (by decide) rfl fl_X8_290 ex2 dX8_accept_4 ?_
  refine r_iconst O (v := 0) dX8_accept_7 (by decide) ?_
  refine r_aload_n O 0 dX8_accept_8 rfl (Or.inl rfl) ?_
  obtain ⟨x3, ex3, hf⟩ := bnd hf
  refine r_gP O cf8 3 (by decide) rfl fl_X8_26 ex3 dX8_accept_9 ?_
  refine r_iconst O (v := 0) dX8_accept_12 (by decide) ?_
  refine r_sipush O (v := 258) dX8_accept_13 (by decide) ?_
  obtain ⟨h4, eh4, hf⟩ := bnd hf
  refine r_cpJ O eh4 ml_X8_198 (by decide) (Nat.le_of_ble_eq_true rfl) dX8_accept_16 ?_
  refine r_aload_n O 0 dX8_accept_19 rfl (Or.inl rfl) ?_
  obtain ⟨x5, ex5, hf⟩ := bnd hf
  refine r_gP O cf8 4 (by decide) rfl fl_X8_33 ex5 dX8_accept_20 ?_
  refine r_aload_n O 0 dX8_accept_23 rfl (Or.inl rfl) ?_
  obtain ⟨x6, ex6, hf⟩ := bnd hf
  refine r_gP O cf8 6 (by decide) rfl fl_X8_45 ex6 dX8_accept_24 ?_
  obtain ⟨x7, ex7, hf⟩ := bnd hf
  refine r_gP O cf1 1 (by decide) rfl fl_X8_204 ex7 dX8_accept_27 ?_
  obtain ⟨x8, ex8, hf⟩ := bnd hf
  refine r_gP O cf5 9 (by decide) rfl fl_X8_214 ex8 dX8_accept_30 ?_
  obtain ⟨h10, eh10, hf⟩ := bnd hf
  refine r_callV (av := [.ref x8]) (st := []) O (c_X6_copyFrom eh10) mf_X6_copyFrom cf6 (kd_X6_copyFrom eh10) ml_X8_215 mi_X6_copyFrom mv_X6_copyFrom (by decide) (Nat.le_of_ble_eq_true rfl) (by decide) dX8_accept_33 ?_
  refine r_aload_n O 0 dX8_accept_36 rfl (Or.inl rfl) ?_
  obtain ⟨x11, ex11, hf⟩ := bnd hf
  refine r_gP O cf8 5 (by decide) rfl fl_X8_37 ex11 dX8_accept_37 ?_
  refine r_aload_n O 0 dX8_accept_40 rfl (Or.inl rfl) ?_
  obtain ⟨x12, ex12, hf⟩ := bnd hf
  refine r_gP O cf8 6 (by decide) rfl fl_X8_45 ex12 dX8_accept_41 ?_
  obtain ⟨x13, ex13, hf⟩ := bnd hf
  refine r_gP O cf1 3 (by decide) rfl fl_X8_293 ex13 dX8_accept_44 ?_
  obtain ⟨h15, eh15, hf⟩ := bnd hf
  refine r_callV (av := [.ref x13]) (st := []) O (c_X6_copyFrom eh15) mf_X6_copyFrom cf6 (kd_X6_copyFrom eh15) ml_X8_215 mi_X6_copyFrom mv_X6_copyFrom (by decide) (Nat.le_of_ble_eq_true rfl) (by decide) dX8_accept_47 ?_
  refine r_aload_n O 0 dX8_accept_50 rfl (Or.inl rfl) ?_
  refine r_dup O dX8_accept_51 rfl ?_
  obtain ⟨x16, ex16, hf⟩ := bnd hf
  refine r_gI O cf8 11 (by decide) rfl fl_X8_261 ex16 dX8_accept_52 ?_
  refine r_aload_n O 0 dX8_accept_55 rfl (Or.inl rfl) ?_
  obtain ⟨x17, ex17, hf⟩ := bnd hf
  refine r_gP O cf8 5 (by decide) rfl fl_X8_37 ex17 dX8_accept_56 ?_
  obtain ⟨x18, ex18, hf⟩ := bnd hf
  refine r_gI O cf6 1 (by decide) rfl fl_X8_257 ex18 dX8_accept_59 ?_
  refine r_iadd O dX8_accept_62 ?_
  obtain ⟨h19, eh19, hf⟩ := bnd hf
  refine r_pI O cf8 11 (by decide) rfl fl_X8_261 rfl eh19 dX8_accept_63 ?_
  obtain rfl := Option.some.inj hf
  exact r_vret O hr rfl rfl (by decide) (by decide) dX8_accept_66
def f_X8_open (h : AH) (a0 : Nat) : Option (Except Nat Int32 × AH) :=
if aK h a0 = 8 then
Option.bind (f_X8_needOpenBook h a0) fun w => match w with
| (.error k9, h2) => some (.error k9, h2)
| (.ok x1, h2) =>
Option.bind (gP h2 8 a0 6) fun x3 =>
Option.bind (gP h2 8 a0 2) fun x4 =>
Option.bind (gP h2 8 a0 1) fun x5 =>
Option.bind (gP h2 8 a0 3) fun x6 =>
Option.bind (f_X1_weigh h2 x3 x4 x5 x6 1) fun w => match w with
| (x7, h8) =>
if 0 ≤ x7 then
Option.bind (pZ h8 8 a0 8 1) fun h9 =>
Option.bind (f_X8_accept h9 a0) fun h11 =>
some (.ok x7, h11)
else
Option.bind (gI h8 8 a0 12) fun x12 =>
Option.bind (pI h8 8 a0 12 (x12 + 1)) fun h13 =>
some (.ok x7, h13)
else none
theorem kd_X8_open {h : AH} {a0 : Nat} {r : (Except Nat Int32 × AH)} (hf : f_X8_open h a0 = some r) : aK h a0 = 8 := by
  unfold f_X8_open at hf
  exact (ifk hf).1
set_option maxRecDepth 100000 in
set_option maxHeartbeats 4000000 in
theorem c_X8_open {l : Launch} {G : GT} {h : AH} {a0 : Nat} {r : (Except Nat Int32 × AH)} (hf : f_X8_open h a0 = some r) : Cn l yX8_open cX8_open 2 (some .int) 7 149 1 6 G h [.ref a0] (r.1.map (fun x => some (.int x))) r.2 := by
  refine Cn.of (by decide) (Nat.le_of_ble_eq_true rfl) ?_
  intro p e s m args below meth c O hr hx hin
  have O : OkC p l s m args meth c G cX8_open 2 RX8 := O
  unfold f_X8_open at hf
  obtain ⟨hk0, hf⟩ := ifk hf
  refine AW.sub (lv' := [(0, .ref a0)]) [0] rfl ?_
  refine r_aload_n O 0 dX8_open_0 rfl (Or.inl rfl) ?_
  obtain ⟨⟨w, h2⟩, ex1, hf⟩ := bnd hf
  cases w with
  | error k9 =>
    dsimp only at hf
    obtain rfl := Option.some.inj hf
    exact r_thrV (av := []) (st := []) O hx (c_X8_needOpenBook ex1) mf_X8_needOpenBook cf8 (kd_X8_needOpenBook ex1) ml_X8_56 mi_X8_needOpenBook mv_X8_needOpenBook (by decide) (Nat.le_of_ble_eq_true rfl) (by decide) (by decide) (by decide) dX8_open_1
  | ok x1 =>
    dsimp only at hf
    refine r_callV (av := []) (st := []) O (c_X8_needOpenBook ex1) mf_X8_needOpenBook cf8 (kd_X8_needOpenBook ex1) ml_X8_56 mi_X8_needOpenBook mv_X8_needOpenBook (by decide) (Nat.le_of_ble_eq_true rfl) (by decide) dX8_open_1 ?_
    refine r_aload_n O 0 dX8_open_4 rfl (Or.inl rfl) ?_
    obtain ⟨x3, ex3, hf⟩ := bnd hf
    refine r_gP O cf8 6 (by decide) rfl fl_X8_45 ex3 dX8_open_5 ?_
    refine r_aload_n O 0 dX8_open_8 rfl (Or.inl rfl) ?_
    obtain ⟨x4, ex4, hf⟩ := bnd hf
    refine r_gP O cf8 2 (by decide) rfl fl_X8_23 ex4 dX8_open_9 ?_
    refine r_aload_n O 0 dX8_open_12 rfl (Or.inl rfl) ?_
    obtain ⟨x5, ex5, hf⟩ := bnd hf
    refine r_gP O cf8 1 (by decide) rfl fl_X8_19 ex5 dX8_open_13 ?_
    refine r_aload_n O 0 dX8_open_16 rfl (Or.inl rfl) ?_
    obtain ⟨x6, ex6, hf⟩ := bnd hf
    refine r_gP O cf8 3 (by decide) rfl fl_X8_26 ex6 dX8_open_17 ?_
    refine r_iconst O (v := 1) dX8_open_20 (by decide) ?_
    obtain ⟨⟨x7, h8⟩, ex7, hf⟩ := bnd hf
    dsimp only at hf
    refine r_callV (av := [.ref x4, .ref x5, .ref x6, .int 1]) (st := []) O (c_X1_weigh ex7) mf_X1_weigh cf1 (kd_X1_weigh ex7) ml_X8_100 mi_X1_weigh mv_X1_weigh (by decide) (Nat.le_of_ble_eq_true rfl) (by decide) dX8_open_21 ?_
    refine r_istore_n O [(1, .int x7), (0, .ref a0)] dX8_open_24 (by decide) rfl ?_
    refine r_iload_n O 0 dX8_open_25 rfl ?_
    by_cases hc : 0 ≤ x7
    · rw [if_pos hc] at hf
      refine r_if_ge_t (tgt := 41) O dX8_open_26 (by decide) hc ?_
      refine r_aload_n O 1 dX8_open_41 rfl (Or.inl rfl) ?_
      refine r_iconst O (v := 1) dX8_open_42 (by decide) ?_
      obtain ⟨h9, eh9, hf⟩ := bnd hf
      refine r_pZ O cf8 8 (by decide) rfl fl_X8_107 rfl eh9 dX8_open_43 ?_
      refine r_aload_n O 1 dX8_open_46 rfl (Or.inl rfl) ?_
      obtain ⟨h11, eh11, hf⟩ := bnd hf
      refine r_callV (av := []) (st := []) O (c_X8_accept eh11) mf_X8_accept cf8 (kd_X8_accept eh11) ml_X8_111 mi_X8_accept mv_X8_accept (by decide) (Nat.le_of_ble_eq_true rfl) (by decide) dX8_open_47 ?_
      refine r_iload_n O 0 dX8_open_50 rfl ?_
      obtain rfl := Option.some.inj hf
      exact r_iret O hr rfl rfl (by decide) (by decide) dX8_open_51
    · rw [if_neg hc] at hf
      refine r_if_ge_f (tgt := 41) O dX8_open_26 (by decide) hc ?_
      refine r_aload_n O 1 dX8_open_29 rfl (Or.inl rfl) ?_
      refine r_dup O dX8_open_30 rfl ?_
      obtain ⟨x12, ex12, hf⟩ := bnd hf
      refine r_gI O cf8 12 (by decide) rfl fl_X8_104 ex12 dX8_open_31 ?_
      refine r_iconst O (v := 1) dX8_open_34 (by decide) ?_
      refine r_iadd O dX8_open_35 ?_
      obtain ⟨h13, eh13, hf⟩ := bnd hf
      refine r_pI O cf8 12 (by decide) rfl fl_X8_104 rfl eh13 dX8_open_36 ?_
      refine r_iload_n O 0 dX8_open_39 rfl ?_
      obtain rfl := Option.some.inj hf
      exact r_iret O hr rfl rfl (by decide) (by decide) dX8_open_40
def f_X8_needThing (h : AH) (a0 : Nat) (a1 : Int32) : Option (Except Nat Unit × AH) :=
if aK h a0 = 8 then
if a1 < 0 then
some (.error 2, nx h)
else
Option.bind (gP h 8 a0 0) fun x1 =>
Option.bind (gI h 0 x1 6) fun x2 =>
if a1 < x2 then
some (.ok (), h)
else
some (.error 2, nx h)
else none
theorem kd_X8_needThing {h : AH} {a0 : Nat} {a1 : Int32} {r : (Except Nat Unit × AH)} (hf : f_X8_needThing h a0 a1 = some r) : aK h a0 = 8 := by
  unfold f_X8_needThing at hf
  exact (ifk hf).1
set_option maxRecDepth 100000 in
set_option maxHeartbeats 4000000 in
theorem c_X8_needThing {l : Launch} {G : GT} {h : AH} {a0 : Nat} {a1 : Int32} {r : (Except Nat Unit × AH)} (hf : f_X8_needThing h a0 a1 = some r) : Cn l yX8_needThing cX8_needThing 2 none 6 90 1 6 G h [.ref a0, .int a1] (r.1.map (fun x => none)) r.2 := by
  refine Cn.of (by decide) (Nat.le_of_ble_eq_true rfl) ?_
  intro p e s m args below meth c O hr hx hin
  have O : OkC p l s m args meth c G cX8_needThing 2 RX8 := O
  unfold f_X8_needThing at hf
  obtain ⟨hk0, hf⟩ := ifk hf
  refine AW.sub (lv' := [(0, .ref a0), (1, .int a1)]) [0, 1] rfl ?_
  refine r_iload_n O 1 dX8_needThing_0 rfl ?_
  by_cases hc : a1 < 0
  · rw [if_pos hc] at hf
    refine r_if_lt_t (tgt := 15) O dX8_needThing_1 (by decide) hc ?_
    obtain rfl := Option.some.inj hf
    exact r_throwW 2 O hx kl_X8_274 xa_X8_274_278 st_X8_276 (by decide) (by decide) (Nat.le_of_ble_eq_true rfl) (by decide) (by decide) (by decide) dX8_needThing_15 dX8_needThing_18 dX8_needThing_19 dX8_needThing_22 dX8_needThing_25
  · rw [if_neg hc] at hf
    refine r_if_lt_f (tgt := 15) O dX8_needThing_1 (by decide) hc ?_
    refine r_iload_n O 1 dX8_needThing_4 rfl ?_
    refine r_aload_n O 0 dX8_needThing_5 rfl (Or.inl rfl) ?_
    obtain ⟨x1, ex1, hf⟩ := bnd hf
    refine r_gP O cf8 0 (by decide) rfl fl_X8_10 ex1 dX8_needThing_6 ?_
    obtain ⟨x2, ex2, hf⟩ := bnd hf
    refine r_gI O cf0 6 (by decide) rfl fl_X8_59 ex2 dX8_needThing_9 ?_
    by_cases hc : a1 < x2
    · rw [if_pos hc] at hf
      refine r_icmp_lt_t (tgt := 26) O dX8_needThing_12 (by decide) hc ?_
      obtain rfl := Option.some.inj hf
      exact r_vret O hr rfl rfl (by decide) (by decide) dX8_needThing_26
    · rw [if_neg hc] at hf
      refine r_icmp_lt_f (tgt := 26) O dX8_needThing_12 (by decide) hc ?_
      obtain rfl := Option.some.inj hf
      exact r_throwW 2 O hx kl_X8_274 xa_X8_274_278 st_X8_276 (by decide) (by decide) (Nat.le_of_ble_eq_true rfl) (by decide) (by decide) (by decide) dX8_needThing_15 dX8_needThing_18 dX8_needThing_19 dX8_needThing_22 dX8_needThing_25
def f_X8_needList (h : AH) (a0 : Nat) (a1 : Int32) : Option (Except Nat Unit × AH) :=
if aK h a0 = 8 then
if a1 < 0 then
some (.error 2, nx h)
else
Option.bind (gP h 8 a0 0) fun x1 =>
Option.bind (gI h 0 x1 7) fun x2 =>
if a1 < x2 then
some (.ok (), h)
else
some (.error 2, nx h)
else none
theorem kd_X8_needList {h : AH} {a0 : Nat} {a1 : Int32} {r : (Except Nat Unit × AH)} (hf : f_X8_needList h a0 a1 = some r) : aK h a0 = 8 := by
  unfold f_X8_needList at hf
  exact (ifk hf).1
set_option maxRecDepth 100000 in
set_option maxHeartbeats 4000000 in
theorem c_X8_needList {l : Launch} {G : GT} {h : AH} {a0 : Nat} {a1 : Int32} {r : (Except Nat Unit × AH)} (hf : f_X8_needList h a0 a1 = some r) : Cn l yX8_needList cX8_needList 2 none 6 90 1 6 G h [.ref a0, .int a1] (r.1.map (fun x => none)) r.2 := by
  refine Cn.of (by decide) (Nat.le_of_ble_eq_true rfl) ?_
  intro p e s m args below meth c O hr hx hin
  have O : OkC p l s m args meth c G cX8_needList 2 RX8 := O
  unfold f_X8_needList at hf
  obtain ⟨hk0, hf⟩ := ifk hf
  refine AW.sub (lv' := [(0, .ref a0), (1, .int a1)]) [0, 1] rfl ?_
  refine r_iload_n O 1 dX8_needList_0 rfl ?_
  by_cases hc : a1 < 0
  · rw [if_pos hc] at hf
    refine r_if_lt_t (tgt := 15) O dX8_needList_1 (by decide) hc ?_
    obtain rfl := Option.some.inj hf
    exact r_throwW 2 O hx kl_X8_274 xa_X8_274_278 st_X8_279 (by decide) (by decide) (Nat.le_of_ble_eq_true rfl) (by decide) (by decide) (by decide) dX8_needList_15 dX8_needList_18 dX8_needList_19 dX8_needList_22 dX8_needList_25
  · rw [if_neg hc] at hf
    refine r_if_lt_f (tgt := 15) O dX8_needList_1 (by decide) hc ?_
    refine r_iload_n O 1 dX8_needList_4 rfl ?_
    refine r_aload_n O 0 dX8_needList_5 rfl (Or.inl rfl) ?_
    obtain ⟨x1, ex1, hf⟩ := bnd hf
    refine r_gP O cf8 0 (by decide) rfl fl_X8_10 ex1 dX8_needList_6 ?_
    obtain ⟨x2, ex2, hf⟩ := bnd hf
    refine r_gI O cf0 7 (by decide) rfl fl_X8_74 ex2 dX8_needList_9 ?_
    by_cases hc : a1 < x2
    · rw [if_pos hc] at hf
      refine r_icmp_lt_t (tgt := 26) O dX8_needList_12 (by decide) hc ?_
      obtain rfl := Option.some.inj hf
      exact r_vret O hr rfl rfl (by decide) (by decide) dX8_needList_26
    · rw [if_neg hc] at hf
      refine r_icmp_lt_f (tgt := 26) O dX8_needList_12 (by decide) hc ?_
      obtain rfl := Option.some.inj hf
      exact r_throwW 2 O hx kl_X8_274 xa_X8_274_278 st_X8_279 (by decide) (by decide) (Nat.le_of_ble_eq_true rfl) (by decide) (by decide) (by decide) dX8_needList_15 dX8_needList_18 dX8_needList_19 dX8_needList_22 dX8_needList_25
def f_X8_needClosedBook (h : AH) (a0 : Nat) : Option (Except Nat Unit × AH) :=
if aK h a0 = 8 then
Option.bind (gI h 8 a0 8) fun x1 =>
if x1 = 0 then
some (.error 0, nx h)
else
some (.ok (), h)
else none
theorem kd_X8_needClosedBook {h : AH} {a0 : Nat} {r : (Except Nat Unit × AH)} (hf : f_X8_needClosedBook h a0 = some r) : aK h a0 = 8 := by
  unfold f_X8_needClosedBook at hf
  exact (ifk hf).1
set_option maxRecDepth 100000 in
set_option maxHeartbeats 4000000 in
theorem c_X8_needClosedBook {l : Launch} {G : GT} {h : AH} {a0 : Nat} {r : (Except Nat Unit × AH)} (hf : f_X8_needClosedBook h a0 = some r) : Cn l yX8_needClosedBook cX8_needClosedBook 1 none 6 90 1 6 G h [.ref a0] (r.1.map (fun x => none)) r.2 := by
  refine Cn.of (by decide) (Nat.le_of_ble_eq_true rfl) ?_
  intro p e s m args below meth c O hr hx hin
  have O : OkC p l s m args meth c G cX8_needClosedBook 1 RX8 := O
  unfold f_X8_needClosedBook at hf
  obtain ⟨hk0, hf⟩ := ifk hf
  refine AW.sub (lv' := [(0, .ref a0)]) [0] rfl ?_
  refine r_aload_n O 0 dX8_needClosedBook_0 rfl (Or.inl rfl) ?_
  obtain ⟨x1, ex1, hf⟩ := bnd hf
  refine r_gI O cf8 8 (by decide) rfl fl_X8_107 ex1 dX8_needClosedBook_1 ?_
  by_cases hc : x1 = 0
  · rw [if_pos hc] at hf
    refine r_if_ne_f (tgt := 18) O dX8_needClosedBook_4 (by decide) hc ?_
    obtain rfl := Option.some.inj hf
    exact r_throwW 0 O hx kl_X8_63 xa_X8_63_67 st_X8_270 (by decide) (by decide) (Nat.le_of_ble_eq_true rfl) (by decide) (by decide) (by decide) dX8_needClosedBook_7 dX8_needClosedBook_10 dX8_needClosedBook_11 dX8_needClosedBook_14 dX8_needClosedBook_17
  · rw [if_neg hc] at hf
    refine r_if_ne_t (tgt := 18) O dX8_needClosedBook_4 (by decide) hc ?_
    obtain rfl := Option.some.inj hf
    exact r_vret O hr rfl rfl (by decide) (by decide) dX8_needClosedBook_18
def f_X4_seat_2 (l0 : Nat) (l1 : Int32) (n : Nat) (h : AH) (l3 : Int32) : Option AH := match n with
| 0 => none
| n + 1 =>
Option.bind (gP h 4 l0 6) fun x1 =>
Option.bind (ldI h x1 l1) fun x2 =>
if x2 ≤ l3 then
some h
else
Option.bind (gP h 4 l0 5) fun x3 =>
Option.bind (ldI h x3 ((40 * l1) + l3)) fun x4 =>
Option.bind (gP h 4 l0 3) fun x5 =>
Option.bind (stI h x5 x4 l1) fun h6 =>
Option.bind (gP h6 4 l0 4) fun x7 =>
Option.bind (stI h6 x7 x4 l3) fun h8 =>
f_X4_seat_2 l0 l1 n h8 (l3 + 1)
def f_X4_seat (h : AH) (a0 : Nat) (a1 : Int32) (a2 : Int32) : Option AH :=
if aK h a0 = 4 then
Option.bind (f_X4_seat_2 a0 a1 FU h a2) fun h9 =>
some h9
else none
set_option maxRecDepth 100000 in
set_option maxHeartbeats 4000000 in
theorem s_X4_seat_2 {p : Program} {l : Launch} {e : Env} {s : State} {m : MethodId} {args : Array Value} {below : List Frame} {meth : Method} {c : Code} {G : GT} {Q : State → Prop} (O : OkC p l s m args meth c G cX4_seat 5 RX4) {l0 : Nat} {l1 : Int32} {wh : AH} (kk : AW p l e { frames := 0, cells := 0, slots := 0, locals := 0 } s m args below meth c G 5 Q wh 0 0 47 [] []) : ∀ (n : Nat), ∀ (h : AH) (l3 : Int32), f_X4_seat_2 l0 l1 n h l3 = some wh → AW p l e { frames := 0, cells := 0, slots := 0, locals := 0 } s m args below meth c G 5 Q h 0 0 2 [(0, .ref l0), (1, .int l1), (3, .int l3)] [] := by
  intro n
  induction n with
  | zero =>
    intro h l3 hf
    simp [f_X4_seat_2] at hf
  | succ n ih =>
    intro h l3 hf
    unfold f_X4_seat_2 at hf
    refine r_iload_n O 2 dX4_seat_2 rfl ?_
    refine r_aload_n O 0 dX4_seat_3 rfl (Or.inl rfl) ?_
    obtain ⟨x1, ex1, hf⟩ := bnd hf
    refine r_gP O cf4 6 (by decide) rfl fl_X4_30 ex1 dX4_seat_4 ?_
    refine r_iload_n O 1 dX4_seat_7 rfl ?_
    obtain ⟨x2, ex2, hf⟩ := bnd hf
    refine r_ldI O ex2 dX4_seat_8 ?_
    by_cases hc : x2 ≤ l3
    · rw [if_pos hc] at hf
      refine r_icmp_ge_t (tgt := 47) O dX4_seat_9 (by decide) hc ?_
      obtain rfl := oi1 hf
      refine AW.sub [] rfl ?_
      exact kk
    · rw [if_neg hc] at hf
      refine r_icmp_ge_f (tgt := 47) O dX4_seat_9 (by decide) hc ?_
      refine r_aload_n O 0 dX4_seat_12 rfl (Or.inl rfl) ?_
      obtain ⟨x3, ex3, hf⟩ := bnd hf
      refine r_gP O cf4 5 (by decide) rfl fl_X4_27 ex3 dX4_seat_13 ?_
      refine r_bipush O (v := 40) dX4_seat_16 (by decide) ?_
      refine r_iload_n O 1 dX4_seat_18 rfl ?_
      refine r_imul O dX4_seat_19 ?_
      refine r_iload_n O 2 dX4_seat_20 rfl ?_
      refine r_iadd O dX4_seat_21 ?_
      obtain ⟨x4, ex4, hf⟩ := bnd hf
      refine r_ldI O ex4 dX4_seat_22 ?_
      refine r_istore O [(4, .int x4), (0, .ref l0), (1, .int l1), (3, .int l3)] dX4_seat_23 (by decide) rfl ?_
      refine r_aload_n O 1 dX4_seat_25 rfl (Or.inl rfl) ?_
      obtain ⟨x5, ex5, hf⟩ := bnd hf
      refine r_gP O cf4 3 (by decide) rfl fl_X4_21 ex5 dX4_seat_26 ?_
      refine r_iload O 0 dX4_seat_29 rfl ?_
      refine r_iload_n O 2 dX4_seat_31 rfl ?_
      obtain ⟨h6, eh6, hf⟩ := bnd hf
      refine r_stI O eh6 dX4_seat_32 ?_
      refine r_aload_n O 1 dX4_seat_33 rfl (Or.inl rfl) ?_
      obtain ⟨x7, ex7, hf⟩ := bnd hf
      refine r_gP O cf4 4 (by decide) rfl fl_X4_24 ex7 dX4_seat_34 ?_
      refine r_iload O 0 dX4_seat_37 rfl ?_
      refine r_iload_n O 3 dX4_seat_39 rfl ?_
      obtain ⟨h8, eh8, hf⟩ := bnd hf
      refine r_stI O eh8 dX4_seat_40 ?_
      refine r_iinc O 3 [(3, .int (l3 + 1)), (4, .int x4), (0, .ref l0), (1, .int l1)] dX4_seat_41 rfl rfl (by decide) rfl ?_
      refine r_goto (tgt := 2) O dX4_seat_44 (by decide) ?_
      refine AW.sub [2, 3, 0] rfl ?_
      exact ih _ _ hf
theorem kd_X4_seat {h : AH} {a0 : Nat} {a1 : Int32} {a2 : Int32} {r : AH} (hf : f_X4_seat h a0 a1 a2 = some r) : aK h a0 = 4 := by
  unfold f_X4_seat at hf
  exact (ifk hf).1
set_option maxRecDepth 100000 in
set_option maxHeartbeats 4000000 in
theorem c_X4_seat {l : Launch} {G : GT} {h : AH} {a0 : Nat} {a1 : Int32} {a2 : Int32} {r : AH} (hf : f_X4_seat h a0 a1 a2 = some r) : Cn l yX4_seat cX4_seat 5 none 0 0 0 0 G h [.ref a0, .int a1, .int a2] (.ok none) r := by
  refine Cn.of (by decide) (Nat.le_of_ble_eq_true rfl) ?_
  intro p e s m args below meth c O hr hx hin
  have O : OkC p l s m args meth c G cX4_seat 5 RX4 := O
  unfold f_X4_seat at hf
  obtain ⟨hk0, hf⟩ := ifk hf
  refine AW.sub (lv' := [(0, .ref a0), (1, .int a1), (2, .int a2)]) [0, 1, 2] rfl ?_
  refine r_iload_n O 2 dX4_seat_0 rfl ?_
  refine r_istore_n O [(3, .int a2), (0, .ref a0), (1, .int a1), (2, .int a2)] dX4_seat_1 (by decide) rfl ?_
  obtain ⟨h9, hw, hf⟩ := bnd hf
  refine AW.sub [1, 2, 0] rfl ?_
  refine s_X4_seat_2 O ?_ _ _ _ hw
  obtain rfl := Option.some.inj hf
  exact r_vret O hr rfl rfl (by decide) (by decide) dX4_seat_47
def f_X4_insert_26 (l0 : Nat) (l1 : Int32) (l2 : Int32) (l3 : Int32) (l4 : Int32) (n : Nat) (h : AH) (l5 : Int32) : Option AH := match n with
| 0 => none
| n + 1 =>
if l5 ≤ l3 then
some h
else
Option.bind (gP h 4 l0 5) fun x5 =>
Option.bind (gP h 4 l0 5) fun x6 =>
Option.bind (ldI h x6 ((l4 + l5) - 1)) fun x7 =>
Option.bind (stI h x5 (l4 + l5) x7) fun h8 =>
f_X4_insert_26 l0 l1 l2 l3 l4 n h8 (l5 + (-1))
def f_X4_insert (h : AH) (a0 : Nat) (a1 : Int32) (a2 : Int32) (a3 : Int32) : Option AH :=
if aK h a0 = 4 then
Option.bind (gP h 4 a0 6) fun x1 =>
Option.bind (ldI h x1 a2) fun x2 =>
if x2 < 40 then
Option.bind (gP h 4 a0 6) fun x3 =>
Option.bind (ldI h x3 a2) fun x4 =>
Option.bind (f_X4_insert_26 a0 a1 a2 a3 (40 * a2) FU h x4) fun h9 =>
Option.bind (gP h9 4 a0 5) fun x10 =>
Option.bind (stI h9 x10 ((40 * a2) + a3) a1) fun h11 =>
Option.bind (gP h11 4 a0 6) fun x12 =>
Option.bind (ldI h11 x12 a2) fun x13 =>
Option.bind (stI h11 x12 a2 (x13 + 1)) fun h14 =>
Option.bind (f_X4_seat h14 a0 a2 a3) fun h16 =>
some h16
else
some h
else none
set_option maxRecDepth 100000 in
set_option maxHeartbeats 4000000 in
theorem s_X4_insert_26 {p : Program} {l : Launch} {e : Env} {s : State} {m : MethodId} {args : Array Value} {below : List Frame} {meth : Method} {c : Code} {G : GT} {Q : State → Prop} (O : OkC p l s m args meth c G cX4_insert 6 RX4) {l0 : Nat} {l1 : Int32} {l2 : Int32} {l3 : Int32} {l4 : Int32} {wh : AH} (kk : AW p l e { frames := 1, cells := 0, slots := 0, locals := 24 } s m args below meth c G 6 Q wh 0 0 60 [(0, .ref l0), (1, .int l1), (2, .int l2), (3, .int l3), (4, .int l4)] []) : ∀ (n : Nat), ∀ (h : AH) (l5 : Int32), f_X4_insert_26 l0 l1 l2 l3 l4 n h l5 = some wh → AW p l e { frames := 1, cells := 0, slots := 0, locals := 24 } s m args below meth c G 6 Q h 0 0 26 [(0, .ref l0), (1, .int l1), (2, .int l2), (3, .int l3), (4, .int l4), (5, .int l5)] [] := by
  intro n
  induction n with
  | zero =>
    intro h l5 hf
    simp [f_X4_insert_26] at hf
  | succ n ih =>
    intro h l5 hf
    unfold f_X4_insert_26 at hf
    refine r_iload O 5 dX4_insert_26 rfl ?_
    refine r_iload_n O 3 dX4_insert_28 rfl ?_
    by_cases hc : l5 ≤ l3
    · rw [if_pos hc] at hf
      refine r_icmp_le_t (tgt := 60) O dX4_insert_29 (by decide) hc ?_
      obtain rfl := oi1 hf
      refine AW.sub [0, 1, 2, 3, 4] rfl ?_
      exact kk
    · rw [if_neg hc] at hf
      refine r_icmp_le_f (tgt := 60) O dX4_insert_29 (by decide) hc ?_
      refine r_aload_n O 0 dX4_insert_32 rfl (Or.inl rfl) ?_
      obtain ⟨x5, ex5, hf⟩ := bnd hf
      refine r_gP O cf4 5 (by decide) rfl fl_X4_27 ex5 dX4_insert_33 ?_
      refine r_iload O 4 dX4_insert_36 rfl ?_
      refine r_iload O 5 dX4_insert_38 rfl ?_
      refine r_iadd O dX4_insert_40 ?_
      refine r_aload_n O 0 dX4_insert_41 rfl (Or.inl rfl) ?_
      obtain ⟨x6, ex6, hf⟩ := bnd hf
      refine r_gP O cf4 5 (by decide) rfl fl_X4_27 ex6 dX4_insert_42 ?_
      refine r_iload O 4 dX4_insert_45 rfl ?_
      refine r_iload O 5 dX4_insert_47 rfl ?_
      refine r_iadd O dX4_insert_49 ?_
      refine r_iconst O (v := 1) dX4_insert_50 (by decide) ?_
      refine r_isub O dX4_insert_51 ?_
      obtain ⟨x7, ex7, hf⟩ := bnd hf
      refine r_ldI O ex7 dX4_insert_52 ?_
      obtain ⟨h8, eh8, hf⟩ := bnd hf
      refine r_stI O eh8 dX4_insert_53 ?_
      refine r_iinc O 5 [(5, .int (l5 + (-1))), (0, .ref l0), (1, .int l1), (2, .int l2), (3, .int l3), (4, .int l4)] dX4_insert_54 rfl rfl (by decide) rfl ?_
      refine r_goto (tgt := 26) O dX4_insert_57 (by decide) ?_
      refine AW.sub [1, 2, 3, 4, 5, 0] rfl ?_
      exact ih _ _ hf
theorem kd_X4_insert {h : AH} {a0 : Nat} {a1 : Int32} {a2 : Int32} {a3 : Int32} {r : AH} (hf : f_X4_insert h a0 a1 a2 a3 = some r) : aK h a0 = 4 := by
  unfold f_X4_insert at hf
  exact (ifk hf).1
set_option maxRecDepth 100000 in
set_option maxHeartbeats 4000000 in
theorem c_X4_insert {l : Launch} {G : GT} {h : AH} {a0 : Nat} {a1 : Int32} {a2 : Int32} {a3 : Int32} {r : AH} (hf : f_X4_insert h a0 a1 a2 a3 = some r) : Cn l yX4_insert cX4_insert 6 none 1 24 0 0 G h [.ref a0, .int a1, .int a2, .int a3] (.ok none) r := by
  refine Cn.of (by decide) (Nat.le_of_ble_eq_true rfl) ?_
  intro p e s m args below meth c O hr hx hin
  have O : OkC p l s m args meth c G cX4_insert 6 RX4 := O
  unfold f_X4_insert at hf
  obtain ⟨hk0, hf⟩ := ifk hf
  refine AW.sub (lv' := [(0, .ref a0), (1, .int a1), (2, .int a2), (3, .int a3)]) [0, 1, 2, 3] rfl ?_
  refine r_aload_n O 0 dX4_insert_0 rfl (Or.inl rfl) ?_
  obtain ⟨x1, ex1, hf⟩ := bnd hf
  refine r_gP O cf4 6 (by decide) rfl fl_X4_30 ex1 dX4_insert_1 ?_
  refine r_iload_n O 2 dX4_insert_4 rfl ?_
  obtain ⟨x2, ex2, hf⟩ := bnd hf
  refine r_ldI O ex2 dX4_insert_5 ?_
  refine r_bipush O (v := 40) dX4_insert_6 (by decide) ?_
  by_cases hc : x2 < 40
  · rw [if_pos hc] at hf
    refine r_icmp_lt_t (tgt := 12) O dX4_insert_8 (by decide) hc ?_
    refine r_bipush O (v := 40) dX4_insert_12 (by decide) ?_
    refine r_iload_n O 2 dX4_insert_14 rfl ?_
    refine r_imul O dX4_insert_15 ?_
    refine r_istore O [(4, .int (40 * a2)), (0, .ref a0), (1, .int a1), (2, .int a2), (3, .int a3)] dX4_insert_16 (by decide) rfl ?_
    refine r_aload_n O 1 dX4_insert_18 rfl (Or.inl rfl) ?_
    obtain ⟨x3, ex3, hf⟩ := bnd hf
    refine r_gP O cf4 6 (by decide) rfl fl_X4_30 ex3 dX4_insert_19 ?_
    refine r_iload_n O 3 dX4_insert_22 rfl ?_
    obtain ⟨x4, ex4, hf⟩ := bnd hf
    refine r_ldI O ex4 dX4_insert_23 ?_
    refine r_istore O [(5, .int x4), (4, .int (40 * a2)), (0, .ref a0), (1, .int a1), (2, .int a2), (3, .int a3)] dX4_insert_24 (by decide) rfl ?_
    obtain ⟨h9, hw, hf⟩ := bnd hf
    refine AW.sub [2, 3, 4, 5, 1, 0] rfl ?_
    refine s_X4_insert_26 O ?_ _ _ _ hw
    refine r_aload_n O 0 dX4_insert_60 rfl (Or.inl rfl) ?_
    obtain ⟨x10, ex10, hf⟩ := bnd hf
    refine r_gP O cf4 5 (by decide) rfl fl_X4_27 ex10 dX4_insert_61 ?_
    refine r_iload O 4 dX4_insert_64 rfl ?_
    refine r_iload_n O 3 dX4_insert_66 rfl ?_
    refine r_iadd O dX4_insert_67 ?_
    refine r_iload_n O 1 dX4_insert_68 rfl ?_
    obtain ⟨h11, eh11, hf⟩ := bnd hf
    refine r_stI O eh11 dX4_insert_69 ?_
    refine r_aload_n O 0 dX4_insert_70 rfl (Or.inl rfl) ?_
    obtain ⟨x12, ex12, hf⟩ := bnd hf
    refine r_gP O cf4 6 (by decide) rfl fl_X4_30 ex12 dX4_insert_71 ?_
    refine r_iload_n O 2 dX4_insert_74 rfl ?_
    refine r_dup2 O dX4_insert_75 rfl rfl ?_
    obtain ⟨x13, ex13, hf⟩ := bnd hf
    refine r_ldI O ex13 dX4_insert_76 ?_
    refine r_iconst O (v := 1) dX4_insert_77 (by decide) ?_
    refine r_iadd O dX4_insert_78 ?_
    obtain ⟨h14, eh14, hf⟩ := bnd hf
    refine r_stI O eh14 dX4_insert_79 ?_
    refine r_aload_n O 0 dX4_insert_80 rfl (Or.inl rfl) ?_
    refine r_iload_n O 2 dX4_insert_81 rfl ?_
    refine r_iload_n O 3 dX4_insert_82 rfl ?_
    obtain ⟨h16, eh16, hf⟩ := bnd hf
    refine r_callV (av := [.int a2, .int a3]) (st := []) O (c_X4_seat eh16) mf_X4_seat cf4 (kd_X4_seat eh16) ml_X4_72 mi_X4_seat mv_X4_seat (by decide) (Nat.le_of_ble_eq_true rfl) (by decide) dX4_insert_83 ?_
    obtain rfl := Option.some.inj hf
    exact r_vret O hr rfl rfl (by decide) (by decide) dX4_insert_86
  · rw [if_neg hc] at hf
    refine r_icmp_lt_f (tgt := 12) O dX4_insert_8 (by decide) hc ?_
    obtain rfl := Option.some.inj hf
    exact r_vret O hr rfl rfl (by decide) (by decide) dX4_insert_11
