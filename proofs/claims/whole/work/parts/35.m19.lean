def f_X9_fact (h : AH) (a0 : Nat) (a1 : Int32) (a2 : Int32) (a3 : Int32) : Option (Int32 × AH) :=
if aK h a0 = 9 then
Option.bind (pI h 9 a0 0 0) fun h1 =>
Option.bind (f_X9_isThing h1 a0 a1) fun x2 =>
if x2 = 0 then
Option.bind (f_X9_fail h1 a0 1) fun w => match w with
| (x17, h18) =>
some (x17, h18)
else
Option.bind (gI h1 9 a0 1) fun x4 =>
if x4 = 0 then
if a2 < 0 then
Option.bind (f_X9_fail h1 a0 3) fun w => match w with
| (x5, h6) =>
some (x5, h6)
else
if a2 ≤ 3 then
Option.bind (f_X9_begun h1 a0) fun h8 =>
Option.bind (gP h8 9 a0 12) fun x9 =>
Option.bind (stI h8 x9 ((0 + (4 * a1)) + a2) a3) fun h10 =>
Option.bind (f_X9_done h10 a0) fun w => match w with
| (x11, h12) =>
some (x11, h12)
else
Option.bind (f_X9_fail h1 a0 3) fun w => match w with
| (x13, h14) =>
some (x13, h14)
else
Option.bind (f_X9_fail h1 a0 2) fun w => match w with
| (x15, h16) =>
some (x15, h16)
else none
theorem kd_X9_fact {h : AH} {a0 : Nat} {a1 : Int32} {a2 : Int32} {a3 : Int32} {r : (Int32 × AH)} (hf : f_X9_fact h a0 a1 a2 a3 = some r) : aK h a0 = 9 := by
  unfold f_X9_fact at hf
  exact (ifk hf).1
set_option maxRecDepth 100000 in
set_option maxHeartbeats 4000000 in
theorem c_X9_fact {l : Launch} {G : GT} {h : AH} {a0 : Nat} {a1 : Int32} {a2 : Int32} {a3 : Int32} {r : (Int32 × AH)} (hf : f_X9_fact h a0 a1 a2 a3 = some r) : Cn l yX9_fact cX9_fact 4 (some .int) 7 183 0 0 G h [.ref a0, .int a1, .int a2, .int a3] (.ok (some (.int r.1))) r.2 := by
  refine Cn.of (by decide) (Nat.le_of_ble_eq_true rfl) ?_
  intro p e s m args below meth c O hr hx hin
  have O : OkC p l s m args meth c G cX9_fact 4 RX9 := O
  unfold f_X9_fact at hf
  obtain ⟨hk0, hf⟩ := ifk hf
  refine AW.sub (lv' := [(0, .ref a0), (1, .int a1), (2, .int a2), (3, .int a3)]) [0, 1, 2, 3] rfl ?_
  refine r_aload_n O 0 dX9_fact_0 rfl (Or.inl rfl) ?_
  refine r_iconst O (v := 0) dX9_fact_1 (by decide) ?_
  obtain ⟨h1, eh1, hf⟩ := bnd hf
  refine r_pI O cf9 0 (by decide) rfl fl_X9_1 rfl eh1 dX9_fact_2 ?_
  refine r_aload_n O 0 dX9_fact_5 rfl (Or.inl rfl) ?_
  refine r_iload_n O 1 dX9_fact_6 rfl ?_
  obtain ⟨x2, ex2, hf⟩ := bnd hf
  refine r_callV (av := [.int a1]) (st := []) O (c_X9_isThing ex2) mf_X9_isThing cf9 (kd_X9_isThing ex2) ml_X9_253 mi_X9_isThing mv_X9_isThing (by decide) (Nat.le_of_ble_eq_true rfl) (by decide) dX9_fact_7 ?_
  by_cases hc : x2 = 0
  · rw [if_pos hc] at hf
    refine r_if_ne_f (tgt := 19) O dX9_fact_10 (by decide) hc ?_
    refine r_aload_n O 0 dX9_fact_13 rfl (Or.inl rfl) ?_
    refine r_iconst O (v := 1) dX9_fact_14 (by decide) ?_
    obtain ⟨⟨x17, h18⟩, ex17, hf⟩ := bnd hf
    dsimp only at hf
    refine r_callV (av := [.int 1]) (st := []) O (c_X9_fail ex17) mf_X9_fail cf9 (kd_X9_fail ex17) ml_X9_106 mi_X9_fail mv_X9_fail (by decide) (Nat.le_of_ble_eq_true rfl) (by decide) dX9_fact_15 ?_
    obtain rfl := Option.some.inj hf
    exact r_iret O hr rfl rfl (by decide) (by decide) dX9_fact_18
  · rw [if_neg hc] at hf
    refine r_if_ne_t (tgt := 19) O dX9_fact_10 (by decide) hc ?_
    refine r_aload_n O 0 dX9_fact_19 rfl (Or.inl rfl) ?_
    obtain ⟨x4, ex4, hf⟩ := bnd hf
    refine r_gI O cf9 1 (by decide) rfl fl_X9_13 ex4 dX9_fact_20 ?_
    by_cases hc : x4 = 0
    · rw [if_pos hc] at hf
      refine r_if_eq_t (tgt := 32) O dX9_fact_23 (by decide) hc ?_
      refine r_iload_n O 2 dX9_fact_32 rfl ?_
      by_cases hc : a2 < 0
      · rw [if_pos hc] at hf
        refine r_if_lt_t (tgt := 41) O dX9_fact_33 (by decide) hc ?_
        refine r_aload_n O 0 dX9_fact_41 rfl (Or.inl rfl) ?_
        refine r_iconst O (v := 3) dX9_fact_42 (by decide) ?_
        obtain ⟨⟨x5, h6⟩, ex5, hf⟩ := bnd hf
        dsimp only at hf
        refine r_callV (av := [.int 3]) (st := []) O (c_X9_fail ex5) mf_X9_fail cf9 (kd_X9_fail ex5) ml_X9_106 mi_X9_fail mv_X9_fail (by decide) (Nat.le_of_ble_eq_true rfl) (by decide) dX9_fact_43 ?_
        obtain rfl := Option.some.inj hf
        exact r_iret O hr rfl rfl (by decide) (by decide) dX9_fact_46
      · rw [if_neg hc] at hf
        refine r_if_lt_f (tgt := 41) O dX9_fact_33 (by decide) hc ?_
        refine r_iload_n O 2 dX9_fact_36 rfl ?_
        refine r_iconst O (v := 3) dX9_fact_37 (by decide) ?_
        by_cases hc : a2 ≤ 3
        · rw [if_pos hc] at hf
          refine r_icmp_le_t (tgt := 47) O dX9_fact_38 (by decide) hc ?_
          refine r_aload_n O 0 dX9_fact_47 rfl (Or.inl rfl) ?_
          obtain ⟨h8, eh8, hf⟩ := bnd hf
          refine r_callV (av := []) (st := []) O (c_X9_begun eh8) mf_X9_begun cf9 (kd_X9_begun eh8) ml_X9_260 mi_X9_begun mv_X9_begun (by decide) (Nat.le_of_ble_eq_true rfl) (by decide) dX9_fact_48 ?_
          refine r_aload_n O 0 dX9_fact_51 rfl (Or.inl rfl) ?_
          obtain ⟨x9, ex9, hf⟩ := bnd hf
          refine r_gP O cf9 12 (by decide) rfl fl_X9_39 ex9 dX9_fact_52 ?_
          refine r_iconst O (v := 0) dX9_fact_55 (by decide) ?_
          refine r_iconst O (v := 4) dX9_fact_56 (by decide) ?_
          refine r_iload_n O 1 dX9_fact_57 rfl ?_
          refine r_imul O dX9_fact_58 ?_
          refine r_iadd O dX9_fact_59 ?_
          refine r_iload_n O 2 dX9_fact_60 rfl ?_
          refine r_iadd O dX9_fact_61 ?_
          refine r_iload_n O 3 dX9_fact_62 rfl ?_
          obtain ⟨h10, eh10, hf⟩ := bnd hf
          refine r_stI O eh10 dX9_fact_63 ?_
          refine r_aload_n O 0 dX9_fact_64 rfl (Or.inl rfl) ?_
          obtain ⟨⟨x11, h12⟩, ex11, hf⟩ := bnd hf
          dsimp only at hf
          refine r_callV (av := []) (st := []) O (c_X9_done ex11) mf_X9_done cf9 (kd_X9_done ex11) ml_X9_267 mi_X9_done mv_X9_done (by decide) (Nat.le_of_ble_eq_true rfl) (by decide) dX9_fact_65 ?_
          obtain rfl := Option.some.inj hf
          exact r_iret O hr rfl rfl (by decide) (by decide) dX9_fact_68
        · rw [if_neg hc] at hf
          refine r_icmp_le_f (tgt := 47) O dX9_fact_38 (by decide) hc ?_
          refine r_aload_n O 0 dX9_fact_41 rfl (Or.inl rfl) ?_
          refine r_iconst O (v := 3) dX9_fact_42 (by decide) ?_
          obtain ⟨⟨x13, h14⟩, ex13, hf⟩ := bnd hf
          dsimp only at hf
          refine r_callV (av := [.int 3]) (st := []) O (c_X9_fail ex13) mf_X9_fail cf9 (kd_X9_fail ex13) ml_X9_106 mi_X9_fail mv_X9_fail (by decide) (Nat.le_of_ble_eq_true rfl) (by decide) dX9_fact_43 ?_
          obtain rfl := Option.some.inj hf
          exact r_iret O hr rfl rfl (by decide) (by decide) dX9_fact_46
    · rw [if_neg hc] at hf
      refine r_if_eq_f (tgt := 32) O dX9_fact_23 (by decide) hc ?_
      refine r_aload_n O 0 dX9_fact_26 rfl (Or.inl rfl) ?_
      refine r_iconst O (v := 2) dX9_fact_27 (by decide) ?_
      obtain ⟨⟨x15, h16⟩, ex15, hf⟩ := bnd hf
      dsimp only at hf
      refine r_callV (av := [.int 2]) (st := []) O (c_X9_fail ex15) mf_X9_fail cf9 (kd_X9_fail ex15) ml_X9_106 mi_X9_fail mv_X9_fail (by decide) (Nat.le_of_ble_eq_true rfl) (by decide) dX9_fact_28 ?_
      obtain rfl := Option.some.inj hf
      exact r_iret O hr rfl rfl (by decide) (by decide) dX9_fact_31
def f_X9_listFact (h : AH) (a0 : Nat) (a1 : Int32) (a2 : Int32) (a3 : Int32) : Option (Int32 × AH) :=
if aK h a0 = 9 then
Option.bind (pI h 9 a0 0 0) fun h1 =>
Option.bind (f_X9_isList h1 a0 a1) fun x2 =>
if x2 = 0 then
Option.bind (f_X9_fail h1 a0 1) fun w => match w with
| (x17, h18) =>
some (x17, h18)
else
Option.bind (gI h1 9 a0 1) fun x4 =>
if x4 = 0 then
if a2 < 0 then
Option.bind (f_X9_fail h1 a0 3) fun w => match w with
| (x5, h6) =>
some (x5, h6)
else
if a2 ≤ 1 then
Option.bind (f_X9_begun h1 a0) fun h8 =>
Option.bind (gP h8 9 a0 12) fun x9 =>
Option.bind (stI h8 x9 ((160 + (2 * a1)) + a2) a3) fun h10 =>
Option.bind (f_X9_done h10 a0) fun w => match w with
| (x11, h12) =>
some (x11, h12)
else
Option.bind (f_X9_fail h1 a0 3) fun w => match w with
| (x13, h14) =>
some (x13, h14)
else
Option.bind (f_X9_fail h1 a0 2) fun w => match w with
| (x15, h16) =>
some (x15, h16)
else none
theorem kd_X9_listFact {h : AH} {a0 : Nat} {a1 : Int32} {a2 : Int32} {a3 : Int32} {r : (Int32 × AH)} (hf : f_X9_listFact h a0 a1 a2 a3 = some r) : aK h a0 = 9 := by
  unfold f_X9_listFact at hf
  exact (ifk hf).1
set_option maxRecDepth 100000 in
set_option maxHeartbeats 4000000 in
theorem c_X9_listFact {l : Launch} {G : GT} {h : AH} {a0 : Nat} {a1 : Int32} {a2 : Int32} {a3 : Int32} {r : (Int32 × AH)} (hf : f_X9_listFact h a0 a1 a2 a3 = some r) : Cn l yX9_listFact cX9_listFact 4 (some .int) 7 183 0 0 G h [.ref a0, .int a1, .int a2, .int a3] (.ok (some (.int r.1))) r.2 := by
  refine Cn.of (by decide) (Nat.le_of_ble_eq_true rfl) ?_
  intro p e s m args below meth c O hr hx hin
  have O : OkC p l s m args meth c G cX9_listFact 4 RX9 := O
  unfold f_X9_listFact at hf
  obtain ⟨hk0, hf⟩ := ifk hf
  refine AW.sub (lv' := [(0, .ref a0), (1, .int a1), (2, .int a2), (3, .int a3)]) [0, 1, 2, 3] rfl ?_
  refine r_aload_n O 0 dX9_listFact_0 rfl (Or.inl rfl) ?_
  refine r_iconst O (v := 0) dX9_listFact_1 (by decide) ?_
  obtain ⟨h1, eh1, hf⟩ := bnd hf
  refine r_pI O cf9 0 (by decide) rfl fl_X9_1 rfl eh1 dX9_listFact_2 ?_
  refine r_aload_n O 0 dX9_listFact_5 rfl (Or.inl rfl) ?_
  refine r_iload_n O 1 dX9_listFact_6 rfl ?_
  obtain ⟨x2, ex2, hf⟩ := bnd hf
  refine r_callV (av := [.int a1]) (st := []) O (c_X9_isList ex2) mf_X9_isList cf9 (kd_X9_isList ex2) ml_X9_257 mi_X9_isList mv_X9_isList (by decide) (Nat.le_of_ble_eq_true rfl) (by decide) dX9_listFact_7 ?_
  by_cases hc : x2 = 0
  · rw [if_pos hc] at hf
    refine r_if_ne_f (tgt := 19) O dX9_listFact_10 (by decide) hc ?_
    refine r_aload_n O 0 dX9_listFact_13 rfl (Or.inl rfl) ?_
    refine r_iconst O (v := 1) dX9_listFact_14 (by decide) ?_
    obtain ⟨⟨x17, h18⟩, ex17, hf⟩ := bnd hf
    dsimp only at hf
    refine r_callV (av := [.int 1]) (st := []) O (c_X9_fail ex17) mf_X9_fail cf9 (kd_X9_fail ex17) ml_X9_106 mi_X9_fail mv_X9_fail (by decide) (Nat.le_of_ble_eq_true rfl) (by decide) dX9_listFact_15 ?_
    obtain rfl := Option.some.inj hf
    exact r_iret O hr rfl rfl (by decide) (by decide) dX9_listFact_18
  · rw [if_neg hc] at hf
    refine r_if_ne_t (tgt := 19) O dX9_listFact_10 (by decide) hc ?_
    refine r_aload_n O 0 dX9_listFact_19 rfl (Or.inl rfl) ?_
    obtain ⟨x4, ex4, hf⟩ := bnd hf
    refine r_gI O cf9 1 (by decide) rfl fl_X9_13 ex4 dX9_listFact_20 ?_
    by_cases hc : x4 = 0
    · rw [if_pos hc] at hf
      refine r_if_eq_t (tgt := 32) O dX9_listFact_23 (by decide) hc ?_
      refine r_iload_n O 2 dX9_listFact_32 rfl ?_
      by_cases hc : a2 < 0
      · rw [if_pos hc] at hf
        refine r_if_lt_t (tgt := 41) O dX9_listFact_33 (by decide) hc ?_
        refine r_aload_n O 0 dX9_listFact_41 rfl (Or.inl rfl) ?_
        refine r_iconst O (v := 3) dX9_listFact_42 (by decide) ?_
        obtain ⟨⟨x5, h6⟩, ex5, hf⟩ := bnd hf
        dsimp only at hf
        refine r_callV (av := [.int 3]) (st := []) O (c_X9_fail ex5) mf_X9_fail cf9 (kd_X9_fail ex5) ml_X9_106 mi_X9_fail mv_X9_fail (by decide) (Nat.le_of_ble_eq_true rfl) (by decide) dX9_listFact_43 ?_
        obtain rfl := Option.some.inj hf
        exact r_iret O hr rfl rfl (by decide) (by decide) dX9_listFact_46
      · rw [if_neg hc] at hf
        refine r_if_lt_f (tgt := 41) O dX9_listFact_33 (by decide) hc ?_
        refine r_iload_n O 2 dX9_listFact_36 rfl ?_
        refine r_iconst O (v := 1) dX9_listFact_37 (by decide) ?_
        by_cases hc : a2 ≤ 1
        · rw [if_pos hc] at hf
          refine r_icmp_le_t (tgt := 47) O dX9_listFact_38 (by decide) hc ?_
          refine r_aload_n O 0 dX9_listFact_47 rfl (Or.inl rfl) ?_
          obtain ⟨h8, eh8, hf⟩ := bnd hf
          refine r_callV (av := []) (st := []) O (c_X9_begun eh8) mf_X9_begun cf9 (kd_X9_begun eh8) ml_X9_260 mi_X9_begun mv_X9_begun (by decide) (Nat.le_of_ble_eq_true rfl) (by decide) dX9_listFact_48 ?_
          refine r_aload_n O 0 dX9_listFact_51 rfl (Or.inl rfl) ?_
          obtain ⟨x9, ex9, hf⟩ := bnd hf
          refine r_gP O cf9 12 (by decide) rfl fl_X9_39 ex9 dX9_listFact_52 ?_
          refine r_sipush O (v := 160) dX9_listFact_55 (by decide) ?_
          refine r_iconst O (v := 2) dX9_listFact_58 (by decide) ?_
          refine r_iload_n O 1 dX9_listFact_59 rfl ?_
          refine r_imul O dX9_listFact_60 ?_
          refine r_iadd O dX9_listFact_61 ?_
          refine r_iload_n O 2 dX9_listFact_62 rfl ?_
          refine r_iadd O dX9_listFact_63 ?_
          refine r_iload_n O 3 dX9_listFact_64 rfl ?_
          obtain ⟨h10, eh10, hf⟩ := bnd hf
          refine r_stI O eh10 dX9_listFact_65 ?_
          refine r_aload_n O 0 dX9_listFact_66 rfl (Or.inl rfl) ?_
          obtain ⟨⟨x11, h12⟩, ex11, hf⟩ := bnd hf
          dsimp only at hf
          refine r_callV (av := []) (st := []) O (c_X9_done ex11) mf_X9_done cf9 (kd_X9_done ex11) ml_X9_267 mi_X9_done mv_X9_done (by decide) (Nat.le_of_ble_eq_true rfl) (by decide) dX9_listFact_67 ?_
          obtain rfl := Option.some.inj hf
          exact r_iret O hr rfl rfl (by decide) (by decide) dX9_listFact_70
        · rw [if_neg hc] at hf
          refine r_icmp_le_f (tgt := 47) O dX9_listFact_38 (by decide) hc ?_
          refine r_aload_n O 0 dX9_listFact_41 rfl (Or.inl rfl) ?_
          refine r_iconst O (v := 3) dX9_listFact_42 (by decide) ?_
          obtain ⟨⟨x13, h14⟩, ex13, hf⟩ := bnd hf
          dsimp only at hf
          refine r_callV (av := [.int 3]) (st := []) O (c_X9_fail ex13) mf_X9_fail cf9 (kd_X9_fail ex13) ml_X9_106 mi_X9_fail mv_X9_fail (by decide) (Nat.le_of_ble_eq_true rfl) (by decide) dX9_listFact_43 ?_
          obtain rfl := Option.some.inj hf
          exact r_iret O hr rfl rfl (by decide) (by decide) dX9_listFact_46
    · rw [if_neg hc] at hf
      refine r_if_eq_f (tgt := 32) O dX9_listFact_23 (by decide) hc ?_
      refine r_aload_n O 0 dX9_listFact_26 rfl (Or.inl rfl) ?_
      refine r_iconst O (v := 2) dX9_listFact_27 (by decide) ?_
      obtain ⟨⟨x15, h16⟩, ex15, hf⟩ := bnd hf
      dsimp only at hf
      refine r_callV (av := [.int 2]) (st := []) O (c_X9_fail ex15) mf_X9_fail cf9 (kd_X9_fail ex15) ml_X9_106 mi_X9_fail mv_X9_fail (by decide) (Nat.le_of_ble_eq_true rfl) (by decide) dX9_listFact_28 ?_
      obtain rfl := Option.some.inj hf
      exact r_iret O hr rfl rfl (by decide) (by decide) dX9_listFact_31
def f_X9_link (h : AH) (a0 : Nat) (a1 : Int32) (a2 : Int32) : Option (Int32 × AH) :=
if aK h a0 = 9 then
Option.bind (pI h 9 a0 0 0) fun h1 =>
Option.bind (f_X9_isThing h1 a0 a1) fun x2 =>
if x2 = 0 then
Option.bind (f_X9_fail h1 a0 1) fun w => match w with
| (x4, h5) =>
some (x4, h5)
else
if a2 = (-1) then
Option.bind (gI h1 9 a0 1) fun x6 =>
if x6 = 0 then
if a1 = a2 then
Option.bind (f_X9_fail h1 a0 3) fun w => match w with
| (x13, h14) =>
some (x13, h14)
else
Option.bind (f_X9_begun h1 a0) fun h8 =>
Option.bind (gP h8 9 a0 12) fun x9 =>
Option.bind (stI h8 x9 (172 + a1) a2) fun h10 =>
Option.bind (f_X9_done h10 a0) fun w => match w with
| (x11, h12) =>
some (x11, h12)
else
Option.bind (f_X9_fail h1 a0 2) fun w => match w with
| (x15, h16) =>
some (x15, h16)
else
Option.bind (f_X9_isThing h1 a0 a2) fun x17 =>
if x17 = 0 then
Option.bind (f_X9_fail h1 a0 1) fun w => match w with
| (x30, h31) =>
some (x30, h31)
else
Option.bind (gI h1 9 a0 1) fun x19 =>
if x19 = 0 then
if a1 = a2 then
Option.bind (f_X9_fail h1 a0 3) fun w => match w with
| (x26, h27) =>
some (x26, h27)
else
Option.bind (f_X9_begun h1 a0) fun h21 =>
Option.bind (gP h21 9 a0 12) fun x22 =>
Option.bind (stI h21 x22 (172 + a1) a2) fun h23 =>
Option.bind (f_X9_done h23 a0) fun w => match w with
| (x24, h25) =>
some (x24, h25)
else
Option.bind (f_X9_fail h1 a0 2) fun w => match w with
| (x28, h29) =>
some (x28, h29)
else none
theorem kd_X9_link {h : AH} {a0 : Nat} {a1 : Int32} {a2 : Int32} {r : (Int32 × AH)} (hf : f_X9_link h a0 a1 a2 = some r) : aK h a0 = 9 := by
  unfold f_X9_link at hf
  exact (ifk hf).1
set_option maxRecDepth 100000 in
set_option maxHeartbeats 4000000 in
theorem c_X9_link {l : Launch} {G : GT} {h : AH} {a0 : Nat} {a1 : Int32} {a2 : Int32} {r : (Int32 × AH)} (hf : f_X9_link h a0 a1 a2 = some r) : Cn l yX9_link cX9_link 3 (some .int) 7 183 0 0 G h [.ref a0, .int a1, .int a2] (.ok (some (.int r.1))) r.2 := by
  refine Cn.of (by decide) (Nat.le_of_ble_eq_true rfl) ?_
  intro p e s m args below meth c O hr hx hin
  have O : OkC p l s m args meth c G cX9_link 3 RX9 := O
  unfold f_X9_link at hf
  obtain ⟨hk0, hf⟩ := ifk hf
  refine AW.sub (lv' := [(0, .ref a0), (1, .int a1), (2, .int a2)]) [0, 1, 2] rfl ?_
  refine r_aload_n O 0 dX9_link_0 rfl (Or.inl rfl) ?_
  refine r_iconst O (v := 0) dX9_link_1 (by decide) ?_
  obtain ⟨h1, eh1, hf⟩ := bnd hf
  refine r_pI O cf9 0 (by decide) rfl fl_X9_1 rfl eh1 dX9_link_2 ?_
  refine r_aload_n O 0 dX9_link_5 rfl (Or.inl rfl) ?_
  refine r_iload_n O 1 dX9_link_6 rfl ?_
  obtain ⟨x2, ex2, hf⟩ := bnd hf
  refine r_callV (av := [.int a1]) (st := []) O (c_X9_isThing ex2) mf_X9_isThing cf9 (kd_X9_isThing ex2) ml_X9_253 mi_X9_isThing mv_X9_isThing (by decide) (Nat.le_of_ble_eq_true rfl) (by decide) dX9_link_7 ?_
  by_cases hc : x2 = 0
  · rw [if_pos hc] at hf
    refine r_if_eq_t (tgt := 26) O dX9_link_10 (by decide) hc ?_
    refine r_aload_n O 0 dX9_link_26 rfl (Or.inl rfl) ?_
    refine r_iconst O (v := 1) dX9_link_27 (by decide) ?_
    obtain ⟨⟨x4, h5⟩, ex4, hf⟩ := bnd hf
    dsimp only at hf
    refine r_callV (av := [.int 1]) (st := []) O (c_X9_fail ex4) mf_X9_fail cf9 (kd_X9_fail ex4) ml_X9_106 mi_X9_fail mv_X9_fail (by decide) (Nat.le_of_ble_eq_true rfl) (by decide) dX9_link_28 ?_
    obtain rfl := Option.some.inj hf
    exact r_iret O hr rfl rfl (by decide) (by decide) dX9_link_31
  · rw [if_neg hc] at hf
    refine r_if_eq_f (tgt := 26) O dX9_link_10 (by decide) hc ?_
    refine r_iload_n O 2 dX9_link_13 rfl ?_
    refine r_iconst O (v := -1) dX9_link_14 (by decide) ?_
    by_cases hc : a2 = (-1)
    · rw [if_pos hc] at hf
      refine r_icmp_eq_t (tgt := 32) O dX9_link_15 (by decide) hc ?_
      refine r_aload_n O 0 dX9_link_32 rfl (Or.inl rfl) ?_
      obtain ⟨x6, ex6, hf⟩ := bnd hf
      refine r_gI O cf9 1 (by decide) rfl fl_X9_13 ex6 dX9_link_33 ?_
      by_cases hc : x6 = 0
      · rw [if_pos hc] at hf
        refine r_if_eq_t (tgt := 45) O dX9_link_36 (by decide) hc ?_
        refine r_iload_n O 1 dX9_link_45 rfl ?_
        refine r_iload_n O 2 dX9_link_46 rfl ?_
        by_cases hc : a1 = a2
        · rw [if_pos hc] at hf
          refine r_icmp_ne_f (tgt := 56) O dX9_link_47 (by decide) hc ?_
          refine r_aload_n O 0 dX9_link_50 rfl (Or.inl rfl) ?_
          refine r_iconst O (v := 3) dX9_link_51 (by decide) ?_
          obtain ⟨⟨x13, h14⟩, ex13, hf⟩ := bnd hf
          dsimp only at hf
          refine r_callV (av := [.int 3]) (st := []) O (c_X9_fail ex13) mf_X9_fail cf9 (kd_X9_fail ex13) ml_X9_106 mi_X9_fail mv_X9_fail (by decide) (Nat.le_of_ble_eq_true rfl) (by decide) dX9_link_52 ?_
          obtain rfl := Option.some.inj hf
          exact r_iret O hr rfl rfl (by decide) (by decide) dX9_link_55
        · rw [if_neg hc] at hf
          refine r_icmp_ne_t (tgt := 56) O dX9_link_47 (by decide) hc ?_
          refine r_aload_n O 0 dX9_link_56 rfl (Or.inl rfl) ?_
          obtain ⟨h8, eh8, hf⟩ := bnd hf
          refine r_callV (av := []) (st := []) O (c_X9_begun eh8) mf_X9_begun cf9 (kd_X9_begun eh8) ml_X9_260 mi_X9_begun mv_X9_begun (by decide) (Nat.le_of_ble_eq_true rfl) (by decide) dX9_link_57 ?_
          refine r_aload_n O 0 dX9_link_60 rfl (Or.inl rfl) ?_
          obtain ⟨x9, ex9, hf⟩ := bnd hf
          refine r_gP O cf9 12 (by decide) rfl fl_X9_39 ex9 dX9_link_61 ?_
          refine r_sipush O (v := 172) dX9_link_64 (by decide) ?_
          refine r_iload_n O 1 dX9_link_67 rfl ?_
          refine r_iadd O dX9_link_68 ?_
          refine r_iload_n O 2 dX9_link_69 rfl ?_
          obtain ⟨h10, eh10, hf⟩ := bnd hf
          refine r_stI O eh10 dX9_link_70 ?_
          refine r_aload_n O 0 dX9_link_71 rfl (Or.inl rfl) ?_
          obtain ⟨⟨x11, h12⟩, ex11, hf⟩ := bnd hf
          dsimp only at hf
          refine r_callV (av := []) (st := []) O (c_X9_done ex11) mf_X9_done cf9 (kd_X9_done ex11) ml_X9_267 mi_X9_done mv_X9_done (by decide) (Nat.le_of_ble_eq_true rfl) (by decide) dX9_link_72 ?_
          obtain rfl := Option.some.inj hf
          exact r_iret O hr rfl rfl (by decide) (by decide) dX9_link_75
      · rw [if_neg hc] at hf
        refine r_if_eq_f (tgt := 45) O dX9_link_36 (by decide) hc ?_
        refine r_aload_n O 0 dX9_link_39 rfl (Or.inl rfl) ?_
        refine r_iconst O (v := 2) dX9_link_40 (by decide) ?_
        obtain ⟨⟨x15, h16⟩, ex15, hf⟩ := bnd hf
        dsimp only at hf
        refine r_callV (av := [.int 2]) (st := []) O (c_X9_fail ex15) mf_X9_fail cf9 (kd_X9_fail ex15) ml_X9_106 mi_X9_fail mv_X9_fail (by decide) (Nat.le_of_ble_eq_true rfl) (by decide) dX9_link_41 ?_
        obtain rfl := Option.some.inj hf
        exact r_iret O hr rfl rfl (by decide) (by decide) dX9_link_44
    · rw [if_neg hc] at hf
      refine r_icmp_eq_f (tgt := 32) O dX9_link_15 (by decide) hc ?_
      refine r_aload_n O 0 dX9_link_18 rfl (Or.inl rfl) ?_
      refine r_iload_n O 2 dX9_link_19 rfl ?_
      obtain ⟨x17, ex17, hf⟩ := bnd hf
      refine r_callV (av := [.int a2]) (st := []) O (c_X9_isThing ex17) mf_X9_isThing cf9 (kd_X9_isThing ex17) ml_X9_253 mi_X9_isThing mv_X9_isThing (by decide) (Nat.le_of_ble_eq_true rfl) (by decide) dX9_link_20 ?_
      by_cases hc : x17 = 0
      · rw [if_pos hc] at hf
        refine r_if_ne_f (tgt := 32) O dX9_link_23 (by decide) hc ?_
        refine r_aload_n O 0 dX9_link_26 rfl (Or.inl rfl) ?_
        refine r_iconst O (v := 1) dX9_link_27 (by decide) ?_
        obtain ⟨⟨x30, h31⟩, ex30, hf⟩ := bnd hf
        dsimp only at hf
        refine r_callV (av := [.int 1]) (st := []) O (c_X9_fail ex30) mf_X9_fail cf9 (kd_X9_fail ex30) ml_X9_106 mi_X9_fail mv_X9_fail (by decide) (Nat.le_of_ble_eq_true rfl) (by decide) dX9_link_28 ?_
        obtain rfl := Option.some.inj hf
        exact r_iret O hr rfl rfl (by decide) (by decide) dX9_link_31
      · rw [if_neg hc] at hf
        refine r_if_ne_t (tgt := 32) O dX9_link_23 (by decide) hc ?_
        refine r_aload_n O 0 dX9_link_32 rfl (Or.inl rfl) ?_
        obtain ⟨x19, ex19, hf⟩ := bnd hf
        refine r_gI O cf9 1 (by decide) rfl fl_X9_13 ex19 dX9_link_33 ?_
        by_cases hc : x19 = 0
        · rw [if_pos hc] at hf
          refine r_if_eq_t (tgt := 45) O dX9_link_36 (by decide) hc ?_
          refine r_iload_n O 1 dX9_link_45 rfl ?_
          refine r_iload_n O 2 dX9_link_46 rfl ?_
          by_cases hc : a1 = a2
          · rw [if_pos hc] at hf
            refine r_icmp_ne_f (tgt := 56) O dX9_link_47 (by decide) hc ?_
            refine r_aload_n O 0 dX9_link_50 rfl (Or.inl rfl) ?_
            refine r_iconst O (v := 3) dX9_link_51 (by decide) ?_
            obtain ⟨⟨x26, h27⟩, ex26, hf⟩ := bnd hf
            dsimp only at hf
            refine r_callV (av := [.int 3]) (st := []) O (c_X9_fail ex26) mf_X9_fail cf9 (kd_X9_fail ex26) ml_X9_106 mi_X9_fail mv_X9_fail (by decide) (Nat.le_of_ble_eq_true rfl) (by decide) dX9_link_52 ?_
            obtain rfl := Option.some.inj hf
            exact r_iret O hr rfl rfl (by decide) (by decide) dX9_link_55
          · rw [if_neg hc] at hf
            refine r_icmp_ne_t (tgt := 56) O dX9_link_47 (by decide) hc ?_
            refine r_aload_n O 0 dX9_link_56 rfl (Or.inl rfl) ?_
            obtain ⟨h21, eh21, hf⟩ := bnd hf
            refine r_callV (av := []) (st := []) O (c_X9_begun eh21) mf_X9_begun cf9 (kd_X9_begun eh21) ml_X9_260 mi_X9_begun mv_X9_begun (by decide) (Nat.le_of_ble_eq_true rfl) (by decide) dX9_link_57 ?_
            refine r_aload_n O 0 dX9_link_60 rfl (Or.inl rfl) ?_
            obtain ⟨x22, ex22, hf⟩ := bnd hf
            refine r_gP O cf9 12 (by decide) rfl fl_X9_39 ex22 dX9_link_61 ?_
            refine r_sipush O (v := 172) dX9_link_64 (by decide) ?_
            refine r_iload_n O 1 dX9_link_67 rfl ?_
            refine r_iadd O dX9_link_68 ?_
            refine r_iload_n O 2 dX9_link_69 rfl ?_
            obtain ⟨h23, eh23, hf⟩ := bnd hf
            refine r_stI O eh23 dX9_link_70 ?_
            refine r_aload_n O 0 dX9_link_71 rfl (Or.inl rfl) ?_
            obtain ⟨⟨x24, h25⟩, ex24, hf⟩ := bnd hf
            dsimp only at hf
            refine r_callV (av := []) (st := []) O (c_X9_done ex24) mf_X9_done cf9 (kd_X9_done ex24) ml_X9_267 mi_X9_done mv_X9_done (by decide) (Nat.le_of_ble_eq_true rfl) (by decide) dX9_link_72 ?_
            obtain rfl := Option.some.inj hf
            exact r_iret O hr rfl rfl (by decide) (by decide) dX9_link_75
        · rw [if_neg hc] at hf
          refine r_if_eq_f (tgt := 45) O dX9_link_36 (by decide) hc ?_
          refine r_aload_n O 0 dX9_link_39 rfl (Or.inl rfl) ?_
          refine r_iconst O (v := 2) dX9_link_40 (by decide) ?_
          obtain ⟨⟨x28, h29⟩, ex28, hf⟩ := bnd hf
          dsimp only at hf
          refine r_callV (av := [.int 2]) (st := []) O (c_X9_fail ex28) mf_X9_fail cf9 (kd_X9_fail ex28) ml_X9_106 mi_X9_fail mv_X9_fail (by decide) (Nat.le_of_ble_eq_true rfl) (by decide) dX9_link_41 ?_
          obtain rfl := Option.some.inj hf
          exact r_iret O hr rfl rfl (by decide) (by decide) dX9_link_44
def f_X9_freeze (h : AH) (a0 : Nat) (a1 : Int32) (a2 : Int32) : Option (Int32 × AH) :=
if aK h a0 = 9 then
Option.bind (pI h 9 a0 0 0) fun h1 =>
Option.bind (f_X9_isList h1 a0 a1) fun x2 =>
if x2 = 0 then
Option.bind (f_X9_fail h1 a0 1) fun w => match w with
| (x19, h20) =>
some (x19, h20)
else
Option.bind (gI h1 9 a0 1) fun x4 =>
if x4 = 0 then
if a2 < 0 then
Option.bind (f_X9_fail h1 a0 3) fun w => match w with
| (x5, h6) =>
some (x5, h6)
else
Option.bind (gP h1 9 a0 10) fun x7 =>
Option.bind (ldI h1 x7 (492 + a1)) fun x8 =>
if a2 ≤ x8 then
Option.bind (f_X9_begun h1 a0) fun h10 =>
Option.bind (gP h10 9 a0 12) fun x11 =>
Option.bind (stI h10 x11 (498 + a1) a2) fun h12 =>
Option.bind (f_X9_done h12 a0) fun w => match w with
| (x13, h14) =>
some (x13, h14)
else
Option.bind (f_X9_fail h1 a0 3) fun w => match w with
| (x15, h16) =>
some (x15, h16)
else
Option.bind (f_X9_fail h1 a0 2) fun w => match w with
| (x17, h18) =>
some (x17, h18)
else none
theorem kd_X9_freeze {h : AH} {a0 : Nat} {a1 : Int32} {a2 : Int32} {r : (Int32 × AH)} (hf : f_X9_freeze h a0 a1 a2 = some r) : aK h a0 = 9 := by
  unfold f_X9_freeze at hf
  exact (ifk hf).1
set_option maxRecDepth 100000 in
set_option maxHeartbeats 4000000 in
theorem c_X9_freeze {l : Launch} {G : GT} {h : AH} {a0 : Nat} {a1 : Int32} {a2 : Int32} {r : (Int32 × AH)} (hf : f_X9_freeze h a0 a1 a2 = some r) : Cn l yX9_freeze cX9_freeze 3 (some .int) 7 183 0 0 G h [.ref a0, .int a1, .int a2] (.ok (some (.int r.1))) r.2 := by
  refine Cn.of (by decide) (Nat.le_of_ble_eq_true rfl) ?_
  intro p e s m args below meth c O hr hx hin
  have O : OkC p l s m args meth c G cX9_freeze 3 RX9 := O
  unfold f_X9_freeze at hf
  obtain ⟨hk0, hf⟩ := ifk hf
  refine AW.sub (lv' := [(0, .ref a0), (1, .int a1), (2, .int a2)]) [0, 1, 2] rfl ?_
  refine r_aload_n O 0 dX9_freeze_0 rfl (Or.inl rfl) ?_
  refine r_iconst O (v := 0) dX9_freeze_1 (by decide) ?_
  obtain ⟨h1, eh1, hf⟩ := bnd hf
  refine r_pI O cf9 0 (by decide) rfl fl_X9_1 rfl eh1 dX9_freeze_2 ?_
  refine r_aload_n O 0 dX9_freeze_5 rfl (Or.inl rfl) ?_
  refine r_iload_n O 1 dX9_freeze_6 rfl ?_
  obtain ⟨x2, ex2, hf⟩ := bnd hf
  refine r_callV (av := [.int a1]) (st := []) O (c_X9_isList ex2) mf_X9_isList cf9 (kd_X9_isList ex2) ml_X9_257 mi_X9_isList mv_X9_isList (by decide) (Nat.le_of_ble_eq_true rfl) (by decide) dX9_freeze_7 ?_
  by_cases hc : x2 = 0
  · rw [if_pos hc] at hf
    refine r_if_ne_f (tgt := 19) O dX9_freeze_10 (by decide) hc ?_
    refine r_aload_n O 0 dX9_freeze_13 rfl (Or.inl rfl) ?_
    refine r_iconst O (v := 1) dX9_freeze_14 (by decide) ?_
    obtain ⟨⟨x19, h20⟩, ex19, hf⟩ := bnd hf
    dsimp only at hf
    refine r_callV (av := [.int 1]) (st := []) O (c_X9_fail ex19) mf_X9_fail cf9 (kd_X9_fail ex19) ml_X9_106 mi_X9_fail mv_X9_fail (by decide) (Nat.le_of_ble_eq_true rfl) (by decide) dX9_freeze_15 ?_
    obtain rfl := Option.some.inj hf
    exact r_iret O hr rfl rfl (by decide) (by decide) dX9_freeze_18
  · rw [if_neg hc] at hf
    refine r_if_ne_t (tgt := 19) O dX9_freeze_10 (by decide) hc ?_
    refine r_aload_n O 0 dX9_freeze_19 rfl (Or.inl rfl) ?_
    obtain ⟨x4, ex4, hf⟩ := bnd hf
    refine r_gI O cf9 1 (by decide) rfl fl_X9_13 ex4 dX9_freeze_20 ?_
    by_cases hc : x4 = 0
    · rw [if_pos hc] at hf
      refine r_if_eq_t (tgt := 32) O dX9_freeze_23 (by decide) hc ?_
      refine r_iload_n O 2 dX9_freeze_32 rfl ?_
      by_cases hc : a2 < 0
      · rw [if_pos hc] at hf
        refine r_if_lt_t (tgt := 50) O dX9_freeze_33 (by decide) hc ?_
        refine r_aload_n O 0 dX9_freeze_50 rfl (Or.inl rfl) ?_
        refine r_iconst O (v := 3) dX9_freeze_51 (by decide) ?_
        obtain ⟨⟨x5, h6⟩, ex5, hf⟩ := bnd hf
        dsimp only at hf
        refine r_callV (av := [.int 3]) (st := []) O (c_X9_fail ex5) mf_X9_fail cf9 (kd_X9_fail ex5) ml_X9_106 mi_X9_fail mv_X9_fail (by decide) (Nat.le_of_ble_eq_true rfl) (by decide) dX9_freeze_52 ?_
        obtain rfl := Option.some.inj hf
        exact r_iret O hr rfl rfl (by decide) (by decide) dX9_freeze_55
      · rw [if_neg hc] at hf
        refine r_if_lt_f (tgt := 50) O dX9_freeze_33 (by decide) hc ?_
        refine r_iload_n O 2 dX9_freeze_36 rfl ?_
        refine r_aload_n O 0 dX9_freeze_37 rfl (Or.inl rfl) ?_
        obtain ⟨x7, ex7, hf⟩ := bnd hf
        refine r_gP O cf9 10 (by decide) rfl fl_X9_33 ex7 dX9_freeze_38 ?_
        refine r_sipush O (v := 492) dX9_freeze_41 (by decide) ?_
        refine r_iload_n O 1 dX9_freeze_44 rfl ?_
        refine r_iadd O dX9_freeze_45 ?_
        obtain ⟨x8, ex8, hf⟩ := bnd hf
        refine r_ldI O ex8 dX9_freeze_46 ?_
        by_cases hc : a2 ≤ x8
        · rw [if_pos hc] at hf
          refine r_icmp_le_t (tgt := 56) O dX9_freeze_47 (by decide) hc ?_
          refine r_aload_n O 0 dX9_freeze_56 rfl (Or.inl rfl) ?_
          obtain ⟨h10, eh10, hf⟩ := bnd hf
          refine r_callV (av := []) (st := []) O (c_X9_begun eh10) mf_X9_begun cf9 (kd_X9_begun eh10) ml_X9_260 mi_X9_begun mv_X9_begun (by decide) (Nat.le_of_ble_eq_true rfl) (by decide) dX9_freeze_57 ?_
          refine r_aload_n O 0 dX9_freeze_60 rfl (Or.inl rfl) ?_
          obtain ⟨x11, ex11, hf⟩ := bnd hf
          refine r_gP O cf9 12 (by decide) rfl fl_X9_39 ex11 dX9_freeze_61 ?_
          refine r_sipush O (v := 498) dX9_freeze_64 (by decide) ?_
          refine r_iload_n O 1 dX9_freeze_67 rfl ?_
          refine r_iadd O dX9_freeze_68 ?_
          refine r_iload_n O 2 dX9_freeze_69 rfl ?_
          obtain ⟨h12, eh12, hf⟩ := bnd hf
          refine r_stI O eh12 dX9_freeze_70 ?_
          refine r_aload_n O 0 dX9_freeze_71 rfl (Or.inl rfl) ?_
          obtain ⟨⟨x13, h14⟩, ex13, hf⟩ := bnd hf
          dsimp only at hf
          refine r_callV (av := []) (st := []) O (c_X9_done ex13) mf_X9_done cf9 (kd_X9_done ex13) ml_X9_267 mi_X9_done mv_X9_done (by decide) (Nat.le_of_ble_eq_true rfl) (by decide) dX9_freeze_72 ?_
          obtain rfl := Option.some.inj hf
          exact r_iret O hr rfl rfl (by decide) (by decide) dX9_freeze_75
        · rw [if_neg hc] at hf
          refine r_icmp_le_f (tgt := 56) O dX9_freeze_47 (by decide) hc ?_
          refine r_aload_n O 0 dX9_freeze_50 rfl (Or.inl rfl) ?_
          refine r_iconst O (v := 3) dX9_freeze_51 (by decide) ?_
          obtain ⟨⟨x15, h16⟩, ex15, hf⟩ := bnd hf
          dsimp only at hf
          refine r_callV (av := [.int 3]) (st := []) O (c_X9_fail ex15) mf_X9_fail cf9 (kd_X9_fail ex15) ml_X9_106 mi_X9_fail mv_X9_fail (by decide) (Nat.le_of_ble_eq_true rfl) (by decide) dX9_freeze_52 ?_
          obtain rfl := Option.some.inj hf
          exact r_iret O hr rfl rfl (by decide) (by decide) dX9_freeze_55
    · rw [if_neg hc] at hf
      refine r_if_eq_f (tgt := 32) O dX9_freeze_23 (by decide) hc ?_
      refine r_aload_n O 0 dX9_freeze_26 rfl (Or.inl rfl) ?_
      refine r_iconst O (v := 2) dX9_freeze_27 (by decide) ?_
      obtain ⟨⟨x17, h18⟩, ex17, hf⟩ := bnd hf
      dsimp only at hf
      refine r_callV (av := [.int 2]) (st := []) O (c_X9_fail ex17) mf_X9_fail cf9 (kd_X9_fail ex17) ml_X9_106 mi_X9_fail mv_X9_fail (by decide) (Nat.le_of_ble_eq_true rfl) (by decide) dX9_freeze_28 ?_
      obtain rfl := Option.some.inj hf
      exact r_iret O hr rfl rfl (by decide) (by decide) dX9_freeze_31
def f_X9_begin (h : AH) (a0 : Nat) : Option AH :=
if aK h a0 = 9 then
Option.bind (gI h 9 a0 1) fun x1 =>
Option.bind (if x1 = 0 then
Option.bind (gI h 9 a0 15) fun x3 =>
if x3 = 0 then
some (0 : Int32)
else
some (1 : Int32)
else
some (1 : Int32)) fun x2 =>
Option.bind (pI h 9 a0 0 x2) fun h4 =>
Option.bind (gI h4 9 a0 0) fun x5 =>
if x5 = 0 then
Option.bind (pZ h4 9 a0 15 1) fun h6 =>
Option.bind (pI h6 9 a0 16 0) fun h7 =>
some h7
else
some h4
else none
theorem kd_X9_begin {h : AH} {a0 : Nat} {r : AH} (hf : f_X9_begin h a0 = some r) : aK h a0 = 9 := by
  unfold f_X9_begin at hf
  exact (ifk hf).1
set_option maxRecDepth 100000 in
set_option maxHeartbeats 4000000 in
theorem c_X9_begin {l : Launch} {G : GT} {h : AH} {a0 : Nat} {r : AH} (hf : f_X9_begin h a0 = some r) : Cn l yX9_begin cX9_begin 1 none 0 0 0 0 G h [.ref a0] (.ok none) r := by
  refine Cn.of (by decide) (Nat.le_of_ble_eq_true rfl) ?_
  intro p e s m args below meth c O hr hx hin
  have O : OkC p l s m args meth c G cX9_begin 1 RX9 := O
  unfold f_X9_begin at hf
  obtain ⟨hk0, hf⟩ := ifk hf
  refine AW.sub (lv' := [(0, .ref a0)]) [0] rfl ?_
  refine r_aload_n O 0 dX9_begin_0 rfl (Or.inl rfl) ?_
  refine r_aload_n O 0 dX9_begin_1 rfl (Or.inl rfl) ?_
  obtain ⟨x1, ex1, hf⟩ := bnd hf
  refine r_gI O cf9 1 (by decide) rfl fl_X9_13 ex1 dX9_begin_2 ?_
  obtain ⟨x2, hg, hf⟩ := bnd hf
  have hJ : AW p l e { frames := 0, cells := 0, slots := 0, locals := 0 } s m args below meth c G 1 (vx_MQ below (QcN G (.ok none) r) (XcN G (.ok none) r) args s 0 0 (gA G)) h 0 0 20 [(0, .ref a0)] [.int x2, .ref a0] := by
    obtain ⟨h4, eh4, hf⟩ := bnd hf
    refine r_pI O cf9 0 (by decide) rfl fl_X9_1 rfl eh4 dX9_begin_20 ?_
    refine r_aload_n O 0 dX9_begin_23 rfl (Or.inl rfl) ?_
    obtain ⟨x5, ex5, hf⟩ := bnd hf
    refine r_gI O cf9 0 (by decide) rfl fl_X9_1 ex5 dX9_begin_24 ?_
    by_cases hc : x5 = 0
    · rw [if_pos hc] at hf
      refine r_if_eq_t (tgt := 31) O dX9_begin_27 (by decide) hc ?_
      refine r_aload_n O 0 dX9_begin_31 rfl (Or.inl rfl) ?_
      refine r_iconst O (v := 1) dX9_begin_32 (by decide) ?_
      obtain ⟨h6, eh6, hf⟩ := bnd hf
      refine r_pZ O cf9 15 (by decide) rfl fl_X9_247 rfl eh6 dX9_begin_33 ?_
      refine r_aload_n O 0 dX9_begin_36 rfl (Or.inl rfl) ?_
      refine r_iconst O (v := 0) dX9_begin_37 (by decide) ?_
      obtain ⟨h7, eh7, hf⟩ := bnd hf
      refine r_pI O cf9 16 (by decide) rfl fl_X9_250 rfl eh7 dX9_begin_38 ?_
      obtain rfl := Option.some.inj hf
      exact r_vret O hr rfl rfl (by decide) (by decide) dX9_begin_41
    · rw [if_neg hc] at hf
      refine r_if_eq_f (tgt := 31) O dX9_begin_27 (by decide) hc ?_
      obtain rfl := Option.some.inj hf
      exact r_vret O hr rfl rfl (by decide) (by decide) dX9_begin_30
  clear hf
  have hf := hg
  clear hg
  by_cases hc : x1 = 0
  · rw [if_pos hc] at hf
    refine r_if_ne_f (tgt := 15) O dX9_begin_5 (by decide) hc ?_
    refine r_aload_n O 0 dX9_begin_8 rfl (Or.inl rfl) ?_
    obtain ⟨x3, ex3, hf⟩ := bnd hf
    refine r_gI O cf9 15 (by decide) rfl fl_X9_247 ex3 dX9_begin_9 ?_
    by_cases hc : x3 = 0
    · rw [if_pos hc] at hf
      refine r_if_eq_t (tgt := 19) O dX9_begin_12 (by decide) hc ?_
      refine r_iconst O (v := 0) dX9_begin_19 (by decide) ?_
      obtain rfl := oi1 hf
      refine AW.sub [0] rfl ?_
      exact hJ
    · rw [if_neg hc] at hf
      refine r_if_eq_f (tgt := 19) O dX9_begin_12 (by decide) hc ?_
      refine r_iconst O (v := 1) dX9_begin_15 (by decide) ?_
      refine r_goto (tgt := 20) O dX9_begin_16 (by decide) ?_
      obtain rfl := oi1 hf
      refine AW.sub [0] rfl ?_
      exact hJ
  · rw [if_neg hc] at hf
    refine r_if_ne_t (tgt := 15) O dX9_begin_5 (by decide) hc ?_
    refine r_iconst O (v := 1) dX9_begin_15 (by decide) ?_
    refine r_goto (tgt := 20) O dX9_begin_16 (by decide) ?_
    obtain rfl := oi1 hf
    refine AW.sub [0] rfl ?_
    exact hJ
def f_X9_end (h : AH) (a0 : Nat) : Option (Int32 × AH) :=
if aK h a0 = 9 then
Option.bind (pI h 9 a0 0 0) fun h1 =>
Option.bind (gI h1 9 a0 1) fun x2 =>
if x2 = 0 then
Option.bind (gI h1 9 a0 15) fun x5 =>
if x5 = 0 then
Option.bind (f_X9_fail h1 a0 1) fun w => match w with
| (x9, h10) =>
some (x9, h10)
else
Option.bind (pZ h1 9 a0 15 0) fun h6 =>
Option.bind (f_X9_judge h6 a0 0) fun w => match w with
| (x7, h8) =>
some (x7, h8)
else
Option.bind (f_X9_fail h1 a0 1) fun w => match w with
| (x3, h4) =>
some (x3, h4)
else none
theorem kd_X9_end {h : AH} {a0 : Nat} {r : (Int32 × AH)} (hf : f_X9_end h a0 = some r) : aK h a0 = 9 := by
  unfold f_X9_end at hf
  exact (ifk hf).1
set_option maxRecDepth 100000 in
set_option maxHeartbeats 4000000 in
theorem c_X9_end {l : Launch} {G : GT} {h : AH} {a0 : Nat} {r : (Int32 × AH)} (hf : f_X9_end h a0 = some r) : Cn l yX9_end cX9_end 1 (some .int) 6 160 0 0 G h [.ref a0] (.ok (some (.int r.1))) r.2 := by
  refine Cn.of (by decide) (Nat.le_of_ble_eq_true rfl) ?_
  intro p e s m args below meth c O hr hx hin
  have O : OkC p l s m args meth c G cX9_end 1 RX9 := O
  unfold f_X9_end at hf
  obtain ⟨hk0, hf⟩ := ifk hf
  refine AW.sub (lv' := [(0, .ref a0)]) [0] rfl ?_
  refine r_aload_n O 0 dX9_end_0 rfl (Or.inl rfl) ?_
  refine r_iconst O (v := 0) dX9_end_1 (by decide) ?_
  obtain ⟨h1, eh1, hf⟩ := bnd hf
  refine r_pI O cf9 0 (by decide) rfl fl_X9_1 rfl eh1 dX9_end_2 ?_
  refine r_aload_n O 0 dX9_end_5 rfl (Or.inl rfl) ?_
  obtain ⟨x2, ex2, hf⟩ := bnd hf
  refine r_gI O cf9 1 (by decide) rfl fl_X9_13 ex2 dX9_end_6 ?_
  by_cases hc : x2 = 0
  · rw [if_pos hc] at hf
    refine r_if_ne_f (tgt := 19) O dX9_end_9 (by decide) hc ?_
    refine r_aload_n O 0 dX9_end_12 rfl (Or.inl rfl) ?_
    obtain ⟨x5, ex5, hf⟩ := bnd hf
    refine r_gI O cf9 15 (by decide) rfl fl_X9_247 ex5 dX9_end_13 ?_
    by_cases hc : x5 = 0
    · rw [if_pos hc] at hf
      refine r_if_ne_f (tgt := 25) O dX9_end_16 (by decide) hc ?_
      refine r_aload_n O 0 dX9_end_19 rfl (Or.inl rfl) ?_
      refine r_iconst O (v := 1) dX9_end_20 (by decide) ?_
      obtain ⟨⟨x9, h10⟩, ex9, hf⟩ := bnd hf
      dsimp only at hf
      refine r_callV (av := [.int 1]) (st := []) O (c_X9_fail ex9) mf_X9_fail cf9 (kd_X9_fail ex9) ml_X9_106 mi_X9_fail mv_X9_fail (by decide) (Nat.le_of_ble_eq_true rfl) (by decide) dX9_end_21 ?_
      obtain rfl := Option.some.inj hf
      exact r_iret O hr rfl rfl (by decide) (by decide) dX9_end_24
    · rw [if_neg hc] at hf
      refine r_if_ne_t (tgt := 25) O dX9_end_16 (by decide) hc ?_
      refine r_aload_n O 0 dX9_end_25 rfl (Or.inl rfl) ?_
      refine r_iconst O (v := 0) dX9_end_26 (by decide) ?_
      obtain ⟨h6, eh6, hf⟩ := bnd hf
      refine r_pZ O cf9 15 (by decide) rfl fl_X9_247 rfl eh6 dX9_end_27 ?_
      refine r_aload_n O 0 dX9_end_30 rfl (Or.inl rfl) ?_
      refine r_iconst O (v := 0) dX9_end_31 (by decide) ?_
      obtain ⟨⟨x7, h8⟩, ex7, hf⟩ := bnd hf
      dsimp only at hf
      refine r_callV (av := [.int 0]) (st := []) O (c_X9_judge ex7) mf_X9_judge cf9 (kd_X9_judge ex7) ml_X9_123 mi_X9_judge mv_X9_judge (by decide) (Nat.le_of_ble_eq_true rfl) (by decide) dX9_end_32 ?_
      obtain rfl := Option.some.inj hf
      exact r_iret O hr rfl rfl (by decide) (by decide) dX9_end_35
  · rw [if_neg hc] at hf
    refine r_if_ne_t (tgt := 19) O dX9_end_9 (by decide) hc ?_
    refine r_aload_n O 0 dX9_end_19 rfl (Or.inl rfl) ?_
    refine r_iconst O (v := 1) dX9_end_20 (by decide) ?_
    obtain ⟨⟨x3, h4⟩, ex3, hf⟩ := bnd hf
    dsimp only at hf
    refine r_callV (av := [.int 1]) (st := []) O (c_X9_fail ex3) mf_X9_fail cf9 (kd_X9_fail ex3) ml_X9_106 mi_X9_fail mv_X9_fail (by decide) (Nat.le_of_ble_eq_true rfl) (by decide) dX9_end_21 ?_
    obtain rfl := Option.some.inj hf
    exact r_iret O hr rfl rfl (by decide) (by decide) dX9_end_24
def f_X9_drop (h : AH) (a0 : Nat) : Option (Int32 × AH) :=
if aK h a0 = 9 then
Option.bind (pI h 9 a0 0 0) fun h1 =>
Option.bind (gI h1 9 a0 1) fun x2 =>
if x2 = 0 then
Option.bind (gI h1 9 a0 15) fun x5 =>
if x5 = 0 then
Option.bind (f_X9_fail h1 a0 1) fun w => match w with
| (x12, h13) =>
some (x12, h13)
else
Option.bind (pZ h1 9 a0 15 0) fun h6 =>
Option.bind (gP h6 9 a0 11) fun x7 =>
Option.bind (gP h6 9 a0 10) fun x8 =>
Option.bind (f_X9_copyInts h6 x7 0 x8 0 504) fun h10 =>
Option.bind (gI h10 9 a0 16) fun x11 =>
some (x11, h10)
else
Option.bind (f_X9_fail h1 a0 1) fun w => match w with
| (x3, h4) =>
some (x3, h4)
else none
theorem kd_X9_drop {h : AH} {a0 : Nat} {r : (Int32 × AH)} (hf : f_X9_drop h a0 = some r) : aK h a0 = 9 := by
  unfold f_X9_drop at hf
  exact (ifk hf).1
set_option maxRecDepth 100000 in
set_option maxHeartbeats 4000000 in
theorem c_X9_drop {l : Launch} {G : GT} {h : AH} {a0 : Nat} {r : (Int32 × AH)} (hf : f_X9_drop h a0 = some r) : Cn l yX9_drop cX9_drop 1 (some .int) 1 25 0 0 G h [.ref a0] (.ok (some (.int r.1))) r.2 := by
  refine Cn.of (by decide) (Nat.le_of_ble_eq_true rfl) ?_
  intro p e s m args below meth c O hr hx hin
  have O : OkC p l s m args meth c G cX9_drop 1 RX9 := O
  unfold f_X9_drop at hf
  obtain ⟨hk0, hf⟩ := ifk hf
  refine AW.sub (lv' := [(0, .ref a0)]) [0] rfl ?_
  refine r_aload_n O 0 dX9_drop_0 rfl (Or.inl rfl) ?_
  refine r_iconst O (v := 0) dX9_drop_1 (by decide) ?_
  obtain ⟨h1, eh1, hf⟩ := bnd hf
  refine r_pI O cf9 0 (by decide) rfl fl_X9_1 rfl eh1 dX9_drop_2 ?_
  refine r_aload_n O 0 dX9_drop_5 rfl (Or.inl rfl) ?_
  obtain ⟨x2, ex2, hf⟩ := bnd hf
  refine r_gI O cf9 1 (by decide) rfl fl_X9_13 ex2 dX9_drop_6 ?_
  by_cases hc : x2 = 0
  · rw [if_pos hc] at hf
    refine r_if_ne_f (tgt := 19) O dX9_drop_9 (by decide) hc ?_
    refine r_aload_n O 0 dX9_drop_12 rfl (Or.inl rfl) ?_
    obtain ⟨x5, ex5, hf⟩ := bnd hf
    refine r_gI O cf9 15 (by decide) rfl fl_X9_247 ex5 dX9_drop_13 ?_
    by_cases hc : x5 = 0
    · rw [if_pos hc] at hf
      refine r_if_ne_f (tgt := 25) O dX9_drop_16 (by decide) hc ?_
      refine r_aload_n O 0 dX9_drop_19 rfl (Or.inl rfl) ?_
      refine r_iconst O (v := 1) dX9_drop_20 (by decide) ?_
      obtain ⟨⟨x12, h13⟩, ex12, hf⟩ := bnd hf
      dsimp only at hf
      refine r_callV (av := [.int 1]) (st := []) O (c_X9_fail ex12) mf_X9_fail cf9 (kd_X9_fail ex12) ml_X9_106 mi_X9_fail mv_X9_fail (by decide) (Nat.le_of_ble_eq_true rfl) (by decide) dX9_drop_21 ?_
      obtain rfl := Option.some.inj hf
      exact r_iret O hr rfl rfl (by decide) (by decide) dX9_drop_24
    · rw [if_neg hc] at hf
      refine r_if_ne_t (tgt := 25) O dX9_drop_16 (by decide) hc ?_
      refine r_aload_n O 0 dX9_drop_25 rfl (Or.inl rfl) ?_
      refine r_iconst O (v := 0) dX9_drop_26 (by decide) ?_
      obtain ⟨h6, eh6, hf⟩ := bnd hf
      refine r_pZ O cf9 15 (by decide) rfl fl_X9_247 rfl eh6 dX9_drop_27 ?_
      refine r_aload_n O 0 dX9_drop_30 rfl (Or.inl rfl) ?_
      obtain ⟨x7, ex7, hf⟩ := bnd hf
      refine r_gP O cf9 11 (by decide) rfl fl_X9_36 ex7 dX9_drop_31 ?_
      refine r_iconst O (v := 0) dX9_drop_34 (by decide) ?_
      refine r_aload_n O 0 dX9_drop_35 rfl (Or.inl rfl) ?_
      obtain ⟨x8, ex8, hf⟩ := bnd hf
      refine r_gP O cf9 10 (by decide) rfl fl_X9_33 ex8 dX9_drop_36 ?_
      refine r_iconst O (v := 0) dX9_drop_39 (by decide) ?_
      refine r_sipush O (v := 504) dX9_drop_40 (by decide) ?_
      obtain ⟨h10, eh10, hf⟩ := bnd hf
      refine r_callS (av := [.ref x7, .int 0, .ref x8, .int 0, .int 504]) (st := []) O (c_X9_copyInts eh10) mf_X9_copyInts ml_X9_96 ms_X9_copyInts (by decide) (Nat.le_of_ble_eq_true rfl) (by decide) dX9_drop_43 ?_
      refine r_aload_n O 0 dX9_drop_46 rfl (Or.inl rfl) ?_
      obtain ⟨x11, ex11, hf⟩ := bnd hf
      refine r_gI O cf9 16 (by decide) rfl fl_X9_250 ex11 dX9_drop_47 ?_
      obtain rfl := Option.some.inj hf
      exact r_iret O hr rfl rfl (by decide) (by decide) dX9_drop_50
  · rw [if_neg hc] at hf
    refine r_if_ne_t (tgt := 19) O dX9_drop_9 (by decide) hc ?_
    refine r_aload_n O 0 dX9_drop_19 rfl (Or.inl rfl) ?_
    refine r_iconst O (v := 1) dX9_drop_20 (by decide) ?_
    obtain ⟨⟨x3, h4⟩, ex3, hf⟩ := bnd hf
    dsimp only at hf
    refine r_callV (av := [.int 1]) (st := []) O (c_X9_fail ex3) mf_X9_fail cf9 (kd_X9_fail ex3) ml_X9_106 mi_X9_fail mv_X9_fail (by decide) (Nat.le_of_ble_eq_true rfl) (by decide) dX9_drop_21 ?_
    obtain rfl := Option.some.inj hf
    exact r_iret O hr rfl rfl (by decide) (by decide) dX9_drop_24
def f_X9_undo_71 (l0 : Nat) (n : Nat) (h : AH) (l1 : Int32) (l2 : Int32) : Option Int32 := match n with
| 0 => none
| n + 1 =>
if 258 ≤ l2 then
some l1
else
Option.bind (gP h 9 l0 11) fun x14 =>
Option.bind (f_X9_isCell h l0 x14 l2) fun x15 =>
Option.bind (gP h 9 l0 12) fun x17 =>
Option.bind (f_X9_isCell h l0 x17 l2) fun x18 =>
Option.bind (if x15 = x18 then
if x18 = 0 then
some (0 : Int32)
else
Option.bind (gP h 9 l0 13) fun x21 =>
Option.bind (ldJ h x21 l2) fun x22 =>
Option.bind (gP h 9 l0 19) fun x23 =>
Option.bind (gI h 9 l0 17) fun x24 =>
Option.bind (ldJ h x23 ((x24 * 258) + l2)) fun x25 =>
if (lg_cmp x22 x25) = 0 then
some (0 : Int32)
else
some (1 : Int32)
else
some (1 : Int32)) fun x20 =>
f_X9_undo_71 l0 n h (l1 + x20) (l2 + 1)
def f_X9_undo (h : AH) (a0 : Nat) : Option (Int32 × AH) :=
if aK h a0 = 9 then
Option.bind (pI h 9 a0 0 0) fun h1 =>
Option.bind (gI h1 9 a0 1) fun x2 =>
if x2 = 0 then
Option.bind (gI h1 9 a0 15) fun x5 =>
if x5 = 0 then
Option.bind (gI h1 9 a0 17) fun x6 =>
if x6 = 0 then
some ((-1), h1)
else
Option.bind (gI h1 9 a0 17) fun x7 =>
Option.bind (pI h1 9 a0 17 (x7 - 1)) fun h8 =>
Option.bind (gP h8 9 a0 18) fun x9 =>
Option.bind (gI h8 9 a0 17) fun x10 =>
Option.bind (gP h8 9 a0 12) fun x11 =>
Option.bind (f_X9_copyInts h8 x9 (x10 * 504) x11 0 504) fun h13 =>
Option.bind (f_X9_undo_71 a0 FU h13 0 0) fun x26 =>
Option.bind (gP h13 9 a0 12) fun x27 =>
Option.bind (gP h13 9 a0 11) fun x28 =>
Option.bind (f_X9_copyInts h13 x27 0 x28 0 504) fun h30 =>
Option.bind (gP h30 9 a0 12) fun x31 =>
Option.bind (gP h30 9 a0 10) fun x32 =>
Option.bind (f_X9_copyInts h30 x31 0 x32 0 504) fun h34 =>
Option.bind (gP h34 9 a0 19) fun x35 =>
Option.bind (gI h34 9 a0 17) fun x36 =>
Option.bind (gP h34 9 a0 13) fun x37 =>
Option.bind (f_X9_copyLongs h34 x35 (x36 * 258) x37 0 258) fun h39 =>
Option.bind (pI h39 9 a0 20 0) fun h40 =>
some (x26, h40)
else
Option.bind (f_X9_fail h1 a0 1) fun w => match w with
| (x41, h42) =>
some (x41, h42)
else
Option.bind (f_X9_fail h1 a0 1) fun w => match w with
| (x3, h4) =>
some (x3, h4)
else none
set_option maxRecDepth 100000 in
set_option maxHeartbeats 4000000 in
theorem s_X9_undo_71 {p : Program} {l : Launch} {e : Env} {s : State} {m : MethodId} {args : Array Value} {below : List Frame} {meth : Method} {c : Code} {G : GT} {Q : State → Prop} (O : OkC p l s m args meth c G cX9_undo 5 RX9) {l0 : Nat} {h : AH} {w1 : Int32} (kk : AW p l e { frames := 2, cells := 0, slots := 0, locals := 42 } s m args below meth c G 5 Q h 0 0 149 [(0, .ref l0), (1, .int w1)] []) : ∀ (n : Nat), ∀ (l1 : Int32) (l2 : Int32), f_X9_undo_71 l0 n h l1 l2 = some w1 → AW p l e { frames := 2, cells := 0, slots := 0, locals := 42 } s m args below meth c G 5 Q h 0 0 71 [(0, .ref l0), (1, .int l1), (2, .int l2)] [] := by
  intro n
  induction n with
  | zero =>
    intro l1 l2 hf
    simp [f_X9_undo_71] at hf
  | succ n ih =>
    intro l1 l2 hf
    unfold f_X9_undo_71 at hf
    refine r_iload_n O 2 dX9_undo_71 rfl ?_
    refine r_sipush O (v := 258) dX9_undo_72 (by decide) ?_
    by_cases hc : 258 ≤ l2
    · rw [if_pos hc] at hf
      refine r_icmp_ge_t (tgt := 149) O dX9_undo_75 (by decide) hc ?_
      obtain rfl := oi1 hf
      refine AW.sub [0, 1] rfl ?_
      exact kk
    · rw [if_neg hc] at hf
      refine r_icmp_ge_f (tgt := 149) O dX9_undo_75 (by decide) hc ?_
      refine r_aload_n O 0 dX9_undo_78 rfl (Or.inl rfl) ?_
      refine r_aload_n O 0 dX9_undo_79 rfl (Or.inl rfl) ?_
      obtain ⟨x14, ex14, hf⟩ := bnd hf
      refine r_gP O cf9 11 (by decide) rfl fl_X9_36 ex14 dX9_undo_80 ?_
      refine r_iload_n O 2 dX9_undo_83 rfl ?_
      obtain ⟨x15, ex15, hf⟩ := bnd hf
      refine r_callV (av := [.ref x14, .int l2]) (st := []) O (c_X9_isCell ex15) mf_X9_isCell cf9 (kd_X9_isCell ex15) ml_X9_162 mi_X9_isCell mv_X9_isCell (by decide) (Nat.le_of_ble_eq_true rfl) (by decide) dX9_undo_84 ?_
      refine r_istore_n O [(3, .int x15), (0, .ref l0), (1, .int l1), (2, .int l2)] dX9_undo_87 (by decide) rfl ?_
      refine r_aload_n O 1 dX9_undo_88 rfl (Or.inl rfl) ?_
      refine r_aload_n O 1 dX9_undo_89 rfl (Or.inl rfl) ?_
      obtain ⟨x17, ex17, hf⟩ := bnd hf
      refine r_gP O cf9 12 (by decide) rfl fl_X9_39 ex17 dX9_undo_90 ?_
      refine r_iload_n O 3 dX9_undo_93 rfl ?_
      obtain ⟨x18, ex18, hf⟩ := bnd hf
      refine r_callV (av := [.ref x17, .int l2]) (st := []) O (c_X9_isCell ex18) mf_X9_isCell cf9 (kd_X9_isCell ex18) ml_X9_162 mi_X9_isCell mv_X9_isCell (by decide) (Nat.le_of_ble_eq_true rfl) (by decide) dX9_undo_94 ?_
      refine r_istore O [(4, .int x18), (3, .int x15), (0, .ref l0), (1, .int l1), (2, .int l2)] dX9_undo_97 (by decide) rfl ?_
      refine r_iload_n O 3 dX9_undo_99 rfl ?_
      refine r_iload_n O 1 dX9_undo_100 rfl ?_
      refine r_iload O 0 dX9_undo_101 rfl ?_
      obtain ⟨x20, hg, hf⟩ := bnd hf
      have hJ : AW p l e { frames := 2, cells := 0, slots := 0, locals := 42 } s m args below meth c G 5 Q h 0 0 141 [(0, .ref l0), (2, .int l2)] [.int x20, .int l1] := by
        refine r_iadd O dX9_undo_141 ?_
        refine r_istore_n O [(1, .int (l1 + x20)), (0, .ref l0), (2, .int l2)] dX9_undo_142 (by decide) rfl ?_
        refine r_iinc O 2 [(2, .int (l2 + 1)), (1, .int (l1 + x20)), (0, .ref l0)] dX9_undo_143 rfl rfl (by decide) rfl ?_
        refine r_goto (tgt := 71) O dX9_undo_146 (by decide) ?_
        refine AW.sub [2, 1, 0] rfl ?_
        exact ih _ _ hf
      clear hf
      have hf := hg
      clear hg
      by_cases hc : x15 = x18
      · rw [if_pos hc] at hf
        refine r_icmp_ne_f (tgt := 136) O dX9_undo_103 (by decide) hc ?_
        refine r_iload O 0 dX9_undo_106 rfl ?_
        by_cases hc : x18 = 0
        · rw [if_pos hc] at hf
          refine r_if_eq_t (tgt := 140) O dX9_undo_108 (by decide) hc ?_
          refine r_iconst O (v := 0) dX9_undo_140 (by decide) ?_
          obtain rfl := oi1 hf
          refine AW.sub [2, 4] rfl ?_
          exact hJ
        · rw [if_neg hc] at hf
          refine r_if_eq_f (tgt := 140) O dX9_undo_108 (by decide) hc ?_
          refine r_aload_n O 2 dX9_undo_111 rfl (Or.inl rfl) ?_
          obtain ⟨x21, ex21, hf⟩ := bnd hf
          refine r_gP O cf9 13 (by decide) rfl fl_X9_42 ex21 dX9_undo_112 ?_
          refine r_iload_n O 4 dX9_undo_115 rfl ?_
          obtain ⟨x22, ex22, hf⟩ := bnd hf
          refine r_ldJ O ex22 dX9_undo_116 ?_
          refine r_aload_n O 2 dX9_undo_117 rfl (Or.inl rfl) ?_
          obtain ⟨x23, ex23, hf⟩ := bnd hf
          refine r_gP O cf9 19 (by decide) rfl fl_X9_52 ex23 dX9_undo_118 ?_
          refine r_aload_n O 2 dX9_undo_121 rfl (Or.inl rfl) ?_
          obtain ⟨x24, ex24, hf⟩ := bnd hf
          refine r_gI O cf9 17 (by decide) rfl fl_X9_244 ex24 dX9_undo_122 ?_
          refine r_sipush O (v := 258) dX9_undo_125 (by decide) ?_
          refine r_imul O dX9_undo_128 ?_
          refine r_iload_n O 4 dX9_undo_129 rfl ?_
          refine r_iadd O dX9_undo_130 ?_
          obtain ⟨x25, ex25, hf⟩ := bnd hf
          refine r_ldJ O ex25 dX9_undo_131 ?_
          refine r_lcmp O dX9_undo_132 ?_
          by_cases hc : (lg_cmp x22 x25) = 0
          · rw [if_pos hc] at hf
            refine r_if_eq_t (tgt := 140) O dX9_undo_133 (by decide) hc ?_
            refine r_iconst O (v := 0) dX9_undo_140 (by decide) ?_
            obtain rfl := oi1 hf
            refine AW.sub [2, 4] rfl ?_
            exact hJ
          · rw [if_neg hc] at hf
            refine r_if_eq_f (tgt := 140) O dX9_undo_133 (by decide) hc ?_
            refine r_iconst O (v := 1) dX9_undo_136 (by decide) ?_
            refine r_goto (tgt := 141) O dX9_undo_137 (by decide) ?_
            obtain rfl := oi1 hf
            refine AW.sub [2, 4] rfl ?_
            exact hJ
      · rw [if_neg hc] at hf
        refine r_icmp_ne_t (tgt := 136) O dX9_undo_103 (by decide) hc ?_
        refine r_iconst O (v := 1) dX9_undo_136 (by decide) ?_
        refine r_goto (tgt := 141) O dX9_undo_137 (by decide) ?_
        obtain rfl := oi1 hf
        refine AW.sub [2, 4] rfl ?_
        exact hJ
theorem kd_X9_undo {h : AH} {a0 : Nat} {r : (Int32 × AH)} (hf : f_X9_undo h a0 = some r) : aK h a0 = 9 := by
  unfold f_X9_undo at hf
  exact (ifk hf).1
set_option maxRecDepth 100000 in
set_option maxHeartbeats 4000000 in
theorem c_X9_undo {l : Launch} {G : GT} {h : AH} {a0 : Nat} {r : (Int32 × AH)} (hf : f_X9_undo h a0 = some r) : Cn l yX9_undo cX9_undo 5 (some .int) 2 42 0 0 G h [.ref a0] (.ok (some (.int r.1))) r.2 := by
  refine Cn.of (by decide) (Nat.le_of_ble_eq_true rfl) ?_
  intro p e s m args below meth c O hr hx hin
  have O : OkC p l s m args meth c G cX9_undo 5 RX9 := O
  unfold f_X9_undo at hf
  obtain ⟨hk0, hf⟩ := ifk hf
  refine AW.sub (lv' := [(0, .ref a0)]) [0] rfl ?_
  refine r_aload_n O 0 dX9_undo_0 rfl (Or.inl rfl) ?_
  refine r_iconst O (v := 0) dX9_undo_1 (by decide) ?_
  obtain ⟨h1, eh1, hf⟩ := bnd hf
  refine r_pI O cf9 0 (by decide) rfl fl_X9_1 rfl eh1 dX9_undo_2 ?_
  refine r_aload_n O 0 dX9_undo_5 rfl (Or.inl rfl) ?_
  obtain ⟨x2, ex2, hf⟩ := bnd hf
  refine r_gI O cf9 1 (by decide) rfl fl_X9_13 ex2 dX9_undo_6 ?_
  by_cases hc : x2 = 0
  · rw [if_pos hc] at hf
    refine r_if_ne_f (tgt := 19) O dX9_undo_9 (by decide) hc ?_
    refine r_aload_n O 0 dX9_undo_12 rfl (Or.inl rfl) ?_
    obtain ⟨x5, ex5, hf⟩ := bnd hf
    refine r_gI O cf9 15 (by decide) rfl fl_X9_247 ex5 dX9_undo_13 ?_
    by_cases hc : x5 = 0
    · rw [if_pos hc] at hf
      refine r_if_eq_t (tgt := 25) O dX9_undo_16 (by decide) hc ?_
      refine r_aload_n O 0 dX9_undo_25 rfl (Or.inl rfl) ?_
      obtain ⟨x6, ex6, hf⟩ := bnd hf
      refine r_gI O cf9 17 (by decide) rfl fl_X9_244 ex6 dX9_undo_26 ?_
      by_cases hc : x6 = 0
      · rw [if_pos hc] at hf
        refine r_if_ne_f (tgt := 34) O dX9_undo_29 (by decide) hc ?_
        refine r_iconst O (v := -1) dX9_undo_32 (by decide) ?_
        obtain rfl := Option.some.inj hf
        exact r_iret O hr rfl rfl (by decide) (by decide) dX9_undo_33
      · rw [if_neg hc] at hf
        refine r_if_ne_t (tgt := 34) O dX9_undo_29 (by decide) hc ?_
        refine r_aload_n O 0 dX9_undo_34 rfl (Or.inl rfl) ?_
        refine r_dup O dX9_undo_35 rfl ?_
        obtain ⟨x7, ex7, hf⟩ := bnd hf
        refine r_gI O cf9 17 (by decide) rfl fl_X9_244 ex7 dX9_undo_36 ?_
        refine r_iconst O (v := 1) dX9_undo_39 (by decide) ?_
        refine r_isub O dX9_undo_40 ?_
        obtain ⟨h8, eh8, hf⟩ := bnd hf
        refine r_pI O cf9 17 (by decide) rfl fl_X9_244 rfl eh8 dX9_undo_41 ?_
        refine r_aload_n O 0 dX9_undo_44 rfl (Or.inl rfl) ?_
        obtain ⟨x9, ex9, hf⟩ := bnd hf
        refine r_gP O cf9 18 (by decide) rfl fl_X9_49 ex9 dX9_undo_45 ?_
        refine r_aload_n O 0 dX9_undo_48 rfl (Or.inl rfl) ?_
        obtain ⟨x10, ex10, hf⟩ := bnd hf
        refine r_gI O cf9 17 (by decide) rfl fl_X9_244 ex10 dX9_undo_49 ?_
        refine r_sipush O (v := 504) dX9_undo_52 (by decide) ?_
        refine r_imul O dX9_undo_55 ?_
        refine r_aload_n O 0 dX9_undo_56 rfl (Or.inl rfl) ?_
        obtain ⟨x11, ex11, hf⟩ := bnd hf
        refine r_gP O cf9 12 (by decide) rfl fl_X9_39 ex11 dX9_undo_57 ?_
        refine r_iconst O (v := 0) dX9_undo_60 (by decide) ?_
        refine r_sipush O (v := 504) dX9_undo_61 (by decide) ?_
        obtain ⟨h13, eh13, hf⟩ := bnd hf
        refine r_callS (av := [.ref x9, .int (x10 * 504), .ref x11, .int 0, .int 504]) (st := []) O (c_X9_copyInts eh13) mf_X9_copyInts ml_X9_96 ms_X9_copyInts (by decide) (Nat.le_of_ble_eq_true rfl) (by decide) dX9_undo_64 ?_
        refine r_iconst O (v := 0) dX9_undo_67 (by decide) ?_
        refine r_istore_n O [(1, .int 0), (0, .ref a0)] dX9_undo_68 (by decide) rfl ?_
        refine r_iconst O (v := 0) dX9_undo_69 (by decide) ?_
        refine r_istore_n O [(2, .int 0), (1, .int 0), (0, .ref a0)] dX9_undo_70 (by decide) rfl ?_
        obtain ⟨x26, hw, hf⟩ := bnd hf
        refine AW.sub [2, 1, 0] rfl ?_
        refine s_X9_undo_71 O ?_ _ _ _ hw
        refine r_aload_n O 0 dX9_undo_149 rfl (Or.inl rfl) ?_
        obtain ⟨x27, ex27, hf⟩ := bnd hf
        refine r_gP O cf9 12 (by decide) rfl fl_X9_39 ex27 dX9_undo_150 ?_
        refine r_iconst O (v := 0) dX9_undo_153 (by decide) ?_
        refine r_aload_n O 0 dX9_undo_154 rfl (Or.inl rfl) ?_
        obtain ⟨x28, ex28, hf⟩ := bnd hf
        refine r_gP O cf9 11 (by decide) rfl fl_X9_36 ex28 dX9_undo_155 ?_
        refine r_iconst O (v := 0) dX9_undo_158 (by decide) ?_
        refine r_sipush O (v := 504) dX9_undo_159 (by decide) ?_
        obtain ⟨h30, eh30, hf⟩ := bnd hf
        refine r_callS (av := [.ref x27, .int 0, .ref x28, .int 0, .int 504]) (st := []) O (c_X9_copyInts eh30) mf_X9_copyInts ml_X9_96 ms_X9_copyInts (by decide) (Nat.le_of_ble_eq_true rfl) (by decide) dX9_undo_162 ?_
        refine r_aload_n O 0 dX9_undo_165 rfl (Or.inl rfl) ?_
        obtain ⟨x31, ex31, hf⟩ := bnd hf
        refine r_gP O cf9 12 (by decide) rfl fl_X9_39 ex31 dX9_undo_166 ?_
        refine r_iconst O (v := 0) dX9_undo_169 (by decide) ?_
        refine r_aload_n O 0 dX9_undo_170 rfl (Or.inl rfl) ?_
        obtain ⟨x32, ex32, hf⟩ := bnd hf
        refine r_gP O cf9 10 (by decide) rfl fl_X9_33 ex32 dX9_undo_171 ?_
        refine r_iconst O (v := 0) dX9_undo_174 (by decide) ?_
        refine r_sipush O (v := 504) dX9_undo_175 (by decide) ?_
        obtain ⟨h34, eh34, hf⟩ := bnd hf
        refine r_callS (av := [.ref x31, .int 0, .ref x32, .int 0, .int 504]) (st := []) O (c_X9_copyInts eh34) mf_X9_copyInts ml_X9_96 ms_X9_copyInts (by decide) (Nat.le_of_ble_eq_true rfl) (by decide) dX9_undo_178 ?_
        refine r_aload_n O 0 dX9_undo_181 rfl (Or.inl rfl) ?_
        obtain ⟨x35, ex35, hf⟩ := bnd hf
        refine r_gP O cf9 19 (by decide) rfl fl_X9_52 ex35 dX9_undo_182 ?_
        refine r_aload_n O 0 dX9_undo_185 rfl (Or.inl rfl) ?_
        obtain ⟨x36, ex36, hf⟩ := bnd hf
        refine r_gI O cf9 17 (by decide) rfl fl_X9_244 ex36 dX9_undo_186 ?_
        refine r_sipush O (v := 258) dX9_undo_189 (by decide) ?_
        refine r_imul O dX9_undo_192 ?_
        refine r_aload_n O 0 dX9_undo_193 rfl (Or.inl rfl) ?_
        obtain ⟨x37, ex37, hf⟩ := bnd hf
        refine r_gP O cf9 13 (by decide) rfl fl_X9_42 ex37 dX9_undo_194 ?_
        refine r_iconst O (v := 0) dX9_undo_197 (by decide) ?_
        refine r_sipush O (v := 258) dX9_undo_198 (by decide) ?_
        obtain ⟨h39, eh39, hf⟩ := bnd hf
        refine r_callS (av := [.ref x35, .int (x36 * 258), .ref x37, .int 0, .int 258]) (st := []) O (c_X9_copyLongs eh39) mf_X9_copyLongs ml_X9_231 ms_X9_copyLongs (by decide) (Nat.le_of_ble_eq_true rfl) (by decide) dX9_undo_201 ?_
        refine r_aload_n O 0 dX9_undo_204 rfl (Or.inl rfl) ?_
        refine r_iconst O (v := 0) dX9_undo_205 (by decide) ?_
        obtain ⟨h40, eh40, hf⟩ := bnd hf
        refine r_pI O cf9 20 (by decide) rfl fl_X9_235 rfl eh40 dX9_undo_206 ?_
        refine r_iload_n O 1 dX9_undo_209 rfl ?_
        obtain rfl := Option.some.inj hf
        exact r_iret O hr rfl rfl (by decide) (by decide) dX9_undo_210
    · rw [if_neg hc] at hf
      refine r_if_eq_f (tgt := 25) O dX9_undo_16 (by decide) hc ?_
      refine r_aload_n O 0 dX9_undo_19 rfl (Or.inl rfl) ?_
      refine r_iconst O (v := 1) dX9_undo_20 (by decide) ?_
      obtain ⟨⟨x41, h42⟩, ex41, hf⟩ := bnd hf
      dsimp only at hf
      refine r_callV (av := [.int 1]) (st := []) O (c_X9_fail ex41) mf_X9_fail cf9 (kd_X9_fail ex41) ml_X9_106 mi_X9_fail mv_X9_fail (by decide) (Nat.le_of_ble_eq_true rfl) (by decide) dX9_undo_21 ?_
      obtain rfl := Option.some.inj hf
      exact r_iret O hr rfl rfl (by decide) (by decide) dX9_undo_24
  · rw [if_neg hc] at hf
    refine r_if_ne_t (tgt := 19) O dX9_undo_9 (by decide) hc ?_
    refine r_aload_n O 0 dX9_undo_19 rfl (Or.inl rfl) ?_
    refine r_iconst O (v := 1) dX9_undo_20 (by decide) ?_
    obtain ⟨⟨x3, h4⟩, ex3, hf⟩ := bnd hf
    dsimp only at hf
    refine r_callV (av := [.int 1]) (st := []) O (c_X9_fail ex3) mf_X9_fail cf9 (kd_X9_fail ex3) ml_X9_106 mi_X9_fail mv_X9_fail (by decide) (Nat.le_of_ble_eq_true rfl) (by decide) dX9_undo_21 ?_
    obtain rfl := Option.some.inj hf
    exact r_iret O hr rfl rfl (by decide) (by decide) dX9_undo_24
