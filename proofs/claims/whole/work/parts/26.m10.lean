def f_X8_fact (h : AH) (a0 : Nat) (a1 : Int32) (a2 : Int32) (a3 : Int32) : Option (Except Nat Int32 × AH) :=
if aK h a0 = 8 then
Option.bind (f_X8_needThing h a0 a1) fun w => match w with
| (.error k9, h2) => some (.error k9, h2)
| (.ok x1, h2) =>
Option.bind (f_X8_needClosedBook h2 a0) fun w => match w with
| (.error k9, h4) => some (.error k9, h4)
| (.ok x3, h4) =>
Option.bind (if a2 < 0 then
some (0 : Int32)
else
if 4 ≤ a2 then
some (0 : Int32)
else
some (1 : Int32)) fun x5 =>
Option.bind (f_X8_need h4 x5) fun w => match w with
| (.error k9, h7) => some (.error k9, h7)
| (.ok x6, h7) =>
Option.bind (gP h7 8 a0 1) fun x8 =>
Option.bind (f_X4_isFrozen h7 x8 a1) fun x9 =>
if x9 = 0 then
Option.bind (gP h7 8 a0 1) fun x11 =>
Option.bind (gP h7 4 x11 0) fun x12 =>
Option.bind (stI h7 x12 ((4 * a1) + a2) a3) fun h13 =>
Option.bind (f_X8_settle h13 a0) fun w => match w with
| (x14, h15) =>
some (.ok x14, h15)
else
Option.bind (gP h7 8 a0 1) fun x16 =>
Option.bind (gP h7 4 x16 0) fun x17 =>
Option.bind (ldI h7 x17 ((4 * a1) + a2)) fun x18 =>
if x18 = a3 then
Option.bind (gP h7 8 a0 1) fun x19 =>
Option.bind (gP h7 4 x19 0) fun x20 =>
Option.bind (stI h7 x20 ((4 * a1) + a2) a3) fun h21 =>
Option.bind (f_X8_settle h21 a0) fun w => match w with
| (x22, h23) =>
some (.ok x22, h23)
else
some (.ok (-3), h7)
else none
theorem kd_X8_fact {h : AH} {a0 : Nat} {a1 : Int32} {a2 : Int32} {a3 : Int32} {r : (Except Nat Int32 × AH)} (hf : f_X8_fact h a0 a1 a2 a3 = some r) : aK h a0 = 8 := by
  unfold f_X8_fact at hf
  exact (ifk hf).1
set_option maxRecDepth 100000 in
set_option maxHeartbeats 4000000 in
theorem c_X8_fact {l : Launch} {G : GT} {h : AH} {a0 : Nat} {a1 : Int32} {a2 : Int32} {a3 : Int32} {r : (Except Nat Int32 × AH)} (hf : f_X8_fact h a0 a1 a2 a3 = some r) : Cn l yX8_fact cX8_fact 5 (some .int) 7 170 14 830 G h [.ref a0, .int a1, .int a2, .int a3] (r.1.map (fun x => some (.int x))) r.2 := by
  refine Cn.of (by decide) (Nat.le_of_ble_eq_true rfl) ?_
  intro p e s m args below meth c O hr hx hin
  have O : OkC p l s m args meth c G cX8_fact 5 RX8 := O
  unfold f_X8_fact at hf
  obtain ⟨hk0, hf⟩ := ifk hf
  refine AW.sub (lv' := [(0, .ref a0), (1, .int a1), (2, .int a2), (3, .int a3)]) [0, 1, 2, 3] rfl ?_
  refine r_aload_n O 0 dX8_fact_0 rfl (Or.inl rfl) ?_
  refine r_iload_n O 1 dX8_fact_1 rfl ?_
  obtain ⟨⟨w, h2⟩, ex1, hf⟩ := bnd hf
  cases w with
  | error k9 =>
    dsimp only at hf
    obtain rfl := Option.some.inj hf
    exact r_thrV (av := [.int a1]) (st := []) O hx (c_X8_needThing ex1) mf_X8_needThing cf8 (kd_X8_needThing ex1) ml_X8_114 mi_X8_needThing mv_X8_needThing (by decide) (Nat.le_of_ble_eq_true rfl) (by decide) (by decide) (by decide) dX8_fact_2
  | ok x1 =>
    dsimp only at hf
    refine r_callV (av := [.int a1]) (st := []) O (c_X8_needThing ex1) mf_X8_needThing cf8 (kd_X8_needThing ex1) ml_X8_114 mi_X8_needThing mv_X8_needThing (by decide) (Nat.le_of_ble_eq_true rfl) (by decide) dX8_fact_2 ?_
    refine r_aload_n O 0 dX8_fact_5 rfl (Or.inl rfl) ?_
    obtain ⟨⟨w, h4⟩, ex3, hf⟩ := bnd hf
    cases w with
    | error k9 =>
      dsimp only at hf
      obtain rfl := Option.some.inj hf
      exact r_thrV (av := []) (st := []) O hx (c_X8_needClosedBook ex3) mf_X8_needClosedBook cf8 (kd_X8_needClosedBook ex3) ml_X8_121 mi_X8_needClosedBook mv_X8_needClosedBook (by decide) (Nat.le_of_ble_eq_true rfl) (by decide) (by decide) (by decide) dX8_fact_6
    | ok x3 =>
      dsimp only at hf
      refine r_callV (av := []) (st := []) O (c_X8_needClosedBook ex3) mf_X8_needClosedBook cf8 (kd_X8_needClosedBook ex3) ml_X8_121 mi_X8_needClosedBook mv_X8_needClosedBook (by decide) (Nat.le_of_ble_eq_true rfl) (by decide) dX8_fact_6 ?_
      refine r_iload_n O 2 dX8_fact_9 rfl ?_
      obtain ⟨x5, hg, hf⟩ := bnd hf
      have hJ : AW p l e { frames := 7, cells := 14, slots := 830, locals := 170 } s m args below meth c G 5 (vx_MQ below (QcN G (r.1.map (fun x => some (.int x))) r.2) (XcN G (r.1.map (fun x => some (.int x))) r.2) args s 14 830 (gA G)) h4 2 12 23 [(0, .ref a0), (1, .int a1), (2, .int a2), (3, .int a3)] [.int x5] := by
        obtain ⟨⟨w, h7⟩, ex6, hf⟩ := bnd hf
        cases w with
        | error k9 =>
          dsimp only at hf
          obtain rfl := Option.some.inj hf
          exact r_thrS (av := [.int x5]) (st := []) O hx (c_X8_need ex6) mf_X8_need ml_X8_92 ms_X8_need (by decide) (Nat.le_of_ble_eq_true rfl) (by decide) (by decide) (by decide) dX8_fact_23
        | ok x6 =>
          dsimp only at hf
          refine r_callS (av := [.int x5]) (st := []) O (c_X8_need ex6) mf_X8_need ml_X8_92 ms_X8_need (by decide) (Nat.le_of_ble_eq_true rfl) (by decide) dX8_fact_23 ?_
          refine r_iconst O (v := 4) dX8_fact_26 (by decide) ?_
          refine r_iload_n O 1 dX8_fact_27 rfl ?_
          refine r_imul O dX8_fact_28 ?_
          refine r_iload_n O 2 dX8_fact_29 rfl ?_
          refine r_iadd O dX8_fact_30 ?_
          refine r_istore O [(4, .int ((4 * a1) + a2)), (0, .ref a0), (1, .int a1), (2, .int a2), (3, .int a3)] dX8_fact_31 (by decide) rfl ?_
          refine r_aload_n O 1 dX8_fact_33 rfl (Or.inl rfl) ?_
          obtain ⟨x8, ex8, hf⟩ := bnd hf
          refine r_gP O cf8 1 (by decide) rfl fl_X8_19 ex8 dX8_fact_34 ?_
          refine r_iload_n O 2 dX8_fact_37 rfl ?_
          obtain ⟨x9, ex9, hf⟩ := bnd hf
          refine r_callV (av := [.int a1]) (st := []) O (c_X4_isFrozen ex9) mf_X4_isFrozen cf4 (kd_X4_isFrozen ex9) ml_X8_141 mi_X4_isFrozen mv_X4_isFrozen (by decide) (Nat.le_of_ble_eq_true rfl) (by decide) dX8_fact_38 ?_
          by_cases hc : x9 = 0
          · rw [if_pos hc] at hf
            refine r_if_eq_t (tgt := 61) O dX8_fact_41 (by decide) hc ?_
            refine r_aload_n O 1 dX8_fact_61 rfl (Or.inl rfl) ?_
            obtain ⟨x11, ex11, hf⟩ := bnd hf
            refine r_gP O cf8 1 (by decide) rfl fl_X8_19 ex11 dX8_fact_62 ?_
            obtain ⟨x12, ex12, hf⟩ := bnd hf
            refine r_gP O cf4 0 (by decide) rfl fl_X8_162 ex12 dX8_fact_65 ?_
            refine r_iload O 0 dX8_fact_68 rfl ?_
            refine r_iload_n O 4 dX8_fact_70 rfl ?_
            obtain ⟨h13, eh13, hf⟩ := bnd hf
            refine r_stI O eh13 dX8_fact_71 ?_
            refine r_aload_n O 1 dX8_fact_72 rfl (Or.inl rfl) ?_
            obtain ⟨⟨x14, h15⟩, ex14, hf⟩ := bnd hf
            dsimp only at hf
            refine r_callV (av := []) (st := []) O (c_X8_settle ex14) mf_X8_settle cf8 (kd_X8_settle ex14) ml_X8_137 mi_X8_settle mv_X8_settle (by decide) (Nat.le_of_ble_eq_true rfl) (by decide) dX8_fact_73 ?_
            obtain rfl := Option.some.inj hf
            exact r_iret O hr rfl rfl (by decide) (by decide) dX8_fact_76
          · rw [if_neg hc] at hf
            refine r_if_eq_f (tgt := 61) O dX8_fact_41 (by decide) hc ?_
            refine r_aload_n O 1 dX8_fact_44 rfl (Or.inl rfl) ?_
            obtain ⟨x16, ex16, hf⟩ := bnd hf
            refine r_gP O cf8 1 (by decide) rfl fl_X8_19 ex16 dX8_fact_45 ?_
            obtain ⟨x17, ex17, hf⟩ := bnd hf
            refine r_gP O cf4 0 (by decide) rfl fl_X8_162 ex17 dX8_fact_48 ?_
            refine r_iload O 0 dX8_fact_51 rfl ?_
            obtain ⟨x18, ex18, hf⟩ := bnd hf
            refine r_ldI O ex18 dX8_fact_53 ?_
            refine r_iload_n O 4 dX8_fact_54 rfl ?_
            by_cases hc : x18 = a3
            · rw [if_pos hc] at hf
              refine r_icmp_eq_t (tgt := 61) O dX8_fact_55 (by decide) hc ?_
              refine r_aload_n O 1 dX8_fact_61 rfl (Or.inl rfl) ?_
              obtain ⟨x19, ex19, hf⟩ := bnd hf
              refine r_gP O cf8 1 (by decide) rfl fl_X8_19 ex19 dX8_fact_62 ?_
              obtain ⟨x20, ex20, hf⟩ := bnd hf
              refine r_gP O cf4 0 (by decide) rfl fl_X8_162 ex20 dX8_fact_65 ?_
              refine r_iload O 0 dX8_fact_68 rfl ?_
              refine r_iload_n O 4 dX8_fact_70 rfl ?_
              obtain ⟨h21, eh21, hf⟩ := bnd hf
              refine r_stI O eh21 dX8_fact_71 ?_
              refine r_aload_n O 1 dX8_fact_72 rfl (Or.inl rfl) ?_
              obtain ⟨⟨x22, h23⟩, ex22, hf⟩ := bnd hf
              dsimp only at hf
              refine r_callV (av := []) (st := []) O (c_X8_settle ex22) mf_X8_settle cf8 (kd_X8_settle ex22) ml_X8_137 mi_X8_settle mv_X8_settle (by decide) (Nat.le_of_ble_eq_true rfl) (by decide) dX8_fact_73 ?_
              obtain rfl := Option.some.inj hf
              exact r_iret O hr rfl rfl (by decide) (by decide) dX8_fact_76
            · rw [if_neg hc] at hf
              refine r_icmp_eq_f (tgt := 61) O dX8_fact_55 (by decide) hc ?_
              refine r_bipush O (v := -3) dX8_fact_58 (by decide) ?_
              obtain rfl := Option.some.inj hf
              exact r_iret O hr rfl rfl (by decide) (by decide) dX8_fact_60
      clear hf
      have hf := hg
      clear hg
      by_cases hc : a2 < 0
      · rw [if_pos hc] at hf
        refine r_if_lt_t (tgt := 22) O dX8_fact_10 (by decide) hc ?_
        refine r_iconst O (v := 0) dX8_fact_22 (by decide) ?_
        obtain rfl := oi1 hf
        refine AW.sub [0, 1, 2, 3] rfl ?_
        exact hJ
      · rw [if_neg hc] at hf
        refine r_if_lt_f (tgt := 22) O dX8_fact_10 (by decide) hc ?_
        refine r_iload_n O 2 dX8_fact_13 rfl ?_
        refine r_iconst O (v := 4) dX8_fact_14 (by decide) ?_
        by_cases hc : 4 ≤ a2
        · rw [if_pos hc] at hf
          refine r_icmp_ge_t (tgt := 22) O dX8_fact_15 (by decide) hc ?_
          refine r_iconst O (v := 0) dX8_fact_22 (by decide) ?_
          obtain rfl := oi1 hf
          refine AW.sub [0, 1, 2, 3] rfl ?_
          exact hJ
        · rw [if_neg hc] at hf
          refine r_icmp_ge_f (tgt := 22) O dX8_fact_15 (by decide) hc ?_
          refine r_iconst O (v := 1) dX8_fact_18 (by decide) ?_
          refine r_goto (tgt := 23) O dX8_fact_19 (by decide) ?_
          obtain rfl := oi1 hf
          refine AW.sub [0, 1, 2, 3] rfl ?_
          exact hJ
def f_X8_listFact (h : AH) (a0 : Nat) (a1 : Int32) (a2 : Int32) (a3 : Int32) : Option (Except Nat Int32 × AH) :=
if aK h a0 = 8 then
Option.bind (f_X8_needList h a0 a1) fun w => match w with
| (.error k9, h2) => some (.error k9, h2)
| (.ok x1, h2) =>
Option.bind (f_X8_needClosedBook h2 a0) fun w => match w with
| (.error k9, h4) => some (.error k9, h4)
| (.ok x3, h4) =>
Option.bind (if a2 < 0 then
some (0 : Int32)
else
if 2 ≤ a2 then
some (0 : Int32)
else
some (1 : Int32)) fun x5 =>
Option.bind (f_X8_need h4 x5) fun w => match w with
| (.error k9, h7) => some (.error k9, h7)
| (.ok x6, h7) =>
Option.bind (gP h7 8 a0 1) fun x8 =>
Option.bind (gP h7 4 x8 1) fun x9 =>
Option.bind (stI h7 x9 ((2 * a1) + a2) a3) fun h10 =>
Option.bind (f_X8_settle h10 a0) fun w => match w with
| (x11, h12) =>
some (.ok x11, h12)
else none
theorem kd_X8_listFact {h : AH} {a0 : Nat} {a1 : Int32} {a2 : Int32} {a3 : Int32} {r : (Except Nat Int32 × AH)} (hf : f_X8_listFact h a0 a1 a2 a3 = some r) : aK h a0 = 8 := by
  unfold f_X8_listFact at hf
  exact (ifk hf).1
set_option maxRecDepth 100000 in
set_option maxHeartbeats 4000000 in
theorem c_X8_listFact {l : Launch} {G : GT} {h : AH} {a0 : Nat} {a1 : Int32} {a2 : Int32} {a3 : Int32} {r : (Except Nat Int32 × AH)} (hf : f_X8_listFact h a0 a1 a2 a3 = some r) : Cn l yX8_listFact cX8_listFact 4 (some .int) 7 170 14 830 G h [.ref a0, .int a1, .int a2, .int a3] (r.1.map (fun x => some (.int x))) r.2 := by
  refine Cn.of (by decide) (Nat.le_of_ble_eq_true rfl) ?_
  intro p e s m args below meth c O hr hx hin
  have O : OkC p l s m args meth c G cX8_listFact 4 RX8 := O
  unfold f_X8_listFact at hf
  obtain ⟨hk0, hf⟩ := ifk hf
  refine AW.sub (lv' := [(0, .ref a0), (1, .int a1), (2, .int a2), (3, .int a3)]) [0, 1, 2, 3] rfl ?_
  refine r_aload_n O 0 dX8_listFact_0 rfl (Or.inl rfl) ?_
  refine r_iload_n O 1 dX8_listFact_1 rfl ?_
  obtain ⟨⟨w, h2⟩, ex1, hf⟩ := bnd hf
  cases w with
  | error k9 =>
    dsimp only at hf
    obtain rfl := Option.some.inj hf
    exact r_thrV (av := [.int a1]) (st := []) O hx (c_X8_needList ex1) mf_X8_needList cf8 (kd_X8_needList ex1) ml_X8_118 mi_X8_needList mv_X8_needList (by decide) (Nat.le_of_ble_eq_true rfl) (by decide) (by decide) (by decide) dX8_listFact_2
  | ok x1 =>
    dsimp only at hf
    refine r_callV (av := [.int a1]) (st := []) O (c_X8_needList ex1) mf_X8_needList cf8 (kd_X8_needList ex1) ml_X8_118 mi_X8_needList mv_X8_needList (by decide) (Nat.le_of_ble_eq_true rfl) (by decide) dX8_listFact_2 ?_
    refine r_aload_n O 0 dX8_listFact_5 rfl (Or.inl rfl) ?_
    obtain ⟨⟨w, h4⟩, ex3, hf⟩ := bnd hf
    cases w with
    | error k9 =>
      dsimp only at hf
      obtain rfl := Option.some.inj hf
      exact r_thrV (av := []) (st := []) O hx (c_X8_needClosedBook ex3) mf_X8_needClosedBook cf8 (kd_X8_needClosedBook ex3) ml_X8_121 mi_X8_needClosedBook mv_X8_needClosedBook (by decide) (Nat.le_of_ble_eq_true rfl) (by decide) (by decide) (by decide) dX8_listFact_6
    | ok x3 =>
      dsimp only at hf
      refine r_callV (av := []) (st := []) O (c_X8_needClosedBook ex3) mf_X8_needClosedBook cf8 (kd_X8_needClosedBook ex3) ml_X8_121 mi_X8_needClosedBook mv_X8_needClosedBook (by decide) (Nat.le_of_ble_eq_true rfl) (by decide) dX8_listFact_6 ?_
      refine r_iload_n O 2 dX8_listFact_9 rfl ?_
      obtain ⟨x5, hg, hf⟩ := bnd hf
      have hJ : AW p l e { frames := 7, cells := 14, slots := 830, locals := 170 } s m args below meth c G 4 (vx_MQ below (QcN G (r.1.map (fun x => some (.int x))) r.2) (XcN G (r.1.map (fun x => some (.int x))) r.2) args s 14 830 (gA G)) h4 2 12 23 [(0, .ref a0), (1, .int a1), (2, .int a2), (3, .int a3)] [.int x5] := by
        obtain ⟨⟨w, h7⟩, ex6, hf⟩ := bnd hf
        cases w with
        | error k9 =>
          dsimp only at hf
          obtain rfl := Option.some.inj hf
          exact r_thrS (av := [.int x5]) (st := []) O hx (c_X8_need ex6) mf_X8_need ml_X8_92 ms_X8_need (by decide) (Nat.le_of_ble_eq_true rfl) (by decide) (by decide) (by decide) dX8_listFact_23
        | ok x6 =>
          dsimp only at hf
          refine r_callS (av := [.int x5]) (st := []) O (c_X8_need ex6) mf_X8_need ml_X8_92 ms_X8_need (by decide) (Nat.le_of_ble_eq_true rfl) (by decide) dX8_listFact_23 ?_
          refine r_aload_n O 0 dX8_listFact_26 rfl (Or.inl rfl) ?_
          obtain ⟨x8, ex8, hf⟩ := bnd hf
          refine r_gP O cf8 1 (by decide) rfl fl_X8_19 ex8 dX8_listFact_27 ?_
          obtain ⟨x9, ex9, hf⟩ := bnd hf
          refine r_gP O cf4 1 (by decide) rfl fl_X8_165 ex9 dX8_listFact_30 ?_
          refine r_iconst O (v := 2) dX8_listFact_33 (by decide) ?_
          refine r_iload_n O 1 dX8_listFact_34 rfl ?_
          refine r_imul O dX8_listFact_35 ?_
          refine r_iload_n O 2 dX8_listFact_36 rfl ?_
          refine r_iadd O dX8_listFact_37 ?_
          refine r_iload_n O 3 dX8_listFact_38 rfl ?_
          obtain ⟨h10, eh10, hf⟩ := bnd hf
          refine r_stI O eh10 dX8_listFact_39 ?_
          refine r_aload_n O 0 dX8_listFact_40 rfl (Or.inl rfl) ?_
          obtain ⟨⟨x11, h12⟩, ex11, hf⟩ := bnd hf
          dsimp only at hf
          refine r_callV (av := []) (st := []) O (c_X8_settle ex11) mf_X8_settle cf8 (kd_X8_settle ex11) ml_X8_137 mi_X8_settle mv_X8_settle (by decide) (Nat.le_of_ble_eq_true rfl) (by decide) dX8_listFact_41 ?_
          obtain rfl := Option.some.inj hf
          exact r_iret O hr rfl rfl (by decide) (by decide) dX8_listFact_44
      clear hf
      have hf := hg
      clear hg
      by_cases hc : a2 < 0
      · rw [if_pos hc] at hf
        refine r_if_lt_t (tgt := 22) O dX8_listFact_10 (by decide) hc ?_
        refine r_iconst O (v := 0) dX8_listFact_22 (by decide) ?_
        obtain rfl := oi1 hf
        refine AW.sub [0, 1, 2, 3] rfl ?_
        exact hJ
      · rw [if_neg hc] at hf
        refine r_if_lt_f (tgt := 22) O dX8_listFact_10 (by decide) hc ?_
        refine r_iload_n O 2 dX8_listFact_13 rfl ?_
        refine r_iconst O (v := 2) dX8_listFact_14 (by decide) ?_
        by_cases hc : 2 ≤ a2
        · rw [if_pos hc] at hf
          refine r_icmp_ge_t (tgt := 22) O dX8_listFact_15 (by decide) hc ?_
          refine r_iconst O (v := 0) dX8_listFact_22 (by decide) ?_
          obtain rfl := oi1 hf
          refine AW.sub [0, 1, 2, 3] rfl ?_
          exact hJ
        · rw [if_neg hc] at hf
          refine r_icmp_ge_f (tgt := 22) O dX8_listFact_15 (by decide) hc ?_
          refine r_iconst O (v := 1) dX8_listFact_18 (by decide) ?_
          refine r_goto (tgt := 23) O dX8_listFact_19 (by decide) ?_
          obtain rfl := oi1 hf
          refine AW.sub [0, 1, 2, 3] rfl ?_
          exact hJ
def f_X8_link (h : AH) (a0 : Nat) (a1 : Int32) (a2 : Int32) : Option (Except Nat Int32 × AH) :=
if aK h a0 = 8 then
Option.bind (f_X8_needThing h a0 a1) fun w => match w with
| (.error k9, h2) => some (.error k9, h2)
| (.ok x1, h2) =>
if a2 = (-1) then
Option.bind (f_X8_needClosedBook h2 a0) fun w => match w with
| (.error k9, h4) => some (.error k9, h4)
| (.ok x3, h4) =>
Option.bind (if a1 = a2 then
some (0 : Int32)
else
some (1 : Int32)) fun x5 =>
Option.bind (f_X8_need h4 x5) fun w => match w with
| (.error k9, h7) => some (.error k9, h7)
| (.ok x6, h7) =>
Option.bind (gP h7 8 a0 1) fun x8 =>
Option.bind (f_X4_isFrozen h7 x8 a1) fun x9 =>
if x9 = 0 then
Option.bind (gP h7 8 a0 1) fun x11 =>
Option.bind (gP h7 4 x11 2) fun x12 =>
Option.bind (stI h7 x12 a1 a2) fun h13 =>
Option.bind (f_X8_settle h13 a0) fun w => match w with
| (x14, h15) =>
some (.ok x14, h15)
else
Option.bind (gP h7 8 a0 1) fun x16 =>
Option.bind (gP h7 4 x16 2) fun x17 =>
Option.bind (ldI h7 x17 a1) fun x18 =>
if x18 = a2 then
Option.bind (gP h7 8 a0 1) fun x19 =>
Option.bind (gP h7 4 x19 2) fun x20 =>
Option.bind (stI h7 x20 a1 a2) fun h21 =>
Option.bind (f_X8_settle h21 a0) fun w => match w with
| (x22, h23) =>
some (.ok x22, h23)
else
some (.ok (-3), h7)
else
Option.bind (f_X8_needThing h2 a0 a2) fun w => match w with
| (.error k9, h25) => some (.error k9, h25)
| (.ok x24, h25) =>
Option.bind (f_X8_needClosedBook h25 a0) fun w => match w with
| (.error k9, h27) => some (.error k9, h27)
| (.ok x26, h27) =>
Option.bind (if a1 = a2 then
some (0 : Int32)
else
some (1 : Int32)) fun x28 =>
Option.bind (f_X8_need h27 x28) fun w => match w with
| (.error k9, h30) => some (.error k9, h30)
| (.ok x29, h30) =>
Option.bind (gP h30 8 a0 1) fun x31 =>
Option.bind (f_X4_isFrozen h30 x31 a1) fun x32 =>
if x32 = 0 then
Option.bind (gP h30 8 a0 1) fun x34 =>
Option.bind (gP h30 4 x34 2) fun x35 =>
Option.bind (stI h30 x35 a1 a2) fun h36 =>
Option.bind (f_X8_settle h36 a0) fun w => match w with
| (x37, h38) =>
some (.ok x37, h38)
else
Option.bind (gP h30 8 a0 1) fun x39 =>
Option.bind (gP h30 4 x39 2) fun x40 =>
Option.bind (ldI h30 x40 a1) fun x41 =>
if x41 = a2 then
Option.bind (gP h30 8 a0 1) fun x42 =>
Option.bind (gP h30 4 x42 2) fun x43 =>
Option.bind (stI h30 x43 a1 a2) fun h44 =>
Option.bind (f_X8_settle h44 a0) fun w => match w with
| (x45, h46) =>
some (.ok x45, h46)
else
some (.ok (-3), h30)
else none
theorem kd_X8_link {h : AH} {a0 : Nat} {a1 : Int32} {a2 : Int32} {r : (Except Nat Int32 × AH)} (hf : f_X8_link h a0 a1 a2 = some r) : aK h a0 = 8 := by
  unfold f_X8_link at hf
  exact (ifk hf).1
set_option maxRecDepth 100000 in
set_option maxHeartbeats 4000000 in
theorem c_X8_link {l : Launch} {G : GT} {h : AH} {a0 : Nat} {a1 : Int32} {a2 : Int32} {r : (Except Nat Int32 × AH)} (hf : f_X8_link h a0 a1 a2 = some r) : Cn l yX8_link cX8_link 3 (some .int) 7 170 15 836 G h [.ref a0, .int a1, .int a2] (r.1.map (fun x => some (.int x))) r.2 := by
  refine Cn.of (by decide) (Nat.le_of_ble_eq_true rfl) ?_
  intro p e s m args below meth c O hr hx hin
  have O : OkC p l s m args meth c G cX8_link 3 RX8 := O
  unfold f_X8_link at hf
  obtain ⟨hk0, hf⟩ := ifk hf
  refine AW.sub (lv' := [(0, .ref a0), (1, .int a1), (2, .int a2)]) [0, 1, 2] rfl ?_
  refine r_aload_n O 0 dX8_link_0 rfl (Or.inl rfl) ?_
  refine r_iload_n O 1 dX8_link_1 rfl ?_
  obtain ⟨⟨w, h2⟩, ex1, hf⟩ := bnd hf
  cases w with
  | error k9 =>
    dsimp only at hf
    obtain rfl := Option.some.inj hf
    exact r_thrV (av := [.int a1]) (st := []) O hx (c_X8_needThing ex1) mf_X8_needThing cf8 (kd_X8_needThing ex1) ml_X8_114 mi_X8_needThing mv_X8_needThing (by decide) (Nat.le_of_ble_eq_true rfl) (by decide) (by decide) (by decide) dX8_link_2
  | ok x1 =>
    dsimp only at hf
    refine r_callV (av := [.int a1]) (st := []) O (c_X8_needThing ex1) mf_X8_needThing cf8 (kd_X8_needThing ex1) ml_X8_114 mi_X8_needThing mv_X8_needThing (by decide) (Nat.le_of_ble_eq_true rfl) (by decide) dX8_link_2 ?_
    refine r_iload_n O 2 dX8_link_5 rfl ?_
    refine r_iconst O (v := -1) dX8_link_6 (by decide) ?_
    by_cases hc : a2 = (-1)
    · rw [if_pos hc] at hf
      refine r_icmp_eq_t (tgt := 15) O dX8_link_7 (by decide) hc ?_
      refine r_aload_n O 0 dX8_link_15 rfl (Or.inl rfl) ?_
      obtain ⟨⟨w, h4⟩, ex3, hf⟩ := bnd hf
      cases w with
      | error k9 =>
        dsimp only at hf
        obtain rfl := Option.some.inj hf
        exact r_thrV (av := []) (st := []) O hx (c_X8_needClosedBook ex3) mf_X8_needClosedBook cf8 (kd_X8_needClosedBook ex3) ml_X8_121 mi_X8_needClosedBook mv_X8_needClosedBook (by decide) (Nat.le_of_ble_eq_true rfl) (by decide) (by decide) (by decide) dX8_link_16
      | ok x3 =>
        dsimp only at hf
        refine r_callV (av := []) (st := []) O (c_X8_needClosedBook ex3) mf_X8_needClosedBook cf8 (kd_X8_needClosedBook ex3) ml_X8_121 mi_X8_needClosedBook mv_X8_needClosedBook (by decide) (Nat.le_of_ble_eq_true rfl) (by decide) dX8_link_16 ?_
        refine r_iload_n O 1 dX8_link_19 rfl ?_
        refine r_iload_n O 2 dX8_link_20 rfl ?_
        obtain ⟨x5, hg, hf⟩ := bnd hf
        have hJ : AW p l e { frames := 7, cells := 15, slots := 836, locals := 170 } s m args below meth c G 3 (vx_MQ below (QcN G (r.1.map (fun x => some (.int x))) r.2) (XcN G (r.1.map (fun x => some (.int x))) r.2) args s 15 836 (gA G)) h4 2 12 29 [(0, .ref a0), (1, .int a1), (2, .int a2)] [.int x5] := by
          obtain ⟨⟨w, h7⟩, ex6, hf⟩ := bnd hf
          cases w with
          | error k9 =>
            dsimp only at hf
            obtain rfl := Option.some.inj hf
            exact r_thrS (av := [.int x5]) (st := []) O hx (c_X8_need ex6) mf_X8_need ml_X8_92 ms_X8_need (by decide) (Nat.le_of_ble_eq_true rfl) (by decide) (by decide) (by decide) dX8_link_29
          | ok x6 =>
            dsimp only at hf
            refine r_callS (av := [.int x5]) (st := []) O (c_X8_need ex6) mf_X8_need ml_X8_92 ms_X8_need (by decide) (Nat.le_of_ble_eq_true rfl) (by decide) dX8_link_29 ?_
            refine r_aload_n O 0 dX8_link_32 rfl (Or.inl rfl) ?_
            obtain ⟨x8, ex8, hf⟩ := bnd hf
            refine r_gP O cf8 1 (by decide) rfl fl_X8_19 ex8 dX8_link_33 ?_
            refine r_iload_n O 1 dX8_link_36 rfl ?_
            obtain ⟨x9, ex9, hf⟩ := bnd hf
            refine r_callV (av := [.int a1]) (st := []) O (c_X4_isFrozen ex9) mf_X4_isFrozen cf4 (kd_X4_isFrozen ex9) ml_X8_141 mi_X4_isFrozen mv_X4_isFrozen (by decide) (Nat.le_of_ble_eq_true rfl) (by decide) dX8_link_37 ?_
            by_cases hc : x9 = 0
            · rw [if_pos hc] at hf
              refine r_if_eq_t (tgt := 59) O dX8_link_40 (by decide) hc ?_
              refine r_aload_n O 0 dX8_link_59 rfl (Or.inl rfl) ?_
              obtain ⟨x11, ex11, hf⟩ := bnd hf
              refine r_gP O cf8 1 (by decide) rfl fl_X8_19 ex11 dX8_link_60 ?_
              obtain ⟨x12, ex12, hf⟩ := bnd hf
              refine r_gP O cf4 2 (by decide) rfl fl_X8_168 ex12 dX8_link_63 ?_
              refine r_iload_n O 1 dX8_link_66 rfl ?_
              refine r_iload_n O 2 dX8_link_67 rfl ?_
              obtain ⟨h13, eh13, hf⟩ := bnd hf
              refine r_stI O eh13 dX8_link_68 ?_
              refine r_aload_n O 0 dX8_link_69 rfl (Or.inl rfl) ?_
              obtain ⟨⟨x14, h15⟩, ex14, hf⟩ := bnd hf
              dsimp only at hf
              refine r_callV (av := []) (st := []) O (c_X8_settle ex14) mf_X8_settle cf8 (kd_X8_settle ex14) ml_X8_137 mi_X8_settle mv_X8_settle (by decide) (Nat.le_of_ble_eq_true rfl) (by decide) dX8_link_70 ?_
              obtain rfl := Option.some.inj hf
              exact r_iret O hr rfl rfl (by decide) (by decide) dX8_link_73
            · rw [if_neg hc] at hf
              refine r_if_eq_f (tgt := 59) O dX8_link_40 (by decide) hc ?_
              refine r_aload_n O 0 dX8_link_43 rfl (Or.inl rfl) ?_
              obtain ⟨x16, ex16, hf⟩ := bnd hf
              refine r_gP O cf8 1 (by decide) rfl fl_X8_19 ex16 dX8_link_44 ?_
              obtain ⟨x17, ex17, hf⟩ := bnd hf
              refine r_gP O cf4 2 (by decide) rfl fl_X8_168 ex17 dX8_link_47 ?_
              refine r_iload_n O 1 dX8_link_50 rfl ?_
              obtain ⟨x18, ex18, hf⟩ := bnd hf
              refine r_ldI O ex18 dX8_link_51 ?_
              refine r_iload_n O 2 dX8_link_52 rfl ?_
              by_cases hc : x18 = a2
              · rw [if_pos hc] at hf
                refine r_icmp_eq_t (tgt := 59) O dX8_link_53 (by decide) hc ?_
                refine r_aload_n O 0 dX8_link_59 rfl (Or.inl rfl) ?_
                obtain ⟨x19, ex19, hf⟩ := bnd hf
                refine r_gP O cf8 1 (by decide) rfl fl_X8_19 ex19 dX8_link_60 ?_
                obtain ⟨x20, ex20, hf⟩ := bnd hf
                refine r_gP O cf4 2 (by decide) rfl fl_X8_168 ex20 dX8_link_63 ?_
                refine r_iload_n O 1 dX8_link_66 rfl ?_
                refine r_iload_n O 2 dX8_link_67 rfl ?_
                obtain ⟨h21, eh21, hf⟩ := bnd hf
                refine r_stI O eh21 dX8_link_68 ?_
                refine r_aload_n O 0 dX8_link_69 rfl (Or.inl rfl) ?_
                obtain ⟨⟨x22, h23⟩, ex22, hf⟩ := bnd hf
                dsimp only at hf
                refine r_callV (av := []) (st := []) O (c_X8_settle ex22) mf_X8_settle cf8 (kd_X8_settle ex22) ml_X8_137 mi_X8_settle mv_X8_settle (by decide) (Nat.le_of_ble_eq_true rfl) (by decide) dX8_link_70 ?_
                obtain rfl := Option.some.inj hf
                exact r_iret O hr rfl rfl (by decide) (by decide) dX8_link_73
              · rw [if_neg hc] at hf
                refine r_icmp_eq_f (tgt := 59) O dX8_link_53 (by decide) hc ?_
                refine r_bipush O (v := -3) dX8_link_56 (by decide) ?_
                obtain rfl := Option.some.inj hf
                exact r_iret O hr rfl rfl (by decide) (by decide) dX8_link_58
        clear hf
        have hf := hg
        clear hg
        by_cases hc : a1 = a2
        · rw [if_pos hc] at hf
          refine r_icmp_eq_t (tgt := 28) O dX8_link_21 (by decide) hc ?_
          refine r_iconst O (v := 0) dX8_link_28 (by decide) ?_
          obtain rfl := oi1 hf
          refine AW.sub [0, 1, 2] rfl ?_
          exact hJ
        · rw [if_neg hc] at hf
          refine r_icmp_eq_f (tgt := 28) O dX8_link_21 (by decide) hc ?_
          refine r_iconst O (v := 1) dX8_link_24 (by decide) ?_
          refine r_goto (tgt := 29) O dX8_link_25 (by decide) ?_
          obtain rfl := oi1 hf
          refine AW.sub [0, 1, 2] rfl ?_
          exact hJ
    · rw [if_neg hc] at hf
      refine r_icmp_eq_f (tgt := 15) O dX8_link_7 (by decide) hc ?_
      refine r_aload_n O 0 dX8_link_10 rfl (Or.inl rfl) ?_
      refine r_iload_n O 2 dX8_link_11 rfl ?_
      obtain ⟨⟨w, h25⟩, ex24, hf⟩ := bnd hf
      cases w with
      | error k9 =>
        dsimp only at hf
        obtain rfl := Option.some.inj hf
        exact r_thrV (av := [.int a2]) (st := []) O hx (c_X8_needThing ex24) mf_X8_needThing cf8 (kd_X8_needThing ex24) ml_X8_114 mi_X8_needThing mv_X8_needThing (by decide) (Nat.le_of_ble_eq_true rfl) (by decide) (by decide) (by decide) dX8_link_12
      | ok x24 =>
        dsimp only at hf
        refine r_callV (av := [.int a2]) (st := []) O (c_X8_needThing ex24) mf_X8_needThing cf8 (kd_X8_needThing ex24) ml_X8_114 mi_X8_needThing mv_X8_needThing (by decide) (Nat.le_of_ble_eq_true rfl) (by decide) dX8_link_12 ?_
        refine r_aload_n O 0 dX8_link_15 rfl (Or.inl rfl) ?_
        obtain ⟨⟨w, h27⟩, ex26, hf⟩ := bnd hf
        cases w with
        | error k9 =>
          dsimp only at hf
          obtain rfl := Option.some.inj hf
          exact r_thrV (av := []) (st := []) O hx (c_X8_needClosedBook ex26) mf_X8_needClosedBook cf8 (kd_X8_needClosedBook ex26) ml_X8_121 mi_X8_needClosedBook mv_X8_needClosedBook (by decide) (Nat.le_of_ble_eq_true rfl) (by decide) (by decide) (by decide) dX8_link_16
        | ok x26 =>
          dsimp only at hf
          refine r_callV (av := []) (st := []) O (c_X8_needClosedBook ex26) mf_X8_needClosedBook cf8 (kd_X8_needClosedBook ex26) ml_X8_121 mi_X8_needClosedBook mv_X8_needClosedBook (by decide) (Nat.le_of_ble_eq_true rfl) (by decide) dX8_link_16 ?_
          refine r_iload_n O 1 dX8_link_19 rfl ?_
          refine r_iload_n O 2 dX8_link_20 rfl ?_
          obtain ⟨x28, hg, hf⟩ := bnd hf
          have hJ : AW p l e { frames := 7, cells := 15, slots := 836, locals := 170 } s m args below meth c G 3 (vx_MQ below (QcN G (r.1.map (fun x => some (.int x))) r.2) (XcN G (r.1.map (fun x => some (.int x))) r.2) args s 15 836 (gA G)) h27 3 18 29 [(0, .ref a0), (1, .int a1), (2, .int a2)] [.int x28] := by
            obtain ⟨⟨w, h30⟩, ex29, hf⟩ := bnd hf
            cases w with
            | error k9 =>
              dsimp only at hf
              obtain rfl := Option.some.inj hf
              exact r_thrS (av := [.int x28]) (st := []) O hx (c_X8_need ex29) mf_X8_need ml_X8_92 ms_X8_need (by decide) (Nat.le_of_ble_eq_true rfl) (by decide) (by decide) (by decide) dX8_link_29
            | ok x29 =>
              dsimp only at hf
              refine r_callS (av := [.int x28]) (st := []) O (c_X8_need ex29) mf_X8_need ml_X8_92 ms_X8_need (by decide) (Nat.le_of_ble_eq_true rfl) (by decide) dX8_link_29 ?_
              refine r_aload_n O 0 dX8_link_32 rfl (Or.inl rfl) ?_
              obtain ⟨x31, ex31, hf⟩ := bnd hf
              refine r_gP O cf8 1 (by decide) rfl fl_X8_19 ex31 dX8_link_33 ?_
              refine r_iload_n O 1 dX8_link_36 rfl ?_
              obtain ⟨x32, ex32, hf⟩ := bnd hf
              refine r_callV (av := [.int a1]) (st := []) O (c_X4_isFrozen ex32) mf_X4_isFrozen cf4 (kd_X4_isFrozen ex32) ml_X8_141 mi_X4_isFrozen mv_X4_isFrozen (by decide) (Nat.le_of_ble_eq_true rfl) (by decide) dX8_link_37 ?_
              by_cases hc : x32 = 0
              · rw [if_pos hc] at hf
                refine r_if_eq_t (tgt := 59) O dX8_link_40 (by decide) hc ?_
                refine r_aload_n O 0 dX8_link_59 rfl (Or.inl rfl) ?_
                obtain ⟨x34, ex34, hf⟩ := bnd hf
                refine r_gP O cf8 1 (by decide) rfl fl_X8_19 ex34 dX8_link_60 ?_
                obtain ⟨x35, ex35, hf⟩ := bnd hf
                refine r_gP O cf4 2 (by decide) rfl fl_X8_168 ex35 dX8_link_63 ?_
                refine r_iload_n O 1 dX8_link_66 rfl ?_
                refine r_iload_n O 2 dX8_link_67 rfl ?_
                obtain ⟨h36, eh36, hf⟩ := bnd hf
                refine r_stI O eh36 dX8_link_68 ?_
                refine r_aload_n O 0 dX8_link_69 rfl (Or.inl rfl) ?_
                obtain ⟨⟨x37, h38⟩, ex37, hf⟩ := bnd hf
                dsimp only at hf
                refine r_callV (av := []) (st := []) O (c_X8_settle ex37) mf_X8_settle cf8 (kd_X8_settle ex37) ml_X8_137 mi_X8_settle mv_X8_settle (by decide) (Nat.le_of_ble_eq_true rfl) (by decide) dX8_link_70 ?_
                obtain rfl := Option.some.inj hf
                exact r_iret O hr rfl rfl (by decide) (by decide) dX8_link_73
              · rw [if_neg hc] at hf
                refine r_if_eq_f (tgt := 59) O dX8_link_40 (by decide) hc ?_
                refine r_aload_n O 0 dX8_link_43 rfl (Or.inl rfl) ?_
                obtain ⟨x39, ex39, hf⟩ := bnd hf
                refine r_gP O cf8 1 (by decide) rfl fl_X8_19 ex39 dX8_link_44 ?_
                obtain ⟨x40, ex40, hf⟩ := bnd hf
                refine r_gP O cf4 2 (by decide) rfl fl_X8_168 ex40 dX8_link_47 ?_
                refine r_iload_n O 1 dX8_link_50 rfl ?_
                obtain ⟨x41, ex41, hf⟩ := bnd hf
                refine r_ldI O ex41 dX8_link_51 ?_
                refine r_iload_n O 2 dX8_link_52 rfl ?_
                by_cases hc : x41 = a2
                · rw [if_pos hc] at hf
                  refine r_icmp_eq_t (tgt := 59) O dX8_link_53 (by decide) hc ?_
                  refine r_aload_n O 0 dX8_link_59 rfl (Or.inl rfl) ?_
                  obtain ⟨x42, ex42, hf⟩ := bnd hf
                  refine r_gP O cf8 1 (by decide) rfl fl_X8_19 ex42 dX8_link_60 ?_
                  obtain ⟨x43, ex43, hf⟩ := bnd hf
                  refine r_gP O cf4 2 (by decide) rfl fl_X8_168 ex43 dX8_link_63 ?_
                  refine r_iload_n O 1 dX8_link_66 rfl ?_
                  refine r_iload_n O 2 dX8_link_67 rfl ?_
                  obtain ⟨h44, eh44, hf⟩ := bnd hf
                  refine r_stI O eh44 dX8_link_68 ?_
                  refine r_aload_n O 0 dX8_link_69 rfl (Or.inl rfl) ?_
                  obtain ⟨⟨x45, h46⟩, ex45, hf⟩ := bnd hf
                  dsimp only at hf
                  refine r_callV (av := []) (st := []) O (c_X8_settle ex45) mf_X8_settle cf8 (kd_X8_settle ex45) ml_X8_137 mi_X8_settle mv_X8_settle (by decide) (Nat.le_of_ble_eq_true rfl) (by decide) dX8_link_70 ?_
                  obtain rfl := Option.some.inj hf
                  exact r_iret O hr rfl rfl (by decide) (by decide) dX8_link_73
                · rw [if_neg hc] at hf
                  refine r_icmp_eq_f (tgt := 59) O dX8_link_53 (by decide) hc ?_
                  refine r_bipush O (v := -3) dX8_link_56 (by decide) ?_
                  obtain rfl := Option.some.inj hf
                  exact r_iret O hr rfl rfl (by decide) (by decide) dX8_link_58
          clear hf
          have hf := hg
          clear hg
          by_cases hc : a1 = a2
          · rw [if_pos hc] at hf
            refine r_icmp_eq_t (tgt := 28) O dX8_link_21 (by decide) hc ?_
            refine r_iconst O (v := 0) dX8_link_28 (by decide) ?_
            obtain rfl := oi1 hf
            refine AW.sub [0, 1, 2] rfl ?_
            exact hJ
          · rw [if_neg hc] at hf
            refine r_icmp_eq_f (tgt := 28) O dX8_link_21 (by decide) hc ?_
            refine r_iconst O (v := 1) dX8_link_24 (by decide) ?_
            refine r_goto (tgt := 29) O dX8_link_25 (by decide) ?_
            obtain rfl := oi1 hf
            refine AW.sub [0, 1, 2] rfl ?_
            exact hJ
def f_X8_freeze (h : AH) (a0 : Nat) (a1 : Int32) (a2 : Int32) : Option (Except Nat Int32 × AH) :=
if aK h a0 = 8 then
Option.bind (f_X8_needList h a0 a1) fun w => match w with
| (.error k9, h2) => some (.error k9, h2)
| (.ok x1, h2) =>
Option.bind (f_X8_needClosedBook h2 a0) fun w => match w with
| (.error k9, h4) => some (.error k9, h4)
| (.ok x3, h4) =>
Option.bind (if a2 < 0 then
some (0 : Int32)
else
Option.bind (gP h4 8 a0 1) fun x6 =>
Option.bind (gP h4 4 x6 6) fun x7 =>
Option.bind (ldI h4 x7 a1) fun x8 =>
if x8 < a2 then
some (0 : Int32)
else
some (1 : Int32)) fun x5 =>
Option.bind (f_X8_need h4 x5) fun w => match w with
| (.error k9, h10) => some (.error k9, h10)
| (.ok x9, h10) =>
Option.bind (gP h10 8 a0 1) fun x11 =>
Option.bind (gP h10 4 x11 7) fun x12 =>
Option.bind (stI h10 x12 a1 a2) fun h13 =>
Option.bind (f_X8_settle h13 a0) fun w => match w with
| (x14, h15) =>
some (.ok x14, h15)
else none
theorem kd_X8_freeze {h : AH} {a0 : Nat} {a1 : Int32} {a2 : Int32} {r : (Except Nat Int32 × AH)} (hf : f_X8_freeze h a0 a1 a2 = some r) : aK h a0 = 8 := by
  unfold f_X8_freeze at hf
  exact (ifk hf).1
set_option maxRecDepth 100000 in
set_option maxHeartbeats 4000000 in
theorem c_X8_freeze {l : Launch} {G : GT} {h : AH} {a0 : Nat} {a1 : Int32} {a2 : Int32} {r : (Except Nat Int32 × AH)} (hf : f_X8_freeze h a0 a1 a2 = some r) : Cn l yX8_freeze cX8_freeze 3 (some .int) 7 170 14 830 G h [.ref a0, .int a1, .int a2] (r.1.map (fun x => some (.int x))) r.2 := by
  refine Cn.of (by decide) (Nat.le_of_ble_eq_true rfl) ?_
  intro p e s m args below meth c O hr hx hin
  have O : OkC p l s m args meth c G cX8_freeze 3 RX8 := O
  unfold f_X8_freeze at hf
  obtain ⟨hk0, hf⟩ := ifk hf
  refine AW.sub (lv' := [(0, .ref a0), (1, .int a1), (2, .int a2)]) [0, 1, 2] rfl ?_
  refine r_aload_n O 0 dX8_freeze_0 rfl (Or.inl rfl) ?_
  refine r_iload_n O 1 dX8_freeze_1 rfl ?_
  obtain ⟨⟨w, h2⟩, ex1, hf⟩ := bnd hf
  cases w with
  | error k9 =>
    dsimp only at hf
    obtain rfl := Option.some.inj hf
    exact r_thrV (av := [.int a1]) (st := []) O hx (c_X8_needList ex1) mf_X8_needList cf8 (kd_X8_needList ex1) ml_X8_118 mi_X8_needList mv_X8_needList (by decide) (Nat.le_of_ble_eq_true rfl) (by decide) (by decide) (by decide) dX8_freeze_2
  | ok x1 =>
    dsimp only at hf
    refine r_callV (av := [.int a1]) (st := []) O (c_X8_needList ex1) mf_X8_needList cf8 (kd_X8_needList ex1) ml_X8_118 mi_X8_needList mv_X8_needList (by decide) (Nat.le_of_ble_eq_true rfl) (by decide) dX8_freeze_2 ?_
    refine r_aload_n O 0 dX8_freeze_5 rfl (Or.inl rfl) ?_
    obtain ⟨⟨w, h4⟩, ex3, hf⟩ := bnd hf
    cases w with
    | error k9 =>
      dsimp only at hf
      obtain rfl := Option.some.inj hf
      exact r_thrV (av := []) (st := []) O hx (c_X8_needClosedBook ex3) mf_X8_needClosedBook cf8 (kd_X8_needClosedBook ex3) ml_X8_121 mi_X8_needClosedBook mv_X8_needClosedBook (by decide) (Nat.le_of_ble_eq_true rfl) (by decide) (by decide) (by decide) dX8_freeze_6
    | ok x3 =>
      dsimp only at hf
      refine r_callV (av := []) (st := []) O (c_X8_needClosedBook ex3) mf_X8_needClosedBook cf8 (kd_X8_needClosedBook ex3) ml_X8_121 mi_X8_needClosedBook mv_X8_needClosedBook (by decide) (Nat.le_of_ble_eq_true rfl) (by decide) dX8_freeze_6 ?_
      refine r_iload_n O 2 dX8_freeze_9 rfl ?_
      obtain ⟨x5, hg, hf⟩ := bnd hf
      have hJ : AW p l e { frames := 7, cells := 14, slots := 830, locals := 170 } s m args below meth c G 3 (vx_MQ below (QcN G (r.1.map (fun x => some (.int x))) r.2) (XcN G (r.1.map (fun x => some (.int x))) r.2) args s 14 830 (gA G)) h4 2 12 31 [(0, .ref a0), (1, .int a1), (2, .int a2)] [.int x5] := by
        obtain ⟨⟨w, h10⟩, ex9, hf⟩ := bnd hf
        cases w with
        | error k9 =>
          dsimp only at hf
          obtain rfl := Option.some.inj hf
          exact r_thrS (av := [.int x5]) (st := []) O hx (c_X8_need ex9) mf_X8_need ml_X8_92 ms_X8_need (by decide) (Nat.le_of_ble_eq_true rfl) (by decide) (by decide) (by decide) dX8_freeze_31
        | ok x9 =>
          dsimp only at hf
          refine r_callS (av := [.int x5]) (st := []) O (c_X8_need ex9) mf_X8_need ml_X8_92 ms_X8_need (by decide) (Nat.le_of_ble_eq_true rfl) (by decide) dX8_freeze_31 ?_
          refine r_aload_n O 0 dX8_freeze_34 rfl (Or.inl rfl) ?_
          obtain ⟨x11, ex11, hf⟩ := bnd hf
          refine r_gP O cf8 1 (by decide) rfl fl_X8_19 ex11 dX8_freeze_35 ?_
          obtain ⟨x12, ex12, hf⟩ := bnd hf
          refine r_gP O cf4 7 (by decide) rfl fl_X8_131 ex12 dX8_freeze_38 ?_
          refine r_iload_n O 1 dX8_freeze_41 rfl ?_
          refine r_iload_n O 2 dX8_freeze_42 rfl ?_
          obtain ⟨h13, eh13, hf⟩ := bnd hf
          refine r_stI O eh13 dX8_freeze_43 ?_
          refine r_aload_n O 0 dX8_freeze_44 rfl (Or.inl rfl) ?_
          obtain ⟨⟨x14, h15⟩, ex14, hf⟩ := bnd hf
          dsimp only at hf
          refine r_callV (av := []) (st := []) O (c_X8_settle ex14) mf_X8_settle cf8 (kd_X8_settle ex14) ml_X8_137 mi_X8_settle mv_X8_settle (by decide) (Nat.le_of_ble_eq_true rfl) (by decide) dX8_freeze_45 ?_
          obtain rfl := Option.some.inj hf
          exact r_iret O hr rfl rfl (by decide) (by decide) dX8_freeze_48
      clear hf
      have hf := hg
      clear hg
      by_cases hc : a2 < 0
      · rw [if_pos hc] at hf
        refine r_if_lt_t (tgt := 30) O dX8_freeze_10 (by decide) hc ?_
        refine r_iconst O (v := 0) dX8_freeze_30 (by decide) ?_
        obtain rfl := oi1 hf
        refine AW.sub [0, 1, 2] rfl ?_
        exact hJ
      · rw [if_neg hc] at hf
        refine r_if_lt_f (tgt := 30) O dX8_freeze_10 (by decide) hc ?_
        refine r_iload_n O 2 dX8_freeze_13 rfl ?_
        refine r_aload_n O 0 dX8_freeze_14 rfl (Or.inl rfl) ?_
        obtain ⟨x6, ex6, hf⟩ := bnd hf
        refine r_gP O cf8 1 (by decide) rfl fl_X8_19 ex6 dX8_freeze_15 ?_
        obtain ⟨x7, ex7, hf⟩ := bnd hf
        refine r_gP O cf4 6 (by decide) rfl fl_X8_124 ex7 dX8_freeze_18 ?_
        refine r_iload_n O 1 dX8_freeze_21 rfl ?_
        obtain ⟨x8, ex8, hf⟩ := bnd hf
        refine r_ldI O ex8 dX8_freeze_22 ?_
        by_cases hc : x8 < a2
        · rw [if_pos hc] at hf
          refine r_icmp_gt_t (tgt := 30) O dX8_freeze_23 (by decide) hc ?_
          refine r_iconst O (v := 0) dX8_freeze_30 (by decide) ?_
          obtain rfl := oi1 hf
          refine AW.sub [0, 1, 2] rfl ?_
          exact hJ
        · rw [if_neg hc] at hf
          refine r_icmp_gt_f (tgt := 30) O dX8_freeze_23 (by decide) hc ?_
          refine r_iconst O (v := 1) dX8_freeze_26 (by decide) ?_
          refine r_goto (tgt := 31) O dX8_freeze_27 (by decide) ?_
          obtain rfl := oi1 hf
          refine AW.sub [0, 1, 2] rfl ?_
          exact hJ
def f_X8_begin (h : AH) (a0 : Nat) : Option (Except Nat Unit × AH) :=
if aK h a0 = 8 then
Option.bind (f_X8_needClosedBook h a0) fun w => match w with
| (.error k9, h2) => some (.error k9, h2)
| (.ok x1, h2) =>
Option.bind (gI h2 8 a0 9) fun x3 =>
if x3 = 0 then
Option.bind (pZ h2 8 a0 9 1) fun h4 =>
some (.ok (), h4)
else
some (.error 0, nx h2)
else none
theorem kd_X8_begin {h : AH} {a0 : Nat} {r : (Except Nat Unit × AH)} (hf : f_X8_begin h a0 = some r) : aK h a0 = 8 := by
  unfold f_X8_begin at hf
  exact (ifk hf).1
set_option maxRecDepth 100000 in
set_option maxHeartbeats 4000000 in
theorem c_X8_begin {l : Launch} {G : GT} {h : AH} {a0 : Nat} {r : (Except Nat Unit × AH)} (hf : f_X8_begin h a0 = some r) : Cn l yX8_begin cX8_begin 1 none 7 110 2 12 G h [.ref a0] (r.1.map (fun x => none)) r.2 := by
  refine Cn.of (by decide) (Nat.le_of_ble_eq_true rfl) ?_
  intro p e s m args below meth c O hr hx hin
  have O : OkC p l s m args meth c G cX8_begin 1 RX8 := O
  unfold f_X8_begin at hf
  obtain ⟨hk0, hf⟩ := ifk hf
  refine AW.sub (lv' := [(0, .ref a0)]) [0] rfl ?_
  refine r_aload_n O 0 dX8_begin_0 rfl (Or.inl rfl) ?_
  obtain ⟨⟨w, h2⟩, ex1, hf⟩ := bnd hf
  cases w with
  | error k9 =>
    dsimp only at hf
    obtain rfl := Option.some.inj hf
    exact r_thrV (av := []) (st := []) O hx (c_X8_needClosedBook ex1) mf_X8_needClosedBook cf8 (kd_X8_needClosedBook ex1) ml_X8_121 mi_X8_needClosedBook mv_X8_needClosedBook (by decide) (Nat.le_of_ble_eq_true rfl) (by decide) (by decide) (by decide) dX8_begin_1
  | ok x1 =>
    dsimp only at hf
    refine r_callV (av := []) (st := []) O (c_X8_needClosedBook ex1) mf_X8_needClosedBook cf8 (kd_X8_needClosedBook ex1) ml_X8_121 mi_X8_needClosedBook mv_X8_needClosedBook (by decide) (Nat.le_of_ble_eq_true rfl) (by decide) dX8_begin_1 ?_
    refine r_aload_n O 0 dX8_begin_4 rfl (Or.inl rfl) ?_
    obtain ⟨x3, ex3, hf⟩ := bnd hf
    refine r_gI O cf8 9 (by decide) rfl fl_X8_171 ex3 dX8_begin_5 ?_
    by_cases hc : x3 = 0
    · rw [if_pos hc] at hf
      refine r_if_eq_t (tgt := 21) O dX8_begin_8 (by decide) hc ?_
      refine r_aload_n O 0 dX8_begin_21 rfl (Or.inl rfl) ?_
      refine r_iconst O (v := 1) dX8_begin_22 (by decide) ?_
      obtain ⟨h4, eh4, hf⟩ := bnd hf
      refine r_pZ O cf8 9 (by decide) rfl fl_X8_171 rfl eh4 dX8_begin_23 ?_
      obtain rfl := Option.some.inj hf
      exact r_vret O hr rfl rfl (by decide) (by decide) dX8_begin_26
    · rw [if_neg hc] at hf
      refine r_if_eq_f (tgt := 21) O dX8_begin_8 (by decide) hc ?_
      obtain rfl := Option.some.inj hf
      exact r_throw 0 O hx kl_X8_63 xa_X8_63_67 st_X8_174 (by decide) (by decide) (Nat.le_of_ble_eq_true rfl) (by decide) (by decide) (by decide) dX8_begin_11 dX8_begin_14 dX8_begin_15 dX8_begin_17 dX8_begin_20
def f_X8_needGroup (h : AH) (a0 : Nat) : Option (Except Nat Unit × AH) :=
if aK h a0 = 8 then
Option.bind (gI h 8 a0 8) fun x1 =>
if x1 = 0 then
some (.error 0, nx h)
else
Option.bind (gI h 8 a0 9) fun x2 =>
if x2 = 0 then
some (.error 0, nx h)
else
some (.ok (), h)
else none
theorem kd_X8_needGroup {h : AH} {a0 : Nat} {r : (Except Nat Unit × AH)} (hf : f_X8_needGroup h a0 = some r) : aK h a0 = 8 := by
  unfold f_X8_needGroup at hf
  exact (ifk hf).1
set_option maxRecDepth 100000 in
set_option maxHeartbeats 4000000 in
theorem c_X8_needGroup {l : Launch} {G : GT} {h : AH} {a0 : Nat} {r : (Except Nat Unit × AH)} (hf : f_X8_needGroup h a0 = some r) : Cn l yX8_needGroup cX8_needGroup 1 none 6 90 1 6 G h [.ref a0] (r.1.map (fun x => none)) r.2 := by
  refine Cn.of (by decide) (Nat.le_of_ble_eq_true rfl) ?_
  intro p e s m args below meth c O hr hx hin
  have O : OkC p l s m args meth c G cX8_needGroup 1 RX8 := O
  unfold f_X8_needGroup at hf
  obtain ⟨hk0, hf⟩ := ifk hf
  refine AW.sub (lv' := [(0, .ref a0)]) [0] rfl ?_
  refine r_aload_n O 0 dX8_needGroup_0 rfl (Or.inl rfl) ?_
  obtain ⟨x1, ex1, hf⟩ := bnd hf
  refine r_gI O cf8 8 (by decide) rfl fl_X8_107 ex1 dX8_needGroup_1 ?_
  by_cases hc : x1 = 0
  · rw [if_pos hc] at hf
    refine r_if_eq_t (tgt := 14) O dX8_needGroup_4 (by decide) hc ?_
    obtain rfl := Option.some.inj hf
    exact r_throwW 0 O hx kl_X8_63 xa_X8_63_67 st_X8_272 (by decide) (by decide) (Nat.le_of_ble_eq_true rfl) (by decide) (by decide) (by decide) dX8_needGroup_14 dX8_needGroup_17 dX8_needGroup_18 dX8_needGroup_21 dX8_needGroup_24
  · rw [if_neg hc] at hf
    refine r_if_eq_f (tgt := 14) O dX8_needGroup_4 (by decide) hc ?_
    refine r_aload_n O 0 dX8_needGroup_7 rfl (Or.inl rfl) ?_
    obtain ⟨x2, ex2, hf⟩ := bnd hf
    refine r_gI O cf8 9 (by decide) rfl fl_X8_171 ex2 dX8_needGroup_8 ?_
    by_cases hc : x2 = 0
    · rw [if_pos hc] at hf
      refine r_if_ne_f (tgt := 25) O dX8_needGroup_11 (by decide) hc ?_
      obtain rfl := Option.some.inj hf
      exact r_throwW 0 O hx kl_X8_63 xa_X8_63_67 st_X8_272 (by decide) (by decide) (Nat.le_of_ble_eq_true rfl) (by decide) (by decide) (by decide) dX8_needGroup_14 dX8_needGroup_17 dX8_needGroup_18 dX8_needGroup_21 dX8_needGroup_24
    · rw [if_neg hc] at hf
      refine r_if_ne_t (tgt := 25) O dX8_needGroup_11 (by decide) hc ?_
      obtain rfl := Option.some.inj hf
      exact r_vret O hr rfl rfl (by decide) (by decide) dX8_needGroup_25
def f_X8_end (h : AH) (a0 : Nat) : Option (Except Nat Int32 × AH) :=
if aK h a0 = 8 then
Option.bind (f_X8_needGroup h a0) fun w => match w with
| (.error k9, h2) => some (.error k9, h2)
| (.ok x1, h2) =>
Option.bind (pZ h2 8 a0 9 0) fun h3 =>
Option.bind (pI h3 8 a0 10 0) fun h4 =>
Option.bind (f_X8_settle h4 a0) fun w => match w with
| (x5, h6) =>
some (.ok x5, h6)
else none
theorem kd_X8_end {h : AH} {a0 : Nat} {r : (Except Nat Int32 × AH)} (hf : f_X8_end h a0 = some r) : aK h a0 = 8 := by
  unfold f_X8_end at hf
  exact (ifk hf).1
set_option maxRecDepth 100000 in
set_option maxHeartbeats 4000000 in
theorem c_X8_end {l : Launch} {G : GT} {h : AH} {a0 : Nat} {r : (Except Nat Int32 × AH)} (hf : f_X8_end h a0 = some r) : Cn l yX8_end cX8_end 1 (some .int) 7 170 12 818 G h [.ref a0] (r.1.map (fun x => some (.int x))) r.2 := by
  refine Cn.of (by decide) (Nat.le_of_ble_eq_true rfl) ?_
  intro p e s m args below meth c O hr hx hin
  have O : OkC p l s m args meth c G cX8_end 1 RX8 := O
  unfold f_X8_end at hf
  obtain ⟨hk0, hf⟩ := ifk hf
  refine AW.sub (lv' := [(0, .ref a0)]) [0] rfl ?_
  refine r_aload_n O 0 dX8_end_0 rfl (Or.inl rfl) ?_
  obtain ⟨⟨w, h2⟩, ex1, hf⟩ := bnd hf
  cases w with
  | error k9 =>
    dsimp only at hf
    obtain rfl := Option.some.inj hf
    exact r_thrV (av := []) (st := []) O hx (c_X8_needGroup ex1) mf_X8_needGroup cf8 (kd_X8_needGroup ex1) ml_X8_176 mi_X8_needGroup mv_X8_needGroup (by decide) (Nat.le_of_ble_eq_true rfl) (by decide) (by decide) (by decide) dX8_end_1
  | ok x1 =>
    dsimp only at hf
    refine r_callV (av := []) (st := []) O (c_X8_needGroup ex1) mf_X8_needGroup cf8 (kd_X8_needGroup ex1) ml_X8_176 mi_X8_needGroup mv_X8_needGroup (by decide) (Nat.le_of_ble_eq_true rfl) (by decide) dX8_end_1 ?_
    refine r_aload_n O 0 dX8_end_4 rfl (Or.inl rfl) ?_
    refine r_iconst O (v := 0) dX8_end_5 (by decide) ?_
    obtain ⟨h3, eh3, hf⟩ := bnd hf
    refine r_pZ O cf8 9 (by decide) rfl fl_X8_171 rfl eh3 dX8_end_6 ?_
    refine r_aload_n O 0 dX8_end_9 rfl (Or.inl rfl) ?_
    refine r_iconst O (v := 0) dX8_end_10 (by decide) ?_
    obtain ⟨h4, eh4, hf⟩ := bnd hf
    refine r_pI O cf8 10 (by decide) rfl fl_X8_179 rfl eh4 dX8_end_11 ?_
    refine r_aload_n O 0 dX8_end_14 rfl (Or.inl rfl) ?_
    obtain ⟨⟨x5, h6⟩, ex5, hf⟩ := bnd hf
    dsimp only at hf
    refine r_callV (av := []) (st := []) O (c_X8_settle ex5) mf_X8_settle cf8 (kd_X8_settle ex5) ml_X8_137 mi_X8_settle mv_X8_settle (by decide) (Nat.le_of_ble_eq_true rfl) (by decide) dX8_end_15 ?_
    obtain rfl := Option.some.inj hf
    exact r_iret O hr rfl rfl (by decide) (by decide) dX8_end_18
def f_X8_drop (h : AH) (a0 : Nat) : Option (Except Nat Int32 × AH) :=
if aK h a0 = 8 then
Option.bind (f_X8_needGroup h a0) fun w => match w with
| (.error k9, h2) => some (.error k9, h2)
| (.ok x1, h2) =>
Option.bind (gI h2 8 a0 10) fun x3 =>
Option.bind (pZ h2 8 a0 9 0) fun h4 =>
Option.bind (pI h4 8 a0 10 0) fun h5 =>
Option.bind (gP h5 8 a0 1) fun x6 =>
Option.bind (gP h5 8 a0 2) fun x7 =>
Option.bind (f_X4_copyFrom h5 x6 x7) fun h9 =>
some (.ok x3, h9)
else none
theorem kd_X8_drop {h : AH} {a0 : Nat} {r : (Except Nat Int32 × AH)} (hf : f_X8_drop h a0 = some r) : aK h a0 = 8 := by
  unfold f_X8_drop at hf
  exact (ifk hf).1
set_option maxRecDepth 100000 in
set_option maxHeartbeats 4000000 in
theorem c_X8_drop {l : Launch} {G : GT} {h : AH} {a0 : Nat} {r : (Except Nat Int32 × AH)} (hf : f_X8_drop h a0 = some r) : Cn l yX8_drop cX8_drop 2 (some .int) 7 110 1 6 G h [.ref a0] (r.1.map (fun x => some (.int x))) r.2 := by
  refine Cn.of (by decide) (Nat.le_of_ble_eq_true rfl) ?_
  intro p e s m args below meth c O hr hx hin
  have O : OkC p l s m args meth c G cX8_drop 2 RX8 := O
  unfold f_X8_drop at hf
  obtain ⟨hk0, hf⟩ := ifk hf
  refine AW.sub (lv' := [(0, .ref a0)]) [0] rfl ?_
  refine r_aload_n O 0 dX8_drop_0 rfl (Or.inl rfl) ?_
  obtain ⟨⟨w, h2⟩, ex1, hf⟩ := bnd hf
  cases w with
  | error k9 =>
    dsimp only at hf
    obtain rfl := Option.some.inj hf
    exact r_thrV (av := []) (st := []) O hx (c_X8_needGroup ex1) mf_X8_needGroup cf8 (kd_X8_needGroup ex1) ml_X8_176 mi_X8_needGroup mv_X8_needGroup (by decide) (Nat.le_of_ble_eq_true rfl) (by decide) (by decide) (by decide) dX8_drop_1
  | ok x1 =>
    dsimp only at hf
    refine r_callV (av := []) (st := []) O (c_X8_needGroup ex1) mf_X8_needGroup cf8 (kd_X8_needGroup ex1) ml_X8_176 mi_X8_needGroup mv_X8_needGroup (by decide) (Nat.le_of_ble_eq_true rfl) (by decide) dX8_drop_1 ?_
    refine r_aload_n O 0 dX8_drop_4 rfl (Or.inl rfl) ?_
    obtain ⟨x3, ex3, hf⟩ := bnd hf
    refine r_gI O cf8 10 (by decide) rfl fl_X8_179 ex3 dX8_drop_5 ?_
    refine r_istore_n O [(1, .int x3), (0, .ref a0)] dX8_drop_8 (by decide) rfl ?_
    refine r_aload_n O 1 dX8_drop_9 rfl (Or.inl rfl) ?_
    refine r_iconst O (v := 0) dX8_drop_10 (by decide) ?_
    obtain ⟨h4, eh4, hf⟩ := bnd hf
    refine r_pZ O cf8 9 (by decide) rfl fl_X8_171 rfl eh4 dX8_drop_11 ?_
    refine r_aload_n O 1 dX8_drop_14 rfl (Or.inl rfl) ?_
    refine r_iconst O (v := 0) dX8_drop_15 (by decide) ?_
    obtain ⟨h5, eh5, hf⟩ := bnd hf
    refine r_pI O cf8 10 (by decide) rfl fl_X8_179 rfl eh5 dX8_drop_16 ?_
    refine r_aload_n O 1 dX8_drop_19 rfl (Or.inl rfl) ?_
    obtain ⟨x6, ex6, hf⟩ := bnd hf
    refine r_gP O cf8 1 (by decide) rfl fl_X8_19 ex6 dX8_drop_20 ?_
    refine r_aload_n O 1 dX8_drop_23 rfl (Or.inl rfl) ?_
    obtain ⟨x7, ex7, hf⟩ := bnd hf
    refine r_gP O cf8 2 (by decide) rfl fl_X8_23 ex7 dX8_drop_24 ?_
    obtain ⟨h9, eh9, hf⟩ := bnd hf
    refine r_callV (av := [.ref x7]) (st := []) O (c_X4_copyFrom eh9) mf_X4_copyFrom cf4 (kd_X4_copyFrom eh9) ml_X8_182 mi_X4_copyFrom mv_X4_copyFrom (by decide) (Nat.le_of_ble_eq_true rfl) (by decide) dX8_drop_27 ?_
    refine r_iload_n O 0 dX8_drop_30 rfl ?_
    obtain rfl := Option.some.inj hf
    exact r_iret O hr rfl rfl (by decide) (by decide) dX8_drop_31
def f_X3_takeLatest (h : AH) (a0 : Nat) : Option ((Option Nat) × AH) :=
if aK h a0 = 3 then
Option.bind (gI h 3 a0 2) fun x1 =>
if x1 = 0 then
some (none, h)
else
Option.bind (gI h 3 a0 2) fun x2 =>
Option.bind (pI h 3 a0 2 (x2 - 1)) fun h3 =>
Option.bind (gP h3 3 a0 0) fun x4 =>
Option.bind (gI h3 3 a0 1) fun x5 =>
Option.bind (gI h3 3 a0 2) fun x6 =>
Option.bind (ldP h3 x4 ((x5 + x6) - (x5 + x6) / 60 * 60)) fun x7 =>
some (x7, h3)
else none
theorem kd_X3_takeLatest {h : AH} {a0 : Nat} {r : ((Option Nat) × AH)} (hf : f_X3_takeLatest h a0 = some r) : aK h a0 = 3 := by
  unfold f_X3_takeLatest at hf
  exact (ifk hf).1
set_option maxRecDepth 100000 in
set_option maxHeartbeats 4000000 in
theorem c_X3_takeLatest {l : Launch} {G : GT} {h : AH} {a0 : Nat} {r : ((Option Nat) × AH)} (hf : f_X3_takeLatest h a0 = some r) : Cn l yX3_takeLatest cX3_takeLatest 1 (some (.object "ShadowOrder$Moment")) 0 0 0 0 G h [.ref a0] (.ok (some (rf r.1))) r.2 := by
  refine Cn.of (by decide) (Nat.le_of_ble_eq_true rfl) ?_
  intro p e s m args below meth c O hr hx hin
  have O : OkC p l s m args meth c G cX3_takeLatest 1 RX3 := O
  unfold f_X3_takeLatest at hf
  obtain ⟨hk0, hf⟩ := ifk hf
  refine AW.sub (lv' := [(0, .ref a0)]) [0] rfl ?_
  refine r_aload_n O 0 dX3_takeLatest_0 rfl (Or.inl rfl) ?_
  obtain ⟨x1, ex1, hf⟩ := bnd hf
  refine r_gI O cf3 2 (by decide) rfl fl_X3_17 ex1 dX3_takeLatest_1 ?_
  by_cases hc : x1 = 0
  · rw [if_pos hc] at hf
    refine r_if_ne_f (tgt := 9) O dX3_takeLatest_4 (by decide) hc ?_
    refine r_null O dX3_takeLatest_7 ?_
    obtain rfl := Option.some.inj hf
    exact r_aret O hr rfl rfl rfl (by decide) (by decide) dX3_takeLatest_8
  · rw [if_neg hc] at hf
    refine r_if_ne_t (tgt := 9) O dX3_takeLatest_4 (by decide) hc ?_
    refine r_aload_n O 0 dX3_takeLatest_9 rfl (Or.inl rfl) ?_
    refine r_dup O dX3_takeLatest_10 rfl ?_
    obtain ⟨x2, ex2, hf⟩ := bnd hf
    refine r_gI O cf3 2 (by decide) rfl fl_X3_17 ex2 dX3_takeLatest_11 ?_
    refine r_iconst O (v := 1) dX3_takeLatest_14 (by decide) ?_
    refine r_isub O dX3_takeLatest_15 ?_
    obtain ⟨h3, eh3, hf⟩ := bnd hf
    refine r_pI O cf3 2 (by decide) rfl fl_X3_17 rfl eh3 dX3_takeLatest_16 ?_
    refine r_aload_n O 0 dX3_takeLatest_19 rfl (Or.inl rfl) ?_
    obtain ⟨x4, ex4, hf⟩ := bnd hf
    refine r_gP O cf3 0 (by decide) rfl fl_X3_11 ex4 dX3_takeLatest_20 ?_
    refine r_aload_n O 0 dX3_takeLatest_23 rfl (Or.inl rfl) ?_
    obtain ⟨x5, ex5, hf⟩ := bnd hf
    refine r_gI O cf3 1 (by decide) rfl fl_X3_21 ex5 dX3_takeLatest_24 ?_
    refine r_aload_n O 0 dX3_takeLatest_27 rfl (Or.inl rfl) ?_
    obtain ⟨x6, ex6, hf⟩ := bnd hf
    refine r_gI O cf3 2 (by decide) rfl fl_X3_17 ex6 dX3_takeLatest_28 ?_
    refine r_iadd O dX3_takeLatest_31 ?_
    refine r_bipush O (v := 60) dX3_takeLatest_32 (by decide) ?_
    refine r_irem O dX3_takeLatest_34 (by decide) ?_
    obtain ⟨x7, ex7, hf⟩ := bnd hf
    refine r_ldP O ex7 dX3_takeLatest_35 ?_
    obtain rfl := Option.some.inj hf
    exact r_aret O hr (rf_ref _) rfl rfl (by decide) (by decide) dX3_takeLatest_36
def f_X8_changesTo_4 (l0 : Nat) (l1 : Nat) (n : Nat) (h : AH) (l2 : Int32) (l3 : Int32) : Option Int32 := match n with
| 0 => none
| n + 1 =>
if 258 ≤ l3 then
some l2
else
Option.bind (gP h 8 l0 0) fun x1 =>
Option.bind (gP h 8 l0 2) fun x2 =>
Option.bind (f_X0_isCell h x1 x2 l3) fun x3 =>
Option.bind (gP h 8 l0 0) fun x5 =>
Option.bind (gP h 2 l1 0) fun x6 =>
Option.bind (f_X0_isCell h x5 x6 l3) fun x7 =>
Option.bind (if x3 = x7 then
some (0 : Int32)
else
some (1 : Int32)) fun x9 =>
Option.bind (if x9 = 0 then
Option.bind (gP h 8 l0 3) fun x11 =>
Option.bind (ldJ h x11 l3) fun x12 =>
Option.bind (gP h 2 l1 1) fun x13 =>
Option.bind (ldJ h x13 l3) fun x14 =>
if (lg_cmp x12 x14) = 0 then
some l2
else
some (l2 + 1)
else
some (l2 + 1)) fun x10 =>
f_X8_changesTo_4 l0 l1 n h x10 (l3 + 1)
def f_X8_changesTo (h : AH) (a0 : Nat) (a1 : Nat) : Option Int32 :=
if aK h a0 = 8 then
Option.bind (f_X8_changesTo_4 a0 a1 FU h 0 0) fun x15 =>
some x15
else none
set_option maxRecDepth 100000 in
set_option maxHeartbeats 4000000 in
theorem s_X8_changesTo_4 {p : Program} {l : Launch} {e : Env} {s : State} {m : MethodId} {args : Array Value} {below : List Frame} {meth : Method} {c : Code} {G : GT} {Q : State → Prop} (O : OkC p l s m args meth c G cX8_changesTo 5 RX8) {l0 : Nat} {l1 : Nat} {h : AH} {w2 : Int32} (kk : AW p l e { frames := 2, cells := 0, slots := 0, locals := 42 } s m args below meth c G 5 Q h 0 0 75 [(2, .int w2)] []) : ∀ (n : Nat), ∀ (l2 : Int32) (l3 : Int32), f_X8_changesTo_4 l0 l1 n h l2 l3 = some w2 → AW p l e { frames := 2, cells := 0, slots := 0, locals := 42 } s m args below meth c G 5 Q h 0 0 4 [(0, .ref l0), (1, .ref l1), (2, .int l2), (3, .int l3)] [] := by
  intro n
  induction n with
  | zero =>
    intro l2 l3 hf
    simp [f_X8_changesTo_4] at hf
  | succ n ih =>
    intro l2 l3 hf
    unfold f_X8_changesTo_4 at hf
    refine r_iload_n O 3 dX8_changesTo_4 rfl ?_
    refine r_sipush O (v := 258) dX8_changesTo_5 (by decide) ?_
    by_cases hc : 258 ≤ l3
    · rw [if_pos hc] at hf
      refine r_icmp_ge_t (tgt := 75) O dX8_changesTo_8 (by decide) hc ?_
      obtain rfl := oi1 hf
      refine AW.sub [2] rfl ?_
      exact kk
    · rw [if_neg hc] at hf
      refine r_icmp_ge_f (tgt := 75) O dX8_changesTo_8 (by decide) hc ?_
      refine r_aload_n O 0 dX8_changesTo_11 rfl (Or.inl rfl) ?_
      obtain ⟨x1, ex1, hf⟩ := bnd hf
      refine r_gP O cf8 0 (by decide) rfl fl_X8_10 ex1 dX8_changesTo_12 ?_
      refine r_aload_n O 0 dX8_changesTo_15 rfl (Or.inl rfl) ?_
      obtain ⟨x2, ex2, hf⟩ := bnd hf
      refine r_gP O cf8 2 (by decide) rfl fl_X8_23 ex2 dX8_changesTo_16 ?_
      refine r_iload_n O 3 dX8_changesTo_19 rfl ?_
      obtain ⟨x3, ex3, hf⟩ := bnd hf
      refine r_callV (av := [.ref x2, .int l3]) (st := []) O (c_X0_isCell ex3) mf_X0_isCell cf0 (kd_X0_isCell ex3) ml_X8_294 mi_X0_isCell mv_X0_isCell (by decide) (Nat.le_of_ble_eq_true rfl) (by decide) dX8_changesTo_20 ?_
      refine r_aload_n O 0 dX8_changesTo_23 rfl (Or.inl rfl) ?_
      obtain ⟨x5, ex5, hf⟩ := bnd hf
      refine r_gP O cf8 0 (by decide) rfl fl_X8_10 ex5 dX8_changesTo_24 ?_
      refine r_aload_n O 1 dX8_changesTo_27 rfl (Or.inl rfl) ?_
      obtain ⟨x6, ex6, hf⟩ := bnd hf
      refine r_gP O cf2 0 (by decide) rfl fl_X8_194 ex6 dX8_changesTo_28 ?_
      refine r_iload_n O 3 dX8_changesTo_31 rfl ?_
      obtain ⟨x7, ex7, hf⟩ := bnd hf
      refine r_callV (av := [.ref x6, .int l3]) (st := [.int x3]) O (c_X0_isCell ex7) mf_X0_isCell cf0 (kd_X0_isCell ex7) ml_X8_294 mi_X0_isCell mv_X0_isCell (by decide) (Nat.le_of_ble_eq_true rfl) (by decide) dX8_changesTo_32 ?_
      obtain ⟨x9, hg, hf⟩ := bnd hf
      have hJ : AW p l e { frames := 2, cells := 0, slots := 0, locals := 42 } s m args below meth c G 5 Q h 0 0 43 [(0, .ref l0), (1, .ref l1), (2, .int l2), (3, .int l3)] [.int x9] := by
        refine r_istore O [(4, .int x9), (0, .ref l0), (1, .ref l1), (2, .int l2), (3, .int l3)] dX8_changesTo_43 (by decide) rfl ?_
        refine r_iload O 0 dX8_changesTo_45 rfl ?_
        obtain ⟨x10, hg, hf⟩ := bnd hf
        have hJ : AW p l e { frames := 2, cells := 0, slots := 0, locals := 42 } s m args below meth c G 5 Q h 0 0 69 [(0, .ref l0), (1, .ref l1), (2, .int x10), (3, .int l3)] [] := by
          refine r_iinc O 3 [(3, .int (l3 + 1)), (0, .ref l0), (1, .ref l1), (2, .int x10)] dX8_changesTo_69 rfl rfl (by decide) rfl ?_
          refine r_goto (tgt := 4) O dX8_changesTo_72 (by decide) ?_
          refine AW.sub [1, 2, 3, 0] rfl ?_
          exact ih _ _ hf
        clear hf
        have hf := hg
        clear hg
        by_cases hc : x9 = 0
        · rw [if_pos hc] at hf
          refine r_if_ne_f (tgt := 66) O dX8_changesTo_47 (by decide) hc ?_
          refine r_aload_n O 1 dX8_changesTo_50 rfl (Or.inl rfl) ?_
          obtain ⟨x11, ex11, hf⟩ := bnd hf
          refine r_gP O cf8 3 (by decide) rfl fl_X8_26 ex11 dX8_changesTo_51 ?_
          refine r_iload_n O 4 dX8_changesTo_54 rfl ?_
          obtain ⟨x12, ex12, hf⟩ := bnd hf
          refine r_ldJ O ex12 dX8_changesTo_55 ?_
          refine r_aload_n O 2 dX8_changesTo_56 rfl (Or.inl rfl) ?_
          obtain ⟨x13, ex13, hf⟩ := bnd hf
          refine r_gP O cf2 1 (by decide) rfl fl_X8_197 ex13 dX8_changesTo_57 ?_
          refine r_iload_n O 4 dX8_changesTo_60 rfl ?_
          obtain ⟨x14, ex14, hf⟩ := bnd hf
          refine r_ldJ O ex14 dX8_changesTo_61 ?_
          refine r_lcmp O dX8_changesTo_62 ?_
          by_cases hc : (lg_cmp x12 x14) = 0
          · rw [if_pos hc] at hf
            refine r_if_eq_t (tgt := 69) O dX8_changesTo_63 (by decide) hc ?_
            obtain rfl := oi1 hf
            refine AW.sub [1, 2, 3, 4] rfl ?_
            exact hJ
          · rw [if_neg hc] at hf
            refine r_if_eq_f (tgt := 69) O dX8_changesTo_63 (by decide) hc ?_
            refine r_iinc O 3 [(2, .int (l2 + 1)), (4, .int x9), (0, .ref l0), (1, .ref l1), (3, .int l3)] dX8_changesTo_66 rfl rfl (by decide) rfl ?_
            obtain rfl := oi1 hf
            refine AW.sub [2, 3, 0, 4] rfl ?_
            exact hJ
        · rw [if_neg hc] at hf
          refine r_if_ne_t (tgt := 66) O dX8_changesTo_47 (by decide) hc ?_
          refine r_iinc O 3 [(2, .int (l2 + 1)), (4, .int x9), (0, .ref l0), (1, .ref l1), (3, .int l3)] dX8_changesTo_66 rfl rfl (by decide) rfl ?_
          obtain rfl := oi1 hf
          refine AW.sub [2, 3, 0, 4] rfl ?_
          exact hJ
      clear hf
      have hf := hg
      clear hg
      by_cases hc : x3 = x7
      · rw [if_pos hc] at hf
        refine r_icmp_eq_t (tgt := 42) O dX8_changesTo_35 (by decide) hc ?_
        refine r_iconst O (v := 0) dX8_changesTo_42 (by decide) ?_
        obtain rfl := oi1 hf
        refine AW.sub [0, 1, 2, 3] rfl ?_
        exact hJ
      · rw [if_neg hc] at hf
        refine r_icmp_eq_f (tgt := 42) O dX8_changesTo_35 (by decide) hc ?_
        refine r_iconst O (v := 1) dX8_changesTo_38 (by decide) ?_
        refine r_goto (tgt := 43) O dX8_changesTo_39 (by decide) ?_
        obtain rfl := oi1 hf
        refine AW.sub [0, 1, 2, 3] rfl ?_
        exact hJ
theorem kd_X8_changesTo {h : AH} {a0 : Nat} {a1 : Nat} {r : Int32} (hf : f_X8_changesTo h a0 a1 = some r) : aK h a0 = 8 := by
  unfold f_X8_changesTo at hf
  exact (ifk hf).1
set_option maxRecDepth 100000 in
set_option maxHeartbeats 4000000 in
theorem c_X8_changesTo {l : Launch} {G : GT} {h : AH} {a0 : Nat} {a1 : Nat} {r : Int32} (hf : f_X8_changesTo h a0 a1 = some r) : Cn l yX8_changesTo cX8_changesTo 5 (some .int) 2 42 0 0 G h [.ref a0, .ref a1] (.ok (some (.int r))) h := by
  refine Cn.of (by decide) (Nat.le_of_ble_eq_true rfl) ?_
  intro p e s m args below meth c O hr hx hin
  have O : OkC p l s m args meth c G cX8_changesTo 5 RX8 := O
  unfold f_X8_changesTo at hf
  obtain ⟨hk0, hf⟩ := ifk hf
  refine AW.sub (lv' := [(0, .ref a0), (1, .ref a1)]) [0, 1] rfl ?_
  refine r_iconst O (v := 0) dX8_changesTo_0 (by decide) ?_
  refine r_istore_n O [(2, .int 0), (0, .ref a0), (1, .ref a1)] dX8_changesTo_1 (by decide) rfl ?_
  refine r_iconst O (v := 0) dX8_changesTo_2 (by decide) ?_
  refine r_istore_n O [(3, .int 0), (2, .int 0), (0, .ref a0), (1, .ref a1)] dX8_changesTo_3 (by decide) rfl ?_
  obtain ⟨x15, hw, hf⟩ := bnd hf
  refine AW.sub [2, 3, 1, 0] rfl ?_
  refine s_X8_changesTo_4 O ?_ _ _ _ hw
  refine r_iload_n O 0 dX8_changesTo_75 rfl ?_
  obtain rfl := Option.some.inj hf
  exact r_iret O hr rfl rfl (by decide) (by decide) dX8_changesTo_76
