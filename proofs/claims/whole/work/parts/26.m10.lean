def f_X8_tails (h : AH) (a0 : Nat) (a1 : Int32) (a2 : Int32) (a3 : Int32) (a4 : Int32) : Option (Except Nat Int32 × AH) :=
if aK h a0 = 8 then
Option.bind (f_X8_needList h a0 a1) fun w => match w with
| (.error k9, h2) => some (.error k9, h2)
| (.ok x1, h2) =>
Option.bind (f_X8_needList h2 a0 a3) fun w => match w with
| (.error k9, h4) => some (.error k9, h4)
| (.ok x3, h4) =>
Option.bind (f_X8_needClosedBook h4 a0) fun w => match w with
| (.error k9, h6) => some (.error k9, h6)
| (.ok x5, h6) =>
Option.bind (if a1 = a3 then
some 0
else
if a2 < 0 then
some 0
else
Option.bind (gP h6 8 a0 1) fun x8 =>
Option.bind (gP h6 4 x8 6) fun x9 =>
Option.bind (ldI h6 x9 a1) fun x10 =>
if x10 < a2 then
some 0
else
if a4 < 0 then
some 0
else
Option.bind (gP h6 8 a0 1) fun x11 =>
Option.bind (gP h6 4 x11 6) fun x12 =>
Option.bind (ldI h6 x12 a3) fun x13 =>
if x13 < a4 then
some 0
else
some 1) fun x7 =>
Option.bind (f_X8_need h6 x7) fun w => match w with
| (.error k9, h15) => some (.error k9, h15)
| (.ok x14, h15) =>
Option.bind (gP h15 8 a0 1) fun x16 =>
Option.bind (gP h15 4 x16 7) fun x17 =>
Option.bind (ldI h15 x17 a1) fun x18 =>
if a2 < x18 then
some (.ok (-3), h15)
else
Option.bind (gP h15 8 a0 1) fun x19 =>
Option.bind (gP h15 4 x19 7) fun x20 =>
Option.bind (ldI h15 x20 a3) fun x21 =>
if x21 ≤ a4 then
Option.bind (gP h15 8 a0 1) fun x22 =>
Option.bind (f_X4_crossTails h15 x22 a1 a2 a3 a4) fun h24 =>
Option.bind (f_X8_settle h24 a0) fun w => match w with
| (x25, h26) =>
some (.ok x25, h26)
else
some (.ok (-3), h15)
else none
theorem kd_X8_tails {h : AH} {a0 : Nat} {a1 : Int32} {a2 : Int32} {a3 : Int32} {a4 : Int32} {r : (Except Nat Int32 × AH)} (hf : f_X8_tails h a0 a1 a2 a3 a4 = some r) : aK h a0 = 8 := by
  unfold f_X8_tails at hf
  exact (ifk hf).1
set_option maxRecDepth 100000 in
set_option maxHeartbeats 4000000 in
theorem c_X8_tails {l : Launch} {G : GT} {h : AH} {a0 : Nat} {a1 : Int32} {a2 : Int32} {a3 : Int32} {a4 : Int32} {r : (Except Nat Int32 × AH)} (hf : f_X8_tails h a0 a1 a2 a3 a4 = some r) : Cn l yX8_tails cX8_tails 5 (some .int) 7 169 15 836 G h [.ref a0, .int a1, .int a2, .int a3, .int a4] (r.1.map (fun x => some (.int x))) r.2 := by
  refine Cn.of (by decide) (Nat.le_of_ble_eq_true rfl) ?_
  intro p e s m args below meth c O hr hx hin
  have O : OkC p l s m args meth c G cX8_tails 5 RX8 := O
  unfold f_X8_tails at hf
  obtain ⟨hk0, hf⟩ := ifk hf
  refine AW.sub (lv' := [(0, .ref a0), (1, .int a1), (2, .int a2), (3, .int a3), (4, .int a4)]) [0, 1, 2, 3, 4] rfl ?_
  refine r_aload_n O 0 dX8_tails_0 rfl (Or.inl rfl) ?_
  refine r_iload_n O 1 dX8_tails_1 rfl ?_
  obtain ⟨⟨w, h2⟩, ex1, hf⟩ := bnd hf
  cases w with
  | error k9 =>
    dsimp only at hf
    obtain rfl := Option.some.inj hf
    exact r_thrV (av := [.int a1]) (st := []) O hx (c_X8_needList ex1) mf_X8_needList cf8 (kd_X8_needList ex1) ml_X8_118 mi_X8_needList mv_X8_needList (by decide) (Nat.le_of_ble_eq_true rfl) (by decide) (by decide) (by decide) dX8_tails_2
  | ok x1 =>
    dsimp only at hf
    refine r_callV (av := [.int a1]) (st := []) O (c_X8_needList ex1) mf_X8_needList cf8 (kd_X8_needList ex1) ml_X8_118 mi_X8_needList mv_X8_needList (by decide) (Nat.le_of_ble_eq_true rfl) (by decide) dX8_tails_2 ?_
    refine r_aload_n O 0 dX8_tails_5 rfl (Or.inl rfl) ?_
    refine r_iload_n O 3 dX8_tails_6 rfl ?_
    obtain ⟨⟨w, h4⟩, ex3, hf⟩ := bnd hf
    cases w with
    | error k9 =>
      dsimp only at hf
      obtain rfl := Option.some.inj hf
      exact r_thrV (av := [.int a3]) (st := []) O hx (c_X8_needList ex3) mf_X8_needList cf8 (kd_X8_needList ex3) ml_X8_118 mi_X8_needList mv_X8_needList (by decide) (Nat.le_of_ble_eq_true rfl) (by decide) (by decide) (by decide) dX8_tails_7
    | ok x3 =>
      dsimp only at hf
      refine r_callV (av := [.int a3]) (st := []) O (c_X8_needList ex3) mf_X8_needList cf8 (kd_X8_needList ex3) ml_X8_118 mi_X8_needList mv_X8_needList (by decide) (Nat.le_of_ble_eq_true rfl) (by decide) dX8_tails_7 ?_
      refine r_aload_n O 0 dX8_tails_10 rfl (Or.inl rfl) ?_
      obtain ⟨⟨w, h6⟩, ex5, hf⟩ := bnd hf
      cases w with
      | error k9 =>
        dsimp only at hf
        obtain rfl := Option.some.inj hf
        exact r_thrV (av := []) (st := []) O hx (c_X8_needClosedBook ex5) mf_X8_needClosedBook cf8 (kd_X8_needClosedBook ex5) ml_X8_121 mi_X8_needClosedBook mv_X8_needClosedBook (by decide) (Nat.le_of_ble_eq_true rfl) (by decide) (by decide) (by decide) dX8_tails_11
      | ok x5 =>
        dsimp only at hf
        refine r_callV (av := []) (st := []) O (c_X8_needClosedBook ex5) mf_X8_needClosedBook cf8 (kd_X8_needClosedBook ex5) ml_X8_121 mi_X8_needClosedBook mv_X8_needClosedBook (by decide) (Nat.le_of_ble_eq_true rfl) (by decide) dX8_tails_11 ?_
        refine r_iload_n O 1 dX8_tails_14 rfl ?_
        refine r_iload_n O 3 dX8_tails_15 rfl ?_
        obtain ⟨x7, hg, hf⟩ := bnd hf
        have hJ : AW p l e { frames := 7, cells := 15, slots := 836, locals := 169 } s m args below meth c G 5 (vx_MQ below (QcN G (r.1.map (fun x => some (.int x))) r.2) (XcN G (r.1.map (fun x => some (.int x))) r.2) args s 15 836 (gA G)) h6 3 18 60 [(0, .ref a0), (1, .int a1), (2, .int a2), (3, .int a3), (4, .int a4)] [.int x7] := by
          obtain ⟨⟨w, h15⟩, ex14, hf⟩ := bnd hf
          cases w with
          | error k9 =>
            dsimp only at hf
            obtain rfl := Option.some.inj hf
            exact r_thrS (av := [.int x7]) (st := []) O hx (c_X8_need ex14) mf_X8_need ml_X8_92 ms_X8_need (by decide) (Nat.le_of_ble_eq_true rfl) (by decide) (by decide) (by decide) dX8_tails_60
          | ok x14 =>
            dsimp only at hf
            refine r_callS (av := [.int x7]) (st := []) O (c_X8_need ex14) mf_X8_need ml_X8_92 ms_X8_need (by decide) (Nat.le_of_ble_eq_true rfl) (by decide) dX8_tails_60 ?_
            refine r_iload_n O 2 dX8_tails_63 rfl ?_
            refine r_aload_n O 0 dX8_tails_64 rfl (Or.inl rfl) ?_
            obtain ⟨x16, ex16, hf⟩ := bnd hf
            refine r_gP O cf8 1 (by decide) rfl fl_X8_19 ex16 dX8_tails_65 ?_
            obtain ⟨x17, ex17, hf⟩ := bnd hf
            refine r_gP O cf4 7 (by decide) rfl fl_X8_131 ex17 dX8_tails_68 ?_
            refine r_iload_n O 1 dX8_tails_71 rfl ?_
            obtain ⟨x18, ex18, hf⟩ := bnd hf
            refine r_ldI O ex18 dX8_tails_72 ?_
            by_cases hc : a2 < x18
            · rw [if_pos hc] at hf
              refine r_icmp_lt_t (tgt := 90) O dX8_tails_73 (by decide) hc ?_
              refine r_bipush O (v := -3) dX8_tails_90 (by decide) ?_
              obtain rfl := Option.some.inj hf
              exact r_iret O hr rfl rfl (by decide) (by decide) dX8_tails_92
            · rw [if_neg hc] at hf
              refine r_icmp_lt_f (tgt := 90) O dX8_tails_73 (by decide) hc ?_
              refine r_iload O 4 dX8_tails_76 rfl ?_
              refine r_aload_n O 0 dX8_tails_78 rfl (Or.inl rfl) ?_
              obtain ⟨x19, ex19, hf⟩ := bnd hf
              refine r_gP O cf8 1 (by decide) rfl fl_X8_19 ex19 dX8_tails_79 ?_
              obtain ⟨x20, ex20, hf⟩ := bnd hf
              refine r_gP O cf4 7 (by decide) rfl fl_X8_131 ex20 dX8_tails_82 ?_
              refine r_iload_n O 3 dX8_tails_85 rfl ?_
              obtain ⟨x21, ex21, hf⟩ := bnd hf
              refine r_ldI O ex21 dX8_tails_86 ?_
              by_cases hc : x21 ≤ a4
              · rw [if_pos hc] at hf
                refine r_icmp_ge_t (tgt := 93) O dX8_tails_87 (by decide) hc ?_
                refine r_aload_n O 0 dX8_tails_93 rfl (Or.inl rfl) ?_
                obtain ⟨x22, ex22, hf⟩ := bnd hf
                refine r_gP O cf8 1 (by decide) rfl fl_X8_19 ex22 dX8_tails_94 ?_
                refine r_iload_n O 1 dX8_tails_97 rfl ?_
                refine r_iload_n O 2 dX8_tails_98 rfl ?_
                refine r_iload_n O 3 dX8_tails_99 rfl ?_
                refine r_iload O 4 dX8_tails_100 rfl ?_
                obtain ⟨h24, eh24, hf⟩ := bnd hf
                refine r_callV (av := [.int a1, .int a2, .int a3, .int a4]) (st := []) O (c_X4_crossTails eh24) mf_X4_crossTails cf4 (kd_X4_crossTails eh24) ml_X8_158 mi_X4_crossTails mv_X4_crossTails (by decide) (Nat.le_of_ble_eq_true rfl) (by decide) dX8_tails_102 ?_
                refine r_aload_n O 0 dX8_tails_105 rfl (Or.inl rfl) ?_
                obtain ⟨⟨x25, h26⟩, ex25, hf⟩ := bnd hf
                dsimp only at hf
                refine r_callV (av := []) (st := []) O (c_X8_settle ex25) mf_X8_settle cf8 (kd_X8_settle ex25) ml_X8_137 mi_X8_settle mv_X8_settle (by decide) (Nat.le_of_ble_eq_true rfl) (by decide) dX8_tails_106 ?_
                obtain rfl := Option.some.inj hf
                exact r_iret O hr rfl rfl (by decide) (by decide) dX8_tails_109
              · rw [if_neg hc] at hf
                refine r_icmp_ge_f (tgt := 93) O dX8_tails_87 (by decide) hc ?_
                refine r_bipush O (v := -3) dX8_tails_90 (by decide) ?_
                obtain rfl := Option.some.inj hf
                exact r_iret O hr rfl rfl (by decide) (by decide) dX8_tails_92
        clear hf
        have hf := hg
        clear hg
        by_cases hc : a1 = a3
        · rw [if_pos hc] at hf
          refine r_icmp_eq_t (tgt := 59) O dX8_tails_16 (by decide) hc ?_
          refine r_iconst O (v := 0) dX8_tails_59 (by decide) ?_
          cases hf
          refine AW.sub [0, 1, 2, 3, 4] rfl ?_
          exact hJ
        · rw [if_neg hc] at hf
          refine r_icmp_eq_f (tgt := 59) O dX8_tails_16 (by decide) hc ?_
          refine r_iload_n O 2 dX8_tails_19 rfl ?_
          by_cases hc : a2 < 0
          · rw [if_pos hc] at hf
            refine r_if_lt_t (tgt := 59) O dX8_tails_20 (by decide) hc ?_
            refine r_iconst O (v := 0) dX8_tails_59 (by decide) ?_
            cases hf
            refine AW.sub [0, 1, 2, 3, 4] rfl ?_
            exact hJ
          · rw [if_neg hc] at hf
            refine r_if_lt_f (tgt := 59) O dX8_tails_20 (by decide) hc ?_
            refine r_iload_n O 2 dX8_tails_23 rfl ?_
            refine r_aload_n O 0 dX8_tails_24 rfl (Or.inl rfl) ?_
            obtain ⟨x8, ex8, hf⟩ := bnd hf
            refine r_gP O cf8 1 (by decide) rfl fl_X8_19 ex8 dX8_tails_25 ?_
            obtain ⟨x9, ex9, hf⟩ := bnd hf
            refine r_gP O cf4 6 (by decide) rfl fl_X8_124 ex9 dX8_tails_28 ?_
            refine r_iload_n O 1 dX8_tails_31 rfl ?_
            obtain ⟨x10, ex10, hf⟩ := bnd hf
            refine r_ldI O ex10 dX8_tails_32 ?_
            by_cases hc : x10 < a2
            · rw [if_pos hc] at hf
              refine r_icmp_gt_t (tgt := 59) O dX8_tails_33 (by decide) hc ?_
              refine r_iconst O (v := 0) dX8_tails_59 (by decide) ?_
              cases hf
              refine AW.sub [0, 1, 2, 3, 4] rfl ?_
              exact hJ
            · rw [if_neg hc] at hf
              refine r_icmp_gt_f (tgt := 59) O dX8_tails_33 (by decide) hc ?_
              refine r_iload O 4 dX8_tails_36 rfl ?_
              by_cases hc : a4 < 0
              · rw [if_pos hc] at hf
                refine r_if_lt_t (tgt := 59) O dX8_tails_38 (by decide) hc ?_
                refine r_iconst O (v := 0) dX8_tails_59 (by decide) ?_
                cases hf
                refine AW.sub [0, 1, 2, 3, 4] rfl ?_
                exact hJ
              · rw [if_neg hc] at hf
                refine r_if_lt_f (tgt := 59) O dX8_tails_38 (by decide) hc ?_
                refine r_iload O 4 dX8_tails_41 rfl ?_
                refine r_aload_n O 0 dX8_tails_43 rfl (Or.inl rfl) ?_
                obtain ⟨x11, ex11, hf⟩ := bnd hf
                refine r_gP O cf8 1 (by decide) rfl fl_X8_19 ex11 dX8_tails_44 ?_
                obtain ⟨x12, ex12, hf⟩ := bnd hf
                refine r_gP O cf4 6 (by decide) rfl fl_X8_124 ex12 dX8_tails_47 ?_
                refine r_iload_n O 3 dX8_tails_50 rfl ?_
                obtain ⟨x13, ex13, hf⟩ := bnd hf
                refine r_ldI O ex13 dX8_tails_51 ?_
                by_cases hc : x13 < a4
                · rw [if_pos hc] at hf
                  refine r_icmp_gt_t (tgt := 59) O dX8_tails_52 (by decide) hc ?_
                  refine r_iconst O (v := 0) dX8_tails_59 (by decide) ?_
                  cases hf
                  refine AW.sub [0, 1, 2, 3, 4] rfl ?_
                  exact hJ
                · rw [if_neg hc] at hf
                  refine r_icmp_gt_f (tgt := 59) O dX8_tails_52 (by decide) hc ?_
                  refine r_iconst O (v := 1) dX8_tails_55 (by decide) ?_
                  refine r_goto (tgt := 60) O dX8_tails_56 (by decide) ?_
                  cases hf
                  refine AW.sub [0, 1, 2, 3, 4] rfl ?_
                  exact hJ
def f_X8_fact (h : AH) (a0 : Nat) (a1 : Int32) (a2 : Int32) (a3 : Int32) : Option (Except Nat Int32 × AH) :=
if aK h a0 = 8 then
Option.bind (f_X8_needThing h a0 a1) fun w => match w with
| (.error k9, h2) => some (.error k9, h2)
| (.ok x1, h2) =>
Option.bind (f_X8_needClosedBook h2 a0) fun w => match w with
| (.error k9, h4) => some (.error k9, h4)
| (.ok x3, h4) =>
Option.bind (if a2 < 0 then
some 0
else
if 4 ≤ a2 then
some 0
else
some 1) fun x5 =>
Option.bind (f_X8_need h4 x5) fun w => match w with
| (.error k9, h7) => some (.error k9, h7)
| (.ok x6, h7) =>
Option.bind (gP h7 8 a0 1) fun x8 =>
Option.bind (f_X4_isFrozen h7 x8 a1) fun x9 =>
if x9 = 0 then
Option.bind (gP h7 8 a0 1) fun x11 =>
Option.bind (gP h7 4 x11 0) fun x12 =>
Option.bind (stI h7 x12 ((4 * a1) + a2) a3) fun h13 =>
Option.bind (f_X8_settle h13 a0) fun w => match w with
| (x14, h15) =>
some (.ok x14, h15)
else
Option.bind (gP h7 8 a0 1) fun x16 =>
Option.bind (gP h7 4 x16 0) fun x17 =>
Option.bind (ldI h7 x17 ((4 * a1) + a2)) fun x18 =>
if x18 = a3 then
Option.bind (gP h7 8 a0 1) fun x19 =>
Option.bind (gP h7 4 x19 0) fun x20 =>
Option.bind (stI h7 x20 ((4 * a1) + a2) a3) fun h21 =>
Option.bind (f_X8_settle h21 a0) fun w => match w with
| (x22, h23) =>
some (.ok x22, h23)
else
some (.ok (-3), h7)
else none
theorem kd_X8_fact {h : AH} {a0 : Nat} {a1 : Int32} {a2 : Int32} {a3 : Int32} {r : (Except Nat Int32 × AH)} (hf : f_X8_fact h a0 a1 a2 a3 = some r) : aK h a0 = 8 := by
  unfold f_X8_fact at hf
  exact (ifk hf).1
set_option maxRecDepth 100000 in
set_option maxHeartbeats 4000000 in
theorem c_X8_fact {l : Launch} {G : GT} {h : AH} {a0 : Nat} {a1 : Int32} {a2 : Int32} {a3 : Int32} {r : (Except Nat Int32 × AH)} (hf : f_X8_fact h a0 a1 a2 a3 = some r) : Cn l yX8_fact cX8_fact 5 (some .int) 7 169 14 830 G h [.ref a0, .int a1, .int a2, .int a3] (r.1.map (fun x => some (.int x))) r.2 := by
  refine Cn.of (by decide) (Nat.le_of_ble_eq_true rfl) ?_
  intro p e s m args below meth c O hr hx hin
  have O : OkC p l s m args meth c G cX8_fact 5 RX8 := O
  unfold f_X8_fact at hf
  obtain ⟨hk0, hf⟩ := ifk hf
  refine AW.sub (lv' := [(0, .ref a0), (1, .int a1), (2, .int a2), (3, .int a3)]) [0, 1, 2, 3] rfl ?_
  refine r_aload_n O 0 dX8_fact_0 rfl (Or.inl rfl) ?_
  refine r_iload_n O 1 dX8_fact_1 rfl ?_
  obtain ⟨⟨w, h2⟩, ex1, hf⟩ := bnd hf
  cases w with
  | error k9 =>
    dsimp only at hf
    obtain rfl := Option.some.inj hf
    exact r_thrV (av := [.int a1]) (st := []) O hx (c_X8_needThing ex1) mf_X8_needThing cf8 (kd_X8_needThing ex1) ml_X8_114 mi_X8_needThing mv_X8_needThing (by decide) (Nat.le_of_ble_eq_true rfl) (by decide) (by decide) (by decide) dX8_fact_2
  | ok x1 =>
    dsimp only at hf
    refine r_callV (av := [.int a1]) (st := []) O (c_X8_needThing ex1) mf_X8_needThing cf8 (kd_X8_needThing ex1) ml_X8_114 mi_X8_needThing mv_X8_needThing (by decide) (Nat.le_of_ble_eq_true rfl) (by decide) dX8_fact_2 ?_
    refine r_aload_n O 0 dX8_fact_5 rfl (Or.inl rfl) ?_
    obtain ⟨⟨w, h4⟩, ex3, hf⟩ := bnd hf
    cases w with
    | error k9 =>
      dsimp only at hf
      obtain rfl := Option.some.inj hf
      exact r_thrV (av := []) (st := []) O hx (c_X8_needClosedBook ex3) mf_X8_needClosedBook cf8 (kd_X8_needClosedBook ex3) ml_X8_121 mi_X8_needClosedBook mv_X8_needClosedBook (by decide) (Nat.le_of_ble_eq_true rfl) (by decide) (by decide) (by decide) dX8_fact_6
    | ok x3 =>
      dsimp only at hf
      refine r_callV (av := []) (st := []) O (c_X8_needClosedBook ex3) mf_X8_needClosedBook cf8 (kd_X8_needClosedBook ex3) ml_X8_121 mi_X8_needClosedBook mv_X8_needClosedBook (by decide) (Nat.le_of_ble_eq_true rfl) (by decide) dX8_fact_6 ?_
      refine r_iload_n O 2 dX8_fact_9 rfl ?_
      obtain ⟨x5, hg, hf⟩ := bnd hf
      have hJ : AW p l e { frames := 7, cells := 14, slots := 830, locals := 169 } s m args below meth c G 5 (vx_MQ below (QcN G (r.1.map (fun x => some (.int x))) r.2) (XcN G (r.1.map (fun x => some (.int x))) r.2) args s 14 830 (gA G)) h4 2 12 23 [(0, .ref a0), (1, .int a1), (2, .int a2), (3, .int a3)] [.int x5] := by
        obtain ⟨⟨w, h7⟩, ex6, hf⟩ := bnd hf
        cases w with
        | error k9 =>
          dsimp only at hf
          obtain rfl := Option.some.inj hf
          exact r_thrS (av := [.int x5]) (st := []) O hx (c_X8_need ex6) mf_X8_need ml_X8_92 ms_X8_need (by decide) (Nat.le_of_ble_eq_true rfl) (by decide) (by decide) (by decide) dX8_fact_23
        | ok x6 =>
          dsimp only at hf
          refine r_callS (av := [.int x5]) (st := []) O (c_X8_need ex6) mf_X8_need ml_X8_92 ms_X8_need (by decide) (Nat.le_of_ble_eq_true rfl) (by decide) dX8_fact_23 ?_
          refine r_iconst O (v := 4) dX8_fact_26 (by decide) ?_
          refine r_iload_n O 1 dX8_fact_27 rfl ?_
          refine r_imul O dX8_fact_28 ?_
          refine r_iload_n O 2 dX8_fact_29 rfl ?_
          refine r_iadd O dX8_fact_30 ?_
          refine r_istore O [(4, .int ((4 * a1) + a2)), (0, .ref a0), (1, .int a1), (2, .int a2), (3, .int a3)] dX8_fact_31 (by decide) rfl ?_
          refine r_aload_n O 1 dX8_fact_33 rfl (Or.inl rfl) ?_
          obtain ⟨x8, ex8, hf⟩ := bnd hf
          refine r_gP O cf8 1 (by decide) rfl fl_X8_19 ex8 dX8_fact_34 ?_
          refine r_iload_n O 2 dX8_fact_37 rfl ?_
          obtain ⟨x9, ex9, hf⟩ := bnd hf
          refine r_callV (av := [.int a1]) (st := []) O (c_X4_isFrozen ex9) mf_X4_isFrozen cf4 (kd_X4_isFrozen ex9) ml_X8_141 mi_X4_isFrozen mv_X4_isFrozen (by decide) (Nat.le_of_ble_eq_true rfl) (by decide) dX8_fact_38 ?_
          by_cases hc : x9 = 0
          · rw [if_pos hc] at hf
            refine r_if_eq_t (tgt := 61) O dX8_fact_41 (by decide) hc ?_
            refine r_aload_n O 1 dX8_fact_61 rfl (Or.inl rfl) ?_
            obtain ⟨x11, ex11, hf⟩ := bnd hf
            refine r_gP O cf8 1 (by decide) rfl fl_X8_19 ex11 dX8_fact_62 ?_
            obtain ⟨x12, ex12, hf⟩ := bnd hf
            refine r_gP O cf4 0 (by decide) rfl fl_X8_162 ex12 dX8_fact_65 ?_
            refine r_iload O 0 dX8_fact_68 rfl ?_
            refine r_iload_n O 4 dX8_fact_70 rfl ?_
            obtain ⟨h13, eh13, hf⟩ := bnd hf
            refine r_stI O eh13 dX8_fact_71 ?_
            refine r_aload_n O 1 dX8_fact_72 rfl (Or.inl rfl) ?_
            obtain ⟨⟨x14, h15⟩, ex14, hf⟩ := bnd hf
            dsimp only at hf
            refine r_callV (av := []) (st := []) O (c_X8_settle ex14) mf_X8_settle cf8 (kd_X8_settle ex14) ml_X8_137 mi_X8_settle mv_X8_settle (by decide) (Nat.le_of_ble_eq_true rfl) (by decide) dX8_fact_73 ?_
            obtain rfl := Option.some.inj hf
            exact r_iret O hr rfl rfl (by decide) (by decide) dX8_fact_76
          · rw [if_neg hc] at hf
            refine r_if_eq_f (tgt := 61) O dX8_fact_41 (by decide) hc ?_
            refine r_aload_n O 1 dX8_fact_44 rfl (Or.inl rfl) ?_
            obtain ⟨x16, ex16, hf⟩ := bnd hf
            refine r_gP O cf8 1 (by decide) rfl fl_X8_19 ex16 dX8_fact_45 ?_
            obtain ⟨x17, ex17, hf⟩ := bnd hf
            refine r_gP O cf4 0 (by decide) rfl fl_X8_162 ex17 dX8_fact_48 ?_
            refine r_iload O 0 dX8_fact_51 rfl ?_
            obtain ⟨x18, ex18, hf⟩ := bnd hf
            refine r_ldI O ex18 dX8_fact_53 ?_
            refine r_iload_n O 4 dX8_fact_54 rfl ?_
            by_cases hc : x18 = a3
            · rw [if_pos hc] at hf
              refine r_icmp_eq_t (tgt := 61) O dX8_fact_55 (by decide) hc ?_
              refine r_aload_n O 1 dX8_fact_61 rfl (Or.inl rfl) ?_
              obtain ⟨x19, ex19, hf⟩ := bnd hf
              refine r_gP O cf8 1 (by decide) rfl fl_X8_19 ex19 dX8_fact_62 ?_
              obtain ⟨x20, ex20, hf⟩ := bnd hf
              refine r_gP O cf4 0 (by decide) rfl fl_X8_162 ex20 dX8_fact_65 ?_
              refine r_iload O 0 dX8_fact_68 rfl ?_
              refine r_iload_n O 4 dX8_fact_70 rfl ?_
              obtain ⟨h21, eh21, hf⟩ := bnd hf
              refine r_stI O eh21 dX8_fact_71 ?_
              refine r_aload_n O 1 dX8_fact_72 rfl (Or.inl rfl) ?_
              obtain ⟨⟨x22, h23⟩, ex22, hf⟩ := bnd hf
              dsimp only at hf
              refine r_callV (av := []) (st := []) O (c_X8_settle ex22) mf_X8_settle cf8 (kd_X8_settle ex22) ml_X8_137 mi_X8_settle mv_X8_settle (by decide) (Nat.le_of_ble_eq_true rfl) (by decide) dX8_fact_73 ?_
              obtain rfl := Option.some.inj hf
              exact r_iret O hr rfl rfl (by decide) (by decide) dX8_fact_76
            · rw [if_neg hc] at hf
              refine r_icmp_eq_f (tgt := 61) O dX8_fact_55 (by decide) hc ?_
              refine r_bipush O (v := -3) dX8_fact_58 (by decide) ?_
              obtain rfl := Option.some.inj hf
              exact r_iret O hr rfl rfl (by decide) (by decide) dX8_fact_60
      clear hf
      have hf := hg
      clear hg
      by_cases hc : a2 < 0
      · rw [if_pos hc] at hf
        refine r_if_lt_t (tgt := 22) O dX8_fact_10 (by decide) hc ?_
        refine r_iconst O (v := 0) dX8_fact_22 (by decide) ?_
        cases hf
        refine AW.sub [0, 1, 2, 3] rfl ?_
        exact hJ
      · rw [if_neg hc] at hf
        refine r_if_lt_f (tgt := 22) O dX8_fact_10 (by decide) hc ?_
        refine r_iload_n O 2 dX8_fact_13 rfl ?_
        refine r_iconst O (v := 4) dX8_fact_14 (by decide) ?_
        by_cases hc : 4 ≤ a2
        · rw [if_pos hc] at hf
          refine r_icmp_ge_t (tgt := 22) O dX8_fact_15 (by decide) hc ?_
          refine r_iconst O (v := 0) dX8_fact_22 (by decide) ?_
          cases hf
          refine AW.sub [0, 1, 2, 3] rfl ?_
          exact hJ
        · rw [if_neg hc] at hf
          refine r_icmp_ge_f (tgt := 22) O dX8_fact_15 (by decide) hc ?_
          refine r_iconst O (v := 1) dX8_fact_18 (by decide) ?_
          refine r_goto (tgt := 23) O dX8_fact_19 (by decide) ?_
          cases hf
          refine AW.sub [0, 1, 2, 3] rfl ?_
          exact hJ
def f_X8_listFact (h : AH) (a0 : Nat) (a1 : Int32) (a2 : Int32) (a3 : Int32) : Option (Except Nat Int32 × AH) :=
if aK h a0 = 8 then
Option.bind (f_X8_needList h a0 a1) fun w => match w with
| (.error k9, h2) => some (.error k9, h2)
| (.ok x1, h2) =>
Option.bind (f_X8_needClosedBook h2 a0) fun w => match w with
| (.error k9, h4) => some (.error k9, h4)
| (.ok x3, h4) =>
Option.bind (if a2 < 0 then
some 0
else
if 2 ≤ a2 then
some 0
else
some 1) fun x5 =>
Option.bind (f_X8_need h4 x5) fun w => match w with
| (.error k9, h7) => some (.error k9, h7)
| (.ok x6, h7) =>
Option.bind (gP h7 8 a0 1) fun x8 =>
Option.bind (gP h7 4 x8 1) fun x9 =>
Option.bind (stI h7 x9 ((2 * a1) + a2) a3) fun h10 =>
Option.bind (f_X8_settle h10 a0) fun w => match w with
| (x11, h12) =>
some (.ok x11, h12)
else none
theorem kd_X8_listFact {h : AH} {a0 : Nat} {a1 : Int32} {a2 : Int32} {a3 : Int32} {r : (Except Nat Int32 × AH)} (hf : f_X8_listFact h a0 a1 a2 a3 = some r) : aK h a0 = 8 := by
  unfold f_X8_listFact at hf
  exact (ifk hf).1
set_option maxRecDepth 100000 in
set_option maxHeartbeats 4000000 in
theorem c_X8_listFact {l : Launch} {G : GT} {h : AH} {a0 : Nat} {a1 : Int32} {a2 : Int32} {a3 : Int32} {r : (Except Nat Int32 × AH)} (hf : f_X8_listFact h a0 a1 a2 a3 = some r) : Cn l yX8_listFact cX8_listFact 4 (some .int) 7 169 14 830 G h [.ref a0, .int a1, .int a2, .int a3] (r.1.map (fun x => some (.int x))) r.2 := by
  refine Cn.of (by decide) (Nat.le_of_ble_eq_true rfl) ?_
  intro p e s m args below meth c O hr hx hin
  have O : OkC p l s m args meth c G cX8_listFact 4 RX8 := O
  unfold f_X8_listFact at hf
  obtain ⟨hk0, hf⟩ := ifk hf
  refine AW.sub (lv' := [(0, .ref a0), (1, .int a1), (2, .int a2), (3, .int a3)]) [0, 1, 2, 3] rfl ?_
  refine r_aload_n O 0 dX8_listFact_0 rfl (Or.inl rfl) ?_
  refine r_iload_n O 1 dX8_listFact_1 rfl ?_
  obtain ⟨⟨w, h2⟩, ex1, hf⟩ := bnd hf
  cases w with
  | error k9 =>
    dsimp only at hf
    obtain rfl := Option.some.inj hf
    exact r_thrV (av := [.int a1]) (st := []) O hx (c_X8_needList ex1) mf_X8_needList cf8 (kd_X8_needList ex1) ml_X8_118 mi_X8_needList mv_X8_needList (by decide) (Nat.le_of_ble_eq_true rfl) (by decide) (by decide) (by decide) dX8_listFact_2
  | ok x1 =>
    dsimp only at hf
    refine r_callV (av := [.int a1]) (st := []) O (c_X8_needList ex1) mf_X8_needList cf8 (kd_X8_needList ex1) ml_X8_118 mi_X8_needList mv_X8_needList (by decide) (Nat.le_of_ble_eq_true rfl) (by decide) dX8_listFact_2 ?_
    refine r_aload_n O 0 dX8_listFact_5 rfl (Or.inl rfl) ?_
    obtain ⟨⟨w, h4⟩, ex3, hf⟩ := bnd hf
    cases w with
    | error k9 =>
      dsimp only at hf
      obtain rfl := Option.some.inj hf
      exact r_thrV (av := []) (st := []) O hx (c_X8_needClosedBook ex3) mf_X8_needClosedBook cf8 (kd_X8_needClosedBook ex3) ml_X8_121 mi_X8_needClosedBook mv_X8_needClosedBook (by decide) (Nat.le_of_ble_eq_true rfl) (by decide) (by decide) (by decide) dX8_listFact_6
    | ok x3 =>
      dsimp only at hf
      refine r_callV (av := []) (st := []) O (c_X8_needClosedBook ex3) mf_X8_needClosedBook cf8 (kd_X8_needClosedBook ex3) ml_X8_121 mi_X8_needClosedBook mv_X8_needClosedBook (by decide) (Nat.le_of_ble_eq_true rfl) (by decide) dX8_listFact_6 ?_
      refine r_iload_n O 2 dX8_listFact_9 rfl ?_
      obtain ⟨x5, hg, hf⟩ := bnd hf
      have hJ : AW p l e { frames := 7, cells := 14, slots := 830, locals := 169 } s m args below meth c G 4 (vx_MQ below (QcN G (r.1.map (fun x => some (.int x))) r.2) (XcN G (r.1.map (fun x => some (.int x))) r.2) args s 14 830 (gA G)) h4 2 12 23 [(0, .ref a0), (1, .int a1), (2, .int a2), (3, .int a3)] [.int x5] := by
        obtain ⟨⟨w, h7⟩, ex6, hf⟩ := bnd hf
        cases w with
        | error k9 =>
          dsimp only at hf
          obtain rfl := Option.some.inj hf
          exact r_thrS (av := [.int x5]) (st := []) O hx (c_X8_need ex6) mf_X8_need ml_X8_92 ms_X8_need (by decide) (Nat.le_of_ble_eq_true rfl) (by decide) (by decide) (by decide) dX8_listFact_23
        | ok x6 =>
          dsimp only at hf
          refine r_callS (av := [.int x5]) (st := []) O (c_X8_need ex6) mf_X8_need ml_X8_92 ms_X8_need (by decide) (Nat.le_of_ble_eq_true rfl) (by decide) dX8_listFact_23 ?_
          refine r_aload_n O 0 dX8_listFact_26 rfl (Or.inl rfl) ?_
          obtain ⟨x8, ex8, hf⟩ := bnd hf
          refine r_gP O cf8 1 (by decide) rfl fl_X8_19 ex8 dX8_listFact_27 ?_
          obtain ⟨x9, ex9, hf⟩ := bnd hf
          refine r_gP O cf4 1 (by decide) rfl fl_X8_165 ex9 dX8_listFact_30 ?_
          refine r_iconst O (v := 2) dX8_listFact_33 (by decide) ?_
          refine r_iload_n O 1 dX8_listFact_34 rfl ?_
          refine r_imul O dX8_listFact_35 ?_
          refine r_iload_n O 2 dX8_listFact_36 rfl ?_
          refine r_iadd O dX8_listFact_37 ?_
          refine r_iload_n O 3 dX8_listFact_38 rfl ?_
          obtain ⟨h10, eh10, hf⟩ := bnd hf
          refine r_stI O eh10 dX8_listFact_39 ?_
          refine r_aload_n O 0 dX8_listFact_40 rfl (Or.inl rfl) ?_
          obtain ⟨⟨x11, h12⟩, ex11, hf⟩ := bnd hf
          dsimp only at hf
          refine r_callV (av := []) (st := []) O (c_X8_settle ex11) mf_X8_settle cf8 (kd_X8_settle ex11) ml_X8_137 mi_X8_settle mv_X8_settle (by decide) (Nat.le_of_ble_eq_true rfl) (by decide) dX8_listFact_41 ?_
          obtain rfl := Option.some.inj hf
          exact r_iret O hr rfl rfl (by decide) (by decide) dX8_listFact_44
      clear hf
      have hf := hg
      clear hg
      by_cases hc : a2 < 0
      · rw [if_pos hc] at hf
        refine r_if_lt_t (tgt := 22) O dX8_listFact_10 (by decide) hc ?_
        refine r_iconst O (v := 0) dX8_listFact_22 (by decide) ?_
        cases hf
        refine AW.sub [0, 1, 2, 3] rfl ?_
        exact hJ
      · rw [if_neg hc] at hf
        refine r_if_lt_f (tgt := 22) O dX8_listFact_10 (by decide) hc ?_
        refine r_iload_n O 2 dX8_listFact_13 rfl ?_
        refine r_iconst O (v := 2) dX8_listFact_14 (by decide) ?_
        by_cases hc : 2 ≤ a2
        · rw [if_pos hc] at hf
          refine r_icmp_ge_t (tgt := 22) O dX8_listFact_15 (by decide) hc ?_
          refine r_iconst O (v := 0) dX8_listFact_22 (by decide) ?_
          cases hf
          refine AW.sub [0, 1, 2, 3] rfl ?_
          exact hJ
        · rw [if_neg hc] at hf
          refine r_icmp_ge_f (tgt := 22) O dX8_listFact_15 (by decide) hc ?_
          refine r_iconst O (v := 1) dX8_listFact_18 (by decide) ?_
          refine r_goto (tgt := 23) O dX8_listFact_19 (by decide) ?_
          cases hf
          refine AW.sub [0, 1, 2, 3] rfl ?_
          exact hJ
def f_X8_link (h : AH) (a0 : Nat) (a1 : Int32) (a2 : Int32) : Option (Except Nat Int32 × AH) :=
if aK h a0 = 8 then
Option.bind (f_X8_needThing h a0 a1) fun w => match w with
| (.error k9, h2) => some (.error k9, h2)
| (.ok x1, h2) =>
if a2 = (-1) then
Option.bind (f_X8_needClosedBook h2 a0) fun w => match w with
| (.error k9, h4) => some (.error k9, h4)
| (.ok x3, h4) =>
Option.bind (if a1 = a2 then
some 0
else
some 1) fun x5 =>
Option.bind (f_X8_need h4 x5) fun w => match w with
| (.error k9, h7) => some (.error k9, h7)
| (.ok x6, h7) =>
Option.bind (gP h7 8 a0 1) fun x8 =>
Option.bind (f_X4_isFrozen h7 x8 a1) fun x9 =>
if x9 = 0 then
Option.bind (gP h7 8 a0 1) fun x11 =>
Option.bind (gP h7 4 x11 2) fun x12 =>
Option.bind (stI h7 x12 a1 a2) fun h13 =>
Option.bind (f_X8_settle h13 a0) fun w => match w with
| (x14, h15) =>
some (.ok x14, h15)
else
Option.bind (gP h7 8 a0 1) fun x16 =>
Option.bind (gP h7 4 x16 2) fun x17 =>
Option.bind (ldI h7 x17 a1) fun x18 =>
if x18 = a2 then
Option.bind (gP h7 8 a0 1) fun x19 =>
Option.bind (gP h7 4 x19 2) fun x20 =>
Option.bind (stI h7 x20 a1 a2) fun h21 =>
Option.bind (f_X8_settle h21 a0) fun w => match w with
| (x22, h23) =>
some (.ok x22, h23)
else
some (.ok (-3), h7)
else
Option.bind (f_X8_needThing h2 a0 a2) fun w => match w with
| (.error k9, h25) => some (.error k9, h25)
| (.ok x24, h25) =>
Option.bind (f_X8_needClosedBook h25 a0) fun w => match w with
| (.error k9, h27) => some (.error k9, h27)
| (.ok x26, h27) =>
Option.bind (if a1 = a2 then
some 0
else
some 1) fun x28 =>
Option.bind (f_X8_need h27 x28) fun w => match w with
| (.error k9, h30) => some (.error k9, h30)
| (.ok x29, h30) =>
Option.bind (gP h30 8 a0 1) fun x31 =>
Option.bind (f_X4_isFrozen h30 x31 a1) fun x32 =>
if x32 = 0 then
Option.bind (gP h30 8 a0 1) fun x34 =>
Option.bind (gP h30 4 x34 2) fun x35 =>
Option.bind (stI h30 x35 a1 a2) fun h36 =>
Option.bind (f_X8_settle h36 a0) fun w => match w with
| (x37, h38) =>
some (.ok x37, h38)
else
Option.bind (gP h30 8 a0 1) fun x39 =>
Option.bind (gP h30 4 x39 2) fun x40 =>
Option.bind (ldI h30 x40 a1) fun x41 =>
if x41 = a2 then
Option.bind (gP h30 8 a0 1) fun x42 =>
Option.bind (gP h30 4 x42 2) fun x43 =>
Option.bind (stI h30 x43 a1 a2) fun h44 =>
Option.bind (f_X8_settle h44 a0) fun w => match w with
| (x45, h46) =>
some (.ok x45, h46)
else
some (.ok (-3), h30)
else none
theorem kd_X8_link {h : AH} {a0 : Nat} {a1 : Int32} {a2 : Int32} {r : (Except Nat Int32 × AH)} (hf : f_X8_link h a0 a1 a2 = some r) : aK h a0 = 8 := by
  unfold f_X8_link at hf
  exact (ifk hf).1
set_option maxRecDepth 100000 in
set_option maxHeartbeats 4000000 in
theorem c_X8_link {l : Launch} {G : GT} {h : AH} {a0 : Nat} {a1 : Int32} {a2 : Int32} {r : (Except Nat Int32 × AH)} (hf : f_X8_link h a0 a1 a2 = some r) : Cn l yX8_link cX8_link 3 (some .int) 7 169 15 836 G h [.ref a0, .int a1, .int a2] (r.1.map (fun x => some (.int x))) r.2 := by
  refine Cn.of (by decide) (Nat.le_of_ble_eq_true rfl) ?_
  intro p e s m args below meth c O hr hx hin
  have O : OkC p l s m args meth c G cX8_link 3 RX8 := O
  unfold f_X8_link at hf
  obtain ⟨hk0, hf⟩ := ifk hf
  refine AW.sub (lv' := [(0, .ref a0), (1, .int a1), (2, .int a2)]) [0, 1, 2] rfl ?_
  refine r_aload_n O 0 dX8_link_0 rfl (Or.inl rfl) ?_
  refine r_iload_n O 1 dX8_link_1 rfl ?_
  obtain ⟨⟨w, h2⟩, ex1, hf⟩ := bnd hf
  cases w with
  | error k9 =>
    dsimp only at hf
    obtain rfl := Option.some.inj hf
    exact r_thrV (av := [.int a1]) (st := []) O hx (c_X8_needThing ex1) mf_X8_needThing cf8 (kd_X8_needThing ex1) ml_X8_114 mi_X8_needThing mv_X8_needThing (by decide) (Nat.le_of_ble_eq_true rfl) (by decide) (by decide) (by decide) dX8_link_2
  | ok x1 =>
    dsimp only at hf
    refine r_callV (av := [.int a1]) (st := []) O (c_X8_needThing ex1) mf_X8_needThing cf8 (kd_X8_needThing ex1) ml_X8_114 mi_X8_needThing mv_X8_needThing (by decide) (Nat.le_of_ble_eq_true rfl) (by decide) dX8_link_2 ?_
    refine r_iload_n O 2 dX8_link_5 rfl ?_
    refine r_iconst O (v := -1) dX8_link_6 (by decide) ?_
    by_cases hc : a2 = (-1)
    · rw [if_pos hc] at hf
      refine r_icmp_eq_t (tgt := 15) O dX8_link_7 (by decide) hc ?_
      refine r_aload_n O 0 dX8_link_15 rfl (Or.inl rfl) ?_
      obtain ⟨⟨w, h4⟩, ex3, hf⟩ := bnd hf
      cases w with
      | error k9 =>
        dsimp only at hf
        obtain rfl := Option.some.inj hf
        exact r_thrV (av := []) (st := []) O hx (c_X8_needClosedBook ex3) mf_X8_needClosedBook cf8 (kd_X8_needClosedBook ex3) ml_X8_121 mi_X8_needClosedBook mv_X8_needClosedBook (by decide) (Nat.le_of_ble_eq_true rfl) (by decide) (by decide) (by decide) dX8_link_16
      | ok x3 =>
        dsimp only at hf
        refine r_callV (av := []) (st := []) O (c_X8_needClosedBook ex3) mf_X8_needClosedBook cf8 (kd_X8_needClosedBook ex3) ml_X8_121 mi_X8_needClosedBook mv_X8_needClosedBook (by decide) (Nat.le_of_ble_eq_true rfl) (by decide) dX8_link_16 ?_
        refine r_iload_n O 1 dX8_link_19 rfl ?_
        refine r_iload_n O 2 dX8_link_20 rfl ?_
        obtain ⟨x5, hg, hf⟩ := bnd hf
        have hJ : AW p l e { frames := 7, cells := 15, slots := 836, locals := 169 } s m args below meth c G 3 (vx_MQ below (QcN G (r.1.map (fun x => some (.int x))) r.2) (XcN G (r.1.map (fun x => some (.int x))) r.2) args s 15 836 (gA G)) h4 2 12 29 [(0, .ref a0), (1, .int a1), (2, .int a2)] [.int x5] := by
          obtain ⟨⟨w, h7⟩, ex6, hf⟩ := bnd hf
          cases w with
          | error k9 =>
            dsimp only at hf
            obtain rfl := Option.some.inj hf
            exact r_thrS (av := [.int x5]) (st := []) O hx (c_X8_need ex6) mf_X8_need ml_X8_92 ms_X8_need (by decide) (Nat.le_of_ble_eq_true rfl) (by decide) (by decide) (by decide) dX8_link_29
          | ok x6 =>
            dsimp only at hf
            refine r_callS (av := [.int x5]) (st := []) O (c_X8_need ex6) mf_X8_need ml_X8_92 ms_X8_need (by decide) (Nat.le_of_ble_eq_true rfl) (by decide) dX8_link_29 ?_
            refine r_aload_n O 0 dX8_link_32 rfl (Or.inl rfl) ?_
            obtain ⟨x8, ex8, hf⟩ := bnd hf
            refine r_gP O cf8 1 (by decide) rfl fl_X8_19 ex8 dX8_link_33 ?_
            refine r_iload_n O 1 dX8_link_36 rfl ?_
            obtain ⟨x9, ex9, hf⟩ := bnd hf
            refine r_callV (av := [.int a1]) (st := []) O (c_X4_isFrozen ex9) mf_X4_isFrozen cf4 (kd_X4_isFrozen ex9) ml_X8_141 mi_X4_isFrozen mv_X4_isFrozen (by decide) (Nat.le_of_ble_eq_true rfl) (by decide) dX8_link_37 ?_
            by_cases hc : x9 = 0
            · rw [if_pos hc] at hf
              refine r_if_eq_t (tgt := 59) O dX8_link_40 (by decide) hc ?_
              refine r_aload_n O 0 dX8_link_59 rfl (Or.inl rfl) ?_
              obtain ⟨x11, ex11, hf⟩ := bnd hf
              refine r_gP O cf8 1 (by decide) rfl fl_X8_19 ex11 dX8_link_60 ?_
              obtain ⟨x12, ex12, hf⟩ := bnd hf
              refine r_gP O cf4 2 (by decide) rfl fl_X8_168 ex12 dX8_link_63 ?_
              refine r_iload_n O 1 dX8_link_66 rfl ?_
              refine r_iload_n O 2 dX8_link_67 rfl ?_
              obtain ⟨h13, eh13, hf⟩ := bnd hf
              refine r_stI O eh13 dX8_link_68 ?_
              refine r_aload_n O 0 dX8_link_69 rfl (Or.inl rfl) ?_
              obtain ⟨⟨x14, h15⟩, ex14, hf⟩ := bnd hf
              dsimp only at hf
              refine r_callV (av := []) (st := []) O (c_X8_settle ex14) mf_X8_settle cf8 (kd_X8_settle ex14) ml_X8_137 mi_X8_settle mv_X8_settle (by decide) (Nat.le_of_ble_eq_true rfl) (by decide) dX8_link_70 ?_
              obtain rfl := Option.some.inj hf
              exact r_iret O hr rfl rfl (by decide) (by decide) dX8_link_73
            · rw [if_neg hc] at hf
              refine r_if_eq_f (tgt := 59) O dX8_link_40 (by decide) hc ?_
              refine r_aload_n O 0 dX8_link_43 rfl (Or.inl rfl) ?_
              obtain ⟨x16, ex16, hf⟩ := bnd hf
              refine r_gP O cf8 1 (by decide) rfl fl_X8_19 ex16 dX8_link_44 ?_
              obtain ⟨x17, ex17, hf⟩ := bnd hf
              refine r_gP O cf4 2 (by decide) rfl fl_X8_168 ex17 dX8_link_47 ?_
              refine r_iload_n O 1 dX8_link_50 rfl ?_
              obtain ⟨x18, ex18, hf⟩ := bnd hf
              refine r_ldI O ex18 dX8_link_51 ?_
              refine r_iload_n O 2 dX8_link_52 rfl ?_
              by_cases hc : x18 = a2
              · rw [if_pos hc] at hf
                refine r_icmp_eq_t (tgt := 59) O dX8_link_53 (by decide) hc ?_
                refine r_aload_n O 0 dX8_link_59 rfl (Or.inl rfl) ?_
                obtain ⟨x19, ex19, hf⟩ := bnd hf
                refine r_gP O cf8 1 (by decide) rfl fl_X8_19 ex19 dX8_link_60 ?_
                obtain ⟨x20, ex20, hf⟩ := bnd hf
                refine r_gP O cf4 2 (by decide) rfl fl_X8_168 ex20 dX8_link_63 ?_
                refine r_iload_n O 1 dX8_link_66 rfl ?_
                refine r_iload_n O 2 dX8_link_67 rfl ?_
                obtain ⟨h21, eh21, hf⟩ := bnd hf
                refine r_stI O eh21 dX8_link_68 ?_
                refine r_aload_n O 0 dX8_link_69 rfl (Or.inl rfl) ?_
                obtain ⟨⟨x22, h23⟩, ex22, hf⟩ := bnd hf
                dsimp only at hf
                refine r_callV (av := []) (st := []) O (c_X8_settle ex22) mf_X8_settle cf8 (kd_X8_settle ex22) ml_X8_137 mi_X8_settle mv_X8_settle (by decide) (Nat.le_of_ble_eq_true rfl) (by decide) dX8_link_70 ?_
                obtain rfl := Option.some.inj hf
                exact r_iret O hr rfl rfl (by decide) (by decide) dX8_link_73
              · rw [if_neg hc] at hf
                refine r_icmp_eq_f (tgt := 59) O dX8_link_53 (by decide) hc ?_
                refine r_bipush O (v := -3) dX8_link_56 (by decide) ?_
                obtain rfl := Option.some.inj hf
                exact r_iret O hr rfl rfl (by decide) (by decide) dX8_link_58
        clear hf
        have hf := hg
        clear hg
        by_cases hc : a1 = a2
        · rw [if_pos hc] at hf
          refine r_icmp_eq_t (tgt := 28) O dX8_link_21 (by decide) hc ?_
          refine r_iconst O (v := 0) dX8_link_28 (by decide) ?_
          cases hf
          refine AW.sub [0, 1, 2] rfl ?_
          exact hJ
        · rw [if_neg hc] at hf
          refine r_icmp_eq_f (tgt := 28) O dX8_link_21 (by decide) hc ?_
          refine r_iconst O (v := 1) dX8_link_24 (by decide) ?_
          refine r_goto (tgt := 29) O dX8_link_25 (by decide) ?_
          cases hf
          refine AW.sub [0, 1, 2] rfl ?_
          exact hJ
    · rw [if_neg hc] at hf
      refine r_icmp_eq_f (tgt := 15) O dX8_link_7 (by decide) hc ?_
      refine r_aload_n O 0 dX8_link_10 rfl (Or.inl rfl) ?_
      refine r_iload_n O 2 dX8_link_11 rfl ?_
      obtain ⟨⟨w, h25⟩, ex24, hf⟩ := bnd hf
      cases w with
      | error k9 =>
        dsimp only at hf
        obtain rfl := Option.some.inj hf
        exact r_thrV (av := [.int a2]) (st := []) O hx (c_X8_needThing ex24) mf_X8_needThing cf8 (kd_X8_needThing ex24) ml_X8_114 mi_X8_needThing mv_X8_needThing (by decide) (Nat.le_of_ble_eq_true rfl) (by decide) (by decide) (by decide) dX8_link_12
      | ok x24 =>
        dsimp only at hf
        refine r_callV (av := [.int a2]) (st := []) O (c_X8_needThing ex24) mf_X8_needThing cf8 (kd_X8_needThing ex24) ml_X8_114 mi_X8_needThing mv_X8_needThing (by decide) (Nat.le_of_ble_eq_true rfl) (by decide) dX8_link_12 ?_
        refine r_aload_n O 0 dX8_link_15 rfl (Or.inl rfl) ?_
        obtain ⟨⟨w, h27⟩, ex26, hf⟩ := bnd hf
        cases w with
        | error k9 =>
          dsimp only at hf
          obtain rfl := Option.some.inj hf
          exact r_thrV (av := []) (st := []) O hx (c_X8_needClosedBook ex26) mf_X8_needClosedBook cf8 (kd_X8_needClosedBook ex26) ml_X8_121 mi_X8_needClosedBook mv_X8_needClosedBook (by decide) (Nat.le_of_ble_eq_true rfl) (by decide) (by decide) (by decide) dX8_link_16
        | ok x26 =>
          dsimp only at hf
          refine r_callV (av := []) (st := []) O (c_X8_needClosedBook ex26) mf_X8_needClosedBook cf8 (kd_X8_needClosedBook ex26) ml_X8_121 mi_X8_needClosedBook mv_X8_needClosedBook (by decide) (Nat.le_of_ble_eq_true rfl) (by decide) dX8_link_16 ?_
          refine r_iload_n O 1 dX8_link_19 rfl ?_
          refine r_iload_n O 2 dX8_link_20 rfl ?_
          obtain ⟨x28, hg, hf⟩ := bnd hf
          have hJ : AW p l e { frames := 7, cells := 15, slots := 836, locals := 169 } s m args below meth c G 3 (vx_MQ below (QcN G (r.1.map (fun x => some (.int x))) r.2) (XcN G (r.1.map (fun x => some (.int x))) r.2) args s 15 836 (gA G)) h27 3 18 29 [(0, .ref a0), (1, .int a1), (2, .int a2)] [.int x28] := by
            obtain ⟨⟨w, h30⟩, ex29, hf⟩ := bnd hf
            cases w with
            | error k9 =>
              dsimp only at hf
              obtain rfl := Option.some.inj hf
              exact r_thrS (av := [.int x28]) (st := []) O hx (c_X8_need ex29) mf_X8_need ml_X8_92 ms_X8_need (by decide) (Nat.le_of_ble_eq_true rfl) (by decide) (by decide) (by decide) dX8_link_29
            | ok x29 =>
              dsimp only at hf
              refine r_callS (av := [.int x28]) (st := []) O (c_X8_need ex29) mf_X8_need ml_X8_92 ms_X8_need (by decide) (Nat.le_of_ble_eq_true rfl) (by decide) dX8_link_29 ?_
              refine r_aload_n O 0 dX8_link_32 rfl (Or.inl rfl) ?_
              obtain ⟨x31, ex31, hf⟩ := bnd hf
              refine r_gP O cf8 1 (by decide) rfl fl_X8_19 ex31 dX8_link_33 ?_
              refine r_iload_n O 1 dX8_link_36 rfl ?_
              obtain ⟨x32, ex32, hf⟩ := bnd hf
              refine r_callV (av := [.int a1]) (st := []) O (c_X4_isFrozen ex32) mf_X4_isFrozen cf4 (kd_X4_isFrozen ex32) ml_X8_141 mi_X4_isFrozen mv_X4_isFrozen (by decide) (Nat.le_of_ble_eq_true rfl) (by decide) dX8_link_37 ?_
              by_cases hc : x32 = 0
              · rw [if_pos hc] at hf
                refine r_if_eq_t (tgt := 59) O dX8_link_40 (by decide) hc ?_
                refine r_aload_n O 0 dX8_link_59 rfl (Or.inl rfl) ?_
                obtain ⟨x34, ex34, hf⟩ := bnd hf
                refine r_gP O cf8 1 (by decide) rfl fl_X8_19 ex34 dX8_link_60 ?_
                obtain ⟨x35, ex35, hf⟩ := bnd hf
                refine r_gP O cf4 2 (by decide) rfl fl_X8_168 ex35 dX8_link_63 ?_
                refine r_iload_n O 1 dX8_link_66 rfl ?_
                refine r_iload_n O 2 dX8_link_67 rfl ?_
                obtain ⟨h36, eh36, hf⟩ := bnd hf
                refine r_stI O eh36 dX8_link_68 ?_
                refine r_aload_n O 0 dX8_link_69 rfl (Or.inl rfl) ?_
                obtain ⟨⟨x37, h38⟩, ex37, hf⟩ := bnd hf
                dsimp only at hf
                refine r_callV (av := []) (st := []) O (c_X8_settle ex37) mf_X8_settle cf8 (kd_X8_settle ex37) ml_X8_137 mi_X8_settle mv_X8_settle (by decide) (Nat.le_of_ble_eq_true rfl) (by decide) dX8_link_70 ?_
                obtain rfl := Option.some.inj hf
                exact r_iret O hr rfl rfl (by decide) (by decide) dX8_link_73
              · rw [if_neg hc] at hf
                refine r_if_eq_f (tgt := 59) O dX8_link_40 (by decide) hc ?_
                refine r_aload_n O 0 dX8_link_43 rfl (Or.inl rfl) ?_
                obtain ⟨x39, ex39, hf⟩ := bnd hf
                refine r_gP O cf8 1 (by decide) rfl fl_X8_19 ex39 dX8_link_44 ?_
                obtain ⟨x40, ex40, hf⟩ := bnd hf
                refine r_gP O cf4 2 (by decide) rfl fl_X8_168 ex40 dX8_link_47 ?_
                refine r_iload_n O 1 dX8_link_50 rfl ?_
                obtain ⟨x41, ex41, hf⟩ := bnd hf
                refine r_ldI O ex41 dX8_link_51 ?_
                refine r_iload_n O 2 dX8_link_52 rfl ?_
                by_cases hc : x41 = a2
                · rw [if_pos hc] at hf
                  refine r_icmp_eq_t (tgt := 59) O dX8_link_53 (by decide) hc ?_
                  refine r_aload_n O 0 dX8_link_59 rfl (Or.inl rfl) ?_
                  obtain ⟨x42, ex42, hf⟩ := bnd hf
                  refine r_gP O cf8 1 (by decide) rfl fl_X8_19 ex42 dX8_link_60 ?_
                  obtain ⟨x43, ex43, hf⟩ := bnd hf
                  refine r_gP O cf4 2 (by decide) rfl fl_X8_168 ex43 dX8_link_63 ?_
                  refine r_iload_n O 1 dX8_link_66 rfl ?_
                  refine r_iload_n O 2 dX8_link_67 rfl ?_
                  obtain ⟨h44, eh44, hf⟩ := bnd hf
                  refine r_stI O eh44 dX8_link_68 ?_
                  refine r_aload_n O 0 dX8_link_69 rfl (Or.inl rfl) ?_
                  obtain ⟨⟨x45, h46⟩, ex45, hf⟩ := bnd hf
                  dsimp only at hf
                  refine r_callV (av := []) (st := []) O (c_X8_settle ex45) mf_X8_settle cf8 (kd_X8_settle ex45) ml_X8_137 mi_X8_settle mv_X8_settle (by decide) (Nat.le_of_ble_eq_true rfl) (by decide) dX8_link_70 ?_
                  obtain rfl := Option.some.inj hf
                  exact r_iret O hr rfl rfl (by decide) (by decide) dX8_link_73
                · rw [if_neg hc] at hf
                  refine r_icmp_eq_f (tgt := 59) O dX8_link_53 (by decide) hc ?_
                  refine r_bipush O (v := -3) dX8_link_56 (by decide) ?_
                  obtain rfl := Option.some.inj hf
                  exact r_iret O hr rfl rfl (by decide) (by decide) dX8_link_58
          clear hf
          have hf := hg
          clear hg
          by_cases hc : a1 = a2
          · rw [if_pos hc] at hf
            refine r_icmp_eq_t (tgt := 28) O dX8_link_21 (by decide) hc ?_
            refine r_iconst O (v := 0) dX8_link_28 (by decide) ?_
            cases hf
            refine AW.sub [0, 1, 2] rfl ?_
            exact hJ
          · rw [if_neg hc] at hf
            refine r_icmp_eq_f (tgt := 28) O dX8_link_21 (by decide) hc ?_
            refine r_iconst O (v := 1) dX8_link_24 (by decide) ?_
            refine r_goto (tgt := 29) O dX8_link_25 (by decide) ?_
            cases hf
            refine AW.sub [0, 1, 2] rfl ?_
            exact hJ
def f_X8_freeze (h : AH) (a0 : Nat) (a1 : Int32) (a2 : Int32) : Option (Except Nat Int32 × AH) :=
if aK h a0 = 8 then
Option.bind (f_X8_needList h a0 a1) fun w => match w with
| (.error k9, h2) => some (.error k9, h2)
| (.ok x1, h2) =>
Option.bind (f_X8_needClosedBook h2 a0) fun w => match w with
| (.error k9, h4) => some (.error k9, h4)
| (.ok x3, h4) =>
Option.bind (if a2 < 0 then
some 0
else
Option.bind (gP h4 8 a0 1) fun x6 =>
Option.bind (gP h4 4 x6 6) fun x7 =>
Option.bind (ldI h4 x7 a1) fun x8 =>
if x8 < a2 then
some 0
else
some 1) fun x5 =>
Option.bind (f_X8_need h4 x5) fun w => match w with
| (.error k9, h10) => some (.error k9, h10)
| (.ok x9, h10) =>
Option.bind (gP h10 8 a0 1) fun x11 =>
Option.bind (gP h10 4 x11 7) fun x12 =>
Option.bind (stI h10 x12 a1 a2) fun h13 =>
Option.bind (f_X8_settle h13 a0) fun w => match w with
| (x14, h15) =>
some (.ok x14, h15)
else none
theorem kd_X8_freeze {h : AH} {a0 : Nat} {a1 : Int32} {a2 : Int32} {r : (Except Nat Int32 × AH)} (hf : f_X8_freeze h a0 a1 a2 = some r) : aK h a0 = 8 := by
  unfold f_X8_freeze at hf
  exact (ifk hf).1
set_option maxRecDepth 100000 in
set_option maxHeartbeats 4000000 in
theorem c_X8_freeze {l : Launch} {G : GT} {h : AH} {a0 : Nat} {a1 : Int32} {a2 : Int32} {r : (Except Nat Int32 × AH)} (hf : f_X8_freeze h a0 a1 a2 = some r) : Cn l yX8_freeze cX8_freeze 3 (some .int) 7 169 14 830 G h [.ref a0, .int a1, .int a2] (r.1.map (fun x => some (.int x))) r.2 := by
  refine Cn.of (by decide) (Nat.le_of_ble_eq_true rfl) ?_
  intro p e s m args below meth c O hr hx hin
  have O : OkC p l s m args meth c G cX8_freeze 3 RX8 := O
  unfold f_X8_freeze at hf
  obtain ⟨hk0, hf⟩ := ifk hf
  refine AW.sub (lv' := [(0, .ref a0), (1, .int a1), (2, .int a2)]) [0, 1, 2] rfl ?_
  refine r_aload_n O 0 dX8_freeze_0 rfl (Or.inl rfl) ?_
  refine r_iload_n O 1 dX8_freeze_1 rfl ?_
  obtain ⟨⟨w, h2⟩, ex1, hf⟩ := bnd hf
  cases w with
  | error k9 =>
    dsimp only at hf
    obtain rfl := Option.some.inj hf
    exact r_thrV (av := [.int a1]) (st := []) O hx (c_X8_needList ex1) mf_X8_needList cf8 (kd_X8_needList ex1) ml_X8_118 mi_X8_needList mv_X8_needList (by decide) (Nat.le_of_ble_eq_true rfl) (by decide) (by decide) (by decide) dX8_freeze_2
  | ok x1 =>
    dsimp only at hf
    refine r_callV (av := [.int a1]) (st := []) O (c_X8_needList ex1) mf_X8_needList cf8 (kd_X8_needList ex1) ml_X8_118 mi_X8_needList mv_X8_needList (by decide) (Nat.le_of_ble_eq_true rfl) (by decide) dX8_freeze_2 ?_
    refine r_aload_n O 0 dX8_freeze_5 rfl (Or.inl rfl) ?_
    obtain ⟨⟨w, h4⟩, ex3, hf⟩ := bnd hf
    cases w with
    | error k9 =>
      dsimp only at hf
      obtain rfl := Option.some.inj hf
      exact r_thrV (av := []) (st := []) O hx (c_X8_needClosedBook ex3) mf_X8_needClosedBook cf8 (kd_X8_needClosedBook ex3) ml_X8_121 mi_X8_needClosedBook mv_X8_needClosedBook (by decide) (Nat.le_of_ble_eq_true rfl) (by decide) (by decide) (by decide) dX8_freeze_6
    | ok x3 =>
      dsimp only at hf
      refine r_callV (av := []) (st := []) O (c_X8_needClosedBook ex3) mf_X8_needClosedBook cf8 (kd_X8_needClosedBook ex3) ml_X8_121 mi_X8_needClosedBook mv_X8_needClosedBook (by decide) (Nat.le_of_ble_eq_true rfl) (by decide) dX8_freeze_6 ?_
      refine r_iload_n O 2 dX8_freeze_9 rfl ?_
      obtain ⟨x5, hg, hf⟩ := bnd hf
      have hJ : AW p l e { frames := 7, cells := 14, slots := 830, locals := 169 } s m args below meth c G 3 (vx_MQ below (QcN G (r.1.map (fun x => some (.int x))) r.2) (XcN G (r.1.map (fun x => some (.int x))) r.2) args s 14 830 (gA G)) h4 2 12 31 [(0, .ref a0), (1, .int a1), (2, .int a2)] [.int x5] := by
        obtain ⟨⟨w, h10⟩, ex9, hf⟩ := bnd hf
        cases w with
        | error k9 =>
          dsimp only at hf
          obtain rfl := Option.some.inj hf
          exact r_thrS (av := [.int x5]) (st := []) O hx (c_X8_need ex9) mf_X8_need ml_X8_92 ms_X8_need (by decide) (Nat.le_of_ble_eq_true rfl) (by decide) (by decide) (by decide) dX8_freeze_31
        | ok x9 =>
          dsimp only at hf
          refine r_callS (av := [.int x5]) (st := []) O (c_X8_need ex9) mf_X8_need ml_X8_92 ms_X8_need (by decide) (Nat.le_of_ble_eq_true rfl) (by decide) dX8_freeze_31 ?_
          refine r_aload_n O 0 dX8_freeze_34 rfl (Or.inl rfl) ?_
          obtain ⟨x11, ex11, hf⟩ := bnd hf
          refine r_gP O cf8 1 (by decide) rfl fl_X8_19 ex11 dX8_freeze_35 ?_
          obtain ⟨x12, ex12, hf⟩ := bnd hf
          refine r_gP O cf4 7 (by decide) rfl fl_X8_131 ex12 dX8_freeze_38 ?_
          refine r_iload_n O 1 dX8_freeze_41 rfl ?_
          refine r_iload_n O 2 dX8_freeze_42 rfl ?_
          obtain ⟨h13, eh13, hf⟩ := bnd hf
          refine r_stI O eh13 dX8_freeze_43 ?_
          refine r_aload_n O 0 dX8_freeze_44 rfl (Or.inl rfl) ?_
          obtain ⟨⟨x14, h15⟩, ex14, hf⟩ := bnd hf
          dsimp only at hf
          refine r_callV (av := []) (st := []) O (c_X8_settle ex14) mf_X8_settle cf8 (kd_X8_settle ex14) ml_X8_137 mi_X8_settle mv_X8_settle (by decide) (Nat.le_of_ble_eq_true rfl) (by decide) dX8_freeze_45 ?_
          obtain rfl := Option.some.inj hf
          exact r_iret O hr rfl rfl (by decide) (by decide) dX8_freeze_48
      clear hf
      have hf := hg
      clear hg
      by_cases hc : a2 < 0
      · rw [if_pos hc] at hf
        refine r_if_lt_t (tgt := 30) O dX8_freeze_10 (by decide) hc ?_
        refine r_iconst O (v := 0) dX8_freeze_30 (by decide) ?_
        cases hf
        refine AW.sub [0, 1, 2] rfl ?_
        exact hJ
      · rw [if_neg hc] at hf
        refine r_if_lt_f (tgt := 30) O dX8_freeze_10 (by decide) hc ?_
        refine r_iload_n O 2 dX8_freeze_13 rfl ?_
        refine r_aload_n O 0 dX8_freeze_14 rfl (Or.inl rfl) ?_
        obtain ⟨x6, ex6, hf⟩ := bnd hf
        refine r_gP O cf8 1 (by decide) rfl fl_X8_19 ex6 dX8_freeze_15 ?_
        obtain ⟨x7, ex7, hf⟩ := bnd hf
        refine r_gP O cf4 6 (by decide) rfl fl_X8_124 ex7 dX8_freeze_18 ?_
        refine r_iload_n O 1 dX8_freeze_21 rfl ?_
        obtain ⟨x8, ex8, hf⟩ := bnd hf
        refine r_ldI O ex8 dX8_freeze_22 ?_
        by_cases hc : x8 < a2
        · rw [if_pos hc] at hf
          refine r_icmp_gt_t (tgt := 30) O dX8_freeze_23 (by decide) hc ?_
          refine r_iconst O (v := 0) dX8_freeze_30 (by decide) ?_
          cases hf
          refine AW.sub [0, 1, 2] rfl ?_
          exact hJ
        · rw [if_neg hc] at hf
          refine r_icmp_gt_f (tgt := 30) O dX8_freeze_23 (by decide) hc ?_
          refine r_iconst O (v := 1) dX8_freeze_26 (by decide) ?_
          refine r_goto (tgt := 31) O dX8_freeze_27 (by decide) ?_
          cases hf
          refine AW.sub [0, 1, 2] rfl ?_
          exact hJ
def f_X8_begin (h : AH) (a0 : Nat) : Option (Except Nat Unit × AH) :=
if aK h a0 = 8 then
Option.bind (f_X8_needClosedBook h a0) fun w => match w with
| (.error k9, h2) => some (.error k9, h2)
| (.ok x1, h2) =>
Option.bind (gI h2 8 a0 9) fun x3 =>
if x3 = 0 then
Option.bind (pZ h2 8 a0 9 1) fun h4 =>
some (.ok (), h4)
else
some (.error 0, nx h2)
else none
theorem kd_X8_begin {h : AH} {a0 : Nat} {r : (Except Nat Unit × AH)} (hf : f_X8_begin h a0 = some r) : aK h a0 = 8 := by
  unfold f_X8_begin at hf
  exact (ifk hf).1
set_option maxRecDepth 100000 in
set_option maxHeartbeats 4000000 in
theorem c_X8_begin {l : Launch} {G : GT} {h : AH} {a0 : Nat} {r : (Except Nat Unit × AH)} (hf : f_X8_begin h a0 = some r) : Cn l yX8_begin cX8_begin 1 none 7 110 2 12 G h [.ref a0] (r.1.map (fun x => none)) r.2 := by
  refine Cn.of (by decide) (Nat.le_of_ble_eq_true rfl) ?_
  intro p e s m args below meth c O hr hx hin
  have O : OkC p l s m args meth c G cX8_begin 1 RX8 := O
  unfold f_X8_begin at hf
  obtain ⟨hk0, hf⟩ := ifk hf
  refine AW.sub (lv' := [(0, .ref a0)]) [0] rfl ?_
  refine r_aload_n O 0 dX8_begin_0 rfl (Or.inl rfl) ?_
  obtain ⟨⟨w, h2⟩, ex1, hf⟩ := bnd hf
  cases w with
  | error k9 =>
    dsimp only at hf
    obtain rfl := Option.some.inj hf
    exact r_thrV (av := []) (st := []) O hx (c_X8_needClosedBook ex1) mf_X8_needClosedBook cf8 (kd_X8_needClosedBook ex1) ml_X8_121 mi_X8_needClosedBook mv_X8_needClosedBook (by decide) (Nat.le_of_ble_eq_true rfl) (by decide) (by decide) (by decide) dX8_begin_1
  | ok x1 =>
    dsimp only at hf
    refine r_callV (av := []) (st := []) O (c_X8_needClosedBook ex1) mf_X8_needClosedBook cf8 (kd_X8_needClosedBook ex1) ml_X8_121 mi_X8_needClosedBook mv_X8_needClosedBook (by decide) (Nat.le_of_ble_eq_true rfl) (by decide) dX8_begin_1 ?_
    refine r_aload_n O 0 dX8_begin_4 rfl (Or.inl rfl) ?_
    obtain ⟨x3, ex3, hf⟩ := bnd hf
    refine r_gI O cf8 9 (by decide) rfl fl_X8_171 ex3 dX8_begin_5 ?_
    by_cases hc : x3 = 0
    · rw [if_pos hc] at hf
      refine r_if_eq_t (tgt := 21) O dX8_begin_8 (by decide) hc ?_
      refine r_aload_n O 0 dX8_begin_21 rfl (Or.inl rfl) ?_
      refine r_iconst O (v := 1) dX8_begin_22 (by decide) ?_
      obtain ⟨h4, eh4, hf⟩ := bnd hf
      refine r_pZ O cf8 9 (by decide) rfl fl_X8_171 rfl eh4 dX8_begin_23 ?_
      obtain rfl := Option.some.inj hf
      exact r_vret O hr rfl rfl (by decide) (by decide) dX8_begin_26
    · rw [if_neg hc] at hf
      refine r_if_eq_f (tgt := 21) O dX8_begin_8 (by decide) hc ?_
      obtain rfl := Option.some.inj hf
      exact r_throw 0 O hx kl_X8_63 xa_X8_63_67 st_X8_174 (by decide) (by decide) (Nat.le_of_ble_eq_true rfl) (by decide) (by decide) (by decide) dX8_begin_11 dX8_begin_14 dX8_begin_15 dX8_begin_17 dX8_begin_20
def f_X8_needGroup (h : AH) (a0 : Nat) : Option (Except Nat Unit × AH) :=
if aK h a0 = 8 then
Option.bind (gI h 8 a0 8) fun x1 =>
if x1 = 0 then
some (.error 0, nx h)
else
Option.bind (gI h 8 a0 9) fun x2 =>
if x2 = 0 then
some (.error 0, nx h)
else
some (.ok (), h)
else none
theorem kd_X8_needGroup {h : AH} {a0 : Nat} {r : (Except Nat Unit × AH)} (hf : f_X8_needGroup h a0 = some r) : aK h a0 = 8 := by
  unfold f_X8_needGroup at hf
  exact (ifk hf).1
set_option maxRecDepth 100000 in
set_option maxHeartbeats 4000000 in
theorem c_X8_needGroup {l : Launch} {G : GT} {h : AH} {a0 : Nat} {r : (Except Nat Unit × AH)} (hf : f_X8_needGroup h a0 = some r) : Cn l yX8_needGroup cX8_needGroup 1 none 6 90 1 6 G h [.ref a0] (r.1.map (fun x => none)) r.2 := by
  refine Cn.of (by decide) (Nat.le_of_ble_eq_true rfl) ?_
  intro p e s m args below meth c O hr hx hin
  have O : OkC p l s m args meth c G cX8_needGroup 1 RX8 := O
  unfold f_X8_needGroup at hf
  obtain ⟨hk0, hf⟩ := ifk hf
  refine AW.sub (lv' := [(0, .ref a0)]) [0] rfl ?_
  refine r_aload_n O 0 dX8_needGroup_0 rfl (Or.inl rfl) ?_
  obtain ⟨x1, ex1, hf⟩ := bnd hf
  refine r_gI O cf8 8 (by decide) rfl fl_X8_107 ex1 dX8_needGroup_1 ?_
  by_cases hc : x1 = 0
  · rw [if_pos hc] at hf
    refine r_if_eq_t (tgt := 14) O dX8_needGroup_4 (by decide) hc ?_
    obtain rfl := Option.some.inj hf
    exact r_throwW 0 O hx kl_X8_63 xa_X8_63_67 st_X8_272 (by decide) (by decide) (Nat.le_of_ble_eq_true rfl) (by decide) (by decide) (by decide) dX8_needGroup_14 dX8_needGroup_17 dX8_needGroup_18 dX8_needGroup_21 dX8_needGroup_24
  · rw [if_neg hc] at hf
    refine r_if_eq_f (tgt := 14) O dX8_needGroup_4 (by decide) hc ?_
    refine r_aload_n O 0 dX8_needGroup_7 rfl (Or.inl rfl) ?_
    obtain ⟨x2, ex2, hf⟩ := bnd hf
    refine r_gI O cf8 9 (by decide) rfl fl_X8_171 ex2 dX8_needGroup_8 ?_
    by_cases hc : x2 = 0
    · rw [if_pos hc] at hf
      refine r_if_ne_f (tgt := 25) O dX8_needGroup_11 (by decide) hc ?_
      obtain rfl := Option.some.inj hf
      exact r_throwW 0 O hx kl_X8_63 xa_X8_63_67 st_X8_272 (by decide) (by decide) (Nat.le_of_ble_eq_true rfl) (by decide) (by decide) (by decide) dX8_needGroup_14 dX8_needGroup_17 dX8_needGroup_18 dX8_needGroup_21 dX8_needGroup_24
    · rw [if_neg hc] at hf
      refine r_if_ne_t (tgt := 25) O dX8_needGroup_11 (by decide) hc ?_
      obtain rfl := Option.some.inj hf
      exact r_vret O hr rfl rfl (by decide) (by decide) dX8_needGroup_25
def f_X8_end (h : AH) (a0 : Nat) : Option (Except Nat Int32 × AH) :=
if aK h a0 = 8 then
Option.bind (f_X8_needGroup h a0) fun w => match w with
| (.error k9, h2) => some (.error k9, h2)
| (.ok x1, h2) =>
Option.bind (pZ h2 8 a0 9 0) fun h3 =>
Option.bind (pI h3 8 a0 10 0) fun h4 =>
Option.bind (f_X8_settle h4 a0) fun w => match w with
| (x5, h6) =>
some (.ok x5, h6)
else none
theorem kd_X8_end {h : AH} {a0 : Nat} {r : (Except Nat Int32 × AH)} (hf : f_X8_end h a0 = some r) : aK h a0 = 8 := by
  unfold f_X8_end at hf
  exact (ifk hf).1
set_option maxRecDepth 100000 in
set_option maxHeartbeats 4000000 in
theorem c_X8_end {l : Launch} {G : GT} {h : AH} {a0 : Nat} {r : (Except Nat Int32 × AH)} (hf : f_X8_end h a0 = some r) : Cn l yX8_end cX8_end 1 (some .int) 7 169 12 818 G h [.ref a0] (r.1.map (fun x => some (.int x))) r.2 := by
  refine Cn.of (by decide) (Nat.le_of_ble_eq_true rfl) ?_
  intro p e s m args below meth c O hr hx hin
  have O : OkC p l s m args meth c G cX8_end 1 RX8 := O
  unfold f_X8_end at hf
  obtain ⟨hk0, hf⟩ := ifk hf
  refine AW.sub (lv' := [(0, .ref a0)]) [0] rfl ?_
  refine r_aload_n O 0 dX8_end_0 rfl (Or.inl rfl) ?_
  obtain ⟨⟨w, h2⟩, ex1, hf⟩ := bnd hf
  cases w with
  | error k9 =>
    dsimp only at hf
    obtain rfl := Option.some.inj hf
    exact r_thrV (av := []) (st := []) O hx (c_X8_needGroup ex1) mf_X8_needGroup cf8 (kd_X8_needGroup ex1) ml_X8_176 mi_X8_needGroup mv_X8_needGroup (by decide) (Nat.le_of_ble_eq_true rfl) (by decide) (by decide) (by decide) dX8_end_1
  | ok x1 =>
    dsimp only at hf
    refine r_callV (av := []) (st := []) O (c_X8_needGroup ex1) mf_X8_needGroup cf8 (kd_X8_needGroup ex1) ml_X8_176 mi_X8_needGroup mv_X8_needGroup (by decide) (Nat.le_of_ble_eq_true rfl) (by decide) dX8_end_1 ?_
    refine r_aload_n O 0 dX8_end_4 rfl (Or.inl rfl) ?_
    refine r_iconst O (v := 0) dX8_end_5 (by decide) ?_
    obtain ⟨h3, eh3, hf⟩ := bnd hf
    refine r_pZ O cf8 9 (by decide) rfl fl_X8_171 rfl eh3 dX8_end_6 ?_
    refine r_aload_n O 0 dX8_end_9 rfl (Or.inl rfl) ?_
    refine r_iconst O (v := 0) dX8_end_10 (by decide) ?_
    obtain ⟨h4, eh4, hf⟩ := bnd hf
    refine r_pI O cf8 10 (by decide) rfl fl_X8_179 rfl eh4 dX8_end_11 ?_
    refine r_aload_n O 0 dX8_end_14 rfl (Or.inl rfl) ?_
    obtain ⟨⟨x5, h6⟩, ex5, hf⟩ := bnd hf
    dsimp only at hf
    refine r_callV (av := []) (st := []) O (c_X8_settle ex5) mf_X8_settle cf8 (kd_X8_settle ex5) ml_X8_137 mi_X8_settle mv_X8_settle (by decide) (Nat.le_of_ble_eq_true rfl) (by decide) dX8_end_15 ?_
    obtain rfl := Option.some.inj hf
    exact r_iret O hr rfl rfl (by decide) (by decide) dX8_end_18
