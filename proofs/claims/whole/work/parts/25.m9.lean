def f_X4_putAt (h : AH) (a0 : Nat) (a1 : Int32) (a2 : Int32) (a3 : Int32) : Option AH :=
if aK h a0 = 4 then
Option.bind (gP h 4 a0 5) fun x1 =>
Option.bind (stI h x1 ((40 * a2) + a3) a1) fun h2 =>
Option.bind (gP h2 4 a0 3) fun x3 =>
Option.bind (stI h2 x3 a1 a2) fun h4 =>
Option.bind (gP h4 4 a0 4) fun x5 =>
Option.bind (stI h4 x5 a1 a3) fun h6 =>
some h6
else none
theorem kd_X4_putAt {h : AH} {a0 : Nat} {a1 : Int32} {a2 : Int32} {a3 : Int32} {r : AH} (hf : f_X4_putAt h a0 a1 a2 a3 = some r) : aK h a0 = 4 := by
  unfold f_X4_putAt at hf
  exact (ifk hf).1
set_option maxRecDepth 100000 in
set_option maxHeartbeats 4000000 in
theorem c_X4_putAt {l : Launch} {G : GT} {h : AH} {a0 : Nat} {a1 : Int32} {a2 : Int32} {a3 : Int32} {r : AH} (hf : f_X4_putAt h a0 a1 a2 a3 = some r) : Cn l yX4_putAt cX4_putAt 4 none 0 0 0 0 G h [.ref a0, .int a1, .int a2, .int a3] (.ok none) r := by
  refine Cn.of (by decide) (Nat.le_of_ble_eq_true rfl) ?_
  intro p e s m args below meth c O hr hx hin
  have O : OkC p l s m args meth c G cX4_putAt 4 RX4 := O
  unfold f_X4_putAt at hf
  obtain ⟨hk0, hf⟩ := ifk hf
  refine AW.sub (lv' := [(0, .ref a0), (1, .int a1), (2, .int a2), (3, .int a3)]) [0, 1, 2, 3] rfl ?_
  refine r_aload_n O 0 dX4_putAt_0 rfl (Or.inl rfl) ?_
  obtain ⟨x1, ex1, hf⟩ := bnd hf
  refine r_gP O cf4 5 (by decide) rfl fl_X4_27 ex1 dX4_putAt_1 ?_
  refine r_bipush O (v := 40) dX4_putAt_4 (by decide) ?_
  refine r_iload_n O 2 dX4_putAt_6 rfl ?_
  refine r_imul O dX4_putAt_7 ?_
  refine r_iload_n O 3 dX4_putAt_8 rfl ?_
  refine r_iadd O dX4_putAt_9 ?_
  refine r_iload_n O 1 dX4_putAt_10 rfl ?_
  obtain ⟨h2, eh2, hf⟩ := bnd hf
  refine r_stI O eh2 dX4_putAt_11 ?_
  refine r_aload_n O 0 dX4_putAt_12 rfl (Or.inl rfl) ?_
  obtain ⟨x3, ex3, hf⟩ := bnd hf
  refine r_gP O cf4 3 (by decide) rfl fl_X4_21 ex3 dX4_putAt_13 ?_
  refine r_iload_n O 1 dX4_putAt_16 rfl ?_
  refine r_iload_n O 2 dX4_putAt_17 rfl ?_
  obtain ⟨h4, eh4, hf⟩ := bnd hf
  refine r_stI O eh4 dX4_putAt_18 ?_
  refine r_aload_n O 0 dX4_putAt_19 rfl (Or.inl rfl) ?_
  obtain ⟨x5, ex5, hf⟩ := bnd hf
  refine r_gP O cf4 4 (by decide) rfl fl_X4_24 ex5 dX4_putAt_20 ?_
  refine r_iload_n O 1 dX4_putAt_23 rfl ?_
  refine r_iload_n O 3 dX4_putAt_24 rfl ?_
  obtain ⟨h6, eh6, hf⟩ := bnd hf
  refine r_stI O eh6 dX4_putAt_25 ?_
  obtain rfl := Option.some.inj hf
  exact r_vret O hr rfl rfl (by decide) (by decide) dX4_putAt_26
def f_X4_exchange (h : AH) (a0 : Nat) (a1 : Int32) (a2 : Int32) : Option AH :=
if aK h a0 = 4 then
Option.bind (gP h 4 a0 3) fun x1 =>
Option.bind (ldI h x1 a1) fun x2 =>
Option.bind (gP h 4 a0 4) fun x3 =>
Option.bind (ldI h x3 a1) fun x4 =>
Option.bind (gP h 4 a0 3) fun x5 =>
Option.bind (ldI h x5 a2) fun x6 =>
Option.bind (gP h 4 a0 4) fun x7 =>
Option.bind (ldI h x7 a2) fun x8 =>
Option.bind (f_X4_putAt h a0 a1 x6 x8) fun h10 =>
Option.bind (f_X4_putAt h10 a0 a2 x2 x4) fun h12 =>
some h12
else none
theorem kd_X4_exchange {h : AH} {a0 : Nat} {a1 : Int32} {a2 : Int32} {r : AH} (hf : f_X4_exchange h a0 a1 a2 = some r) : aK h a0 = 4 := by
  unfold f_X4_exchange at hf
  exact (ifk hf).1
set_option maxRecDepth 100000 in
set_option maxHeartbeats 4000000 in
theorem c_X4_exchange {l : Launch} {G : GT} {h : AH} {a0 : Nat} {a1 : Int32} {a2 : Int32} {r : AH} (hf : f_X4_exchange h a0 a1 a2 = some r) : Cn l yX4_exchange cX4_exchange 5 none 1 23 0 0 G h [.ref a0, .int a1, .int a2] (.ok none) r := by
  refine Cn.of (by decide) (Nat.le_of_ble_eq_true rfl) ?_
  intro p e s m args below meth c O hr hx hin
  have O : OkC p l s m args meth c G cX4_exchange 5 RX4 := O
  unfold f_X4_exchange at hf
  obtain ⟨hk0, hf⟩ := ifk hf
  refine AW.sub (lv' := [(0, .ref a0), (1, .int a1), (2, .int a2)]) [0, 1, 2] rfl ?_
  refine r_aload_n O 0 dX4_exchange_0 rfl (Or.inl rfl) ?_
  obtain ⟨x1, ex1, hf⟩ := bnd hf
  refine r_gP O cf4 3 (by decide) rfl fl_X4_21 ex1 dX4_exchange_1 ?_
  refine r_iload_n O 1 dX4_exchange_4 rfl ?_
  obtain ⟨x2, ex2, hf⟩ := bnd hf
  refine r_ldI O ex2 dX4_exchange_5 ?_
  refine r_istore_n O [(3, .int x2), (0, .ref a0), (1, .int a1), (2, .int a2)] dX4_exchange_6 (by decide) rfl ?_
  refine r_aload_n O 1 dX4_exchange_7 rfl (Or.inl rfl) ?_
  obtain ⟨x3, ex3, hf⟩ := bnd hf
  refine r_gP O cf4 4 (by decide) rfl fl_X4_24 ex3 dX4_exchange_8 ?_
  refine r_iload_n O 2 dX4_exchange_11 rfl ?_
  obtain ⟨x4, ex4, hf⟩ := bnd hf
  refine r_ldI O ex4 dX4_exchange_12 ?_
  refine r_istore O [(4, .int x4), (3, .int x2), (0, .ref a0), (1, .int a1), (2, .int a2)] dX4_exchange_13 (by decide) rfl ?_
  refine r_aload_n O 2 dX4_exchange_15 rfl (Or.inl rfl) ?_
  refine r_iload_n O 3 dX4_exchange_16 rfl ?_
  refine r_aload_n O 2 dX4_exchange_17 rfl (Or.inl rfl) ?_
  obtain ⟨x5, ex5, hf⟩ := bnd hf
  refine r_gP O cf4 3 (by decide) rfl fl_X4_21 ex5 dX4_exchange_18 ?_
  refine r_iload_n O 4 dX4_exchange_21 rfl ?_
  obtain ⟨x6, ex6, hf⟩ := bnd hf
  refine r_ldI O ex6 dX4_exchange_22 ?_
  refine r_aload_n O 2 dX4_exchange_23 rfl (Or.inl rfl) ?_
  obtain ⟨x7, ex7, hf⟩ := bnd hf
  refine r_gP O cf4 4 (by decide) rfl fl_X4_24 ex7 dX4_exchange_24 ?_
  refine r_iload_n O 4 dX4_exchange_27 rfl ?_
  obtain ⟨x8, ex8, hf⟩ := bnd hf
  refine r_ldI O ex8 dX4_exchange_28 ?_
  obtain ⟨h10, eh10, hf⟩ := bnd hf
  refine r_callV (av := [.int a1, .int x6, .int x8]) (st := []) O (c_X4_putAt eh10) mf_X4_putAt cf4 (kd_X4_putAt eh10) ml_X4_76 mi_X4_putAt mv_X4_putAt (by decide) (Nat.le_of_ble_eq_true rfl) (by decide) dX4_exchange_29 ?_
  refine r_aload_n O 2 dX4_exchange_32 rfl (Or.inl rfl) ?_
  refine r_iload_n O 4 dX4_exchange_33 rfl ?_
  refine r_iload_n O 1 dX4_exchange_34 rfl ?_
  refine r_iload O 0 dX4_exchange_35 rfl ?_
  obtain ⟨h12, eh12, hf⟩ := bnd hf
  refine r_callV (av := [.int a2, .int x2, .int x4]) (st := []) O (c_X4_putAt eh12) mf_X4_putAt cf4 (kd_X4_putAt eh12) ml_X4_76 mi_X4_putAt mv_X4_putAt (by decide) (Nat.le_of_ble_eq_true rfl) (by decide) dX4_exchange_37 ?_
  obtain rfl := Option.some.inj hf
  exact r_vret O hr rfl rfl (by decide) (by decide) dX4_exchange_40
def f_X8_swap (h : AH) (a0 : Nat) (a1 : Int32) (a2 : Int32) : Option (Except Nat Int32 × AH) :=
if aK h a0 = 8 then
Option.bind (f_X8_needThing h a0 a1) fun w => match w with
| (.error k9, h2) => some (.error k9, h2)
| (.ok x1, h2) =>
Option.bind (f_X8_needThing h2 a0 a2) fun w => match w with
| (.error k9, h4) => some (.error k9, h4)
| (.ok x3, h4) =>
Option.bind (f_X8_needClosedBook h4 a0) fun w => match w with
| (.error k9, h6) => some (.error k9, h6)
| (.ok x5, h6) =>
Option.bind (if a1 = a2 then
some (0 : Int32)
else
some (1 : Int32)) fun x7 =>
Option.bind (f_X8_need h6 x7) fun w => match w with
| (.error k9, h9) => some (.error k9, h9)
| (.ok x8, h9) =>
Option.bind (gP h9 8 a0 1) fun x10 =>
Option.bind (gP h9 4 x10 3) fun x11 =>
Option.bind (ldI h9 x11 a1) fun x12 =>
if x12 = (-1) then
some (.ok (-4), h9)
else
Option.bind (gP h9 8 a0 1) fun x13 =>
Option.bind (gP h9 4 x13 3) fun x14 =>
Option.bind (ldI h9 x14 a2) fun x15 =>
if x15 = (-1) then
some (.ok (-4), h9)
else
Option.bind (gP h9 8 a0 1) fun x16 =>
Option.bind (f_X4_isFrozen h9 x16 a1) fun x17 =>
if x17 = 0 then
Option.bind (gP h9 8 a0 1) fun x19 =>
Option.bind (f_X4_isFrozen h9 x19 a2) fun x20 =>
if x20 = 0 then
Option.bind (gP h9 8 a0 1) fun x22 =>
Option.bind (f_X4_exchange h9 x22 a1 a2) fun h24 =>
Option.bind (f_X8_settle h24 a0) fun w => match w with
| (x25, h26) =>
some (.ok x25, h26)
else
some (.ok (-3), h9)
else
some (.ok (-3), h9)
else none
theorem kd_X8_swap {h : AH} {a0 : Nat} {a1 : Int32} {a2 : Int32} {r : (Except Nat Int32 × AH)} (hf : f_X8_swap h a0 a1 a2 = some r) : aK h a0 = 8 := by
  unfold f_X8_swap at hf
  exact (ifk hf).1
set_option maxRecDepth 100000 in
set_option maxHeartbeats 4000000 in
theorem c_X8_swap {l : Launch} {G : GT} {h : AH} {a0 : Nat} {a1 : Int32} {a2 : Int32} {r : (Except Nat Int32 × AH)} (hf : f_X8_swap h a0 a1 a2 = some r) : Cn l yX8_swap cX8_swap 3 (some .int) 7 170 15 836 G h [.ref a0, .int a1, .int a2] (r.1.map (fun x => some (.int x))) r.2 := by
  refine Cn.of (by decide) (Nat.le_of_ble_eq_true rfl) ?_
  intro p e s m args below meth c O hr hx hin
  have O : OkC p l s m args meth c G cX8_swap 3 RX8 := O
  unfold f_X8_swap at hf
  obtain ⟨hk0, hf⟩ := ifk hf
  refine AW.sub (lv' := [(0, .ref a0), (1, .int a1), (2, .int a2)]) [0, 1, 2] rfl ?_
  refine r_aload_n O 0 dX8_swap_0 rfl (Or.inl rfl) ?_
  refine r_iload_n O 1 dX8_swap_1 rfl ?_
  obtain ⟨⟨w, h2⟩, ex1, hf⟩ := bnd hf
  cases w with
  | error k9 =>
    dsimp only at hf
    obtain rfl := Option.some.inj hf
    exact r_thrV (av := [.int a1]) (st := []) O hx (c_X8_needThing ex1) mf_X8_needThing cf8 (kd_X8_needThing ex1) ml_X8_114 mi_X8_needThing mv_X8_needThing (by decide) (Nat.le_of_ble_eq_true rfl) (by decide) (by decide) (by decide) dX8_swap_2
  | ok x1 =>
    dsimp only at hf
    refine r_callV (av := [.int a1]) (st := []) O (c_X8_needThing ex1) mf_X8_needThing cf8 (kd_X8_needThing ex1) ml_X8_114 mi_X8_needThing mv_X8_needThing (by decide) (Nat.le_of_ble_eq_true rfl) (by decide) dX8_swap_2 ?_
    refine r_aload_n O 0 dX8_swap_5 rfl (Or.inl rfl) ?_
    refine r_iload_n O 2 dX8_swap_6 rfl ?_
    obtain ⟨⟨w, h4⟩, ex3, hf⟩ := bnd hf
    cases w with
    | error k9 =>
      dsimp only at hf
      obtain rfl := Option.some.inj hf
      exact r_thrV (av := [.int a2]) (st := []) O hx (c_X8_needThing ex3) mf_X8_needThing cf8 (kd_X8_needThing ex3) ml_X8_114 mi_X8_needThing mv_X8_needThing (by decide) (Nat.le_of_ble_eq_true rfl) (by decide) (by decide) (by decide) dX8_swap_7
    | ok x3 =>
      dsimp only at hf
      refine r_callV (av := [.int a2]) (st := []) O (c_X8_needThing ex3) mf_X8_needThing cf8 (kd_X8_needThing ex3) ml_X8_114 mi_X8_needThing mv_X8_needThing (by decide) (Nat.le_of_ble_eq_true rfl) (by decide) dX8_swap_7 ?_
      refine r_aload_n O 0 dX8_swap_10 rfl (Or.inl rfl) ?_
      obtain ⟨⟨w, h6⟩, ex5, hf⟩ := bnd hf
      cases w with
      | error k9 =>
        dsimp only at hf
        obtain rfl := Option.some.inj hf
        exact r_thrV (av := []) (st := []) O hx (c_X8_needClosedBook ex5) mf_X8_needClosedBook cf8 (kd_X8_needClosedBook ex5) ml_X8_121 mi_X8_needClosedBook mv_X8_needClosedBook (by decide) (Nat.le_of_ble_eq_true rfl) (by decide) (by decide) (by decide) dX8_swap_11
      | ok x5 =>
        dsimp only at hf
        refine r_callV (av := []) (st := []) O (c_X8_needClosedBook ex5) mf_X8_needClosedBook cf8 (kd_X8_needClosedBook ex5) ml_X8_121 mi_X8_needClosedBook mv_X8_needClosedBook (by decide) (Nat.le_of_ble_eq_true rfl) (by decide) dX8_swap_11 ?_
        refine r_iload_n O 1 dX8_swap_14 rfl ?_
        refine r_iload_n O 2 dX8_swap_15 rfl ?_
        obtain ⟨x7, hg, hf⟩ := bnd hf
        have hJ : AW p l e { frames := 7, cells := 15, slots := 836, locals := 170 } s m args below meth c G 3 (vx_MQ below (QcN G (r.1.map (fun x => some (.int x))) r.2) (XcN G (r.1.map (fun x => some (.int x))) r.2) args s 15 836 (gA G)) h6 3 18 24 [(0, .ref a0), (1, .int a1), (2, .int a2)] [.int x7] := by
          obtain ⟨⟨w, h9⟩, ex8, hf⟩ := bnd hf
          cases w with
          | error k9 =>
            dsimp only at hf
            obtain rfl := Option.some.inj hf
            exact r_thrS (av := [.int x7]) (st := []) O hx (c_X8_need ex8) mf_X8_need ml_X8_92 ms_X8_need (by decide) (Nat.le_of_ble_eq_true rfl) (by decide) (by decide) (by decide) dX8_swap_24
          | ok x8 =>
            dsimp only at hf
            refine r_callS (av := [.int x7]) (st := []) O (c_X8_need ex8) mf_X8_need ml_X8_92 ms_X8_need (by decide) (Nat.le_of_ble_eq_true rfl) (by decide) dX8_swap_24 ?_
            refine r_aload_n O 0 dX8_swap_27 rfl (Or.inl rfl) ?_
            obtain ⟨x10, ex10, hf⟩ := bnd hf
            refine r_gP O cf8 1 (by decide) rfl fl_X8_19 ex10 dX8_swap_28 ?_
            obtain ⟨x11, ex11, hf⟩ := bnd hf
            refine r_gP O cf4 3 (by decide) rfl fl_X8_128 ex11 dX8_swap_31 ?_
            refine r_iload_n O 1 dX8_swap_34 rfl ?_
            obtain ⟨x12, ex12, hf⟩ := bnd hf
            refine r_ldI O ex12 dX8_swap_35 ?_
            refine r_iconst O (v := -1) dX8_swap_36 (by decide) ?_
            by_cases hc : x12 = (-1)
            · rw [if_pos hc] at hf
              refine r_icmp_eq_t (tgt := 53) O dX8_swap_37 (by decide) hc ?_
              refine r_bipush O (v := -4) dX8_swap_53 (by decide) ?_
              obtain rfl := Option.some.inj hf
              exact r_iret O hr rfl rfl (by decide) (by decide) dX8_swap_55
            · rw [if_neg hc] at hf
              refine r_icmp_eq_f (tgt := 53) O dX8_swap_37 (by decide) hc ?_
              refine r_aload_n O 0 dX8_swap_40 rfl (Or.inl rfl) ?_
              obtain ⟨x13, ex13, hf⟩ := bnd hf
              refine r_gP O cf8 1 (by decide) rfl fl_X8_19 ex13 dX8_swap_41 ?_
              obtain ⟨x14, ex14, hf⟩ := bnd hf
              refine r_gP O cf4 3 (by decide) rfl fl_X8_128 ex14 dX8_swap_44 ?_
              refine r_iload_n O 2 dX8_swap_47 rfl ?_
              obtain ⟨x15, ex15, hf⟩ := bnd hf
              refine r_ldI O ex15 dX8_swap_48 ?_
              refine r_iconst O (v := -1) dX8_swap_49 (by decide) ?_
              by_cases hc : x15 = (-1)
              · rw [if_pos hc] at hf
                refine r_icmp_ne_f (tgt := 56) O dX8_swap_50 (by decide) hc ?_
                refine r_bipush O (v := -4) dX8_swap_53 (by decide) ?_
                obtain rfl := Option.some.inj hf
                exact r_iret O hr rfl rfl (by decide) (by decide) dX8_swap_55
              · rw [if_neg hc] at hf
                refine r_icmp_ne_t (tgt := 56) O dX8_swap_50 (by decide) hc ?_
                refine r_aload_n O 0 dX8_swap_56 rfl (Or.inl rfl) ?_
                obtain ⟨x16, ex16, hf⟩ := bnd hf
                refine r_gP O cf8 1 (by decide) rfl fl_X8_19 ex16 dX8_swap_57 ?_
                refine r_iload_n O 1 dX8_swap_60 rfl ?_
                obtain ⟨x17, ex17, hf⟩ := bnd hf
                refine r_callV (av := [.int a1]) (st := []) O (c_X4_isFrozen ex17) mf_X4_isFrozen cf4 (kd_X4_isFrozen ex17) ml_X8_141 mi_X4_isFrozen mv_X4_isFrozen (by decide) (Nat.le_of_ble_eq_true rfl) (by decide) dX8_swap_61 ?_
                by_cases hc : x17 = 0
                · rw [if_pos hc] at hf
                  refine r_if_ne_f (tgt := 78) O dX8_swap_64 (by decide) hc ?_
                  refine r_aload_n O 0 dX8_swap_67 rfl (Or.inl rfl) ?_
                  obtain ⟨x19, ex19, hf⟩ := bnd hf
                  refine r_gP O cf8 1 (by decide) rfl fl_X8_19 ex19 dX8_swap_68 ?_
                  refine r_iload_n O 2 dX8_swap_71 rfl ?_
                  obtain ⟨x20, ex20, hf⟩ := bnd hf
                  refine r_callV (av := [.int a2]) (st := []) O (c_X4_isFrozen ex20) mf_X4_isFrozen cf4 (kd_X4_isFrozen ex20) ml_X8_141 mi_X4_isFrozen mv_X4_isFrozen (by decide) (Nat.le_of_ble_eq_true rfl) (by decide) dX8_swap_72 ?_
                  by_cases hc : x20 = 0
                  · rw [if_pos hc] at hf
                    refine r_if_eq_t (tgt := 81) O dX8_swap_75 (by decide) hc ?_
                    refine r_aload_n O 0 dX8_swap_81 rfl (Or.inl rfl) ?_
                    obtain ⟨x22, ex22, hf⟩ := bnd hf
                    refine r_gP O cf8 1 (by decide) rfl fl_X8_19 ex22 dX8_swap_82 ?_
                    refine r_iload_n O 1 dX8_swap_85 rfl ?_
                    refine r_iload_n O 2 dX8_swap_86 rfl ?_
                    obtain ⟨h24, eh24, hf⟩ := bnd hf
                    refine r_callV (av := [.int a1, .int a2]) (st := []) O (c_X4_exchange eh24) mf_X4_exchange cf4 (kd_X4_exchange eh24) ml_X8_151 mi_X4_exchange mv_X4_exchange (by decide) (Nat.le_of_ble_eq_true rfl) (by decide) dX8_swap_87 ?_
                    refine r_aload_n O 0 dX8_swap_90 rfl (Or.inl rfl) ?_
                    obtain ⟨⟨x25, h26⟩, ex25, hf⟩ := bnd hf
                    dsimp only at hf
                    refine r_callV (av := []) (st := []) O (c_X8_settle ex25) mf_X8_settle cf8 (kd_X8_settle ex25) ml_X8_137 mi_X8_settle mv_X8_settle (by decide) (Nat.le_of_ble_eq_true rfl) (by decide) dX8_swap_91 ?_
                    obtain rfl := Option.some.inj hf
                    exact r_iret O hr rfl rfl (by decide) (by decide) dX8_swap_94
                  · rw [if_neg hc] at hf
                    refine r_if_eq_f (tgt := 81) O dX8_swap_75 (by decide) hc ?_
                    refine r_bipush O (v := -3) dX8_swap_78 (by decide) ?_
                    obtain rfl := Option.some.inj hf
                    exact r_iret O hr rfl rfl (by decide) (by decide) dX8_swap_80
                · rw [if_neg hc] at hf
                  refine r_if_ne_t (tgt := 78) O dX8_swap_64 (by decide) hc ?_
                  refine r_bipush O (v := -3) dX8_swap_78 (by decide) ?_
                  obtain rfl := Option.some.inj hf
                  exact r_iret O hr rfl rfl (by decide) (by decide) dX8_swap_80
        clear hf
        have hf := hg
        clear hg
        by_cases hc : a1 = a2
        · rw [if_pos hc] at hf
          refine r_icmp_eq_t (tgt := 23) O dX8_swap_16 (by decide) hc ?_
          refine r_iconst O (v := 0) dX8_swap_23 (by decide) ?_
          obtain rfl := oi1 hf
          refine AW.sub [0, 1, 2] rfl ?_
          exact hJ
        · rw [if_neg hc] at hf
          refine r_icmp_eq_f (tgt := 23) O dX8_swap_16 (by decide) hc ?_
          refine r_iconst O (v := 1) dX8_swap_19 (by decide) ?_
          refine r_goto (tgt := 24) O dX8_swap_20 (by decide) ?_
          obtain rfl := oi1 hf
          refine AW.sub [0, 1, 2] rfl ?_
          exact hJ
def f_X4_reverse_12 (l0 : Nat) (l1 : Int32) (l4 : Int32) (n : Nat) (h : AH) (l5 : Int32) (l6 : Int32) : Option AH := match n with
| 0 => none
| n + 1 =>
if l6 ≤ l5 then
some h
else
Option.bind (gP h 4 l0 5) fun x1 =>
Option.bind (ldI h x1 (l4 + l5)) fun x2 =>
Option.bind (gP h 4 l0 5) fun x3 =>
Option.bind (ldI h x3 (l4 + l6)) fun x4 =>
Option.bind (f_X4_putAt h l0 x4 l1 l5) fun h6 =>
Option.bind (f_X4_putAt h6 l0 x2 l1 l6) fun h8 =>
f_X4_reverse_12 l0 l1 l4 n h8 (l5 + 1) (l6 + (-1))
def f_X4_reverse (h : AH) (a0 : Nat) (a1 : Int32) (a2 : Int32) (a3 : Int32) : Option AH :=
if aK h a0 = 4 then
Option.bind (f_X4_reverse_12 a0 a1 (40 * a1) FU h a2 a3) fun h9 =>
some h9
else none
set_option maxRecDepth 100000 in
set_option maxHeartbeats 4000000 in
theorem s_X4_reverse_12 {p : Program} {l : Launch} {e : Env} {s : State} {m : MethodId} {args : Array Value} {below : List Frame} {meth : Method} {c : Code} {G : GT} {Q : State → Prop} (O : OkC p l s m args meth c G cX4_reverse 8 RX4) {l0 : Nat} {l1 : Int32} {l4 : Int32} {wh : AH} (kk : AW p l e { frames := 1, cells := 0, slots := 0, locals := 23 } s m args below meth c G 8 Q wh 0 0 66 [] []) : ∀ (n : Nat), ∀ (h : AH) (l5 : Int32) (l6 : Int32), f_X4_reverse_12 l0 l1 l4 n h l5 l6 = some wh → AW p l e { frames := 1, cells := 0, slots := 0, locals := 23 } s m args below meth c G 8 Q h 0 0 12 [(0, .ref l0), (1, .int l1), (4, .int l4), (5, .int l5), (6, .int l6)] [] := by
  intro n
  induction n with
  | zero =>
    intro h l5 l6 hf
    simp [f_X4_reverse_12] at hf
  | succ n ih =>
    intro h l5 l6 hf
    unfold f_X4_reverse_12 at hf
    refine r_iload O 3 dX4_reverse_12 rfl ?_
    refine r_iload O 4 dX4_reverse_14 rfl ?_
    by_cases hc : l6 ≤ l5
    · rw [if_pos hc] at hf
      refine r_icmp_ge_t (tgt := 66) O dX4_reverse_16 (by decide) hc ?_
      obtain rfl := oi1 hf
      refine AW.sub [] rfl ?_
      exact kk
    · rw [if_neg hc] at hf
      refine r_icmp_ge_f (tgt := 66) O dX4_reverse_16 (by decide) hc ?_
      refine r_aload_n O 0 dX4_reverse_19 rfl (Or.inl rfl) ?_
      obtain ⟨x1, ex1, hf⟩ := bnd hf
      refine r_gP O cf4 5 (by decide) rfl fl_X4_27 ex1 dX4_reverse_20 ?_
      refine r_iload O 2 dX4_reverse_23 rfl ?_
      refine r_iload O 3 dX4_reverse_25 rfl ?_
      refine r_iadd O dX4_reverse_27 ?_
      obtain ⟨x2, ex2, hf⟩ := bnd hf
      refine r_ldI O ex2 dX4_reverse_28 ?_
      refine r_istore O [(7, .int x2), (0, .ref l0), (1, .int l1), (4, .int l4), (5, .int l5), (6, .int l6)] dX4_reverse_29 (by decide) rfl ?_
      refine r_aload_n O 1 dX4_reverse_31 rfl (Or.inl rfl) ?_
      refine r_aload_n O 1 dX4_reverse_32 rfl (Or.inl rfl) ?_
      obtain ⟨x3, ex3, hf⟩ := bnd hf
      refine r_gP O cf4 5 (by decide) rfl fl_X4_27 ex3 dX4_reverse_33 ?_
      refine r_iload O 3 dX4_reverse_36 rfl ?_
      refine r_iload O 5 dX4_reverse_38 rfl ?_
      refine r_iadd O dX4_reverse_40 ?_
      obtain ⟨x4, ex4, hf⟩ := bnd hf
      refine r_ldI O ex4 dX4_reverse_41 ?_
      refine r_iload_n O 2 dX4_reverse_42 rfl ?_
      refine r_iload O 4 dX4_reverse_43 rfl ?_
      obtain ⟨h6, eh6, hf⟩ := bnd hf
      refine r_callV (av := [.int x4, .int l1, .int l5]) (st := []) O (c_X4_putAt eh6) mf_X4_putAt cf4 (kd_X4_putAt eh6) ml_X4_76 mi_X4_putAt mv_X4_putAt (by decide) (Nat.le_of_ble_eq_true rfl) (by decide) dX4_reverse_45 ?_
      refine r_aload_n O 1 dX4_reverse_48 rfl (Or.inl rfl) ?_
      refine r_iload O 0 dX4_reverse_49 rfl ?_
      refine r_iload_n O 2 dX4_reverse_51 rfl ?_
      refine r_iload O 5 dX4_reverse_52 rfl ?_
      obtain ⟨h8, eh8, hf⟩ := bnd hf
      refine r_callV (av := [.int x2, .int l1, .int l6]) (st := []) O (c_X4_putAt eh8) mf_X4_putAt cf4 (kd_X4_putAt eh8) ml_X4_76 mi_X4_putAt mv_X4_putAt (by decide) (Nat.le_of_ble_eq_true rfl) (by decide) dX4_reverse_54 ?_
      refine r_iinc O 4 [(5, .int (l5 + 1)), (7, .int x2), (0, .ref l0), (1, .int l1), (4, .int l4), (6, .int l6)] dX4_reverse_57 rfl rfl (by decide) rfl ?_
      refine r_iinc O 5 [(6, .int (l6 + (-1))), (5, .int (l5 + 1)), (7, .int x2), (0, .ref l0), (1, .int l1), (4, .int l4)] dX4_reverse_60 rfl rfl (by decide) rfl ?_
      refine r_goto (tgt := 12) O dX4_reverse_63 (by decide) ?_
      refine AW.sub [3, 4, 5, 1, 0] rfl ?_
      exact ih _ _ _ hf
theorem kd_X4_reverse {h : AH} {a0 : Nat} {a1 : Int32} {a2 : Int32} {a3 : Int32} {r : AH} (hf : f_X4_reverse h a0 a1 a2 a3 = some r) : aK h a0 = 4 := by
  unfold f_X4_reverse at hf
  exact (ifk hf).1
set_option maxRecDepth 100000 in
set_option maxHeartbeats 4000000 in
theorem c_X4_reverse {l : Launch} {G : GT} {h : AH} {a0 : Nat} {a1 : Int32} {a2 : Int32} {a3 : Int32} {r : AH} (hf : f_X4_reverse h a0 a1 a2 a3 = some r) : Cn l yX4_reverse cX4_reverse 8 none 1 23 0 0 G h [.ref a0, .int a1, .int a2, .int a3] (.ok none) r := by
  refine Cn.of (by decide) (Nat.le_of_ble_eq_true rfl) ?_
  intro p e s m args below meth c O hr hx hin
  have O : OkC p l s m args meth c G cX4_reverse 8 RX4 := O
  unfold f_X4_reverse at hf
  obtain ⟨hk0, hf⟩ := ifk hf
  refine AW.sub (lv' := [(0, .ref a0), (1, .int a1), (2, .int a2), (3, .int a3)]) [0, 1, 2, 3] rfl ?_
  refine r_bipush O (v := 40) dX4_reverse_0 (by decide) ?_
  refine r_iload_n O 1 dX4_reverse_2 rfl ?_
  refine r_imul O dX4_reverse_3 ?_
  refine r_istore O [(4, .int (40 * a1)), (0, .ref a0), (1, .int a1), (2, .int a2), (3, .int a3)] dX4_reverse_4 (by decide) rfl ?_
  refine r_iload_n O 3 dX4_reverse_6 rfl ?_
  refine r_istore O [(5, .int a2), (4, .int (40 * a1)), (0, .ref a0), (1, .int a1), (2, .int a2), (3, .int a3)] dX4_reverse_7 (by decide) rfl ?_
  refine r_iload_n O 5 dX4_reverse_9 rfl ?_
  refine r_istore O [(6, .int a3), (5, .int a2), (4, .int (40 * a1)), (0, .ref a0), (1, .int a1), (2, .int a2), (3, .int a3)] dX4_reverse_10 (by decide) rfl ?_
  obtain ⟨h9, hw, hf⟩ := bnd hf
  refine AW.sub [3, 4, 2, 1, 0] rfl ?_
  refine s_X4_reverse_12 O ?_ _ _ _ _ hw
  obtain rfl := Option.some.inj hf
  exact r_vret O hr rfl rfl (by decide) (by decide) dX4_reverse_66
def f_X8_turn (h : AH) (a0 : Nat) (a1 : Int32) (a2 : Int32) (a3 : Int32) : Option (Except Nat Int32 × AH) :=
if aK h a0 = 8 then
Option.bind (f_X8_needList h a0 a1) fun w => match w with
| (.error k9, h2) => some (.error k9, h2)
| (.ok x1, h2) =>
Option.bind (f_X8_needClosedBook h2 a0) fun w => match w with
| (.error k9, h4) => some (.error k9, h4)
| (.ok x3, h4) =>
Option.bind (if a2 < 0 then
some (0 : Int32)
else
if a3 < a2 then
some (0 : Int32)
else
Option.bind (gP h4 8 a0 1) fun x6 =>
Option.bind (gP h4 4 x6 6) fun x7 =>
Option.bind (ldI h4 x7 a1) fun x8 =>
if x8 ≤ a3 then
some (0 : Int32)
else
some (1 : Int32)) fun x5 =>
Option.bind (f_X8_need h4 x5) fun w => match w with
| (.error k9, h10) => some (.error k9, h10)
| (.ok x9, h10) =>
if a3 ≤ a2 then
Option.bind (gP h10 8 a0 1) fun x11 =>
Option.bind (f_X4_reverse h10 x11 a1 a2 a3) fun h13 =>
Option.bind (f_X8_settle h13 a0) fun w => match w with
| (x14, h15) =>
some (.ok x14, h15)
else
Option.bind (gP h10 8 a0 1) fun x16 =>
Option.bind (gP h10 4 x16 7) fun x17 =>
Option.bind (ldI h10 x17 a1) fun x18 =>
if x18 ≤ a2 then
Option.bind (gP h10 8 a0 1) fun x19 =>
Option.bind (f_X4_reverse h10 x19 a1 a2 a3) fun h21 =>
Option.bind (f_X8_settle h21 a0) fun w => match w with
| (x22, h23) =>
some (.ok x22, h23)
else
some (.ok (-3), h10)
else none
theorem kd_X8_turn {h : AH} {a0 : Nat} {a1 : Int32} {a2 : Int32} {a3 : Int32} {r : (Except Nat Int32 × AH)} (hf : f_X8_turn h a0 a1 a2 a3 = some r) : aK h a0 = 8 := by
  unfold f_X8_turn at hf
  exact (ifk hf).1
set_option maxRecDepth 100000 in
set_option maxHeartbeats 4000000 in
theorem c_X8_turn {l : Launch} {G : GT} {h : AH} {a0 : Nat} {a1 : Int32} {a2 : Int32} {a3 : Int32} {r : (Except Nat Int32 × AH)} (hf : f_X8_turn h a0 a1 a2 a3 = some r) : Cn l yX8_turn cX8_turn 4 (some .int) 7 170 14 830 G h [.ref a0, .int a1, .int a2, .int a3] (r.1.map (fun x => some (.int x))) r.2 := by
  refine Cn.of (by decide) (Nat.le_of_ble_eq_true rfl) ?_
  intro p e s m args below meth c O hr hx hin
  have O : OkC p l s m args meth c G cX8_turn 4 RX8 := O
  unfold f_X8_turn at hf
  obtain ⟨hk0, hf⟩ := ifk hf
  refine AW.sub (lv' := [(0, .ref a0), (1, .int a1), (2, .int a2), (3, .int a3)]) [0, 1, 2, 3] rfl ?_
  refine r_aload_n O 0 dX8_turn_0 rfl (Or.inl rfl) ?_
  refine r_iload_n O 1 dX8_turn_1 rfl ?_
  obtain ⟨⟨w, h2⟩, ex1, hf⟩ := bnd hf
  cases w with
  | error k9 =>
    dsimp only at hf
    obtain rfl := Option.some.inj hf
    exact r_thrV (av := [.int a1]) (st := []) O hx (c_X8_needList ex1) mf_X8_needList cf8 (kd_X8_needList ex1) ml_X8_118 mi_X8_needList mv_X8_needList (by decide) (Nat.le_of_ble_eq_true rfl) (by decide) (by decide) (by decide) dX8_turn_2
  | ok x1 =>
    dsimp only at hf
    refine r_callV (av := [.int a1]) (st := []) O (c_X8_needList ex1) mf_X8_needList cf8 (kd_X8_needList ex1) ml_X8_118 mi_X8_needList mv_X8_needList (by decide) (Nat.le_of_ble_eq_true rfl) (by decide) dX8_turn_2 ?_
    refine r_aload_n O 0 dX8_turn_5 rfl (Or.inl rfl) ?_
    obtain ⟨⟨w, h4⟩, ex3, hf⟩ := bnd hf
    cases w with
    | error k9 =>
      dsimp only at hf
      obtain rfl := Option.some.inj hf
      exact r_thrV (av := []) (st := []) O hx (c_X8_needClosedBook ex3) mf_X8_needClosedBook cf8 (kd_X8_needClosedBook ex3) ml_X8_121 mi_X8_needClosedBook mv_X8_needClosedBook (by decide) (Nat.le_of_ble_eq_true rfl) (by decide) (by decide) (by decide) dX8_turn_6
    | ok x3 =>
      dsimp only at hf
      refine r_callV (av := []) (st := []) O (c_X8_needClosedBook ex3) mf_X8_needClosedBook cf8 (kd_X8_needClosedBook ex3) ml_X8_121 mi_X8_needClosedBook mv_X8_needClosedBook (by decide) (Nat.le_of_ble_eq_true rfl) (by decide) dX8_turn_6 ?_
      refine r_iload_n O 2 dX8_turn_9 rfl ?_
      obtain ⟨x5, hg, hf⟩ := bnd hf
      have hJ : AW p l e { frames := 7, cells := 14, slots := 830, locals := 170 } s m args below meth c G 4 (vx_MQ below (QcN G (r.1.map (fun x => some (.int x))) r.2) (XcN G (r.1.map (fun x => some (.int x))) r.2) args s 14 830 (gA G)) h4 2 12 36 [(0, .ref a0), (1, .int a1), (2, .int a2), (3, .int a3)] [.int x5] := by
        obtain ⟨⟨w, h10⟩, ex9, hf⟩ := bnd hf
        cases w with
        | error k9 =>
          dsimp only at hf
          obtain rfl := Option.some.inj hf
          exact r_thrS (av := [.int x5]) (st := []) O hx (c_X8_need ex9) mf_X8_need ml_X8_92 ms_X8_need (by decide) (Nat.le_of_ble_eq_true rfl) (by decide) (by decide) (by decide) dX8_turn_36
        | ok x9 =>
          dsimp only at hf
          refine r_callS (av := [.int x5]) (st := []) O (c_X8_need ex9) mf_X8_need ml_X8_92 ms_X8_need (by decide) (Nat.le_of_ble_eq_true rfl) (by decide) dX8_turn_36 ?_
          refine r_iload_n O 2 dX8_turn_39 rfl ?_
          refine r_iload_n O 3 dX8_turn_40 rfl ?_
          by_cases hc : a3 ≤ a2
          · rw [if_pos hc] at hf
            refine r_icmp_ge_t (tgt := 60) O dX8_turn_41 (by decide) hc ?_
            refine r_aload_n O 0 dX8_turn_60 rfl (Or.inl rfl) ?_
            obtain ⟨x11, ex11, hf⟩ := bnd hf
            refine r_gP O cf8 1 (by decide) rfl fl_X8_19 ex11 dX8_turn_61 ?_
            refine r_iload_n O 1 dX8_turn_64 rfl ?_
            refine r_iload_n O 2 dX8_turn_65 rfl ?_
            refine r_iload_n O 3 dX8_turn_66 rfl ?_
            obtain ⟨h13, eh13, hf⟩ := bnd hf
            refine r_callV (av := [.int a1, .int a2, .int a3]) (st := []) O (c_X4_reverse eh13) mf_X4_reverse cf4 (kd_X4_reverse eh13) ml_X8_155 mi_X4_reverse mv_X4_reverse (by decide) (Nat.le_of_ble_eq_true rfl) (by decide) dX8_turn_67 ?_
            refine r_aload_n O 0 dX8_turn_70 rfl (Or.inl rfl) ?_
            obtain ⟨⟨x14, h15⟩, ex14, hf⟩ := bnd hf
            dsimp only at hf
            refine r_callV (av := []) (st := []) O (c_X8_settle ex14) mf_X8_settle cf8 (kd_X8_settle ex14) ml_X8_137 mi_X8_settle mv_X8_settle (by decide) (Nat.le_of_ble_eq_true rfl) (by decide) dX8_turn_71 ?_
            obtain rfl := Option.some.inj hf
            exact r_iret O hr rfl rfl (by decide) (by decide) dX8_turn_74
          · rw [if_neg hc] at hf
            refine r_icmp_ge_f (tgt := 60) O dX8_turn_41 (by decide) hc ?_
            refine r_iload_n O 2 dX8_turn_44 rfl ?_
            refine r_aload_n O 0 dX8_turn_45 rfl (Or.inl rfl) ?_
            obtain ⟨x16, ex16, hf⟩ := bnd hf
            refine r_gP O cf8 1 (by decide) rfl fl_X8_19 ex16 dX8_turn_46 ?_
            obtain ⟨x17, ex17, hf⟩ := bnd hf
            refine r_gP O cf4 7 (by decide) rfl fl_X8_131 ex17 dX8_turn_49 ?_
            refine r_iload_n O 1 dX8_turn_52 rfl ?_
            obtain ⟨x18, ex18, hf⟩ := bnd hf
            refine r_ldI O ex18 dX8_turn_53 ?_
            by_cases hc : x18 ≤ a2
            · rw [if_pos hc] at hf
              refine r_icmp_ge_t (tgt := 60) O dX8_turn_54 (by decide) hc ?_
              refine r_aload_n O 0 dX8_turn_60 rfl (Or.inl rfl) ?_
              obtain ⟨x19, ex19, hf⟩ := bnd hf
              refine r_gP O cf8 1 (by decide) rfl fl_X8_19 ex19 dX8_turn_61 ?_
              refine r_iload_n O 1 dX8_turn_64 rfl ?_
              refine r_iload_n O 2 dX8_turn_65 rfl ?_
              refine r_iload_n O 3 dX8_turn_66 rfl ?_
              obtain ⟨h21, eh21, hf⟩ := bnd hf
              refine r_callV (av := [.int a1, .int a2, .int a3]) (st := []) O (c_X4_reverse eh21) mf_X4_reverse cf4 (kd_X4_reverse eh21) ml_X8_155 mi_X4_reverse mv_X4_reverse (by decide) (Nat.le_of_ble_eq_true rfl) (by decide) dX8_turn_67 ?_
              refine r_aload_n O 0 dX8_turn_70 rfl (Or.inl rfl) ?_
              obtain ⟨⟨x22, h23⟩, ex22, hf⟩ := bnd hf
              dsimp only at hf
              refine r_callV (av := []) (st := []) O (c_X8_settle ex22) mf_X8_settle cf8 (kd_X8_settle ex22) ml_X8_137 mi_X8_settle mv_X8_settle (by decide) (Nat.le_of_ble_eq_true rfl) (by decide) dX8_turn_71 ?_
              obtain rfl := Option.some.inj hf
              exact r_iret O hr rfl rfl (by decide) (by decide) dX8_turn_74
            · rw [if_neg hc] at hf
              refine r_icmp_ge_f (tgt := 60) O dX8_turn_54 (by decide) hc ?_
              refine r_bipush O (v := -3) dX8_turn_57 (by decide) ?_
              obtain rfl := Option.some.inj hf
              exact r_iret O hr rfl rfl (by decide) (by decide) dX8_turn_59
      clear hf
      have hf := hg
      clear hg
      by_cases hc : a2 < 0
      · rw [if_pos hc] at hf
        refine r_if_lt_t (tgt := 35) O dX8_turn_10 (by decide) hc ?_
        refine r_iconst O (v := 0) dX8_turn_35 (by decide) ?_
        obtain rfl := oi1 hf
        refine AW.sub [0, 1, 2, 3] rfl ?_
        exact hJ
      · rw [if_neg hc] at hf
        refine r_if_lt_f (tgt := 35) O dX8_turn_10 (by decide) hc ?_
        refine r_iload_n O 3 dX8_turn_13 rfl ?_
        refine r_iload_n O 2 dX8_turn_14 rfl ?_
        by_cases hc : a3 < a2
        · rw [if_pos hc] at hf
          refine r_icmp_lt_t (tgt := 35) O dX8_turn_15 (by decide) hc ?_
          refine r_iconst O (v := 0) dX8_turn_35 (by decide) ?_
          obtain rfl := oi1 hf
          refine AW.sub [0, 1, 2, 3] rfl ?_
          exact hJ
        · rw [if_neg hc] at hf
          refine r_icmp_lt_f (tgt := 35) O dX8_turn_15 (by decide) hc ?_
          refine r_iload_n O 3 dX8_turn_18 rfl ?_
          refine r_aload_n O 0 dX8_turn_19 rfl (Or.inl rfl) ?_
          obtain ⟨x6, ex6, hf⟩ := bnd hf
          refine r_gP O cf8 1 (by decide) rfl fl_X8_19 ex6 dX8_turn_20 ?_
          obtain ⟨x7, ex7, hf⟩ := bnd hf
          refine r_gP O cf4 6 (by decide) rfl fl_X8_124 ex7 dX8_turn_23 ?_
          refine r_iload_n O 1 dX8_turn_26 rfl ?_
          obtain ⟨x8, ex8, hf⟩ := bnd hf
          refine r_ldI O ex8 dX8_turn_27 ?_
          by_cases hc : x8 ≤ a3
          · rw [if_pos hc] at hf
            refine r_icmp_ge_t (tgt := 35) O dX8_turn_28 (by decide) hc ?_
            refine r_iconst O (v := 0) dX8_turn_35 (by decide) ?_
            obtain rfl := oi1 hf
            refine AW.sub [0, 1, 2, 3] rfl ?_
            exact hJ
          · rw [if_neg hc] at hf
            refine r_icmp_ge_f (tgt := 35) O dX8_turn_28 (by decide) hc ?_
            refine r_iconst O (v := 1) dX8_turn_31 (by decide) ?_
            refine r_goto (tgt := 36) O dX8_turn_32 (by decide) ?_
            obtain rfl := oi1 hf
            refine AW.sub [0, 1, 2, 3] rfl ?_
            exact hJ
def f_X4_crossTails_41 (l0 : Nat) (l1 : Int32) (l2 : Int32) (l3 : Int32) (l4 : Int32) (l5 : Int32) (l6 : Int32) (l7 : Int32) (l8 : Int32) (n : Nat) (h : AH) (l9 : Int32) : Option AH := match n with
| 0 => none
| n + 1 =>
if l9 < l7 then
Option.bind (if l7 ≤ l9 then
some ((-1) : Int32)
else
Option.bind (gP h 4 l0 5) fun x6 =>
Option.bind (ldI h x6 (l5 + l9)) fun x7 =>
some x7) fun x5 =>
Option.bind (if l8 ≤ l9 then
some h
else
Option.bind (gP h 4 l0 5) fun x9 =>
Option.bind (gP h 4 l0 5) fun x10 =>
Option.bind (ldI h x10 (l6 + l9)) fun x11 =>
Option.bind (stI h x9 (l5 + l9) x11) fun h12 =>
some h12) fun h8 =>
Option.bind (if l7 ≤ l9 then
some h8
else
Option.bind (gP h8 4 l0 5) fun x14 =>
Option.bind (stI h8 x14 (l6 + l9) x5) fun h15 =>
some h15) fun h13 =>
f_X4_crossTails_41 l0 l1 l2 l3 l4 l5 l6 l7 l8 n h13 (l9 + 1)
else
if l8 ≤ l9 then
some h
else
Option.bind (if l7 ≤ l9 then
some ((-1) : Int32)
else
Option.bind (gP h 4 l0 5) fun x17 =>
Option.bind (ldI h x17 (l5 + l9)) fun x18 =>
some x18) fun x16 =>
Option.bind (if l8 ≤ l9 then
some h
else
Option.bind (gP h 4 l0 5) fun x20 =>
Option.bind (gP h 4 l0 5) fun x21 =>
Option.bind (ldI h x21 (l6 + l9)) fun x22 =>
Option.bind (stI h x20 (l5 + l9) x22) fun h23 =>
some h23) fun h19 =>
Option.bind (if l7 ≤ l9 then
some h19
else
Option.bind (gP h19 4 l0 5) fun x25 =>
Option.bind (stI h19 x25 (l6 + l9) x16) fun h26 =>
some h26) fun h24 =>
f_X4_crossTails_41 l0 l1 l2 l3 l4 l5 l6 l7 l8 n h24 (l9 + 1)
def f_X4_crossTails (h : AH) (a0 : Nat) (a1 : Int32) (a2 : Int32) (a3 : Int32) (a4 : Int32) : Option AH :=
if aK h a0 = 4 then
Option.bind (gP h 4 a0 6) fun x1 =>
Option.bind (ldI h x1 a1) fun x2 =>
Option.bind (gP h 4 a0 6) fun x3 =>
Option.bind (ldI h x3 a3) fun x4 =>
Option.bind (f_X4_crossTails_41 a0 a1 a2 a3 a4 ((40 * a1) + a2) ((40 * a3) + a4) (x2 - a2) (x4 - a4) FU h 0) fun h27 =>
Option.bind (gP h27 4 a0 6) fun x28 =>
Option.bind (stI h27 x28 a1 (a2 + (x4 - a4))) fun h29 =>
Option.bind (gP h29 4 a0 6) fun x30 =>
Option.bind (stI h29 x30 a3 (a4 + (x2 - a2))) fun h31 =>
Option.bind (f_X4_seat h31 a0 a1 a2) fun h33 =>
Option.bind (f_X4_seat h33 a0 a3 a4) fun h35 =>
some h35
else none
set_option maxRecDepth 100000 in
set_option maxHeartbeats 4000000 in
theorem s_X4_crossTails_41 {p : Program} {l : Launch} {e : Env} {s : State} {m : MethodId} {args : Array Value} {below : List Frame} {meth : Method} {c : Code} {G : GT} {Q : State → Prop} (O : OkC p l s m args meth c G cX4_crossTails 11 RX4) {l0 : Nat} {l1 : Int32} {l2 : Int32} {l3 : Int32} {l4 : Int32} {l5 : Int32} {l6 : Int32} {l7 : Int32} {l8 : Int32} {wh : AH} (kk : AW p l e { frames := 1, cells := 0, slots := 0, locals := 24 } s m args below meth c G 11 Q wh 0 0 130 [(0, .ref l0), (1, .int l1), (2, .int l2), (3, .int l3), (4, .int l4), (7, .int l7), (8, .int l8)] []) : ∀ (n : Nat), ∀ (h : AH) (l9 : Int32), f_X4_crossTails_41 l0 l1 l2 l3 l4 l5 l6 l7 l8 n h l9 = some wh → AW p l e { frames := 1, cells := 0, slots := 0, locals := 24 } s m args below meth c G 11 Q h 0 0 41 [(0, .ref l0), (1, .int l1), (2, .int l2), (3, .int l3), (4, .int l4), (5, .int l5), (6, .int l6), (7, .int l7), (8, .int l8), (9, .int l9)] [] := by
  intro n
  induction n with
  | zero =>
    intro h l9 hf
    simp [f_X4_crossTails_41] at hf
  | succ n ih =>
    intro h l9 hf
    unfold f_X4_crossTails_41 at hf
    refine r_iload O 9 dX4_crossTails_41 rfl ?_
    refine r_iload O 7 dX4_crossTails_43 rfl ?_
    by_cases hc : l9 < l7
    · rw [if_pos hc] at hf
      refine r_icmp_lt_t (tgt := 55) O dX4_crossTails_45 (by decide) hc ?_
      refine r_iload O 9 dX4_crossTails_55 rfl ?_
      refine r_iload O 7 dX4_crossTails_57 rfl ?_
      obtain ⟨x5, hg, hf⟩ := bnd hf
      have hJ : AW p l e { frames := 1, cells := 0, slots := 0, locals := 24 } s m args below meth c G 11 Q h 0 0 76 [(0, .ref l0), (1, .int l1), (2, .int l2), (3, .int l3), (4, .int l4), (5, .int l5), (6, .int l6), (7, .int l7), (8, .int l8), (9, .int l9)] [.int x5] := by
        refine r_istore O [(10, .int x5), (0, .ref l0), (1, .int l1), (2, .int l2), (3, .int l3), (4, .int l4), (5, .int l5), (6, .int l6), (7, .int l7), (8, .int l8), (9, .int l9)] dX4_crossTails_76 (by decide) rfl ?_
        refine r_iload O 10 dX4_crossTails_78 rfl ?_
        refine r_iload O 9 dX4_crossTails_80 rfl ?_
        obtain ⟨h8, hg, hf⟩ := bnd hf
        have hJ : AW p l e { frames := 1, cells := 0, slots := 0, locals := 24 } s m args below meth c G 11 Q h8 0 0 105 [(0, .ref l0), (1, .int l1), (2, .int l2), (3, .int l3), (4, .int l4), (5, .int l5), (6, .int l6), (7, .int l7), (8, .int l8), (9, .int l9), (10, .int x5)] [] := by
          refine r_iload O 9 dX4_crossTails_105 rfl ?_
          refine r_iload O 7 dX4_crossTails_107 rfl ?_
          obtain ⟨h13, hg, hf⟩ := bnd hf
          have hJ : AW p l e { frames := 1, cells := 0, slots := 0, locals := 24 } s m args below meth c G 11 Q h13 0 0 124 [(0, .ref l0), (1, .int l1), (2, .int l2), (3, .int l3), (4, .int l4), (5, .int l5), (6, .int l6), (7, .int l7), (8, .int l8), (9, .int l9)] [] := by
            refine r_iinc O 9 [(9, .int (l9 + 1)), (0, .ref l0), (1, .int l1), (2, .int l2), (3, .int l3), (4, .int l4), (5, .int l5), (6, .int l6), (7, .int l7), (8, .int l8)] dX4_crossTails_124 rfl rfl (by decide) rfl ?_
            refine r_goto (tgt := 41) O dX4_crossTails_127 (by decide) ?_
            refine AW.sub [1, 2, 3, 4, 5, 6, 7, 8, 9, 0] rfl ?_
            exact ih _ _ hf
          clear hf
          have hf := hg
          clear hg
          by_cases hc : l7 ≤ l9
          · rw [if_pos hc] at hf
            refine r_icmp_ge_t (tgt := 124) O dX4_crossTails_109 (by decide) hc ?_
            obtain rfl := oi1 hf
            refine AW.sub [0, 1, 2, 3, 4, 5, 6, 7, 8, 9] rfl ?_
            exact hJ
          · rw [if_neg hc] at hf
            refine r_icmp_ge_f (tgt := 124) O dX4_crossTails_109 (by decide) hc ?_
            refine r_aload_n O 0 dX4_crossTails_112 rfl (Or.inl rfl) ?_
            obtain ⟨x14, ex14, hf⟩ := bnd hf
            refine r_gP O cf4 5 (by decide) rfl fl_X4_27 ex14 dX4_crossTails_113 ?_
            refine r_iload O 6 dX4_crossTails_116 rfl ?_
            refine r_iload O 9 dX4_crossTails_118 rfl ?_
            refine r_iadd O dX4_crossTails_120 ?_
            refine r_iload O 10 dX4_crossTails_121 rfl ?_
            obtain ⟨h15, eh15, hf⟩ := bnd hf
            refine r_stI O eh15 dX4_crossTails_123 ?_
            obtain rfl := oi1 hf
            refine AW.sub [0, 1, 2, 3, 4, 5, 6, 7, 8, 9] rfl ?_
            exact hJ
        clear hf
        have hf := hg
        clear hg
        by_cases hc : l8 ≤ l9
        · rw [if_pos hc] at hf
          refine r_icmp_ge_t (tgt := 105) O dX4_crossTails_82 (by decide) hc ?_
          obtain rfl := oi1 hf
          refine AW.sub [1, 2, 3, 4, 5, 6, 7, 8, 9, 10, 0] rfl ?_
          exact hJ
        · rw [if_neg hc] at hf
          refine r_icmp_ge_f (tgt := 105) O dX4_crossTails_82 (by decide) hc ?_
          refine r_aload_n O 1 dX4_crossTails_85 rfl (Or.inl rfl) ?_
          obtain ⟨x9, ex9, hf⟩ := bnd hf
          refine r_gP O cf4 5 (by decide) rfl fl_X4_27 ex9 dX4_crossTails_86 ?_
          refine r_iload O 6 dX4_crossTails_89 rfl ?_
          refine r_iload O 10 dX4_crossTails_91 rfl ?_
          refine r_iadd O dX4_crossTails_93 ?_
          refine r_aload_n O 1 dX4_crossTails_94 rfl (Or.inl rfl) ?_
          obtain ⟨x10, ex10, hf⟩ := bnd hf
          refine r_gP O cf4 5 (by decide) rfl fl_X4_27 ex10 dX4_crossTails_95 ?_
          refine r_iload O 7 dX4_crossTails_98 rfl ?_
          refine r_iload O 10 dX4_crossTails_100 rfl ?_
          refine r_iadd O dX4_crossTails_102 ?_
          obtain ⟨x11, ex11, hf⟩ := bnd hf
          refine r_ldI O ex11 dX4_crossTails_103 ?_
          obtain ⟨h12, eh12, hf⟩ := bnd hf
          refine r_stI O eh12 dX4_crossTails_104 ?_
          obtain rfl := oi1 hf
          refine AW.sub [1, 2, 3, 4, 5, 6, 7, 8, 9, 10, 0] rfl ?_
          exact hJ
      clear hf
      have hf := hg
      clear hg
      by_cases hc : l7 ≤ l9
      · rw [if_pos hc] at hf
        refine r_icmp_ge_t (tgt := 75) O dX4_crossTails_59 (by decide) hc ?_
        refine r_iconst O (v := -1) dX4_crossTails_75 (by decide) ?_
        obtain rfl := oi1 hf
        refine AW.sub [0, 1, 2, 3, 4, 5, 6, 7, 8, 9] rfl ?_
        exact hJ
      · rw [if_neg hc] at hf
        refine r_icmp_ge_f (tgt := 75) O dX4_crossTails_59 (by decide) hc ?_
        refine r_aload_n O 0 dX4_crossTails_62 rfl (Or.inl rfl) ?_
        obtain ⟨x6, ex6, hf⟩ := bnd hf
        refine r_gP O cf4 5 (by decide) rfl fl_X4_27 ex6 dX4_crossTails_63 ?_
        refine r_iload O 5 dX4_crossTails_66 rfl ?_
        refine r_iload O 9 dX4_crossTails_68 rfl ?_
        refine r_iadd O dX4_crossTails_70 ?_
        obtain ⟨x7, ex7, hf⟩ := bnd hf
        refine r_ldI O ex7 dX4_crossTails_71 ?_
        refine r_goto (tgt := 76) O dX4_crossTails_72 (by decide) ?_
        obtain rfl := oi1 hf
        refine AW.sub [0, 1, 2, 3, 4, 5, 6, 7, 8, 9] rfl ?_
        exact hJ
    · rw [if_neg hc] at hf
      refine r_icmp_lt_f (tgt := 55) O dX4_crossTails_45 (by decide) hc ?_
      refine r_iload O 9 dX4_crossTails_48 rfl ?_
      refine r_iload O 8 dX4_crossTails_50 rfl ?_
      by_cases hc : l8 ≤ l9
      · rw [if_pos hc] at hf
        refine r_icmp_ge_t (tgt := 130) O dX4_crossTails_52 (by decide) hc ?_
        obtain rfl := oi1 hf
        refine AW.sub [0, 1, 2, 3, 4, 7, 8] rfl ?_
        exact kk
      · rw [if_neg hc] at hf
        refine r_icmp_ge_f (tgt := 130) O dX4_crossTails_52 (by decide) hc ?_
        refine r_iload O 9 dX4_crossTails_55 rfl ?_
        refine r_iload O 7 dX4_crossTails_57 rfl ?_
        obtain ⟨x16, hg, hf⟩ := bnd hf
        have hJ : AW p l e { frames := 1, cells := 0, slots := 0, locals := 24 } s m args below meth c G 11 Q h 0 0 76 [(0, .ref l0), (1, .int l1), (2, .int l2), (3, .int l3), (4, .int l4), (5, .int l5), (6, .int l6), (7, .int l7), (8, .int l8), (9, .int l9)] [.int x16] := by
          refine r_istore O [(10, .int x16), (0, .ref l0), (1, .int l1), (2, .int l2), (3, .int l3), (4, .int l4), (5, .int l5), (6, .int l6), (7, .int l7), (8, .int l8), (9, .int l9)] dX4_crossTails_76 (by decide) rfl ?_
          refine r_iload O 10 dX4_crossTails_78 rfl ?_
          refine r_iload O 9 dX4_crossTails_80 rfl ?_
          obtain ⟨h19, hg, hf⟩ := bnd hf
          have hJ : AW p l e { frames := 1, cells := 0, slots := 0, locals := 24 } s m args below meth c G 11 Q h19 0 0 105 [(0, .ref l0), (1, .int l1), (2, .int l2), (3, .int l3), (4, .int l4), (5, .int l5), (6, .int l6), (7, .int l7), (8, .int l8), (9, .int l9), (10, .int x16)] [] := by
            refine r_iload O 9 dX4_crossTails_105 rfl ?_
            refine r_iload O 7 dX4_crossTails_107 rfl ?_
            obtain ⟨h24, hg, hf⟩ := bnd hf
            have hJ : AW p l e { frames := 1, cells := 0, slots := 0, locals := 24 } s m args below meth c G 11 Q h24 0 0 124 [(0, .ref l0), (1, .int l1), (2, .int l2), (3, .int l3), (4, .int l4), (5, .int l5), (6, .int l6), (7, .int l7), (8, .int l8), (9, .int l9)] [] := by
              refine r_iinc O 9 [(9, .int (l9 + 1)), (0, .ref l0), (1, .int l1), (2, .int l2), (3, .int l3), (4, .int l4), (5, .int l5), (6, .int l6), (7, .int l7), (8, .int l8)] dX4_crossTails_124 rfl rfl (by decide) rfl ?_
              refine r_goto (tgt := 41) O dX4_crossTails_127 (by decide) ?_
              refine AW.sub [1, 2, 3, 4, 5, 6, 7, 8, 9, 0] rfl ?_
              exact ih _ _ hf
            clear hf
            have hf := hg
            clear hg
            by_cases hc : l7 ≤ l9
            · rw [if_pos hc] at hf
              refine r_icmp_ge_t (tgt := 124) O dX4_crossTails_109 (by decide) hc ?_
              obtain rfl := oi1 hf
              refine AW.sub [0, 1, 2, 3, 4, 5, 6, 7, 8, 9] rfl ?_
              exact hJ
            · rw [if_neg hc] at hf
              refine r_icmp_ge_f (tgt := 124) O dX4_crossTails_109 (by decide) hc ?_
              refine r_aload_n O 0 dX4_crossTails_112 rfl (Or.inl rfl) ?_
              obtain ⟨x25, ex25, hf⟩ := bnd hf
              refine r_gP O cf4 5 (by decide) rfl fl_X4_27 ex25 dX4_crossTails_113 ?_
              refine r_iload O 6 dX4_crossTails_116 rfl ?_
              refine r_iload O 9 dX4_crossTails_118 rfl ?_
              refine r_iadd O dX4_crossTails_120 ?_
              refine r_iload O 10 dX4_crossTails_121 rfl ?_
              obtain ⟨h26, eh26, hf⟩ := bnd hf
              refine r_stI O eh26 dX4_crossTails_123 ?_
              obtain rfl := oi1 hf
              refine AW.sub [0, 1, 2, 3, 4, 5, 6, 7, 8, 9] rfl ?_
              exact hJ
          clear hf
          have hf := hg
          clear hg
          by_cases hc : l8 ≤ l9
          · rw [if_pos hc] at hf
            refine r_icmp_ge_t (tgt := 105) O dX4_crossTails_82 (by decide) hc ?_
            obtain rfl := oi1 hf
            refine AW.sub [1, 2, 3, 4, 5, 6, 7, 8, 9, 10, 0] rfl ?_
            exact hJ
          · rw [if_neg hc] at hf
            refine r_icmp_ge_f (tgt := 105) O dX4_crossTails_82 (by decide) hc ?_
            refine r_aload_n O 1 dX4_crossTails_85 rfl (Or.inl rfl) ?_
            obtain ⟨x20, ex20, hf⟩ := bnd hf
            refine r_gP O cf4 5 (by decide) rfl fl_X4_27 ex20 dX4_crossTails_86 ?_
            refine r_iload O 6 dX4_crossTails_89 rfl ?_
            refine r_iload O 10 dX4_crossTails_91 rfl ?_
            refine r_iadd O dX4_crossTails_93 ?_
            refine r_aload_n O 1 dX4_crossTails_94 rfl (Or.inl rfl) ?_
            obtain ⟨x21, ex21, hf⟩ := bnd hf
            refine r_gP O cf4 5 (by decide) rfl fl_X4_27 ex21 dX4_crossTails_95 ?_
            refine r_iload O 7 dX4_crossTails_98 rfl ?_
            refine r_iload O 10 dX4_crossTails_100 rfl ?_
            refine r_iadd O dX4_crossTails_102 ?_
            obtain ⟨x22, ex22, hf⟩ := bnd hf
            refine r_ldI O ex22 dX4_crossTails_103 ?_
            obtain ⟨h23, eh23, hf⟩ := bnd hf
            refine r_stI O eh23 dX4_crossTails_104 ?_
            obtain rfl := oi1 hf
            refine AW.sub [1, 2, 3, 4, 5, 6, 7, 8, 9, 10, 0] rfl ?_
            exact hJ
        clear hf
        have hf := hg
        clear hg
        by_cases hc : l7 ≤ l9
        · rw [if_pos hc] at hf
          refine r_icmp_ge_t (tgt := 75) O dX4_crossTails_59 (by decide) hc ?_
          refine r_iconst O (v := -1) dX4_crossTails_75 (by decide) ?_
          obtain rfl := oi1 hf
          refine AW.sub [0, 1, 2, 3, 4, 5, 6, 7, 8, 9] rfl ?_
          exact hJ
        · rw [if_neg hc] at hf
          refine r_icmp_ge_f (tgt := 75) O dX4_crossTails_59 (by decide) hc ?_
          refine r_aload_n O 0 dX4_crossTails_62 rfl (Or.inl rfl) ?_
          obtain ⟨x17, ex17, hf⟩ := bnd hf
          refine r_gP O cf4 5 (by decide) rfl fl_X4_27 ex17 dX4_crossTails_63 ?_
          refine r_iload O 5 dX4_crossTails_66 rfl ?_
          refine r_iload O 9 dX4_crossTails_68 rfl ?_
          refine r_iadd O dX4_crossTails_70 ?_
          obtain ⟨x18, ex18, hf⟩ := bnd hf
          refine r_ldI O ex18 dX4_crossTails_71 ?_
          refine r_goto (tgt := 76) O dX4_crossTails_72 (by decide) ?_
          obtain rfl := oi1 hf
          refine AW.sub [0, 1, 2, 3, 4, 5, 6, 7, 8, 9] rfl ?_
          exact hJ
theorem kd_X4_crossTails {h : AH} {a0 : Nat} {a1 : Int32} {a2 : Int32} {a3 : Int32} {a4 : Int32} {r : AH} (hf : f_X4_crossTails h a0 a1 a2 a3 a4 = some r) : aK h a0 = 4 := by
  unfold f_X4_crossTails at hf
  exact (ifk hf).1
set_option maxRecDepth 100000 in
set_option maxHeartbeats 4000000 in
theorem c_X4_crossTails {l : Launch} {G : GT} {h : AH} {a0 : Nat} {a1 : Int32} {a2 : Int32} {a3 : Int32} {a4 : Int32} {r : AH} (hf : f_X4_crossTails h a0 a1 a2 a3 a4 = some r) : Cn l yX4_crossTails cX4_crossTails 11 none 1 24 0 0 G h [.ref a0, .int a1, .int a2, .int a3, .int a4] (.ok none) r := by
  refine Cn.of (by decide) (Nat.le_of_ble_eq_true rfl) ?_
  intro p e s m args below meth c O hr hx hin
  have O : OkC p l s m args meth c G cX4_crossTails 11 RX4 := O
  unfold f_X4_crossTails at hf
  obtain ⟨hk0, hf⟩ := ifk hf
  refine AW.sub (lv' := [(0, .ref a0), (1, .int a1), (2, .int a2), (3, .int a3), (4, .int a4)]) [0, 1, 2, 3, 4] rfl ?_
  refine r_bipush O (v := 40) dX4_crossTails_0 (by decide) ?_
  refine r_iload_n O 1 dX4_crossTails_2 rfl ?_
  refine r_imul O dX4_crossTails_3 ?_
  refine r_iload_n O 2 dX4_crossTails_4 rfl ?_
  refine r_iadd O dX4_crossTails_5 ?_
  refine r_istore O [(5, .int ((40 * a1) + a2)), (0, .ref a0), (1, .int a1), (2, .int a2), (3, .int a3), (4, .int a4)] dX4_crossTails_6 (by decide) rfl ?_
  refine r_bipush O (v := 40) dX4_crossTails_8 (by decide) ?_
  refine r_iload_n O 4 dX4_crossTails_10 rfl ?_
  refine r_imul O dX4_crossTails_11 ?_
  refine r_iload O 5 dX4_crossTails_12 rfl ?_
  refine r_iadd O dX4_crossTails_14 ?_
  refine r_istore O [(6, .int ((40 * a3) + a4)), (5, .int ((40 * a1) + a2)), (0, .ref a0), (1, .int a1), (2, .int a2), (3, .int a3), (4, .int a4)] dX4_crossTails_15 (by decide) rfl ?_
  refine r_aload_n O 2 dX4_crossTails_17 rfl (Or.inl rfl) ?_
  obtain ⟨x1, ex1, hf⟩ := bnd hf
  refine r_gP O cf4 6 (by decide) rfl fl_X4_30 ex1 dX4_crossTails_18 ?_
  refine r_iload_n O 3 dX4_crossTails_21 rfl ?_
  obtain ⟨x2, ex2, hf⟩ := bnd hf
  refine r_ldI O ex2 dX4_crossTails_22 ?_
  refine r_iload_n O 4 dX4_crossTails_23 rfl ?_
  refine r_isub O dX4_crossTails_24 ?_
  refine r_istore O [(7, .int (x2 - a2)), (6, .int ((40 * a3) + a4)), (5, .int ((40 * a1) + a2)), (0, .ref a0), (1, .int a1), (2, .int a2), (3, .int a3), (4, .int a4)] dX4_crossTails_25 (by decide) rfl ?_
  refine r_aload_n O 3 dX4_crossTails_27 rfl (Or.inl rfl) ?_
  obtain ⟨x3, ex3, hf⟩ := bnd hf
  refine r_gP O cf4 6 (by decide) rfl fl_X4_30 ex3 dX4_crossTails_28 ?_
  refine r_iload_n O 6 dX4_crossTails_31 rfl ?_
  obtain ⟨x4, ex4, hf⟩ := bnd hf
  refine r_ldI O ex4 dX4_crossTails_32 ?_
  refine r_iload O 7 dX4_crossTails_33 rfl ?_
  refine r_isub O dX4_crossTails_35 ?_
  refine r_istore O [(8, .int (x4 - a4)), (7, .int (x2 - a2)), (6, .int ((40 * a3) + a4)), (5, .int ((40 * a1) + a2)), (0, .ref a0), (1, .int a1), (2, .int a2), (3, .int a3), (4, .int a4)] dX4_crossTails_36 (by decide) rfl ?_
  refine r_iconst O (v := 0) dX4_crossTails_38 (by decide) ?_
  refine r_istore O [(9, .int 0), (8, .int (x4 - a4)), (7, .int (x2 - a2)), (6, .int ((40 * a3) + a4)), (5, .int ((40 * a1) + a2)), (0, .ref a0), (1, .int a1), (2, .int a2), (3, .int a3), (4, .int a4)] dX4_crossTails_39 (by decide) rfl ?_
  obtain ⟨h27, hw, hf⟩ := bnd hf
  refine AW.sub [5, 6, 7, 8, 9, 4, 3, 2, 1, 0] rfl ?_
  refine s_X4_crossTails_41 O ?_ _ _ _ hw
  refine r_aload_n O 0 dX4_crossTails_130 rfl (Or.inl rfl) ?_
  obtain ⟨x28, ex28, hf⟩ := bnd hf
  refine r_gP O cf4 6 (by decide) rfl fl_X4_30 ex28 dX4_crossTails_131 ?_
  refine r_iload_n O 1 dX4_crossTails_134 rfl ?_
  refine r_iload_n O 2 dX4_crossTails_135 rfl ?_
  refine r_iload O 6 dX4_crossTails_136 rfl ?_
  refine r_iadd O dX4_crossTails_138 ?_
  obtain ⟨h29, eh29, hf⟩ := bnd hf
  refine r_stI O eh29 dX4_crossTails_139 ?_
  refine r_aload_n O 0 dX4_crossTails_140 rfl (Or.inl rfl) ?_
  obtain ⟨x30, ex30, hf⟩ := bnd hf
  refine r_gP O cf4 6 (by decide) rfl fl_X4_30 ex30 dX4_crossTails_141 ?_
  refine r_iload_n O 3 dX4_crossTails_144 rfl ?_
  refine r_iload O 4 dX4_crossTails_145 rfl ?_
  refine r_iload O 5 dX4_crossTails_147 rfl ?_
  refine r_iadd O dX4_crossTails_149 ?_
  obtain ⟨h31, eh31, hf⟩ := bnd hf
  refine r_stI O eh31 dX4_crossTails_150 ?_
  refine r_aload_n O 0 dX4_crossTails_151 rfl (Or.inl rfl) ?_
  refine r_iload_n O 1 dX4_crossTails_152 rfl ?_
  refine r_iload_n O 2 dX4_crossTails_153 rfl ?_
  obtain ⟨h33, eh33, hf⟩ := bnd hf
  refine r_callV (av := [.int a1, .int a2]) (st := []) O (c_X4_seat eh33) mf_X4_seat cf4 (kd_X4_seat eh33) ml_X4_72 mi_X4_seat mv_X4_seat (by decide) (Nat.le_of_ble_eq_true rfl) (by decide) dX4_crossTails_154 ?_
  refine r_aload_n O 0 dX4_crossTails_157 rfl (Or.inl rfl) ?_
  refine r_iload_n O 3 dX4_crossTails_158 rfl ?_
  refine r_iload O 4 dX4_crossTails_159 rfl ?_
  obtain ⟨h35, eh35, hf⟩ := bnd hf
  refine r_callV (av := [.int a3, .int a4]) (st := []) O (c_X4_seat eh35) mf_X4_seat cf4 (kd_X4_seat eh35) ml_X4_72 mi_X4_seat mv_X4_seat (by decide) (Nat.le_of_ble_eq_true rfl) (by decide) dX4_crossTails_161 ?_
  obtain rfl := Option.some.inj hf
  exact r_vret O hr rfl rfl (by decide) (by decide) dX4_crossTails_164
def f_X8_tails (h : AH) (a0 : Nat) (a1 : Int32) (a2 : Int32) (a3 : Int32) (a4 : Int32) : Option (Except Nat Int32 × AH) :=
if aK h a0 = 8 then
Option.bind (f_X8_needList h a0 a1) fun w => match w with
| (.error k9, h2) => some (.error k9, h2)
| (.ok x1, h2) =>
Option.bind (f_X8_needList h2 a0 a3) fun w => match w with
| (.error k9, h4) => some (.error k9, h4)
| (.ok x3, h4) =>
Option.bind (f_X8_needClosedBook h4 a0) fun w => match w with
| (.error k9, h6) => some (.error k9, h6)
| (.ok x5, h6) =>
Option.bind (if a1 = a3 then
some (0 : Int32)
else
if a2 < 0 then
some (0 : Int32)
else
Option.bind (gP h6 8 a0 1) fun x8 =>
Option.bind (gP h6 4 x8 6) fun x9 =>
Option.bind (ldI h6 x9 a1) fun x10 =>
if x10 < a2 then
some (0 : Int32)
else
if a4 < 0 then
some (0 : Int32)
else
Option.bind (gP h6 8 a0 1) fun x11 =>
Option.bind (gP h6 4 x11 6) fun x12 =>
Option.bind (ldI h6 x12 a3) fun x13 =>
if x13 < a4 then
some (0 : Int32)
else
some (1 : Int32)) fun x7 =>
Option.bind (f_X8_need h6 x7) fun w => match w with
| (.error k9, h15) => some (.error k9, h15)
| (.ok x14, h15) =>
Option.bind (gP h15 8 a0 1) fun x16 =>
Option.bind (gP h15 4 x16 7) fun x17 =>
Option.bind (ldI h15 x17 a1) fun x18 =>
if a2 < x18 then
some (.ok (-3), h15)
else
Option.bind (gP h15 8 a0 1) fun x19 =>
Option.bind (gP h15 4 x19 7) fun x20 =>
Option.bind (ldI h15 x20 a3) fun x21 =>
if x21 ≤ a4 then
Option.bind (gP h15 8 a0 1) fun x22 =>
Option.bind (f_X4_crossTails h15 x22 a1 a2 a3 a4) fun h24 =>
Option.bind (f_X8_settle h24 a0) fun w => match w with
| (x25, h26) =>
some (.ok x25, h26)
else
some (.ok (-3), h15)
else none
theorem kd_X8_tails {h : AH} {a0 : Nat} {a1 : Int32} {a2 : Int32} {a3 : Int32} {a4 : Int32} {r : (Except Nat Int32 × AH)} (hf : f_X8_tails h a0 a1 a2 a3 a4 = some r) : aK h a0 = 8 := by
  unfold f_X8_tails at hf
  exact (ifk hf).1
set_option maxRecDepth 100000 in
set_option maxHeartbeats 4000000 in
theorem c_X8_tails {l : Launch} {G : GT} {h : AH} {a0 : Nat} {a1 : Int32} {a2 : Int32} {a3 : Int32} {a4 : Int32} {r : (Except Nat Int32 × AH)} (hf : f_X8_tails h a0 a1 a2 a3 a4 = some r) : Cn l yX8_tails cX8_tails 5 (some .int) 7 170 15 836 G h [.ref a0, .int a1, .int a2, .int a3, .int a4] (r.1.map (fun x => some (.int x))) r.2 := by
  refine Cn.of (by decide) (Nat.le_of_ble_eq_true rfl) ?_
  intro p e s m args below meth c O hr hx hin
  have O : OkC p l s m args meth c G cX8_tails 5 RX8 := O
  unfold f_X8_tails at hf
  obtain ⟨hk0, hf⟩ := ifk hf
  refine AW.sub (lv' := [(0, .ref a0), (1, .int a1), (2, .int a2), (3, .int a3), (4, .int a4)]) [0, 1, 2, 3, 4] rfl ?_
  refine r_aload_n O 0 dX8_tails_0 rfl (Or.inl rfl) ?_
  refine r_iload_n O 1 dX8_tails_1 rfl ?_
  obtain ⟨⟨w, h2⟩, ex1, hf⟩ := bnd hf
  cases w with
  | error k9 =>
    dsimp only at hf
    obtain rfl := Option.some.inj hf
    exact r_thrV (av := [.int a1]) (st := []) O hx (c_X8_needList ex1) mf_X8_needList cf8 (kd_X8_needList ex1) ml_X8_118 mi_X8_needList mv_X8_needList (by decide) (Nat.le_of_ble_eq_true rfl) (by decide) (by decide) (by decide) dX8_tails_2
  | ok x1 =>
    dsimp only at hf
    refine r_callV (av := [.int a1]) (st := []) O (c_X8_needList ex1) mf_X8_needList cf8 (kd_X8_needList ex1) ml_X8_118 mi_X8_needList mv_X8_needList (by decide) (Nat.le_of_ble_eq_true rfl) (by decide) dX8_tails_2 ?_
    refine r_aload_n O 0 dX8_tails_5 rfl (Or.inl rfl) ?_
    refine r_iload_n O 3 dX8_tails_6 rfl ?_
    obtain ⟨⟨w, h4⟩, ex3, hf⟩ := bnd hf
    cases w with
    | error k9 =>
      dsimp only at hf
      obtain rfl := Option.some.inj hf
      exact r_thrV (av := [.int a3]) (st := []) O hx (c_X8_needList ex3) mf_X8_needList cf8 (kd_X8_needList ex3) ml_X8_118 mi_X8_needList mv_X8_needList (by decide) (Nat.le_of_ble_eq_true rfl) (by decide) (by decide) (by decide) dX8_tails_7
    | ok x3 =>
      dsimp only at hf
      refine r_callV (av := [.int a3]) (st := []) O (c_X8_needList ex3) mf_X8_needList cf8 (kd_X8_needList ex3) ml_X8_118 mi_X8_needList mv_X8_needList (by decide) (Nat.le_of_ble_eq_true rfl) (by decide) dX8_tails_7 ?_
      refine r_aload_n O 0 dX8_tails_10 rfl (Or.inl rfl) ?_
      obtain ⟨⟨w, h6⟩, ex5, hf⟩ := bnd hf
      cases w with
      | error k9 =>
        dsimp only at hf
        obtain rfl := Option.some.inj hf
        exact r_thrV (av := []) (st := []) O hx (c_X8_needClosedBook ex5) mf_X8_needClosedBook cf8 (kd_X8_needClosedBook ex5) ml_X8_121 mi_X8_needClosedBook mv_X8_needClosedBook (by decide) (Nat.le_of_ble_eq_true rfl) (by decide) (by decide) (by decide) dX8_tails_11
      | ok x5 =>
        dsimp only at hf
        refine r_callV (av := []) (st := []) O (c_X8_needClosedBook ex5) mf_X8_needClosedBook cf8 (kd_X8_needClosedBook ex5) ml_X8_121 mi_X8_needClosedBook mv_X8_needClosedBook (by decide) (Nat.le_of_ble_eq_true rfl) (by decide) dX8_tails_11 ?_
        refine r_iload_n O 1 dX8_tails_14 rfl ?_
        refine r_iload_n O 3 dX8_tails_15 rfl ?_
        obtain ⟨x7, hg, hf⟩ := bnd hf
        have hJ : AW p l e { frames := 7, cells := 15, slots := 836, locals := 170 } s m args below meth c G 5 (vx_MQ below (QcN G (r.1.map (fun x => some (.int x))) r.2) (XcN G (r.1.map (fun x => some (.int x))) r.2) args s 15 836 (gA G)) h6 3 18 60 [(0, .ref a0), (1, .int a1), (2, .int a2), (3, .int a3), (4, .int a4)] [.int x7] := by
          obtain ⟨⟨w, h15⟩, ex14, hf⟩ := bnd hf
          cases w with
          | error k9 =>
            dsimp only at hf
            obtain rfl := Option.some.inj hf
            exact r_thrS (av := [.int x7]) (st := []) O hx (c_X8_need ex14) mf_X8_need ml_X8_92 ms_X8_need (by decide) (Nat.le_of_ble_eq_true rfl) (by decide) (by decide) (by decide) dX8_tails_60
          | ok x14 =>
            dsimp only at hf
            refine r_callS (av := [.int x7]) (st := []) O (c_X8_need ex14) mf_X8_need ml_X8_92 ms_X8_need (by decide) (Nat.le_of_ble_eq_true rfl) (by decide) dX8_tails_60 ?_
            refine r_iload_n O 2 dX8_tails_63 rfl ?_
            refine r_aload_n O 0 dX8_tails_64 rfl (Or.inl rfl) ?_
            obtain ⟨x16, ex16, hf⟩ := bnd hf
            refine r_gP O cf8 1 (by decide) rfl fl_X8_19 ex16 dX8_tails_65 ?_
            obtain ⟨x17, ex17, hf⟩ := bnd hf
            refine r_gP O cf4 7 (by decide) rfl fl_X8_131 ex17 dX8_tails_68 ?_
            refine r_iload_n O 1 dX8_tails_71 rfl ?_
            obtain ⟨x18, ex18, hf⟩ := bnd hf
            refine r_ldI O ex18 dX8_tails_72 ?_
            by_cases hc : a2 < x18
            · rw [if_pos hc] at hf
              refine r_icmp_lt_t (tgt := 90) O dX8_tails_73 (by decide) hc ?_
              refine r_bipush O (v := -3) dX8_tails_90 (by decide) ?_
              obtain rfl := Option.some.inj hf
              exact r_iret O hr rfl rfl (by decide) (by decide) dX8_tails_92
            · rw [if_neg hc] at hf
              refine r_icmp_lt_f (tgt := 90) O dX8_tails_73 (by decide) hc ?_
              refine r_iload O 4 dX8_tails_76 rfl ?_
              refine r_aload_n O 0 dX8_tails_78 rfl (Or.inl rfl) ?_
              obtain ⟨x19, ex19, hf⟩ := bnd hf
              refine r_gP O cf8 1 (by decide) rfl fl_X8_19 ex19 dX8_tails_79 ?_
              obtain ⟨x20, ex20, hf⟩ := bnd hf
              refine r_gP O cf4 7 (by decide) rfl fl_X8_131 ex20 dX8_tails_82 ?_
              refine r_iload_n O 3 dX8_tails_85 rfl ?_
              obtain ⟨x21, ex21, hf⟩ := bnd hf
              refine r_ldI O ex21 dX8_tails_86 ?_
              by_cases hc : x21 ≤ a4
              · rw [if_pos hc] at hf
                refine r_icmp_ge_t (tgt := 93) O dX8_tails_87 (by decide) hc ?_
                refine r_aload_n O 0 dX8_tails_93 rfl (Or.inl rfl) ?_
                obtain ⟨x22, ex22, hf⟩ := bnd hf
                refine r_gP O cf8 1 (by decide) rfl fl_X8_19 ex22 dX8_tails_94 ?_
                refine r_iload_n O 1 dX8_tails_97 rfl ?_
                refine r_iload_n O 2 dX8_tails_98 rfl ?_
                refine r_iload_n O 3 dX8_tails_99 rfl ?_
                refine r_iload O 4 dX8_tails_100 rfl ?_
                obtain ⟨h24, eh24, hf⟩ := bnd hf
                refine r_callV (av := [.int a1, .int a2, .int a3, .int a4]) (st := []) O (c_X4_crossTails eh24) mf_X4_crossTails cf4 (kd_X4_crossTails eh24) ml_X8_158 mi_X4_crossTails mv_X4_crossTails (by decide) (Nat.le_of_ble_eq_true rfl) (by decide) dX8_tails_102 ?_
                refine r_aload_n O 0 dX8_tails_105 rfl (Or.inl rfl) ?_
                obtain ⟨⟨x25, h26⟩, ex25, hf⟩ := bnd hf
                dsimp only at hf
                refine r_callV (av := []) (st := []) O (c_X8_settle ex25) mf_X8_settle cf8 (kd_X8_settle ex25) ml_X8_137 mi_X8_settle mv_X8_settle (by decide) (Nat.le_of_ble_eq_true rfl) (by decide) dX8_tails_106 ?_
                obtain rfl := Option.some.inj hf
                exact r_iret O hr rfl rfl (by decide) (by decide) dX8_tails_109
              · rw [if_neg hc] at hf
                refine r_icmp_ge_f (tgt := 93) O dX8_tails_87 (by decide) hc ?_
                refine r_bipush O (v := -3) dX8_tails_90 (by decide) ?_
                obtain rfl := Option.some.inj hf
                exact r_iret O hr rfl rfl (by decide) (by decide) dX8_tails_92
        clear hf
        have hf := hg
        clear hg
        by_cases hc : a1 = a3
        · rw [if_pos hc] at hf
          refine r_icmp_eq_t (tgt := 59) O dX8_tails_16 (by decide) hc ?_
          refine r_iconst O (v := 0) dX8_tails_59 (by decide) ?_
          obtain rfl := oi1 hf
          refine AW.sub [0, 1, 2, 3, 4] rfl ?_
          exact hJ
        · rw [if_neg hc] at hf
          refine r_icmp_eq_f (tgt := 59) O dX8_tails_16 (by decide) hc ?_
          refine r_iload_n O 2 dX8_tails_19 rfl ?_
          by_cases hc : a2 < 0
          · rw [if_pos hc] at hf
            refine r_if_lt_t (tgt := 59) O dX8_tails_20 (by decide) hc ?_
            refine r_iconst O (v := 0) dX8_tails_59 (by decide) ?_
            obtain rfl := oi1 hf
            refine AW.sub [0, 1, 2, 3, 4] rfl ?_
            exact hJ
          · rw [if_neg hc] at hf
            refine r_if_lt_f (tgt := 59) O dX8_tails_20 (by decide) hc ?_
            refine r_iload_n O 2 dX8_tails_23 rfl ?_
            refine r_aload_n O 0 dX8_tails_24 rfl (Or.inl rfl) ?_
            obtain ⟨x8, ex8, hf⟩ := bnd hf
            refine r_gP O cf8 1 (by decide) rfl fl_X8_19 ex8 dX8_tails_25 ?_
            obtain ⟨x9, ex9, hf⟩ := bnd hf
            refine r_gP O cf4 6 (by decide) rfl fl_X8_124 ex9 dX8_tails_28 ?_
            refine r_iload_n O 1 dX8_tails_31 rfl ?_
            obtain ⟨x10, ex10, hf⟩ := bnd hf
            refine r_ldI O ex10 dX8_tails_32 ?_
            by_cases hc : x10 < a2
            · rw [if_pos hc] at hf
              refine r_icmp_gt_t (tgt := 59) O dX8_tails_33 (by decide) hc ?_
              refine r_iconst O (v := 0) dX8_tails_59 (by decide) ?_
              obtain rfl := oi1 hf
              refine AW.sub [0, 1, 2, 3, 4] rfl ?_
              exact hJ
            · rw [if_neg hc] at hf
              refine r_icmp_gt_f (tgt := 59) O dX8_tails_33 (by decide) hc ?_
              refine r_iload O 4 dX8_tails_36 rfl ?_
              by_cases hc : a4 < 0
              · rw [if_pos hc] at hf
                refine r_if_lt_t (tgt := 59) O dX8_tails_38 (by decide) hc ?_
                refine r_iconst O (v := 0) dX8_tails_59 (by decide) ?_
                obtain rfl := oi1 hf
                refine AW.sub [0, 1, 2, 3, 4] rfl ?_
                exact hJ
              · rw [if_neg hc] at hf
                refine r_if_lt_f (tgt := 59) O dX8_tails_38 (by decide) hc ?_
                refine r_iload O 4 dX8_tails_41 rfl ?_
                refine r_aload_n O 0 dX8_tails_43 rfl (Or.inl rfl) ?_
                obtain ⟨x11, ex11, hf⟩ := bnd hf
                refine r_gP O cf8 1 (by decide) rfl fl_X8_19 ex11 dX8_tails_44 ?_
                obtain ⟨x12, ex12, hf⟩ := bnd hf
                refine r_gP O cf4 6 (by decide) rfl fl_X8_124 ex12 dX8_tails_47 ?_
                refine r_iload_n O 3 dX8_tails_50 rfl ?_
                obtain ⟨x13, ex13, hf⟩ := bnd hf
                refine r_ldI O ex13 dX8_tails_51 ?_
                by_cases hc : x13 < a4
                · rw [if_pos hc] at hf
                  refine r_icmp_gt_t (tgt := 59) O dX8_tails_52 (by decide) hc ?_
                  refine r_iconst O (v := 0) dX8_tails_59 (by decide) ?_
                  obtain rfl := oi1 hf
                  refine AW.sub [0, 1, 2, 3, 4] rfl ?_
                  exact hJ
                · rw [if_neg hc] at hf
                  refine r_icmp_gt_f (tgt := 59) O dX8_tails_52 (by decide) hc ?_
                  refine r_iconst O (v := 1) dX8_tails_55 (by decide) ?_
                  refine r_goto (tgt := 60) O dX8_tails_56 (by decide) ?_
                  obtain rfl := oi1 hf
                  refine AW.sub [0, 1, 2, 3, 4] rfl ?_
                  exact hJ
