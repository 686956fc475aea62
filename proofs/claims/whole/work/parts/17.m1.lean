def f_X8_need (h : AH) (a0 : Int32) : Option (Except Nat Unit × AH) :=
if a0 = 0 then
some (.error 1, nx h)
else
some (.ok (), h)
set_option maxRecDepth 100000 in
set_option maxHeartbeats 4000000 in
theorem c_X8_need {l : Launch} {G : GT} {h : AH} {a0 : Int32} {r : (Except Nat Unit × AH)} (hf : f_X8_need h a0 = some r) : Cn l yX8_need cX8_need 1 none 6 90 1 6 G h [.int a0] (r.1.map (fun x => none)) r.2 := by
  refine Cn.of (by decide) (Nat.le_of_ble_eq_true rfl) ?_
  intro p e s m args below meth c O hr hx hin
  have O : OkC p l s m args meth c G cX8_need 1 RX8 := O
  unfold f_X8_need at hf
  refine AW.sub (lv' := [(0, .int a0)]) [0] rfl ?_
  refine r_iload_n O 0 dX8_need_0 rfl ?_
  by_cases hc : a0 = 0
  · rw [if_pos hc] at hf
    refine r_if_ne_f (tgt := 15) O dX8_need_1 (by decide) hc ?_
    obtain rfl := Option.some.inj hf
    exact r_throwW 1 O hx kl_X8_281 xa_X8_281_285 st_X8_283 (by decide) (by decide) (Nat.le_of_ble_eq_true rfl) (by decide) (by decide) (by decide) dX8_need_4 dX8_need_7 dX8_need_8 dX8_need_11 dX8_need_14
  · rw [if_neg hc] at hf
    refine r_if_ne_t (tgt := 15) O dX8_need_1 (by decide) hc ?_
    obtain rfl := Option.some.inj hf
    exact r_vret O hr rfl rfl (by decide) (by decide) dX8_need_15
def f_X8_isThingKind (h : AH) (a0 : Int32) : Option Int32 :=
Option.bind (if a0 < 0 then
some (0 : Int32)
else
if 6 ≤ a0 then
some (0 : Int32)
else
some (1 : Int32)) fun x1 =>
Option.bind (bz x1) fun x2 =>
some x2
set_option maxRecDepth 100000 in
set_option maxHeartbeats 4000000 in
theorem c_X8_isThingKind {l : Launch} {G : GT} {h : AH} {a0 : Int32} {r : Int32} (hf : f_X8_isThingKind h a0 = some r) : Cn l yX8_isThingKind cX8_isThingKind 1 (some .boolean) 0 0 0 0 G h [.int a0] (.ok (some (.int r))) h := by
  refine Cn.of (by decide) (Nat.le_of_ble_eq_true rfl) ?_
  intro p e s m args below meth c O hr hx hin
  have O : OkC p l s m args meth c G cX8_isThingKind 1 RX8 := O
  unfold f_X8_isThingKind at hf
  refine AW.sub (lv' := [(0, .int a0)]) [0] rfl ?_
  refine r_iload_n O 0 dX8_isThingKind_0 rfl ?_
  obtain ⟨x1, hg, hf⟩ := bnd hf
  have hJ : AW p l e { frames := 0, cells := 0, slots := 0, locals := 0 } s m args below meth c G 1 (vx_MQ below (QcN G (.ok (some (.int r))) h) (XcN G (.ok (some (.int r))) h) args s 0 0 (gA G)) h 0 0 15 [] [.int x1] := by
    obtain ⟨x2, ex2, hf⟩ := bnd hf
    refine r_nmI (bz_eq ex2) ?_
    obtain rfl := Option.some.inj hf
    exact r_zret O hr (bz_or ex2) rfl rfl (by decide) (by decide) dX8_isThingKind_15
  clear hf
  have hf := hg
  clear hg
  by_cases hc : a0 < 0
  · rw [if_pos hc] at hf
    refine r_if_lt_t (tgt := 14) O dX8_isThingKind_1 (by decide) hc ?_
    refine r_iconst O (v := 0) dX8_isThingKind_14 (by decide) ?_
    obtain rfl := oi1 hf
    refine AW.sub [] rfl ?_
    exact hJ
  · rw [if_neg hc] at hf
    refine r_if_lt_f (tgt := 14) O dX8_isThingKind_1 (by decide) hc ?_
    refine r_iload_n O 0 dX8_isThingKind_4 rfl ?_
    refine r_bipush O (v := 6) dX8_isThingKind_5 (by decide) ?_
    by_cases hc : 6 ≤ a0
    · rw [if_pos hc] at hf
      refine r_icmp_ge_t (tgt := 14) O dX8_isThingKind_7 (by decide) hc ?_
      refine r_iconst O (v := 0) dX8_isThingKind_14 (by decide) ?_
      obtain rfl := oi1 hf
      refine AW.sub [] rfl ?_
      exact hJ
    · rw [if_neg hc] at hf
      refine r_icmp_ge_f (tgt := 14) O dX8_isThingKind_7 (by decide) hc ?_
      refine r_iconst O (v := 1) dX8_isThingKind_10 (by decide) ?_
      refine r_goto (tgt := 15) O dX8_isThingKind_11 (by decide) ?_
      obtain rfl := oi1 hf
      refine AW.sub [] rfl ?_
      exact hJ
def f_X8_isListKind (h : AH) (a0 : Int32) : Option Int32 :=
Option.bind (if a0 < 6 then
some (0 : Int32)
else
if 9 ≤ a0 then
some (0 : Int32)
else
some (1 : Int32)) fun x1 =>
Option.bind (bz x1) fun x2 =>
some x2
set_option maxRecDepth 100000 in
set_option maxHeartbeats 4000000 in
theorem c_X8_isListKind {l : Launch} {G : GT} {h : AH} {a0 : Int32} {r : Int32} (hf : f_X8_isListKind h a0 = some r) : Cn l yX8_isListKind cX8_isListKind 1 (some .boolean) 0 0 0 0 G h [.int a0] (.ok (some (.int r))) h := by
  refine Cn.of (by decide) (Nat.le_of_ble_eq_true rfl) ?_
  intro p e s m args below meth c O hr hx hin
  have O : OkC p l s m args meth c G cX8_isListKind 1 RX8 := O
  unfold f_X8_isListKind at hf
  refine AW.sub (lv' := [(0, .int a0)]) [0] rfl ?_
  refine r_iload_n O 0 dX8_isListKind_0 rfl ?_
  refine r_bipush O (v := 6) dX8_isListKind_1 (by decide) ?_
  obtain ⟨x1, hg, hf⟩ := bnd hf
  have hJ : AW p l e { frames := 0, cells := 0, slots := 0, locals := 0 } s m args below meth c G 1 (vx_MQ below (QcN G (.ok (some (.int r))) h) (XcN G (.ok (some (.int r))) h) args s 0 0 (gA G)) h 0 0 17 [] [.int x1] := by
    obtain ⟨x2, ex2, hf⟩ := bnd hf
    refine r_nmI (bz_eq ex2) ?_
    obtain rfl := Option.some.inj hf
    exact r_zret O hr (bz_or ex2) rfl rfl (by decide) (by decide) dX8_isListKind_17
  clear hf
  have hf := hg
  clear hg
  by_cases hc : a0 < 6
  · rw [if_pos hc] at hf
    refine r_icmp_lt_t (tgt := 16) O dX8_isListKind_3 (by decide) hc ?_
    refine r_iconst O (v := 0) dX8_isListKind_16 (by decide) ?_
    obtain rfl := oi1 hf
    refine AW.sub [] rfl ?_
    exact hJ
  · rw [if_neg hc] at hf
    refine r_icmp_lt_f (tgt := 16) O dX8_isListKind_3 (by decide) hc ?_
    refine r_iload_n O 0 dX8_isListKind_6 rfl ?_
    refine r_bipush O (v := 9) dX8_isListKind_7 (by decide) ?_
    by_cases hc : 9 ≤ a0
    · rw [if_pos hc] at hf
      refine r_icmp_ge_t (tgt := 16) O dX8_isListKind_9 (by decide) hc ?_
      refine r_iconst O (v := 0) dX8_isListKind_16 (by decide) ?_
      obtain rfl := oi1 hf
      refine AW.sub [] rfl ?_
      exact hJ
    · rw [if_neg hc] at hf
      refine r_icmp_ge_f (tgt := 16) O dX8_isListKind_9 (by decide) hc ?_
      refine r_iconst O (v := 1) dX8_isListKind_12 (by decide) ?_
      refine r_goto (tgt := 17) O dX8_isListKind_13 (by decide) ?_
      obtain rfl := oi1 hf
      refine AW.sub [] rfl ?_
      exact hJ
def f_X0_isStep (h : AH) (a0 : Int32) (a1 : Int32) (a2 : Int32) : Option Int32 :=
if a1 = 0 then
some 1
else
if a1 = 1 then
Option.bind (if a2 < 0 then
some (0 : Int32)
else
Option.bind (if a0 = 0 then
some (2 : Int32)
else
some (4 : Int32)) fun x2 =>
if x2 ≤ a2 then
some (0 : Int32)
else
some (1 : Int32)) fun x1 =>
Option.bind (bz x1) fun x3 =>
some x3
else
if a1 = 2 then
Option.bind (if a0 = 0 then
some (0 : Int32)
else
if a2 < 0 then
some (0 : Int32)
else
if 2 ≤ a2 then
some (0 : Int32)
else
some (1 : Int32)) fun x4 =>
Option.bind (bz x4) fun x5 =>
some x5
else
if a1 = 3 then
Option.bind (if a2 = 1 then
some (1 : Int32)
else
if a0 = 0 then
some (0 : Int32)
else
if a2 = 0 then
some (1 : Int32)
else
some (0 : Int32)) fun x6 =>
Option.bind (bz x6) fun x7 =>
some x7
else
if a1 = 4 then
Option.bind (if a0 = 0 then
Option.bind (f_X8_isListKind h a2) fun x9 =>
some x9
else
Option.bind (f_X8_isThingKind h a2) fun x11 =>
some x11) fun x8 =>
Option.bind (bz x8) fun x13 =>
some x13
else
if a1 = 5 ∨ a1 = 6 ∨ a1 = 7 then
Option.bind (if a0 = 0 then
some (0 : Int32)
else
Option.bind (f_X8_isThingKind h a2) fun x15 =>
if x15 = 0 then
some (0 : Int32)
else
some (1 : Int32)) fun x14 =>
Option.bind (bz x14) fun x17 =>
some x17
else
if a1 = 8 then
Option.bind (if a0 = 0 then
some (0 : Int32)
else
Option.bind (f_X8_isListKind h a2) fun x19 =>
if x19 = 0 then
some (0 : Int32)
else
some (1 : Int32)) fun x18 =>
Option.bind (bz x18) fun x21 =>
some x21
else
if a1 = 9 ∨ a1 = 10 ∨ a1 = 11 ∨ a1 = 12 ∨ a1 = 13 then
Option.bind (if a0 = 0 then
Option.bind (f_X8_isThingKind h a2) fun x23 =>
if x23 = 0 then
some (0 : Int32)
else
some (1 : Int32)
else
some (0 : Int32)) fun x22 =>
Option.bind (bz x22) fun x25 =>
some x25
else
Option.bind (if a1 < 14 then
some (0 : Int32)
else
if 24 < a1 then
some (0 : Int32)
else
some (1 : Int32)) fun x26 =>
Option.bind (bz x26) fun x27 =>
some x27
set_option maxRecDepth 100000 in
set_option maxHeartbeats 4000000 in
theorem c_X0_isStep {l : Launch} {G : GT} {h : AH} {a0 : Int32} {a1 : Int32} {a2 : Int32} {r : Int32} (hf : f_X0_isStep h a0 a1 a2 = some r) : Cn l yX0_isStep cX0_isStep 3 (some .boolean) 1 20 0 0 G h [.int a0, .int a1, .int a2] (.ok (some (.int r))) h := by
  refine Cn.of (by decide) (Nat.le_of_ble_eq_true rfl) ?_
  intro p e s m args below meth c O hr hx hin
  have O : OkC p l s m args meth c G cX0_isStep 3 RX0 := O
  unfold f_X0_isStep at hf
  refine AW.sub (lv' := [(0, .int a0), (1, .int a1), (2, .int a2)]) [0, 1, 2] rfl ?_
  refine r_iload_n O 1 dX0_isStep_0 rfl ?_
  by_cases hc : a1 = 0
  · rw [if_pos hc] at hf
    refine r_table_in (off := 71) (tgt := 72) O dX0_isStep_1 (by (rw [hc]; decide)) (by (rw [hc]; decide)) (by (rw [hc]; rfl)) (by decide) ?_
    refine r_iconst O (v := 1) dX0_isStep_72 (by decide) ?_
    obtain rfl := Option.some.inj hf
    exact r_zret O hr (by decide) rfl rfl (by decide) (by decide) dX0_isStep_73
  · rw [if_neg hc] at hf
    have hn72 := hc
    by_cases hc : a1 = 1
    · rw [if_pos hc] at hf
      refine r_table_in (off := 73) (tgt := 74) O dX0_isStep_1 (by (rw [hc]; decide)) (by (rw [hc]; decide)) (by (rw [hc]; rfl)) (by decide) ?_
      refine r_iload_n O 2 dX0_isStep_74 rfl ?_
      obtain ⟨x1, hg, hf⟩ := bnd hf
      have hJ : AW p l e { frames := 1, cells := 0, slots := 0, locals := 20 } s m args below meth c G 3 (vx_MQ below (QcN G (.ok (some (.int r))) h) (XcN G (.ok (some (.int r))) h) args s 0 0 (gA G)) h 0 0 96 [] [.int x1] := by
        obtain ⟨x3, ex3, hf⟩ := bnd hf
        refine r_nmI (bz_eq ex3) ?_
        obtain rfl := Option.some.inj hf
        exact r_zret O hr (bz_or ex3) rfl rfl (by decide) (by decide) dX0_isStep_96
      clear hf
      have hf := hg
      clear hg
      by_cases hc : a2 < 0
      · rw [if_pos hc] at hf
        refine r_if_lt_t (tgt := 95) O dX0_isStep_75 (by decide) hc ?_
        refine r_iconst O (v := 0) dX0_isStep_95 (by decide) ?_
        obtain rfl := oi1 hf
        refine AW.sub [] rfl ?_
        exact hJ
      · rw [if_neg hc] at hf
        refine r_if_lt_f (tgt := 95) O dX0_isStep_75 (by decide) hc ?_
        refine r_iload_n O 2 dX0_isStep_78 rfl ?_
        refine r_iload_n O 0 dX0_isStep_79 rfl ?_
        obtain ⟨x2, hg, hf⟩ := bnd hf
        have hJ : AW p l e { frames := 1, cells := 0, slots := 0, locals := 20 } s m args below meth c G 3 (vx_MQ below (QcN G (.ok (some (.int r))) h) (XcN G (.ok (some (.int r))) h) args s 0 0 (gA G)) h 0 0 88 [] [.int x2, .int a2] := by
          by_cases hc : x2 ≤ a2
          · rw [if_pos hc] at hf
            refine r_icmp_ge_t (tgt := 95) O dX0_isStep_88 (by decide) hc ?_
            refine r_iconst O (v := 0) dX0_isStep_95 (by decide) ?_
            obtain rfl := oi1 hf
            refine AW.sub [] rfl ?_
            exact hJ
          · rw [if_neg hc] at hf
            refine r_icmp_ge_f (tgt := 95) O dX0_isStep_88 (by decide) hc ?_
            refine r_iconst O (v := 1) dX0_isStep_91 (by decide) ?_
            refine r_goto (tgt := 96) O dX0_isStep_92 (by decide) ?_
            obtain rfl := oi1 hf
            refine AW.sub [] rfl ?_
            exact hJ
        clear hf
        have hf := hg
        clear hg
        by_cases hc : a0 = 0
        · rw [if_pos hc] at hf
          refine r_if_eq_t (tgt := 87) O dX0_isStep_80 (by decide) hc ?_
          refine r_iconst O (v := 2) dX0_isStep_87 (by decide) ?_
          obtain rfl := oi1 hf
          refine AW.sub [] rfl ?_
          exact hJ
        · rw [if_neg hc] at hf
          refine r_if_eq_f (tgt := 87) O dX0_isStep_80 (by decide) hc ?_
          refine r_iconst O (v := 4) dX0_isStep_83 (by decide) ?_
          refine r_goto (tgt := 88) O dX0_isStep_84 (by decide) ?_
          obtain rfl := oi1 hf
          refine AW.sub [] rfl ?_
          exact hJ
    · rw [if_neg hc] at hf
      have hn74 := hc
      by_cases hc : a1 = 2
      · rw [if_pos hc] at hf
        refine r_table_in (off := 96) (tgt := 97) O dX0_isStep_1 (by (rw [hc]; decide)) (by (rw [hc]; decide)) (by (rw [hc]; rfl)) (by decide) ?_
        refine r_iload_n O 0 dX0_isStep_97 rfl ?_
        obtain ⟨x4, hg, hf⟩ := bnd hf
        have hJ : AW p l e { frames := 1, cells := 0, slots := 0, locals := 20 } s m args below meth c G 3 (vx_MQ below (QcN G (.ok (some (.int r))) h) (XcN G (.ok (some (.int r))) h) args s 0 0 (gA G)) h 0 0 115 [] [.int x4] := by
          obtain ⟨x5, ex5, hf⟩ := bnd hf
          refine r_nmI (bz_eq ex5) ?_
          obtain rfl := Option.some.inj hf
          exact r_zret O hr (bz_or ex5) rfl rfl (by decide) (by decide) dX0_isStep_115
        clear hf
        have hf := hg
        clear hg
        by_cases hc : a0 = 0
        · rw [if_pos hc] at hf
          refine r_if_eq_t (tgt := 114) O dX0_isStep_98 (by decide) hc ?_
          refine r_iconst O (v := 0) dX0_isStep_114 (by decide) ?_
          obtain rfl := oi1 hf
          refine AW.sub [] rfl ?_
          exact hJ
        · rw [if_neg hc] at hf
          refine r_if_eq_f (tgt := 114) O dX0_isStep_98 (by decide) hc ?_
          refine r_iload_n O 2 dX0_isStep_101 rfl ?_
          by_cases hc : a2 < 0
          · rw [if_pos hc] at hf
            refine r_if_lt_t (tgt := 114) O dX0_isStep_102 (by decide) hc ?_
            refine r_iconst O (v := 0) dX0_isStep_114 (by decide) ?_
            obtain rfl := oi1 hf
            refine AW.sub [] rfl ?_
            exact hJ
          · rw [if_neg hc] at hf
            refine r_if_lt_f (tgt := 114) O dX0_isStep_102 (by decide) hc ?_
            refine r_iload_n O 2 dX0_isStep_105 rfl ?_
            refine r_iconst O (v := 2) dX0_isStep_106 (by decide) ?_
            by_cases hc : 2 ≤ a2
            · rw [if_pos hc] at hf
              refine r_icmp_ge_t (tgt := 114) O dX0_isStep_107 (by decide) hc ?_
              refine r_iconst O (v := 0) dX0_isStep_114 (by decide) ?_
              obtain rfl := oi1 hf
              refine AW.sub [] rfl ?_
              exact hJ
            · rw [if_neg hc] at hf
              refine r_icmp_ge_f (tgt := 114) O dX0_isStep_107 (by decide) hc ?_
              refine r_iconst O (v := 1) dX0_isStep_110 (by decide) ?_
              refine r_goto (tgt := 115) O dX0_isStep_111 (by decide) ?_
              obtain rfl := oi1 hf
              refine AW.sub [] rfl ?_
              exact hJ
      · rw [if_neg hc] at hf
        have hn97 := hc
        by_cases hc : a1 = 3
        · rw [if_pos hc] at hf
          refine r_table_in (off := 115) (tgt := 116) O dX0_isStep_1 (by (rw [hc]; decide)) (by (rw [hc]; decide)) (by (rw [hc]; rfl)) (by decide) ?_
          refine r_iload_n O 2 dX0_isStep_116 rfl ?_
          refine r_iconst O (v := 1) dX0_isStep_117 (by decide) ?_
          obtain ⟨x6, hg, hf⟩ := bnd hf
          have hJ : AW p l e { frames := 1, cells := 0, slots := 0, locals := 20 } s m args below meth c G 3 (vx_MQ below (QcN G (.ok (some (.int r))) h) (XcN G (.ok (some (.int r))) h) args s 0 0 (gA G)) h 0 0 134 [] [.int x6] := by
            obtain ⟨x7, ex7, hf⟩ := bnd hf
            refine r_nmI (bz_eq ex7) ?_
            obtain rfl := Option.some.inj hf
            exact r_zret O hr (bz_or ex7) rfl rfl (by decide) (by decide) dX0_isStep_134
          clear hf
          have hf := hg
          clear hg
          by_cases hc : a2 = 1
          · rw [if_pos hc] at hf
            refine r_icmp_eq_t (tgt := 129) O dX0_isStep_118 (by decide) hc ?_
            refine r_iconst O (v := 1) dX0_isStep_129 (by decide) ?_
            refine r_goto (tgt := 134) O dX0_isStep_130 (by decide) ?_
            obtain rfl := oi1 hf
            refine AW.sub [] rfl ?_
            exact hJ
          · rw [if_neg hc] at hf
            refine r_icmp_eq_f (tgt := 129) O dX0_isStep_118 (by decide) hc ?_
            refine r_iload_n O 0 dX0_isStep_121 rfl ?_
            by_cases hc : a0 = 0
            · rw [if_pos hc] at hf
              refine r_if_eq_t (tgt := 133) O dX0_isStep_122 (by decide) hc ?_
              refine r_iconst O (v := 0) dX0_isStep_133 (by decide) ?_
              obtain rfl := oi1 hf
              refine AW.sub [] rfl ?_
              exact hJ
            · rw [if_neg hc] at hf
              refine r_if_eq_f (tgt := 133) O dX0_isStep_122 (by decide) hc ?_
              refine r_iload_n O 2 dX0_isStep_125 rfl ?_
              by_cases hc : a2 = 0
              · rw [if_pos hc] at hf
                refine r_if_ne_f (tgt := 133) O dX0_isStep_126 (by decide) hc ?_
                refine r_iconst O (v := 1) dX0_isStep_129 (by decide) ?_
                refine r_goto (tgt := 134) O dX0_isStep_130 (by decide) ?_
                obtain rfl := oi1 hf
                refine AW.sub [] rfl ?_
                exact hJ
              · rw [if_neg hc] at hf
                refine r_if_ne_t (tgt := 133) O dX0_isStep_126 (by decide) hc ?_
                refine r_iconst O (v := 0) dX0_isStep_133 (by decide) ?_
                obtain rfl := oi1 hf
                refine AW.sub [] rfl ?_
                exact hJ
        · rw [if_neg hc] at hf
          have hn116 := hc
          by_cases hc : a1 = 4
          · rw [if_pos hc] at hf
            refine r_table_in (off := 134) (tgt := 135) O dX0_isStep_1 (by (rw [hc]; decide)) (by (rw [hc]; decide)) (by (rw [hc]; rfl)) (by decide) ?_
            refine r_iload_n O 0 dX0_isStep_135 rfl ?_
            obtain ⟨x8, hg, hf⟩ := bnd hf
            have hJ : AW p l e { frames := 1, cells := 0, slots := 0, locals := 20 } s m args below meth c G 3 (vx_MQ below (QcN G (.ok (some (.int r))) h) (XcN G (.ok (some (.int r))) h) args s 0 0 (gA G)) h 0 0 150 [] [.int x8] := by
              obtain ⟨x13, ex13, hf⟩ := bnd hf
              refine r_nmI (bz_eq ex13) ?_
              obtain rfl := Option.some.inj hf
              exact r_zret O hr (bz_or ex13) rfl rfl (by decide) (by decide) dX0_isStep_150
            clear hf
            have hf := hg
            clear hg
            by_cases hc : a0 = 0
            · rw [if_pos hc] at hf
              refine r_if_eq_t (tgt := 146) O dX0_isStep_136 (by decide) hc ?_
              refine r_iload_n O 2 dX0_isStep_146 rfl ?_
              obtain ⟨x9, ex9, hf⟩ := bnd hf
              refine r_callSN (av := [.int a2]) (st := []) O (c_X8_isListKind ex9) mf_X8_isListKind mn_X0_55 ms_X8_isListKind (by decide) (Nat.le_of_ble_eq_true rfl) (by decide) dX0_isStep_147 ?_
              obtain rfl := oi1 hf
              refine AW.sub [] rfl ?_
              exact hJ
            · rw [if_neg hc] at hf
              refine r_if_eq_f (tgt := 146) O dX0_isStep_136 (by decide) hc ?_
              refine r_iload_n O 2 dX0_isStep_139 rfl ?_
              obtain ⟨x11, ex11, hf⟩ := bnd hf
              refine r_callSN (av := [.int a2]) (st := []) O (c_X8_isThingKind ex11) mf_X8_isThingKind mn_X0_41 ms_X8_isThingKind (by decide) (Nat.le_of_ble_eq_true rfl) (by decide) dX0_isStep_140 ?_
              refine r_goto (tgt := 150) O dX0_isStep_143 (by decide) ?_
              obtain rfl := oi1 hf
              refine AW.sub [] rfl ?_
              exact hJ
          · rw [if_neg hc] at hf
            have hn135 := hc
            by_cases hc : a1 = 5 ∨ a1 = 6 ∨ a1 = 7
            · rw [if_pos hc] at hf
              refine r_table_in (off := 150) (tgt := 151) O dX0_isStep_1 (by rcases hc with hc | hc | hc <;> (rw [hc]; decide)) (by rcases hc with hc | hc | hc <;> (rw [hc]; decide)) (by rcases hc with hc | hc | hc <;> (rw [hc]; rfl)) (by decide) ?_
              refine r_iload_n O 0 dX0_isStep_151 rfl ?_
              obtain ⟨x14, hg, hf⟩ := bnd hf
              have hJ : AW p l e { frames := 1, cells := 0, slots := 0, locals := 20 } s m args below meth c G 3 (vx_MQ below (QcN G (.ok (some (.int r))) h) (XcN G (.ok (some (.int r))) h) args s 0 0 (gA G)) h 0 0 167 [] [.int x14] := by
                obtain ⟨x17, ex17, hf⟩ := bnd hf
                refine r_nmI (bz_eq ex17) ?_
                obtain rfl := Option.some.inj hf
                exact r_zret O hr (bz_or ex17) rfl rfl (by decide) (by decide) dX0_isStep_167
              clear hf
              have hf := hg
              clear hg
              by_cases hc : a0 = 0
              · rw [if_pos hc] at hf
                refine r_if_eq_t (tgt := 166) O dX0_isStep_152 (by decide) hc ?_
                refine r_iconst O (v := 0) dX0_isStep_166 (by decide) ?_
                obtain rfl := oi1 hf
                refine AW.sub [] rfl ?_
                exact hJ
              · rw [if_neg hc] at hf
                refine r_if_eq_f (tgt := 166) O dX0_isStep_152 (by decide) hc ?_
                refine r_iload_n O 2 dX0_isStep_155 rfl ?_
                obtain ⟨x15, ex15, hf⟩ := bnd hf
                refine r_callSN (av := [.int a2]) (st := []) O (c_X8_isThingKind ex15) mf_X8_isThingKind mn_X0_41 ms_X8_isThingKind (by decide) (Nat.le_of_ble_eq_true rfl) (by decide) dX0_isStep_156 ?_
                by_cases hc : x15 = 0
                · rw [if_pos hc] at hf
                  refine r_if_eq_t (tgt := 166) O dX0_isStep_159 (by decide) hc ?_
                  refine r_iconst O (v := 0) dX0_isStep_166 (by decide) ?_
                  obtain rfl := oi1 hf
                  refine AW.sub [] rfl ?_
                  exact hJ
                · rw [if_neg hc] at hf
                  refine r_if_eq_f (tgt := 166) O dX0_isStep_159 (by decide) hc ?_
                  refine r_iconst O (v := 1) dX0_isStep_162 (by decide) ?_
                  refine r_goto (tgt := 167) O dX0_isStep_163 (by decide) ?_
                  obtain rfl := oi1 hf
                  refine AW.sub [] rfl ?_
                  exact hJ
            · rw [if_neg hc] at hf
              have hn151 := hc
              by_cases hc : a1 = 8
              · rw [if_pos hc] at hf
                refine r_table_in (off := 167) (tgt := 168) O dX0_isStep_1 (by (rw [hc]; decide)) (by (rw [hc]; decide)) (by (rw [hc]; rfl)) (by decide) ?_
                refine r_iload_n O 0 dX0_isStep_168 rfl ?_
                obtain ⟨x18, hg, hf⟩ := bnd hf
                have hJ : AW p l e { frames := 1, cells := 0, slots := 0, locals := 20 } s m args below meth c G 3 (vx_MQ below (QcN G (.ok (some (.int r))) h) (XcN G (.ok (some (.int r))) h) args s 0 0 (gA G)) h 0 0 184 [] [.int x18] := by
                  obtain ⟨x21, ex21, hf⟩ := bnd hf
                  refine r_nmI (bz_eq ex21) ?_
                  obtain rfl := Option.some.inj hf
                  exact r_zret O hr (bz_or ex21) rfl rfl (by decide) (by decide) dX0_isStep_184
                clear hf
                have hf := hg
                clear hg
                by_cases hc : a0 = 0
                · rw [if_pos hc] at hf
                  refine r_if_eq_t (tgt := 183) O dX0_isStep_169 (by decide) hc ?_
                  refine r_iconst O (v := 0) dX0_isStep_183 (by decide) ?_
                  obtain rfl := oi1 hf
                  refine AW.sub [] rfl ?_
                  exact hJ
                · rw [if_neg hc] at hf
                  refine r_if_eq_f (tgt := 183) O dX0_isStep_169 (by decide) hc ?_
                  refine r_iload_n O 2 dX0_isStep_172 rfl ?_
                  obtain ⟨x19, ex19, hf⟩ := bnd hf
                  refine r_callSN (av := [.int a2]) (st := []) O (c_X8_isListKind ex19) mf_X8_isListKind mn_X0_55 ms_X8_isListKind (by decide) (Nat.le_of_ble_eq_true rfl) (by decide) dX0_isStep_173 ?_
                  by_cases hc : x19 = 0
                  · rw [if_pos hc] at hf
                    refine r_if_eq_t (tgt := 183) O dX0_isStep_176 (by decide) hc ?_
                    refine r_iconst O (v := 0) dX0_isStep_183 (by decide) ?_
                    obtain rfl := oi1 hf
                    refine AW.sub [] rfl ?_
                    exact hJ
                  · rw [if_neg hc] at hf
                    refine r_if_eq_f (tgt := 183) O dX0_isStep_176 (by decide) hc ?_
                    refine r_iconst O (v := 1) dX0_isStep_179 (by decide) ?_
                    refine r_goto (tgt := 184) O dX0_isStep_180 (by decide) ?_
                    obtain rfl := oi1 hf
                    refine AW.sub [] rfl ?_
                    exact hJ
              · rw [if_neg hc] at hf
                have hn168 := hc
                by_cases hc : a1 = 9 ∨ a1 = 10 ∨ a1 = 11 ∨ a1 = 12 ∨ a1 = 13
                · rw [if_pos hc] at hf
                  refine r_table_in (off := 184) (tgt := 185) O dX0_isStep_1 (by rcases hc with hc | hc | hc | hc | hc <;> (rw [hc]; decide)) (by rcases hc with hc | hc | hc | hc | hc <;> (rw [hc]; decide)) (by rcases hc with hc | hc | hc | hc | hc <;> (rw [hc]; rfl)) (by decide) ?_
                  refine r_iload_n O 0 dX0_isStep_185 rfl ?_
                  obtain ⟨x22, hg, hf⟩ := bnd hf
                  have hJ : AW p l e { frames := 1, cells := 0, slots := 0, locals := 20 } s m args below meth c G 3 (vx_MQ below (QcN G (.ok (some (.int r))) h) (XcN G (.ok (some (.int r))) h) args s 0 0 (gA G)) h 0 0 201 [] [.int x22] := by
                    obtain ⟨x25, ex25, hf⟩ := bnd hf
                    refine r_nmI (bz_eq ex25) ?_
                    obtain rfl := Option.some.inj hf
                    exact r_zret O hr (bz_or ex25) rfl rfl (by decide) (by decide) dX0_isStep_201
                  clear hf
                  have hf := hg
                  clear hg
                  by_cases hc : a0 = 0
                  · rw [if_pos hc] at hf
                    refine r_if_ne_f (tgt := 200) O dX0_isStep_186 (by decide) hc ?_
                    refine r_iload_n O 2 dX0_isStep_189 rfl ?_
                    obtain ⟨x23, ex23, hf⟩ := bnd hf
                    refine r_callSN (av := [.int a2]) (st := []) O (c_X8_isThingKind ex23) mf_X8_isThingKind mn_X0_41 ms_X8_isThingKind (by decide) (Nat.le_of_ble_eq_true rfl) (by decide) dX0_isStep_190 ?_
                    by_cases hc : x23 = 0
                    · rw [if_pos hc] at hf
                      refine r_if_eq_t (tgt := 200) O dX0_isStep_193 (by decide) hc ?_
                      refine r_iconst O (v := 0) dX0_isStep_200 (by decide) ?_
                      obtain rfl := oi1 hf
                      refine AW.sub [] rfl ?_
                      exact hJ
                    · rw [if_neg hc] at hf
                      refine r_if_eq_f (tgt := 200) O dX0_isStep_193 (by decide) hc ?_
                      refine r_iconst O (v := 1) dX0_isStep_196 (by decide) ?_
                      refine r_goto (tgt := 201) O dX0_isStep_197 (by decide) ?_
                      obtain rfl := oi1 hf
                      refine AW.sub [] rfl ?_
                      exact hJ
                  · rw [if_neg hc] at hf
                    refine r_if_ne_t (tgt := 200) O dX0_isStep_186 (by decide) hc ?_
                    refine r_iconst O (v := 0) dX0_isStep_200 (by decide) ?_
                    obtain rfl := oi1 hf
                    refine AW.sub [] rfl ?_
                    exact hJ
                · rw [if_neg hc] at hf
                  have hn185 := hc
                  have hout := tb_out (x := a1) 0 14 (fun j hj => by
                    rcases (show j = 0 ∨ j = 1 ∨ j = 2 ∨ j = 3 ∨ j = 4 ∨ j = 5 ∨ j = 6 ∨ j = 7 ∨ j = 8 ∨ j = 9 ∨ j = 10 ∨ j = 11 ∨ j = 12 ∨ j = 13 by omega) with rfl | rfl | rfl | rfl | rfl | rfl | rfl | rfl | rfl | rfl | rfl | rfl | rfl | rfl
                    · exact fun q => hn72 (q.trans (by decide))
                    · exact fun q => hn74 (q.trans (by decide))
                    · exact fun q => hn97 (q.trans (by decide))
                    · exact fun q => hn116 (q.trans (by decide))
                    · exact fun q => hn135 (q.trans (by decide))
                    · exact fun q => hn151 (Or.inl (q.trans (by decide)))
                    · exact fun q => hn151 (Or.inr (Or.inl (q.trans (by decide))))
                    · exact fun q => hn151 (Or.inr (Or.inr (q.trans (by decide))))
                    · exact fun q => hn168 (q.trans (by decide))
                    · exact fun q => hn185 (Or.inl (q.trans (by decide)))
                    · exact fun q => hn185 (Or.inr (Or.inl (q.trans (by decide))))
                    · exact fun q => hn185 (Or.inr (Or.inr (Or.inl (q.trans (by decide)))))
                    · exact fun q => hn185 (Or.inr (Or.inr (Or.inr (Or.inl (q.trans (by decide))))))
                    · exact fun q => hn185 (Or.inr (Or.inr (Or.inr (Or.inr (q.trans (by decide)))))))
                  refine r_table_out (tgt := 202) O dX0_isStep_1 hout (by decide) ?_
                  refine r_iload_n O 1 dX0_isStep_202 rfl ?_
                  refine r_bipush O (v := 14) dX0_isStep_203 (by decide) ?_
                  obtain ⟨x26, hg, hf⟩ := bnd hf
                  have hJ : AW p l e { frames := 1, cells := 0, slots := 0, locals := 20 } s m args below meth c G 3 (vx_MQ below (QcN G (.ok (some (.int r))) h) (XcN G (.ok (some (.int r))) h) args s 0 0 (gA G)) h 0 0 219 [] [.int x26] := by
                    obtain ⟨x27, ex27, hf⟩ := bnd hf
                    refine r_nmI (bz_eq ex27) ?_
                    obtain rfl := Option.some.inj hf
                    exact r_zret O hr (bz_or ex27) rfl rfl (by decide) (by decide) dX0_isStep_219
                  clear hf
                  have hf := hg
                  clear hg
                  by_cases hc : a1 < 14
                  · rw [if_pos hc] at hf
                    refine r_icmp_lt_t (tgt := 218) O dX0_isStep_205 (by decide) hc ?_
                    refine r_iconst O (v := 0) dX0_isStep_218 (by decide) ?_
                    obtain rfl := oi1 hf
                    refine AW.sub [] rfl ?_
                    exact hJ
                  · rw [if_neg hc] at hf
                    refine r_icmp_lt_f (tgt := 218) O dX0_isStep_205 (by decide) hc ?_
                    refine r_iload_n O 1 dX0_isStep_208 rfl ?_
                    refine r_bipush O (v := 24) dX0_isStep_209 (by decide) ?_
                    by_cases hc : 24 < a1
                    · rw [if_pos hc] at hf
                      refine r_icmp_gt_t (tgt := 218) O dX0_isStep_211 (by decide) hc ?_
                      refine r_iconst O (v := 0) dX0_isStep_218 (by decide) ?_
                      obtain rfl := oi1 hf
                      refine AW.sub [] rfl ?_
                      exact hJ
                    · rw [if_neg hc] at hf
                      refine r_icmp_gt_f (tgt := 218) O dX0_isStep_211 (by decide) hc ?_
                      refine r_iconst O (v := 1) dX0_isStep_214 (by decide) ?_
                      refine r_goto (tgt := 219) O dX0_isStep_215 (by decide) ?_
                      obtain rfl := oi1 hf
                      refine AW.sub [] rfl ?_
                      exact hJ
def f_X0_faultFor_4 (l0 : Nat) (l1 : Int32) (n : Nat) (h : AH) (l2 : Int32) (l3 : Int32) : Option (Int32 ⊕ Int32) := match n with
| 0 => none
| n + 1 =>
Option.bind (gI h 0 l0 5) fun x1 =>
if x1 ≤ l3 then
some (.inr l2)
else
Option.bind (gP h 0 l0 3) fun x2 =>
Option.bind (ldI h x2 l3) fun x3 =>
Option.bind (f_X8_isThingKind h l1) fun x4 =>
Option.bind (gP h 0 l0 4) fun x6 =>
Option.bind (ldI h x6 l3) fun x7 =>
Option.bind (f_X0_isStep h x4 x3 x7) fun x8 =>
if x8 = 0 then
some (.inl ((-1) - l3))
else
Option.bind (tkI x3) fun x10 =>
if x10 ≤ l2 then
Option.bind (gvI x3) fun x11 =>
Option.bind (tkI x3) fun x12 =>
if (l2 + (x11 - x12)) ≤ 8 then
f_X0_faultFor_4 l0 l1 n h (l2 + (x11 - x12)) (l3 + 1)
else
some (.inl ((-1) - l3))
else
some (.inl ((-1) - l3))
def f_X0_faultFor (h : AH) (a0 : Nat) (a1 : Int32) : Option Int32 :=
if aK h a0 = 0 then
Option.bind (f_X0_faultFor_4 a0 a1 FU h 0 0) fun w => match w with
| .inl r9 => some r9
| .inr x13 =>
Option.bind (if x13 = 1 then
some (0 : Int32)
else
Option.bind (gI h 0 a0 5) fun x15 =>
some ((-1) - x15)) fun x14 =>
some x14
else none
set_option maxRecDepth 100000 in
set_option maxHeartbeats 4000000 in
theorem s_X0_faultFor_4 {p : Program} {l : Launch} {e : Env} {s : State} {m : MethodId} {args : Array Value} {below : List Frame} {meth : Method} {c : Code} {G : GT} {o : Except Nat (Option Value)} {h9 : AH} (O : OkC p l s m args meth c G cX0_faultFor 5 RX0) (hr : meth.sig.returnType = (some .int)) {l0 : Nat} {l1 : Int32} {h : AH} {w : (Int32 ⊕ Int32)} (he : ∀ r, w = .inl r → o = (.ok (some (.int r))) ∧ h9 = h) (kk : ∀ (w2 : Int32), w = .inr w2 → AW p l e { frames := 2, cells := 0, slots := 0, locals := 42 } s m args below meth c G 5 (vx_MQ below (QcN G o h9) (XcN G o h9) args s 0 0 (gA G)) h 0 0 84 [(0, .ref l0), (2, .int w2)] []) : ∀ (n : Nat), ∀ (l2 : Int32) (l3 : Int32), f_X0_faultFor_4 l0 l1 n h l2 l3 = some w → AW p l e { frames := 2, cells := 0, slots := 0, locals := 42 } s m args below meth c G 5 (vx_MQ below (QcN G o h9) (XcN G o h9) args s 0 0 (gA G)) h 0 0 4 [(0, .ref l0), (1, .int l1), (2, .int l2), (3, .int l3)] [] := by
  intro n
  induction n with
  | zero =>
    intro l2 l3 hf
    simp [f_X0_faultFor_4] at hf
  | succ n ih =>
    intro l2 l3 hf
    unfold f_X0_faultFor_4 at hf
    refine r_iload_n O 3 dX0_faultFor_4 rfl ?_
    refine r_aload_n O 0 dX0_faultFor_5 rfl (Or.inl rfl) ?_
    obtain ⟨x1, ex1, hf⟩ := bnd hf
    refine r_gI O cf0 5 (by decide) rfl fl_X0_27 ex1 dX0_faultFor_6 ?_
    by_cases hc : x1 ≤ l3
    · rw [if_pos hc] at hf
      refine r_icmp_ge_t (tgt := 84) O dX0_faultFor_9 (by decide) hc ?_
      obtain rfl := Option.some.inj hf
      refine AW.sub [0, 2] rfl ?_
      exact kk _ rfl
    · rw [if_neg hc] at hf
      refine r_icmp_ge_f (tgt := 84) O dX0_faultFor_9 (by decide) hc ?_
      refine r_aload_n O 0 dX0_faultFor_12 rfl (Or.inl rfl) ?_
      obtain ⟨x2, ex2, hf⟩ := bnd hf
      refine r_gP O cf0 3 (by decide) rfl fl_X0_21 ex2 dX0_faultFor_13 ?_
      refine r_iload_n O 3 dX0_faultFor_16 rfl ?_
      obtain ⟨x3, ex3, hf⟩ := bnd hf
      refine r_ldI O ex3 dX0_faultFor_17 ?_
      refine r_istore O [(4, .int x3), (0, .ref l0), (1, .int l1), (2, .int l2), (3, .int l3)] dX0_faultFor_18 (by decide) rfl ?_
      refine r_iload_n O 2 dX0_faultFor_20 rfl ?_
      obtain ⟨x4, ex4, hf⟩ := bnd hf
      refine r_callSN (av := [.int l1]) (st := []) O (c_X8_isThingKind ex4) mf_X8_isThingKind mn_X0_41 ms_X8_isThingKind (by decide) (Nat.le_of_ble_eq_true rfl) (by decide) dX0_faultFor_21 ?_
      refine r_iload O 0 dX0_faultFor_24 rfl ?_
      refine r_aload_n O 1 dX0_faultFor_26 rfl (Or.inl rfl) ?_
      obtain ⟨x6, ex6, hf⟩ := bnd hf
      refine r_gP O cf0 4 (by decide) rfl fl_X0_24 ex6 dX0_faultFor_27 ?_
      refine r_iload_n O 4 dX0_faultFor_30 rfl ?_
      obtain ⟨x7, ex7, hf⟩ := bnd hf
      refine r_ldI O ex7 dX0_faultFor_31 ?_
      obtain ⟨x8, ex8, hf⟩ := bnd hf
      refine r_callS (av := [.int x4, .int x3, .int x7]) (st := []) O (c_X0_isStep ex8) mf_X0_isStep ml_X0_45 ms_X0_isStep (by decide) (Nat.le_of_ble_eq_true rfl) (by decide) dX0_faultFor_32 ?_
      by_cases hc : x8 = 0
      · rw [if_pos hc] at hf
        refine r_if_eq_t (tgt := 48) O dX0_faultFor_35 (by decide) hc ?_
        refine r_iconst O (v := -1) dX0_faultFor_48 (by decide) ?_
        refine r_iload_n O 4 dX0_faultFor_49 rfl ?_
        refine r_isub O dX0_faultFor_50 ?_
        obtain rfl := Option.some.inj hf
        obtain ⟨ho, hh⟩ := he _ rfl
        exact r_iret O hr ho hh.symm (by decide) (by decide) dX0_faultFor_51
      · rw [if_neg hc] at hf
        refine r_if_eq_f (tgt := 48) O dX0_faultFor_35 (by decide) hc ?_
        refine r_iload_n O 3 dX0_faultFor_38 rfl ?_
        refine r_gs1N O fn_X0_49 dX0_faultFor_39 ?_
        refine r_iload O 0 dX0_faultFor_42 rfl ?_
        obtain ⟨x10, ex10, hf⟩ := bnd hf
        refine r_tkI O ex10 dX0_faultFor_44 ?_
        by_cases hc : x10 ≤ l2
        · rw [if_pos hc] at hf
          refine r_icmp_ge_t (tgt := 52) O dX0_faultFor_45 (by decide) hc ?_
          refine r_iload_n O 3 dX0_faultFor_52 rfl ?_
          refine r_gs2N O fn_X0_52 dX0_faultFor_53 ?_
          refine r_iload O 0 dX0_faultFor_56 rfl ?_
          obtain ⟨x11, ex11, hf⟩ := bnd hf
          refine r_gvI O ex11 dX0_faultFor_58 ?_
          refine r_gs1N O fn_X0_49 dX0_faultFor_59 ?_
          refine r_iload O 0 dX0_faultFor_62 rfl ?_
          obtain ⟨x12, ex12, hf⟩ := bnd hf
          refine r_tkI O ex12 dX0_faultFor_64 ?_
          refine r_isub O dX0_faultFor_65 ?_
          refine r_iadd O dX0_faultFor_66 ?_
          refine r_istore_n O [(2, .int (l2 + (x11 - x12))), (4, .int x3), (0, .ref l0), (1, .int l1), (3, .int l3)] dX0_faultFor_67 (by decide) rfl ?_
          refine r_iload_n O 0 dX0_faultFor_68 rfl ?_
          refine r_bipush O (v := 8) dX0_faultFor_69 (by decide) ?_
          by_cases hc : (l2 + (x11 - x12)) ≤ 8
          · rw [if_pos hc] at hf
            refine r_icmp_le_t (tgt := 78) O dX0_faultFor_71 (by decide) hc ?_
            refine r_iinc O 4 [(3, .int (l3 + 1)), (2, .int (l2 + (x11 - x12))), (4, .int x3), (0, .ref l0), (1, .int l1)] dX0_faultFor_78 rfl rfl (by decide) rfl ?_
            refine r_goto (tgt := 4) O dX0_faultFor_81 (by decide) ?_
            refine AW.sub [3, 4, 1, 0] rfl ?_
            exact ih _ _ hf
          · rw [if_neg hc] at hf
            refine r_icmp_le_f (tgt := 78) O dX0_faultFor_71 (by decide) hc ?_
            refine r_iconst O (v := -1) dX0_faultFor_74 (by decide) ?_
            refine r_iload_n O 4 dX0_faultFor_75 rfl ?_
            refine r_isub O dX0_faultFor_76 ?_
            obtain rfl := Option.some.inj hf
            obtain ⟨ho, hh⟩ := he _ rfl
            exact r_iret O hr ho hh.symm (by decide) (by decide) dX0_faultFor_77
        · rw [if_neg hc] at hf
          refine r_icmp_ge_f (tgt := 52) O dX0_faultFor_45 (by decide) hc ?_
          refine r_iconst O (v := -1) dX0_faultFor_48 (by decide) ?_
          refine r_iload_n O 4 dX0_faultFor_49 rfl ?_
          refine r_isub O dX0_faultFor_50 ?_
          obtain rfl := Option.some.inj hf
          obtain ⟨ho, hh⟩ := he _ rfl
          exact r_iret O hr ho hh.symm (by decide) (by decide) dX0_faultFor_51
theorem kd_X0_faultFor {h : AH} {a0 : Nat} {a1 : Int32} {r : Int32} (hf : f_X0_faultFor h a0 a1 = some r) : aK h a0 = 0 := by
  unfold f_X0_faultFor at hf
  exact (ifk hf).1
set_option maxRecDepth 100000 in
set_option maxHeartbeats 4000000 in
theorem c_X0_faultFor {l : Launch} {G : GT} {h : AH} {a0 : Nat} {a1 : Int32} {r : Int32} (hf : f_X0_faultFor h a0 a1 = some r) : Cn l yX0_faultFor cX0_faultFor 5 (some .int) 2 42 0 0 G h [.ref a0, .int a1] (.ok (some (.int r))) h := by
  refine Cn.of (by decide) (Nat.le_of_ble_eq_true rfl) ?_
  intro p e s m args below meth c O hr hx hin
  have O : OkC p l s m args meth c G cX0_faultFor 5 RX0 := O
  unfold f_X0_faultFor at hf
  obtain ⟨hk0, hf⟩ := ifk hf
  refine AW.sub (lv' := [(0, .ref a0), (1, .int a1)]) [0, 1] rfl ?_
  refine r_iconst O (v := 0) dX0_faultFor_0 (by decide) ?_
  refine r_istore_n O [(2, .int 0), (0, .ref a0), (1, .int a1)] dX0_faultFor_1 (by decide) rfl ?_
  refine r_iconst O (v := 0) dX0_faultFor_2 (by decide) ?_
  refine r_istore_n O [(3, .int 0), (2, .int 0), (0, .ref a0), (1, .int a1)] dX0_faultFor_3 (by decide) rfl ?_
  obtain ⟨w9, hw, hf⟩ := bnd hf
  refine AW.sub [2, 3, 1, 0] rfl ?_
  refine s_X0_faultFor_4 O hr (w := w9) ?_ ?_ _ _ _ hw
  · intro r9 hr9
    subst hr9
    dsimp only at hf
    obtain rfl := Option.some.inj hf
    exact ⟨rfl, rfl⟩
  · intro x13 hw9
    subst hw9
    dsimp only at hf
    refine r_iload_n O 1 dX0_faultFor_84 rfl ?_
    refine r_iconst O (v := 1) dX0_faultFor_85 (by decide) ?_
    obtain ⟨x14, hg, hf⟩ := bnd hf
    have hJ : AW p l e { frames := 2, cells := 0, slots := 0, locals := 42 } s m args below meth c G 5 (vx_MQ below (QcN G (.ok (some (.int r))) h) (XcN G (.ok (some (.int r))) h) args s 0 0 (gA G)) h 0 0 99 [] [.int x14] := by
      obtain rfl := Option.some.inj hf
      exact r_iret O hr rfl rfl (by decide) (by decide) dX0_faultFor_99
    clear hf
    have hf := hg
    clear hg
    by_cases hc : x13 = 1
    · rw [if_pos hc] at hf
      refine r_icmp_ne_f (tgt := 93) O dX0_faultFor_86 (by decide) hc ?_
      refine r_iconst O (v := 0) dX0_faultFor_89 (by decide) ?_
      refine r_goto (tgt := 99) O dX0_faultFor_90 (by decide) ?_
      obtain rfl := oi1 hf
      refine AW.sub [] rfl ?_
      exact hJ
    · rw [if_neg hc] at hf
      refine r_icmp_ne_t (tgt := 93) O dX0_faultFor_86 (by decide) hc ?_
      refine r_iconst O (v := -1) dX0_faultFor_93 (by decide) ?_
      refine r_aload_n O 0 dX0_faultFor_94 rfl (Or.inl rfl) ?_
      obtain ⟨x15, ex15, hf⟩ := bnd hf
      refine r_gI O cf0 5 (by decide) rfl fl_X0_27 ex15 dX0_faultFor_95 ?_
      refine r_isub O dX0_faultFor_98 ?_
      obtain rfl := oi1 hf
      refine AW.sub [] rfl ?_
      exact hJ
def f_X0_makeMaker (h : AH) (a0 : Nat) (a1 : Int32) : Option (Int32 × AH) :=
if aK h a0 = 0 then
Option.bind (f_X0_faultFor h a0 a1) fun x1 =>
Option.bind (if x1 = 0 then
Option.bind (gP h 0 a0 3) fun x4 =>
Option.bind (gP h 0 a0 0) fun x5 =>
Option.bind (gI h 0 a0 5) fun x6 =>
Option.bind (cpI h x4 0 x5 (24 * a1) x6) fun h7 =>
Option.bind (gP h7 0 a0 4) fun x8 =>
Option.bind (gP h7 0 a0 1) fun x9 =>
Option.bind (gI h7 0 a0 5) fun x10 =>
Option.bind (cpI h7 x8 0 x9 (24 * a1) x10) fun h11 =>
Option.bind (gP h11 0 a0 2) fun x12 =>
Option.bind (gI h11 0 a0 5) fun x13 =>
Option.bind (stI h11 x12 a1 x13) fun h14 =>
some h14
else
some h) fun h3 =>
Option.bind (pI h3 0 a0 5 0) fun h15 =>
some (x1, h15)
else none
theorem kd_X0_makeMaker {h : AH} {a0 : Nat} {a1 : Int32} {r : (Int32 × AH)} (hf : f_X0_makeMaker h a0 a1 = some r) : aK h a0 = 0 := by
  unfold f_X0_makeMaker at hf
  exact (ifk hf).1
set_option maxRecDepth 100000 in
set_option maxHeartbeats 4000000 in
theorem c_X0_makeMaker {l : Launch} {G : GT} {h : AH} {a0 : Nat} {a1 : Int32} {r : (Int32 × AH)} (hf : f_X0_makeMaker h a0 a1 = some r) : Cn l yX0_makeMaker cX0_makeMaker 3 (some .int) 3 66 0 0 G h [.ref a0, .int a1] (.ok (some (.int r.1))) r.2 := by
  refine Cn.of (by decide) (Nat.le_of_ble_eq_true rfl) ?_
  intro p e s m args below meth c O hr hx hin
  have O : OkC p l s m args meth c G cX0_makeMaker 3 RX0 := O
  unfold f_X0_makeMaker at hf
  obtain ⟨hk0, hf⟩ := ifk hf
  refine AW.sub (lv' := [(0, .ref a0), (1, .int a1)]) [0, 1] rfl ?_
  refine r_aload_n O 0 dX0_makeMaker_0 rfl (Or.inl rfl) ?_
  refine r_iload_n O 1 dX0_makeMaker_1 rfl ?_
  obtain ⟨x1, ex1, hf⟩ := bnd hf
  refine r_callV (av := [.int a1]) (st := []) O (c_X0_faultFor ex1) mf_X0_faultFor cf0 (kd_X0_faultFor ex1) ml_X0_31 mi_X0_faultFor mv_X0_faultFor (by decide) (Nat.le_of_ble_eq_true rfl) (by decide) dX0_makeMaker_2 ?_
  refine r_istore_n O [(2, .int x1), (0, .ref a0), (1, .int a1)] dX0_makeMaker_5 (by decide) rfl ?_
  refine r_iload_n O 0 dX0_makeMaker_6 rfl ?_
  obtain ⟨h3, hg, hf⟩ := bnd hf
  have hJ : AW p l e { frames := 3, cells := 0, slots := 0, locals := 66 } s m args below meth c G 3 (vx_MQ below (QcN G (.ok (some (.int r.1))) r.2) (XcN G (.ok (some (.int r.1))) r.2) args s 0 0 (gA G)) h3 0 0 60 [(0, .ref a0), (2, .int x1)] [] := by
    refine r_aload_n O 0 dX0_makeMaker_60 rfl (Or.inl rfl) ?_
    refine r_iconst O (v := 0) dX0_makeMaker_61 (by decide) ?_
    obtain ⟨h15, eh15, hf⟩ := bnd hf
    refine r_pI O cf0 5 (by decide) rfl fl_X0_27 rfl eh15 dX0_makeMaker_62 ?_
    refine r_iload_n O 1 dX0_makeMaker_65 rfl ?_
    obtain rfl := Option.some.inj hf
    exact r_iret O hr rfl rfl (by decide) (by decide) dX0_makeMaker_66
  clear hf
  have hf := hg
  clear hg
  by_cases hc : x1 = 0
  · rw [if_pos hc] at hf
    refine r_if_ne_f (tgt := 60) O dX0_makeMaker_7 (by decide) hc ?_
    refine r_aload_n O 1 dX0_makeMaker_10 rfl (Or.inl rfl) ?_
    obtain ⟨x4, ex4, hf⟩ := bnd hf
    refine r_gP O cf0 3 (by decide) rfl fl_X0_21 ex4 dX0_makeMaker_11 ?_
    refine r_iconst O (v := 0) dX0_makeMaker_14 (by decide) ?_
    refine r_aload_n O 1 dX0_makeMaker_15 rfl (Or.inl rfl) ?_
    obtain ⟨x5, ex5, hf⟩ := bnd hf
    refine r_gP O cf0 0 (by decide) rfl fl_X0_9 ex5 dX0_makeMaker_16 ?_
    refine r_bipush O (v := 24) dX0_makeMaker_19 (by decide) ?_
    refine r_iload_n O 2 dX0_makeMaker_21 rfl ?_
    refine r_imul O dX0_makeMaker_22 ?_
    refine r_aload_n O 1 dX0_makeMaker_23 rfl (Or.inl rfl) ?_
    obtain ⟨x6, ex6, hf⟩ := bnd hf
    refine r_gI O cf0 5 (by decide) rfl fl_X0_27 ex6 dX0_makeMaker_24 ?_
    obtain ⟨h7, eh7, hf⟩ := bnd hf
    refine r_cpI O eh7 ml_X0_35 (by decide) (Nat.le_of_ble_eq_true rfl) dX0_makeMaker_27 ?_
    refine r_aload_n O 1 dX0_makeMaker_30 rfl (Or.inl rfl) ?_
    obtain ⟨x8, ex8, hf⟩ := bnd hf
    refine r_gP O cf0 4 (by decide) rfl fl_X0_24 ex8 dX0_makeMaker_31 ?_
    refine r_iconst O (v := 0) dX0_makeMaker_34 (by decide) ?_
    refine r_aload_n O 1 dX0_makeMaker_35 rfl (Or.inl rfl) ?_
    obtain ⟨x9, ex9, hf⟩ := bnd hf
    refine r_gP O cf0 1 (by decide) rfl fl_X0_15 ex9 dX0_makeMaker_36 ?_
    refine r_bipush O (v := 24) dX0_makeMaker_39 (by decide) ?_
    refine r_iload_n O 2 dX0_makeMaker_41 rfl ?_
    refine r_imul O dX0_makeMaker_42 ?_
    refine r_aload_n O 1 dX0_makeMaker_43 rfl (Or.inl rfl) ?_
    obtain ⟨x10, ex10, hf⟩ := bnd hf
    refine r_gI O cf0 5 (by decide) rfl fl_X0_27 ex10 dX0_makeMaker_44 ?_
    obtain ⟨h11, eh11, hf⟩ := bnd hf
    refine r_cpI O eh11 ml_X0_35 (by decide) (Nat.le_of_ble_eq_true rfl) dX0_makeMaker_47 ?_
    refine r_aload_n O 1 dX0_makeMaker_50 rfl (Or.inl rfl) ?_
    obtain ⟨x12, ex12, hf⟩ := bnd hf
    refine r_gP O cf0 2 (by decide) rfl fl_X0_18 ex12 dX0_makeMaker_51 ?_
    refine r_iload_n O 2 dX0_makeMaker_54 rfl ?_
    refine r_aload_n O 1 dX0_makeMaker_55 rfl (Or.inl rfl) ?_
    obtain ⟨x13, ex13, hf⟩ := bnd hf
    refine r_gI O cf0 5 (by decide) rfl fl_X0_27 ex13 dX0_makeMaker_56 ?_
    obtain ⟨h14, eh14, hf⟩ := bnd hf
    refine r_stI O eh14 dX0_makeMaker_59 ?_
    obtain rfl := oi1 hf
    refine AW.sub [1, 0] rfl ?_
    exact hJ
  · rw [if_neg hc] at hf
    refine r_if_ne_t (tgt := 60) O dX0_makeMaker_7 (by decide) hc ?_
    obtain rfl := oi1 hf
    refine AW.sub [1, 0] rfl ?_
    exact hJ
def f_X8_maker (h : AH) (a0 : Nat) (a1 : Int32) : Option (Except Nat Int32 × AH) :=
if aK h a0 = 8 then
Option.bind (f_X8_needOpenBook h a0) fun w => match w with
| (.error k9, h2) => some (.error k9, h2)
| (.ok x1, h2) =>
Option.bind (if a1 < 0 then
some (0 : Int32)
else
if 9 ≤ a1 then
some (0 : Int32)
else
some (1 : Int32)) fun x3 =>
Option.bind (f_X8_need h2 x3) fun w => match w with
| (.error k9, h5) => some (.error k9, h5)
| (.ok x4, h5) =>
Option.bind (gP h5 8 a0 0) fun x6 =>
Option.bind (f_X0_makeMaker h5 x6 a1) fun w => match w with
| (x7, h8) =>
some (.ok x7, h8)
else none
theorem kd_X8_maker {h : AH} {a0 : Nat} {a1 : Int32} {r : (Except Nat Int32 × AH)} (hf : f_X8_maker h a0 a1 = some r) : aK h a0 = 8 := by
  unfold f_X8_maker at hf
  exact (ifk hf).1
set_option maxRecDepth 100000 in
set_option maxHeartbeats 4000000 in
theorem c_X8_maker {l : Launch} {G : GT} {h : AH} {a0 : Nat} {a1 : Int32} {r : (Except Nat Int32 × AH)} (hf : f_X8_maker h a0 a1 = some r) : Cn l yX8_maker cX8_maker 2 (some .int) 7 110 2 12 G h [.ref a0, .int a1] (r.1.map (fun x => some (.int x))) r.2 := by
  refine Cn.of (by decide) (Nat.le_of_ble_eq_true rfl) ?_
  intro p e s m args below meth c O hr hx hin
  have O : OkC p l s m args meth c G cX8_maker 2 RX8 := O
  unfold f_X8_maker at hf
  obtain ⟨hk0, hf⟩ := ifk hf
  refine AW.sub (lv' := [(0, .ref a0), (1, .int a1)]) [0, 1] rfl ?_
  refine r_aload_n O 0 dX8_maker_0 rfl (Or.inl rfl) ?_
  obtain ⟨⟨w, h2⟩, ex1, hf⟩ := bnd hf
  cases w with
  | error k9 =>
    dsimp only at hf
    obtain rfl := Option.some.inj hf
    exact r_thrV (av := []) (st := []) O hx (c_X8_needOpenBook ex1) mf_X8_needOpenBook cf8 (kd_X8_needOpenBook ex1) ml_X8_56 mi_X8_needOpenBook mv_X8_needOpenBook (by decide) (Nat.le_of_ble_eq_true rfl) (by decide) (by decide) (by decide) dX8_maker_1
  | ok x1 =>
    dsimp only at hf
    refine r_callV (av := []) (st := []) O (c_X8_needOpenBook ex1) mf_X8_needOpenBook cf8 (kd_X8_needOpenBook ex1) ml_X8_56 mi_X8_needOpenBook mv_X8_needOpenBook (by decide) (Nat.le_of_ble_eq_true rfl) (by decide) dX8_maker_1 ?_
    refine r_iload_n O 1 dX8_maker_4 rfl ?_
    obtain ⟨x3, hg, hf⟩ := bnd hf
    have hJ : AW p l e { frames := 7, cells := 2, slots := 12, locals := 110 } s m args below meth c G 2 (vx_MQ below (QcN G (r.1.map (fun x => some (.int x))) r.2) (XcN G (r.1.map (fun x => some (.int x))) r.2) args s 2 12 (gA G)) h2 1 6 19 [(0, .ref a0), (1, .int a1)] [.int x3] := by
      obtain ⟨⟨w, h5⟩, ex4, hf⟩ := bnd hf
      cases w with
      | error k9 =>
        dsimp only at hf
        obtain rfl := Option.some.inj hf
        exact r_thrS (av := [.int x3]) (st := []) O hx (c_X8_need ex4) mf_X8_need ml_X8_92 ms_X8_need (by decide) (Nat.le_of_ble_eq_true rfl) (by decide) (by decide) (by decide) dX8_maker_19
      | ok x4 =>
        dsimp only at hf
        refine r_callS (av := [.int x3]) (st := []) O (c_X8_need ex4) mf_X8_need ml_X8_92 ms_X8_need (by decide) (Nat.le_of_ble_eq_true rfl) (by decide) dX8_maker_19 ?_
        refine r_aload_n O 0 dX8_maker_22 rfl (Or.inl rfl) ?_
        obtain ⟨x6, ex6, hf⟩ := bnd hf
        refine r_gP O cf8 0 (by decide) rfl fl_X8_10 ex6 dX8_maker_23 ?_
        refine r_iload_n O 1 dX8_maker_26 rfl ?_
        obtain ⟨⟨x7, h8⟩, ex7, hf⟩ := bnd hf
        dsimp only at hf
        refine r_callV (av := [.int a1]) (st := []) O (c_X0_makeMaker ex7) mf_X0_makeMaker cf0 (kd_X0_makeMaker ex7) ml_X8_96 mi_X0_makeMaker mv_X0_makeMaker (by decide) (Nat.le_of_ble_eq_true rfl) (by decide) dX8_maker_27 ?_
        obtain rfl := Option.some.inj hf
        exact r_iret O hr rfl rfl (by decide) (by decide) dX8_maker_30
    clear hf
    have hf := hg
    clear hg
    by_cases hc : a1 < 0
    · rw [if_pos hc] at hf
      refine r_if_lt_t (tgt := 18) O dX8_maker_5 (by decide) hc ?_
      refine r_iconst O (v := 0) dX8_maker_18 (by decide) ?_
      obtain rfl := oi1 hf
      refine AW.sub [0, 1] rfl ?_
      exact hJ
    · rw [if_neg hc] at hf
      refine r_if_lt_f (tgt := 18) O dX8_maker_5 (by decide) hc ?_
      refine r_iload_n O 1 dX8_maker_8 rfl ?_
      refine r_bipush O (v := 9) dX8_maker_9 (by decide) ?_
      by_cases hc : 9 ≤ a1
      · rw [if_pos hc] at hf
        refine r_icmp_ge_t (tgt := 18) O dX8_maker_11 (by decide) hc ?_
        refine r_iconst O (v := 0) dX8_maker_18 (by decide) ?_
        obtain rfl := oi1 hf
        refine AW.sub [0, 1] rfl ?_
        exact hJ
      · rw [if_neg hc] at hf
        refine r_icmp_ge_f (tgt := 18) O dX8_maker_11 (by decide) hc ?_
        refine r_iconst O (v := 1) dX8_maker_14 (by decide) ?_
        refine r_goto (tgt := 19) O dX8_maker_15 (by decide) ?_
        obtain rfl := oi1 hf
        refine AW.sub [0, 1] rfl ?_
        exact hJ
def f_X6_clear (h : AH) (a0 : Nat) : Option AH :=
if aK h a0 = 6 then
Option.bind (pI h 6 a0 1 0) fun h1 =>
some h1
else none
theorem kd_X6_clear {h : AH} {a0 : Nat} {r : AH} (hf : f_X6_clear h a0 = some r) : aK h a0 = 6 := by
  unfold f_X6_clear at hf
  exact (ifk hf).1
set_option maxRecDepth 100000 in
set_option maxHeartbeats 4000000 in
theorem c_X6_clear {l : Launch} {G : GT} {h : AH} {a0 : Nat} {r : AH} (hf : f_X6_clear h a0 = some r) : Cn l yX6_clear cX6_clear 1 none 0 0 0 0 G h [.ref a0] (.ok none) r := by
  refine Cn.of (by decide) (Nat.le_of_ble_eq_true rfl) ?_
  intro p e s m args below meth c O hr hx hin
  have O : OkC p l s m args meth c G cX6_clear 1 RX6 := O
  unfold f_X6_clear at hf
  obtain ⟨hk0, hf⟩ := ifk hf
  refine AW.sub (lv' := [(0, .ref a0)]) [0] rfl ?_
  refine r_aload_n O 0 dX6_clear_0 rfl (Or.inl rfl) ?_
  refine r_iconst O (v := 0) dX6_clear_1 (by decide) ?_
  obtain ⟨h1, eh1, hf⟩ := bnd hf
  refine r_pI O cf6 1 (by decide) rfl fl_X6_15 rfl eh1 dX6_clear_2 ?_
  obtain rfl := Option.some.inj hf
  exact r_vret O hr rfl rfl (by decide) (by decide) dX6_clear_5
def f_X1_forget (h : AH) (a0 : Nat) : Option AH :=
if aK h a0 = 1 then
Option.bind (gP h 1 a0 3) fun x1 =>
Option.bind (f_X6_clear h x1) fun h3 =>
Option.bind (gP h3 1 a0 1) fun x4 =>
Option.bind (gP h3 5 x4 10) fun x5 =>
Option.bind (f_X6_clear h3 x5) fun h7 =>
Option.bind (pI h7 1 a0 5 0) fun h8 =>
Option.bind (pI h8 1 a0 6 (-1)) fun h9 =>
Option.bind (pI h9 1 a0 7 (-1)) fun h10 =>
Option.bind (pI h10 1 a0 8 (-1)) fun h11 =>
some h11
else none
theorem kd_X1_forget {h : AH} {a0 : Nat} {r : AH} (hf : f_X1_forget h a0 = some r) : aK h a0 = 1 := by
  unfold f_X1_forget at hf
  exact (ifk hf).1
set_option maxRecDepth 100000 in
set_option maxHeartbeats 4000000 in
theorem c_X1_forget {l : Launch} {G : GT} {h : AH} {a0 : Nat} {r : AH} (hf : f_X1_forget h a0 = some r) : Cn l yX1_forget cX1_forget 1 none 1 20 0 0 G h [.ref a0] (.ok none) r := by
  refine Cn.of (by decide) (Nat.le_of_ble_eq_true rfl) ?_
  intro p e s m args below meth c O hr hx hin
  have O : OkC p l s m args meth c G cX1_forget 1 RX1 := O
  unfold f_X1_forget at hf
  obtain ⟨hk0, hf⟩ := ifk hf
  refine AW.sub (lv' := [(0, .ref a0)]) [0] rfl ?_
  refine r_aload_n O 0 dX1_forget_0 rfl (Or.inl rfl) ?_
  obtain ⟨x1, ex1, hf⟩ := bnd hf
  refine r_gP O cf1 3 (by decide) rfl fl_X1_12 ex1 dX1_forget_1 ?_
  obtain ⟨h3, eh3, hf⟩ := bnd hf
  refine r_callV (av := []) (st := []) O (c_X6_clear eh3) mf_X6_clear cf6 (kd_X6_clear eh3) ml_X1_114 mi_X6_clear mv_X6_clear (by decide) (Nat.le_of_ble_eq_true rfl) (by decide) dX1_forget_4 ?_
  refine r_aload_n O 0 dX1_forget_7 rfl (Or.inl rfl) ?_
  obtain ⟨x4, ex4, hf⟩ := bnd hf
  refine r_gP O cf1 1 (by decide) rfl fl_X1_51 ex4 dX1_forget_8 ?_
  obtain ⟨x5, ex5, hf⟩ := bnd hf
  refine r_gP O cf5 10 (by decide) rfl fl_X1_117 ex5 dX1_forget_11 ?_
  obtain ⟨h7, eh7, hf⟩ := bnd hf
  refine r_callV (av := []) (st := []) O (c_X6_clear eh7) mf_X6_clear cf6 (kd_X6_clear eh7) ml_X1_114 mi_X6_clear mv_X6_clear (by decide) (Nat.le_of_ble_eq_true rfl) (by decide) dX1_forget_14 ?_
  refine r_aload_n O 0 dX1_forget_17 rfl (Or.inl rfl) ?_
  refine r_iconst O (v := 0) dX1_forget_18 (by decide) ?_
  obtain ⟨h8, eh8, hf⟩ := bnd hf
  refine r_pI O cf1 5 (by decide) rfl fl_X1_74 rfl eh8 dX1_forget_19 ?_
  refine r_aload_n O 0 dX1_forget_22 rfl (Or.inl rfl) ?_
  refine r_iconst O (v := -1) dX1_forget_23 (by decide) ?_
  obtain ⟨h9, eh9, hf⟩ := bnd hf
  refine r_pI O cf1 6 (by decide) rfl fl_X1_22 rfl eh9 dX1_forget_24 ?_
  refine r_aload_n O 0 dX1_forget_27 rfl (Or.inl rfl) ?_
  refine r_iconst O (v := -1) dX1_forget_28 (by decide) ?_
  obtain ⟨h10, eh10, hf⟩ := bnd hf
  refine r_pI O cf1 7 (by decide) rfl fl_X1_26 rfl eh10 dX1_forget_29 ?_
  refine r_aload_n O 0 dX1_forget_32 rfl (Or.inl rfl) ?_
  refine r_iconst O (v := -1) dX1_forget_33 (by decide) ?_
  obtain ⟨h11, eh11, hf⟩ := bnd hf
  refine r_pI O cf1 8 (by decide) rfl fl_X1_29 rfl eh11 dX1_forget_34 ?_
  obtain rfl := Option.some.inj hf
  exact r_vret O hr rfl rfl (by decide) (by decide) dX1_forget_37
def f_J7_fill_d0a16_6 (l0 : Nat) (l1 : Int64) (l4 : Int32) (n : Nat) (h : AH) (l3 : Int32) : Option AH := match n with
| 0 => none
| n + 1 =>
if l4 ≤ l3 then
some h
else
Option.bind (stJ h l0 l3 l1) fun h2 =>
f_J7_fill_d0a16_6 l0 l1 l4 n h2 (l3 + 1)
def f_J7_fill_d0a16 (h : AH) (a0 : Nat) (a1 : Int64) : Option AH :=
Option.bind (aln h a0) fun x1 =>
Option.bind (f_J7_fill_d0a16_6 a0 a1 x1 FU h 0) fun h3 =>
some h3
set_option maxRecDepth 100000 in
set_option maxHeartbeats 4000000 in
theorem s_J7_fill_d0a16_6 {p : Program} {l : Launch} {e : Env} {s : State} {m : MethodId} {args : Array Value} {below : List Frame} {meth : Method} {c : Code} {G : GT} {Q : State → Prop} (O : OkC p l s m args meth c G cJ7_fill_d0a16 5 RJ7) {l0 : Nat} {l1 : Int64} {l4 : Int32} {wh : AH} (kk : AW p l e { frames := 0, cells := 0, slots := 0, locals := 0 } s m args below meth c G 5 Q wh 0 0 22 [] []) : ∀ (n : Nat), ∀ (h : AH) (l3 : Int32), f_J7_fill_d0a16_6 l0 l1 l4 n h l3 = some wh → AW p l e { frames := 0, cells := 0, slots := 0, locals := 0 } s m args below meth c G 5 Q h 0 0 6 [(0, .ref l0), (1, .long l1), (3, .int l3), (4, .int l4)] [] := by
  intro n
  induction n with
  | zero =>
    intro h l3 hf
    simp [f_J7_fill_d0a16_6] at hf
  | succ n ih =>
    intro h l3 hf
    unfold f_J7_fill_d0a16_6 at hf
    refine r_iload_n O 2 dJ7_fill_d0a16_6 rfl ?_
    refine r_iload O 3 dJ7_fill_d0a16_7 rfl ?_
    by_cases hc : l4 ≤ l3
    · rw [if_pos hc] at hf
      refine r_icmp_ge_t (tgt := 22) O dJ7_fill_d0a16_9 (by decide) hc ?_
      obtain rfl := oi1 hf
      refine AW.sub [] rfl ?_
      exact kk
    · rw [if_neg hc] at hf
      refine r_icmp_ge_f (tgt := 22) O dJ7_fill_d0a16_9 (by decide) hc ?_
      refine r_aload_n O 0 dJ7_fill_d0a16_12 rfl (Or.inl rfl) ?_
      refine r_iload_n O 2 dJ7_fill_d0a16_13 rfl ?_
      refine r_lload_n O 1 dJ7_fill_d0a16_14 rfl ?_
      obtain ⟨h2, eh2, hf⟩ := bnd hf
      refine r_stJ O eh2 dJ7_fill_d0a16_15 ?_
      refine r_iinc O 2 [(3, .int (l3 + 1)), (0, .ref l0), (1, .long l1), (4, .int l4)] dJ7_fill_d0a16_16 rfl rfl (by decide) rfl ?_
      refine r_goto (tgt := 6) O dJ7_fill_d0a16_19 (by decide) ?_
      refine AW.sub [1, 2, 0, 3] rfl ?_
      exact ih _ _ hf
set_option maxRecDepth 100000 in
set_option maxHeartbeats 4000000 in
theorem c_J7_fill_d0a16 {l : Launch} {G : GT} {h : AH} {a0 : Nat} {a1 : Int64} {r : AH} (hf : f_J7_fill_d0a16 h a0 a1 = some r) : Cn l yJ7_fill_d0a16 cJ7_fill_d0a16 5 none 0 0 0 0 G h [.ref a0, .long a1] (.ok none) r := by
  refine Cn.of (by decide) (Nat.le_of_ble_eq_true rfl) ?_
  intro p e s m args below meth c O hr hx hin
  have O : OkC p l s m args meth c G cJ7_fill_d0a16 5 RJ7 := O
  unfold f_J7_fill_d0a16 at hf
  refine AW.sub (lv' := [(0, .ref a0), (1, .long a1)]) [0, 1] rfl ?_
  refine r_iconst O (v := 0) dJ7_fill_d0a16_0 (by decide) ?_
  refine r_istore_n O [(3, .int 0), (0, .ref a0), (1, .long a1)] dJ7_fill_d0a16_1 (by decide) rfl ?_
  refine r_aload_n O 1 dJ7_fill_d0a16_2 rfl (Or.inl rfl) ?_
  obtain ⟨x1, ex1, hf⟩ := bnd hf
  refine r_aln O ex1 dJ7_fill_d0a16_3 ?_
  refine r_istore O [(4, .int x1), (3, .int 0), (0, .ref a0), (1, .long a1)] dJ7_fill_d0a16_4 (by decide) rfl ?_
  obtain ⟨h3, hw, hf⟩ := bnd hf
  refine AW.sub [2, 3, 1, 0] rfl ?_
  refine s_J7_fill_d0a16_6 O ?_ _ _ _ hw
  obtain rfl := Option.some.inj hf
  exact r_vret O hr rfl rfl (by decide) (by decide) dJ7_fill_d0a16_22
def f_X8_kindOf (h : AH) (a0 : Int32) : Option Int32 :=
Option.bind (if 240 ≤ a0 then
some (6 + ((a0 - 240) - (a0 - 240) / 3 * 3))
else
some (a0 - a0 / 6 * 6)) fun x1 =>
some x1
set_option maxRecDepth 100000 in
set_option maxHeartbeats 4000000 in
theorem c_X8_kindOf {l : Launch} {G : GT} {h : AH} {a0 : Int32} {r : Int32} (hf : f_X8_kindOf h a0 = some r) : Cn l yX8_kindOf cX8_kindOf 1 (some .int) 0 0 0 0 G h [.int a0] (.ok (some (.int r))) h := by
  refine Cn.of (by decide) (Nat.le_of_ble_eq_true rfl) ?_
  intro p e s m args below meth c O hr hx hin
  have O : OkC p l s m args meth c G cX8_kindOf 1 RX8 := O
  unfold f_X8_kindOf at hf
  refine AW.sub (lv' := [(0, .int a0)]) [0] rfl ?_
  refine r_iload_n O 0 dX8_kindOf_0 rfl ?_
  refine r_sipush O (v := 240) dX8_kindOf_1 (by decide) ?_
  obtain ⟨x1, hg, hf⟩ := bnd hf
  have hJ : AW p l e { frames := 0, cells := 0, slots := 0, locals := 0 } s m args below meth c G 1 (vx_MQ below (QcN G (.ok (some (.int r))) h) (XcN G (.ok (some (.int r))) h) args s 0 0 (gA G)) h 0 0 24 [] [.int x1] := by
    obtain rfl := Option.some.inj hf
    exact r_iret O hr rfl rfl (by decide) (by decide) dX8_kindOf_24
  clear hf
  have hf := hg
  clear hg
  by_cases hc : 240 ≤ a0
  · rw [if_pos hc] at hf
    refine r_icmp_ge_t (tgt := 14) O dX8_kindOf_4 (by decide) hc ?_
    refine r_bipush O (v := 6) dX8_kindOf_14 (by decide) ?_
    refine r_iload_n O 0 dX8_kindOf_16 rfl ?_
    refine r_sipush O (v := 240) dX8_kindOf_17 (by decide) ?_
    refine r_isub O dX8_kindOf_20 ?_
    refine r_iconst O (v := 3) dX8_kindOf_21 (by decide) ?_
    refine r_irem O dX8_kindOf_22 (by decide) ?_
    refine r_iadd O dX8_kindOf_23 ?_
    obtain rfl := oi1 hf
    refine AW.sub [] rfl ?_
    exact hJ
  · rw [if_neg hc] at hf
    refine r_icmp_ge_f (tgt := 14) O dX8_kindOf_4 (by decide) hc ?_
    refine r_iload_n O 0 dX8_kindOf_7 rfl ?_
    refine r_bipush O (v := 6) dX8_kindOf_8 (by decide) ?_
    refine r_irem O dX8_kindOf_10 (by decide) ?_
    refine r_goto (tgt := 24) O dX8_kindOf_11 (by decide) ?_
    obtain rfl := oi1 hf
    refine AW.sub [] rfl ?_
    exact hJ
def f_X8_isOfThing (h : AH) (a0 : Int32) : Option Int32 :=
Option.bind (if 240 ≤ a0 then
some (0 : Int32)
else
some (1 : Int32)) fun x1 =>
Option.bind (bz x1) fun x2 =>
some x2
set_option maxRecDepth 100000 in
set_option maxHeartbeats 4000000 in
theorem c_X8_isOfThing {l : Launch} {G : GT} {h : AH} {a0 : Int32} {r : Int32} (hf : f_X8_isOfThing h a0 = some r) : Cn l yX8_isOfThing cX8_isOfThing 1 (some .boolean) 0 0 0 0 G h [.int a0] (.ok (some (.int r))) h := by
  refine Cn.of (by decide) (Nat.le_of_ble_eq_true rfl) ?_
  intro p e s m args below meth c O hr hx hin
  have O : OkC p l s m args meth c G cX8_isOfThing 1 RX8 := O
  unfold f_X8_isOfThing at hf
  refine AW.sub (lv' := [(0, .int a0)]) [0] rfl ?_
  refine r_iload_n O 0 dX8_isOfThing_0 rfl ?_
  refine r_sipush O (v := 240) dX8_isOfThing_1 (by decide) ?_
  obtain ⟨x1, hg, hf⟩ := bnd hf
  have hJ : AW p l e { frames := 0, cells := 0, slots := 0, locals := 0 } s m args below meth c G 1 (vx_MQ below (QcN G (.ok (some (.int r))) h) (XcN G (.ok (some (.int r))) h) args s 0 0 (gA G)) h 0 0 12 [] [.int x1] := by
    obtain ⟨x2, ex2, hf⟩ := bnd hf
    refine r_nmI (bz_eq ex2) ?_
    obtain rfl := Option.some.inj hf
    exact r_zret O hr (bz_or ex2) rfl rfl (by decide) (by decide) dX8_isOfThing_12
  clear hf
  have hf := hg
  clear hg
  by_cases hc : 240 ≤ a0
  · rw [if_pos hc] at hf
    refine r_icmp_ge_t (tgt := 11) O dX8_isOfThing_4 (by decide) hc ?_
    refine r_iconst O (v := 0) dX8_isOfThing_11 (by decide) ?_
    obtain rfl := oi1 hf
    refine AW.sub [] rfl ?_
    exact hJ
  · rw [if_neg hc] at hf
    refine r_icmp_ge_f (tgt := 11) O dX8_isOfThing_4 (by decide) hc ?_
    refine r_iconst O (v := 1) dX8_isOfThing_7 (by decide) ?_
    refine r_goto (tgt := 12) O dX8_isOfThing_8 (by decide) ?_
    obtain rfl := oi1 hf
    refine AW.sub [] rfl ?_
    exact hJ
