def f_X9_gives (h : AH) (a0 : Int32) : Option Int32 :=
Option.bind (if a0 = 21 then
some (0 : Int32)
else
if a0 = 24 then
some (0 : Int32)
else
if a0 = 22 then
some (2 : Int32)
else
if a0 = 23 then
some (2 : Int32)
else
some (1 : Int32)) fun x1 =>
some x1
set_option maxRecDepth 100000 in
set_option maxHeartbeats 4000000 in
theorem c_X9_gives {l : Launch} {G : GT} {h : AH} {a0 : Int32} {r : Int32} (hf : f_X9_gives h a0 = some r) : Cn l yX9_gives cX9_gives 1 (some .int) 0 0 0 0 G h [.int a0] (.ok (some (.int r))) h := by
  refine Cn.of (by decide) (Nat.le_of_ble_eq_true rfl) ?_
  intro p e s m args below meth c O hr hx hin
  have O : OkC p l s m args meth c G cX9_gives 1 RX9 := O
  unfold f_X9_gives at hf
  refine AW.sub (lv' := [(0, .int a0)]) [0] rfl ?_
  refine r_iload_n O 0 dX9_gives_0 rfl ?_
  refine r_bipush O (v := 21) dX9_gives_1 (by decide) ?_
  obtain ⟨x1, hg, hf⟩ := bnd hf
  have hJ : AW p l e { frames := 0, cells := 0, slots := 0, locals := 0 } s m args below meth c G 1 (vx_MQ below (QcN G (.ok (some (.int r))) h) (XcN G (.ok (some (.int r))) h) args s 0 0 (gA G)) h 0 0 33 [] [.int x1] := by
    obtain rfl := Option.some.inj hf
    exact r_iret O hr rfl rfl (by decide) (by decide) dX9_gives_33
  clear hf
  have hf := hg
  clear hg
  by_cases hc : a0 = 21
  · rw [if_pos hc] at hf
    refine r_icmp_eq_t (tgt := 12) O dX9_gives_3 (by decide) hc ?_
    refine r_iconst O (v := 0) dX9_gives_12 (by decide) ?_
    refine r_goto (tgt := 33) O dX9_gives_13 (by decide) ?_
    obtain rfl := oi1 hf
    refine AW.sub [] rfl ?_
    exact hJ
  · rw [if_neg hc] at hf
    refine r_icmp_eq_f (tgt := 12) O dX9_gives_3 (by decide) hc ?_
    refine r_iload_n O 0 dX9_gives_6 rfl ?_
    refine r_bipush O (v := 24) dX9_gives_7 (by decide) ?_
    by_cases hc : a0 = 24
    · rw [if_pos hc] at hf
      refine r_icmp_ne_f (tgt := 16) O dX9_gives_9 (by decide) hc ?_
      refine r_iconst O (v := 0) dX9_gives_12 (by decide) ?_
      refine r_goto (tgt := 33) O dX9_gives_13 (by decide) ?_
      obtain rfl := oi1 hf
      refine AW.sub [] rfl ?_
      exact hJ
    · rw [if_neg hc] at hf
      refine r_icmp_ne_t (tgt := 16) O dX9_gives_9 (by decide) hc ?_
      refine r_iload_n O 0 dX9_gives_16 rfl ?_
      refine r_bipush O (v := 22) dX9_gives_17 (by decide) ?_
      by_cases hc : a0 = 22
      · rw [if_pos hc] at hf
        refine r_icmp_eq_t (tgt := 28) O dX9_gives_19 (by decide) hc ?_
        refine r_iconst O (v := 2) dX9_gives_28 (by decide) ?_
        refine r_goto (tgt := 33) O dX9_gives_29 (by decide) ?_
        obtain rfl := oi1 hf
        refine AW.sub [] rfl ?_
        exact hJ
      · rw [if_neg hc] at hf
        refine r_icmp_eq_f (tgt := 28) O dX9_gives_19 (by decide) hc ?_
        refine r_iload_n O 0 dX9_gives_22 rfl ?_
        refine r_bipush O (v := 23) dX9_gives_23 (by decide) ?_
        by_cases hc : a0 = 23
        · rw [if_pos hc] at hf
          refine r_icmp_ne_f (tgt := 32) O dX9_gives_25 (by decide) hc ?_
          refine r_iconst O (v := 2) dX9_gives_28 (by decide) ?_
          refine r_goto (tgt := 33) O dX9_gives_29 (by decide) ?_
          obtain rfl := oi1 hf
          refine AW.sub [] rfl ?_
          exact hJ
        · rw [if_neg hc] at hf
          refine r_icmp_ne_t (tgt := 32) O dX9_gives_25 (by decide) hc ?_
          refine r_iconst O (v := 1) dX9_gives_32 (by decide) ?_
          obtain rfl := oi1 hf
          refine AW.sub [] rfl ?_
          exact hJ
def f_X9_isStep (h : AH) (a0 : Int32) (a1 : Int32) (a2 : Int32) : Option Int32 :=
Option.bind (if a1 < 0 then
some (0 : Int32)
else
if 5 < a1 then
some (0 : Int32)
else
some (1 : Int32)) fun x1 =>
Option.bind (if a1 < 6 then
some (0 : Int32)
else
if 8 < a1 then
some (0 : Int32)
else
some (1 : Int32)) fun x2 =>
if a0 = 0 then
some 1
else
if a0 = 1 then
Option.bind (if a1 < 0 then
some (0 : Int32)
else
Option.bind (if a2 = 0 then
some (1 : Int32)
else
some (3 : Int32)) fun x4 =>
if x4 < a1 then
some (0 : Int32)
else
some (1 : Int32)) fun x3 =>
Option.bind (bz x3) fun x5 =>
some x5
else
if a0 = 2 then
Option.bind (if a2 = 0 then
some (0 : Int32)
else
if a1 = 0 then
some (1 : Int32)
else
if a1 = 1 then
some (1 : Int32)
else
some (0 : Int32)) fun x6 =>
Option.bind (bz x6) fun x7 =>
some x7
else
if a0 = 3 then
Option.bind (if a1 = 1 then
some (1 : Int32)
else
if a1 = 0 then
if a2 = 0 then
some (0 : Int32)
else
some (1 : Int32)
else
some (0 : Int32)) fun x8 =>
Option.bind (bz x8) fun x9 =>
some x9
else
if a0 = 4 then
Option.bind (if a2 = 0 then
some x2
else
some x1) fun x10 =>
Option.bind (bz x10) fun x11 =>
some x11
else
if a0 = 5 ∨ a0 = 6 ∨ a0 = 7 then
Option.bind (if a2 = 0 then
some (0 : Int32)
else
if x1 = 0 then
some (0 : Int32)
else
some (1 : Int32)) fun x12 =>
Option.bind (bz x12) fun x13 =>
some x13
else
if a0 = 8 then
Option.bind (if a2 = 0 then
some (0 : Int32)
else
if x2 = 0 then
some (0 : Int32)
else
some (1 : Int32)) fun x14 =>
Option.bind (bz x14) fun x15 =>
some x15
else
if a0 = 9 ∨ a0 = 10 ∨ a0 = 11 ∨ a0 = 12 ∨ a0 = 13 then
Option.bind (if a2 = 0 then
if x1 = 0 then
some (0 : Int32)
else
some (1 : Int32)
else
some (0 : Int32)) fun x16 =>
Option.bind (bz x16) fun x17 =>
some x17
else
Option.bind (if a0 < 14 then
some (0 : Int32)
else
if 24 < a0 then
some (0 : Int32)
else
some (1 : Int32)) fun x18 =>
Option.bind (bz x18) fun x19 =>
some x19
set_option maxRecDepth 100000 in
set_option maxHeartbeats 4000000 in
theorem c_X9_isStep {l : Launch} {G : GT} {h : AH} {a0 : Int32} {a1 : Int32} {a2 : Int32} {r : Int32} (hf : f_X9_isStep h a0 a1 a2 = some r) : Cn l yX9_isStep cX9_isStep 5 (some .boolean) 0 0 0 0 G h [.int a0, .int a1, .int a2] (.ok (some (.int r))) h := by
  refine Cn.of (by decide) (Nat.le_of_ble_eq_true rfl) ?_
  intro p e s m args below meth c O hr hx hin
  have O : OkC p l s m args meth c G cX9_isStep 5 RX9 := O
  unfold f_X9_isStep at hf
  refine AW.sub (lv' := [(0, .int a0), (1, .int a1), (2, .int a2)]) [0, 1, 2] rfl ?_
  refine r_iload_n O 1 dX9_isStep_0 rfl ?_
  obtain ⟨x1, hg, hf⟩ := bnd hf
  have hJ : AW p l e { frames := 0, cells := 0, slots := 0, locals := 0 } s m args below meth c G 5 (vx_MQ below (QcN G (.ok (some (.int r))) h) (XcN G (.ok (some (.int r))) h) args s 0 0 (gA G)) h 0 0 14 [(0, .int a0), (1, .int a1), (2, .int a2)] [.int x1] := by
    refine r_istore_n O [(3, .int x1), (0, .int a0), (1, .int a1), (2, .int a2)] dX9_isStep_14 (by decide) rfl ?_
    refine r_iload_n O 2 dX9_isStep_15 rfl ?_
    refine r_bipush O (v := 6) dX9_isStep_16 (by decide) ?_
    obtain ⟨x2, hg, hf⟩ := bnd hf
    have hJ : AW p l e { frames := 0, cells := 0, slots := 0, locals := 0 } s m args below meth c G 5 (vx_MQ below (QcN G (.ok (some (.int r))) h) (XcN G (.ok (some (.int r))) h) args s 0 0 (gA G)) h 0 0 32 [(0, .int a0), (1, .int a1), (2, .int a2), (3, .int x1)] [.int x2] := by
      refine r_istore O [(4, .int x2), (0, .int a0), (1, .int a1), (2, .int a2), (3, .int x1)] dX9_isStep_32 (by decide) rfl ?_
      refine r_iload_n O 1 dX9_isStep_34 rfl ?_
      by_cases hc : a0 = 0
      · rw [if_pos hc] at hf
        refine r_table_in (off := 69) (tgt := 104) O dX9_isStep_35 (by (rw [hc]; decide)) (by (rw [hc]; decide)) (by (rw [hc]; rfl)) (by decide) ?_
        refine r_iconst O (v := 1) dX9_isStep_104 (by decide) ?_
        obtain rfl := Option.some.inj hf
        exact r_zret O hr (by decide) rfl rfl (by decide) (by decide) dX9_isStep_105
      · rw [if_neg hc] at hf
        have hn104 := hc
        by_cases hc : a0 = 1
        · rw [if_pos hc] at hf
          refine r_table_in (off := 71) (tgt := 106) O dX9_isStep_35 (by (rw [hc]; decide)) (by (rw [hc]; decide)) (by (rw [hc]; rfl)) (by decide) ?_
          refine r_iload_n O 2 dX9_isStep_106 rfl ?_
          obtain ⟨x3, hg, hf⟩ := bnd hf
          have hJ : AW p l e { frames := 0, cells := 0, slots := 0, locals := 0 } s m args below meth c G 5 (vx_MQ below (QcN G (.ok (some (.int r))) h) (XcN G (.ok (some (.int r))) h) args s 0 0 (gA G)) h 0 0 128 [] [.int x3] := by
            obtain ⟨x5, ex5, hf⟩ := bnd hf
            refine r_nmI (bz_eq ex5) ?_
            obtain rfl := Option.some.inj hf
            exact r_zret O hr (bz_or ex5) rfl rfl (by decide) (by decide) dX9_isStep_128
          clear hf
          have hf := hg
          clear hg
          by_cases hc : a1 < 0
          · rw [if_pos hc] at hf
            refine r_if_lt_t (tgt := 127) O dX9_isStep_107 (by decide) hc ?_
            refine r_iconst O (v := 0) dX9_isStep_127 (by decide) ?_
            obtain rfl := oi1 hf
            refine AW.sub [] rfl ?_
            exact hJ
          · rw [if_neg hc] at hf
            refine r_if_lt_f (tgt := 127) O dX9_isStep_107 (by decide) hc ?_
            refine r_iload_n O 2 dX9_isStep_110 rfl ?_
            refine r_iload_n O 3 dX9_isStep_111 rfl ?_
            obtain ⟨x4, hg, hf⟩ := bnd hf
            have hJ : AW p l e { frames := 0, cells := 0, slots := 0, locals := 0 } s m args below meth c G 5 (vx_MQ below (QcN G (.ok (some (.int r))) h) (XcN G (.ok (some (.int r))) h) args s 0 0 (gA G)) h 0 0 120 [] [.int x4, .int a1] := by
              by_cases hc : x4 < a1
              · rw [if_pos hc] at hf
                refine r_icmp_gt_t (tgt := 127) O dX9_isStep_120 (by decide) hc ?_
                refine r_iconst O (v := 0) dX9_isStep_127 (by decide) ?_
                obtain rfl := oi1 hf
                refine AW.sub [] rfl ?_
                exact hJ
              · rw [if_neg hc] at hf
                refine r_icmp_gt_f (tgt := 127) O dX9_isStep_120 (by decide) hc ?_
                refine r_iconst O (v := 1) dX9_isStep_123 (by decide) ?_
                refine r_goto (tgt := 128) O dX9_isStep_124 (by decide) ?_
                obtain rfl := oi1 hf
                refine AW.sub [] rfl ?_
                exact hJ
            clear hf
            have hf := hg
            clear hg
            by_cases hc : a2 = 0
            · rw [if_pos hc] at hf
              refine r_if_eq_t (tgt := 119) O dX9_isStep_112 (by decide) hc ?_
              refine r_iconst O (v := 1) dX9_isStep_119 (by decide) ?_
              obtain rfl := oi1 hf
              refine AW.sub [] rfl ?_
              exact hJ
            · rw [if_neg hc] at hf
              refine r_if_eq_f (tgt := 119) O dX9_isStep_112 (by decide) hc ?_
              refine r_iconst O (v := 3) dX9_isStep_115 (by decide) ?_
              refine r_goto (tgt := 120) O dX9_isStep_116 (by decide) ?_
              obtain rfl := oi1 hf
              refine AW.sub [] rfl ?_
              exact hJ
        · rw [if_neg hc] at hf
          have hn106 := hc
          by_cases hc : a0 = 2
          · rw [if_pos hc] at hf
            refine r_table_in (off := 94) (tgt := 129) O dX9_isStep_35 (by (rw [hc]; decide)) (by (rw [hc]; decide)) (by (rw [hc]; rfl)) (by decide) ?_
            refine r_iload_n O 3 dX9_isStep_129 rfl ?_
            obtain ⟨x6, hg, hf⟩ := bnd hf
            have hJ : AW p l e { frames := 0, cells := 0, slots := 0, locals := 0 } s m args below meth c G 5 (vx_MQ below (QcN G (.ok (some (.int r))) h) (XcN G (.ok (some (.int r))) h) args s 0 0 (gA G)) h 0 0 147 [] [.int x6] := by
              obtain ⟨x7, ex7, hf⟩ := bnd hf
              refine r_nmI (bz_eq ex7) ?_
              obtain rfl := Option.some.inj hf
              exact r_zret O hr (bz_or ex7) rfl rfl (by decide) (by decide) dX9_isStep_147
            clear hf
            have hf := hg
            clear hg
            by_cases hc : a2 = 0
            · rw [if_pos hc] at hf
              refine r_if_eq_t (tgt := 146) O dX9_isStep_130 (by decide) hc ?_
              refine r_iconst O (v := 0) dX9_isStep_146 (by decide) ?_
              obtain rfl := oi1 hf
              refine AW.sub [] rfl ?_
              exact hJ
            · rw [if_neg hc] at hf
              refine r_if_eq_f (tgt := 146) O dX9_isStep_130 (by decide) hc ?_
              refine r_iload_n O 2 dX9_isStep_133 rfl ?_
              by_cases hc : a1 = 0
              · rw [if_pos hc] at hf
                refine r_if_eq_t (tgt := 142) O dX9_isStep_134 (by decide) hc ?_
                refine r_iconst O (v := 1) dX9_isStep_142 (by decide) ?_
                refine r_goto (tgt := 147) O dX9_isStep_143 (by decide) ?_
                obtain rfl := oi1 hf
                refine AW.sub [] rfl ?_
                exact hJ
              · rw [if_neg hc] at hf
                refine r_if_eq_f (tgt := 142) O dX9_isStep_134 (by decide) hc ?_
                refine r_iload_n O 2 dX9_isStep_137 rfl ?_
                refine r_iconst O (v := 1) dX9_isStep_138 (by decide) ?_
                by_cases hc : a1 = 1
                · rw [if_pos hc] at hf
                  refine r_icmp_ne_f (tgt := 146) O dX9_isStep_139 (by decide) hc ?_
                  refine r_iconst O (v := 1) dX9_isStep_142 (by decide) ?_
                  refine r_goto (tgt := 147) O dX9_isStep_143 (by decide) ?_
                  obtain rfl := oi1 hf
                  refine AW.sub [] rfl ?_
                  exact hJ
                · rw [if_neg hc] at hf
                  refine r_icmp_ne_t (tgt := 146) O dX9_isStep_139 (by decide) hc ?_
                  refine r_iconst O (v := 0) dX9_isStep_146 (by decide) ?_
                  obtain rfl := oi1 hf
                  refine AW.sub [] rfl ?_
                  exact hJ
          · rw [if_neg hc] at hf
            have hn129 := hc
            by_cases hc : a0 = 3
            · rw [if_pos hc] at hf
              refine r_table_in (off := 113) (tgt := 148) O dX9_isStep_35 (by (rw [hc]; decide)) (by (rw [hc]; decide)) (by (rw [hc]; rfl)) (by decide) ?_
              refine r_iload_n O 2 dX9_isStep_148 rfl ?_
              refine r_iconst O (v := 1) dX9_isStep_149 (by decide) ?_
              obtain ⟨x8, hg, hf⟩ := bnd hf
              have hJ : AW p l e { frames := 0, cells := 0, slots := 0, locals := 0 } s m args below meth c G 5 (vx_MQ below (QcN G (.ok (some (.int r))) h) (XcN G (.ok (some (.int r))) h) args s 0 0 (gA G)) h 0 0 166 [] [.int x8] := by
                obtain ⟨x9, ex9, hf⟩ := bnd hf
                refine r_nmI (bz_eq ex9) ?_
                obtain rfl := Option.some.inj hf
                exact r_zret O hr (bz_or ex9) rfl rfl (by decide) (by decide) dX9_isStep_166
              clear hf
              have hf := hg
              clear hg
              by_cases hc : a1 = 1
              · rw [if_pos hc] at hf
                refine r_icmp_eq_t (tgt := 161) O dX9_isStep_150 (by decide) hc ?_
                refine r_iconst O (v := 1) dX9_isStep_161 (by decide) ?_
                refine r_goto (tgt := 166) O dX9_isStep_162 (by decide) ?_
                obtain rfl := oi1 hf
                refine AW.sub [] rfl ?_
                exact hJ
              · rw [if_neg hc] at hf
                refine r_icmp_eq_f (tgt := 161) O dX9_isStep_150 (by decide) hc ?_
                refine r_iload_n O 2 dX9_isStep_153 rfl ?_
                by_cases hc : a1 = 0
                · rw [if_pos hc] at hf
                  refine r_if_ne_f (tgt := 165) O dX9_isStep_154 (by decide) hc ?_
                  refine r_iload_n O 3 dX9_isStep_157 rfl ?_
                  by_cases hc : a2 = 0
                  · rw [if_pos hc] at hf
                    refine r_if_eq_t (tgt := 165) O dX9_isStep_158 (by decide) hc ?_
                    refine r_iconst O (v := 0) dX9_isStep_165 (by decide) ?_
                    obtain rfl := oi1 hf
                    refine AW.sub [] rfl ?_
                    exact hJ
                  · rw [if_neg hc] at hf
                    refine r_if_eq_f (tgt := 165) O dX9_isStep_158 (by decide) hc ?_
                    refine r_iconst O (v := 1) dX9_isStep_161 (by decide) ?_
                    refine r_goto (tgt := 166) O dX9_isStep_162 (by decide) ?_
                    obtain rfl := oi1 hf
                    refine AW.sub [] rfl ?_
                    exact hJ
                · rw [if_neg hc] at hf
                  refine r_if_ne_t (tgt := 165) O dX9_isStep_154 (by decide) hc ?_
                  refine r_iconst O (v := 0) dX9_isStep_165 (by decide) ?_
                  obtain rfl := oi1 hf
                  refine AW.sub [] rfl ?_
                  exact hJ
            · rw [if_neg hc] at hf
              have hn148 := hc
              by_cases hc : a0 = 4
              · rw [if_pos hc] at hf
                refine r_table_in (off := 132) (tgt := 167) O dX9_isStep_35 (by (rw [hc]; decide)) (by (rw [hc]; decide)) (by (rw [hc]; rfl)) (by decide) ?_
                refine r_iload_n O 3 dX9_isStep_167 rfl ?_
                obtain ⟨x10, hg, hf⟩ := bnd hf
                have hJ : AW p l e { frames := 0, cells := 0, slots := 0, locals := 0 } s m args below meth c G 5 (vx_MQ below (QcN G (.ok (some (.int r))) h) (XcN G (.ok (some (.int r))) h) args s 0 0 (gA G)) h 0 0 177 [] [.int x10] := by
                  obtain ⟨x11, ex11, hf⟩ := bnd hf
                  refine r_nmI (bz_eq ex11) ?_
                  obtain rfl := Option.some.inj hf
                  exact r_zret O hr (bz_or ex11) rfl rfl (by decide) (by decide) dX9_isStep_177
                clear hf
                have hf := hg
                clear hg
                by_cases hc : a2 = 0
                · rw [if_pos hc] at hf
                  refine r_if_eq_t (tgt := 175) O dX9_isStep_168 (by decide) hc ?_
                  refine r_iload O 0 dX9_isStep_175 rfl ?_
                  obtain rfl := oi1 hf
                  refine AW.sub [] rfl ?_
                  exact hJ
                · rw [if_neg hc] at hf
                  refine r_if_eq_f (tgt := 175) O dX9_isStep_168 (by decide) hc ?_
                  refine r_iload_n O 4 dX9_isStep_171 rfl ?_
                  refine r_goto (tgt := 177) O dX9_isStep_172 (by decide) ?_
                  obtain rfl := oi1 hf
                  refine AW.sub [] rfl ?_
                  exact hJ
              · rw [if_neg hc] at hf
                have hn167 := hc
                by_cases hc : a0 = 5 ∨ a0 = 6 ∨ a0 = 7
                · rw [if_pos hc] at hf
                  refine r_table_in (off := 143) (tgt := 178) O dX9_isStep_35 (by rcases hc with hc | hc | hc <;> (rw [hc]; decide)) (by rcases hc with hc | hc | hc <;> (rw [hc]; decide)) (by rcases hc with hc | hc | hc <;> (rw [hc]; rfl)) (by decide) ?_
                  refine r_iload_n O 3 dX9_isStep_178 rfl ?_
                  obtain ⟨x12, hg, hf⟩ := bnd hf
                  have hJ : AW p l e { frames := 0, cells := 0, slots := 0, locals := 0 } s m args below meth c G 5 (vx_MQ below (QcN G (.ok (some (.int r))) h) (XcN G (.ok (some (.int r))) h) args s 0 0 (gA G)) h 0 0 191 [] [.int x12] := by
                    obtain ⟨x13, ex13, hf⟩ := bnd hf
                    refine r_nmI (bz_eq ex13) ?_
                    obtain rfl := Option.some.inj hf
                    exact r_zret O hr (bz_or ex13) rfl rfl (by decide) (by decide) dX9_isStep_191
                  clear hf
                  have hf := hg
                  clear hg
                  by_cases hc : a2 = 0
                  · rw [if_pos hc] at hf
                    refine r_if_eq_t (tgt := 190) O dX9_isStep_179 (by decide) hc ?_
                    refine r_iconst O (v := 0) dX9_isStep_190 (by decide) ?_
                    obtain rfl := oi1 hf
                    refine AW.sub [] rfl ?_
                    exact hJ
                  · rw [if_neg hc] at hf
                    refine r_if_eq_f (tgt := 190) O dX9_isStep_179 (by decide) hc ?_
                    refine r_iload_n O 4 dX9_isStep_182 rfl ?_
                    by_cases hc : x1 = 0
                    · rw [if_pos hc] at hf
                      refine r_if_eq_t (tgt := 190) O dX9_isStep_183 (by decide) hc ?_
                      refine r_iconst O (v := 0) dX9_isStep_190 (by decide) ?_
                      obtain rfl := oi1 hf
                      refine AW.sub [] rfl ?_
                      exact hJ
                    · rw [if_neg hc] at hf
                      refine r_if_eq_f (tgt := 190) O dX9_isStep_183 (by decide) hc ?_
                      refine r_iconst O (v := 1) dX9_isStep_186 (by decide) ?_
                      refine r_goto (tgt := 191) O dX9_isStep_187 (by decide) ?_
                      obtain rfl := oi1 hf
                      refine AW.sub [] rfl ?_
                      exact hJ
                · rw [if_neg hc] at hf
                  have hn178 := hc
                  by_cases hc : a0 = 8
                  · rw [if_pos hc] at hf
                    refine r_table_in (off := 157) (tgt := 192) O dX9_isStep_35 (by (rw [hc]; decide)) (by (rw [hc]; decide)) (by (rw [hc]; rfl)) (by decide) ?_
                    refine r_iload_n O 3 dX9_isStep_192 rfl ?_
                    obtain ⟨x14, hg, hf⟩ := bnd hf
                    have hJ : AW p l e { frames := 0, cells := 0, slots := 0, locals := 0 } s m args below meth c G 5 (vx_MQ below (QcN G (.ok (some (.int r))) h) (XcN G (.ok (some (.int r))) h) args s 0 0 (gA G)) h 0 0 206 [] [.int x14] := by
                      obtain ⟨x15, ex15, hf⟩ := bnd hf
                      refine r_nmI (bz_eq ex15) ?_
                      obtain rfl := Option.some.inj hf
                      exact r_zret O hr (bz_or ex15) rfl rfl (by decide) (by decide) dX9_isStep_206
                    clear hf
                    have hf := hg
                    clear hg
                    by_cases hc : a2 = 0
                    · rw [if_pos hc] at hf
                      refine r_if_eq_t (tgt := 205) O dX9_isStep_193 (by decide) hc ?_
                      refine r_iconst O (v := 0) dX9_isStep_205 (by decide) ?_
                      obtain rfl := oi1 hf
                      refine AW.sub [] rfl ?_
                      exact hJ
                    · rw [if_neg hc] at hf
                      refine r_if_eq_f (tgt := 205) O dX9_isStep_193 (by decide) hc ?_
                      refine r_iload O 0 dX9_isStep_196 rfl ?_
                      by_cases hc : x2 = 0
                      · rw [if_pos hc] at hf
                        refine r_if_eq_t (tgt := 205) O dX9_isStep_198 (by decide) hc ?_
                        refine r_iconst O (v := 0) dX9_isStep_205 (by decide) ?_
                        obtain rfl := oi1 hf
                        refine AW.sub [] rfl ?_
                        exact hJ
                      · rw [if_neg hc] at hf
                        refine r_if_eq_f (tgt := 205) O dX9_isStep_198 (by decide) hc ?_
                        refine r_iconst O (v := 1) dX9_isStep_201 (by decide) ?_
                        refine r_goto (tgt := 206) O dX9_isStep_202 (by decide) ?_
                        obtain rfl := oi1 hf
                        refine AW.sub [] rfl ?_
                        exact hJ
                  · rw [if_neg hc] at hf
                    have hn192 := hc
                    by_cases hc : a0 = 9 ∨ a0 = 10 ∨ a0 = 11 ∨ a0 = 12 ∨ a0 = 13
                    · rw [if_pos hc] at hf
                      refine r_table_in (off := 172) (tgt := 207) O dX9_isStep_35 (by rcases hc with hc | hc | hc | hc | hc <;> (rw [hc]; decide)) (by rcases hc with hc | hc | hc | hc | hc <;> (rw [hc]; decide)) (by rcases hc with hc | hc | hc | hc | hc <;> (rw [hc]; rfl)) (by decide) ?_
                      refine r_iload_n O 3 dX9_isStep_207 rfl ?_
                      obtain ⟨x16, hg, hf⟩ := bnd hf
                      have hJ : AW p l e { frames := 0, cells := 0, slots := 0, locals := 0 } s m args below meth c G 5 (vx_MQ below (QcN G (.ok (some (.int r))) h) (XcN G (.ok (some (.int r))) h) args s 0 0 (gA G)) h 0 0 220 [] [.int x16] := by
                        obtain ⟨x17, ex17, hf⟩ := bnd hf
                        refine r_nmI (bz_eq ex17) ?_
                        obtain rfl := Option.some.inj hf
                        exact r_zret O hr (bz_or ex17) rfl rfl (by decide) (by decide) dX9_isStep_220
                      clear hf
                      have hf := hg
                      clear hg
                      by_cases hc : a2 = 0
                      · rw [if_pos hc] at hf
                        refine r_if_ne_f (tgt := 219) O dX9_isStep_208 (by decide) hc ?_
                        refine r_iload_n O 4 dX9_isStep_211 rfl ?_
                        by_cases hc : x1 = 0
                        · rw [if_pos hc] at hf
                          refine r_if_eq_t (tgt := 219) O dX9_isStep_212 (by decide) hc ?_
                          refine r_iconst O (v := 0) dX9_isStep_219 (by decide) ?_
                          obtain rfl := oi1 hf
                          refine AW.sub [] rfl ?_
                          exact hJ
                        · rw [if_neg hc] at hf
                          refine r_if_eq_f (tgt := 219) O dX9_isStep_212 (by decide) hc ?_
                          refine r_iconst O (v := 1) dX9_isStep_215 (by decide) ?_
                          refine r_goto (tgt := 220) O dX9_isStep_216 (by decide) ?_
                          obtain rfl := oi1 hf
                          refine AW.sub [] rfl ?_
                          exact hJ
                      · rw [if_neg hc] at hf
                        refine r_if_ne_t (tgt := 219) O dX9_isStep_208 (by decide) hc ?_
                        refine r_iconst O (v := 0) dX9_isStep_219 (by decide) ?_
                        obtain rfl := oi1 hf
                        refine AW.sub [] rfl ?_
                        exact hJ
                    · rw [if_neg hc] at hf
                      have hn207 := hc
                      have hout := tb_out (x := a0) 0 14 (fun j hj => by
                        rcases (show j = 0 ∨ j = 1 ∨ j = 2 ∨ j = 3 ∨ j = 4 ∨ j = 5 ∨ j = 6 ∨ j = 7 ∨ j = 8 ∨ j = 9 ∨ j = 10 ∨ j = 11 ∨ j = 12 ∨ j = 13 by omega) with rfl | rfl | rfl | rfl | rfl | rfl | rfl | rfl | rfl | rfl | rfl | rfl | rfl | rfl
                        · exact fun q => hn104 (q.trans (by decide))
                        · exact fun q => hn106 (q.trans (by decide))
                        · exact fun q => hn129 (q.trans (by decide))
                        · exact fun q => hn148 (q.trans (by decide))
                        · exact fun q => hn167 (q.trans (by decide))
                        · exact fun q => hn178 (Or.inl (q.trans (by decide)))
                        · exact fun q => hn178 (Or.inr (Or.inl (q.trans (by decide))))
                        · exact fun q => hn178 (Or.inr (Or.inr (q.trans (by decide))))
                        · exact fun q => hn192 (q.trans (by decide))
                        · exact fun q => hn207 (Or.inl (q.trans (by decide)))
                        · exact fun q => hn207 (Or.inr (Or.inl (q.trans (by decide))))
                        · exact fun q => hn207 (Or.inr (Or.inr (Or.inl (q.trans (by decide)))))
                        · exact fun q => hn207 (Or.inr (Or.inr (Or.inr (Or.inl (q.trans (by decide))))))
                        · exact fun q => hn207 (Or.inr (Or.inr (Or.inr (Or.inr (q.trans (by decide)))))))
                      refine r_table_out (tgt := 221) O dX9_isStep_35 hout (by decide) ?_
                      refine r_iload_n O 1 dX9_isStep_221 rfl ?_
                      refine r_bipush O (v := 14) dX9_isStep_222 (by decide) ?_
                      obtain ⟨x18, hg, hf⟩ := bnd hf
                      have hJ : AW p l e { frames := 0, cells := 0, slots := 0, locals := 0 } s m args below meth c G 5 (vx_MQ below (QcN G (.ok (some (.int r))) h) (XcN G (.ok (some (.int r))) h) args s 0 0 (gA G)) h 0 0 238 [] [.int x18] := by
                        obtain ⟨x19, ex19, hf⟩ := bnd hf
                        refine r_nmI (bz_eq ex19) ?_
                        obtain rfl := Option.some.inj hf
                        exact r_zret O hr (bz_or ex19) rfl rfl (by decide) (by decide) dX9_isStep_238
                      clear hf
                      have hf := hg
                      clear hg
                      by_cases hc : a0 < 14
                      · rw [if_pos hc] at hf
                        refine r_icmp_lt_t (tgt := 237) O dX9_isStep_224 (by decide) hc ?_
                        refine r_iconst O (v := 0) dX9_isStep_237 (by decide) ?_
                        obtain rfl := oi1 hf
                        refine AW.sub [] rfl ?_
                        exact hJ
                      · rw [if_neg hc] at hf
                        refine r_icmp_lt_f (tgt := 237) O dX9_isStep_224 (by decide) hc ?_
                        refine r_iload_n O 1 dX9_isStep_227 rfl ?_
                        refine r_bipush O (v := 24) dX9_isStep_228 (by decide) ?_
                        by_cases hc : 24 < a0
                        · rw [if_pos hc] at hf
                          refine r_icmp_gt_t (tgt := 237) O dX9_isStep_230 (by decide) hc ?_
                          refine r_iconst O (v := 0) dX9_isStep_237 (by decide) ?_
                          obtain rfl := oi1 hf
                          refine AW.sub [] rfl ?_
                          exact hJ
                        · rw [if_neg hc] at hf
                          refine r_icmp_gt_f (tgt := 237) O dX9_isStep_230 (by decide) hc ?_
                          refine r_iconst O (v := 1) dX9_isStep_233 (by decide) ?_
                          refine r_goto (tgt := 238) O dX9_isStep_234 (by decide) ?_
                          obtain rfl := oi1 hf
                          refine AW.sub [] rfl ?_
                          exact hJ
    clear hf
    have hf := hg
    clear hg
    by_cases hc : a1 < 6
    · rw [if_pos hc] at hf
      refine r_icmp_lt_t (tgt := 31) O dX9_isStep_18 (by decide) hc ?_
      refine r_iconst O (v := 0) dX9_isStep_31 (by decide) ?_
      obtain rfl := oi1 hf
      refine AW.sub [1, 2, 3, 0] rfl ?_
      exact hJ
    · rw [if_neg hc] at hf
      refine r_icmp_lt_f (tgt := 31) O dX9_isStep_18 (by decide) hc ?_
      refine r_iload_n O 2 dX9_isStep_21 rfl ?_
      refine r_bipush O (v := 8) dX9_isStep_22 (by decide) ?_
      by_cases hc : 8 < a1
      · rw [if_pos hc] at hf
        refine r_icmp_gt_t (tgt := 31) O dX9_isStep_24 (by decide) hc ?_
        refine r_iconst O (v := 0) dX9_isStep_31 (by decide) ?_
        obtain rfl := oi1 hf
        refine AW.sub [1, 2, 3, 0] rfl ?_
        exact hJ
      · rw [if_neg hc] at hf
        refine r_icmp_gt_f (tgt := 31) O dX9_isStep_24 (by decide) hc ?_
        refine r_iconst O (v := 1) dX9_isStep_27 (by decide) ?_
        refine r_goto (tgt := 32) O dX9_isStep_28 (by decide) ?_
        obtain rfl := oi1 hf
        refine AW.sub [1, 2, 3, 0] rfl ?_
        exact hJ
  clear hf
  have hf := hg
  clear hg
  by_cases hc : a1 < 0
  · rw [if_pos hc] at hf
    refine r_if_lt_t (tgt := 13) O dX9_isStep_1 (by decide) hc ?_
    refine r_iconst O (v := 0) dX9_isStep_13 (by decide) ?_
    obtain rfl := oi1 hf
    refine AW.sub [0, 1, 2] rfl ?_
    exact hJ
  · rw [if_neg hc] at hf
    refine r_if_lt_f (tgt := 13) O dX9_isStep_1 (by decide) hc ?_
    refine r_iload_n O 1 dX9_isStep_4 rfl ?_
    refine r_iconst O (v := 5) dX9_isStep_5 (by decide) ?_
    by_cases hc : 5 < a1
    · rw [if_pos hc] at hf
      refine r_icmp_gt_t (tgt := 13) O dX9_isStep_6 (by decide) hc ?_
      refine r_iconst O (v := 0) dX9_isStep_13 (by decide) ?_
      obtain rfl := oi1 hf
      refine AW.sub [0, 1, 2] rfl ?_
      exact hJ
    · rw [if_neg hc] at hf
      refine r_icmp_gt_f (tgt := 13) O dX9_isStep_6 (by decide) hc ?_
      refine r_iconst O (v := 1) dX9_isStep_9 (by decide) ?_
      refine r_goto (tgt := 14) O dX9_isStep_10 (by decide) ?_
      obtain rfl := oi1 hf
      refine AW.sub [0, 1, 2] rfl ?_
      exact hJ
def f_X9_maker_49 (l0 : Nat) (l1 : Int32) (l2 : Int32) (n : Nat) (h : AH) (l3 : Int32) (l4 : Int32) : Option ((Int32 × AH) ⊕ Int32) := match n with
| 0 => none
| n + 1 =>
if l2 ≤ l4 then
some (.inr l3)
else
Option.bind (gP h 9 l0 5) fun x7 =>
Option.bind (ldI h x7 l4) fun x8 =>
Option.bind (gP h 9 l0 6) fun x9 =>
Option.bind (ldI h x9 l4) fun x10 =>
Option.bind (if 5 < l1 then
some (0 : Int32)
else
some (1 : Int32)) fun x11 =>
Option.bind (f_X9_isStep h x8 x10 x11) fun x12 =>
if x12 = 0 then
some (.inl ((-1) - l4, h))
else
Option.bind (f_X9_takes h x8) fun x14 =>
if l3 < x14 then
some (.inl ((-1) - l4, h))
else
Option.bind (f_X9_takes h x8) fun x16 =>
Option.bind (f_X9_gives h x8) fun x18 =>
if ((l3 - x16) + x18) ≤ 8 then
Option.bind (f_X9_gives h x8) fun x20 =>
Option.bind (f_X9_takes h x8) fun x22 =>
f_X9_maker_49 l0 l1 l2 n h (l3 + (x20 - x22)) (l4 + 1)
else
some (.inl ((-1) - l4, h))
def f_X9_maker_160 (l0 : Nat) (l1 : Int32) (l2 : Int32) (n : Nat) (h : AH) (l4 : Int32) : Option AH := match n with
| 0 => none
| n + 1 =>
if l2 ≤ l4 then
some h
else
Option.bind (gP h 9 l0 8) fun x27 =>
Option.bind (gP h 9 l0 5) fun x28 =>
Option.bind (ldI h x28 l4) fun x29 =>
Option.bind (stI h x27 ((l1 * 24) + l4) x29) fun h30 =>
Option.bind (gP h30 9 l0 9) fun x31 =>
Option.bind (gP h30 9 l0 6) fun x32 =>
Option.bind (ldI h30 x32 l4) fun x33 =>
Option.bind (stI h30 x31 ((l1 * 24) + l4) x33) fun h34 =>
f_X9_maker_160 l0 l1 l2 n h34 (l4 + 1)
def f_X9_maker (h : AH) (a0 : Nat) (a1 : Int32) : Option (Int32 × AH) :=
if aK h a0 = 9 then
Option.bind (pI h 9 a0 0 0) fun h1 =>
Option.bind (gI h1 9 a0 1) fun x2 =>
if x2 = 0 then
Option.bind (f_X9_fail h1 a0 1) fun w => match w with
| (x38, h39) =>
some (x38, h39)
else
if a1 < 0 then
Option.bind (f_X9_fail h1 a0 2) fun w => match w with
| (x3, h4) =>
some (x3, h4)
else
if a1 ≤ 8 then
Option.bind (gI h1 9 a0 4) fun x5 =>
Option.bind (pI h1 9 a0 4 0) fun h6 =>
Option.bind (f_X9_maker_49 a0 a1 x5 FU h6 0 0) fun w => match w with
| .inl r9 => some r9
| .inr x24 =>
if x24 = 1 then
Option.bind (gP h6 9 a0 7) fun x25 =>
Option.bind (stI h6 x25 a1 x5) fun h26 =>
Option.bind (f_X9_maker_160 a0 a1 x5 FU h26 0) fun h35 =>
some (0, h35)
else
some ((-1) - x5, h6)
else
Option.bind (f_X9_fail h1 a0 2) fun w => match w with
| (x36, h37) =>
some (x36, h37)
else none
set_option maxRecDepth 100000 in
set_option maxHeartbeats 4000000 in
theorem s_X9_maker_49 {p : Program} {l : Launch} {e : Env} {s : State} {m : MethodId} {args : Array Value} {below : List Frame} {meth : Method} {c : Code} {G : GT} {o : Except Nat (Option Value)} {h9 : AH} (O : OkC p l s m args meth c G cX9_maker 6 RX9) (hr : meth.sig.returnType = (some .int)) {l0 : Nat} {l1 : Int32} {l2 : Int32} {h : AH} {w : ((Int32 × AH) ⊕ Int32)} (he : ∀ r, w = .inl r → o = (.ok (some (.int r.1))) ∧ h9 = r.2) (kk : ∀ (w3 : Int32), w = .inr w3 → AW p l e { frames := 1, cells := 0, slots := 0, locals := 24 } s m args below meth c G 6 (vx_MQ below (QcN G o h9) (XcN G o h9) args s 0 0 (gA G)) h 0 0 141 [(0, .ref l0), (1, .int l1), (2, .int l2), (3, .int w3)] []) : ∀ (n : Nat), ∀ (l3 : Int32) (l4 : Int32), f_X9_maker_49 l0 l1 l2 n h l3 l4 = some w → AW p l e { frames := 1, cells := 0, slots := 0, locals := 24 } s m args below meth c G 6 (vx_MQ below (QcN G o h9) (XcN G o h9) args s 0 0 (gA G)) h 0 0 49 [(0, .ref l0), (1, .int l1), (2, .int l2), (3, .int l3), (4, .int l4)] [] := by
  intro n
  induction n with
  | zero =>
    intro l3 l4 hf
    simp [f_X9_maker_49] at hf
  | succ n ih =>
    intro l3 l4 hf
    unfold f_X9_maker_49 at hf
    refine r_iload O 4 dX9_maker_49 rfl ?_
    refine r_iload_n O 2 dX9_maker_51 rfl ?_
    by_cases hc : l2 ≤ l4
    · rw [if_pos hc] at hf
      refine r_icmp_ge_t (tgt := 141) O dX9_maker_52 (by decide) hc ?_
      obtain rfl := Option.some.inj hf
      refine AW.sub [0, 1, 2, 3] rfl ?_
      exact kk _ rfl
    · rw [if_neg hc] at hf
      refine r_icmp_ge_f (tgt := 141) O dX9_maker_52 (by decide) hc ?_
      refine r_aload_n O 0 dX9_maker_55 rfl (Or.inl rfl) ?_
      obtain ⟨x7, ex7, hf⟩ := bnd hf
      refine r_gP O cf9 5 (by decide) rfl fl_X9_17 ex7 dX9_maker_56 ?_
      refine r_iload O 4 dX9_maker_59 rfl ?_
      obtain ⟨x8, ex8, hf⟩ := bnd hf
      refine r_ldI O ex8 dX9_maker_61 ?_
      refine r_istore O [(5, .int x8), (0, .ref l0), (1, .int l1), (2, .int l2), (3, .int l3), (4, .int l4)] dX9_maker_62 (by decide) rfl ?_
      refine r_iload O 0 dX9_maker_64 rfl ?_
      refine r_aload_n O 1 dX9_maker_66 rfl (Or.inl rfl) ?_
      obtain ⟨x9, ex9, hf⟩ := bnd hf
      refine r_gP O cf9 6 (by decide) rfl fl_X9_21 ex9 dX9_maker_67 ?_
      refine r_iload O 5 dX9_maker_70 rfl ?_
      obtain ⟨x10, ex10, hf⟩ := bnd hf
      refine r_ldI O ex10 dX9_maker_72 ?_
      refine r_iload_n O 2 dX9_maker_73 rfl ?_
      refine r_iconst O (v := 5) dX9_maker_74 (by decide) ?_
      obtain ⟨x11, hg, hf⟩ := bnd hf
      have hJ : AW p l e { frames := 1, cells := 0, slots := 0, locals := 24 } s m args below meth c G 6 (vx_MQ below (QcN G o h9) (XcN G o h9) args s 0 0 (gA G)) h 0 0 83 [(0, .ref l0), (1, .int l1), (2, .int l2), (3, .int l3), (4, .int l4), (5, .int x8)] [.int x11, .int x10, .int x8] := by
        obtain ⟨x12, ex12, hf⟩ := bnd hf
        refine r_callS (av := [.int x8, .int x10, .int x11]) (st := []) O (c_X9_isStep ex12) mf_X9_isStep ml_X9_113 ms_X9_isStep (by decide) (Nat.le_of_ble_eq_true rfl) (by decide) dX9_maker_83 ?_
        by_cases hc : x12 = 0
        · rw [if_pos hc] at hf
          refine r_if_eq_t (tgt := 116) O dX9_maker_86 (by decide) hc ?_
          refine r_iconst O (v := -1) dX9_maker_116 (by decide) ?_
          refine r_iload O 4 dX9_maker_117 rfl ?_
          refine r_isub O dX9_maker_119 ?_
          obtain rfl := Option.some.inj hf
          obtain ⟨ho, hh⟩ := he _ rfl
          exact r_iret O hr ho hh.symm (by decide) (by decide) dX9_maker_120
        · rw [if_neg hc] at hf
          refine r_if_eq_f (tgt := 116) O dX9_maker_86 (by decide) hc ?_
          refine r_iload O 5 dX9_maker_89 rfl ?_
          obtain ⟨x14, ex14, hf⟩ := bnd hf
          refine r_callS (av := [.int x8]) (st := []) O (c_X9_takes ex14) mf_X9_takes ml_X9_117 ms_X9_takes (by decide) (Nat.le_of_ble_eq_true rfl) (by decide) dX9_maker_91 ?_
          refine r_iload_n O 3 dX9_maker_94 rfl ?_
          by_cases hc : l3 < x14
          · rw [if_pos hc] at hf
            refine r_icmp_gt_t (tgt := 116) O dX9_maker_95 (by decide) hc ?_
            refine r_iconst O (v := -1) dX9_maker_116 (by decide) ?_
            refine r_iload O 4 dX9_maker_117 rfl ?_
            refine r_isub O dX9_maker_119 ?_
            obtain rfl := Option.some.inj hf
            obtain ⟨ho, hh⟩ := he _ rfl
            exact r_iret O hr ho hh.symm (by decide) (by decide) dX9_maker_120
          · rw [if_neg hc] at hf
            refine r_icmp_gt_f (tgt := 116) O dX9_maker_95 (by decide) hc ?_
            refine r_iload_n O 3 dX9_maker_98 rfl ?_
            refine r_iload O 5 dX9_maker_99 rfl ?_
            obtain ⟨x16, ex16, hf⟩ := bnd hf
            refine r_callS (av := [.int x8]) (st := [.int l3]) O (c_X9_takes ex16) mf_X9_takes ml_X9_117 ms_X9_takes (by decide) (Nat.le_of_ble_eq_true rfl) (by decide) dX9_maker_101 ?_
            refine r_isub O dX9_maker_104 ?_
            refine r_iload O 5 dX9_maker_105 rfl ?_
            obtain ⟨x18, ex18, hf⟩ := bnd hf
            refine r_callS (av := [.int x8]) (st := [.int (l3 - x16)]) O (c_X9_gives ex18) mf_X9_gives ml_X9_120 ms_X9_gives (by decide) (Nat.le_of_ble_eq_true rfl) (by decide) dX9_maker_107 ?_
            refine r_iadd O dX9_maker_110 ?_
            refine r_bipush O (v := 8) dX9_maker_111 (by decide) ?_
            by_cases hc : ((l3 - x16) + x18) ≤ 8
            · rw [if_pos hc] at hf
              refine r_icmp_le_t (tgt := 121) O dX9_maker_113 (by decide) hc ?_
              refine r_iload_n O 3 dX9_maker_121 rfl ?_
              refine r_iload O 5 dX9_maker_122 rfl ?_
              obtain ⟨x20, ex20, hf⟩ := bnd hf
              refine r_callS (av := [.int x8]) (st := [.int l3]) O (c_X9_gives ex20) mf_X9_gives ml_X9_120 ms_X9_gives (by decide) (Nat.le_of_ble_eq_true rfl) (by decide) dX9_maker_124 ?_
              refine r_iload O 5 dX9_maker_127 rfl ?_
              obtain ⟨x22, ex22, hf⟩ := bnd hf
              refine r_callS (av := [.int x8]) (st := [.int x20, .int l3]) O (c_X9_takes ex22) mf_X9_takes ml_X9_117 ms_X9_takes (by decide) (Nat.le_of_ble_eq_true rfl) (by decide) dX9_maker_129 ?_
              refine r_isub O dX9_maker_132 ?_
              refine r_iadd O dX9_maker_133 ?_
              refine r_istore_n O [(3, .int (l3 + (x20 - x22))), (0, .ref l0), (1, .int l1), (2, .int l2), (4, .int l4), (5, .int x8)] dX9_maker_134 (by decide) rfl ?_
              refine r_iinc O 4 [(4, .int (l4 + 1)), (3, .int (l3 + (x20 - x22))), (0, .ref l0), (1, .int l1), (2, .int l2), (5, .int x8)] dX9_maker_135 rfl rfl (by decide) rfl ?_
              refine r_goto (tgt := 49) O dX9_maker_138 (by decide) ?_
              refine AW.sub [2, 3, 4, 1, 0] rfl ?_
              exact ih _ _ hf
            · rw [if_neg hc] at hf
              refine r_icmp_le_f (tgt := 121) O dX9_maker_113 (by decide) hc ?_
              refine r_iconst O (v := -1) dX9_maker_116 (by decide) ?_
              refine r_iload O 4 dX9_maker_117 rfl ?_
              refine r_isub O dX9_maker_119 ?_
              obtain rfl := Option.some.inj hf
              obtain ⟨ho, hh⟩ := he _ rfl
              exact r_iret O hr ho hh.symm (by decide) (by decide) dX9_maker_120
      clear hf
      have hf := hg
      clear hg
      by_cases hc : 5 < l1
      · rw [if_pos hc] at hf
        refine r_icmp_gt_t (tgt := 82) O dX9_maker_75 (by decide) hc ?_
        refine r_iconst O (v := 0) dX9_maker_82 (by decide) ?_
        obtain rfl := oi1 hf
        refine AW.sub [1, 2, 3, 4, 5, 0] rfl ?_
        exact hJ
      · rw [if_neg hc] at hf
        refine r_icmp_gt_f (tgt := 82) O dX9_maker_75 (by decide) hc ?_
        refine r_iconst O (v := 1) dX9_maker_78 (by decide) ?_
        refine r_goto (tgt := 83) O dX9_maker_79 (by decide) ?_
        obtain rfl := oi1 hf
        refine AW.sub [1, 2, 3, 4, 5, 0] rfl ?_
        exact hJ
set_option maxRecDepth 100000 in
set_option maxHeartbeats 4000000 in
theorem s_X9_maker_160 {p : Program} {l : Launch} {e : Env} {s : State} {m : MethodId} {args : Array Value} {below : List Frame} {meth : Method} {c : Code} {G : GT} {Q : State → Prop} (O : OkC p l s m args meth c G cX9_maker 6 RX9) {l0 : Nat} {l1 : Int32} {l2 : Int32} {wh : AH} (kk : AW p l e { frames := 1, cells := 0, slots := 0, locals := 24 } s m args below meth c G 6 Q wh 0 0 210 [] []) : ∀ (n : Nat), ∀ (h : AH) (l4 : Int32), f_X9_maker_160 l0 l1 l2 n h l4 = some wh → AW p l e { frames := 1, cells := 0, slots := 0, locals := 24 } s m args below meth c G 6 Q h 0 0 160 [(0, .ref l0), (1, .int l1), (2, .int l2), (4, .int l4)] [] := by
  intro n
  induction n with
  | zero =>
    intro h l4 hf
    simp [f_X9_maker_160] at hf
  | succ n ih =>
    intro h l4 hf
    unfold f_X9_maker_160 at hf
    refine r_iload O 3 dX9_maker_160 rfl ?_
    refine r_iload_n O 2 dX9_maker_162 rfl ?_
    by_cases hc : l2 ≤ l4
    · rw [if_pos hc] at hf
      refine r_icmp_ge_t (tgt := 210) O dX9_maker_163 (by decide) hc ?_
      obtain rfl := oi1 hf
      refine AW.sub [] rfl ?_
      exact kk
    · rw [if_neg hc] at hf
      refine r_icmp_ge_f (tgt := 210) O dX9_maker_163 (by decide) hc ?_
      refine r_aload_n O 0 dX9_maker_166 rfl (Or.inl rfl) ?_
      obtain ⟨x27, ex27, hf⟩ := bnd hf
      refine r_gP O cf9 8 (by decide) rfl fl_X9_27 ex27 dX9_maker_167 ?_
      refine r_iload_n O 1 dX9_maker_170 rfl ?_
      refine r_bipush O (v := 24) dX9_maker_171 (by decide) ?_
      refine r_imul O dX9_maker_173 ?_
      refine r_iload O 3 dX9_maker_174 rfl ?_
      refine r_iadd O dX9_maker_176 ?_
      refine r_aload_n O 0 dX9_maker_177 rfl (Or.inl rfl) ?_
      obtain ⟨x28, ex28, hf⟩ := bnd hf
      refine r_gP O cf9 5 (by decide) rfl fl_X9_17 ex28 dX9_maker_178 ?_
      refine r_iload O 3 dX9_maker_181 rfl ?_
      obtain ⟨x29, ex29, hf⟩ := bnd hf
      refine r_ldI O ex29 dX9_maker_183 ?_
      obtain ⟨h30, eh30, hf⟩ := bnd hf
      refine r_stI O eh30 dX9_maker_184 ?_
      refine r_aload_n O 0 dX9_maker_185 rfl (Or.inl rfl) ?_
      obtain ⟨x31, ex31, hf⟩ := bnd hf
      refine r_gP O cf9 9 (by decide) rfl fl_X9_30 ex31 dX9_maker_186 ?_
      refine r_iload_n O 1 dX9_maker_189 rfl ?_
      refine r_bipush O (v := 24) dX9_maker_190 (by decide) ?_
      refine r_imul O dX9_maker_192 ?_
      refine r_iload O 3 dX9_maker_193 rfl ?_
      refine r_iadd O dX9_maker_195 ?_
      refine r_aload_n O 0 dX9_maker_196 rfl (Or.inl rfl) ?_
      obtain ⟨x32, ex32, hf⟩ := bnd hf
      refine r_gP O cf9 6 (by decide) rfl fl_X9_21 ex32 dX9_maker_197 ?_
      refine r_iload O 3 dX9_maker_200 rfl ?_
      obtain ⟨x33, ex33, hf⟩ := bnd hf
      refine r_ldI O ex33 dX9_maker_202 ?_
      obtain ⟨h34, eh34, hf⟩ := bnd hf
      refine r_stI O eh34 dX9_maker_203 ?_
      refine r_iinc O 3 [(4, .int (l4 + 1)), (0, .ref l0), (1, .int l1), (2, .int l2)] dX9_maker_204 rfl rfl (by decide) rfl ?_
      refine r_goto (tgt := 160) O dX9_maker_207 (by decide) ?_
      refine AW.sub [1, 2, 3, 0] rfl ?_
      exact ih _ _ hf
theorem kd_X9_maker {h : AH} {a0 : Nat} {a1 : Int32} {r : (Int32 × AH)} (hf : f_X9_maker h a0 a1 = some r) : aK h a0 = 9 := by
  unfold f_X9_maker at hf
  exact (ifk hf).1
set_option maxRecDepth 100000 in
set_option maxHeartbeats 4000000 in
theorem c_X9_maker {l : Launch} {G : GT} {h : AH} {a0 : Nat} {a1 : Int32} {r : (Int32 × AH)} (hf : f_X9_maker h a0 a1 = some r) : Cn l yX9_maker cX9_maker 6 (some .int) 1 24 0 0 G h [.ref a0, .int a1] (.ok (some (.int r.1))) r.2 := by
  refine Cn.of (by decide) (Nat.le_of_ble_eq_true rfl) ?_
  intro p e s m args below meth c O hr hx hin
  have O : OkC p l s m args meth c G cX9_maker 6 RX9 := O
  unfold f_X9_maker at hf
  obtain ⟨hk0, hf⟩ := ifk hf
  refine AW.sub (lv' := [(0, .ref a0), (1, .int a1)]) [0, 1] rfl ?_
  refine r_aload_n O 0 dX9_maker_0 rfl (Or.inl rfl) ?_
  refine r_iconst O (v := 0) dX9_maker_1 (by decide) ?_
  obtain ⟨h1, eh1, hf⟩ := bnd hf
  refine r_pI O cf9 0 (by decide) rfl fl_X9_1 rfl eh1 dX9_maker_2 ?_
  refine r_aload_n O 0 dX9_maker_5 rfl (Or.inl rfl) ?_
  obtain ⟨x2, ex2, hf⟩ := bnd hf
  refine r_gI O cf9 1 (by decide) rfl fl_X9_13 ex2 dX9_maker_6 ?_
  by_cases hc : x2 = 0
  · rw [if_pos hc] at hf
    refine r_if_ne_f (tgt := 18) O dX9_maker_9 (by decide) hc ?_
    refine r_aload_n O 0 dX9_maker_12 rfl (Or.inl rfl) ?_
    refine r_iconst O (v := 1) dX9_maker_13 (by decide) ?_
    obtain ⟨⟨x38, h39⟩, ex38, hf⟩ := bnd hf
    dsimp only at hf
    refine r_callV (av := [.int 1]) (st := []) O (c_X9_fail ex38) mf_X9_fail cf9 (kd_X9_fail ex38) ml_X9_106 mi_X9_fail mv_X9_fail (by decide) (Nat.le_of_ble_eq_true rfl) (by decide) dX9_maker_14 ?_
    obtain rfl := Option.some.inj hf
    exact r_iret O hr rfl rfl (by decide) (by decide) dX9_maker_17
  · rw [if_neg hc] at hf
    refine r_if_ne_t (tgt := 18) O dX9_maker_9 (by decide) hc ?_
    refine r_iload_n O 1 dX9_maker_18 rfl ?_
    by_cases hc : a1 < 0
    · rw [if_pos hc] at hf
      refine r_if_lt_t (tgt := 28) O dX9_maker_19 (by decide) hc ?_
      refine r_aload_n O 0 dX9_maker_28 rfl (Or.inl rfl) ?_
      refine r_iconst O (v := 2) dX9_maker_29 (by decide) ?_
      obtain ⟨⟨x3, h4⟩, ex3, hf⟩ := bnd hf
      dsimp only at hf
      refine r_callV (av := [.int 2]) (st := []) O (c_X9_fail ex3) mf_X9_fail cf9 (kd_X9_fail ex3) ml_X9_106 mi_X9_fail mv_X9_fail (by decide) (Nat.le_of_ble_eq_true rfl) (by decide) dX9_maker_30 ?_
      obtain rfl := Option.some.inj hf
      exact r_iret O hr rfl rfl (by decide) (by decide) dX9_maker_33
    · rw [if_neg hc] at hf
      refine r_if_lt_f (tgt := 28) O dX9_maker_19 (by decide) hc ?_
      refine r_iload_n O 1 dX9_maker_22 rfl ?_
      refine r_bipush O (v := 8) dX9_maker_23 (by decide) ?_
      by_cases hc : a1 ≤ 8
      · rw [if_pos hc] at hf
        refine r_icmp_le_t (tgt := 34) O dX9_maker_25 (by decide) hc ?_
        refine r_aload_n O 0 dX9_maker_34 rfl (Or.inl rfl) ?_
        obtain ⟨x5, ex5, hf⟩ := bnd hf
        refine r_gI O cf9 4 (by decide) rfl fl_X9_110 ex5 dX9_maker_35 ?_
        refine r_istore_n O [(2, .int x5), (0, .ref a0), (1, .int a1)] dX9_maker_38 (by decide) rfl ?_
        refine r_aload_n O 1 dX9_maker_39 rfl (Or.inl rfl) ?_
        refine r_iconst O (v := 0) dX9_maker_40 (by decide) ?_
        obtain ⟨h6, eh6, hf⟩ := bnd hf
        refine r_pI O cf9 4 (by decide) rfl fl_X9_110 rfl eh6 dX9_maker_41 ?_
        refine r_iconst O (v := 0) dX9_maker_44 (by decide) ?_
        refine r_istore_n O [(3, .int 0), (2, .int x5), (0, .ref a0), (1, .int a1)] dX9_maker_45 (by decide) rfl ?_
        refine r_iconst O (v := 0) dX9_maker_46 (by decide) ?_
        refine r_istore O [(4, .int 0), (3, .int 0), (2, .int x5), (0, .ref a0), (1, .int a1)] dX9_maker_47 (by decide) rfl ?_
        obtain ⟨w9, hw, hf⟩ := bnd hf
        refine AW.sub [3, 4, 2, 1, 0] rfl ?_
        refine s_X9_maker_49 O hr (w := w9) ?_ ?_ _ _ _ hw
        · intro r9 hr9
          subst hr9
          dsimp only at hf
          obtain rfl := Option.some.inj hf
          exact ⟨rfl, rfl⟩
        · intro x24 hw9
          subst hw9
          dsimp only at hf
          refine r_iload_n O 3 dX9_maker_141 rfl ?_
          refine r_iconst O (v := 1) dX9_maker_142 (by decide) ?_
          by_cases hc : x24 = 1
          · rw [if_pos hc] at hf
            refine r_icmp_eq_t (tgt := 150) O dX9_maker_143 (by decide) hc ?_
            refine r_aload_n O 0 dX9_maker_150 rfl (Or.inl rfl) ?_
            obtain ⟨x25, ex25, hf⟩ := bnd hf
            refine r_gP O cf9 7 (by decide) rfl fl_X9_24 ex25 dX9_maker_151 ?_
            refine r_iload_n O 1 dX9_maker_154 rfl ?_
            refine r_iload_n O 2 dX9_maker_155 rfl ?_
            obtain ⟨h26, eh26, hf⟩ := bnd hf
            refine r_stI O eh26 dX9_maker_156 ?_
            refine r_iconst O (v := 0) dX9_maker_157 (by decide) ?_
            refine r_istore O [(4, .int 0), (0, .ref a0), (1, .int a1), (2, .int x5), (3, .int x24)] dX9_maker_158 (by decide) rfl ?_
            obtain ⟨h35, hw, hf⟩ := bnd hf
            refine AW.sub [1, 2, 3, 0] rfl ?_
            refine s_X9_maker_160 O ?_ _ _ _ hw
            refine r_iconst O (v := 0) dX9_maker_210 (by decide) ?_
            obtain rfl := Option.some.inj hf
            exact r_iret O hr rfl rfl (by decide) (by decide) dX9_maker_211
          · rw [if_neg hc] at hf
            refine r_icmp_eq_f (tgt := 150) O dX9_maker_143 (by decide) hc ?_
            refine r_iconst O (v := -1) dX9_maker_146 (by decide) ?_
            refine r_iload_n O 2 dX9_maker_147 rfl ?_
            refine r_isub O dX9_maker_148 ?_
            obtain rfl := Option.some.inj hf
            exact r_iret O hr rfl rfl (by decide) (by decide) dX9_maker_149
      · rw [if_neg hc] at hf
        refine r_icmp_le_f (tgt := 34) O dX9_maker_25 (by decide) hc ?_
        refine r_aload_n O 0 dX9_maker_28 rfl (Or.inl rfl) ?_
        refine r_iconst O (v := 2) dX9_maker_29 (by decide) ?_
        obtain ⟨⟨x36, h37⟩, ex36, hf⟩ := bnd hf
        dsimp only at hf
        refine r_callV (av := [.int 2]) (st := []) O (c_X9_fail ex36) mf_X9_fail cf9 (kd_X9_fail ex36) ml_X9_106 mi_X9_fail mv_X9_fail (by decide) (Nat.le_of_ble_eq_true rfl) (by decide) dX9_maker_30 ?_
        obtain rfl := Option.some.inj hf
        exact r_iret O hr rfl rfl (by decide) (by decide) dX9_maker_33
def f_X9_kindOf (h : AH) (a0 : Int32) : Option Int32 :=
Option.bind (if 240 ≤ a0 then
some (6 + ((a0 - 240) - (a0 - 240) / 3 * 3))
else
some (a0 - a0 / 6 * 6)) fun x1 =>
some x1
set_option maxRecDepth 100000 in
set_option maxHeartbeats 4000000 in
theorem c_X9_kindOf {l : Launch} {G : GT} {h : AH} {a0 : Int32} {r : Int32} (hf : f_X9_kindOf h a0 = some r) : Cn l yX9_kindOf cX9_kindOf 1 (some .int) 0 0 0 0 G h [.int a0] (.ok (some (.int r))) h := by
  refine Cn.of (by decide) (Nat.le_of_ble_eq_true rfl) ?_
  intro p e s m args below meth c O hr hx hin
  have O : OkC p l s m args meth c G cX9_kindOf 1 RX9 := O
  unfold f_X9_kindOf at hf
  refine AW.sub (lv' := [(0, .int a0)]) [0] rfl ?_
  refine r_iload_n O 0 dX9_kindOf_0 rfl ?_
  refine r_sipush O (v := 240) dX9_kindOf_1 (by decide) ?_
  obtain ⟨x1, hg, hf⟩ := bnd hf
  have hJ : AW p l e { frames := 0, cells := 0, slots := 0, locals := 0 } s m args below meth c G 1 (vx_MQ below (QcN G (.ok (some (.int r))) h) (XcN G (.ok (some (.int r))) h) args s 0 0 (gA G)) h 0 0 24 [] [.int x1] := by
    obtain rfl := Option.some.inj hf
    exact r_iret O hr rfl rfl (by decide) (by decide) dX9_kindOf_24
  clear hf
  have hf := hg
  clear hg
  by_cases hc : 240 ≤ a0
  · rw [if_pos hc] at hf
    refine r_icmp_ge_t (tgt := 14) O dX9_kindOf_4 (by decide) hc ?_
    refine r_bipush O (v := 6) dX9_kindOf_14 (by decide) ?_
    refine r_iload_n O 0 dX9_kindOf_16 rfl ?_
    refine r_sipush O (v := 240) dX9_kindOf_17 (by decide) ?_
    refine r_isub O dX9_kindOf_20 ?_
    refine r_iconst O (v := 3) dX9_kindOf_21 (by decide) ?_
    refine r_irem O dX9_kindOf_22 (by decide) ?_
    refine r_iadd O dX9_kindOf_23 ?_
    obtain rfl := oi1 hf
    refine AW.sub [] rfl ?_
    exact hJ
  · rw [if_neg hc] at hf
    refine r_icmp_ge_f (tgt := 14) O dX9_kindOf_4 (by decide) hc ?_
    refine r_iload_n O 0 dX9_kindOf_7 rfl ?_
    refine r_bipush O (v := 6) dX9_kindOf_8 (by decide) ?_
    refine r_irem O dX9_kindOf_10 (by decide) ?_
    refine r_goto (tgt := 24) O dX9_kindOf_11 (by decide) ?_
    obtain rfl := oi1 hf
    refine AW.sub [] rfl ?_
    exact hJ
def f_X9_ownerOf (h : AH) (a0 : Int32) : Option Int32 :=
Option.bind (if 240 ≤ a0 then
some ((a0 - 240) / 3)
else
some (a0 / 6)) fun x1 =>
some x1
set_option maxRecDepth 100000 in
set_option maxHeartbeats 4000000 in
theorem c_X9_ownerOf {l : Launch} {G : GT} {h : AH} {a0 : Int32} {r : Int32} (hf : f_X9_ownerOf h a0 = some r) : Cn l yX9_ownerOf cX9_ownerOf 1 (some .int) 0 0 0 0 G h [.int a0] (.ok (some (.int r))) h := by
  refine Cn.of (by decide) (Nat.le_of_ble_eq_true rfl) ?_
  intro p e s m args below meth c O hr hx hin
  have O : OkC p l s m args meth c G cX9_ownerOf 1 RX9 := O
  unfold f_X9_ownerOf at hf
  refine AW.sub (lv' := [(0, .int a0)]) [0] rfl ?_
  refine r_iload_n O 0 dX9_ownerOf_0 rfl ?_
  refine r_sipush O (v := 240) dX9_ownerOf_1 (by decide) ?_
  obtain ⟨x1, hg, hf⟩ := bnd hf
  have hJ : AW p l e { frames := 0, cells := 0, slots := 0, locals := 0 } s m args below meth c G 1 (vx_MQ below (QcN G (.ok (some (.int r))) h) (XcN G (.ok (some (.int r))) h) args s 0 0 (gA G)) h 0 0 21 [] [.int x1] := by
    obtain rfl := Option.some.inj hf
    exact r_iret O hr rfl rfl (by decide) (by decide) dX9_ownerOf_21
  clear hf
  have hf := hg
  clear hg
  by_cases hc : 240 ≤ a0
  · rw [if_pos hc] at hf
    refine r_icmp_ge_t (tgt := 14) O dX9_ownerOf_4 (by decide) hc ?_
    refine r_iload_n O 0 dX9_ownerOf_14 rfl ?_
    refine r_sipush O (v := 240) dX9_ownerOf_15 (by decide) ?_
    refine r_isub O dX9_ownerOf_18 ?_
    refine r_iconst O (v := 3) dX9_ownerOf_19 (by decide) ?_
    refine r_idiv O dX9_ownerOf_20 (by decide) ?_
    obtain rfl := oi1 hf
    refine AW.sub [] rfl ?_
    exact hJ
  · rw [if_neg hc] at hf
    refine r_icmp_ge_f (tgt := 14) O dX9_ownerOf_4 (by decide) hc ?_
    refine r_iload_n O 0 dX9_ownerOf_7 rfl ?_
    refine r_bipush O (v := 6) dX9_ownerOf_8 (by decide) ?_
    refine r_idiv O dX9_ownerOf_10 (by decide) ?_
    refine r_goto (tgt := 21) O dX9_ownerOf_11 (by decide) ?_
    obtain rfl := oi1 hf
    refine AW.sub [] rfl ?_
    exact hJ
def f_X9_isCell (h : AH) (a0 : Nat) (a1 : Nat) (a2 : Int32) : Option Int32 :=
if aK h a0 = 9 then
Option.bind (gP h 9 a0 7) fun x1 =>
Option.bind (f_X9_kindOf h a2) fun x2 =>
Option.bind (ldI h x1 x2) fun x4 =>
if x4 = 0 then
some 0
else
Option.bind (if 240 ≤ a2 then
Option.bind (f_X9_ownerOf h a2) fun x6 =>
Option.bind (gI h 9 a0 3) fun x8 =>
if x8 ≤ x6 then
some (0 : Int32)
else
some (1 : Int32)
else
Option.bind (f_X9_ownerOf h a2) fun x9 =>
Option.bind (gI h 9 a0 2) fun x11 =>
if x11 ≤ x9 then
some (0 : Int32)
else
Option.bind (f_X9_ownerOf h a2) fun x12 =>
Option.bind (ldI h a1 (212 + x12)) fun x14 =>
if x14 = (-1) then
some (0 : Int32)
else
some (1 : Int32)) fun x5 =>
Option.bind (bz x5) fun x15 =>
some x15
else none
theorem kd_X9_isCell {h : AH} {a0 : Nat} {a1 : Nat} {a2 : Int32} {r : Int32} (hf : f_X9_isCell h a0 a1 a2 = some r) : aK h a0 = 9 := by
  unfold f_X9_isCell at hf
  exact (ifk hf).1
set_option maxRecDepth 100000 in
set_option maxHeartbeats 4000000 in
theorem c_X9_isCell {l : Launch} {G : GT} {h : AH} {a0 : Nat} {a1 : Nat} {a2 : Int32} {r : Int32} (hf : f_X9_isCell h a0 a1 a2 = some r) : Cn l yX9_isCell cX9_isCell 3 (some .boolean) 1 20 0 0 G h [.ref a0, .ref a1, .int a2] (.ok (some (.int r))) h := by
  refine Cn.of (by decide) (Nat.le_of_ble_eq_true rfl) ?_
  intro p e s m args below meth c O hr hx hin
  have O : OkC p l s m args meth c G cX9_isCell 3 RX9 := O
  unfold f_X9_isCell at hf
  obtain ⟨hk0, hf⟩ := ifk hf
  refine AW.sub (lv' := [(0, .ref a0), (1, .ref a1), (2, .int a2)]) [0, 1, 2] rfl ?_
  refine r_aload_n O 0 dX9_isCell_0 rfl (Or.inl rfl) ?_
  obtain ⟨x1, ex1, hf⟩ := bnd hf
  refine r_gP O cf9 7 (by decide) rfl fl_X9_24 ex1 dX9_isCell_1 ?_
  refine r_iload_n O 2 dX9_isCell_4 rfl ?_
  obtain ⟨x2, ex2, hf⟩ := bnd hf
  refine r_callS (av := [.int a2]) (st := [.ref x1]) O (c_X9_kindOf ex2) mf_X9_kindOf ml_X9_127 ms_X9_kindOf (by decide) (Nat.le_of_ble_eq_true rfl) (by decide) dX9_isCell_5 ?_
  obtain ⟨x4, ex4, hf⟩ := bnd hf
  refine r_ldI O ex4 dX9_isCell_8 ?_
  by_cases hc : x4 = 0
  · rw [if_pos hc] at hf
    refine r_if_ne_f (tgt := 14) O dX9_isCell_9 (by decide) hc ?_
    refine r_iconst O (v := 0) dX9_isCell_12 (by decide) ?_
    obtain rfl := Option.some.inj hf
    exact r_zret O hr (by decide) rfl rfl (by decide) (by decide) dX9_isCell_13
  · rw [if_neg hc] at hf
    refine r_if_ne_t (tgt := 14) O dX9_isCell_9 (by decide) hc ?_
    refine r_iload_n O 2 dX9_isCell_14 rfl ?_
    refine r_sipush O (v := 240) dX9_isCell_15 (by decide) ?_
    obtain ⟨x5, hg, hf⟩ := bnd hf
    have hJ : AW p l e { frames := 1, cells := 0, slots := 0, locals := 20 } s m args below meth c G 3 (vx_MQ below (QcN G (.ok (some (.int r))) h) (XcN G (.ok (some (.int r))) h) args s 0 0 (gA G)) h 0 0 70 [] [.int x5] := by
      obtain ⟨x15, ex15, hf⟩ := bnd hf
      refine r_nmI (bz_eq ex15) ?_
      obtain rfl := Option.some.inj hf
      exact r_zret O hr (bz_or ex15) rfl rfl (by decide) (by decide) dX9_isCell_70
    clear hf
    have hf := hg
    clear hg
    by_cases hc : 240 ≤ a2
    · rw [if_pos hc] at hf
      refine r_icmp_ge_t (tgt := 54) O dX9_isCell_18 (by decide) hc ?_
      refine r_iload_n O 2 dX9_isCell_54 rfl ?_
      obtain ⟨x6, ex6, hf⟩ := bnd hf
      refine r_callS (av := [.int a2]) (st := []) O (c_X9_ownerOf ex6) mf_X9_ownerOf ml_X9_130 ms_X9_ownerOf (by decide) (Nat.le_of_ble_eq_true rfl) (by decide) dX9_isCell_55 ?_
      refine r_aload_n O 0 dX9_isCell_58 rfl (Or.inl rfl) ?_
      obtain ⟨x8, ex8, hf⟩ := bnd hf
      refine r_gI O cf9 3 (by decide) rfl fl_X9_103 ex8 dX9_isCell_59 ?_
      by_cases hc : x8 ≤ x6
      · rw [if_pos hc] at hf
        refine r_icmp_ge_t (tgt := 69) O dX9_isCell_62 (by decide) hc ?_
        refine r_iconst O (v := 0) dX9_isCell_69 (by decide) ?_
        obtain rfl := oi1 hf
        refine AW.sub [] rfl ?_
        exact hJ
      · rw [if_neg hc] at hf
        refine r_icmp_ge_f (tgt := 69) O dX9_isCell_62 (by decide) hc ?_
        refine r_iconst O (v := 1) dX9_isCell_65 (by decide) ?_
        refine r_goto (tgt := 70) O dX9_isCell_66 (by decide) ?_
        obtain rfl := oi1 hf
        refine AW.sub [] rfl ?_
        exact hJ
    · rw [if_neg hc] at hf
      refine r_icmp_ge_f (tgt := 54) O dX9_isCell_18 (by decide) hc ?_
      refine r_iload_n O 2 dX9_isCell_21 rfl ?_
      obtain ⟨x9, ex9, hf⟩ := bnd hf
      refine r_callS (av := [.int a2]) (st := []) O (c_X9_ownerOf ex9) mf_X9_ownerOf ml_X9_130 ms_X9_ownerOf (by decide) (Nat.le_of_ble_eq_true rfl) (by decide) dX9_isCell_22 ?_
      refine r_aload_n O 0 dX9_isCell_25 rfl (Or.inl rfl) ?_
      obtain ⟨x11, ex11, hf⟩ := bnd hf
      refine r_gI O cf9 2 (by decide) rfl fl_X9_100 ex11 dX9_isCell_26 ?_
      by_cases hc : x11 ≤ x9
      · rw [if_pos hc] at hf
        refine r_icmp_ge_t (tgt := 50) O dX9_isCell_29 (by decide) hc ?_
        refine r_iconst O (v := 0) dX9_isCell_50 (by decide) ?_
        refine r_goto (tgt := 70) O dX9_isCell_51 (by decide) ?_
        obtain rfl := oi1 hf
        refine AW.sub [] rfl ?_
        exact hJ
      · rw [if_neg hc] at hf
        refine r_icmp_ge_f (tgt := 50) O dX9_isCell_29 (by decide) hc ?_
        refine r_aload_n O 1 dX9_isCell_32 rfl (Or.inl rfl) ?_
        refine r_sipush O (v := 212) dX9_isCell_33 (by decide) ?_
        refine r_iload_n O 2 dX9_isCell_36 rfl ?_
        obtain ⟨x12, ex12, hf⟩ := bnd hf
        refine r_callS (av := [.int a2]) (st := [.int 212, .ref a1]) O (c_X9_ownerOf ex12) mf_X9_ownerOf ml_X9_130 ms_X9_ownerOf (by decide) (Nat.le_of_ble_eq_true rfl) (by decide) dX9_isCell_37 ?_
        refine r_iadd O dX9_isCell_40 ?_
        obtain ⟨x14, ex14, hf⟩ := bnd hf
        refine r_ldI O ex14 dX9_isCell_41 ?_
        refine r_iconst O (v := -1) dX9_isCell_42 (by decide) ?_
        by_cases hc : x14 = (-1)
        · rw [if_pos hc] at hf
          refine r_icmp_eq_t (tgt := 50) O dX9_isCell_43 (by decide) hc ?_
          refine r_iconst O (v := 0) dX9_isCell_50 (by decide) ?_
          refine r_goto (tgt := 70) O dX9_isCell_51 (by decide) ?_
          obtain rfl := oi1 hf
          refine AW.sub [] rfl ?_
          exact hJ
        · rw [if_neg hc] at hf
          refine r_icmp_eq_f (tgt := 50) O dX9_isCell_43 (by decide) hc ?_
          refine r_iconst O (v := 1) dX9_isCell_46 (by decide) ?_
          refine r_goto (tgt := 70) O dX9_isCell_47 (by decide) ?_
          obtain rfl := oi1 hf
          refine AW.sub [] rfl ?_
          exact hJ
