/-! from the law's entry to the functions -/
abbrev gnw : Cond := Jvm.Cond.and given_1 narrow_1
def strK : List Nat := [174, 268, 270, 272, 276, 279, 283, 65, 77, 86]
def strOk : Cond → Bool
  | .stringRef _ k _ => strK.contains k
  | _ => true
theorem strs_ok : lw_tbl.all strOk = true := by decide +kernel
theorem strs_ex : strK.all (fun k => decide (Cond.exactly (.string RX8 k) "java/lang/String" ∈ flatC gnw)) = true := by decide +kernel
theorem tk_el : (List.range 25).all (fun j => decide (Cond.eq (.elem (.static RX8 "TAKES" "[I") (.int (Int32.ofNat j))) (.int (takesL.getD j 0)) ∈ flatC gnw)) = true := by decide +kernel
theorem gv_el : (List.range 25).all (fun j => decide (Cond.eq (.elem (.static RX8 "GIVES" "[I") (.int (Int32.ofNat j))) (.int (givesL.getD j 0)) ∈ flatC gnw)) = true := by decide +kernel
theorem tk_ar : Cond.arrayOf (.static RX8 "TAKES" "[I") .int ∈ flatC gnw := by decide +kernel
theorem gv_ar : Cond.arrayOf (.static RX8 "GIVES" "[I") .int ∈ flatC gnw := by decide +kernel
theorem tk_ln : Cond.eq (.length (.static RX8 "TAKES" "[I")) (.int 25) ∈ flatC gnw := by decide +kernel
theorem gv_ln : Cond.eq (.length (.static RX8 "GIVES" "[I")) (.int 25) ∈ flatC gnw := by decide +kernel
theorem us_r : Cond.isRef (.static Bundle.tN "UNASSIGNED_STACK" Bundle.steD) ∈ flatC gnw := by decide +kernel
theorem ss_r : Cond.isRef (.static Bundle.tN "SUPPRESSED_SENTINEL" Bundle.listD) ∈ flatC gnw := by decide +kernel
theorem nc_1 : Cond.not (.castable "java/lang/IllegalStateException" "java/lang/IndexOutOfBoundsException") ∈ flatC gnw := by decide +kernel
theorem nc_2 : Cond.not (.castable "java/lang/IllegalArgumentException" "java/lang/IndexOutOfBoundsException") ∈ flatC gnw := by decide +kernel
theorem nc_3 : Cond.not (.castable "java/lang/IllegalArgumentException" "java/lang/IllegalStateException") ∈ flatC gnw := by decide +kernel
theorem ls_t : Cond.laysStatic RX8 "TAKES" "[I" ∈ lw_tbl := by decide +kernel
theorem ls_g : Cond.laysStatic RX8 "GIVES" "[I" ∈ lw_tbl := by decide +kernel
theorem ls_u : Cond.laysStatic Bundle.tN "UNASSIGNED_STACK" Bundle.steD ∈ lw_tbl := by decide +kernel
theorem ls_s : Cond.laysStatic Bundle.tN "SUPPRESSED_SENTINEL" Bundle.listD ∈ lw_tbl := by decide +kernel
theorem in_8 : Cond.initialized RX8 ∈ lw_tbl := by decide +kernel
theorem in_T : Cond.initialized Bundle.tN ∈ lw_tbl := by decide +kernel
theorem ao_2 : Cond.arrayOver (.object RX2) ∈ lw_tbl := by decide +kernel
theorem nt_tab : ntbl.all (fun w => w.onTables) = true := by decide +kernel
theorem tab_of {args : Array Value} {s : State} {nm : String} {f : Nat → Int32} {A : Nat → Prop} (hfl : ∀ w ∈ flatC gnw, w.before args s = true) (hA : ∀ a : Nat, a < s.heap.size → ¬ A a) (har : Cond.arrayOf (.static RX8 nm "[I") .int ∈ flatC gnw) (hln : Cond.eq (.length (.static RX8 nm "[I")) (.int 25) ∈ flatC gnw) (hel : (List.range 25).all (fun j => decide (Cond.eq (.elem (.static RX8 nm "[I") (.int (Int32.ofNat j))) (.int (f j)) ∈ flatC gnw)) = true) (hls : (Cond.laysStatic RX8 nm "[I").before args s = true) (hin : (Cond.initialized RX8).before args s = true) :
    ∃ t : Nat, va_Z RX8 nm "[I" (.ref t) A s s.heap ∧ va_T .int t 25 (fun j => .int (f j)) A s s.heap := by
  obtain ⟨t, ht, hT⟩ := va_Tof (N := 25) (f := fun j => .int (f j)) (A := A) (by decide) (hfl _ har) (va_eqt (hfl _ hln)) (fun j hj => va_eqt (hfl _ (by
    have h := List.all_eq_true.mp hel j (List.mem_range.mpr hj)
    simpa using h))) hA
  exact ⟨t, va_Zref hls hin ht hA, hT⟩
theorem arr_of {args : Array Value} {s : State} {ty : FieldType} (h : (Cond.arrayClass ty).before args s = true) (hty : ∀ C, ty ≠ .object C) : ∃ cA : ClassId, ArrOfT s cA ty ∧ va_RA s cA ty := by
  obtain ⟨cA, kA, comp, h1, h2, h3⟩ := Cond.arrayClass_spec h
  refine ⟨cA, fun n z => ⟨fun k h => (by cases h), kA, h2, comp, h3⟩, ?_⟩
  cases ty <;> first | exact absurd rfl (hty _) | exact h1
def h00 : AH := (0, fun _ => 14, fun _ => 0, fun _ _ => 0, fun _ _ => 0, fun _ _ => none)
set_option maxHeartbeats 4000000 in
set_option maxRecDepth 100000 in
/-- the law, from its entry, out of what its function gives -/
theorem start_of {p : Program} {e : Env} {s : State} {m : MethodId} {below : List Frame} {meth : Method} {c : Code} {l : Launch} (hst : l.stackTraces = false) {b L : Nat} {xs : Nat → Int32} (C0 : lw_At p s m meth c b L xs) {wh : AH} (hf : f_L_law L xs h00 = some wh) : W p l e room_1 s m #[Value.ref b] below meth c s.heap [] 0 0 (lw_Z below #[Value.ref b] s) (entryFrame m ([Value.ref b] : List Value).toArray 8) := by
  obtain ⟨hx, hb, hr, hml, hown, hts, hX, hbl, hlocks, hgv⟩ := id C0
  have hfl := flat_of_before gnw hgv
  have hA : ∀ a : Nat, a < s.heap.size → ¬ (fun q : Nat => s.heap.size ≤ q) a := fun a h => Nat.not_le.mpr h
  have gin : ∀ w ∈ gtbl, w ∈ lw_tbl := fun w hw => (List.mem_filter.mp hw).1
  have htg : ∀ w ∈ gtbl, w.before #[Value.ref b] s = true := fun w hw => hts w (gin w hw)
  obtain ⟨t1, z1, T1⟩ := tab_of (A := fun q : Nat => s.heap.size ≤ q) hfl hA tk_ar tk_ln tk_el (hts _ ls_t) (hts _ in_8)
  obtain ⟨t2, z2, T2⟩ := tab_of (A := fun q : Nat => s.heap.size ≤ q) hfl hA gv_ar gv_ln gv_el (hts _ ls_g) (hts _ in_8)
  obtain ⟨cI, aI1, aI2⟩ := arr_of (htg _ waI) (fun C h => by cases h)
  obtain ⟨cJ, aJ1, aJ2⟩ := arr_of (htg _ waJ) (fun C h => by cases h)
  obtain ⟨cZ, aZ1, aZ2⟩ := arr_of (htg _ waZ) (fun C h => by cases h)
  obtain ⟨comp, cM, kM, f1, f2, f3, f4, f5⟩ := Cond.arrayOver_spec (hts _ ao_2)
  have hkn : ∀ (ci : Nat) (C : String) (T : u_T) (N : Nat), CF ci C T N → ∃ (cC : ClassId) (iS : Nat → Nat), u_Kn s C T N cC iS := fun ci C T N F => u_known (n := N) htg F.2.1 (htg _ F.2.2.2.2.2.2.1)
  obtain ⟨c0, i0, k0⟩ := hkn _ _ _ _ cf0
  obtain ⟨c1, i1, k1⟩ := hkn _ _ _ _ cf1
  obtain ⟨c2, i2, k2⟩ := hkn _ _ _ _ cf2
  obtain ⟨c3, i3, k3⟩ := hkn _ _ _ _ cf3
  obtain ⟨c4, i4, k4⟩ := hkn _ _ _ _ cf4
  obtain ⟨c5, i5, k5⟩ := hkn _ _ _ _ cf5
  obtain ⟨c6, i6, k6⟩ := hkn _ _ _ _ cf6
  obtain ⟨c7, i7, k7⟩ := hkn _ _ _ _ cf7
  obtain ⟨c8, i8, k8⟩ := hkn _ _ _ _ cf8
  obtain ⟨c9, i9, k9⟩ := hkn _ _ _ _ cf9
  obtain ⟨D, hD⟩ : ∃ D : va_G, ∀ (k : Nat) (q : vw_C), vwCl[k]? = some q → u_Kn s q.1 q.2.1 q.2.2 (D.1 k) (D.2 k) := by
    refine ⟨(fun k => match k with | 0 => c0 | 1 => c1 | 2 => c2 | 3 => c3 | 4 => c4 | 5 => c5 | 6 => c6 | 7 => c7 | 8 => c8 | _ => c9, fun k => match k with | 0 => i0 | 1 => i1 | 2 => i2 | 3 => i3 | 4 => i4 | 5 => i5 | 6 => i6 | 7 => i7 | 8 => i8 | _ => i9), ?_⟩
    intro k q hq
    match k, hq with
    | 0, hq => cases hq; exact k0
    | 1, hq => cases hq; exact k1
    | 2, hq => cases hq; exact k2
    | 3, hq => cases hq; exact k3
    | 4, hq => cases hq; exact k4
    | 5, hq => cases hq; exact k5
    | 6, hq => cases hq; exact k6
    | 7, hq => cases hq; exact k7
    | 8, hq => cases hq; exact k8
    | 9, hq => cases hq; exact k9
    | k + 10, hq => simp [vwCl] at hq
  obtain ⟨G, hG⟩ : ∃ G : GT, G = (D, (cI, cJ, cZ, cM), s.heap.size, (fun k => match k with | 0 => b | 1 => t1 | _ => t2), 0, fun _ => 0) := ⟨_, rfl⟩
  have hE : EnvOk G l s s.heap := by
    subst hG
    refine ⟨hst, ⟨hD, ?_⟩, fun w hw => va_Nw.of (List.all_eq_true.mp nt_tab w hw) (hts w (List.mem_filter.mp hw).1), va_AO.of (hts _ ao_2), ⟨z1, T1⟩, ⟨z2, T2⟩, vx_Zqof (hts _ ls_u) (hts _ in_T) (hfl _ us_r) hA, vx_Zqof (hts _ ls_s) (hts _ in_T) (hfl _ ss_r) hA, ?_, va_Nc.of (hfl _ nc_1), va_Nc.of (hfl _ nc_2), va_Nc.of (hfl _ nc_3)⟩
    · intro k q hq
      match k, hq with
      | 0, hq => cases hq; exact ⟨aI1, aI2⟩
      | 1, hq => cases hq; exact ⟨aJ1, aJ2⟩
      | 2, hq => cases hq; exact ⟨aZ1, aZ2⟩
      | 3, hq => cases hq; exact ⟨fun n z => ⟨fun k h => (by cases h), kM, f3, comp, f4⟩, kM, comp, f3, f4, f1, f5⟩
      | k + 4, hq => simp [tysG] at hq
    · intro k t ht
      have hk : strK.contains k = true := List.all_eq_true.mp strs_ok _ ht
      have he := List.all_eq_true.mp strs_ex k (by simpa using hk)
      obtain ⟨a, c9', cell, k9', h1, -⟩ := Cond.exactly_spec (hfl _ (by simpa using he))
      exact ⟨a, vk_R.of (hts _ ht) h1⟩
  have hb0 : gS G 0 = b := by rw [hG]; rfl
  have hz0 : gZ G = s.heap.size := by rw [hG]
  have O : OkC p l s m #[Value.ref (gS G 0)] meth c G cL_law 8 RL := by
    rw [hb0]
    exact ⟨hx, hb, hml, hown, htg, hE, hlocks, by rw [hz0]; exact Nat.le_refl _⟩
  have hSX : scX G L xs s := by
    refine ⟨by rw [hb0]; exact hX, by rw [hb0]; exact hbl, ?_⟩
    show ¬ gZ G ≤ gS G 0
    rw [hb0, hz0]; omega
  have hR : Rep G h00 s.heap := ⟨by rw [hz0]; rfl, fun a ha => absurd ha (Nat.not_lt_zero a), fun a _ => rfl⟩
  have kk : AW p l e room_1 s m #[Value.ref (gS G 0)] below meth c G 8 (lw_Z below #[Value.ref (gS G 0)] s) wh 601024 7293034 1880 [] [] := by
    refine r_iconst O (v := 1) dL_law_1880 (by decide) ?_
    intro H locs ls hR' hS' hl'
    refine va_forget (fun q hq => by have := hS'.2.2 q hq; rw [← hz0]; exact this) ?_
    exact lw_ret hx hb hr hlocks dL_law_1881
  have w := s_L_law (l := l) (e := e) (below := below) O hSX kk hf
  have hl := lv_entry ([.ref b]) (n := 8) (Nat.le_of_ble_eq_true rfl)
  rw [lg_entry_eq]
  have w2 := w s.heap [] _ hR va_S.rf (by
    have e9 : List.map (cP G) [(0, Value.retAddr 0)] = [(0, Value.ref b)] := by simp [cP, cv, hb0]
    rw [e9]; exact hl)
  rw [hb0] at w2
  exact w2
