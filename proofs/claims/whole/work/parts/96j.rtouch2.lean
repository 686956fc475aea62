/-! THE OTHER ONE: isTouched; fresh numbers -/
def QT (a i : Nat) : Prop := a = 69 ∨ a = 70 ∨ (a = 53 ∧ (i = 32 ∨ i = 34))
theorem QL_T {a i : Nat} (q : QL a i) : QT a i := by unfold QL at q; unfold QT; omega
/-- what judging needs: P in judged (60), A in plan (59), N in numbers (62), F in fresh (63) -/
def Cg (h : AH) (B : BK) (P A : AP) (N F : Nat → Int64) : Prop := Cr h B P 60 ∧ Cr h B A 59 ∧ (∀ d, d < 258 → aJ h 62 d = N d) ∧ (∀ d, d < 258 → aJ h 63 d = F d)
section RTouch3
variable {h : AH} {B : BK} {P A : AP} {N F : Nat → Int64}
theorem Cg.fg {h' : AH} {Q : Nat → Nat → Prop} (x : Cg h B P A N F) (f : Fg h h' Q) (h1 : ¬ Q 53 2) (h2 : ¬ Q 53 3) (h3 : ∀ i, ¬ Q 56 i) (h4 : ∀ i, ¬ Q 57 i) (h5 : ∀ i, ¬ Q 58 i) (h6 : ∀ i, ¬ Q 59 i) (h7 : ∀ i, ¬ Q 60 i) (h8 : ∀ i, ¬ Q 62 i) (h9 : ∀ i, ¬ Q 63 i) : Cg h' B P A N F := ⟨x.1.fg f h1 h2 h3 h4 h5 h7, x.2.1.fg f h1 h2 h3 h4 h5 h6, fun d hd => by rw [f.j (h8 d)]; exact x.2.2.1 d hd, fun d hd => by rw [f.j (h9 d)]; exact x.2.2.2 d hd⟩
theorem Cg.qt {h' : AH} (x : Cg h B P A N F) (f : Fg h h' QT) : Cg h' B P A N F := x.fg f (fun q => by unfold QT at q; omega) (fun q => by unfold QT at q; omega) (fun i q => by unfold QT at q; omega) (fun i q => by unfold QT at q; omega) (fun i q => by unfold QT at q; omega) (fun i q => by unfold QT at q; omega) (fun i q => by unfold QT at q; omega) (fun i q => by unfold QT at q; omega) (fun i q => by unfold QT at q; omega)
theorem it93 (W : WfB B) (fP : WfA P (bT B) (bL B)) (fA : WfA A (bT B) (bL B)) (hN : ∀ d, isC B P d = false → N d = 0) (hF : ∀ d, isC B A d = false → F d = 0) (x : Cg h B P A N F) {L M : List Nat} {o : Nat} (ho : o < 40) (lk : LkR h L) (hL : L.length ≤ 1100) (hM : M.length = L.length) (m70 : ∀ i (hi : i < M.length), aI h 70 i = nI M[i]) (mlt : ∀ i, i ∈ M → i < 5258) (okA : ∀ i, i ∈ L → okI A o i) (okP : ∀ i, i ∈ M → okI P o i) : ∀ (m n k : Nat), k + m = L.length → m < n →
    (f_X9_isTouched_93 53 (nI o) n h (nI k) = some (.inr ()) ∧ ∀ j (h1 : j < L.length) (h2 : j < M.length), k ≤ j → L[j] = M[j] ∧ vlG A F o L[j] = vlG P N o L[j]) ∨ (f_X9_isTouched_93 53 (nI o) n h (nI k) = some (.inl (1, h)) ∧ ∃ j, ∃ (h1 : j < L.length) (h2 : j < M.length), ¬ (L[j] = M[j] ∧ vlG A F o L[j] = vlG P N o L[j])) := by
  have S := x.1.1
  intro m
  induction m with
  | zero =>
    intro n k hk hn
    obtain ⟨n, rfl⟩ : ∃ j, n = j + 1 := ⟨n - 1, by omega⟩
    refine Or.inl ⟨?_, fun j h1 h2 h3 => by omega⟩
    unfold f_X9_isTouched_93
    rw [gi_53 S, bs, lk.1, if_pos (nI_le (by omega) (by omega))]
  | succ m ih =>
    intro n k hk hn
    obtain ⟨n, rfl⟩ : ∃ j, n = j + 1 := ⟨n - 1, by omega⟩
    have hkl : k < L.length := by omega
    have hkm : k < M.length := by omega
    have l69 := lk.2.2 k hkl
    have l70 := m70 k hkm
    have b1 := lk.2.1 _ (List.getElem_mem hkl)
    have b2 := mlt _ (List.getElem_mem hkm)
    by_cases q : L[k] = M[k]
    · have oA := okA _ (List.getElem_mem hkl)
      have oP : okI P o L[k] := by rw [q]; exact okP _ (List.getElem_mem hkm)
      have vA := r_valueOf W fA x.2.1 (k_63 S) (e_63 S) (N := F) (fun d hd _ => x.2.2.2 d hd) (fun d _ q => hF d q) ho oA
      have vP := r_valueOf W fP x.1 (k_62 S) (e_62 S) (N := N) (fun d hd _ => x.2.2.1 d hd) (fun d _ q => hN d q) ho oP
      have hu : f_X9_isTouched_93 53 (nI o) (n + 1) h (nI k) = if lg_cmp (vlG A F o L[k]) (vlG P N o L[k]) = 0 then f_X9_isTouched_93 53 (nI o) n h (nI (k + 1)) else some (.inl (1, h)) := by
        conv => lhs; unfold f_X9_isTouched_93
        rw [gi_53 S, bs, lk.1, if_neg (nI_ge hkl (by omega)), g_53_33 S, bs, ld_69 S (by omega), bs, l69, g_53_35 S, bs, ld_70 S (by omega), bs, l70, if_pos (by rw [q]), g_53_10 S, bs, g_53_14 S, bs, bs, ld_69 S (by omega), bs, l69, vA, bs, g_53_11 S, bs, g_53_13 S, bs, bs, ld_69 S (by omega), bs, l69, vP, bs, nI_1]
      rw [hu]
      by_cases q2 : vlG A F o L[k] = vlG P N o L[k]
      · rw [if_pos ((cmp_eq _ _).mpr q2)]
        rcases ih n (k + 1) (by omega) (by omega) with ⟨e, g⟩ | ⟨e, g⟩
        · refine Or.inl ⟨e, fun j h1 h2 h3 => ?_⟩
          rcases Nat.lt_or_ge k j with q3 | q3
          · exact g j h1 h2 q3
          · have : j = k := by omega
            subst this
            exact ⟨q, q2⟩
        · exact Or.inr ⟨e, g⟩
      · rw [if_neg (fun e => q2 ((cmp_eq _ _).mp e))]
        exact Or.inr ⟨rfl, k, hkl, hkm, fun y => q2 y.2⟩
    · have hu : f_X9_isTouched_93 53 (nI o) (n + 1) h (nI k) = some (.inl (1, h)) := by
        unfold f_X9_isTouched_93
        rw [gi_53 S, bs, lk.1, if_neg (nI_ge hkl (by omega)), g_53_33 S, bs, ld_69 S (by omega), bs, l69, g_53_35 S, bs, ld_70 S (by omega), bs, l70, if_neg (fun e => q ((nI_eq (by omega) (by omega)).mp e))]
      exact Or.inr ⟨hu, k, hkl, hkm, fun y => q y.1⟩
theorem r_isTouched (W : WfB B) (fP : WfA P (bT B) (bL B)) (fA : WfA A (bT B) (bL B)) (hN : ∀ d, isC B P d = false → N d = 0) (hF : ∀ d, isC B A d = false → F d = 0) (x : Cg h B P A N F) {c : Nat} (hc : c < 258) (hA : isC B A c = true) (hz : fzC A c = false) (op : Bool) : ∃ h', f_X9_isTouched h 53 (nI c) (bI op) = some (bI (op || tcG B P A N F c), h') ∧ Fg h h' QT := by
  have S := x.1.1
  have h24 := n24 W c
  have how := ow_lt hc
  unfold f_X9_isTouched
  rw [if_pos (k_53 S)]
  cases op with
  | true => exact ⟨h, by rw [if_neg (by decide)]; rfl, Fg.rf _ _⟩
  | false =>
    rw [if_pos (by decide), g_53_11 S, bs, r_isCell S W x.1.2.1 x.1.2.2.1 x.1.2.2.2 fP hc, bs]
    unfold tcG
    cases eP : isC B P c with
    | false => exact ⟨h, by rw [if_pos (by decide)]; rfl, Fg.rf _ _⟩
    | true =>
      rw [if_neg (by decide), bs, r_isFrozen x.1.2.2.1 x.1.2.2.2 fP hc, bs]
      cases eZ : fzC P c with
      | true => exact ⟨h, by rw [if_neg (by decide)]; rfl, Fg.rf _ _⟩
      | false =>
        rw [if_pos (by decide), bs]
        obtain ⟨h1, e1, f1, l1⟩ := r_lookAt W (Or.inr (Or.inl rfl)) fP hc eP x.1
        have hidP : idA B P c = idL B P c (nsN B c) := by unfold idA; rw [if_neg (by rw [eZ]; decide)]
        have hidA : idA B A c = idL B A c (nsN B c) := by unfold idA; rw [if_neg (by rw [hz]; decide)]
        rw [hidP] at l1
        have lenP := idL_len (B := B) fP c (nsN B c)
        have lenA := idL_len (B := B) fA c (nsN B c)
        have f1' := f1.mono (fun a i q => QL_T q)
        have x1 := x.qt f1'
        have S1 := x1.1.1
        obtain ⟨h2, eh2⟩ : ∃ z, z = sI h1 53 34 (nI (idL B P c (nsN B c)).length) := ⟨_, rfl⟩
        have f2 : Fg h1 h2 QT := by rw [eh2]; exact Fg.si (Or.inr (Or.inr ⟨rfl, Or.inr rfl⟩))
        have x2 := x1.qt f2
        have S2 := x2.1.1
        have l32 : aI h2 53 32 = nI (idL B P c (nsN B c)).length := by rw [eh2, sI_I, if_neg (by omega)]; exact l1.1
        obtain ⟨h3, e3, f3, g3⟩ := r_copyInts (sp := 0) (dp := 0) (n := (idL B P c (nsN B c)).length) (k_69 S2) (k_70 S2) (by rw [e_69 S2]; omega) (by rw [e_70 S2]; omega) (by rw [e_69 S2]; decide) (by rw [e_70 S2]; decide) (Or.inl (by decide))
        have e3' : f_X9_copyInts h2 69 0 70 0 (nI (idL B P c (nsN B c)).length) = some h3 := e3
        have f3' : Fg h2 h3 QT := f3.mono (fun a i q => by unfold QT; omega)
        have x3 := x2.qt f3'
        have S3 := x3.1.1
        obtain ⟨h4, e4, f4, l4⟩ := r_lookAt W (Or.inl rfl) fA hc hA x3.2.1
        rw [hidA] at l4
        have f4' := f4.mono (fun a i q => QL_T q)
        have x4 := x3.qt f4'
        have S4 := x4.1.1
        have l34 : aI h4 53 34 = nI (idL B P c (nsN B c)).length := by rw [f4.i (by unfold QL; omega), f3.i (by omega), eh2, sI_I, if_pos ⟨rfl, rfl⟩]
        have ff : Fg h h4 QT := ((f1'.tr f2).tr f3').tr f4'
        rw [e1, bs, gi_53 S1, bs, l1.1, pi_53 S1, bs, ← eh2, g_53_33 S2, bs, g_53_35 S2, bs, gi_53 S2, bs, l32, e3', bs, g_53_10 S3, bs, e4, bs, gi_53 S4, bs, gi_53 S4, bs, l4.1, l34]
        have hdf := df_all (N := N) (F := F) (W := W) fP fA hc eP hA
        by_cases ql : (idL B A c (nsN B c)).length = (idL B P c (nsN B c)).length
        · rw [if_pos (by rw [ql]), r_ownerOf h4 hc, bs]
          have m70 : ∀ i (hi : i < (idL B P c (nsN B c)).length), aI h4 70 i = nI (idL B P c (nsN B c))[i] := fun i hi => by
            have := g3 i hi
            rw [Nat.zero_add] at this
            rw [f4.i (by unfold QL; omega), this, eh2, sI_I, if_neg (by omega)]
            exact l1.2.2 i hi
          have inP : ∀ i, i ∈ idL B P c (nsN B c) → okI P (owN c) i := fun i hi => by
            obtain ⟨s, hs, h2⟩ := idL_in.mp hi
            exact id_ok (W := W) fP hc eP hs i h2
          have inA : ∀ i, i ∈ idL B A c (nsN B c) → okI A (owN c) i := fun i hi => by
            obtain ⟨s, hs, h2⟩ := idL_in.mp hi
            exact id_ok (W := W) fA hc hA hs i h2
          rcases it93 W fP fA hN hF x4 how l4 (by omega) ql.symm m70 l1.2.1 inA inP (idL B A c (nsN B c)).length FU 0 (by omega) (by unfold FU; omega) with ⟨e, g⟩ | ⟨e, j, j1, j2, g⟩
          · have e' : f_X9_isTouched_93 53 (nI (owN c)) FU h4 0 = some (.inr ()) := e
            have heq : idL B P c (nsN B c) = idL B A c (nsN B c) := by
              apply List.ext_getElem ql.symm
              intro i h1 h2
              exact (g i h2 h1 (by omega)).1.symm
            have hfalse := hdf.mpr ⟨heq, fun i hi => by
              obtain ⟨k, hk, ek⟩ := List.mem_iff_getElem.mp hi
              rw [← ek]
              exact (g k hk (by omega) (by omega)).2⟩
            refine ⟨h4, ?_, ff⟩
            rw [e', bs, hfalse]
            rfl
          · have e' : f_X9_isTouched_93 53 (nI (owN c)) FU h4 0 = some (.inl (1, h4)) := e
            have htrue : (List.range (nsN B c)).any (dfS B P A N F c) = true := by
              cases ea : (List.range (nsN B c)).any (dfS B P A N F c) with
              | true => rfl
              | false =>
                obtain ⟨p1, p2⟩ := hdf.mp ea
                exact absurd ⟨by simp only [p1], p2 _ (List.getElem_mem j1)⟩ g
            refine ⟨h4, ?_, ff⟩
            rw [e', bs, htrue]
            rfl
        · have htrue : (List.range (nsN B c)).any (dfS B P A N F c) = true := by
            cases ea : (List.range (nsN B c)).any (dfS B P A N F c) with
            | true => rfl
            | false => exact absurd (by rw [(hdf.mp ea).1]) ql
          rw [if_neg (fun e => ql ((nI_eq (by omega) (by omega)).mp e)), htrue]
          exact ⟨h4, rfl, ff⟩
end RTouch3
