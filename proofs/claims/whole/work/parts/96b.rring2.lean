/-! THE OTHER ONE: the ring's walk -/
def QW (a i : Nat) : Prop := a = 68 ∨ a = 69 ∨ (a = 53 ∧ (i = 24 ∨ i = 32))
theorem QW_R {a i : Nat} (q : QW a i) : QR a i := by unfold QW at q; unfold QR; omega
section RRing2
variable {B : BK} {A : AP} {b : Nat}
theorem nx_cl {s : Nat} (hs : isC B A s = true) (c : Nat) : nxA B A s c = nrG (dsG (isC B A) (rdB B A) s) (clA B A c) := by
  unfold nxA nrG clA
  refine nr_filter _ _ (fun d _ hd => ?_)
  cases e : dsG (isC B A) (rdB B A) s d with
  | none => rfl
  | some k => rw [ds_C hs e] at hd; cases hd
theorem cl_rd {W : WfB B} (f : WfA A (bT B) (bL B)) {c : Nat} (hc : c < 258) (hC : isC B A c = true) (hz : fzC A c = false) (d : Nat) : rdB B A c d = true ↔ d ∈ clA B A c := by
  unfold rdB clA
  rw [hC, hz, List.mem_filter]
  constructor
  · intro q
    simp only [Bool.and_eq_true, decide_eq_true_eq] at q
    exact ⟨by simpa using q.2, q.1.1.2⟩
  · rintro ⟨q1, q2⟩
    have := sdL_lt W f hc (Nat.le_refl _) q1
    simp [q2, this, q1]
theorem rd_z {c d : Nat} (h : rdB B A c d = true) : fzC A c = false := by
  unfold rdB at h
  simp only [Bool.and_eq_true, decide_eq_true_eq] at h
  simpa using h.1.1.1.2
theorem cl_lt {W : WfB B} (f : WfA A (bT B) (bL B)) {c : Nat} (hc : c < 258) : ∀ d, d ∈ clA B A c → d < 258 := fun d hd => sdL_lt W f hc (Nat.le_refl _) (List.mem_filter.mp hd).1
/-- one turn of the walk -/
theorem fr33s {h : AH} (W : WfB B) (hb : Bx b) (f : WfA A (bT B) (bL B)) {s c d : Nat} (hsC : isC B A s = true) (hc : c < 258) (hC : isC B A c = true) (hz : fzC A c = false) (hd8 : d < 258) (hnx : nxA B A s c = some d) (x : Cr h B A b) (r : RdR h B A 258) (me : MeR h B A s) {F : List Nat} (g : RgR h F) (hF : F.length < 258) (n : Nat) :
    ∃ h', f_X9_findRing_33 53 b (nI s) (n + 1) h (nI c) = (if nI d = nI s then some h' else f_X9_findRing_33 53 b (nI s) n h' (nI d)) ∧ Fg h h' QW ∧ RgR h' (F ++ [c]) := by
  have S := x.1
  obtain ⟨h1, eh1⟩ : ∃ z, z = sI h 68 F.length (nI c) := ⟨_, rfl⟩
  have f1 : Fg h h1 QW := by rw [eh1]; exact Fg.si (Or.inl rfl)
  have S1 := f1.S S
  have l1 : aI h1 53 24 = nI F.length := by rw [eh1, sI_I, if_neg (by omega)]; exact g.1
  obtain ⟨h2, eh2⟩ : ∃ z, z = sI h1 53 24 (nI (F.length + 1)) := ⟨_, rfl⟩
  have f2 : Fg h1 h2 QW := by rw [eh2]; exact Fg.si (Or.inr (Or.inr ⟨rfl, Or.inl rfl⟩))
  have x2 := (x.qr hb (f1.mono (fun a i q => QW_R q))).qr hb (f2.mono (fun a i q => QW_R q))
  obtain ⟨h3, e3, f3, l3⟩ := r_lookAt W hb f hc hC x2
  have f3' : Fg h2 h3 QW := f3.mono (fun a i q => by unfold QL at q; unfold QW; omega)
  have x3 := x2.qr hb (f3'.mono (fun a i q => QW_R q))
  have me3 : MeR h3 B A s := fun k hk => by rw [f3.i (by unfold QL; omega), eh2, sI_I, if_neg (by omega), eh1, sI_I, if_neg (by omega)]; exact me k hk
  have hid : idA B A c = idL B A c (nsN B c) := by unfold idA; rw [if_neg (by rw [hz]; decide)]
  have hlen : (idA B A c).length ≤ 1100 := by
    rw [hid]
    have := idL_len (B := B) f c (nsN B c)
    have := n24 W c
    omega
  have e4 := fr65 W f x3 me3 l3 hlen (nI s) (idA B A c).length FU 0 none (by omega) (by unfold FU; omega) (fun z hz => by cases hz)
  have hcl : ((idA B A c).drop 0).filterMap (gcF B A) = clA B A c := by
    rw [List.drop_zero, hid, gc_L (W := W) f hc hC _ (Nat.le_refl _)]
    rfl
  rw [hcl] at e4
  have hbest : (clA B A c).foldl (nbR (dsG (isC B A) (rdB B A) s)) none = some d := nr_ref (fun y m e => (ds_s e).1) (by rw [← nx_cl hsC]; exact hnx)
  rw [hbest] at e4
  have e4' : f_X9_findRing_65 53 b (nI s) FU h3 (-1) 0 = some (nI d) := e4
  refine ⟨h3, ?_, (f1.tr f2).tr f3', ?_, ?_, fun i hi => ?_⟩
  · conv => lhs; unfold f_X9_findRing_33
    rw [g_53_25 S, bs, gi_53 S, bs, g.1, st_68 S hF, bs, ← eh1, gi_53 S1, bs, l1, nI_1, pi_53 S1, bs, ← eh2, e3, bs, e4', bs]
  · rw [f3.i (by unfold QL; omega), eh2, sI_I, if_pos ⟨rfl, rfl⟩, List.length_append]; rfl
  · rw [List.length_append]; simp; omega
  · rw [List.length_append] at hi
    rw [f3.i (by unfold QL; omega), eh2, sI_I, if_neg (by omega), eh1, sI_I]
    by_cases q : i = F.length
    · subst q
      rw [if_pos ⟨rfl, rfl⟩]
      simp
    · have hi2 : i < F.length := by simp at hi; omega
      rw [if_neg (fun y => q y.2), g.2.2 i hi2, List.getElem_append_left hi2]
theorem fr33 (W : WfB B) (hb : Bx b) (f : WfA A (bT B) (bL B)) {s : Nat} (hs8 : s < 258) (hsC : isC B A s = true) : ∀ (k n m c : Nat) (h : AH) (F : List Nat), exG (isC B A) (rdB B A) s (k + 1) c → c < 258 → k + 1 ≤ m → k + 1 < n → F.length + (k + 1) ≤ 258 → Cr h B A b → RdR h B A 258 → MeR h B A s → RgR h F →
    ∃ h', f_X9_findRing_33 53 b (nI s) n h (nI c) = some h' ∧ Fg h h' QW ∧ RgR h' (F ++ rgG (nxA B A s) s m c) := by
  intro k
  induction k with
  | zero =>
    intro n m c h F hex hc hm hn hF x r me g
    obtain ⟨n, rfl⟩ : ∃ j, n = j + 1 := ⟨n - 1, by omega⟩
    obtain ⟨m, rfl⟩ : ∃ j, m = j + 1 := ⟨m - 1, by omega⟩
    obtain ⟨e0, p1, p2, -⟩ := ex_s hex
    have hC := rd_C p2
    have hz := rd_z p2
    obtain ⟨d, q1, q2, q3, q4⟩ := nx_s (cl_rd (W := W) f hc hC hz) (cl_lt (W := W) f hc) hex
    rw [← nx_cl hsC] at q1
    have hds := ex_0 q4
    obtain ⟨h1, e1, f1, g1⟩ := fr33s W hb f hsC hc hC hz q2 q1 x r me g (by omega) n
    rw [if_pos (by rw [hds])] at e1
    refine ⟨h1, e1, f1, ?_⟩
    have : rgG (nxA B A s) s (m + 1) c = [c] := by
      show c :: (match nxA B A s c with
        | none => []
        | some d => if d = s then [] else rgG (nxA B A s) s m d) = [c]
      rw [q1]
      simp only []
      rw [if_pos hds]
    rw [this]
    exact g1
  | succ k ih =>
    intro n m c h F hex hc hm hn hF x r me g
    obtain ⟨n, rfl⟩ : ∃ j, n = j + 1 := ⟨n - 1, by omega⟩
    obtain ⟨m, rfl⟩ : ∃ j, m = j + 1 := ⟨m - 1, by omega⟩
    obtain ⟨e0, p1, p2, -⟩ := ex_s hex
    have hC := rd_C p2
    have hz := rd_z p2
    obtain ⟨d, q1, q2, q3, q4⟩ := nx_s (cl_rd (W := W) f hc hC hz) (cl_lt (W := W) f hc) hex
    rw [← nx_cl hsC] at q1
    have hds := ex_ne q4
    obtain ⟨h1, e1, f1, g1⟩ := fr33s W hb f hsC hc hC hz q2 q1 x r me g (by omega) n
    rw [if_neg (fun e => hds ((nI_eq (by omega) (by omega)).mp e))] at e1
    have me1 : MeR h1 B A s := fun j hj => by rw [f1.i (by unfold QW; omega)]; exact me j hj
    obtain ⟨h2, e2, f2, g2⟩ := ih n m d h1 (F ++ [c]) q4 q2 (by omega) (by omega) (by rw [List.length_append]; simp; omega) (x.qr hb (f1.mono (fun a i q => QW_R q))) (r.qr (f1.mono (fun a i q => QW_R q))) me1 g1
    refine ⟨h2, by rw [e1, e2], f1.tr f2, ?_⟩
    have : rgG (nxA B A s) s (m + 1) c = c :: rgG (nxA B A s) s m d := by
      show c :: (match nxA B A s c with
        | none => []
        | some d => if d = s then [] else rgG (nxA B A s) s m d) = _
      rw [q1]
      simp only []
      rw [if_neg hds]
    rw [this, List.append_cons]
    exact g2
theorem rg_1 {nx : Nat → Option Nat} {s n c d : Nat} (e : nx c = some d) : rgG nx s (n + 1) c = c :: (if d = s then [] else rgG nx s n d) := by
  show c :: (match nx c with
    | none => []
    | some d => if d = s then [] else rgG nx s n d) = _
  rw [e]
theorem r_findRing {h : AH} (W : WfB B) (hb : Bx b) (f : WfA A (bT B) (bL B)) (x : Cr h B A b) (r : RdR h B A 258) (hal : alB B A = false) : ∃ h', f_X9_findRing h 53 b = some h' ∧ Fg h h' QR ∧ RgR h' (rgA B A) := by
  have hna : ¬ alG (isC B A) (rdB B A) := fun q => by rw [al_iff.mpr q] at hal; cases hal
  obtain ⟨t, t1, t2, t3⟩ := left_ring (fun c d q => rdB_c c d q) hna
  obtain ⟨s, hs⟩ : ∃ s, rbG (isC B A) (rdB B A) = some s := by
    cases e : rbG (isC B A) (rdB B A) with
    | some s => exact ⟨s, rfl⟩
    | none =>
      have := fn_n e t t1
      rw [t2, t3] at this
      cases this
  obtain ⟨s1, s2, -⟩ := fn_s hs
  rw [Bool.and_eq_true] at s2
  obtain ⟨h1, e1, f1, m1⟩ := fr2 W hb f hs s FU h 0 (by omega) (by unfold FU; omega) x r
  have x1 := x.qm hb f1
  have r1 := r.qm f1
  obtain ⟨h2, eh2⟩ : ∃ z, z = sI h1 53 24 0 := ⟨_, rfl⟩
  have f2 : Fg h1 h2 QW := by rw [eh2]; exact Fg.si (Or.inr (Or.inr ⟨rfl, Or.inl rfl⟩))
  have x2 := x1.qr hb (f2.mono (fun a i q => QW_R q))
  have r2 := r1.qr (f2.mono (fun a i q => QW_R q))
  have m2 : MeR h2 B A s := fun j hj => by rw [f2.i (by unfold QW; omega)]; exact m1 j hj
  have g2 : RgR h2 [] := ⟨by rw [eh2, sI_I, if_pos ⟨rfl, rfl⟩]; rfl, by simp, fun i hi => by simp at hi⟩
  obtain ⟨d0, k0, u1, u2, u3⟩ := ir_iff.mp s2.2
  have hz := rd_z u2
  obtain ⟨d, k, q1, q2, q3, q4⟩ := nx_0 (cl_rd (W := W) f s1 s2.1 hz) (cl_lt (W := W) f s1) s2.2
  rw [← nx_cl s2.1] at q1
  have hk := ex_lt q4 q2
  obtain ⟨h3, e3, f3, g3⟩ := fr33s W hb f s2.1 s1 s2.1 hz q2 q1 x2 r2 m2 g2 (by simp) (FU - 1)
  have hrg : rgA B A = rgG (nxA B A s) s 258 s := by unfold rgA; rw [hs]
  have e1' : f_X9_findRing_2 53 b FU h 0 = some (nI s, h1) := e1
  have hq1 : Fg h h1 QR := f1.mono (fun a i q => by unfold QM at q; unfold QR; omega)
  have fin : ∀ h9, f_X9_findRing_33 53 b (nI s) FU h2 (nI s) = some h9 → f_X9_findRing h 53 b = some h9 := fun h9 e9 => by
    unfold f_X9_findRing
    rw [if_pos (k_53 x.1), e1', bs]
    simp only []
    rw [pi_53 x1.1, bs, ← eh2, e9, bs]
  rw [hrg, rg_1 (n := 257) q1]
  cases k with
  | zero =>
    have hds := ex_0 q4
    rw [if_pos (by rw [hds])] at e3
    rw [if_pos hds]
    exact ⟨h3, fin h3 e3, (hq1.tr (f2.mono (fun a i q => QW_R q))).tr (f3.mono (fun a i q => QW_R q)), g3⟩
  | succ k =>
    have hds := ex_ne q4
    rw [if_neg (fun e => hds ((nI_eq (by omega) (by omega)).mp e))] at e3
    rw [if_neg hds]
    obtain ⟨h4, e4, f4, g4⟩ := fr33 W hb f s1 s2.1 k (FU - 1) 257 d h3 [s] q4 q2 (by omega) (by unfold FU; omega) (by simp; omega) (x2.qr hb (f3.mono (fun a i q => QW_R q))) (r2.qr (f3.mono (fun a i q => QW_R q))) (fun j hj => by rw [f3.i (by unfold QW; omega)]; exact m2 j hj) g3
    have e34 : f_X9_findRing_33 53 b (nI s) (FU - 1 + 1) h2 (nI s) = some h4 := by rw [e3, e4]
    exact ⟨h4, fin h4 e34, (hq1.tr (f2.mono (fun a i q => QW_R q))).tr ((f3.tr f4).mono (fun a i q => QW_R q)), g4⟩
end RRing2
