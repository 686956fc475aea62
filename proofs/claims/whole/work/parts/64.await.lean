/-! Reads: who waits for whom -/
def Chn (f : Nat → Int32) : Int32 → List Nat → Prop
  | x, [] => x = -1
  | x, c :: l => x = nI c ∧ Chn f (f c) l
theorem Chn.fr {f g : Nat → Int32} : ∀ {l : List Nat} {x : Int32}, (∀ c, c ∈ l → g c = f c) → Chn f x l → Chn g x l := by
  intro l
  induction l with
  | nil => intro x _ h; exact h
  | cons c l ih =>
    intro x h1 h2
    refine ⟨h2.1, ?_⟩
    rw [h1 c List.mem_cons_self]
    exact ih (fun d hd => h1 d (List.mem_cons_of_mem _ hd)) h2.2
section Missing
variable {h : AH}
theorem w64 (w k : Nat) : 64 * nI w + nI k = nI (64 * w + k) := by rw [show (64 : Int32) = nI 64 from rfl, pk_mul, nI_add]
theorem miss_go (S : Sh h) {c : Nat} (hc : c < 258) : ∀ (m n w : Nat), w + m = 5 → m < n → (∀ d, d < 64 * w → hb (aJ h 35) (5 * c) d = true → hb (aJ h 36) 0 d = true) →
    (f_X5_firstMissing_2 34 (nI c) n h (nI w) = some (.inr ()) ∧ ∀ d, d < 320 → hb (aJ h 35) (5 * c) d = true → hb (aJ h 36) 0 d = true) ∨ ∃ e, e < 320 ∧ f_X5_firstMissing_2 34 (nI c) n h (nI w) = some (.inl (nI e)) ∧ hb (aJ h 35) (5 * c) e = true ∧ hb (aJ h 36) 0 e = false := by
  intro m
  induction m with
  | zero =>
    intro n w hw hn hd
    obtain ⟨n, rfl⟩ : ∃ j, n = j + 1 := ⟨n - 1, by omega⟩
    refine Or.inl ⟨?_, fun d h1 => hd d (by omega)⟩
    unfold f_X5_firstMissing_2
    rw [if_pos (show (5 : Int32) ≤ nI w from nI_le (a := 5) (by omega) (by omega))]
  | succ m ih =>
    intro n w hw hn hd
    obtain ⟨n, rfl⟩ : ∃ j, n = j + 1 := ⟨n - 1, by omega⟩
    have hu : f_X5_firstMissing_2 34 (nI c) (n + 1) h (nI w) = if lg_cmp (aJ h 35 (5 * c + w) &&& (aJ h 36 w ^^^ (-1))) 0 = 0 then f_X5_firstMissing_2 34 (nI c) n h (nI (w + 1)) else Option.bind (f_J13_bitCount_95d88 h (((aJ h 35 (5 * c + w) &&& (aJ h 36 w ^^^ (-1))) &&& (0 - (aJ h 35 (5 * c + w) &&& (aJ h 36 w ^^^ (-1))))) - 1)) fun x5 => some (.inl ((64 * nI w) + x5)) := by
      conv => lhs; unfold f_X5_firstMissing_2
      rw [if_neg (show ¬ (5 : Int32) ≤ nI w from nI_ge (b := 5) (by omega) (by decide)), g_34_1 S, bs, c5, ld_35 S (by omega), bs, g_34_2 S, bs, ld_36 S (by omega), bs, nI_1]
    have hbw : ∀ j, j < 64 → gb (aJ h 35 (5 * c + w) &&& (aJ h 36 w ^^^ (-1))) j = (hb (aJ h 35) (5 * c) (64 * w + j) && !(hb (aJ h 36) 0 (64 * w + j))) := by
      intro j hj
      rw [gb_and, gb_not _ hj]
      unfold hb
      rw [show (64 * w + j) / 64 = w by omega, show (64 * w + j) % 64 = j by omega, Nat.zero_add]
    rw [hu]
    by_cases q : aJ h 35 (5 * c + w) &&& (aJ h 36 w ^^^ (-1)) = 0
    · rw [if_pos ((cmp_z _).mpr q)]
      refine ih n (w + 1) (by omega) (by omega) (fun d h1 h2 => ?_)
      rcases Nat.lt_or_ge d (64 * w) with q2 | q2
      · exact hd d q2 h2
      · have := gb_z.mp q (d - 64 * w) (by omega)
        rw [hbw _ (by omega), show 64 * w + (d - 64 * w) = d by omega, h2] at this
        simpa using this
    · obtain ⟨k, hk, e1, -, e2, -⟩ := low_bit h q
      rw [if_neg (fun e => q ((cmp_z _).mp e)), e2, bs, w64]
      refine Or.inr ⟨64 * w + k, by omega, rfl, ?_⟩
      rw [hbw k hk] at e1
      simpa using e1
theorem q_missing (S : Sh h) {c : Nat} (hc : c < 258) : (f_X5_firstMissing h 34 (nI c) = some (-1) ∧ ∀ d, d < 320 → hb (aJ h 35) (5 * c) d = true → hb (aJ h 36) 0 d = true) ∨ ∃ e, e < 320 ∧ f_X5_firstMissing h 34 (nI c) = some (nI e) ∧ hb (aJ h 35) (5 * c) e = true ∧ hb (aJ h 36) 0 e = false := by
  rcases miss_go S hc 5 FU 0 rfl (by unfold FU; omega) (fun d h1 => by omega) with ⟨e, g⟩ | ⟨m, h1, e, g1, g2⟩
  · refine Or.inl ⟨?_, g⟩
    unfold f_X5_firstMissing
    rw [if_pos (k_34 S), show (0 : Int32) = nI 0 from rfl, e, bs]
  · refine Or.inr ⟨m, h1, ?_, g1, g2⟩
    unfold f_X5_firstMissing
    rw [if_pos (k_34 S), show (0 : Int32) = nI 0 from rfl, e, bs]
end Missing
/-- R: reads; D: come; G: those that were asked; wl: who waits for a cell; rd: who is ready; lr: none below is ready -/
def AwI (h : AH) (R : Nat → Nat → Bool) (D : List Nat) (G : Nat → Prop) (wl : Nat → List Nat) (rd : Nat → Bool) (lr : Nat) : Prop :=
  (∀ d, d < 320 → hb (aJ h 36) 0 d = D.contains d) ∧ (∀ c, c < 258 → aI h 39 c = if rd c = true then 1 else 0) ∧ (aI h 34 13 = nI lr ∧ lr ≤ 258 ∧ ∀ c, c < lr → rd c = false) ∧
  (∀ m, m < 258 → m ∉ D → Chn (aI h 41) (aI h 40 m) (wl m)) ∧ (∀ m, m < 258 → m ∉ D → (wl m).Nodup ∧ ∀ c, c ∈ wl m → c < 258 ∧ G c ∧ c ∉ D ∧ R c m = true ∧ rd c = false) ∧
  (∀ m m' c, m < 258 → m' < 258 → m ∉ D → m' ∉ D → c ∈ wl m → c ∈ wl m' → m = m') ∧ (∀ c, rd c = true → c < 258 ∧ G c ∧ c ∉ D ∧ ∀ d, d < 258 → R c d = true → d ∈ D) ∧
  ∀ c, c < 258 → G c → c ∉ D → rd c = true ∨ ∃ m, m < 258 ∧ m ∉ D ∧ c ∈ wl m
section Await
variable {h : AH} {R : Nat → Nat → Bool} {D : List Nat} {G : Nat → Prop} {wl : Nat → List Nat} {rd : Nat → Bool} {lr : Nat}
theorem AwI.cG (a : AwI h R D G wl rd lr) {G' : Nat → Prop} (hG : ∀ c, c ∉ D → (G c ↔ G' c)) : AwI h R D G' wl rd lr := by
  obtain ⟨a1, a2, a3, a4, a5, a6, a7, a8⟩ := a
  refine ⟨a1, a2, a3, a4, fun m h1 h2 => ⟨(a5 m h1 h2).1, fun c hc => ?_⟩, a6, fun c hc => ?_, fun c h1 h2 h3 => a8 c h1 ((hG c h3).mpr h2) h3⟩
  · obtain ⟨b1, b2, b3, b4⟩ := (a5 m h1 h2).2 c hc
    exact ⟨b1, (hG c b3).mp b2, b3, b4⟩
  · obtain ⟨b1, b2, b3, b4⟩ := a7 c hc
    exact ⟨b1, (hG c b3).mp b2, b3, b4⟩
theorem mnI_n {a b : Nat} (ha : a < 2 ^ 31) (hb : b < 2 ^ 31) : mnI (nI a) (nI b) = nI (min a b) := by
  unfold mnI
  by_cases q : b < a
  · rw [if_pos (nI_lt q ha), Nat.min_eq_right (by omega)]
  · rw [if_neg (nI_nlt (by omega) hb), Nat.min_eq_left (by omega)]
theorem q_await (S : Sh h) (hR : ∀ c d, R c d = true → d < 258) (a : AwI h R D G wl rd lr) {w : Nat} (hw : w < 258) (hg : ¬ G w) (hD : w ∉ D) (hbt : ∀ d, d < 320 → hb (aJ h 35) (5 * w) d = R w d) :
    ∃ h' wl' rd' lr', f_X5_await h 34 (nI w) = some h' ∧ Fq h h' (fun a => a = 34 ∨ a = 39 ∨ a = 40 ∨ a = 41) ∧ AwI h' R D (fun c => G c ∨ c = w) wl' rd' lr' ∧ (∀ c, c ≠ w → aI h' 41 c = aI h 41 c) ∧ ∀ j, j ≠ 13 → aI h' 34 j = aI h 34 j := by
  obtain ⟨a1, a2, ⟨a3, a3l, a3r⟩, a4, a5, a6, a7, a8⟩ := a
  have hrw : rd w = false := by
    cases e : rd w with
    | false => rfl
    | true => exact absurd (a7 w e).2.1 hg
  have hwl : ∀ m, m < 258 → m ∉ D → w ∉ wl m := fun m h1 h2 h3 => hg ((a5 m h1 h2).2 w h3).2.1
  rcases q_missing S hw with ⟨e, g⟩ | ⟨m, hm, e, g1, g2⟩
  · have e0 : f_X5_await h 34 (nI w) = some (sI (sI h 39 w 1) 34 13 (nI (min lr w))) := by
      unfold f_X5_await
      have S1 : Sh (sI h 39 w 1) := S.sI
      have g3 : aI (sI h 39 w 1) 34 13 = nI lr := by rw [sI_I, if_neg (by omega), a3]
      rw [if_pos (k_34 S), e, bs, if_pos rfl, g_34_5 S, bs, st_39 S hw, bs, gi_34 S1, bs, g3, bs, mnI_n (by omega) (by omega), pi_34 S1, bs, bs]
    refine ⟨_, wl, fun c => if c = w then true else rd c, min lr w, e0, (Fq.si (Or.inr (Or.inl rfl))).tr (Fq.si (Or.inl rfl)), ⟨a1, fun c hc => ?_, ⟨?_, by omega, fun c hc => ?_⟩, fun x h1 h2 => ?_, fun x h1 h2 => ⟨(a5 x h1 h2).1, fun c hc => ?_⟩, a6, fun c hc => ?_, fun c h1 h2 h3 => ?_⟩, fun c hc => ?_, fun j hj => ?_⟩
    · show aI (sI (sI h 39 w 1) 34 13 (nI (min lr w))) 39 c = if (if c = w then true else rd c) = true then 1 else 0
      rw [sI_I, if_neg (by omega), sI_I]
      by_cases q : c = w
      · rw [if_pos ⟨rfl, q⟩, if_pos q, if_pos rfl]
      · rw [if_neg (fun y => q y.2), if_neg q, a2 c hc]
    · rw [sI_I, if_pos ⟨rfl, rfl⟩]
    · show (if c = w then true else rd c) = false
      rw [if_neg (by omega)]
      exact a3r c (by omega)
    · have : aI (sI (sI h 39 w 1) 34 13 (nI (min lr w))) 41 = aI h 41 := by funext j; rw [sI_I, if_neg (by omega), sI_I, if_neg (by omega)]
      rw [this, sI_I, if_neg (by omega), sI_I, if_neg (by omega)]
      exact a4 x h1 h2
    · obtain ⟨b1, b2, b3, b4, b5⟩ := (a5 x h1 h2).2 c hc
      refine ⟨b1, Or.inl b2, b3, b4, ?_⟩
      show (if c = w then true else rd c) = false
      rw [if_neg (fun q : c = w => hwl x h1 h2 (q ▸ hc)), b5]
    · have hc' : (if c = w then true else rd c) = true := hc
      by_cases q : c = w
      · subst q
        refine ⟨hw, Or.inr rfl, hD, fun d h1 h2 => ?_⟩
        have h3 := g d (by omega) (by rw [hbt d (by omega)]; exact h2)
        rw [a1 d (by omega)] at h3
        simpa using h3
      · rw [if_neg q] at hc'
        obtain ⟨b1, b2, b3, b4⟩ := a7 c hc'
        exact ⟨b1, Or.inl b2, b3, b4⟩
    · show (if c = w then true else rd c) = true ∨ _
      by_cases q : c = w
      · exact Or.inl (if_pos q)
      · rw [if_neg q]
        exact a8 c h1 (h2.resolve_right q) h3
    · rw [sI_I, if_neg (by omega), sI_I, if_neg (by omega)]
    · rw [sI_I, if_neg (by omega), sI_I, if_neg (by omega)]
  · rw [hbt m hm] at g1
    have hm8 := hR w m g1
    have hmD : m ∉ D := by
      rw [a1 m hm] at g2
      simpa using g2
    have e0 : f_X5_await h 34 (nI w) = some (sI (sI h 41 w (aI h 40 m)) 40 m (nI w)) := by
      unfold f_X5_await
      have S1 : Sh (sI h 41 w (aI h 40 m)) := S.sI
      rw [if_pos (k_34 S), e, bs, if_neg (nI_nm (by omega)), g_34_7 S, bs, g_34_6 S, bs, ld_40 S hm8, bs, st_41 S hw, bs, g_34_6 S1, bs, st_40 S1 hm8, bs, bs]
    refine ⟨_, fun x => if x = m then w :: wl m else wl x, rd, lr, e0, (Fq.si (Or.inr (Or.inr (Or.inr rfl)))).tr (Fq.si (Or.inr (Or.inr (Or.inl rfl)))), ⟨a1, fun c hc => ?_, ⟨?_, a3l, a3r⟩, fun x h1 h2 => ?_, fun x h1 h2 => ?_, fun x y c h1 h2 h3 h4 h5 h6 => ?_, fun c hc => ?_, fun c h1 h2 h3 => ?_⟩, fun c hc => ?_, fun j hj => ?_⟩
    · rw [sI_I, if_neg (by omega), sI_I, if_neg (by omega)]
      exact a2 c hc
    · rw [sI_I, if_neg (by omega), sI_I, if_neg (by omega)]
      exact a3
    · have e41 : ∀ c, c ≠ w → aI (sI (sI h 41 w (aI h 40 m)) 40 m (nI w)) 41 c = aI h 41 c := fun c hc => by rw [sI_I, if_neg (by omega), sI_I, if_neg (fun y => hc y.2)]
      show Chn _ _ (if x = m then w :: wl m else wl x)
      by_cases q : x = m
      · subst q
        rw [if_pos rfl]
        refine ⟨by rw [sI_I, if_pos ⟨rfl, rfl⟩], ?_⟩
        rw [show aI (sI (sI h 41 w (aI h 40 x)) 40 x (nI w)) 41 w = aI h 40 x by rw [sI_I, if_neg (by omega), sI_I, if_pos ⟨rfl, rfl⟩]]
        exact (a4 x h1 h2).fr (fun c hc => e41 c (fun q => hwl x h1 h2 (q ▸ hc)))
      · rw [if_neg q, sI_I, if_neg (fun y => q y.2), sI_I, if_neg (by omega)]
        exact (a4 x h1 h2).fr (fun c hc => e41 c (fun q => hwl x h1 h2 (q ▸ hc)))
    · show (if x = m then w :: wl m else wl x).Nodup ∧ ∀ c, c ∈ (if x = m then w :: wl m else wl x) → _
      by_cases q : x = m
      · subst q
        rw [if_pos rfl]
        refine ⟨List.nodup_cons.mpr ⟨hwl x h1 h2, (a5 x h1 h2).1⟩, fun c hc => ?_⟩
        rcases List.mem_cons.mp hc with q2 | q2
        · subst q2
          exact ⟨hw, Or.inr rfl, hD, g1, hrw⟩
        · obtain ⟨b1, b2, b3, b4, b5⟩ := (a5 x h1 h2).2 c q2
          exact ⟨b1, Or.inl b2, b3, b4, b5⟩
      · rw [if_neg q]
        refine ⟨(a5 x h1 h2).1, fun c hc => ?_⟩
        obtain ⟨b1, b2, b3, b4, b5⟩ := (a5 x h1 h2).2 c hc
        exact ⟨b1, Or.inl b2, b3, b4, b5⟩
    · have k1 : ∀ z, z < 258 → z ∉ D → c ∈ (if z = m then w :: wl m else wl z) → (c = w ∧ z = m) ∨ (c ≠ w ∧ c ∈ wl z) := by
        intro z hz hzD hcz
        by_cases q : z = m
        · subst q
          rw [if_pos rfl] at hcz
          rcases List.mem_cons.mp hcz with q2 | q2
          · exact Or.inl ⟨q2, rfl⟩
          · exact Or.inr ⟨fun q3 => hwl z hz hzD (q3 ▸ q2), q2⟩
        · rw [if_neg q] at hcz
          exact Or.inr ⟨fun q3 => hwl z hz hzD (q3 ▸ hcz), hcz⟩
      rcases k1 x h1 h3 h5 with ⟨p1, p2⟩ | ⟨p1, p2⟩
      · rcases k1 y h2 h4 h6 with ⟨r1, r2⟩ | ⟨r1, r2⟩
        · rw [p2, r2]
        · exact absurd p1 r1
      · rcases k1 y h2 h4 h6 with ⟨r1, r2⟩ | ⟨r1, r2⟩
        · exact absurd r1 p1
        · exact a6 x y c h1 h2 h3 h4 p2 r2
    · obtain ⟨b1, b2, b3, b4⟩ := a7 c hc
      exact ⟨b1, Or.inl b2, b3, b4⟩
    · by_cases q : c = w
      · refine Or.inr ⟨m, hm8, hmD, ?_⟩
        show c ∈ (if m = m then w :: wl m else wl m)
        rw [if_pos rfl, q]
        exact List.mem_cons_self
      · rcases a8 c h1 (h2.resolve_right q) h3 with p | ⟨x, p1, p2, p3⟩
        · exact Or.inl p
        · refine Or.inr ⟨x, p1, p2, ?_⟩
          show c ∈ (if x = m then w :: wl m else wl x)
          by_cases q2 : x = m
          · subst q2
            rw [if_pos rfl]
            exact List.mem_cons_of_mem _ p3
          · rw [if_neg q2]; exact p3
    · rw [sI_I, if_neg (by omega), sI_I, if_neg (fun y => hc y.2)]
    · rw [sI_I, if_neg (by omega), sI_I, if_neg (by omega)]
end Await
