/-! what a maker looks at -/
def fzC (A : AP) (c : Nat) : Bool := decide (c < 240) && fzA A (owN c)
def idO (o : Option Nat) : Nat := match o with
  | none => 0
  | some d => 5000 + d
def cdN (B : BK) (c s : Nat) : Nat := bC B (kiN c) s
def vaN (B : BK) (c s : Nat) : Nat := bW B (kiN c) s
def nsN (B : BK) (c : Nat) : Nat := bN B (kiN c)
def lsD (A : AP) (c : Nat) : Nat := (lsN A c).getD 0
def ovA (k : Nat) : Prop := k = 9 ∨ k = 10 ∨ k = 11
def ovO (k : Nat) : Prop := 4 ≤ k ∧ k ≤ 13 ∧ ¬ (k = 9 ∨ k = 10 ∨ k = 11)
/-- the shadows that a step sees -/
def sdS (B : BK) (A : AP) (c s : Nat) : List Nat := if cdN B c s = 9 ∨ cdN B c s = 10 ∨ cdN B c s = 11 then (List.range (qS A (lsD A c))).map (fun k => 6 * qR A (lsD A c) k + vaN B c s)
  else if 4 ≤ cdN B c s ∧ cdN B c s ≤ 13 ∧ ¬ (cdN B c s = 9 ∨ cdN B c s = 10 ∨ cdN B c s = 11) then (seN A c (cdN B c s) (vaN B c s)).toList else []
def sdL (B : BK) (A : AP) (c n : Nat) : List Nat := (List.range n).flatMap (sdS B A c)
theorem sdL_s (B : BK) (A : AP) (c n : Nat) : sdL B A c (n + 1) = sdL B A c n ++ sdS B A c n := by
  unfold sdL
  rw [List.range_succ, List.flatMap_append]
  simp
/-- reads -/
def rdB (B : BK) (A : AP) (c d : Nat) : Bool := isC B A c && !(fzC A c) && isC B A d && decide (d < 258) && (sdL B A c (nsN B c)).contains d
theorem rdB_c {B : BK} {A : AP} (c d : Nat) (h : rdB B A c d = true) : d < 258 ∧ isC B A d = true := by
  unfold rdB at h
  simp only [Bool.and_eq_true, decide_eq_true_eq] at h
  exact ⟨h.1.2, h.1.1.2⟩
section Looks
variable {B : BK} {A : AP} {T Ls : Nat}
/-- what a step may be, of a cell -/
theorem ok_at (W : WfB B) {c s : Nat} (hc : c < 258) (hs : s < nsN B c) : okS (decide (c < 240)) (cdN B c s) (bV B (kiN c) s) := by
  have := ((W.2.2 (kiN c) ki9).2.1 s hs).1
  rw [show decide (kiN c < 6) = decide (c < 240) from decide_eq_decide.mpr (ki_t hc)] at this
  exact this
theorem n24 (W : WfB B) (c : Nat) : nsN B c ≤ 24 := (W.2.2 (kiN c) ki9).1
/-- a step over one: what q_seen asks -/
theorem ok_one (W : WfB B) {c s : Nat} (hc : c < 258) (hs : s < nsN B c) (ho : 4 ≤ cdN B c s ∧ cdN B c s ≤ 13 ∧ ¬ (cdN B c s = 9 ∨ cdN B c s = 10 ∨ cdN B c s = 11)) :
    bV B (kiN c) s = nI (vaN B c s) ∧ vaN B c s < 9 ∧ (cdN B c s = 4 ∧ (c < 240 ∨ 6 ≤ vaN B c s) ∨ cdN B c s = 5 ∧ c < 240 ∨ cdN B c s = 6 ∧ c < 240 ∨ cdN B c s = 7 ∧ c < 240 ∨ cdN B c s = 8 ∧ 6 ≤ vaN B c s ∨ cdN B c s = 12 ∧ ¬ c < 240 ∨ cdN B c s = 13 ∧ ¬ c < 240) ∧ (cdN B c s = 4 → c < 240 → vaN B c s < 6) ∧ (cdN B c s ≠ 4 → cdN B c s ≠ 8 → vaN B c s < 6) := by
  have h := ok_at W hc hs
  unfold okS at h
  have e : (bV B (kiN c) s).toNatClampNeg = vaN B c s := rfl
  rw [e] at h
  rcases h with h | h | ⟨h1, h2, h3, h4⟩
  · omega
  · omega
  · refine ⟨h3, ?_⟩
    by_cases q : c < 240
    · simp [q] at h4 ⊢
      omega
    · simp [q] at h4 ⊢
      omega
theorem ok_all (W : WfB B) {c s : Nat} (hc : c < 258) (hs : s < nsN B c) (ho : cdN B c s = 9 ∨ cdN B c s = 10 ∨ cdN B c s = 11) : bV B (kiN c) s = nI (vaN B c s) ∧ vaN B c s < 6 ∧ ¬ c < 240 := by
  have h := ok_at W hc hs
  unfold okS at h
  have e : (bV B (kiN c) s).toNatClampNeg = vaN B c s := rfl
  rw [e] at h
  rcases h with h | h | ⟨h1, h2, h3, h4⟩
  · omega
  · omega
  · refine ⟨h3, ?_⟩
    by_cases q : c < 240
    · simp [q] at h4
      omega
    · simp [q] at h4
      omega
theorem ok_giv (W : WfB B) {c s : Nat} (hc : c < 258) (hs : s < nsN B c) (ho : 1 ≤ cdN B c s ∧ cdN B c s ≤ 3) : bV B (kiN c) s = nI (vaN B c s) ∧ (cdN B c s = 1 ∧ vaN B c s < (if c < 240 then 4 else 2) ∨ cdN B c s = 2 ∧ c < 240 ∧ vaN B c s < 2 ∨ cdN B c s = 3 ∧ (vaN B c s = 1 ∨ c < 240 ∧ vaN B c s = 0)) := by
  have h := ok_at W hc hs
  unfold okS at h
  have e : (bV B (kiN c) s).toNatClampNeg = vaN B c s := rfl
  rw [e] at h
  rcases h with h | h | ⟨h1, h2, h3, h4⟩
  · omega
  · omega
  · refine ⟨h3, ?_⟩
    by_cases q : c < 240
    · simp [q] at h4 ⊢
      omega
    · simp [q] at h4 ⊢
      omega
/-- a cell has a list -/
theorem c_ls (W : WfB B) (f : WfA A T Ls) {c : Nat} (hc : c < 258) (h : isC B A c = true) : ∃ l, lsN A c = some l ∧ l < 6 ∧ lsD A c = l := by
  unfold isC at h
  rw [Bool.and_eq_true] at h
  unfold lsD lsN
  by_cases q : c < 240
  · rw [if_pos q] at h ⊢
    obtain ⟨l, hl⟩ := Option.isSome_iff_exists.mp h.2
    exact ⟨l, hl, hm6 hl, by rw [hl]; rfl⟩
  · rw [if_neg q]
    exact ⟨_, rfl, ow6 q hc, rfl⟩
theorem th_lt (f : WfA A T Ls) {l c k t : Nat} (hc : k = 7 → c < 240) (h : thN A l c k = some t) : t < 40 := by
  unfold thN at h
  split at h
  · unfold nbB at h
    split at h
    · split at h
      · rename_i q; cases h; exact f.t40 q
      · cases h
    · cases h
  · split at h
    · unfold nbA at h
      split at h
      · split at h
        · rename_i q; cases h; exact f.t40 q
        · cases h
      · cases h
    · split at h
      · rename_i q7
        unfold lkN at h
        split at h
        · cases h
        · rename_i q1
          rcases f.2.2.2.2.2.2 (owN c) (ow40 (hc q7)) with e | ⟨u, hu, e⟩
          · exact absurd e q1
          · rw [e, nI_clamp (by have := f.1; omega)] at h
            split at h
            · cases h
            · cases h; have := f.1; omega
      · split at h
        · split at h
          · rename_i q; cases h; exact f.t40 q
          · cases h
        · split at h
          · split at h
            · rename_i q; cases h; exact f.t40 (by omega)
            · cases h
          · cases h
/-- what is seen is a shadow -/
theorem sd_lt (W : WfB B) (f : WfA A T Ls) {c s d : Nat} (hc : c < 258) (hs : s < nsN B c) (h : d ∈ sdS B A c s) : d < 258 := by
  unfold sdS at h
  split at h
  · rename_i q
    obtain ⟨-, h6, -⟩ := ok_all W hc hs q
    obtain ⟨k, hk, e⟩ := List.mem_map.mp h
    have := f.t40 (List.mem_range.mp hk)
    omega
  · split at h
    · rename_i q
      obtain ⟨-, h9, h1, h2, h3⟩ := ok_one W hc hs q
      rw [Option.mem_toList] at h
      unfold seN at h
      by_cases q4 : cdN B c s = 4
      · rw [if_pos q4] at h
        cases h
        by_cases q2 : c < 240
        · rw [if_pos q2]
          have := ow40 q2
          have := h2 q4 q2
          omega
        · rw [if_neg q2]
          have := ow6 q2 hc
          omega
      · rw [if_neg q4] at h
        cases e : lsN A c with
        | none => rw [e] at h; cases h
        | some l =>
          rw [e] at h
          have hl : l < 6 := by
            unfold lsN at e
            split at e
            · exact hm6 e
            · rename_i q2
              cases e
              exact ow6 q2 hc
          have h' : (if cdN B c s = 8 then some (240 + 3 * l + (vaN B c s - 6)) else (thN A l c (cdN B c s)).map (fun t => 6 * t + vaN B c s)) = some d := h
          by_cases q8 : cdN B c s = 8
          · rw [if_pos q8] at h'
            cases h'
            omega
          · rw [if_neg q8] at h'
            obtain ⟨t, ht, e2⟩ := Option.map_eq_some_iff.mp h'
            have := th_lt f (fun e7 => by omega) ht
            have := h3 q4 q8
            omega
    · cases h
theorem sdL_lt (W : WfB B) (f : WfA A T Ls) {c n d : Nat} (hc : c < 258) (hs : n ≤ nsN B c) (h : d ∈ sdL B A c n) : d < 258 := by
  unfold sdL at h
  obtain ⟨s, h1, h2⟩ := List.mem_flatMap.mp h
  exact sd_lt W f hc (by have := List.mem_range.mp h1; omega) h2
end Looks
