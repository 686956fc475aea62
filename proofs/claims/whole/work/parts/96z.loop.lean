/-! THE LAW: its loop -/
theorem sc_at {L : Nat} {xs : Nat → Int32} {i : Nat} (hi : i < L) (hL : L ≤ 2560) : scI L xs (nI i) = some (xs i) := by
  unfold scI
  rw [if_pos (fun q => by
    rcases q with q | q
    · exact nI_nn (by omega) q
    · rw [nI_clamp (by omega)] at q; omega), nI_clamp (by omega)]
theorem lw_cnd {L j : Nat} (hL : L ≤ 2560) (hj : 5 * j ≤ 3000) : (nI L - 5 < nI (5 * j)) ↔ L < 5 * j + 5 := by
  by_cases q : 5 ≤ L
  · rw [show (5 : Int32) = nI 5 from rfl, nI_min q]
    constructor
    · intro h
      rcases Nat.lt_or_ge L (5 * j + 5) with y | y
      · exact y
      · exact absurd h (nI_nlt (by omega) (by omega))
    · intro h
      exact nI_lt (by omega) (by omega)
  · have h0 : nI L - 5 < 0 := (show ∀ L, L < 5 → nI L - 5 < 0 by decide) L (by omega)
    have h1 : (0 : Int32) ≤ nI (5 * j) := nI_le (a := 0) (by omega) (by omega)
    exact ⟨fun _ => by omega, fun _ => Int32.lt_of_lt_of_le h0 h1⟩
theorem lw_fin {K : AH → Option AH} {c : Int32} {h9 : AH} {v : Int64} (e1 : f_X9_thrown h9 53 = some c) (e2 : c = 0 → ldJ h9 76 0 = some v) : (Option.bind (f_X9_thrown h9 53) fun x66 => if x66 = c then if c = 0 then Option.bind (ldJ h9 76 0) fun x68 => if lg_cmp x68 v = 0 then K h9 else none else K h9 else none) = K h9 := by
  rw [e1, bs, if_pos rfl]
  by_cases q : c = 0
  · rw [if_pos q, e2 q, bs, if_pos ((cmp_eq _ _).mpr rfl)]
  · rw [if_neg q]
theorem l_begin {h : AH} {S : SX} (J : JJ h S) : ∃ c h8 h9 S', f_L_begin h 0 = some (c, h8) ∧ f_X9_begin h8 53 = some h9 ∧ f_X9_thrown h9 53 = some c ∧ JJ h9 S' := by
  obtain ⟨x, y, W⟩ := J
  obtain ⟨h8, e8, xc, W', fk⟩ := q_begin W x
  obtain ⟨h9, e9, a9, x9, f9⟩ := r_begin W (y.fk fk)
  unfold f_L_begin
  rw [e8, bs]
  cases eo : (oBegin S).1 with
  | error k =>
    have hk : k = 0 := by
      unfold oBegin at eo
      split at eo
      · cases eo; rfl
      · cases eo
    rw [eo] at a9
    have a9 : aI h9 53 0 = mZ k := a9
    subst hk
    exact ⟨1, h8, h9, _, rfl, e9, by rw [thrown_n x9.1, a9]; rfl, oY xc f9, x9, W'⟩
  | ok u =>
    rw [eo] at a9
    have a9 : aI h9 53 0 = 0 := a9
    exact ⟨0, h8, h9, _, rfl, e9, by rw [thrown_n x9.1, a9], oY xc f9, x9, W'⟩
theorem l_list1 {h : AH} {S : SX} (J : JJ h S) {k v : Int32} {r : Option (Int32 × AH)} (R : RefR mZ h S r (.ok v)) : ∃ h9, r = some (v, h9) ∧ JJ h9 S := by
  obtain ⟨x, y, W⟩ := J
  obtain ⟨v', h9, e9, ⟨a9, av⟩, x9, f9⟩ := R
  have av : v' = v := av
  subst av
  exact ⟨h9, e9, oY x f9, x9, W⟩
theorem l_isSame {h : AH} {S : SX} (J : JJ h S) : ∃ v h8 h9, f_X8_isSame h 0 = some (v, h8) ∧ f_X9_isSame h8 53 = some (v, h9) ∧ JJ h9 S := by
  obtain ⟨x, y, W⟩ := J
  obtain ⟨h8, e8, xc, fk⟩ := q_isSame W x
  obtain ⟨h9, e9, x9, f9⟩ := r_isSame W (y.fk fk)
  exact ⟨_, h8, h9, e8, e9, oY xc f9, x9, W⟩
theorem law_go {L : Nat} {xs : Nat → Int32} (hL : L ≤ 2560) : ∀ (n j : Nat) (h : AH) (S : SX), 5 * j + 5 * n ≤ 2600 → L < 5 * j + 5 * (n + 1) → JJ h S → ∃ wh, f_L_law_23 L xs 0 53 76 (n + 1) h (nI (5 * j)) = some wh := by
  intro n
  induction n with
  | zero =>
    intro j h S hj hl J
    refine ⟨h, ?_⟩
    unfold f_L_law_23
    rw [if_pos ((lw_cnd hL (by omega)).mpr (by omega))]
  | succ n ih =>
    intro j h S hj hl J
    by_cases q : L < 5 * j + 5
    · refine ⟨h, ?_⟩
      unfold f_L_law_23
      rw [if_pos ((lw_cnd hL (by omega)).mpr q)]
    have s0 : scI L xs (nI (5 * j)) = some (xs (5 * j)) := sc_at (by omega) hL
    have s1 : scI L xs (nI (5 * j) + 1) = some (xs (5 * j + 1)) := by rw [nI_1]; exact sc_at (by omega) hL
    have s2 : scI L xs (nI (5 * j) + 2) = some (xs (5 * j + 2)) := by rw [show (2 : Int32) = nI 2 from rfl, nI_add]; exact sc_at (by omega) hL
    have s3 : scI L xs (nI (5 * j) + 3) = some (xs (5 * j + 3)) := by rw [show (3 : Int32) = nI 3 from rfl, nI_add]; exact sc_at (by omega) hL
    have s4 : scI L xs (nI (5 * j) + 4) = some (xs (5 * j + 4)) := by rw [show (4 : Int32) = nI 4 from rfl, nI_add]; exact sc_at (by omega) hL
    have next : ∀ h9 S', JJ h9 S' → ∃ wh, f_L_law_23 L xs 0 53 76 (n + 1) h9 (nI (5 * j) + 5) = some wh := fun h9 S' J' => by
      rw [show nI (5 * j) + 5 = nI (5 * (j + 1)) by rw [show (5 : Int32) = nI 5 from rfl, nI_add]; rfl]
      exact ih (j + 1) h9 S' (by omega) (by omega) J'
    obtain ⟨K, hK⟩ : ∃ K : AH → Option AH, K = fun h9 => f_L_law_23 L xs 0 53 76 (n + 1) h9 (nI (5 * j) + 5) := ⟨_, rfl⟩
    have nextK : ∀ h9 S', JJ h9 S' → ∃ wh, K h9 = some wh := by rw [hK]; exact next
    suffices hs : ∃ h9 S', JJ h9 S' ∧ f_L_law_23 L xs 0 53 76 (n + 1 + 1) h (nI (5 * j)) = K h9 by
      obtain ⟨h9, S', J', e⟩ := hs
      rw [e]
      exact nextK h9 S' J'
    have kk : ∀ h9, f_L_law_23 L xs 0 53 76 (n + 1) h9 (nI (5 * j) + 5) = K h9 := fun h9 => by rw [hK]
    conv => arg 1; ext h9; arg 1; ext S'; arg 2; lhs; unfold f_L_law_23
    rw [if_neg (fun y => q ((lw_cnd hL (by omega)).mp y)), s0, bs, bs]
    generalize xs (5 * j) &&& 31 = op
    simp only [kk, s1, s2, s3, s4, bs]
    by_cases q0 : op = 0
    · obtain ⟨c, h8, v, h9, S', e1, e2, e3, e4, J'⟩ := l_thing J (xs (5 * j + 1)) (xs (5 * j + 2)) (xs (5 * j + 3)) (xs (5 * j + 4))
      refine ⟨h9, S', J', ?_⟩
      rw [if_pos q0, e1, bs]
      simp only []
      dsimp only at e2
      rw [e2, bs]
      exact lw_fin (K := K) e3 e4
    simp only [if_neg q0]
    by_cases q1 : op = 1
    · obtain ⟨c, h8, v, h9, S', e1, e2, e3, e4, J'⟩ := l_list J (xs (5 * j + 1)) (xs (5 * j + 2))
      refine ⟨h9, S', J', ?_⟩
      rw [if_pos q1, e1, bs]
      simp only []
      dsimp only at e2
      rw [e2, bs]
      exact lw_fin (K := K) e3 e4
    simp only [if_neg q1]
    by_cases q2 : op = 2
    · obtain ⟨c, h8, v, h9, S', e1, e2, e3, e4, J'⟩ := l_step J (xs (5 * j + 1)) (xs (5 * j + 2))
      refine ⟨h9, S', J', ?_⟩
      rw [if_pos q2, e1, bs]
      simp only []
      dsimp only at e2
      rw [e2, bs]
      exact lw_fin (K := K) e3 e4
    simp only [if_neg q2]
    by_cases q3 : op = 3
    · obtain ⟨c, h8, v, h9, S', e1, e2, e3, e4, J'⟩ := l_maker J (xs (5 * j + 1))
      refine ⟨h9, S', J', ?_⟩
      rw [if_pos q3, e1, bs]
      simp only []
      dsimp only at e2
      rw [e2, bs]
      exact lw_fin (K := K) e3 e4
    simp only [if_neg q3]
    by_cases q4 : op = 4
    · obtain ⟨c, h8, v, h9, S', e1, e2, e3, e4, J'⟩ := l_open J
      refine ⟨h9, S', J', ?_⟩
      rw [if_pos q4, e1, bs]
      simp only []
      dsimp only at e2
      rw [e2, bs]
      exact lw_fin (K := K) e3 e4
    simp only [if_neg q4]
    by_cases q5 : op = 5
    · obtain ⟨c, h8, v, h9, S', e1, e2, e3, e4, J'⟩ := l_place J (xs (5 * j + 1)) (xs (5 * j + 2)) (xs (5 * j + 3))
      refine ⟨h9, S', J', ?_⟩
      rw [if_pos q5, e1, bs]
      simp only []
      dsimp only at e2
      rw [e2, bs]
      exact lw_fin (K := K) e3 e4
    simp only [if_neg q5]
    by_cases q6 : op = 6
    · obtain ⟨c, h8, v, h9, S', e1, e2, e3, e4, J'⟩ := l_take J (xs (5 * j + 1))
      refine ⟨h9, S', J', ?_⟩
      rw [if_pos q6, e1, bs]
      simp only []
      dsimp only at e2
      rw [e2, bs]
      exact lw_fin (K := K) e3 e4
    simp only [if_neg q6]
    by_cases q7 : op = 7
    · obtain ⟨c, h8, v, h9, S', e1, e2, e3, e4, J'⟩ := l_move J (xs (5 * j + 1)) (xs (5 * j + 2)) (xs (5 * j + 3))
      refine ⟨h9, S', J', ?_⟩
      rw [if_pos q7, e1, bs]
      simp only []
      dsimp only at e2
      rw [e2, bs]
      exact lw_fin (K := K) e3 e4
    simp only [if_neg q7]
    by_cases q8 : op = 8
    · obtain ⟨c, h8, v, h9, S', e1, e2, e3, e4, J'⟩ := l_swap J (xs (5 * j + 1)) (xs (5 * j + 2))
      refine ⟨h9, S', J', ?_⟩
      rw [if_pos q8, e1, bs]
      simp only []
      dsimp only at e2
      rw [e2, bs]
      exact lw_fin (K := K) e3 e4
    simp only [if_neg q8]
    by_cases q9 : op = 9
    · obtain ⟨c, h8, v, h9, S', e1, e2, e3, e4, J'⟩ := l_turn J (xs (5 * j + 1)) (xs (5 * j + 2)) (xs (5 * j + 3))
      refine ⟨h9, S', J', ?_⟩
      rw [if_pos q9, e1, bs]
      simp only []
      dsimp only at e2
      rw [e2, bs]
      exact lw_fin (K := K) e3 e4
    simp only [if_neg q9]
    by_cases q10 : op = 10
    · obtain ⟨c, h8, v, h9, S', e1, e2, e3, e4, J'⟩ := l_tails J (xs (5 * j + 1)) (xs (5 * j + 2)) (xs (5 * j + 3)) (xs (5 * j + 4))
      refine ⟨h9, S', J', ?_⟩
      rw [if_pos q10, e1, bs]
      simp only []
      dsimp only at e2
      rw [e2, bs]
      exact lw_fin (K := K) e3 e4
    simp only [if_neg q10]
    by_cases q11 : op = 11
    · obtain ⟨c, h8, v, h9, S', e1, e2, e3, e4, J'⟩ := l_fact J (xs (5 * j + 1)) (xs (5 * j + 2)) (xs (5 * j + 3))
      refine ⟨h9, S', J', ?_⟩
      rw [if_pos q11, e1, bs]
      simp only []
      dsimp only at e2
      rw [e2, bs]
      exact lw_fin (K := K) e3 e4
    simp only [if_neg q11]
    by_cases q12 : op = 12
    · obtain ⟨c, h8, v, h9, S', e1, e2, e3, e4, J'⟩ := l_listFact J (xs (5 * j + 1)) (xs (5 * j + 2)) (xs (5 * j + 3))
      refine ⟨h9, S', J', ?_⟩
      rw [if_pos q12, e1, bs]
      simp only []
      dsimp only at e2
      rw [e2, bs]
      exact lw_fin (K := K) e3 e4
    simp only [if_neg q12]
    by_cases q13 : op = 13
    · obtain ⟨c, h8, v, h9, S', e1, e2, e3, e4, J'⟩ := l_link J (xs (5 * j + 1)) (xs (5 * j + 2))
      refine ⟨h9, S', J', ?_⟩
      rw [if_pos q13, e1, bs]
      simp only []
      dsimp only at e2
      rw [e2, bs]
      exact lw_fin (K := K) e3 e4
    simp only [if_neg q13]
    by_cases q14 : op = 14
    · obtain ⟨c, h8, v, h9, S', e1, e2, e3, e4, J'⟩ := l_freeze J (xs (5 * j + 1)) (xs (5 * j + 2))
      refine ⟨h9, S', J', ?_⟩
      rw [if_pos q14, e1, bs]
      simp only []
      dsimp only at e2
      rw [e2, bs]
      exact lw_fin (K := K) e3 e4
    simp only [if_neg q14]
    by_cases q15 : op = 15
    · obtain ⟨c, h8, h9, S', e1, e2, e3, J'⟩ := l_begin J
      refine ⟨h9, S', J', ?_⟩
      rw [if_pos q15, e1, bs]
      simp only []
      rw [e2, bs, e3, bs, if_pos rfl]
    simp only [if_neg q15]
    by_cases q16 : op = 16
    · obtain ⟨c, h8, v, h9, S', e1, e2, e3, e4, J'⟩ := l_end J
      refine ⟨h9, S', J', ?_⟩
      rw [if_pos q16, e1, bs]
      simp only []
      dsimp only at e2
      rw [e2, bs]
      exact lw_fin (K := K) e3 e4
    simp only [if_neg q16]
    by_cases q17 : op = 17
    · obtain ⟨c, h8, v, h9, S', e1, e2, e3, e4, J'⟩ := l_drop J
      refine ⟨h9, S', J', ?_⟩
      rw [if_pos q17, e1, bs]
      simp only []
      dsimp only at e2
      rw [e2, bs]
      exact lw_fin (K := K) e3 e4
    simp only [if_neg q17]
    by_cases q18 : op = 18
    · obtain ⟨c, h8, v, h9, S', e1, e2, e3, e4, J'⟩ := l_undo J
      refine ⟨h9, S', J', ?_⟩
      rw [if_pos q18, e1, bs]
      simp only []
      dsimp only at e2
      rw [e2, bs]
      exact lw_fin (K := K) e3 e4
    simp only [if_neg q18]
    by_cases q19 : op = 19
    · obtain ⟨c, h8, v, h9, S', e1, e2, e3, e4, J'⟩ := l_shadow J (xs (5 * j + 1)) (xs (5 * j + 2))
      refine ⟨h9, S', J', ?_⟩
      rw [if_pos q19, e1, bs]
      simp only []
      dsimp only at e2
      rw [e2, bs]
      exact lw_fin (K := K) e3 e4
    simp only [if_neg q19]
    by_cases q20 : op = 20
    · obtain ⟨c, h8, v, h9, S', e1, e2, e3, e4, J'⟩ := l_listShadow J (xs (5 * j + 1)) (xs (5 * j + 2))
      refine ⟨h9, S', J', ?_⟩
      rw [if_pos q20, e1, bs]
      simp only []
      dsimp only at e2
      rw [e2, bs]
      exact lw_fin (K := K) e3 e4
    simp only [if_neg q20]
    by_cases q21 : op = 21
    · obtain ⟨c, h8, v, h9, S', e1, e2, e3, e4, J'⟩ := l_where J (xs (5 * j + 1)) (xs (5 * j + 2))
      refine ⟨h9, S', J', ?_⟩
      rw [if_pos q21, e1, bs]
      simp only []
      dsimp only at e2
      rw [e2, bs]
      exact lw_fin (K := K) e3 e4
    simp only [if_neg q21]
    by_cases q22 : op = 22
    · obtain ⟨c, h8, v, h9, S', e1, e2, e3, e4, J'⟩ := l_at J (xs (5 * j + 1)) (xs (5 * j + 2))
      refine ⟨h9, S', J', ?_⟩
      rw [if_pos q22, e1, bs]
      simp only []
      dsimp only at e2
      rw [e2, bs]
      exact lw_fin (K := K) e3 e4
    simp only [if_neg q22]
    by_cases q23 : op = 23
    · obtain ⟨h9, e2, J'⟩ := l_list1 (k := 0) J (r_worked J.2.1 (xs (5 * j + 1)))
      refine ⟨h9, S, J', ?_⟩
      rw [if_pos q23, q_worked J.1, bs, e2, bs]
      simp only []
      rw [if_pos trivial]
    simp only [if_neg q23]
    by_cases q24 : op = 24
    · obtain ⟨h9, e2, J'⟩ := l_list1 (k := 0) J (r_order J.2.2 J.2.1 (xs (5 * j + 1)))
      refine ⟨h9, S, J', ?_⟩
      rw [if_pos q24, q_order J.1, bs, e2, bs]
      simp only []
      rw [if_pos trivial]
    simp only [if_neg q24]
    by_cases q25 : op = 25
    · obtain ⟨h9, e2, J'⟩ := l_list1 (k := 0) J (r_ring J.2.1 (xs (5 * j + 1)))
      refine ⟨h9, S, J', ?_⟩
      rw [if_pos q25, q_ring J.1, bs, e2, bs]
      simp only []
      rw [if_pos trivial]
    simp only [if_neg q25]
    by_cases q26 : op = 26
    · obtain ⟨c, h8, v, h9, S', e1, e2, e3, e4, J'⟩ := l_cause J (xs (5 * j + 1))
      refine ⟨h9, S', J', ?_⟩
      rw [if_pos q26, e1, bs]
      simp only []
      dsimp only at e2
      rw [e2, bs]
      exact lw_fin (K := K) e3 e4
    simp only [if_neg q26]
    by_cases q27 : op = 27
    · obtain ⟨c, h8, v, h9, S', e1, e2, e3, e4, J'⟩ := l_count J (xs (5 * j + 1))
      refine ⟨h9, S', J', ?_⟩
      rw [if_pos q27, e1, bs]
      simp only []
      dsimp only at e2
      rw [e2, bs]
      exact lw_fin (K := K) e3 e4
    simp only [if_neg q27]
    by_cases q28 : op = 28
    · obtain ⟨v, h8, h9, e1, e2, J'⟩ := l_isSame J
      refine ⟨h9, S, J', ?_⟩
      rw [if_pos q28, e1, bs]
      simp only []
      rw [e2, bs]
      simp only []
      rw [if_pos trivial]
    simp only [if_neg q28]
    exact ⟨h, S, J, rfl⟩
