/-! THE OTHER ONE: lookAt, THE ORDER -/
section RArr
variable {h : AH} {B : BK} {A : AP} {b : Nat}
/-- all that reading needs -/
def Cr (h : AH) (B : BK) (A : AP) (b : Nat) : Prop := Sh h ∧ RbR h B ∧ BkR h b ∧ RpR h b 0 A
theorem Cr.fg {h h' : AH} {Q : Nat → Nat → Prop} (x : Cr h B A b) (f : Fg h h' Q) (h1 : ¬ Q 53 2) (h2 : ¬ Q 53 3) (h3 : ∀ i, ¬ Q 56 i) (h4 : ∀ i, ¬ Q 57 i) (h5 : ∀ i, ¬ Q 58 i) (h6 : ∀ i, ¬ Q b i) : Cr h' B A b := ⟨f.S x.1, f.B x.2.1 h1 h2 h3 h4 h5, f.b x.2.2.1, f.R x.2.2.2 h6⟩
def Bx (b : Nat) : Prop := b = 59 ∨ b = 60 ∨ b = 61
theorem Cr.ql {h h' : AH} (x : Cr h B A b) (hb : Bx b) (f : Fg h h' QL) : Cr h' B A b := x.fg f (fun q => by unfold QL at q; omega) (fun q => by unfold QL at q; omega) (fun i q => by unfold QL at q; omega) (fun i q => by unfold QL at q; omega) (fun i q => by unfold QL at q; omega) (fun i q => by unfold QL at q; unfold Bx at hb; omega)
theorem lk50 (W : WfB B) (hb : Bx b) (f : WfA A (bT B) (bL B)) {c : Nat} (hc : c < 258) (hC : isC B A c = true) : ∀ (m n : Nat) (h : AH) (s : Nat), s + m = nsN B c → m < n → Cr h B A b → LkR h (idL B A c s) → ∃ h', f_X9_lookAt_50 53 b (nI c) (nI (kiN c)) (nI (owN c)) (nI (lsD A c)) n h (nI s) = some h' ∧ Fg h h' QL ∧ LkR h' (idL B A c (nsN B c)) := by
  have h24 := n24 W c
  intro m
  induction m with
  | zero =>
    intro n h s hs hn x k
    obtain ⟨n, rfl⟩ : ∃ j, n = j + 1 := ⟨n - 1, by omega⟩
    refine ⟨h, ?_, Fg.rf _ _, by rw [show nsN B c = s by omega]; exact k⟩
    unfold f_X9_lookAt_50
    rw [g_53_7 x.1, bs, ld_56 x.1 ki9, bs, x.2.1.2.2.1 _ ki9, if_pos (nI_le (show bN B (kiN c) ≤ s from by unfold nsN at hs; omega) (by omega))]
  | succ m ih =>
    intro n h s hs hn x k
    obtain ⟨n, rfl⟩ : ∃ j, n = j + 1 := ⟨n - 1, by omega⟩
    have hlen := idL_len (B := B) f c s
    obtain ⟨h1, e1, f1, x1⟩ := lk_step x.1 W x.2.1 x.2.2.1 x.2.2.2 (by unfold Bx at hb; omega) f hc hC (show s < nsN B c by omega) k (by omega) n
    rw [← idL_s] at x1
    obtain ⟨h2, e2, f2, x2⟩ := ih n h1 (s + 1) (by omega) (by omega) (x.ql hb f1) x1
    exact ⟨h2, by rw [e1, e2], f1.tr f2, x2⟩
theorem r_lookAt (W : WfB B) (hb : Bx b) (f : WfA A (bT B) (bL B)) {c : Nat} (hc : c < 258) (hC : isC B A c = true) (x : Cr h B A b) : ∃ h', f_X9_lookAt h 53 b (nI c) = some h' ∧ Fg h h' QL ∧ LkR h' (idA B A c) := by
  have S := x.1
  have h24 := n24 W c
  obtain ⟨h1, eh1⟩ : ∃ z, z = sI h 53 32 0 := ⟨_, rfl⟩
  have f1 : Fg h h1 QL := by rw [eh1]; exact Fg.si (Or.inr ⟨rfl, rfl⟩)
  have x1 := x.ql hb f1
  have k1 : LkR h1 [] := ⟨by rw [eh1, sI_I, if_pos ⟨rfl, rfl⟩]; rfl, fun y hy => by simp at hy, fun i hi => by simp at hi⟩
  unfold f_X9_lookAt idA
  rw [if_pos (k_53 S), pi_53 S, bs, ← eh1, r_isFrozen x1.2.2.1 x1.2.2.2 f hc, bs]
  cases ez : fzC A c with
  | true => exact ⟨h1, by rw [if_neg (by decide)], f1, by rw [if_pos rfl]; exact k1⟩
  | false =>
    obtain ⟨l, l1, l2, l3⟩ := c_ls W f hc hC
    have hls : (if 240 ≤ nI c then some (nI (owN c)) else Option.bind (ldI h1 b (212 + nI (owN c))) fun x9 => some x9) = some (nI (lsD A c)) := by
      rw [l3]
      unfold lsN at l1
      by_cases q : c < 240
      · rw [if_pos q] at l1
        rw [if_neg (show ¬ (240 : Int32) ≤ nI c from nI_ge (b := 240) q (by decide)), x1.2.2.2.hm x1.2.2.1 (ow40 q), bs, l1, ov_s]
      · rw [if_neg q] at l1
        cases l1
        rw [if_pos (show (240 : Int32) ≤ nI c from nI_le (a := 240) (by omega) (by omega))]
    obtain ⟨h2, e2, f2, x2⟩ := lk50 W hb f hc hC (nsN B c) FU h1 0 (by omega) (by unfold FU; omega) x1 k1
    have e2' : f_X9_lookAt_50 53 b (nI c) (nI (kiN c)) (nI (owN c)) (nI (lsD A c)) FU h1 0 = some h2 := e2
    refine ⟨h2, ?_, f1.tr f2, by rw [if_neg (by decide)]; exact x2⟩
    rw [if_pos (by decide), r_kindOf h1 hc, bs, r_ownerOf h1 hc, bs, hls, bs, e2', bs]
/-- ids of cells -/
theorem id_mem {W : WfB B} {T Ls : Nat} (f : WfA A T Ls) {c s : Nat} (hc : c < 258) (hC : isC B A c = true) (hs : s < nsN B c) (d : Nat) : 5000 + d ∈ idS B A c s ↔ d ∈ sdS B A c s := by
  have how := ow_lt hc
  obtain ⟨l, -, l2, l3⟩ := c_ls W f hc hC
  unfold idS
  by_cases q1 : cdN B c s = 1
  · obtain ⟨-, v2⟩ := ok_giv W hc hs (by omega)
    have v3 : vaN B c s < 4 := by
      rcases v2 with ⟨-, v⟩ | v | v
      · split at v <;> omega
      · omega
      · omega
    rw [if_pos q1, sd_giv (by omega) (by omega)]
    simp only [List.mem_singleton, List.not_mem_nil, iff_false]
    split <;> omega
  · rw [if_neg q1]
    by_cases q2 : cdN B c s = 2
    · obtain ⟨-, v2⟩ := ok_giv W hc hs (by omega)
      rw [if_pos q2, sd_giv (by omega) (by omega)]
      simp only [List.mem_singleton, List.not_mem_nil, iff_false]
      omega
    · rw [if_neg q2]
      by_cases q3 : cdN B c s = 3
      · rw [if_pos q3, sd_giv (by omega) (by omega)]
        simp only [List.mem_singleton, List.not_mem_nil, iff_false]
        split <;> omega
      · rw [if_neg q3]
        by_cases qa : cdN B c s = 9 ∨ cdN B c s = 10 ∨ cdN B c s = 11
        · rw [if_pos qa]
          constructor
          · intro q
            obtain ⟨e, h1, h2⟩ := List.mem_map.mp q
            rw [show d = e by omega]
            exact h1
          · intro q; exact List.mem_map.mpr ⟨d, q, rfl⟩
        · rw [if_neg qa]
          by_cases qo : 4 ≤ cdN B c s ∧ cdN B c s ≤ 13 ∧ ¬ (cdN B c s = 9 ∨ cdN B c s = 10 ∨ cdN B c s = 11)
          · have e : sdS B A c s = (seN A c (cdN B c s) (vaN B c s)).toList := by unfold sdS; rw [if_neg qa, if_pos qo]
            rw [if_pos qo, e]
            cases seN A c (cdN B c s) (vaN B c s) with
            | none => simp [idO]
            | some y => simp [idO]
          · rw [if_neg qo, sd_giv qa qo]
            simp
theorem idL_mem {W : WfB B} {T Ls : Nat} (f : WfA A T Ls) {c : Nat} (hc : c < 258) (hC : isC B A c = true) (d : Nat) : ∀ n, n ≤ nsN B c → (5000 + d ∈ idL B A c n ↔ d ∈ sdL B A c n) := by
  intro n
  induction n with
  | zero => intro _; simp [idL, sdL]
  | succ n ih =>
    intro hn
    rw [idL_s, sdL_s, List.mem_append, List.mem_append, ih (by omega), id_mem (W := W) f hc hC (by omega)]
theorem rd_id {W : WfB B} (f : WfA A (bT B) (bL B)) {c : Nat} (hc : c < 258) (hC : isC B A c = true) {d : Nat} (hd : d < 258) : rdB B A c d = ((idA B A c).contains (5000 + d) && isC B A d) := by
  unfold rdB idA
  rw [hC]
  cases ez : fzC A c with
  | true => simp
  | false =>
    rw [if_neg (by decide), Bool.eq_iff_iff]
    simp [hd, idL_mem (W := W) f hc hC d (nsN B c) (Nat.le_refl _)]
    exact And.comm
theorem r_readsCell (W : WfB B) (f : WfA A (bT B) (bL B)) (x : Cr h B A b) {i : Nat} (hi : i < 5258) : f_X9_readsCell h 53 b (nI i) = some (bI (decide (5000 ≤ i) && isC B A (i - 5000))) := by
  unfold f_X9_readsCell
  rw [if_pos (k_53 x.1)]
  by_cases q : i < 5000
  · rw [if_pos (show nI i < 5000 from nI_lt (b := 5000) q (by decide)), bs, bz0, bs, decide_eq_false (by omega)]
    rfl
  · rw [if_neg (show ¬ nI i < 5000 from nI_nlt (b := 5000) (by omega) (by omega)), show nI i - 5000 = nI (i - 5000) from pk_sub (b := 5000) (by omega), r_isCell x.1 W x.2.1 x.2.2.1 x.2.2.2 f (by omega), bs, decide_eq_true (by omega)]
    cases isC B A (i - 5000) <;> rfl
end RArr
/-! boolean arrays -/
theorem ldz_72 {h : AH} (S : Sh h) {i : Nat} (hi : i < 258) : ldZ h 72 (nI i) = some (aI h 72 i) := ldZ_n (k_72 S) (by rw [e_72 S]; exact hi) (by rw [e_72 S]; decide)
theorem ldz_73 {h : AH} (S : Sh h) {i : Nat} (hi : i < 66564) : ldZ h 73 (nI i) = some (aI h 73 i) := ldZ_n (k_73 S) (by rw [e_73 S]; exact hi) (by rw [e_73 S]; decide)
theorem stz_72 {h : AH} (S : Sh h) {i : Nat} {v : Int32} (hv : v = 0 ∨ v = 1) (hi : i < 258) : stZ h 72 (nI i) v = some (sI h 72 i v) := stZ_n (k_72 S) hv (by rw [e_72 S]; exact hi) (by rw [e_72 S]; decide)
theorem stz_73 {h : AH} (S : Sh h) {i : Nat} {v : Int32} (hv : v = 0 ∨ v = 1) (hi : i < 66564) : stZ h 73 (nI i) v = some (sI h 73 i v) := stZ_n (k_73 S) hv (by rw [e_73 S]; exact hi) (by rw [e_73 S]; decide)
theorem m258 (c k : Nat) : nI c * 258 + nI k = nI (258 * c + k) := by rw [show (258 : Int32) = nI 258 from rfl, pk_mul, nI_add, Nat.mul_comm]
theorem ct_sn (xs : List Nat) (i y : Nat) : (xs ++ [i]).contains y = (xs.contains y || decide (y = i)) := by
  rw [Bool.eq_iff_iff]
  simp
section RArr2
variable {h : AH} {B : BK} {A : AP} {b : Nat}
def RwR (h : AH) (c : Nat) (X : Nat → Bool) : Prop := ∀ d, d < 258 → aI h 73 (258 * c + d) = bI (X d)
theorem a36 (l1 : Nat) (l2 : Int32) {c : Nat} (hc : c < 258) : ∀ (m n : Nat) (h : AH) (k : Nat), k + m = 258 → m < n → Sh h → (∀ d, d < k → aI h 73 (258 * c + d) = 0) → ∃ h', f_X9_arrange_36 53 l1 l2 (nI c) n h (nI k) = some h' ∧ Fg h h' (fun a i => a = 73 ∧ 258 * c ≤ i ∧ i < 258 * c + 258) ∧ RwR h' c (fun _ => false) := by
  intro m
  induction m with
  | zero =>
    intro n h k hk hn S z
    obtain ⟨n, rfl⟩ : ∃ j, n = j + 1 := ⟨n - 1, by omega⟩
    refine ⟨h, ?_, Fg.rf _ _, fun d hd => z d (by omega)⟩
    unfold f_X9_arrange_36
    rw [if_pos (show (258 : Int32) ≤ nI k from nI_le (a := 258) (by omega) (by omega))]
  | succ m ih =>
    intro n h k hk hn S z
    obtain ⟨n, rfl⟩ : ∃ j, n = j + 1 := ⟨n - 1, by omega⟩
    obtain ⟨h2, e2, f2, x2⟩ := ih n (sI h 73 (258 * c + k) 0) (k + 1) (by omega) (by omega) S.sI (fun d hd => by
      rw [sI_I]
      by_cases q : d = k
      · rw [if_pos ⟨rfl, by omega⟩]
      · rw [if_neg (by omega)]; exact z d (by omega))
    refine ⟨h2, ?_, (Fg.si ⟨rfl, by omega, by omega⟩).tr f2, x2⟩
    unfold f_X9_arrange_36
    rw [if_neg (show ¬ (258 : Int32) ≤ nI k from nI_ge (b := 258) (by omega) (by decide)), g_53_39 S, bs, m258, stz_73 S (Or.inl rfl) (by omega), bs, nI_1, e2]
theorem a73 (W : WfB B) (hb : Bx b) (f : WfA A (bT B) (bL B)) (l2 : Int32) {c : Nat} (hc : c < 258) {L : List Nat} (hL : L.length ≤ 1100) : ∀ (m n : Nat) (h : AH) (k : Nat) (X : Nat → Bool), k + m = L.length → m < n → Cr h B A b → LkR h L → RwR h c X → (∀ d, d < 258 → X d = ((L.take k).contains (5000 + d) && isC B A d)) →
    ∃ h', f_X9_arrange_73 53 b l2 (nI c) n h (nI k) = some h' ∧ Fg h h' (fun a i => a = 73 ∧ 258 * c ≤ i ∧ i < 258 * c + 258) ∧ RwR h' c (fun d => L.contains (5000 + d) && isC B A d) := by
  intro m
  induction m with
  | zero =>
    intro n h k X hk hn x lk r hX
    obtain ⟨n, rfl⟩ : ∃ j, n = j + 1 := ⟨n - 1, by omega⟩
    refine ⟨h, ?_, Fg.rf _ _, fun d hd => ?_⟩
    · unfold f_X9_arrange_73
      rw [gi_53 x.1, bs, lk.1, if_pos (nI_le (by omega) (by omega))]
    · rw [r d hd, hX d hd, List.take_of_length_le (by omega)]
  | succ m ih =>
    intro n h k X hk hn x lk r hX
    obtain ⟨n, rfl⟩ : ∃ j, n = j + 1 := ⟨n - 1, by omega⟩
    have S := x.1
    have hkl : k < L.length := by omega
    obtain ⟨i, ei⟩ : ∃ z, z = L[k] := ⟨_, rfl⟩
    have hi : i < 5258 := by rw [ei]; exact lk.2.1 _ (List.getElem_mem hkl)
    have l69 : aI h 69 k = nI i := by rw [lk.2.2 k hkl, ei]
    have htake : L.take (k + 1) = L.take k ++ [i] := by rw [ei, List.take_succ_eq_append_getElem hkl]
    have hu : f_X9_arrange_73 53 b l2 (nI c) (n + 1) h (nI k) = Option.bind (if bI (decide (5000 ≤ i) && isC B A (i - 5000)) = 0 then some h else Option.bind (stZ h 73 (((nI c * 258) + nI i) - 5000) 1) fun h21 => some h21) fun h17 => f_X9_arrange_73 53 b l2 (nI c) n h17 (nI (k + 1)) := by
      conv => lhs; unfold f_X9_arrange_73
      rw [gi_53 S, bs, lk.1, if_neg (nI_ge hkl (by omega)), g_53_33 S, bs, ld_69 S (by omega), bs, l69, r_readsCell W f x hi, bs, g_53_39 S, bs, bs, ld_69 S (by omega), bs, l69, nI_1]
    rw [hu]
    cases eb : (decide (5000 ≤ i) && isC B A (i - 5000)) with
    | false =>
      rw [if_pos (by decide), bs]
      exact ih n h (k + 1) X (by omega) (by omega) x lk r (fun d hd => by
        rw [hX d hd, htake, ct_sn]
        by_cases q : 5000 + d = i
        · have q1 : i - 5000 = d := by omega
          rw [q1, decide_eq_true (show 5000 ≤ i by omega), Bool.true_and] at eb
          rw [eb, Bool.and_false, Bool.and_false]
        · rw [decide_eq_false q, Bool.or_false])
    | true =>
      simp only [Bool.and_eq_true, decide_eq_true_eq] at eb
      have e5 : nI c * 258 + nI i - 5000 = nI (258 * c + (i - 5000)) := by
        rw [m258, show (5000 : Int32) = nI 5000 from rfl, pk_sub (by omega), show 258 * c + i - 5000 = 258 * c + (i - 5000) by omega]
      rw [if_neg (by decide), e5, stz_73 S (Or.inr rfl) (by omega), bs, bs]
      have f1 : Fg h (sI h 73 (258 * c + (i - 5000)) 1) (fun a j => a = 73 ∧ 258 * c ≤ j ∧ j < 258 * c + 258) := Fg.si ⟨rfl, by omega, by omega⟩
      obtain ⟨h2, e2, f2, x2⟩ := ih n _ (k + 1) (fun d => X d || decide (d = i - 5000)) (by omega) (by omega) (x.fg f1 (by omega) (by omega) (fun i q => by omega) (fun i q => by omega) (fun i q => by omega) (fun i q => by unfold Bx at hb; omega)) ⟨by rw [sI_I, if_neg (by omega)]; exact lk.1, lk.2.1, fun j hj => by rw [sI_I, if_neg (by omega)]; exact lk.2.2 j hj⟩ (fun d hd => by
        rw [sI_I]
        by_cases q : d = i - 5000
        · rw [if_pos ⟨rfl, by omega⟩]
          simp [q, bI]
        · rw [if_neg (by omega), r d hd]
          simp [q]) (fun d hd => by
        rw [hX d hd, htake, ct_sn]
        by_cases q : 5000 + d = i
        · have q1 : d = i - 5000 := by omega
          rw [decide_eq_true q, decide_eq_true q1, q1, eb.2, Bool.or_true, Bool.or_true, Bool.true_and]
        · have q1 : ¬ d = i - 5000 := by omega
          rw [decide_eq_false q, decide_eq_false q1, Bool.or_false, Bool.or_false])
      exact ⟨h2, e2, f1.tr f2, x2⟩
end RArr2
