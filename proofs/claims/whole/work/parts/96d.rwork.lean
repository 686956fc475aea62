/-! THE OTHER ONE: a step of a maker -/
def swX (h10 : AH) (l5 x12 x14 : Int32) (x15 x18 : Int64) (x23 : Int32) (x31 x32 : Int64) (x33 : Int32) : Option (Int32 × AH) :=
if x12 = 0 then
Option.bind (gP h10 9 53 41) fun x38 =>
Option.bind (stJ h10 x38 l5 x14.toInt64) fun h39 =>
some (l5 + 1, h39)
else
if x12 = 1 ∨ x12 = 2 ∨ x12 = 3 ∨ x12 = 4 ∨ x12 = 8 ∨ x12 = 9 then
Option.bind (gP h10 9 53 41) fun x40 =>
Option.bind (f_X9_bounded h10 53 x31) fun w => match w with
| (x41, h42) =>
Option.bind (stJ h42 x40 l5 x41) fun h43 =>
some (l5 + 1, h43)
else
if x12 = 5 ∨ x12 = 6 ∨ x12 = 7 ∨ x12 = 12 ∨ x12 = 13 then
Option.bind (gP h10 9 53 41) fun x44 =>
Option.bind (if x33 = 0 then
some x31
else
some x15) fun x45 =>
Option.bind (stJ h10 x44 (l5 - 1) x45) fun h46 =>
some (l5, h46)
else
if x12 = 10 ∨ x12 = 11 then
Option.bind (gP h10 9 53 41) fun x47 =>
Option.bind (if x23 = 0 then
some x15
else
some x32) fun x48 =>
Option.bind (stJ h10 x47 (l5 - 1) x48) fun h49 =>
some (l5, h49)
else
if x12 = 14 then
Option.bind (gP h10 9 53 41) fun x50 =>
Option.bind (f_X9_bounded h10 53 (x18 + x15)) fun w => match w with
| (x51, h52) =>
Option.bind (stJ h52 x50 ((l5 + (-1)) - 1) x51) fun h53 =>
some (l5 + (-1), h53)
else
if x12 = 15 then
Option.bind (gP h10 9 53 41) fun x54 =>
Option.bind (f_X9_bounded h10 53 (x18 - x15)) fun w => match w with
| (x55, h56) =>
Option.bind (stJ h56 x54 ((l5 + (-1)) - 1) x55) fun h57 =>
some (l5 + (-1), h57)
else
if x12 = 16 then
Option.bind (gP h10 9 53 41) fun x58 =>
Option.bind (f_X9_times h10 53 x18 x15) fun w => match w with
| (x59, h60) =>
Option.bind (stJ h60 x58 ((l5 + (-1)) - 1) x59) fun h61 =>
some (l5 + (-1), h61)
else
if x12 = 17 then
if (lg_cmp x15 0) = 0 then
Option.bind (pI h10 9 53 28 1) fun h65 =>
some (l5 + (-1), h65)
else
Option.bind (gP h10 9 53 41) fun x62 =>
Option.bind (dvJ x18 x15) fun x63 =>
Option.bind (stJ h10 x62 ((l5 + (-1)) - 1) x63) fun h64 =>
some (l5 + (-1), h64)
else
if x12 = 18 then
Option.bind (gP h10 9 53 41) fun x66 =>
Option.bind (if 0 ≤ (lg_cmp x15 x18) then
some x18
else
some x15) fun x67 =>
Option.bind (stJ h10 x66 ((l5 + (-1)) - 1) x67) fun h68 =>
some (l5 + (-1), h68)
else
if x12 = 19 then
Option.bind (gP h10 9 53 41) fun x69 =>
Option.bind (if (lg_cmp x15 x18) ≤ 0 then
some x18
else
some x15) fun x70 =>
Option.bind (stJ h10 x69 ((l5 + (-1)) - 1) x70) fun h71 =>
some (l5 + (-1), h71)
else
if x12 = 20 then
Option.bind (gP h10 9 53 41) fun x72 =>
Option.bind (gP h10 9 53 41) fun x73 =>
Option.bind (ldJ h10 x73 ((l5 + (-2)) - 1)) fun x74 =>
Option.bind (if (lg_cmp x74 0) ≤ 0 then
some x15
else
some x18) fun x75 =>
Option.bind (stJ h10 x72 ((l5 + (-2)) - 1) x75) fun h76 =>
some (l5 + (-2), h76)
else
if x12 = 21 then
if (lg_cmp x15 0) = 0 then
some (l5 + (-1), h10)
else
Option.bind (pI h10 9 53 28 2) fun h77 =>
some (l5 + (-1), h77)
else
if x12 = 22 then
Option.bind (gP h10 9 53 41) fun x78 =>
Option.bind (stJ h10 x78 l5 x15) fun h79 =>
some (l5 + 1, h79)
else
if x12 = 23 then
Option.bind (gP h10 9 53 41) fun x80 =>
Option.bind (stJ h10 x80 (l5 - 1) x18) fun h81 =>
Option.bind (gP h81 9 53 41) fun x82 =>
Option.bind (stJ h81 x82 (l5 - 2) x15) fun h83 =>
some (l5, h83)
else
some (l5 + (-1), h10)
theorem cmp_ge (x y : Int64) : 0 ≤ lg_cmp x y ↔ y ≤ x := by
  have h1 := cmp_lt x y
  constructor
  · intro q
    have q2 : ¬ lg_cmp x y < 0 := fun e => by
      have a := Int32.le_iff_toInt_le.mp q
      have b := Int32.lt_iff_toInt_lt.mp e
      omega
    have q3 : ¬ x < y := fun e => q2 (h1.mpr e)
    refine Int64.le_iff_toInt_le.mpr ?_
    have : ¬ x.toInt < y.toInt := fun e => q3 (Int64.lt_iff_toInt_lt.mpr e)
    omega
  · intro q
    have q3 : ¬ x < y := fun e => by
      have a := Int64.le_iff_toInt_le.mp q
      have b := Int64.lt_iff_toInt_lt.mp e
      omega
    have q2 : ¬ lg_cmp x y < 0 := fun e => q3 (h1.mp e)
    refine Int32.le_iff_toInt_le.mpr ?_
    have : ¬ (lg_cmp x y).toInt < (0 : Int32).toInt := fun e => q2 (Int32.lt_iff_toInt_lt.mpr e)
    omega
theorem mm_r (k : Nat) (hk : k < 25) (most w : Int64) : (if nI k = 10 then if lg_cmp w most ≤ 0 then some most else some w else if 0 ≤ lg_cmp w most then some most else some w) = some (mmJ (decide (k = 10)) most w) := by
  have e10 : nI k = 10 ↔ k = 10 := nI_eq (b := 10) (by omega) (by decide)
  unfold mmJ mxJ mnJ
  by_cases q : k = 10
  · rw [if_pos (e10.mpr q), decide_eq_true q, if_pos rfl]
    by_cases q2 : w ≤ most
    · rw [if_pos ((cmp_le _ _).mpr q2)]
      by_cases q3 : w < most
      · rw [if_pos q3]
      · rw [if_neg q3]
        have a := Int64.le_iff_toInt_le.mp q2
        have b : ¬ w.toInt < most.toInt := fun e => q3 (Int64.lt_iff_toInt_lt.mpr e)
        rw [show most = w from Int64.toInt_inj.mp (by omega)]
    · rw [if_neg (fun e => q2 ((cmp_le _ _).mp e)), if_neg (fun e => q2 (by
        have b := Int64.lt_iff_toInt_lt.mp e
        exact Int64.le_iff_toInt_le.mpr (by omega)))]
  · rw [if_neg (fun e => q (e10.mp e)), decide_eq_false q, if_neg (show ¬ false = true by decide)]
    by_cases q2 : most ≤ w
    · rw [if_pos ((cmp_ge _ _).mpr q2), if_neg (fun e => by
        have a := Int64.le_iff_toInt_le.mp q2
        have b := Int64.lt_iff_toInt_lt.mp e
        omega)]
    · have q3 : w < most := by
        have a : ¬ most.toInt ≤ w.toInt := fun e => q2 (Int64.le_iff_toInt_le.mpr e)
        exact Int64.lt_iff_toInt_lt.mpr (by omega)
      rw [if_neg (fun e => q2 ((cmp_ge _ _).mp e)), if_pos q3]
/-- the number that the most, or the least, is; a: what it is where nothing is seen -/
def moS (k : Nat) (a : Int64) (l : List Int64) : Int64 := match l with
  | [] => a
  | d :: r => r.foldl (fun y e => mmJ (decide (k = 10)) y e) d
section RWk
variable {h : AH} {B : BK} {A : AP} {b : Nat} {F : Nat → Int64}
/-- what working needs -/
def Ck (h : AH) (B : BK) (A : AP) (b : Nat) (F : Nat → Int64) : Prop := Cr h B A b ∧ (∀ d, d < 258 → isC B A d = true → aJ h 63 d = F d) ∧ (∀ d, isC B A d = false → F d = 0) ∧ ∀ d, bdJ (F d)
theorem w197 (W : WfB B) (f : WfA A (bT B) (bL B)) (x : Ck h B A b F) {k o at' : Nat} (hk : k < 25) (ho : o < 40) {l : List Nat} (hl : ∀ i, i ∈ l → okI A o i) (hL : ∀ i (hi : i < l.length), aI h 69 (at' + i) = nI l[i]) (h11 : at' + l.length ≤ 1100) (l2 l3 l5 l7 l9 : Int32) (l10 l12 : Int64) : ∀ (m n i : Nat) (su mo : Int64), i + m = l.length → m < n → 0 < i →
    f_X9_work_197 53 b l2 l3 (nI o) l5 (nI at') l7 (nI k) l9 l10 l12 (nI l.length) n h su mo (nI i) = some ((l.drop i).foldl (fun y d => y + vlG A F o d) su, (l.drop i).foldl (fun y d => mmJ (decide (k = 10)) y (vlG A F o d)) mo) := by
  intro m
  induction m with
  | zero =>
    intro n i su mo hi hn h0
    obtain ⟨n, rfl⟩ : ∃ j, n = j + 1 := ⟨n - 1, by omega⟩
    unfold f_X9_work_197
    rw [if_pos (nI_le (by omega) (by omega)), List.drop_eq_nil_of_le (by omega)]
    rfl
  | succ m ih =>
    intro n i su mo hi hn h0
    obtain ⟨n, rfl⟩ : ∃ j, n = j + 1 := ⟨n - 1, by omega⟩
    have S := x.1.1
    have hil : i < l.length := by omega
    have hv := r_valueOf W f x.1 (k_63 S) (e_63 S) x.2.1 (fun d _ q => x.2.2.1 d q) ho (hl _ (List.getElem_mem hil))
    rw [List.drop_eq_getElem_cons hil, List.foldl_cons, List.foldl_cons, ← ih n (i + 1) _ _ (by omega) (by omega) (by omega)]
    conv => lhs; unfold f_X9_work_197
    rw [if_neg (nI_ge hil (by omega)), g_53_14 S, bs, g_53_33 S, bs, nI_add, ld_69 S (by omega), bs, hL i hil, hv, bs, if_neg (nI_ne0 h0 (by omega)), mm_r k hk, bs, nI_1]
theorem w197_0 (W : WfB B) (f : WfA A (bT B) (bL B)) (x : Ck h B A b F) {k o at' : Nat} (hk : k < 25) (ho : o < 40) {l : List Nat} (hl : ∀ i, i ∈ l → okI A o i) (hL : ∀ i (hi : i < l.length), aI h 69 (at' + i) = nI l[i]) (h11 : at' + l.length ≤ 1100) (l2 l3 l5 l7 l9 : Int32) (l10 l12 mo : Int64) :
    f_X9_work_197 53 b l2 l3 (nI o) l5 (nI at') l7 (nI k) l9 l10 l12 (nI l.length) FU h 0 mo 0 = some (l.foldl (fun y d => y + vlG A F o d) 0, moS k mo (l.map (vlG A F o))) := by
  cases l with
  | nil =>
    unfold FU f_X9_work_197
    rw [if_pos (show nI ([] : List Nat).length ≤ 0 by decide)]
    rfl
  | cons d r =>
    have S := x.1.1
    have hv := r_valueOf W f x.1 (k_63 S) (e_63 S) x.2.1 (fun d _ q => x.2.2.1 d q) ho (hl d List.mem_cons_self)
    have hL0 := hL 0 (by simp)
    rw [Nat.add_zero] at hL0
    have e := w197 W f x hk ho hl hL h11 l2 l3 l5 l7 l9 l10 l12 r.length (FU - 1) 1 (0 + vlG A F o d) (vlG A F o d) (by rw [List.length_cons]; omega) (by rw [List.length_cons] at h11; unfold FU; omega) (by decide)
    show f_X9_work_197 53 b l2 l3 (nI o) l5 (nI at') l7 (nI k) l9 l10 l12 (nI (d :: r).length) (FU - 1 + 1) h 0 mo 0 = _
    conv => lhs; unfold f_X9_work_197
    have hz : nI at' + 0 = nI at' := by rw [show (0 : Int32) = nI 0 from rfl, nI_add, Nat.add_zero]
    rw [if_neg (show ¬ nI (d :: r).length ≤ 0 from nI_nle (by simp) (by rw [List.length_cons] at h11 ⊢; omega)), g_53_14 S, bs, g_53_33 S, bs, hz, ld_69 S (by rw [List.length_cons] at h11; omega), bs, hL0]
    show Option.bind (f_X9_valueOf h 53 b 63 (nI d) (nI o)) _ = _
    rw [hv, bs, if_pos rfl, bs, show (0 : Int32) + 1 = nI 1 from rfl, e]
    simp only [List.drop_succ_cons, List.drop_zero, List.foldl_cons, List.map_cons]
    unfold moS
    simp only []
    rw [List.foldl_map]
end RWk
