/-! THE LAW: both answer the same, call by call -/
def JJ (h : AH) (S : SX) : Prop := InvC h S ∧ InvR h S ∧ WfS S
/-- one call of both: the class's answer and code, then the other one's -/
def LwI (rL : Option (Int32 × AH)) (fR : AH → Option (Int32 × AH)) : Prop := ∃ c h8 v h9 S', rL = some (c, h8) ∧ fR h8 = some (v, h9) ∧ f_X9_thrown h9 53 = some c ∧ (c = 0 → ldJ h9 76 0 = some v.toInt64) ∧ JJ h9 S'
def LwJ (rL : Option (Int32 × AH)) (fR : AH → Option (Int64 × AH)) : Prop := ∃ c h8 v h9 S', rL = some (c, h8) ∧ fR h8 = some (v, h9) ∧ f_X9_thrown h9 53 = some c ∧ (c = 0 → ldJ h9 76 0 = some v) ∧ JJ h9 S'
section Law
variable {h : AH} {S : SX}
theorem thrown_n (Sx : Sh h) : f_X9_thrown h 53 = some (aI h 53 0) := by
  unfold f_X9_thrown
  rw [if_pos (k_53 Sx), gi_53 Sx, bs]
theorem st76 (Sx : Sh h) (v : Int64) : stJ h 76 0 v = some (sJ h 76 0 v) := st_76 Sx (i := 0) (by decide)
theorem ld76 (Sx : Sh h) : ldJ h 76 0 = some (aJ h 76 0) := ld_76 Sx (i := 0) (by decide)
theorem o76 (x : InvC h S) (v : Int64) : InvC (sJ h 76 0 v) S := x.ot (Fr.sj (S := fun a => a = 76) rfl) (fun a q => by omega)
theorem r76 (x : InvR h S) (v : Int64) : InvR (sJ h 76 0 v) S := x.fg (Fg.sj (Q := QO) (by unfold QO; omega)) (fun _ _ q => q)
theorem oY {h' : AH} (x : InvC h S) (f : Fg h h' QY) : InvC h' S := x.ot (f.fr (P := fun a => 53 ≤ a ∧ a ≤ 75) (fun a i q => q)) (fun a q => by omega)
theorem wrapI {m : Nat → Int32} {err : Nat → AH → Option (Int32 × AH)} {r : Option (Except Nat Int32 × AH)} {fR : AH → Option (Int32 × AH)} {o : Except Nat Int32 × SX} (x : InvR h S) (C : CallOk h r o) (Rf : ∀ h8, InvR h8 S → RefOk m h8 (fR h8) o) (he : ∀ k, o.1 = .error k → (∀ h2, err k h2 = some (m k, h2)) ∧ m k ≠ 0) : LwI (Option.bind r fun w => match w with
    | (.error k9, h2) => err k9 h2
    | (.ok x1, h2) => Option.bind (stJ h2 76 0 x1.toInt64) fun h3 => some (0, h3)) fR := by
  obtain ⟨h8, e8, xc, W', fk⟩ := C
  obtain ⟨o1, o2⟩ := o
  have xr := x.fk fk
  rw [e8, bs]
  cases o1 with
  | error k =>
    obtain ⟨he1, he2⟩ := he k rfl
    obtain ⟨v, h9, e9, a9, x9, f9⟩ := Rf h8 xr
    have a9 : aI h9 53 0 = m k := a9
    exact ⟨m k, h8, v, h9, o2, he1 h8, e9, by rw [thrown_n x9.1, a9], fun q => absurd q he2, oY xc f9, x9, W'⟩
  | ok a =>
    have S8 : Sh h8 := xc.1
    obtain ⟨v, h9, e9, ⟨a9, av⟩, x9, f9⟩ := Rf (sJ h8 76 0 a.toInt64) (r76 xr _)
    refine ⟨0, sJ h8 76 0 a.toInt64, v, h9, o2, ?_, e9, by rw [thrown_n x9.1, a9], fun _ => ?_, oY (o76 xc _) f9, x9, W'⟩
    · show (Option.bind (stJ h8 76 0 a.toInt64) fun h3 => some ((0 : Int32), h3)) = _
      rw [st76 S8, bs]
    · rw [ld76 x9.1, f9.j (by unfold QY; omega), sJ_J, if_pos ⟨rfl, rfl⟩, av]
theorem wrapT {m : Nat → Int32} {err : Nat → AH → Option (Int32 × AH)} {r : Option (Except Nat Int32 × AH)} {fR : AH → Option (Int32 × AH)} {o : Except Nat Int32} (W : WfS S) (x : InvR h S) (C : rdQ h S r o) (Rf : ∀ h8, InvR h8 S → RefR m h8 S (fR h8) o) (he : ∀ k, o = .error k → (∀ h2, err k h2 = some (m k, h2)) ∧ m k ≠ 0) : LwI (Option.bind r fun w => match w with
    | (.error k9, h2) => err k9 h2
    | (.ok x1, h2) => Option.bind (stJ h2 76 0 x1.toInt64) fun h3 => some (0, h3)) fR := by
  obtain ⟨h8, e8, xc, fk⟩ := C
  have xr := x.fk fk
  rw [e8, bs]
  cases o with
  | error k =>
    obtain ⟨he1, he2⟩ := he k rfl
    obtain ⟨v, h9, e9, a9, x9, f9⟩ := Rf h8 xr
    have a9 : aI h9 53 0 = m k := a9
    exact ⟨m k, h8, v, h9, S, he1 h8, e9, by rw [thrown_n x9.1, a9], fun q => absurd q he2, oY xc f9, x9, W⟩
  | ok a =>
    have S8 : Sh h8 := xc.1
    obtain ⟨v, h9, e9, ⟨a9, av⟩, x9, f9⟩ := Rf (sJ h8 76 0 a.toInt64) (r76 xr _)
    refine ⟨0, sJ h8 76 0 a.toInt64, v, h9, S, ?_, e9, by rw [thrown_n x9.1, a9], fun _ => ?_, oY (o76 xc _) f9, x9, W⟩
    · show (Option.bind (stJ h8 76 0 a.toInt64) fun h3 => some ((0 : Int32), h3)) = _
      rw [st76 S8, bs]
    · rw [ld76 x9.1, f9.j (by unfold QY; omega), sJ_J, if_pos ⟨rfl, rfl⟩, av]
theorem wrapJ {m : Nat → Int32} {err : Nat → AH → Option (Int32 × AH)} {r : Option (Except Nat Int64 × AH)} {fR : AH → Option (Int64 × AH)} {o : Except Nat Int64} (W : WfS S) (x : InvR h S) (C : rdQ h S r o) (Rf : ∀ h8, InvR h8 S → RefR m h8 S (fR h8) o) (he : ∀ k, o = .error k → (∀ h2, err k h2 = some (m k, h2)) ∧ m k ≠ 0) : LwJ (Option.bind r fun w => match w with
    | (.error k9, h2) => err k9 h2
    | (.ok x1, h2) => Option.bind (stJ h2 76 0 x1) fun h3 => some (0, h3)) fR := by
  obtain ⟨h8, e8, xc, fk⟩ := C
  have xr := x.fk fk
  rw [e8, bs]
  cases o with
  | error k =>
    obtain ⟨he1, he2⟩ := he k rfl
    obtain ⟨v, h9, e9, a9, x9, f9⟩ := Rf h8 xr
    have a9 : aI h9 53 0 = m k := a9
    exact ⟨m k, h8, v, h9, S, he1 h8, e9, by rw [thrown_n x9.1, a9], fun q => absurd q he2, oY xc f9, x9, W⟩
  | ok a =>
    have S8 : Sh h8 := xc.1
    obtain ⟨v, h9, e9, ⟨a9, av⟩, x9, f9⟩ := Rf (sJ h8 76 0 a) (r76 xr _)
    refine ⟨0, sJ h8 76 0 a, v, h9, S, ?_, e9, by rw [thrown_n x9.1, a9], fun _ => ?_, oY (o76 xc _) f9, x9, W⟩
    · show (Option.bind (stJ h8 76 0 a) fun h3 => some ((0 : Int32), h3)) = _
      rw [st76 S8, bs]
    · rw [ld76 x9.1, f9.j (by unfold QY; omega), sJ_J, if_pos ⟨rfl, rfl⟩, av]
/-! which faults there are -/
theorem er3 {k : Nat} (h : k = 0 ∨ k = 1 ∨ k = 2) : (∀ h2 : AH, (if k = 2 then some ((1 : Int32), h2) else if k = 0 then some (2, h2) else if k = 1 then some (3, h2) else none) = some (mMv k, h2)) ∧ mMv k ≠ 0 := by
  rcases h with rfl | rfl | rfl <;> exact ⟨fun _ => rfl, by decide⟩
theorem erT {k : Nat} (h : k = 2 ∨ k = 0) : (∀ h2 : AH, (if k = 2 then some ((1 : Int32), h2) else if k = 0 then some (2, h2) else none) = some (mMv k, h2)) ∧ mMv k ≠ 0 := by
  rcases h with rfl | rfl <;> exact ⟨fun _ => rfl, by decide⟩
theorem er1 {k : Nat} (h : k = 0) : (∀ h2 : AH, (if k = 0 then some ((1 : Int32), h2) else none) = some (mZ k, h2)) ∧ mZ k ≠ 0 := by
  subst h; exact ⟨fun _ => rfl, by decide⟩
theorem erK {k : Nat} (h : k = 0 ∨ k = 1) : (∀ h2 : AH, (if k = 0 then some ((1 : Int32), h2) else if k = 1 then some (2, h2) else none) = some (mMk k, h2)) ∧ mMk k ≠ 0 := by
  rcases h with rfl | rfl <;> exact ⟨fun _ => rfl, by decide⟩
theorem erS {k : Nat} (h : k = 2 ∨ k = 1) : (∀ h2 : AH, (if k = 2 then some ((1 : Int32), h2) else if k = 1 then some (2, h2) else none) = some (mSh k, h2)) ∧ mSh k ≠ 0 := by
  rcases h with rfl | rfl <;> exact ⟨fun _ => rfl, by decide⟩
theorem erA {k : Nat} (h : k = 2) : (∀ h2 : AH, (if k = 2 then some ((1 : Int32), h2) else none) = some (mZ k, h2)) ∧ mZ k ≠ 0 := by
  subst h; exact ⟨fun _ => rfl, by decide⟩
theorem erC {k : Nat} (h : k = 1) : (∀ h2 : AH, (if k = 1 then some ((1 : Int32), h2) else none) = some (mZ k, h2)) ∧ mZ k ≠ 0 := by
  subst h; exact ⟨fun _ => rfl, by decide⟩
theorem f_thing {a b c d : Int32} {k : Nat} (e : (oThing S a b c d).1 = .error k) : k = 0 := by
  unfold oThing at e
  repeat' (split at e)
  all_goals first | (cases e; done) | (cases e; omega) | (simp at e; omega)
theorem l_thing (J : JJ h S) (a b c d : Int32) : LwI (f_L_thing h 0 a b c d 76) (fun h8 => f_X9_thing h8 53 a b c d) := by
  obtain ⟨x, y, W⟩ := J
  exact wrapI (m := mZ) (err := fun k9 h2 => if k9 = 0 then some (1, h2) else none) y (q_thing W x a b c d) (fun h8 x8 => r_thingC W x8 a b c d) (fun k e => er1 (f_thing e))
theorem f_list {a b : Int32} {k : Nat} (e : (oList S a b).1 = .error k) : k = 0 := by
  unfold oList at e
  repeat' (split at e)
  all_goals first | (cases e; done) | (cases e; omega) | (simp at e; omega)
theorem l_list (J : JJ h S) (a b : Int32) : LwI (f_L_list h 0 a b 76) (fun h8 => f_X9_list h8 53 a b) := by
  obtain ⟨x, y, W⟩ := J
  exact wrapI (m := mZ) (err := fun k9 h2 => if k9 = 0 then some (1, h2) else none) y (q_list W x a b) (fun h8 x8 => r_listC W x8 a b) (fun k e => er1 (f_list e))
theorem f_step {a b : Int32} {k : Nat} (e : (oStep S a b).1 = .error k) : k = 0 := by
  unfold oStep at e
  repeat' (split at e)
  all_goals first | (cases e; done) | (cases e; omega) | (simp at e; omega)
theorem l_step (J : JJ h S) (a b : Int32) : LwI (f_L_step h 0 a b 76) (fun h8 => f_X9_step h8 53 a b) := by
  obtain ⟨x, y, W⟩ := J
  exact wrapI (m := mZ) (err := fun k9 h2 => if k9 = 0 then some (1, h2) else none) y (q_step W x a b) (fun h8 x8 => r_stepC W x8 a b) (fun k e => er1 (f_step e))
theorem f_maker {a : Int32} {k : Nat} (e : (oMaker S a).1 = .error k) : k = 0 ∨ k = 1 := by
  unfold oMaker at e
  repeat' (split at e)
  all_goals first | (cases e; done) | (cases e; omega) | (simp at e; omega)
theorem l_maker (J : JJ h S) (a : Int32) : LwI (f_L_maker h 0 a 76) (fun h8 => f_X9_maker h8 53 a) := by
  obtain ⟨x, y, W⟩ := J
  exact wrapI (m := mMk) (err := fun k9 h2 => if k9 = 0 then some (1, h2) else if k9 = 1 then some (2, h2) else none) y (q_maker W x a) (fun h8 x8 => r_maker W x8 a) (fun k e => erK (f_maker e))
theorem f_open {k : Nat} (e : (oOpen S).1 = .error k) : k = 0 := by
  unfold oOpen at e
  repeat' (split at e)
  all_goals first | (cases e; done) | (cases e; omega) | (simp at e; omega)
theorem l_open (J : JJ h S) : LwI (f_L_open h 0 76) (fun h8 => f_X9_open h8 53) := by
  obtain ⟨x, y, W⟩ := J
  exact wrapI (m := mZ) (err := fun k9 h2 => if k9 = 0 then some (1, h2) else none) y (q_open W x) (fun h8 x8 => r_open W x8) (fun k e => er1 (f_open e))
theorem f_place {a b c : Int32} {k : Nat} (e : (oPlace S a b c).1 = .error k) : k = 0 ∨ k = 1 ∨ k = 2 := by
  unfold oPlace at e
  simp only [mvO] at e
  repeat' (split at e)
  all_goals first | (cases e; done) | (cases e; omega) | (simp at e; omega)
theorem l_place (J : JJ h S) (a b c : Int32) : LwI (f_L_place h 0 a b c 76) (fun h8 => f_X9_place h8 53 a b c) := by
  obtain ⟨x, y, W⟩ := J
  exact wrapI (m := mMv) (err := fun k9 h2 => if k9 = 2 then some (1, h2) else if k9 = 0 then some (2, h2) else if k9 = 1 then some (3, h2) else none) y (q_place W x a b c) (fun h8 x8 => r_place W x8 a b c) (fun k e => er3 (f_place e))
theorem f_take {a : Int32} {k : Nat} (e : (oTake S a).1 = .error k) : k = 2 ∨ k = 0 := by
  unfold oTake at e
  simp only [mvO] at e
  repeat' (split at e)
  all_goals first | (cases e; done) | (cases e; omega) | (simp at e; omega)
theorem l_take (J : JJ h S) (a : Int32) : LwI (f_L_take h 0 a 76) (fun h8 => f_X9_take h8 53 a) := by
  obtain ⟨x, y, W⟩ := J
  exact wrapI (m := mMv) (err := fun k9 h2 => if k9 = 2 then some (1, h2) else if k9 = 0 then some (2, h2) else none) y (q_take W x a) (fun h8 x8 => r_take W x8 a) (fun k e => erT (f_take e))
theorem f_move {a b c : Int32} {k : Nat} (e : (oMove S a b c).1 = .error k) : k = 0 ∨ k = 1 ∨ k = 2 := by
  unfold oMove at e
  simp only [mvO] at e
  repeat' (split at e)
  all_goals first | (cases e; done) | (cases e; omega) | (simp at e; omega)
theorem l_move (J : JJ h S) (a b c : Int32) : LwI (f_L_move h 0 a b c 76) (fun h8 => f_X9_move h8 53 a b c) := by
  obtain ⟨x, y, W⟩ := J
  exact wrapI (m := mMv) (err := fun k9 h2 => if k9 = 2 then some (1, h2) else if k9 = 0 then some (2, h2) else if k9 = 1 then some (3, h2) else none) y (q_move W x a b c) (fun h8 x8 => r_move W x8 a b c) (fun k e => er3 (f_move e))
theorem f_swap {a b : Int32} {k : Nat} (e : (oSwap S a b).1 = .error k) : k = 0 ∨ k = 1 ∨ k = 2 := by
  unfold oSwap at e
  simp only [mvO] at e
  repeat' (split at e)
  all_goals first | (cases e; done) | (cases e; omega) | (simp at e; omega)
theorem l_swap (J : JJ h S) (a b : Int32) : LwI (f_L_swap h 0 a b 76) (fun h8 => f_X9_swap h8 53 a b) := by
  obtain ⟨x, y, W⟩ := J
  exact wrapI (m := mMv) (err := fun k9 h2 => if k9 = 2 then some (1, h2) else if k9 = 0 then some (2, h2) else if k9 = 1 then some (3, h2) else none) y (q_swap W x a b) (fun h8 x8 => r_swap W x8 a b) (fun k e => er3 (f_swap e))
theorem f_turn {a b c : Int32} {k : Nat} (e : (oTurn S a b c).1 = .error k) : k = 0 ∨ k = 1 ∨ k = 2 := by
  unfold oTurn at e
  simp only [mvO] at e
  repeat' (split at e)
  all_goals first | (cases e; done) | (cases e; omega) | (simp at e; omega)
theorem l_turn (J : JJ h S) (a b c : Int32) : LwI (f_L_turn h 0 a b c 76) (fun h8 => f_X9_turn h8 53 a b c) := by
  obtain ⟨x, y, W⟩ := J
  exact wrapI (m := mMv) (err := fun k9 h2 => if k9 = 2 then some (1, h2) else if k9 = 0 then some (2, h2) else if k9 = 1 then some (3, h2) else none) y (q_turn W x a b c) (fun h8 x8 => r_turn W x8 a b c) (fun k e => er3 (f_turn e))
theorem f_tails {a b c d : Int32} {k : Nat} (e : (oTails S a b c d).1 = .error k) : k = 0 ∨ k = 1 ∨ k = 2 := by
  unfold oTails at e
  simp only [mvO] at e
  repeat' (split at e)
  all_goals first | (cases e; done) | (cases e; omega) | (simp at e; omega)
theorem l_tails (J : JJ h S) (a b c d : Int32) : LwI (f_L_tails h 0 a b c d 76) (fun h8 => f_X9_tails h8 53 a b c d) := by
  obtain ⟨x, y, W⟩ := J
  exact wrapI (m := mMv) (err := fun k9 h2 => if k9 = 2 then some (1, h2) else if k9 = 0 then some (2, h2) else if k9 = 1 then some (3, h2) else none) y (q_tails W x a b c d) (fun h8 x8 => r_tails W x8 a b c d) (fun k e => er3 (f_tails e))
theorem f_fact {a b c : Int32} {k : Nat} (e : (oFact S a b c).1 = .error k) : k = 0 ∨ k = 1 ∨ k = 2 := by
  unfold oFact at e
  simp only [mvO] at e
  repeat' (split at e)
  all_goals first | (cases e; done) | (cases e; omega) | (simp at e; omega)
theorem l_fact (J : JJ h S) (a b c : Int32) : LwI (f_L_fact h 0 a b c 76) (fun h8 => f_X9_fact h8 53 a b c) := by
  obtain ⟨x, y, W⟩ := J
  exact wrapI (m := mMv) (err := fun k9 h2 => if k9 = 2 then some (1, h2) else if k9 = 0 then some (2, h2) else if k9 = 1 then some (3, h2) else none) y (q_fact W x a b c) (fun h8 x8 => r_fact W x8 a b c) (fun k e => er3 (f_fact e))
theorem f_listFact {a b c : Int32} {k : Nat} (e : (oListFact S a b c).1 = .error k) : k = 0 ∨ k = 1 ∨ k = 2 := by
  unfold oListFact at e
  simp only [mvO] at e
  repeat' (split at e)
  all_goals first | (cases e; done) | (cases e; omega) | (simp at e; omega)
theorem l_listFact (J : JJ h S) (a b c : Int32) : LwI (f_L_listFact h 0 a b c 76) (fun h8 => f_X9_listFact h8 53 a b c) := by
  obtain ⟨x, y, W⟩ := J
  exact wrapI (m := mMv) (err := fun k9 h2 => if k9 = 2 then some (1, h2) else if k9 = 0 then some (2, h2) else if k9 = 1 then some (3, h2) else none) y (q_listFact W x a b c) (fun h8 x8 => r_listFact W x8 a b c) (fun k e => er3 (f_listFact e))
theorem f_link {a b : Int32} {k : Nat} (e : (oLink S a b).1 = .error k) : k = 0 ∨ k = 1 ∨ k = 2 := by
  unfold oLink at e
  simp only [mvO] at e
  repeat' (split at e)
  all_goals first | (cases e; done) | (cases e; omega) | (simp at e; omega)
theorem l_link (J : JJ h S) (a b : Int32) : LwI (f_L_link h 0 a b 76) (fun h8 => f_X9_link h8 53 a b) := by
  obtain ⟨x, y, W⟩ := J
  exact wrapI (m := mMv) (err := fun k9 h2 => if k9 = 2 then some (1, h2) else if k9 = 0 then some (2, h2) else if k9 = 1 then some (3, h2) else none) y (q_link W x a b) (fun h8 x8 => r_link W x8 a b) (fun k e => er3 (f_link e))
theorem f_freeze {a b : Int32} {k : Nat} (e : (oFreeze S a b).1 = .error k) : k = 0 ∨ k = 1 ∨ k = 2 := by
  unfold oFreeze at e
  simp only [mvO] at e
  repeat' (split at e)
  all_goals first | (cases e; done) | (cases e; omega) | (simp at e; omega)
theorem l_freeze (J : JJ h S) (a b : Int32) : LwI (f_L_freeze h 0 a b 76) (fun h8 => f_X9_freeze h8 53 a b) := by
  obtain ⟨x, y, W⟩ := J
  exact wrapI (m := mMv) (err := fun k9 h2 => if k9 = 2 then some (1, h2) else if k9 = 0 then some (2, h2) else if k9 = 1 then some (3, h2) else none) y (q_freeze W x a b) (fun h8 x8 => r_freeze W x8 a b) (fun k e => er3 (f_freeze e))
theorem f_end {k : Nat} (e : (oEnd S).1 = .error k) : k = 0 := by
  unfold oEnd mvO at e
  repeat' (split at e)
  all_goals first | (cases e; done) | (cases e; omega) | (simp at e; omega)
theorem l_end (J : JJ h S) : LwI (f_L_end h 0 76) (fun h8 => f_X9_end h8 53) := by
  obtain ⟨x, y, W⟩ := J
  exact wrapI (m := mZ) (err := fun k9 h2 => if k9 = 0 then some (1, h2) else none) y (q_end W x) (fun h8 x8 => r_end W x8) (fun k e => er1 (f_end e))
theorem f_drop {k : Nat} (e : (oDrop S).1 = .error k) : k = 0 := by
  unfold oDrop at e
  repeat' (split at e)
  all_goals first | (cases e; done) | (cases e; omega) | (simp at e; omega)
theorem l_drop (J : JJ h S) : LwI (f_L_drop h 0 76) (fun h8 => f_X9_drop h8 53) := by
  obtain ⟨x, y, W⟩ := J
  exact wrapI (m := mZ) (err := fun k9 h2 => if k9 = 0 then some (1, h2) else none) y (q_drop W x) (fun h8 x8 => r_drop W x8) (fun k e => er1 (f_drop e))
theorem f_undo {k : Nat} (e : (oUndo S).1 = .error k) : k = 0 := by
  unfold oUndo at e
  repeat' (split at e)
  all_goals first | (cases e; done) | (cases e; omega) | (simp at e; omega)
theorem l_undo (J : JJ h S) : LwI (f_L_undo h 0 76) (fun h8 => f_X9_undo h8 53) := by
  obtain ⟨x, y, W⟩ := J
  exact wrapI (m := mZ) (err := fun k9 h2 => if k9 = 0 then some (1, h2) else none) y (q_undo W x) (fun h8 x8 => r_undo W x8) (fun k e => er1 (f_undo e))
theorem f_shadow {a b : Int32} {k : Nat} (e : (oShadow S a b) = .error k) : k = 2 ∨ k = 1 := by
  unfold oShadow at e
  repeat' (split at e)
  all_goals first | (cases e; done) | (cases e; omega) | (simp at e; omega)
theorem l_shadow (J : JJ h S) (a b : Int32) : LwJ (f_L_shadow h 0 a b 76) (fun h8 => f_X9_shadow h8 53 a b) := by
  obtain ⟨x, y, W⟩ := J
  exact wrapJ (m := mSh) (err := fun k9 h2 => if k9 = 2 then some (1, h2) else if k9 = 1 then some (2, h2) else none) W y (q_shadow W x a b) (fun h8 x8 => r_shadow W x8 a b) (fun k e => erS (f_shadow e))
theorem f_listShadow {a b : Int32} {k : Nat} (e : (oListShadow S a b) = .error k) : k = 2 ∨ k = 1 := by
  unfold oListShadow at e
  repeat' (split at e)
  all_goals first | (cases e; done) | (cases e; omega) | (simp at e; omega)
theorem l_listShadow (J : JJ h S) (a b : Int32) : LwJ (f_L_listShadow h 0 a b 76) (fun h8 => f_X9_listShadow h8 53 a b) := by
  obtain ⟨x, y, W⟩ := J
  exact wrapJ (m := mSh) (err := fun k9 h2 => if k9 = 2 then some (1, h2) else if k9 = 1 then some (2, h2) else none) W y (q_listShadow W x a b) (fun h8 x8 => r_listShadow W x8 a b) (fun k e => erS (f_listShadow e))
theorem f_where {a b : Int32} {k : Nat} (e : (oWhere S a b) = .error k) : k = 2 ∨ k = 1 := by
  unfold oWhere at e
  repeat' (split at e)
  all_goals first | (cases e; done) | (cases e; omega) | (simp at e; omega)
theorem l_where (J : JJ h S) (a b : Int32) : LwI (f_L_where h 0 a b 76) (fun h8 => f_X9_where h8 53 a b) := by
  obtain ⟨x, y, W⟩ := J
  exact wrapT (m := mSh) (err := fun k9 h2 => if k9 = 2 then some (1, h2) else if k9 = 1 then some (2, h2) else none) W y (q_where W x a b) (fun h8 x8 => r_where W x8 a b) (fun k e => erS (f_where e))
theorem f_at {a b : Int32} {k : Nat} (e : (oAt S a b) = .error k) : k = 2 := by
  unfold oAt at e
  repeat' (split at e)
  all_goals first | (cases e; done) | (cases e; omega) | (simp at e; omega)
theorem l_at (J : JJ h S) (a b : Int32) : LwI (f_L_at h 0 a b 76) (fun h8 => f_X9_at h8 53 a b) := by
  obtain ⟨x, y, W⟩ := J
  exact wrapT (m := mZ) (err := fun k9 h2 => if k9 = 2 then some (1, h2) else none) W y (q_at W x a b) (fun h8 x8 => r_at W x8 a b) (fun k e => erA (f_at e))
theorem f_cause {a : Int32} {k : Nat} (e : (oCause S a) = .error k) : k = 1 := by
  unfold oCause at e
  repeat' (split at e)
  all_goals first | (cases e; done) | (cases e; omega) | (simp at e; omega)
theorem l_cause (J : JJ h S) (a : Int32) : LwI (f_L_cause h 0 a 76) (fun h8 => f_X9_cause h8 53 a) := by
  obtain ⟨x, y, W⟩ := J
  exact wrapT (m := mZ) (err := fun k9 h2 => if k9 = 1 then some (1, h2) else none) W y (q_cause x a) (fun h8 x8 => r_cause x8 a) (fun k e => erC (f_cause e))
theorem f_count {a : Int32} {k : Nat} (e : (oCount S a) = .error k) : k = 1 := by
  unfold oCount at e
  repeat' (split at e)
  all_goals first | (cases e; done) | (cases e; omega) | (simp at e; omega)
theorem l_count (J : JJ h S) (a : Int32) : LwI (f_L_count h 0 a 76) (fun h8 => f_X9_count h8 53 a) := by
  obtain ⟨x, y, W⟩ := J
  exact wrapT (m := mZ) (err := fun k9 h2 => if k9 = 1 then some (1, h2) else none) W y (q_count x a) (fun h8 x8 => r_count W x8 a) (fun k e => erC (f_count e))
end Law
