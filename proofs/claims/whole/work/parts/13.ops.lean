/-! the partial reads and stores that the functions are made of, and their rows -/
def FU : Nat := 4294967296
theorem bnd {α β : Type} {x : Option α} {f : α → Option β} {r : β} (h : x.bind f = some r) : ∃ a, x = some a ∧ f a = some r := by
  cases x with
  | none => cases h
  | some a => exact ⟨a, rfl, h⟩
theorem ifk {α : Type} {c : Prop} [Decidable c] {x : Option α} {r : α} (h : (if c then x else none) = some r) : c ∧ x = some r := by
  by_cases hc : c
  · rw [if_pos hc] at h; exact ⟨hc, h⟩
  · rw [if_neg hc] at h; cases h
def inb (i : Int32) (n : Nat) : Prop := ¬ (i < 0 ∨ n ≤ i.toNatClampNeg)
def bz (x : Int32) : Option Int32 := if x = 0 ∨ x = 1 then some x else none
theorem bz_eq {x y : Int32} (h : bz x = some y) : x = y := by
  unfold bz at h
  exact Option.some.inj (ifk h).2
theorem bz_or {x y : Int32} (h : bz x = some y) : y = 0 ∨ y = 1 := by
  have e := bz_eq h
  unfold bz at h
  rw [← e]; exact (ifk h).1
theorem rf_ref (r : Option Nat) : (rf r).isRef = true := by cases r <;> rfl
theorem rf_cat (r : Option Nat) : (rf r).category = 1 := by cases r <;> rfl
def dvI (x y : Int32) : Option Int32 := if ¬ y = 0 then some (x / y) else none
def rmI (x y : Int32) : Option Int32 := if ¬ y = 0 then some (x - x / y * y) else none
def dvJ (x y : Int64) : Option Int64 := if ¬ y = 0 then some (x / y) else none
def gI (h : AH) (c a j : Nat) : Option Int32 := if aK h a = c then some (aI h a j) else none
def gJ (h : AH) (c a j : Nat) : Option Int64 := if aK h a = c then some (aJ h a j) else none
def gP (h : AH) (c a j : Nat) : Option Nat := if aK h a = c then aP h a j else none
def pI (h : AH) (c a j : Nat) (v : Int32) : Option AH := if aK h a = c then some (sI h a j v) else none
def pZ (h : AH) (c a j : Nat) (v : Int32) : Option AH := if aK h a = c ∧ (v = 0 ∨ v = 1) then some (sI h a j v) else none
def pJ (h : AH) (c a j : Nat) (v : Int64) : Option AH := if aK h a = c then some (sJ h a j v) else none
def pP (h : AH) (c a j : Nat) (v : Nat) : Option AH := if aK h a = c then some (sP h a j (some v)) else none
def ldI (h : AH) (a : Nat) (i : Int32) : Option Int32 := if aK h a = 10 ∧ ¬ (i < 0 ∨ aE h a ≤ i.toNatClampNeg) then some (aI h a i.toNatClampNeg) else none
def ldJ (h : AH) (a : Nat) (i : Int32) : Option Int64 := if aK h a = 11 ∧ ¬ (i < 0 ∨ aE h a ≤ i.toNatClampNeg) then some (aJ h a i.toNatClampNeg) else none
def ldZ (h : AH) (a : Nat) (i : Int32) : Option Int32 := if aK h a = 12 ∧ ¬ (i < 0 ∨ aE h a ≤ i.toNatClampNeg) then some (aI h a i.toNatClampNeg) else none
def ldP (h : AH) (a : Nat) (i : Int32) : Option (Option Nat) := if aK h a = 13 ∧ ¬ (i < 0 ∨ aE h a ≤ i.toNatClampNeg) then some (aP h a i.toNatClampNeg) else none
def stI (h : AH) (a : Nat) (i v : Int32) : Option AH := if aK h a = 10 ∧ ¬ (i < 0 ∨ aE h a ≤ i.toNatClampNeg) then some (sI h a i.toNatClampNeg v) else none
def stZ (h : AH) (a : Nat) (i v : Int32) : Option AH := if (aK h a = 12 ∧ (v = 0 ∨ v = 1)) ∧ ¬ (i < 0 ∨ aE h a ≤ i.toNatClampNeg) then some (sI h a i.toNatClampNeg v) else none
def stJ (h : AH) (a : Nat) (i : Int32) (v : Int64) : Option AH := if aK h a = 11 ∧ ¬ (i < 0 ∨ aE h a ≤ i.toNatClampNeg) then some (sJ h a i.toNatClampNeg v) else none
def stP (h : AH) (a : Nat) (i : Int32) (v : Nat) : Option AH := if (aK h a = 13 ∧ aK h v = 2) ∧ ¬ (i < 0 ∨ aE h a ≤ i.toNatClampNeg) then some (sP h a i.toNatClampNeg (some v)) else none
def aln (h : AH) (a : Nat) : Option Int32 := if 10 ≤ aK h a ∧ aK h a < 14 then some (nI (aE h a)) else none
def tkI (i : Int32) : Option Int32 := if ¬ (i < 0 ∨ 25 ≤ i.toNatClampNeg) then some (takesL.getD i.toNatClampNeg 0) else none
def gvI (i : Int32) : Option Int32 := if ¬ (i < 0 ∨ 25 ≤ i.toNatClampNeg) then some (givesL.getD i.toNatClampNeg 0) else none
def cpI (h : AH) (a : Nat) (sp : Int32) (b : Nat) (dp n : Int32) : Option AH := if (aK h a = 10 ∧ aK h b = 10) ∧ (¬ sp < 0 ∧ ¬ dp < 0 ∧ ¬ n < 0) ∧ sp.toNatClampNeg + n.toNatClampNeg ≤ aE h a ∧ dp.toNatClampNeg + n.toNatClampNeg ≤ aE h b then some (rI h b (va_cpy (aI h a) (aI h b) sp.toNatClampNeg dp.toNatClampNeg n.toNatClampNeg)) else none
def cpJ (h : AH) (a : Nat) (sp : Int32) (b : Nat) (dp n : Int32) : Option AH := if (aK h a = 11 ∧ aK h b = 11) ∧ (¬ sp < 0 ∧ ¬ dp < 0 ∧ ¬ n < 0) ∧ sp.toNatClampNeg + n.toNatClampNeg ≤ aE h a ∧ dp.toNatClampNeg + n.toNatClampNeg ≤ aE h b then some (rJ h b (va_cpy (aJ h a) (aJ h b) sp.toNatClampNeg dp.toNatClampNeg n.toNatClampNeg)) else none
theorem tb_out {x : Int32} (lo : Int) (m : Nat) (h : ∀ j : Nat, j < m → x ≠ Int32.ofInt (lo + j)) : x.toInt < lo ∨ lo + m - 1 < x.toInt := by
  by_cases h1 : x.toInt < lo
  · exact Or.inl h1
  · by_cases h2 : lo + m - 1 < x.toInt
    · exact Or.inr h2
    · exfalso
      have h3 := h (x.toInt - lo).toNat (by omega)
      apply h3
      have e : lo + ((x.toInt - lo).toNat : Int) = x.toInt := by omega
      rw [e]
      exact (Int32.ofInt_toInt x).symm
section AWO
variable {p : Program} {l : Launch} {e : Env} {R : Room} {s : State} {m : MethodId} {args : Array Value} {below : List Frame} {meth : Method} {c : Code} {G : GT} {nL : Nat} {Q : State → Prop} {h h' : AH} {k n pc : Nat} {lv : List (Nat × Value)} {st : List Value} {cc : ByteArray} {own : String} {ci N : Nat} {C : String} {T : u_T} {mc ms : Nat} {o : Except Nat (Option Value)}
theorem r_nmI {x y : Int32} (hx : x = y) (kk : AW p l e R s m args below meth c G nL Q h k n pc lv (.int y :: st)) : AW p l e R s m args below meth c G nL Q h k n pc lv (.int x :: st) := by rw [hx]; exact kk
theorem r_nmJ {x y : Int64} (hx : x = y) (kk : AW p l e R s m args below meth c G nL Q h k n pc lv (.long y :: st)) : AW p l e R s m args below meth c G nL Q h k n pc lv (.long x :: st) := by rw [hx]; exact kk
theorem r_pop2 (O : OkC p l s m args meth c G cc nL own) {v : Value} (hd : decode cc pc = .ok (.pop2, 1)) (hv : v.category = 2) (kk : AW p l e R s m args below meth c G nL Q h k n (pc + 1) lv st) : AW p l e R s m args below meth c G nL Q h k n pc lv (v :: st) := fun H locs ls hR hS hl => lv_pop2_2 O.1 O.2.1 hd ((cv_cat G v).trans hv) (kk H locs ls hR hS hl)
theorem r_dvI (O : OkC p l s m args meth c G cc nL own) {x y z : Int32} (hx : dvI x y = some z) (hd : decode cc pc = .ok (.idiv, 1)) (kk : AW p l e R s m args below meth c G nL Q h k n (pc + 1) lv (.int z :: st)) : AW p l e R s m args below meth c G nL Q h k n pc lv (.int y :: .int x :: st) := by
  unfold dvI at hx
  obtain ⟨h1, h2⟩ := ifk hx
  cases h2
  exact r_idiv O hd h1 kk
theorem r_rmI (O : OkC p l s m args meth c G cc nL own) {x y z : Int32} (hx : rmI x y = some z) (hd : decode cc pc = .ok (.irem, 1)) (kk : AW p l e R s m args below meth c G nL Q h k n (pc + 1) lv (.int z :: st)) : AW p l e R s m args below meth c G nL Q h k n pc lv (.int y :: .int x :: st) := by
  unfold rmI at hx
  obtain ⟨h1, h2⟩ := ifk hx
  cases h2
  exact r_irem O hd h1 kk
theorem r_dvJ (O : OkC p l s m args meth c G cc nL own) {x y z : Int64} (hx : dvJ x y = some z) (hd : decode cc pc = .ok (.ldiv, 1)) (kk : AW p l e R s m args below meth c G nL Q h k n (pc + 1) lv (.long z :: st)) : AW p l e R s m args below meth c G nL Q h k n pc lv (.long y :: .long x :: st) := by
  unfold dvJ at hx
  obtain ⟨h1, h2⟩ := ifk hx
  cases h2
  exact r_ldiv O hd h1 kk
theorem r_gI (O : OkC p l s m args meth c G cc nL own) (F : CF ci C T N) (j : Nat) (hj : j < N) (ht : tagT (tyF ci j) = 0) {a idx : Nat} (hw : Cond.fieldLink own idx (T j).1 (T j).2.1 (T j).2.2.1 ∈ gtbl) {x : Int32} (hx : gI h ci a j = some x) (hd : decode cc pc = .ok (.getfield idx, 3)) (kk : AW p l e R s m args below meth c G nL Q h k n (pc + 3) lv (.int x :: st)) : AW p l e R s m args below meth c G nL Q h k n pc lv (.ref a :: st) := by
  unfold gI at hx
  obtain ⟨h1, h2⟩ := ifk hx
  cases h2
  exact r_get O F j hj h1 hw (v := .int _) (by rw [fV_I ht]; rfl) hd kk
theorem r_gJ (O : OkC p l s m args meth c G cc nL own) (F : CF ci C T N) (j : Nat) (hj : j < N) (ht : tagT (tyF ci j) = 1) {a idx : Nat} (hw : Cond.fieldLink own idx (T j).1 (T j).2.1 (T j).2.2.1 ∈ gtbl) {x : Int64} (hx : gJ h ci a j = some x) (hd : decode cc pc = .ok (.getfield idx, 3)) (kk : AW p l e R s m args below meth c G nL Q h k n (pc + 3) lv (.long x :: st)) : AW p l e R s m args below meth c G nL Q h k n pc lv (.ref a :: st) := by
  unfold gJ at hx
  obtain ⟨h1, h2⟩ := ifk hx
  cases h2
  exact r_get O F j hj h1 hw (v := .long _) (by rw [fV_J ht]; rfl) hd kk
theorem r_gP (O : OkC p l s m args meth c G cc nL own) (F : CF ci C T N) (j : Nat) (hj : j < N) (ht : tagT (tyF ci j) = 2) {a idx : Nat} (hw : Cond.fieldLink own idx (T j).1 (T j).2.1 (T j).2.2.1 ∈ gtbl) {x : Nat} (hx : gP h ci a j = some x) (hd : decode cc pc = .ok (.getfield idx, 3)) (kk : AW p l e R s m args below meth c G nL Q h k n (pc + 3) lv (.ref x :: st)) : AW p l e R s m args below meth c G nL Q h k n pc lv (.ref a :: st) := by
  unfold gP at hx
  obtain ⟨h1, h2⟩ := ifk hx
  exact r_get O F j hj h1 hw (v := .ref x) (fV_Ps ht h2) hd kk
theorem nar_I {ty : FieldType} (x : Int32) (ht : ty = .int) : narrow ty (.int x) = .int x ∧ fits ty (.int x) = true := by subst ht; exact ⟨rfl, rfl⟩
theorem nar_Z {ty : FieldType} {x : Int32} (ht : ty = .boolean) (hx : x = 0 ∨ x = 1) : narrow ty (.int x) = .int x ∧ fits ty (.int x) = true := by subst ht; rcases hx with rfl | rfl <;> exact ⟨by decide, by decide⟩
theorem nar_J {ty : FieldType} (x : Int64) (ht : ty = .long) : narrow ty (.long x) = .long x ∧ fits ty (.long x) = true := by subst ht; exact ⟨rfl, rfl⟩
theorem nar_P {ty : FieldType} (a : Nat) (ht : tagT ty = 2) : narrow ty (.ref a) = .ref a ∧ fits ty (.ref a) = true := by
  cases ty <;> first | (simp [tagT] at ht; done) | exact ⟨rfl, rfl⟩
theorem r_pI (O : OkC p l s m args meth c G cc nL own) (F : CF ci C T N) (j : Nat) (hj : j < N) (ht : tyF ci j = .int) {a idx : Nat} (hw : Cond.fieldLink own idx (T j).1 (T j).2.1 (T j).2.2.1 ∈ gtbl) (hfin : (T j).2.2.2 = false) {x : Int32} (hx : pI h ci a j x = some h') (hd : decode cc pc = .ok (.putfield idx, 3)) (kk : AW p l e R s m args below meth c G nL Q h' k n (pc + 3) lv st) : AW p l e R s m args below meth c G nL Q h k n pc lv (.int x :: .ref a :: st) := by
  unfold pI at hx
  obtain ⟨h1, h2⟩ := ifk hx
  cases h2
  obtain ⟨n1, n2⟩ := nar_I x ht
  exact r_put O F j hj h1 hw hfin (v := .int x) (h' := sI h a j x) n1 n2 rfl rfl sI_o (sI_f (by rw [ht]; rfl)) hd kk
theorem r_pZ (O : OkC p l s m args meth c G cc nL own) (F : CF ci C T N) (j : Nat) (hj : j < N) (ht : tyF ci j = .boolean) {a idx : Nat} (hw : Cond.fieldLink own idx (T j).1 (T j).2.1 (T j).2.2.1 ∈ gtbl) (hfin : (T j).2.2.2 = false) {x : Int32} (hx : pZ h ci a j x = some h') (hd : decode cc pc = .ok (.putfield idx, 3)) (kk : AW p l e R s m args below meth c G nL Q h' k n (pc + 3) lv st) : AW p l e R s m args below meth c G nL Q h k n pc lv (.int x :: .ref a :: st) := by
  unfold pZ at hx
  obtain ⟨⟨h1, h3⟩, h2⟩ := ifk hx
  cases h2
  obtain ⟨n1, n2⟩ := nar_Z ht h3
  exact r_put O F j hj h1 hw hfin (v := .int x) (h' := sI h a j x) n1 n2 rfl rfl sI_o (sI_f (by rw [ht]; rfl)) hd kk
theorem r_pJ (O : OkC p l s m args meth c G cc nL own) (F : CF ci C T N) (j : Nat) (hj : j < N) (ht : tyF ci j = .long) {a idx : Nat} (hw : Cond.fieldLink own idx (T j).1 (T j).2.1 (T j).2.2.1 ∈ gtbl) (hfin : (T j).2.2.2 = false) {x : Int64} (hx : pJ h ci a j x = some h') (hd : decode cc pc = .ok (.putfield idx, 3)) (kk : AW p l e R s m args below meth c G nL Q h' k n (pc + 3) lv st) : AW p l e R s m args below meth c G nL Q h k n pc lv (.long x :: .ref a :: st) := by
  unfold pJ at hx
  obtain ⟨h1, h2⟩ := ifk hx
  cases h2
  obtain ⟨n1, n2⟩ := nar_J x ht
  exact r_put O F j hj h1 hw hfin (v := .long x) (h' := sJ h a j x) n1 n2 rfl rfl sJ_o (sJ_f (by rw [ht]; rfl)) hd kk
theorem r_pP (O : OkC p l s m args meth c G cc nL own) (F : CF ci C T N) (j : Nat) (hj : j < N) (ht : tagT (tyF ci j) = 2) {a idx : Nat} (hw : Cond.fieldLink own idx (T j).1 (T j).2.1 (T j).2.2.1 ∈ gtbl) (hfin : (T j).2.2.2 = false) {x : Nat} (hx : pP h ci a j x = some h') (hd : decode cc pc = .ok (.putfield idx, 3)) (kk : AW p l e R s m args below meth c G nL Q h' k n (pc + 3) lv st) : AW p l e R s m args below meth c G nL Q h k n pc lv (.ref x :: .ref a :: st) := by
  unfold pP at hx
  obtain ⟨h1, h2⟩ := ifk hx
  cases h2
  obtain ⟨n1, n2⟩ := nar_P (gZ G + x) ht
  exact r_put O F j hj h1 hw hfin (v := .ref x) (h' := sP h a j (some x)) n1 n2 rfl rfl sP_o (sP_f ht) hd kk
theorem r_pPF (O : OkC p l s m args meth c G cc nL own) (hin : meth.name = "<init>") (F : CF ci C T N) (j : Nat) (hj : j < N) (ht : tagT (tyF ci j) = 2) {a idx : Nat} (hw : Cond.fieldLink own idx (T j).1 (T j).2.1 (T j).2.2.1 ∈ gtbl) (hfin : (T j).2.2.2 = true) (hdecl : (T j).1 = own) {x : Nat} (hx : pP h ci a j x = some h') (hd : decode cc pc = .ok (.putfield idx, 3)) (kk : AW p l e R s m args below meth c G nL Q h' k n (pc + 3) lv st) : AW p l e R s m args below meth c G nL Q h k n pc lv (.ref x :: .ref a :: st) := by
  unfold pP at hx
  obtain ⟨h1, h2⟩ := ifk hx
  cases h2
  obtain ⟨n1, n2⟩ := nar_P (gZ G + x) ht
  exact r_putF O hin F j hj h1 hw hfin hdecl (v := .ref x) (h' := sP h a j (some x)) n1 n2 rfl rfl sP_o (sP_f ht) hd kk
theorem r_ldI (O : OkC p l s m args meth c G cc nL own) {a : Nat} {i x : Int32} (hx : ldI h a i = some x) (hd : decode cc pc = .ok (.iaload, 1)) (kk : AW p l e R s m args below meth c G nL Q h k n (pc + 1) lv (.int x :: st)) : AW p l e R s m args below meth c G nL Q h k n pc lv (.int i :: .ref a :: st) := by
  unfold ldI at hx
  obtain ⟨h1, h2⟩ := ifk hx
  cases h2
  exact r_iald O h1.1 h1.2 hd kk
theorem r_ldJ (O : OkC p l s m args meth c G cc nL own) {a : Nat} {i : Int32} {x : Int64} (hx : ldJ h a i = some x) (hd : decode cc pc = .ok (.laload, 1)) (kk : AW p l e R s m args below meth c G nL Q h k n (pc + 1) lv (.long x :: st)) : AW p l e R s m args below meth c G nL Q h k n pc lv (.int i :: .ref a :: st) := by
  unfold ldJ at hx
  obtain ⟨h1, h2⟩ := ifk hx
  cases h2
  exact r_lald O h1.1 h1.2 hd kk
theorem r_ldZ (O : OkC p l s m args meth c G cc nL own) {a : Nat} {i x : Int32} (hx : ldZ h a i = some x) (hd : decode cc pc = .ok (.baload, 1)) (kk : AW p l e R s m args below meth c G nL Q h k n (pc + 1) lv (.int x :: st)) : AW p l e R s m args below meth c G nL Q h k n pc lv (.int i :: .ref a :: st) := by
  unfold ldZ at hx
  obtain ⟨h1, h2⟩ := ifk hx
  cases h2
  exact r_zald O h1.1 h1.2 hd kk
theorem r_ldP (O : OkC p l s m args meth c G cc nL own) {a : Nat} {i : Int32} {x : Option Nat} (hx : ldP h a i = some x) (hd : decode cc pc = .ok (.aaload, 1)) (kk : AW p l e R s m args below meth c G nL Q h k n (pc + 1) lv (rf x :: st)) : AW p l e R s m args below meth c G nL Q h k n pc lv (.int i :: .ref a :: st) := by
  unfold ldP at hx
  obtain ⟨h1, h2⟩ := ifk hx
  cases h2
  exact r_aald O h1.1 h1.2 hd kk
theorem r_stI (O : OkC p l s m args meth c G cc nL own) {a : Nat} {i x : Int32} (hx : stI h a i x = some h') (hd : decode cc pc = .ok (.iastore, 1)) (kk : AW p l e R s m args below meth c G nL Q h' k n (pc + 1) lv st) : AW p l e R s m args below meth c G nL Q h k n pc lv (.int x :: .int i :: .ref a :: st) := by
  unfold stI at hx
  obtain ⟨h1, h2⟩ := ifk hx
  cases h2
  exact r_iast O h1.1 h1.2 hd kk
theorem r_stZ (O : OkC p l s m args meth c G cc nL own) {a : Nat} {i x : Int32} (hx : stZ h a i x = some h') (hd : decode cc pc = .ok (.bastore, 1)) (kk : AW p l e R s m args below meth c G nL Q h' k n (pc + 1) lv st) : AW p l e R s m args below meth c G nL Q h k n pc lv (.int x :: .int i :: .ref a :: st) := by
  unfold stZ at hx
  obtain ⟨h1, h2⟩ := ifk hx
  cases h2
  exact r_zast O h1.1.1 h1.2 h1.1.2 hd kk
theorem r_stJ (O : OkC p l s m args meth c G cc nL own) {a : Nat} {i : Int32} {x : Int64} (hx : stJ h a i x = some h') (hd : decode cc pc = .ok (.lastore, 1)) (kk : AW p l e R s m args below meth c G nL Q h' k n (pc + 1) lv st) : AW p l e R s m args below meth c G nL Q h k n pc lv (.long x :: .int i :: .ref a :: st) := by
  unfold stJ at hx
  obtain ⟨h1, h2⟩ := ifk hx
  cases h2
  exact r_last O h1.1 h1.2 hd kk
theorem r_stP (O : OkC p l s m args meth c G cc nL own) {a v : Nat} {i : Int32} (hx : stP h a i v = some h') (hd : decode cc pc = .ok (.aastore, 1)) (kk : AW p l e R s m args below meth c G nL Q h' k n (pc + 1) lv st) : AW p l e R s m args below meth c G nL Q h k n pc lv (.ref v :: .int i :: .ref a :: st) := by
  unfold stP at hx
  obtain ⟨h1, h2⟩ := ifk hx
  cases h2
  exact r_aast O h1.1.1 h1.1.2 h1.2 hd kk
theorem r_aln (O : OkC p l s m args meth c G cc nL own) {a : Nat} {x : Int32} (hx : aln h a = some x) (hd : decode cc pc = .ok (.arraylength, 1)) (kk : AW p l e R s m args below meth c G nL Q h k n (pc + 1) lv (.int x :: st)) : AW p l e R s m args below meth c G nL Q h k n pc lv (.ref a :: st) := by
  unfold aln at hx
  obtain ⟨h1, h2⟩ := ifk hx
  cases h2
  exact r_alen O h1 hd kk
theorem r_gs1 (O : OkC p l s m args meth c G cc nL own) {idx : Nat} (hw : Cond.fieldLink own idx RX8 "TAKES" "[I" ∈ gtbl) (hd : decode cc pc = .ok (.getstatic idx, 3)) (kk : AW p l e R s m args below meth c G nL Q h k n (pc + 3) lv (.retAddr 1 :: st)) : AW p l e R s m args below meth c G nL Q h k n pc lv st := fun H locs ls hR hS hl => va_gets O.1 O.2.1 O.2.2.2.2.2.1.2.2.2.2.1.1 hS O.2.2.2.1 (O.2.2.2.2.1 _ hw) (fun x hx => hx) hd (kk H locs ls hR hS hl)
theorem r_gs2 (O : OkC p l s m args meth c G cc nL own) {idx : Nat} (hw : Cond.fieldLink own idx RX8 "GIVES" "[I" ∈ gtbl) (hd : decode cc pc = .ok (.getstatic idx, 3)) (kk : AW p l e R s m args below meth c G nL Q h k n (pc + 3) lv (.retAddr 2 :: st)) : AW p l e R s m args below meth c G nL Q h k n pc lv st := fun H locs ls hR hS hl => va_gets O.1 O.2.1 O.2.2.2.2.2.1.2.2.2.2.2.1.1 hS O.2.2.2.1 (O.2.2.2.2.1 _ hw) (fun x hx => hx) hd (kk H locs ls hR hS hl)
theorem r_gs1N (O : OkC p l s m args meth c G cc nL own) {idx : Nat} (hw : Cond.fieldLinkNest own idx RX8 "TAKES" "[I" RX8 ∈ ntbl) (hd : decode cc pc = .ok (.getstatic idx, 3)) (kk : AW p l e R s m args below meth c G nL Q h k n (pc + 3) lv (.retAddr 1 :: st)) : AW p l e R s m args below meth c G nL Q h k n pc lv st := fun H locs ls hR hS hl => va_getsN O.1 O.2.1 O.2.2.2.2.2.1.2.2.2.2.1.1 hS O.2.2.2.1 (va_Nw.use rfl (O.2.2.2.2.2.1.2.2.1 _ hw)) (fun x hx => hx) hd (kk H locs ls hR hS hl)
theorem r_gs2N (O : OkC p l s m args meth c G cc nL own) {idx : Nat} (hw : Cond.fieldLinkNest own idx RX8 "GIVES" "[I" RX8 ∈ ntbl) (hd : decode cc pc = .ok (.getstatic idx, 3)) (kk : AW p l e R s m args below meth c G nL Q h k n (pc + 3) lv (.retAddr 2 :: st)) : AW p l e R s m args below meth c G nL Q h k n pc lv st := fun H locs ls hR hS hl => va_getsN O.1 O.2.1 O.2.2.2.2.2.1.2.2.2.2.2.1.1 hS O.2.2.2.1 (va_Nw.use rfl (O.2.2.2.2.2.1.2.2.1 _ hw)) (fun x hx => hx) hd (kk H locs ls hR hS hl)
theorem r_tkI (O : OkC p l s m args meth c G cc nL own) {i x : Int32} (hx : tkI i = some x) (hd : decode cc pc = .ok (.iaload, 1)) (kk : AW p l e R s m args below meth c G nL Q h k n (pc + 1) lv (.int x :: st)) : AW p l e R s m args below meth c G nL Q h k n pc lv (.int i :: .retAddr 1 :: st) := by
  unfold tkI at hx
  obtain ⟨h1, h2⟩ := ifk hx
  cases h2
  exact fun H locs ls hR hS hl => va_ti O.1 O.2.1 O.2.2.2.2.2.1.2.2.2.2.1.2 hS h1 rfl hd (kk H locs ls hR hS hl)
theorem r_gvI (O : OkC p l s m args meth c G cc nL own) {i x : Int32} (hx : gvI i = some x) (hd : decode cc pc = .ok (.iaload, 1)) (kk : AW p l e R s m args below meth c G nL Q h k n (pc + 1) lv (.int x :: st)) : AW p l e R s m args below meth c G nL Q h k n pc lv (.int i :: .retAddr 2 :: st) := by
  unfold gvI at hx
  obtain ⟨h1, h2⟩ := ifk hx
  cases h2
  exact fun H locs ls hR hS hl => va_ti O.1 O.2.1 O.2.2.2.2.2.1.2.2.2.2.2.1.2 hS h1 rfl hd (kk H locs ls hR hS hl)
end AWO
