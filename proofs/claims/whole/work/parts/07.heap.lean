/-! THE ABSTRACT HEAP: every cell that is made behind the law's entry has a number (0, 1, ..), its address is z + number.
kind: 0 .. 9 an object of that class of vwCl; 10 int[]; 11 long[]; 12 boolean[]; 13 Moment[]; 14 nothing that is known (an exception; not made yet) -/
abbrev vwCl : List vw_C := [(RX0, TX0, 8), (RX1, TX1, 12), (RX2, TX2, 2), (RX3, TX3, 3), (RX4, TX4, 8), (RX5, TX5, 14), (RX6, TX6, 2), (RX7, TX7, 8), (RX8, TX8, 13), (RX9, TX9, 42)]
abbrev AH : Type := Nat × (Nat → Nat) × (Nat → Nat) × (Nat → Nat → Int32) × (Nat → Nat → Int64) × (Nat → Nat → Option Nat)
def aN (h : AH) : Nat := h.1
def aK (h : AH) : Nat → Nat := h.2.1
def aE (h : AH) : Nat → Nat := h.2.2.1
def aI (h : AH) : Nat → Nat → Int32 := h.2.2.2.1
def aJ (h : AH) : Nat → Nat → Int64 := h.2.2.2.2.1
def aP (h : AH) : Nat → Nat → Option Nat := h.2.2.2.2.2
def up2 {α : Type} (f : Nat → Nat → α) (a i : Nat) (v : α) : Nat → Nat → α := fun b j => if b = a ∧ j = i then v else f b j
def upR {α : Type} (f : Nat → Nat → α) (a : Nat) (g : Nat → α) : Nat → Nat → α := fun b => if b = a then g else f b
/-- stores: a place of an int, long, reference kind; a whole row; a new cell; an exception's cell -/
def sI (h : AH) (a i : Nat) (v : Int32) : AH := (h.1, h.2.1, h.2.2.1, up2 h.2.2.2.1 a i v, h.2.2.2.2.1, h.2.2.2.2.2)
def sJ (h : AH) (a i : Nat) (v : Int64) : AH := (h.1, h.2.1, h.2.2.1, h.2.2.2.1, up2 h.2.2.2.2.1 a i v, h.2.2.2.2.2)
def sP (h : AH) (a i : Nat) (v : Option Nat) : AH := (h.1, h.2.1, h.2.2.1, h.2.2.2.1, h.2.2.2.2.1, up2 h.2.2.2.2.2 a i v)
def rI (h : AH) (a : Nat) (g : Nat → Int32) : AH := (h.1, h.2.1, h.2.2.1, upR h.2.2.2.1 a g, h.2.2.2.2.1, h.2.2.2.2.2)
def rJ (h : AH) (a : Nat) (g : Nat → Int64) : AH := (h.1, h.2.1, h.2.2.1, h.2.2.2.1, upR h.2.2.2.2.1 a g, h.2.2.2.2.2)
def nw (h : AH) (k len : Nat) : AH := (h.1 + 1, va_up h.2.1 h.1 k, va_up h.2.2.1 h.1 len, upR h.2.2.2.1 h.1 (fun _ => 0), upR h.2.2.2.2.1 h.1 (fun _ => 0), upR h.2.2.2.2.2 h.1 (fun _ => none))
def nx (h : AH) : AH := (h.1 + 1, h.2)
/-- fields of the classes -/
def nF (k : Nat) : Nat := match k with
  | 0 => 8 | 1 => 12 | 2 => 2 | 3 => 3 | 4 => 8 | 5 => 14 | 6 => 2 | 7 => 8 | 8 => 13 | _ => 42
def tyF (k : Nat) : Nat → FieldType := match k with
  | 0 => tyX0 | 1 => tyX1 | 2 => tyX2 | 3 => tyX3 | 4 => tyX4 | 5 => tyX5 | 6 => tyX6 | 7 => tyX7 | 8 => tyX8 | _ => tyX9
def tagT : FieldType → Nat
  | .long => 1
  | .object _ => 2
  | .array _ => 2
  | _ => 0
/-- the world of a walk: class numbers; array classes (int, long, boolean, Moment); z; the static arrays' addresses; the script -/
abbrev GT : Type := va_G × (ClassId × ClassId × ClassId × ClassId) × Nat × (Nat → Nat) × Nat × (Nat → Int32)
abbrev gD (G : GT) : va_G := G.1
abbrev gC (G : GT) : ClassId × ClassId × ClassId × ClassId := G.2.1
abbrev gZ (G : GT) : Nat := G.2.2.1
abbrev gS (G : GT) : Nat → Nat := G.2.2.2.1
abbrev gA (G : GT) : Nat → Prop := fun q => gZ G ≤ q
def fV (z : Nat) (h : AH) (a k j : Nat) : Value := if tagT (tyF k j) = 0 then .int (aI h a j) else if tagT (tyF k j) = 1 then .long (aJ h a j) else va_rf ((aP h a j).map (fun b => z + b))
def cE (G : GT) (h : AH) (a : Nat) : va_E :=
  if aK h a = 10 then .inl ((gC G).1, aE h a, .inl (aI h a))
  else if aK h a = 11 then .inl ((gC G).2.1, aE h a, .inr (.inl (aJ h a)))
  else if aK h a = 12 then .inl ((gC G).2.2.1, aE h a, .inl (aI h a))
  else if aK h a = 13 then .inl ((gC G).2.2.2, aE h a, .inr (.inr (.inr (.inr fun j => (aP h a j).map (fun b => gZ G + b)))))
  else .inr (aK h a, (List.range (nF (aK h a))).map (fV (gZ G) h a (aK h a)))
def Rep (G : GT) (h : AH) (H : Heap) : Prop := H.size = gZ G + aN h ∧ (∀ a, a < aN h → aK h a < 14 → va_at (gD G) vwCl (gZ G + a, cE G h a) H) ∧ ∀ a, aN h ≤ a → aK h a = 14
/-- values: a reference names a cell by its number; retAddr k: a static array, the script -/
def cv (G : GT) : Value → Value
  | .ref a => .ref (gZ G + a)
  | .retAddr k => .ref (gS G k)
  | v => v
def rf (r : Option Nat) : Value := match r with
  | none => .null
  | some a => .ref a
def cP (G : GT) (q : Nat × Value) : Nat × Value := (q.1, cv G q.2)
theorem cv_cat (G : GT) (v : Value) : (cv G v).category = v.category := by cases v <;> rfl
theorem cv_rf (G : GT) (r : Option Nat) : cv G (rf r) = va_rf (r.map (fun b => gZ G + b)) := by cases r <;> rfl
theorem cv_sum (G : GT) (st : List Value) : ((st.map (cv G)).map fun v => v.category).sum = (st.map fun v => v.category).sum := by
  rw [List.map_map]
  congr 1
  exact List.map_congr_left fun v _ => cv_cat G v
theorem cv_args (G : GT) (vs : List Value) : ∀ i, lv_args i (vs.map (cv G)) = (lv_args i vs).map (cP G) := by
  induction vs with
  | nil => intro i; rfl
  | cons v vs ih =>
    intro i
    show (i, cv G v) :: lv_args _ _ = (i, cv G v) :: List.map (cP G) _
    rw [cv_cat, ih]
theorem cv_sl (G : GT) (vs : List Value) : (lg_sl (vs.map (cv G))).length = (lg_sl vs).length := by
  induction vs with
  | nil => rfl
  | cons v vs ih =>
    simp only [lg_sl, List.map_cons, List.flatMap_cons, List.length_append, cv_cat] at ih ⊢
    rw [ih]
    congr 1
    by_cases hc : v.category = 2 <;> simp [hc]
/-- reading -/
theorem Rep.lt {G : GT} {h : AH} {H : Heap} (hR : Rep G h H) {a : Nat} (hk : aK h a < 14) : a < aN h := by
  rcases Nat.lt_or_ge a (aN h) with q | q
  · exact q
  · rw [hR.2.2 a q] at hk; omega
theorem Rep.at {G : GT} {h : AH} {H : Heap} (hR : Rep G h H) {a : Nat} (hk : aK h a < 14) : va_at (gD G) vwCl (gZ G + a, cE G h a) H := hR.2.1 a (hR.lt hk) hk
theorem cE_10 {G : GT} {h : AH} {a : Nat} (hk : aK h a = 10) : cE G h a = .inl ((gC G).1, aE h a, .inl (aI h a)) := by simp [cE, hk]
theorem cE_11 {G : GT} {h : AH} {a : Nat} (hk : aK h a = 11) : cE G h a = .inl ((gC G).2.1, aE h a, .inr (.inl (aJ h a))) := by simp [cE, hk]
theorem cE_12 {G : GT} {h : AH} {a : Nat} (hk : aK h a = 12) : cE G h a = .inl ((gC G).2.2.1, aE h a, .inl (aI h a)) := by simp [cE, hk]
theorem cE_13 {G : GT} {h : AH} {a : Nat} (hk : aK h a = 13) : cE G h a = .inl ((gC G).2.2.2, aE h a, .inr (.inr (.inr (.inr fun j => (aP h a j).map (fun b => gZ G + b))))) := by simp [cE, hk]
theorem cE_ob {G : GT} {h : AH} {a c : Nat} (hk : aK h a = c) (hc : c < 10) : cE G h a = .inr (c, (List.range (nF c)).map (fV (gZ G) h a c)) := by
  unfold cE
  rw [hk, if_neg (by omega), if_neg (by omega), if_neg (by omega), if_neg (by omega)]
/-- a cell's picture depends on its own rows alone -/
theorem cE_congr {G : GT} {h h' : AH} {a : Nat} (e1 : aK h' a = aK h a) (e2 : aE h' a = aE h a) (e3 : aI h' a = aI h a) (e4 : aJ h' a = aJ h a) (e5 : aP h' a = aP h a) : cE G h' a = cE G h a := by
  unfold cE fV
  simp only [e1, e2, e3, e4, e5]
/-- behind a store into one cell -/
theorem Rep.put {G : GT} {h h' : AH} {H H1 : Heap} (hR : Rep G h H) {a : Nat} (e1 : aN h' = aN h) (e2 : aK h' = aK h) (e3 : ∀ b, b ≠ a → cE G h' b = cE G h b) (hz : H1.size = H.size) (ho : ∀ q : Nat, q ≠ gZ G + a → H1[q]? = H[q]?) (hn : va_at (gD G) vwCl (gZ G + a, cE G h' a) H1) : Rep G h' H1 := by
  refine ⟨by rw [hz, hR.1, e1], fun b hb hk => ?_, fun b hb => by rw [e2]; exact hR.2.2 b (by rw [← e1]; exact hb)⟩
  by_cases hab : b = a
  · subst hab; exact hn
  · rw [e3 b hab]
    refine (hR.2.1 b (by rw [← e1]; exact hb) (by rw [← e2]; exact hk)).kept (ho _ ?_)
    show gZ G + b ≠ gZ G + a
    omega
/-- behind a new cell -/
theorem Rep.push {G : GT} {h : AH} {H H1 : Heap} (hR : Rep G h H) {k len : Nat} (hz : H1.size = H.size + 1) (ho : ∀ q : Nat, q < H.size → H1[q]? = H[q]?) (hn : va_at (gD G) vwCl (gZ G + aN h, cE G (nw h k len) (aN h)) H1) : Rep G (nw h k len) H1 := by
  refine ⟨by rw [hz, hR.1]; rfl, fun b hb hk => ?_, fun b hb => ?_⟩
  · by_cases hab : b = aN h
    · subst hab; exact hn
    · have hlt : b < aN h := by
        have : b < aN h + 1 := hb
        omega
      have hne : b ≠ h.1 := hab
      have hc : cE G (nw h k len) b = cE G h b := cE_congr (by simp [aK, nw, va_up, hne]) (by simp [aE, nw, va_up, hne]) (by simp [aI, nw, upR, hne]) (by simp [aJ, nw, upR, hne]) (by simp [aP, nw, upR, hne])
      have hk' : aK h b < 14 := by
        have e : aK (nw h k len) b = aK h b := by simp [aK, nw, va_up, hne]
        rw [← e]; exact hk
      rw [hc]
      refine (hR.2.1 b hlt hk').kept (ho _ ?_)
      show gZ G + b < H.size
      rw [hR.1]; omega
  · have hb' : aN h + 1 ≤ b := hb
    have hne : b ≠ h.1 := by
      have : aN h = h.1 := rfl
      omega
    have e : aK (nw h k len) b = aK h b := by simp [aK, nw, va_up, hne]
    rw [e]
    exact hR.2.2 b (by omega)
/-- behind an exception's cell -/
theorem Rep.thrown {G : GT} {h : AH} {H H1 : Heap} (hR : Rep G h H) (hz : H1.size = H.size + 1) (ho : ∀ q : Nat, q < H.size → H1[q]? = H[q]?) : Rep G (nx h) H1 := by
  refine ⟨by rw [hz, hR.1]; rfl, fun b hb hk => ?_, fun b hb => hR.2.2 b (by have : aN h + 1 ≤ b := hb; omega)⟩
  have hb' : b < aN h + 1 := hb
  have hk' : aK h b < 14 := hk
  have hlt : b < aN h := hR.lt hk'
  have hc : cE G (nx h) b = cE G h b := cE_congr rfl rfl rfl rfl rfl
  rw [hc]
  refine (hR.2.1 b hlt hk').kept (ho _ ?_)
  show gZ G + b < H.size
  rw [hR.1]; omega
