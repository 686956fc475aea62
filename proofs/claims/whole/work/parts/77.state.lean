/-! THE STATE: book, collected steps, plan, base, numbers, worked, ring, cause, closed, grouped, moves of the group, worked in all, refusals, past (the eldest first) -/
abbrev PN : Type := AP × (Nat → Int64)
abbrev CA : Type := Int32 × Int32 × Int32 × Int32
abbrev SX : Type := BK × List (Int32 × Int32) × AP × AP × (Nat → Int64) × List Nat × List Nat × CA × Bool × Bool × Nat × Nat × Nat × List PN
def tB (S : SX) : BK := S.1
def tC (S : SX) : List (Int32 × Int32) := S.2.1
def tA (S : SX) : AP := S.2.2.1
def tP (S : SX) : AP := S.2.2.2.1
def tN (S : SX) : Nat → Int64 := S.2.2.2.2.1
def tW (S : SX) : List Nat := S.2.2.2.2.2.1
def tR (S : SX) : List Nat := S.2.2.2.2.2.2.1
def tQ (S : SX) : CA := S.2.2.2.2.2.2.2.1
def tO (S : SX) : Bool := S.2.2.2.2.2.2.2.2.1
def tG (S : SX) : Bool := S.2.2.2.2.2.2.2.2.2.1
def tM (S : SX) : Nat := S.2.2.2.2.2.2.2.2.2.2.1
def tU (S : SX) : Nat := S.2.2.2.2.2.2.2.2.2.2.2.1
def tF (S : SX) : Nat := S.2.2.2.2.2.2.2.2.2.2.2.2.1
def tH (S : SX) : List PN := S.2.2.2.2.2.2.2.2.2.2.2.2.2
def orS (S : SX) : List Nat := if tO S = true then orA (isC (tB S) (tP S)) (rdB (tB S) (tP S)) else []
def zfA (A : AP) : Prop := ∀ l, qZ A l ≤ qS A l
/-- a settled plan and its numbers -/
def okP (B : BK) (x : PN) : Prop := WfA x.1 (bT B) (bL B) ∧ zfA x.1 ∧ (∀ d, bdJ (x.2 d)) ∧ (∀ d, isC B x.1 d = false → x.2 d = 0) ∧ alB B x.1 = true
def WfS (S : SX) : Prop := WfB (tB S) ∧ (tC S).length ≤ 24 ∧ WfA (tA S) (bT (tB S)) (bL (tB S)) ∧ zfA (tA S) ∧ WfA (tP S) (bT (tB S)) (bL (tB S)) ∧ zfA (tP S) ∧
  (tO S = true → okP (tB S) (tP S, tN S) ∧ ∀ x, x ∈ tH S → okP (tB S) x) ∧ (tO S = false → tA S = tP S ∧ (∀ d, tN S d = 0) ∧ tH S = [] ∧ tG S = false) ∧ (tG S = false → tM S = 0) ∧ (tH S).length ≤ 60
/-! the past of the class -/
def MoS (h : AH) (m : Nat) : Prop := 77 ≤ m ∧ m + 11 ≤ aN h ∧ aK h m = 2 ∧ aP h m 0 = some (m + 1) ∧ aP h m 1 = some (m + 10) ∧ WPl h (m + 1) ∧ aK h (m + 10) = 11 ∧ aE h (m + 10) = 258
def MoR (h : AH) (m : Nat) (x : PN) : Prop := RepC h (m + 1) x.1 ∧ ∀ d, d < 258 → aJ h (m + 10) d = x.2 d
def PaC (h : AH) (H : List PN) : Prop := ∃ e, e < 60 ∧ aI h 51 1 = nI e ∧ aI h 51 2 = nI H.length ∧ H.length ≤ 60 ∧ (∀ i m, i < 60 → aP h 52 i = some m → MoS h m) ∧ (∀ i j m m', i < 60 → j < 60 → i ≠ j → aP h 52 i = some m → aP h 52 j = some m' → m + 10 < m' ∨ m' + 10 < m) ∧
  ∀ i (hi : i < H.length), ∃ m, aP h 52 ((e + i) % 60) = some m ∧ MoR h m H[i]
def ClR (h : AH) (C : List (Int32 × Int32)) : Prop := aI h 1 5 = nI C.length ∧ ∀ i (hi : i < C.length), aI h 5 i = C[i].1 ∧ aI h 6 i = C[i].2
theorem ClR.fr {h h' : AH} {C : List (Int32 × Int32)} (x : ClR h C) (e1 : aI h' 1 = aI h 1) (e5 : aI h' 5 = aI h 5) (e6 : aI h' 6 = aI h 6) : ClR h' C := by
  unfold ClR
  rw [e1, e5, e6]
  exact x
def CaR (h : AH) (Q : CA) : Prop := aI h 30 5 = Q.1 ∧ aI h 30 6 = Q.2.1 ∧ aI h 30 7 = Q.2.2.1 ∧ aI h 30 8 = Q.2.2.2
theorem CaR.fr {h h' : AH} {Q : CA} (x : CaR h Q) (e : aI h' 30 = aI h 30) : CaR h' Q := by
  unfold CaR
  rw [e]
  exact x
def InvC (h : AH) (S : SX) : Prop := Sh h ∧ RepB h (tB S) ∧ ClR h (tC S) ∧ RepC h 7 (tA S) ∧ RepC h 16 (tP S) ∧ (∀ d, d < 258 → aJ h 25 d = tN S d) ∧
  Rw h 26 (orS S) ∧ Rw h 28 (tW S) ∧ Rw h 45 (tR S) ∧ CaR h (tQ S) ∧
  (aI h 0 8 = bI (tO S) ∧ aI h 0 9 = bI (tG S) ∧ aI h 0 10 = nI (tM S) ∧ aI h 0 11 = nI (tU S) ∧ aI h 0 12 = nI (tF S)) ∧ PaC h (tH S)
/-- cells of the class (moments and exceptions too), of the other one -/
theorem Fr.B {h h' : AH} {Q : Nat → Prop} (f : Fr h h' Q) {B : BK} (R : RepB h B) (h1 : ¬ Q 1) (h2 : ¬ Q 2) (h3 : ¬ Q 3) (h4 : ¬ Q 4) : RepB h' B := by
  unfold RepB
  rw [f.i h1, f.i h2, f.i h3, f.i h4]
  exact R
theorem Fr.w {h h' : AH} {Q : Nat → Prop} (f : Fr h h' Q) {r : Nat} {l : List Nat} (w : Rw h r l) (h1 : ¬ Q r) (h2 : ¬ Q (r + 1)) : Rw h' r l := w.fr (f.i h1) (f.i h2)
theorem Fr.pl {h h' : AH} {Q : Nat → Prop} (f : Fr h h' Q) {p : Nat} (w : WPl h p) (h1 : ¬ Q p) : WPl h' p := by
  unfold WPl
  rw [f.2.1, f.2.2.1]
  refine ⟨w.1, fun j hj => ?_, w.2.2⟩
  rw [f.p h1]
  exact w.2.1 j hj
theorem MoS.fr {h h' : AH} {Q : Nat → Prop} {m : Nat} (w : MoS h m) (f : Fr h h' Q) (hq : ∀ a, m ≤ a → a ≤ m + 10 → ¬ Q a) : MoS h' m := by
  obtain ⟨a1, a2, a3, a4, a5, a6, a7, a8⟩ := w
  refine ⟨a1, by rw [f.1]; exact a2, by rw [f.2.1]; exact a3, by rw [f.p (hq m (by omega) (by omega))]; exact a4, by rw [f.p (hq m (by omega) (by omega))]; exact a5, f.pl a6 (hq _ (by omega) (by omega)), by rw [f.2.1]; exact a7, by rw [f.2.2.1]; exact a8⟩
theorem MoR.fr {h h' : AH} {Q : Nat → Prop} {m : Nat} {x : PN} (w : MoR h m x) (f : Fr h h' Q) (hq : ∀ a, m ≤ a → a ≤ m + 10 → ¬ Q a) : MoR h' m x := by
  refine ⟨f.R w.1 (fun a q1 q2 => hq a (by omega) (by omega)), fun d hd => ?_⟩
  rw [f.j (hq (m + 10) (by omega) (by omega))]
  exact w.2 d hd
theorem PaC.fr {h h' : AH} {Q : Nat → Prop} {H : List PN} (w : PaC h H) (f : Fr h h' Q) (n1 : ¬ Q 51) (n2 : ¬ Q 52) (hq : ∀ a, 77 ≤ a → ¬ Q a) : PaC h' H := by
  obtain ⟨e, a1, a2, a3, a4, a5, a6, a7⟩ := w
  refine ⟨e, a1, by rw [f.i n1]; exact a2, by rw [f.i n1]; exact a3, a4, fun i m hi e1 => ?_, fun i j m m' hi hj hn e1 e2 => ?_, fun i hi => ?_⟩
  · rw [f.p n2] at e1
    have := a5 i m hi e1
    exact this.fr f (fun a q1 _ => hq a (by have := this.1; omega))
  · rw [f.p n2] at e1 e2
    exact a6 i j m m' hi hj hn e1 e2
  · obtain ⟨m, e1, r⟩ := a7 i hi
    have h77 := (a5 _ m (Nat.mod_lt _ (by decide)) e1).1
    exact ⟨m, by rw [f.p n2]; exact e1, r.fr f (fun a q1 _ => hq a (by omega))⟩
/-- the other one's cells don't matter -/
theorem InvC.ot {h h' : AH} {Q : Nat → Prop} {S : SX} (x : InvC h S) (f : Fr h h' Q) (hq : ∀ a, Q a → 53 ≤ a ∧ a ≤ 76) : InvC h' S := by
  have n : ∀ a, a < 53 → ¬ Q a := fun a ha q => by have := hq a q; omega
  obtain ⟨a1, a2, a3, a4, a5, a6, a7, a8, a9, a10, a11, a12⟩ := x
  refine ⟨f.S a1, f.B a2 (n 1 (by decide)) (n 2 (by decide)) (n 3 (by decide)) (n 4 (by decide)), ?_, f.R a4 (fun a q1 q2 => n a (by omega)), f.R a5 (fun a q1 q2 => n a (by omega)), fun d hd => by rw [f.j (n 25 (by decide))]; exact a6 d hd, f.w a7 (n 26 (by decide)) (n 27 (by decide)), f.w a8 (n 28 (by decide)) (n 29 (by decide)), f.w a9 (n 45 (by decide)) (n 46 (by decide)), ?_, ?_, a12.fr f (n 51 (by decide)) (n 52 (by decide)) (fun a q1 q2 => by have := hq a q2; omega)⟩
  · exact a3.fr (f.i (n 1 (by decide))) (f.i (n 5 (by decide))) (f.i (n 6 (by decide)))
  · exact a10.fr (f.i (n 30 (by decide)))
  · rw [f.i (n 0 (by decide))]; exact a11
theorem MoS.nx {h : AH} {m : Nat} (w : MoS h m) : MoS (nx h) m := by
  obtain ⟨a1, a2, a3⟩ := w
  exact ⟨a1, by show m + 11 ≤ aN h + 1; omega, a3⟩
theorem InvC.nx {h : AH} {S : SX} (x : InvC h S) : InvC (nx h) S := by
  obtain ⟨a1, a2, a3, a4, a5, a6, a7, a8, a9, a10, a11, a12⟩ := x
  refine ⟨⟨by show 77 ≤ aN h + 1; have := a1.1; omega, a1.2⟩, a2, a3, a4, a5, a6, a7, a8, a9, a10, a11, ?_⟩
  obtain ⟨e, b1, b2, b3, b4, b5, b6, b7⟩ := a12
  exact ⟨e, b1, b2, b3, b4, fun i m hi e1 => (b5 i m hi e1).nx, b6, b7⟩
