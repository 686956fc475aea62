/-! tuples -/
theorem oi1 {A0 : Type} {a1 a2 : A0} (h : some a1 = some a2) : a1 = a2 := Option.some.inj h
theorem oi2 {A0 B0 : Type} {a1 a2 : A0} {b1 b2 : B0} (h : some (a1, b1) = some (a2, b2)) : a1 = a2 ∧ b1 = b2 := by
  simpa using h
theorem oi3 {A0 B0 C0 : Type} {a1 a2 : A0} {b1 b2 : B0} {c1 c2 : C0} (h : some (a1, b1, c1) = some (a2, b2, c2)) : a1 = a2 ∧ b1 = b2 ∧ c1 = c2 := by
  simpa using h
theorem oi4 {A0 B0 C0 D0 : Type} {a1 a2 : A0} {b1 b2 : B0} {c1 c2 : C0} {d1 d2 : D0} (h : some (a1, b1, c1, d1) = some (a2, b2, c2, d2)) : a1 = a2 ∧ b1 = b2 ∧ c1 = c2 ∧ d1 = d2 := by
  simpa using h
theorem oi5 {A0 B0 C0 D0 E0 : Type} {a1 a2 : A0} {b1 b2 : B0} {c1 c2 : C0} {d1 d2 : D0} {e1 e2 : E0} (h : some (a1, b1, c1, d1, e1) = some (a2, b2, c2, d2, e2)) : a1 = a2 ∧ b1 = b2 ∧ c1 = c2 ∧ d1 = d2 ∧ e1 = e2 := by
  simpa using h
theorem oi6 {A0 B0 C0 D0 E0 F0 : Type} {a1 a2 : A0} {b1 b2 : B0} {c1 c2 : C0} {d1 d2 : D0} {e1 e2 : E0} {f1 f2 : F0} (h : some (a1, b1, c1, d1, e1, f1) = some (a2, b2, c2, d2, e2, f2)) : a1 = a2 ∧ b1 = b2 ∧ c1 = c2 ∧ d1 = d2 ∧ e1 = e2 ∧ f1 = f2 := by
  simpa using h
theorem oi7 {A0 B0 C0 D0 E0 F0 G0 : Type} {a1 a2 : A0} {b1 b2 : B0} {c1 c2 : C0} {d1 d2 : D0} {e1 e2 : E0} {f1 f2 : F0} {g1 g2 : G0} (h : some (a1, b1, c1, d1, e1, f1, g1) = some (a2, b2, c2, d2, e2, f2, g2)) : a1 = a2 ∧ b1 = b2 ∧ c1 = c2 ∧ d1 = d2 ∧ e1 = e2 ∧ f1 = f2 ∧ g1 = g2 := by
  simpa using h
theorem oi8 {A0 B0 C0 D0 E0 F0 G0 H0 : Type} {a1 a2 : A0} {b1 b2 : B0} {c1 c2 : C0} {d1 d2 : D0} {e1 e2 : E0} {f1 f2 : F0} {g1 g2 : G0} {h1 h2 : H0} (h : some (a1, b1, c1, d1, e1, f1, g1, h1) = some (a2, b2, c2, d2, e2, f2, g2, h2)) : a1 = a2 ∧ b1 = b2 ∧ c1 = c2 ∧ d1 = d2 ∧ e1 = e2 ∧ f1 = f2 ∧ g1 = g2 ∧ h1 = h2 := by
  simpa using h
theorem oi9 {A0 B0 C0 D0 E0 F0 G0 H0 I0 : Type} {a1 a2 : A0} {b1 b2 : B0} {c1 c2 : C0} {d1 d2 : D0} {e1 e2 : E0} {f1 f2 : F0} {g1 g2 : G0} {h1 h2 : H0} {i1 i2 : I0} (h : some (a1, b1, c1, d1, e1, f1, g1, h1, i1) = some (a2, b2, c2, d2, e2, f2, g2, h2, i2)) : a1 = a2 ∧ b1 = b2 ∧ c1 = c2 ∧ d1 = d2 ∧ e1 = e2 ∧ f1 = f2 ∧ g1 = g2 ∧ h1 = h2 ∧ i1 = i2 := by
  simpa using h
theorem oi10 {A0 B0 C0 D0 E0 F0 G0 H0 I0 J0 : Type} {a1 a2 : A0} {b1 b2 : B0} {c1 c2 : C0} {d1 d2 : D0} {e1 e2 : E0} {f1 f2 : F0} {g1 g2 : G0} {h1 h2 : H0} {i1 i2 : I0} {j1 j2 : J0} (h : some (a1, b1, c1, d1, e1, f1, g1, h1, i1, j1) = some (a2, b2, c2, d2, e2, f2, g2, h2, i2, j2)) : a1 = a2 ∧ b1 = b2 ∧ c1 = c2 ∧ d1 = d2 ∧ e1 = e2 ∧ f1 = f2 ∧ g1 = g2 ∧ h1 = h2 ∧ i1 = i2 ∧ j1 = j2 := by
  simpa using h
theorem oi11 {A0 B0 C0 D0 E0 F0 G0 H0 I0 J0 K0 : Type} {a1 a2 : A0} {b1 b2 : B0} {c1 c2 : C0} {d1 d2 : D0} {e1 e2 : E0} {f1 f2 : F0} {g1 g2 : G0} {h1 h2 : H0} {i1 i2 : I0} {j1 j2 : J0} {k1 k2 : K0} (h : some (a1, b1, c1, d1, e1, f1, g1, h1, i1, j1, k1) = some (a2, b2, c2, d2, e2, f2, g2, h2, i2, j2, k2)) : a1 = a2 ∧ b1 = b2 ∧ c1 = c2 ∧ d1 = d2 ∧ e1 = e2 ∧ f1 = f2 ∧ g1 = g2 ∧ h1 = h2 ∧ i1 = i2 ∧ j1 = j2 ∧ k1 = k2 := by
  simpa using h
theorem oi12 {A0 B0 C0 D0 E0 F0 G0 H0 I0 J0 K0 L0 : Type} {a1 a2 : A0} {b1 b2 : B0} {c1 c2 : C0} {d1 d2 : D0} {e1 e2 : E0} {f1 f2 : F0} {g1 g2 : G0} {h1 h2 : H0} {i1 i2 : I0} {j1 j2 : J0} {k1 k2 : K0} {l1 l2 : L0} (h : some (a1, b1, c1, d1, e1, f1, g1, h1, i1, j1, k1, l1) = some (a2, b2, c2, d2, e2, f2, g2, h2, i2, j2, k2, l2)) : a1 = a2 ∧ b1 = b2 ∧ c1 = c2 ∧ d1 = d2 ∧ e1 = e2 ∧ f1 = f2 ∧ g1 = g2 ∧ h1 = h2 ∧ i1 = i2 ∧ j1 = j2 ∧ k1 = k2 ∧ l1 = l2 := by
  simpa using h
