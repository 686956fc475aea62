/-! Math's members -/
def mnI (x y : Int32) : Int32 := if y < x then y else x
def mxJ (x y : Int64) : Int64 := if y < x then x else y
def mnJ (x y : Int64) : Int64 := if y < x then y else x
def abJ (x : Int64) : Int64 := if 0 < x then x else -x
theorem wm_i : Cond.initialized "java/lang/Math" ∈ gtbl := gm_at 88 (by decide +kernel)
theorem wm_1 : Cond.static Lib.Math.min.name ∈ gtbl := gm_at 773 (by decide +kernel)
theorem wm_2 : Cond.code Lib.Math.min.name Lib.Math.min.code 2 (some .int) ∈ gtbl := gm_at 774 (by decide +kernel)
theorem wm_3 : Cond.static Lib.MathLoose.max_long.x ∈ gtbl := gm_at 491 (by decide +kernel)
theorem wm_4 : Cond.code Lib.MathLoose.max_long.x Lib.MathLoose.max_long.code 4 (some .long) ∈ gtbl := gm_at 492 (by decide +kernel)
theorem wm_5 : Cond.static Lib.MathLoose.min_long.x ∈ gtbl := gm_at 494 (by decide +kernel)
theorem wm_6 : Cond.code Lib.MathLoose.min_long.x Lib.MathLoose.min_long.code 4 (some .long) ∈ gtbl := gm_at 495 (by decide +kernel)
theorem wm_7 : Cond.static Lib.MathLoose.abs_long.x ∈ gtbl := gm_at 539 (by decide +kernel)
theorem wm_8 : Cond.code Lib.MathLoose.abs_long.x Lib.MathLoose.abs_long.code 2 (some .long) ∈ gtbl := gm_at 540 (by decide +kernel)
section AWM
variable {p : Program} {l : Launch} {e : Env} {R : Room} {s : State} {m : MethodId} {args : Array Value} {below : List Frame} {meth : Method} {c : Code} {G : GT} {nL : Nat} {Q : State → Prop} {h h' : AH} {k n pc : Nat} {lv : List (Nat × Value)} {st : List Value} {cc : ByteArray} {own : String}
theorem r_mnI (O : OkC p l s m args meth c G cc nL own) {idx : Nat} (wl : Cond.methodLink own idx Lib.Math.min.name ∈ gtbl) (hF : 1 ≤ R.frames) (hL : (st.map fun v => v.category).sum + 15 ≤ R.locals) (hc : k ≤ R.cells) (hs : n ≤ R.slots) {x y : Int32} (hd : decode cc pc = .ok (.invokestatic idx, 3)) (kk : AW p l e R s m args below meth c G nL Q h k n (pc + 3) lv (.int (mnI x y) :: st)) : AW p l e R s m args below meth c G nL Q h k n pc lv (.int y :: .int x :: st) := fun H locs ls hR hS hl =>
  va_mmin O.1 O.2.1 (O.2.2.1.trans hl.1.symm) O.2.2.2.1 (O.2.2.2.2.1 _ wl) (O.2.2.2.2.1 _ wm_1) (O.2.2.2.2.1 _ wm_i) (O.2.2.2.2.1 _ wm_2) hF (by rw [cv_sum]; omega) hc hs hd (kk H locs ls hR hS hl)
theorem r_mxJ (O : OkC p l s m args meth c G cc nL own) {idx : Nat} (wl : Cond.methodLink own idx Lib.MathLoose.max_long.x ∈ gtbl) (hF : 1 ≤ R.frames) (hL : (st.map fun v => v.category).sum + 15 ≤ R.locals) (hc : k ≤ R.cells) (hs : n ≤ R.slots) {x y : Int64} (hd : decode cc pc = .ok (.invokestatic idx, 3)) (kk : AW p l e R s m args below meth c G nL Q h k n (pc + 3) lv (.long (mxJ x y) :: st)) : AW p l e R s m args below meth c G nL Q h k n pc lv (.long y :: .long x :: st) := fun H locs ls hR hS hl =>
  va_mmax_long O.1 O.2.1 (O.2.2.1.trans hl.1.symm) O.2.2.2.1 (O.2.2.2.2.1 _ wl) (O.2.2.2.2.1 _ wm_3) (O.2.2.2.2.1 _ wm_i) (O.2.2.2.2.1 _ wm_4) hF (by rw [cv_sum]; omega) hc hs hd (kk H locs ls hR hS hl)
theorem r_mnJ (O : OkC p l s m args meth c G cc nL own) {idx : Nat} (wl : Cond.methodLink own idx Lib.MathLoose.min_long.x ∈ gtbl) (hF : 1 ≤ R.frames) (hL : (st.map fun v => v.category).sum + 15 ≤ R.locals) (hc : k ≤ R.cells) (hs : n ≤ R.slots) {x y : Int64} (hd : decode cc pc = .ok (.invokestatic idx, 3)) (kk : AW p l e R s m args below meth c G nL Q h k n (pc + 3) lv (.long (mnJ x y) :: st)) : AW p l e R s m args below meth c G nL Q h k n pc lv (.long y :: .long x :: st) := fun H locs ls hR hS hl =>
  va_mmin_long O.1 O.2.1 (O.2.2.1.trans hl.1.symm) O.2.2.2.1 (O.2.2.2.2.1 _ wl) (O.2.2.2.2.1 _ wm_5) (O.2.2.2.2.1 _ wm_i) (O.2.2.2.2.1 _ wm_6) hF (by rw [cv_sum]; omega) hc hs hd (kk H locs ls hR hS hl)
theorem r_abJ (O : OkC p l s m args meth c G cc nL own) {idx : Nat} (wl : Cond.methodLink own idx Lib.MathLoose.abs_long.x ∈ gtbl) (hF : 1 ≤ R.frames) (hL : (st.map fun v => v.category).sum + 15 ≤ R.locals) (hc : k ≤ R.cells) (hs : n ≤ R.slots) {x : Int64} (hd : decode cc pc = .ok (.invokestatic idx, 3)) (kk : AW p l e R s m args below meth c G nL Q h k n (pc + 3) lv (.long (abJ x) :: st)) : AW p l e R s m args below meth c G nL Q h k n pc lv (.long x :: st) := fun H locs ls hR hS hl =>
  va_mabs_long O.1 O.2.1 (O.2.2.1.trans hl.1.symm) O.2.2.2.1 (O.2.2.2.2.1 _ wl) (O.2.2.2.2.1 _ wm_7) (O.2.2.2.2.1 _ wm_i) (O.2.2.2.2.1 _ wm_8) hF (by rw [cv_sum]; omega) hc hs hd (kk H locs ls hR hS hl)
end AWM
