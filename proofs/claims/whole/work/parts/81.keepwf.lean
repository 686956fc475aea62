/-! the state stays well-formed when a move is settled -/
section KeepWf
variable {B : BK} {P A : AP} {N F : Nat → Int64} {T Ls : Nat}
theorem bd_0 : bdJ 0 := ⟨by decide, by decide⟩
theorem wkA_bd (W : WfB B) (fA : WfA A T Ls) {c : Nat} (hc : c < 258) (hC : isC B A c = true) {v : Int64} (h : wkA B A F c = .ok v) : bdJ v := by
  unfold wkA at h
  split at h
  · cases h
  · rename_i st e
    cases h
    obtain ⟨-, i2⟩ := wkR_len W fA hc hC (nsN B c) (Nat.le_refl _) st e
    cases st with
    | nil => exact bd_0
    | cons v t => exact i2 v List.mem_cons_self
theorem jdF_ok (W : WfB B) (fA : WfA A T Ls) (op : Bool) : ∀ (O : List Nat) (F : Nat → Int64) (w : List Nat) (F' : Nat → Int64) (w' : List Nat), (∀ c, c ∈ O → c < 258 ∧ isC B A c = true) → (∀ d, bdJ (F d)) → (∀ d, isC B A d = false → F d = 0) → jdF B P A N op O F w = .ok (F', w') → (∀ d, bdJ (F' d)) ∧ (∀ d, isC B A d = false → F' d = 0) ∧ w'.length ≤ w.length + O.length ∧ ∀ c, c ∈ w' → c ∈ w ∨ c ∈ O := by
  intro O
  induction O with
  | nil =>
    intro F w F' w' _ h1 h2 h
    cases h
    exact ⟨h1, h2, by simp, fun c hc => Or.inl hc⟩
  | cons c O ih =>
    intro F w F' w' hO h1 h2 h
    obtain ⟨hc, hC⟩ := hO c List.mem_cons_self
    have hO' : ∀ c, c ∈ O → c < 258 ∧ isC B A c = true := fun x hx => hO x (List.mem_cons_of_mem _ hx)
    unfold jdF at h
    split at h
    · obtain ⟨a, b, d, e⟩ := ih F w F' w' hO' h1 h2 h
      exact ⟨a, b, by rw [List.length_cons]; omega, fun x hx => (e x hx).imp id (fun q => List.mem_cons_of_mem _ q)⟩
    · split at h
      · cases h
      · rename_i v ev
        have bv := wkA_bd W fA hc hC ev
        obtain ⟨a, b, d, e⟩ := ih (upF F c v) (w ++ [c]) F' w' hO' (fun d => by
          unfold upF
          by_cases q : d = c
          · rw [if_pos q]; exact bv
          · rw [if_neg q]; exact h1 d) (fun d hd => by
          unfold upF
          by_cases q : d = c
          · rw [q, hC] at hd; cases hd
          · rw [if_neg q]; exact h2 d hd) h
        refine ⟨a, b, by rw [List.length_append] at d; rw [List.length_cons]; simp at d; omega, fun x hx => ?_⟩
        rcases e x hx with q | q
        · rcases List.mem_append.mp q with q2 | q2
          · exact Or.inl q2
          · rw [List.mem_singleton.mp q2]; exact Or.inr List.mem_cons_self
        · exact Or.inr (List.mem_cons_of_mem _ q)
theorem jdA_ok (W : WfB B) (fA : WfA A T Ls) {op : Bool} (hN : ∀ d, bdJ (N d)) {w : List Nat} (h : jdA B P A N op = .ok (F, w)) : (∀ d, bdJ (F d)) ∧ (∀ d, isC B A d = false → F d = 0) ∧ alB B A = true ∧ w.length ≤ 258 ∧ ∀ c, c ∈ w → c < 258 := by
  unfold jdA at h
  split at h
  · rename_i al
    split at h
    · cases h
    · rename_i r e
      cases h
      have g := or_gd (C := isC B A) (R := rdB B A) (fun c d q => rdB_c c d q)
      obtain ⟨a, b, d, e2⟩ := jdF_ok W fA op _ _ _ F w (fun c hc => g.2.1 c hc) (fun d => by
        unfold stF
        split
        · exact hN d
        · exact bd_0) (fun d hd => by unfold stF; rw [hd]; rfl) e
      have := g.len
      refine ⟨a, b, al, by simp at d; omega, fun c hc => ?_⟩
      rcases e2 c hc with q | q
      · simp at q
      · exact (g.2.1 c q).1
  · cases h
theorem pu_len {H : List PN} {x : PN} (h : H.length ≤ 60) : (puH H x).length ≤ 60 := by
  unfold puH
  split
  · rw [List.length_append, List.length_tail]; simp; omega
  · rw [List.length_append]; simp; omega
theorem pu_mem {H : List PN} {x y : PN} (h : y ∈ puH H x) : y ∈ H ∨ y = x := by
  unfold puH at h
  split at h
  · rcases List.mem_append.mp h with q | q
    · exact Or.inl (List.mem_of_mem_tail q)
    · exact Or.inr (List.mem_singleton.mp q)
  · rcases List.mem_append.mp h with q | q
    · exact Or.inl q
    · exact Or.inr (List.mem_singleton.mp q)
theorem st_or (S : SX) (A : AP) : (tG S = true ∧ stS S A = (0, grA S A)) ∨ (tG S = false ∧ ((∃ F w, jdA (tB S) (tP S) A (tN S) false = .ok (F, w) ∧ stS S A = (nI w.length, okA S A F w)) ∨ ∃ e, jdA (tB S) (tP S) A (tN S) false = .error e ∧ stS S A = (anS (.error e), noA S A (.error e)))) := by
  cases eg : tG S with
  | true => exact Or.inl ⟨rfl, by unfold stS; rw [if_pos eg]⟩
  | false =>
    refine Or.inr ⟨rfl, ?_⟩
    cases ej : jdA (tB S) (tP S) A (tN S) false with
    | ok Fw =>
      obtain ⟨F, w⟩ := Fw
      exact Or.inl ⟨F, w, rfl, by unfold stS; rw [if_neg (by rw [eg]; decide), ej]⟩
    | error e => exact Or.inr ⟨e, rfl, by unfold stS; rw [if_neg (by rw [eg]; decide), ej]⟩
theorem wf_settle {S : SX} (W : WfS S) (hO : tO S = true) (fA : WfA A (bT (tB S)) (bL (tB S))) (zA : zfA A) : WfS (stS S A).2 := by
  obtain ⟨w1, w2, w3, w4, w5, w6, w7, w8, w9, w10⟩ := W
  obtain ⟨o1, o2⟩ := w7 hO
  rcases st_or S A with ⟨eg, e⟩ | ⟨eg, ⟨F, w, ej, e⟩ | ⟨er, ej, e⟩⟩
  · rw [e]
    exact ⟨w1, w2, fA, zA, w5, w6, w7, fun q => absurd (show tO S = false from q) (by rw [hO]; decide), fun q => absurd (show tG S = false from q) (by rw [eg]; decide), w10⟩
  · rw [e]
    obtain ⟨a, b, d, -, -⟩ := jdA_ok w1 fA o1.2.2.1 ej
    refine ⟨w1, w2, fA, zA, fA, zA, fun _ => ⟨⟨fA, zA, a, b, d⟩, fun x hx => ?_⟩, fun q => absurd (show tO S = false from q) (by rw [hO]; decide), w9, pu_len w10⟩
    rcases pu_mem hx with q | q
    · exact o2 x q
    · rw [q]; exact o1
  · rw [e]
    exact ⟨w1, w2, w5, w6, w5, w6, w7, fun q => absurd (show tO S = false from q) (by rw [hO]; decide), w9, w10⟩
end KeepWf
