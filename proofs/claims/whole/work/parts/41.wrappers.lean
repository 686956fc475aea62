def f_L_thing (h : AH) (a0 : Nat) (a1 : Int32) (a2 : Int32) (a3 : Int32) (a4 : Int32) (a5 : Nat) : Option (Int32 × AH) :=
Option.bind (f_X8_thing h a0 a1 a2 a3 a4) fun w => match w with
| (.error k9, h2) => if k9 = 0 then
some (1, h2)
else
none
| (.ok x1, h2) =>
Option.bind (stJ h2 a5 0 x1.toInt64) fun h3 =>
some (0, h3)
set_option maxRecDepth 100000 in
set_option maxHeartbeats 4000000 in
theorem c_L_thing {l : Launch} {G : GT} {h : AH} {a0 : Nat} {a1 : Int32} {a2 : Int32} {a3 : Int32} {a4 : Int32} {a5 : Nat} {r : (Int32 × AH)} (hf : f_L_thing h a0 a1 a2 a3 a4 a5 = some r) : CnW l yL_thing cL_thing 7 (some .int) [(0, 14, 17, 13)] 8 135 2 12 G h [.ref a0, .int a1, .int a2, .int a3, .int a4, .ref a5] (.ok (some (.int r.1))) r.2 := by
  refine CnW.of (by decide) (Nat.le_of_ble_eq_true rfl) ?_
  intro p e s m args below meth c O hr ht hin
  have O : OkC p l s m args meth c G cL_thing 7 RL := O
  unfold f_L_thing at hf
  refine AW.sub (lv' := [(0, .ref a0), (1, .int a1), (2, .int a2), (3, .int a3), (4, .int a4), (5, .ref a5)]) [0, 1, 2, 3, 4, 5] rfl ?_
  refine r_aload O 5 dL_thing_0 rfl (Or.inl rfl) ?_
  refine r_iconst O (v := 0) dL_thing_2 (by decide) ?_
  refine r_aload_n O 0 dL_thing_3 rfl (Or.inl rfl) ?_
  refine r_iload_n O 1 dL_thing_4 rfl ?_
  refine r_iload_n O 2 dL_thing_5 rfl ?_
  refine r_iload_n O 3 dL_thing_6 rfl ?_
  refine r_iload O 4 dL_thing_7 rfl ?_
  obtain ⟨⟨w, h2⟩, ex1, hf⟩ := bnd hf
  cases w with
  | error k9 =>
    dsimp only at hf
    by_cases hc : k9 = 0
    · rw [if_pos hc] at hf
      subst hc
      refine r_callC (kx := 0) (av := [.int a1, .int a2, .int a3, .int a4]) (st := [.int 0, .ref a5]) O ht (c_X8_thing ex1) mf_X8_thing cf8 (kd_X8_thing ex1) ml_L_7 mi_X8_thing mv_X8_thing (by decide) (Nat.le_of_ble_eq_true rfl) (by decide) dL_thing_9 [] ⟨0, 14, 17, 13⟩ [] rfl (fun z hz => by cases hz) (by decide) (by decide) kl_L_13 wy0 6 2 (Or.inr ⟨rfl, dL_thing_17⟩) (by decide) [0, 1, 2, 3, 4, 5] [(0, .ref a0), (1, .int a1), (2, .int a2), (3, .int a3), (4, .int a4), (5, .ref a5)] rfl rfl ?_
      refine r_iconst O (v := 1) dL_thing_19 (by decide) ?_
      obtain rfl := Option.some.inj hf
      exact r_iret O hr rfl rfl (by decide) (by decide) dL_thing_20
    · rw [if_neg hc] at hf
      cases hf
  | ok x1 =>
    dsimp only at hf
    refine r_callV (av := [.int a1, .int a2, .int a3, .int a4]) (st := [.int 0, .ref a5]) O (c_X8_thing ex1) mf_X8_thing cf8 (kd_X8_thing ex1) ml_L_7 mi_X8_thing mv_X8_thing (by decide) (Nat.le_of_ble_eq_true rfl) (by decide) dL_thing_9 ?_
    refine r_i2l O dL_thing_12 ?_
    obtain ⟨h3, eh3, hf⟩ := bnd hf
    refine r_stJ O eh3 dL_thing_13 ?_
    refine r_goto (tgt := 21) O dL_thing_14 (by decide) ?_
    refine r_iconst O (v := 0) dL_thing_21 (by decide) ?_
    obtain rfl := Option.some.inj hf
    exact r_iret O hr rfl rfl (by decide) (by decide) dL_thing_22
def f_L_list (h : AH) (a0 : Nat) (a1 : Int32) (a2 : Int32) (a3 : Nat) : Option (Int32 × AH) :=
Option.bind (f_X8_list h a0 a1 a2) fun w => match w with
| (.error k9, h2) => if k9 = 0 then
some (1, h2)
else
none
| (.ok x1, h2) =>
Option.bind (stJ h2 a3 0 x1.toInt64) fun h3 =>
some (0, h3)
set_option maxRecDepth 100000 in
set_option maxHeartbeats 4000000 in
theorem c_L_list {l : Launch} {G : GT} {h : AH} {a0 : Nat} {a1 : Int32} {a2 : Int32} {a3 : Nat} {r : (Int32 × AH)} (hf : f_L_list h a0 a1 a2 a3 = some r) : CnW l yL_list cL_list 5 (some .int) [(0, 10, 13, 13)] 8 133 2 12 G h [.ref a0, .int a1, .int a2, .ref a3] (.ok (some (.int r.1))) r.2 := by
  refine CnW.of (by decide) (Nat.le_of_ble_eq_true rfl) ?_
  intro p e s m args below meth c O hr ht hin
  have O : OkC p l s m args meth c G cL_list 5 RL := O
  unfold f_L_list at hf
  refine AW.sub (lv' := [(0, .ref a0), (1, .int a1), (2, .int a2), (3, .ref a3)]) [0, 1, 2, 3] rfl ?_
  refine r_aload_n O 3 dL_list_0 rfl (Or.inl rfl) ?_
  refine r_iconst O (v := 0) dL_list_1 (by decide) ?_
  refine r_aload_n O 0 dL_list_2 rfl (Or.inl rfl) ?_
  refine r_iload_n O 1 dL_list_3 rfl ?_
  refine r_iload_n O 2 dL_list_4 rfl ?_
  obtain ⟨⟨w, h2⟩, ex1, hf⟩ := bnd hf
  cases w with
  | error k9 =>
    dsimp only at hf
    by_cases hc : k9 = 0
    · rw [if_pos hc] at hf
      subst hc
      refine r_callC (kx := 0) (av := [.int a1, .int a2]) (st := [.int 0, .ref a3]) O ht (c_X8_list ex1) mf_X8_list cf8 (kd_X8_list ex1) ml_L_15 mi_X8_list mv_X8_list (by decide) (Nat.le_of_ble_eq_true rfl) (by decide) dL_list_5 [] ⟨0, 10, 13, 13⟩ [] rfl (fun z hz => by cases hz) (by decide) (by decide) kl_L_13 wy0 4 2 (Or.inr ⟨rfl, dL_list_13⟩) (by decide) [0, 1, 2, 3] [(0, .ref a0), (1, .int a1), (2, .int a2), (3, .ref a3)] rfl rfl ?_
      refine r_iconst O (v := 1) dL_list_15 (by decide) ?_
      obtain rfl := Option.some.inj hf
      exact r_iret O hr rfl rfl (by decide) (by decide) dL_list_16
    · rw [if_neg hc] at hf
      cases hf
  | ok x1 =>
    dsimp only at hf
    refine r_callV (av := [.int a1, .int a2]) (st := [.int 0, .ref a3]) O (c_X8_list ex1) mf_X8_list cf8 (kd_X8_list ex1) ml_L_15 mi_X8_list mv_X8_list (by decide) (Nat.le_of_ble_eq_true rfl) (by decide) dL_list_5 ?_
    refine r_i2l O dL_list_8 ?_
    obtain ⟨h3, eh3, hf⟩ := bnd hf
    refine r_stJ O eh3 dL_list_9 ?_
    refine r_goto (tgt := 17) O dL_list_10 (by decide) ?_
    refine r_iconst O (v := 0) dL_list_17 (by decide) ?_
    obtain rfl := Option.some.inj hf
    exact r_iret O hr rfl rfl (by decide) (by decide) dL_list_18
def f_L_step (h : AH) (a0 : Nat) (a1 : Int32) (a2 : Int32) (a3 : Nat) : Option (Int32 × AH) :=
Option.bind (f_X8_step h a0 a1 a2) fun w => match w with
| (.error k9, h2) => if k9 = 0 then
some (1, h2)
else
none
| (.ok x1, h2) =>
Option.bind (stJ h2 a3 0 x1.toInt64) fun h3 =>
some (0, h3)
set_option maxRecDepth 100000 in
set_option maxHeartbeats 4000000 in
theorem c_L_step {l : Launch} {G : GT} {h : AH} {a0 : Nat} {a1 : Int32} {a2 : Int32} {a3 : Nat} {r : (Int32 × AH)} (hf : f_L_step h a0 a1 a2 a3 = some r) : CnW l yL_step cL_step 5 (some .int) [(0, 10, 13, 13)] 8 132 2 12 G h [.ref a0, .int a1, .int a2, .ref a3] (.ok (some (.int r.1))) r.2 := by
  refine CnW.of (by decide) (Nat.le_of_ble_eq_true rfl) ?_
  intro p e s m args below meth c O hr ht hin
  have O : OkC p l s m args meth c G cL_step 5 RL := O
  unfold f_L_step at hf
  refine AW.sub (lv' := [(0, .ref a0), (1, .int a1), (2, .int a2), (3, .ref a3)]) [0, 1, 2, 3] rfl ?_
  refine r_aload_n O 3 dL_step_0 rfl (Or.inl rfl) ?_
  refine r_iconst O (v := 0) dL_step_1 (by decide) ?_
  refine r_aload_n O 0 dL_step_2 rfl (Or.inl rfl) ?_
  refine r_iload_n O 1 dL_step_3 rfl ?_
  refine r_iload_n O 2 dL_step_4 rfl ?_
  obtain ⟨⟨w, h2⟩, ex1, hf⟩ := bnd hf
  cases w with
  | error k9 =>
    dsimp only at hf
    by_cases hc : k9 = 0
    · rw [if_pos hc] at hf
      subst hc
      refine r_callC (kx := 0) (av := [.int a1, .int a2]) (st := [.int 0, .ref a3]) O ht (c_X8_step ex1) mf_X8_step cf8 (kd_X8_step ex1) ml_L_19 mi_X8_step mv_X8_step (by decide) (Nat.le_of_ble_eq_true rfl) (by decide) dL_step_5 [] ⟨0, 10, 13, 13⟩ [] rfl (fun z hz => by cases hz) (by decide) (by decide) kl_L_13 wy0 4 2 (Or.inr ⟨rfl, dL_step_13⟩) (by decide) [0, 1, 2, 3] [(0, .ref a0), (1, .int a1), (2, .int a2), (3, .ref a3)] rfl rfl ?_
      refine r_iconst O (v := 1) dL_step_15 (by decide) ?_
      obtain rfl := Option.some.inj hf
      exact r_iret O hr rfl rfl (by decide) (by decide) dL_step_16
    · rw [if_neg hc] at hf
      cases hf
  | ok x1 =>
    dsimp only at hf
    refine r_callV (av := [.int a1, .int a2]) (st := [.int 0, .ref a3]) O (c_X8_step ex1) mf_X8_step cf8 (kd_X8_step ex1) ml_L_19 mi_X8_step mv_X8_step (by decide) (Nat.le_of_ble_eq_true rfl) (by decide) dL_step_5 ?_
    refine r_i2l O dL_step_8 ?_
    obtain ⟨h3, eh3, hf⟩ := bnd hf
    refine r_stJ O eh3 dL_step_9 ?_
    refine r_goto (tgt := 17) O dL_step_10 (by decide) ?_
    refine r_iconst O (v := 0) dL_step_17 (by decide) ?_
    obtain rfl := Option.some.inj hf
    exact r_iret O hr rfl rfl (by decide) (by decide) dL_step_18
def f_L_maker (h : AH) (a0 : Nat) (a1 : Int32) (a2 : Nat) : Option (Int32 × AH) :=
Option.bind (f_X8_maker h a0 a1) fun w => match w with
| (.error k9, h2) => if k9 = 0 then
some (1, h2)
else
if k9 = 1 then
some (2, h2)
else
none
| (.ok x1, h2) =>
Option.bind (stJ h2 a2 0 x1.toInt64) fun h3 =>
some (0, h3)
set_option maxRecDepth 100000 in
set_option maxHeartbeats 4000000 in
theorem c_L_maker {l : Launch} {G : GT} {h : AH} {a0 : Nat} {a1 : Int32} {a2 : Nat} {r : (Int32 × AH)} (hf : f_L_maker h a0 a1 a2 = some r) : CnW l yL_maker cL_maker 4 (some .int) [(0, 9, 12, 13), (0, 9, 15, 26)] 8 131 2 12 G h [.ref a0, .int a1, .ref a2] (.ok (some (.int r.1))) r.2 := by
  refine CnW.of (by decide) (Nat.le_of_ble_eq_true rfl) ?_
  intro p e s m args below meth c O hr ht hin
  have O : OkC p l s m args meth c G cL_maker 4 RL := O
  unfold f_L_maker at hf
  refine AW.sub (lv' := [(0, .ref a0), (1, .int a1), (2, .ref a2)]) [0, 1, 2] rfl ?_
  refine r_aload_n O 2 dL_maker_0 rfl (Or.inl rfl) ?_
  refine r_iconst O (v := 0) dL_maker_1 (by decide) ?_
  refine r_aload_n O 0 dL_maker_2 rfl (Or.inl rfl) ?_
  refine r_iload_n O 1 dL_maker_3 rfl ?_
  obtain ⟨⟨w, h2⟩, ex1, hf⟩ := bnd hf
  cases w with
  | error k9 =>
    dsimp only at hf
    by_cases hc : k9 = 0
    · rw [if_pos hc] at hf
      subst hc
      refine r_callC (kx := 0) (av := [.int a1]) (st := [.int 0, .ref a2]) O ht (c_X8_maker ex1) mf_X8_maker cf8 (kd_X8_maker ex1) ml_L_22 mi_X8_maker mv_X8_maker (by decide) (Nat.le_of_ble_eq_true rfl) (by decide) dL_maker_4 [] ⟨0, 9, 12, 13⟩ [⟨0, 9, 15, 26⟩] rfl (fun z hz => by cases hz) (by decide) (by decide) kl_L_13 wy0 3 1 (Or.inl ⟨3, rfl, rfl, dL_maker_12⟩) (by decide) [0, 1, 2] [(0, .ref a0), (1, .int a1), (2, .ref a2)] rfl rfl ?_
      refine r_iconst O (v := 1) dL_maker_13 (by decide) ?_
      obtain rfl := Option.some.inj hf
      exact r_iret O hr rfl rfl (by decide) (by decide) dL_maker_14
    · rw [if_neg hc] at hf
      by_cases hc : k9 = 1
      · rw [if_pos hc] at hf
        subst hc
        refine r_callC (kx := 1) (av := [.int a1]) (st := [.int 0, .ref a2]) O ht (c_X8_maker ex1) mf_X8_maker cf8 (kd_X8_maker ex1) ml_L_22 mi_X8_maker mv_X8_maker (by decide) (Nat.le_of_ble_eq_true rfl) (by decide) dL_maker_4 [⟨0, 9, 12, 13⟩] ⟨0, 9, 15, 26⟩ [] rfl (fun z hz => by
      rcases List.mem_cons.mp hz with rfl | hz
      · exact Or.inr ⟨by decide, "java/lang/IllegalStateException", kl_L_13, nc10 O⟩
      cases hz) (by decide) (by decide) kl_L_26 wy1 3 1 (Or.inl ⟨3, rfl, rfl, dL_maker_15⟩) (by decide) [0, 1, 2] [(0, .ref a0), (1, .int a1), (2, .ref a2)] rfl rfl ?_
        refine r_iconst O (v := 2) dL_maker_16 (by decide) ?_
        obtain rfl := Option.some.inj hf
        exact r_iret O hr rfl rfl (by decide) (by decide) dL_maker_17
      · rw [if_neg hc] at hf
        cases hf
  | ok x1 =>
    dsimp only at hf
    refine r_callV (av := [.int a1]) (st := [.int 0, .ref a2]) O (c_X8_maker ex1) mf_X8_maker cf8 (kd_X8_maker ex1) ml_L_22 mi_X8_maker mv_X8_maker (by decide) (Nat.le_of_ble_eq_true rfl) (by decide) dL_maker_4 ?_
    refine r_i2l O dL_maker_7 ?_
    obtain ⟨h3, eh3, hf⟩ := bnd hf
    refine r_stJ O eh3 dL_maker_8 ?_
    refine r_goto (tgt := 18) O dL_maker_9 (by decide) ?_
    refine r_iconst O (v := 0) dL_maker_18 (by decide) ?_
    obtain rfl := Option.some.inj hf
    exact r_iret O hr rfl rfl (by decide) (by decide) dL_maker_19
def f_L_open (h : AH) (a0 : Nat) (a1 : Nat) : Option (Int32 × AH) :=
Option.bind (f_X8_open h a0) fun w => match w with
| (.error k9, h2) => if k9 = 0 then
some (1, h2)
else
none
| (.ok x1, h2) =>
Option.bind (stJ h2 a1 0 x1.toInt64) fun h3 =>
some (0, h3)
set_option maxRecDepth 100000 in
set_option maxHeartbeats 4000000 in
theorem c_L_open {l : Launch} {G : GT} {h : AH} {a0 : Nat} {a1 : Nat} {r : (Int32 × AH)} (hf : f_L_open h a0 a1 = some r) : CnW l yL_open cL_open 3 (some .int) [(0, 8, 11, 13)] 8 170 1 6 G h [.ref a0, .ref a1] (.ok (some (.int r.1))) r.2 := by
  refine CnW.of (by decide) (Nat.le_of_ble_eq_true rfl) ?_
  intro p e s m args below meth c O hr ht hin
  have O : OkC p l s m args meth c G cL_open 3 RL := O
  unfold f_L_open at hf
  refine AW.sub (lv' := [(0, .ref a0), (1, .ref a1)]) [0, 1] rfl ?_
  refine r_aload_n O 1 dL_open_0 rfl (Or.inl rfl) ?_
  refine r_iconst O (v := 0) dL_open_1 (by decide) ?_
  refine r_aload_n O 0 dL_open_2 rfl (Or.inl rfl) ?_
  obtain ⟨⟨w, h2⟩, ex1, hf⟩ := bnd hf
  cases w with
  | error k9 =>
    dsimp only at hf
    by_cases hc : k9 = 0
    · rw [if_pos hc] at hf
      subst hc
      refine r_callC (kx := 0) (av := []) (st := [.int 0, .ref a1]) O ht (c_X8_open ex1) mf_X8_open cf8 (kd_X8_open ex1) ml_L_28 mi_X8_open mv_X8_open (by decide) (Nat.le_of_ble_eq_true rfl) (by decide) dL_open_3 [] ⟨0, 8, 11, 13⟩ [] rfl (fun z hz => by cases hz) (by decide) (by decide) kl_L_13 wy0 2 1 (Or.inl ⟨2, rfl, rfl, dL_open_11⟩) (by decide) [0, 1] [(0, .ref a0), (1, .ref a1)] rfl rfl ?_
      refine r_iconst O (v := 1) dL_open_12 (by decide) ?_
      obtain rfl := Option.some.inj hf
      exact r_iret O hr rfl rfl (by decide) (by decide) dL_open_13
    · rw [if_neg hc] at hf
      cases hf
  | ok x1 =>
    dsimp only at hf
    refine r_callV (av := []) (st := [.int 0, .ref a1]) O (c_X8_open ex1) mf_X8_open cf8 (kd_X8_open ex1) ml_L_28 mi_X8_open mv_X8_open (by decide) (Nat.le_of_ble_eq_true rfl) (by decide) dL_open_3 ?_
    refine r_i2l O dL_open_6 ?_
    obtain ⟨h3, eh3, hf⟩ := bnd hf
    refine r_stJ O eh3 dL_open_7 ?_
    refine r_goto (tgt := 14) O dL_open_8 (by decide) ?_
    refine r_iconst O (v := 0) dL_open_14 (by decide) ?_
    obtain rfl := Option.some.inj hf
    exact r_iret O hr rfl rfl (by decide) (by decide) dL_open_15
def f_L_place (h : AH) (a0 : Nat) (a1 : Int32) (a2 : Int32) (a3 : Int32) (a4 : Nat) : Option (Int32 × AH) :=
Option.bind (f_X8_place h a0 a1 a2 a3) fun w => match w with
| (.error k9, h2) => if k9 = 2 then
some (1, h2)
else
if k9 = 0 then
some (2, h2)
else
if k9 = 1 then
some (3, h2)
else
none
| (.ok x1, h2) =>
Option.bind (stJ h2 a4 0 x1.toInt64) fun h3 =>
some (0, h3)
set_option maxRecDepth 100000 in
set_option maxHeartbeats 4000000 in
theorem c_L_place {l : Launch} {G : GT} {h : AH} {a0 : Nat} {a1 : Int32} {a2 : Int32} {a3 : Int32} {a4 : Nat} {r : (Int32 × AH)} (hf : f_L_place h a0 a1 a2 a3 a4 = some r) : CnW l yL_place cL_place 6 (some .int) [(0, 12, 15, 36), (0, 12, 19, 13), (0, 12, 23, 26)] 8 193 15 836 G h [.ref a0, .int a1, .int a2, .int a3, .ref a4] (.ok (some (.int r.1))) r.2 := by
  refine CnW.of (by decide) (Nat.le_of_ble_eq_true rfl) ?_
  intro p e s m args below meth c O hr ht hin
  have O : OkC p l s m args meth c G cL_place 6 RL := O
  unfold f_L_place at hf
  refine AW.sub (lv' := [(0, .ref a0), (1, .int a1), (2, .int a2), (3, .int a3), (4, .ref a4)]) [0, 1, 2, 3, 4] rfl ?_
  refine r_aload O 4 dL_place_0 rfl (Or.inl rfl) ?_
  refine r_iconst O (v := 0) dL_place_2 (by decide) ?_
  refine r_aload_n O 0 dL_place_3 rfl (Or.inl rfl) ?_
  refine r_iload_n O 1 dL_place_4 rfl ?_
  refine r_iload_n O 2 dL_place_5 rfl ?_
  refine r_iload_n O 3 dL_place_6 rfl ?_
  obtain ⟨⟨w, h2⟩, ex1, hf⟩ := bnd hf
  cases w with
  | error k9 =>
    dsimp only at hf
    by_cases hc : k9 = 2
    · rw [if_pos hc] at hf
      subst hc
      refine r_callC (kx := 2) (av := [.int a1, .int a2, .int a3]) (st := [.int 0, .ref a4]) O ht (c_X8_place ex1) mf_X8_place cf8 (kd_X8_place ex1) ml_L_32 mi_X8_place mv_X8_place (by decide) (Nat.le_of_ble_eq_true rfl) (by decide) dL_place_7 [] ⟨0, 12, 15, 36⟩ [⟨0, 12, 19, 13⟩, ⟨0, 12, 23, 26⟩] rfl (fun z hz => by cases hz) (by decide) (by decide) kl_L_36 wy2 5 2 (Or.inr ⟨rfl, dL_place_15⟩) (by decide) [0, 1, 2, 3, 4] [(0, .ref a0), (1, .int a1), (2, .int a2), (3, .int a3), (4, .ref a4)] rfl rfl ?_
      refine r_iconst O (v := 1) dL_place_17 (by decide) ?_
      obtain rfl := Option.some.inj hf
      exact r_iret O hr rfl rfl (by decide) (by decide) dL_place_18
    · rw [if_neg hc] at hf
      by_cases hc : k9 = 0
      · rw [if_pos hc] at hf
        subst hc
        refine r_callC (kx := 0) (av := [.int a1, .int a2, .int a3]) (st := [.int 0, .ref a4]) O ht (c_X8_place ex1) mf_X8_place cf8 (kd_X8_place ex1) ml_L_32 mi_X8_place mv_X8_place (by decide) (Nat.le_of_ble_eq_true rfl) (by decide) dL_place_7 [⟨0, 12, 15, 36⟩] ⟨0, 12, 19, 13⟩ [⟨0, 12, 23, 26⟩] rfl (fun z hz => by
      rcases List.mem_cons.mp hz with rfl | hz
      · exact Or.inr ⟨by decide, "java/lang/IndexOutOfBoundsException", kl_L_36, nc02 O⟩
      cases hz) (by decide) (by decide) kl_L_13 wy0 5 2 (Or.inr ⟨rfl, dL_place_19⟩) (by decide) [0, 1, 2, 3, 4] [(0, .ref a0), (1, .int a1), (2, .int a2), (3, .int a3), (4, .ref a4)] rfl rfl ?_
        refine r_iconst O (v := 2) dL_place_21 (by decide) ?_
        obtain rfl := Option.some.inj hf
        exact r_iret O hr rfl rfl (by decide) (by decide) dL_place_22
      · rw [if_neg hc] at hf
        by_cases hc : k9 = 1
        · rw [if_pos hc] at hf
          subst hc
          refine r_callC (kx := 1) (av := [.int a1, .int a2, .int a3]) (st := [.int 0, .ref a4]) O ht (c_X8_place ex1) mf_X8_place cf8 (kd_X8_place ex1) ml_L_32 mi_X8_place mv_X8_place (by decide) (Nat.le_of_ble_eq_true rfl) (by decide) dL_place_7 [⟨0, 12, 15, 36⟩, ⟨0, 12, 19, 13⟩] ⟨0, 12, 23, 26⟩ [] rfl (fun z hz => by
      rcases List.mem_cons.mp hz with rfl | hz
      · exact Or.inr ⟨by decide, "java/lang/IndexOutOfBoundsException", kl_L_36, nc12 O⟩
      rcases List.mem_cons.mp hz with rfl | hz
      · exact Or.inr ⟨by decide, "java/lang/IllegalStateException", kl_L_13, nc10 O⟩
      cases hz) (by decide) (by decide) kl_L_26 wy1 5 2 (Or.inr ⟨rfl, dL_place_23⟩) (by decide) [0, 1, 2, 3, 4] [(0, .ref a0), (1, .int a1), (2, .int a2), (3, .int a3), (4, .ref a4)] rfl rfl ?_
          refine r_iconst O (v := 3) dL_place_25 (by decide) ?_
          obtain rfl := Option.some.inj hf
          exact r_iret O hr rfl rfl (by decide) (by decide) dL_place_26
        · rw [if_neg hc] at hf
          cases hf
  | ok x1 =>
    dsimp only at hf
    refine r_callV (av := [.int a1, .int a2, .int a3]) (st := [.int 0, .ref a4]) O (c_X8_place ex1) mf_X8_place cf8 (kd_X8_place ex1) ml_L_32 mi_X8_place mv_X8_place (by decide) (Nat.le_of_ble_eq_true rfl) (by decide) dL_place_7 ?_
    refine r_i2l O dL_place_10 ?_
    obtain ⟨h3, eh3, hf⟩ := bnd hf
    refine r_stJ O eh3 dL_place_11 ?_
    refine r_goto (tgt := 27) O dL_place_12 (by decide) ?_
    refine r_iconst O (v := 0) dL_place_27 (by decide) ?_
    obtain rfl := Option.some.inj hf
    exact r_iret O hr rfl rfl (by decide) (by decide) dL_place_28
def f_L_take (h : AH) (a0 : Nat) (a1 : Int32) (a2 : Nat) : Option (Int32 × AH) :=
Option.bind (f_X8_take h a0 a1) fun w => match w with
| (.error k9, h2) => if k9 = 2 then
some (1, h2)
else
if k9 = 0 then
some (2, h2)
else
none
| (.ok x1, h2) =>
Option.bind (stJ h2 a2 0 x1.toInt64) fun h3 =>
some (0, h3)
set_option maxRecDepth 100000 in
set_option maxHeartbeats 4000000 in
theorem c_L_take {l : Launch} {G : GT} {h : AH} {a0 : Nat} {a1 : Int32} {a2 : Nat} {r : (Int32 × AH)} (hf : f_L_take h a0 a1 a2 = some r) : CnW l yL_take cL_take 4 (some .int) [(0, 9, 12, 36), (0, 9, 15, 13)] 8 191 13 824 G h [.ref a0, .int a1, .ref a2] (.ok (some (.int r.1))) r.2 := by
  refine CnW.of (by decide) (Nat.le_of_ble_eq_true rfl) ?_
  intro p e s m args below meth c O hr ht hin
  have O : OkC p l s m args meth c G cL_take 4 RL := O
  unfold f_L_take at hf
  refine AW.sub (lv' := [(0, .ref a0), (1, .int a1), (2, .ref a2)]) [0, 1, 2] rfl ?_
  refine r_aload_n O 2 dL_take_0 rfl (Or.inl rfl) ?_
  refine r_iconst O (v := 0) dL_take_1 (by decide) ?_
  refine r_aload_n O 0 dL_take_2 rfl (Or.inl rfl) ?_
  refine r_iload_n O 1 dL_take_3 rfl ?_
  obtain ⟨⟨w, h2⟩, ex1, hf⟩ := bnd hf
  cases w with
  | error k9 =>
    dsimp only at hf
    by_cases hc : k9 = 2
    · rw [if_pos hc] at hf
      subst hc
      refine r_callC (kx := 2) (av := [.int a1]) (st := [.int 0, .ref a2]) O ht (c_X8_take ex1) mf_X8_take cf8 (kd_X8_take ex1) ml_L_38 mi_X8_take mv_X8_take (by decide) (Nat.le_of_ble_eq_true rfl) (by decide) dL_take_4 [] ⟨0, 9, 12, 36⟩ [⟨0, 9, 15, 13⟩] rfl (fun z hz => by cases hz) (by decide) (by decide) kl_L_36 wy2 3 1 (Or.inl ⟨3, rfl, rfl, dL_take_12⟩) (by decide) [0, 1, 2] [(0, .ref a0), (1, .int a1), (2, .ref a2)] rfl rfl ?_
      refine r_iconst O (v := 1) dL_take_13 (by decide) ?_
      obtain rfl := Option.some.inj hf
      exact r_iret O hr rfl rfl (by decide) (by decide) dL_take_14
    · rw [if_neg hc] at hf
      by_cases hc : k9 = 0
      · rw [if_pos hc] at hf
        subst hc
        refine r_callC (kx := 0) (av := [.int a1]) (st := [.int 0, .ref a2]) O ht (c_X8_take ex1) mf_X8_take cf8 (kd_X8_take ex1) ml_L_38 mi_X8_take mv_X8_take (by decide) (Nat.le_of_ble_eq_true rfl) (by decide) dL_take_4 [⟨0, 9, 12, 36⟩] ⟨0, 9, 15, 13⟩ [] rfl (fun z hz => by
      rcases List.mem_cons.mp hz with rfl | hz
      · exact Or.inr ⟨by decide, "java/lang/IndexOutOfBoundsException", kl_L_36, nc02 O⟩
      cases hz) (by decide) (by decide) kl_L_13 wy0 3 1 (Or.inl ⟨3, rfl, rfl, dL_take_15⟩) (by decide) [0, 1, 2] [(0, .ref a0), (1, .int a1), (2, .ref a2)] rfl rfl ?_
        refine r_iconst O (v := 2) dL_take_16 (by decide) ?_
        obtain rfl := Option.some.inj hf
        exact r_iret O hr rfl rfl (by decide) (by decide) dL_take_17
      · rw [if_neg hc] at hf
        cases hf
  | ok x1 =>
    dsimp only at hf
    refine r_callV (av := [.int a1]) (st := [.int 0, .ref a2]) O (c_X8_take ex1) mf_X8_take cf8 (kd_X8_take ex1) ml_L_38 mi_X8_take mv_X8_take (by decide) (Nat.le_of_ble_eq_true rfl) (by decide) dL_take_4 ?_
    refine r_i2l O dL_take_7 ?_
    obtain ⟨h3, eh3, hf⟩ := bnd hf
    refine r_stJ O eh3 dL_take_8 ?_
    refine r_goto (tgt := 18) O dL_take_9 (by decide) ?_
    refine r_iconst O (v := 0) dL_take_18 (by decide) ?_
    obtain rfl := Option.some.inj hf
    exact r_iret O hr rfl rfl (by decide) (by decide) dL_take_19
def f_L_move (h : AH) (a0 : Nat) (a1 : Int32) (a2 : Int32) (a3 : Int32) (a4 : Nat) : Option (Int32 × AH) :=
Option.bind (f_X8_move h a0 a1 a2 a3) fun w => match w with
| (.error k9, h2) => if k9 = 2 then
some (1, h2)
else
if k9 = 0 then
some (2, h2)
else
if k9 = 1 then
some (3, h2)
else
none
| (.ok x1, h2) =>
Option.bind (stJ h2 a4 0 x1.toInt64) fun h3 =>
some (0, h3)
set_option maxRecDepth 100000 in
set_option maxHeartbeats 4000000 in
theorem c_L_move {l : Launch} {G : GT} {h : AH} {a0 : Nat} {a1 : Int32} {a2 : Int32} {a3 : Int32} {a4 : Nat} {r : (Int32 × AH)} (hf : f_L_move h a0 a1 a2 a3 a4 = some r) : CnW l yL_move cL_move 6 (some .int) [(0, 12, 15, 36), (0, 12, 19, 13), (0, 12, 23, 26)] 8 195 15 836 G h [.ref a0, .int a1, .int a2, .int a3, .ref a4] (.ok (some (.int r.1))) r.2 := by
  refine CnW.of (by decide) (Nat.le_of_ble_eq_true rfl) ?_
  intro p e s m args below meth c O hr ht hin
  have O : OkC p l s m args meth c G cL_move 6 RL := O
  unfold f_L_move at hf
  refine AW.sub (lv' := [(0, .ref a0), (1, .int a1), (2, .int a2), (3, .int a3), (4, .ref a4)]) [0, 1, 2, 3, 4] rfl ?_
  refine r_aload O 4 dL_move_0 rfl (Or.inl rfl) ?_
  refine r_iconst O (v := 0) dL_move_2 (by decide) ?_
  refine r_aload_n O 0 dL_move_3 rfl (Or.inl rfl) ?_
  refine r_iload_n O 1 dL_move_4 rfl ?_
  refine r_iload_n O 2 dL_move_5 rfl ?_
  refine r_iload_n O 3 dL_move_6 rfl ?_
  obtain ⟨⟨w, h2⟩, ex1, hf⟩ := bnd hf
  cases w with
  | error k9 =>
    dsimp only at hf
    by_cases hc : k9 = 2
    · rw [if_pos hc] at hf
      subst hc
      refine r_callC (kx := 2) (av := [.int a1, .int a2, .int a3]) (st := [.int 0, .ref a4]) O ht (c_X8_move ex1) mf_X8_move cf8 (kd_X8_move ex1) ml_L_41 mi_X8_move mv_X8_move (by decide) (Nat.le_of_ble_eq_true rfl) (by decide) dL_move_7 [] ⟨0, 12, 15, 36⟩ [⟨0, 12, 19, 13⟩, ⟨0, 12, 23, 26⟩] rfl (fun z hz => by cases hz) (by decide) (by decide) kl_L_36 wy2 5 2 (Or.inr ⟨rfl, dL_move_15⟩) (by decide) [0, 1, 2, 3, 4] [(0, .ref a0), (1, .int a1), (2, .int a2), (3, .int a3), (4, .ref a4)] rfl rfl ?_
      refine r_iconst O (v := 1) dL_move_17 (by decide) ?_
      obtain rfl := Option.some.inj hf
      exact r_iret O hr rfl rfl (by decide) (by decide) dL_move_18
    · rw [if_neg hc] at hf
      by_cases hc : k9 = 0
      · rw [if_pos hc] at hf
        subst hc
        refine r_callC (kx := 0) (av := [.int a1, .int a2, .int a3]) (st := [.int 0, .ref a4]) O ht (c_X8_move ex1) mf_X8_move cf8 (kd_X8_move ex1) ml_L_41 mi_X8_move mv_X8_move (by decide) (Nat.le_of_ble_eq_true rfl) (by decide) dL_move_7 [⟨0, 12, 15, 36⟩] ⟨0, 12, 19, 13⟩ [⟨0, 12, 23, 26⟩] rfl (fun z hz => by
      rcases List.mem_cons.mp hz with rfl | hz
      · exact Or.inr ⟨by decide, "java/lang/IndexOutOfBoundsException", kl_L_36, nc02 O⟩
      cases hz) (by decide) (by decide) kl_L_13 wy0 5 2 (Or.inr ⟨rfl, dL_move_19⟩) (by decide) [0, 1, 2, 3, 4] [(0, .ref a0), (1, .int a1), (2, .int a2), (3, .int a3), (4, .ref a4)] rfl rfl ?_
        refine r_iconst O (v := 2) dL_move_21 (by decide) ?_
        obtain rfl := Option.some.inj hf
        exact r_iret O hr rfl rfl (by decide) (by decide) dL_move_22
      · rw [if_neg hc] at hf
        by_cases hc : k9 = 1
        · rw [if_pos hc] at hf
          subst hc
          refine r_callC (kx := 1) (av := [.int a1, .int a2, .int a3]) (st := [.int 0, .ref a4]) O ht (c_X8_move ex1) mf_X8_move cf8 (kd_X8_move ex1) ml_L_41 mi_X8_move mv_X8_move (by decide) (Nat.le_of_ble_eq_true rfl) (by decide) dL_move_7 [⟨0, 12, 15, 36⟩, ⟨0, 12, 19, 13⟩] ⟨0, 12, 23, 26⟩ [] rfl (fun z hz => by
      rcases List.mem_cons.mp hz with rfl | hz
      · exact Or.inr ⟨by decide, "java/lang/IndexOutOfBoundsException", kl_L_36, nc12 O⟩
      rcases List.mem_cons.mp hz with rfl | hz
      · exact Or.inr ⟨by decide, "java/lang/IllegalStateException", kl_L_13, nc10 O⟩
      cases hz) (by decide) (by decide) kl_L_26 wy1 5 2 (Or.inr ⟨rfl, dL_move_23⟩) (by decide) [0, 1, 2, 3, 4] [(0, .ref a0), (1, .int a1), (2, .int a2), (3, .int a3), (4, .ref a4)] rfl rfl ?_
          refine r_iconst O (v := 3) dL_move_25 (by decide) ?_
          obtain rfl := Option.some.inj hf
          exact r_iret O hr rfl rfl (by decide) (by decide) dL_move_26
        · rw [if_neg hc] at hf
          cases hf
  | ok x1 =>
    dsimp only at hf
    refine r_callV (av := [.int a1, .int a2, .int a3]) (st := [.int 0, .ref a4]) O (c_X8_move ex1) mf_X8_move cf8 (kd_X8_move ex1) ml_L_41 mi_X8_move mv_X8_move (by decide) (Nat.le_of_ble_eq_true rfl) (by decide) dL_move_7 ?_
    refine r_i2l O dL_move_10 ?_
    obtain ⟨h3, eh3, hf⟩ := bnd hf
    refine r_stJ O eh3 dL_move_11 ?_
    refine r_goto (tgt := 27) O dL_move_12 (by decide) ?_
    refine r_iconst O (v := 0) dL_move_27 (by decide) ?_
    obtain rfl := Option.some.inj hf
    exact r_iret O hr rfl rfl (by decide) (by decide) dL_move_28
def f_L_swap (h : AH) (a0 : Nat) (a1 : Int32) (a2 : Int32) (a3 : Nat) : Option (Int32 × AH) :=
Option.bind (f_X8_swap h a0 a1 a2) fun w => match w with
| (.error k9, h2) => if k9 = 2 then
some (1, h2)
else
if k9 = 0 then
some (2, h2)
else
if k9 = 1 then
some (3, h2)
else
none
| (.ok x1, h2) =>
Option.bind (stJ h2 a3 0 x1.toInt64) fun h3 =>
some (0, h3)
set_option maxRecDepth 100000 in
set_option maxHeartbeats 4000000 in
theorem c_L_swap {l : Launch} {G : GT} {h : AH} {a0 : Nat} {a1 : Int32} {a2 : Int32} {a3 : Nat} {r : (Int32 × AH)} (hf : f_L_swap h a0 a1 a2 a3 = some r) : CnW l yL_swap cL_swap 5 (some .int) [(0, 10, 13, 36), (0, 10, 17, 13), (0, 10, 21, 26)] 8 192 15 836 G h [.ref a0, .int a1, .int a2, .ref a3] (.ok (some (.int r.1))) r.2 := by
  refine CnW.of (by decide) (Nat.le_of_ble_eq_true rfl) ?_
  intro p e s m args below meth c O hr ht hin
  have O : OkC p l s m args meth c G cL_swap 5 RL := O
  unfold f_L_swap at hf
  refine AW.sub (lv' := [(0, .ref a0), (1, .int a1), (2, .int a2), (3, .ref a3)]) [0, 1, 2, 3] rfl ?_
  refine r_aload_n O 3 dL_swap_0 rfl (Or.inl rfl) ?_
  refine r_iconst O (v := 0) dL_swap_1 (by decide) ?_
  refine r_aload_n O 0 dL_swap_2 rfl (Or.inl rfl) ?_
  refine r_iload_n O 1 dL_swap_3 rfl ?_
  refine r_iload_n O 2 dL_swap_4 rfl ?_
  obtain ⟨⟨w, h2⟩, ex1, hf⟩ := bnd hf
  cases w with
  | error k9 =>
    dsimp only at hf
    by_cases hc : k9 = 2
    · rw [if_pos hc] at hf
      subst hc
      refine r_callC (kx := 2) (av := [.int a1, .int a2]) (st := [.int 0, .ref a3]) O ht (c_X8_swap ex1) mf_X8_swap cf8 (kd_X8_swap ex1) ml_L_44 mi_X8_swap mv_X8_swap (by decide) (Nat.le_of_ble_eq_true rfl) (by decide) dL_swap_5 [] ⟨0, 10, 13, 36⟩ [⟨0, 10, 17, 13⟩, ⟨0, 10, 21, 26⟩] rfl (fun z hz => by cases hz) (by decide) (by decide) kl_L_36 wy2 4 2 (Or.inr ⟨rfl, dL_swap_13⟩) (by decide) [0, 1, 2, 3] [(0, .ref a0), (1, .int a1), (2, .int a2), (3, .ref a3)] rfl rfl ?_
      refine r_iconst O (v := 1) dL_swap_15 (by decide) ?_
      obtain rfl := Option.some.inj hf
      exact r_iret O hr rfl rfl (by decide) (by decide) dL_swap_16
    · rw [if_neg hc] at hf
      by_cases hc : k9 = 0
      · rw [if_pos hc] at hf
        subst hc
        refine r_callC (kx := 0) (av := [.int a1, .int a2]) (st := [.int 0, .ref a3]) O ht (c_X8_swap ex1) mf_X8_swap cf8 (kd_X8_swap ex1) ml_L_44 mi_X8_swap mv_X8_swap (by decide) (Nat.le_of_ble_eq_true rfl) (by decide) dL_swap_5 [⟨0, 10, 13, 36⟩] ⟨0, 10, 17, 13⟩ [⟨0, 10, 21, 26⟩] rfl (fun z hz => by
      rcases List.mem_cons.mp hz with rfl | hz
      · exact Or.inr ⟨by decide, "java/lang/IndexOutOfBoundsException", kl_L_36, nc02 O⟩
      cases hz) (by decide) (by decide) kl_L_13 wy0 4 2 (Or.inr ⟨rfl, dL_swap_17⟩) (by decide) [0, 1, 2, 3] [(0, .ref a0), (1, .int a1), (2, .int a2), (3, .ref a3)] rfl rfl ?_
        refine r_iconst O (v := 2) dL_swap_19 (by decide) ?_
        obtain rfl := Option.some.inj hf
        exact r_iret O hr rfl rfl (by decide) (by decide) dL_swap_20
      · rw [if_neg hc] at hf
        by_cases hc : k9 = 1
        · rw [if_pos hc] at hf
          subst hc
          refine r_callC (kx := 1) (av := [.int a1, .int a2]) (st := [.int 0, .ref a3]) O ht (c_X8_swap ex1) mf_X8_swap cf8 (kd_X8_swap ex1) ml_L_44 mi_X8_swap mv_X8_swap (by decide) (Nat.le_of_ble_eq_true rfl) (by decide) dL_swap_5 [⟨0, 10, 13, 36⟩, ⟨0, 10, 17, 13⟩] ⟨0, 10, 21, 26⟩ [] rfl (fun z hz => by
      rcases List.mem_cons.mp hz with rfl | hz
      · exact Or.inr ⟨by decide, "java/lang/IndexOutOfBoundsException", kl_L_36, nc12 O⟩
      rcases List.mem_cons.mp hz with rfl | hz
      · exact Or.inr ⟨by decide, "java/lang/IllegalStateException", kl_L_13, nc10 O⟩
      cases hz) (by decide) (by decide) kl_L_26 wy1 4 2 (Or.inr ⟨rfl, dL_swap_21⟩) (by decide) [0, 1, 2, 3] [(0, .ref a0), (1, .int a1), (2, .int a2), (3, .ref a3)] rfl rfl ?_
          refine r_iconst O (v := 3) dL_swap_23 (by decide) ?_
          obtain rfl := Option.some.inj hf
          exact r_iret O hr rfl rfl (by decide) (by decide) dL_swap_24
        · rw [if_neg hc] at hf
          cases hf
  | ok x1 =>
    dsimp only at hf
    refine r_callV (av := [.int a1, .int a2]) (st := [.int 0, .ref a3]) O (c_X8_swap ex1) mf_X8_swap cf8 (kd_X8_swap ex1) ml_L_44 mi_X8_swap mv_X8_swap (by decide) (Nat.le_of_ble_eq_true rfl) (by decide) dL_swap_5 ?_
    refine r_i2l O dL_swap_8 ?_
    obtain ⟨h3, eh3, hf⟩ := bnd hf
    refine r_stJ O eh3 dL_swap_9 ?_
    refine r_goto (tgt := 25) O dL_swap_10 (by decide) ?_
    refine r_iconst O (v := 0) dL_swap_25 (by decide) ?_
    obtain rfl := Option.some.inj hf
    exact r_iret O hr rfl rfl (by decide) (by decide) dL_swap_26
def f_L_turn (h : AH) (a0 : Nat) (a1 : Int32) (a2 : Int32) (a3 : Int32) (a4 : Nat) : Option (Int32 × AH) :=
Option.bind (f_X8_turn h a0 a1 a2 a3) fun w => match w with
| (.error k9, h2) => if k9 = 2 then
some (1, h2)
else
if k9 = 0 then
some (2, h2)
else
if k9 = 1 then
some (3, h2)
else
none
| (.ok x1, h2) =>
Option.bind (stJ h2 a4 0 x1.toInt64) fun h3 =>
some (0, h3)
set_option maxRecDepth 100000 in
set_option maxHeartbeats 4000000 in
theorem c_L_turn {l : Launch} {G : GT} {h : AH} {a0 : Nat} {a1 : Int32} {a2 : Int32} {a3 : Int32} {a4 : Nat} {r : (Int32 × AH)} (hf : f_L_turn h a0 a1 a2 a3 a4 = some r) : CnW l yL_turn cL_turn 6 (some .int) [(0, 12, 15, 36), (0, 12, 19, 13), (0, 12, 23, 26)] 8 193 14 830 G h [.ref a0, .int a1, .int a2, .int a3, .ref a4] (.ok (some (.int r.1))) r.2 := by
  refine CnW.of (by decide) (Nat.le_of_ble_eq_true rfl) ?_
  intro p e s m args below meth c O hr ht hin
  have O : OkC p l s m args meth c G cL_turn 6 RL := O
  unfold f_L_turn at hf
  refine AW.sub (lv' := [(0, .ref a0), (1, .int a1), (2, .int a2), (3, .int a3), (4, .ref a4)]) [0, 1, 2, 3, 4] rfl ?_
  refine r_aload O 4 dL_turn_0 rfl (Or.inl rfl) ?_
  refine r_iconst O (v := 0) dL_turn_2 (by decide) ?_
  refine r_aload_n O 0 dL_turn_3 rfl (Or.inl rfl) ?_
  refine r_iload_n O 1 dL_turn_4 rfl ?_
  refine r_iload_n O 2 dL_turn_5 rfl ?_
  refine r_iload_n O 3 dL_turn_6 rfl ?_
  obtain ⟨⟨w, h2⟩, ex1, hf⟩ := bnd hf
  cases w with
  | error k9 =>
    dsimp only at hf
    by_cases hc : k9 = 2
    · rw [if_pos hc] at hf
      subst hc
      refine r_callC (kx := 2) (av := [.int a1, .int a2, .int a3]) (st := [.int 0, .ref a4]) O ht (c_X8_turn ex1) mf_X8_turn cf8 (kd_X8_turn ex1) ml_L_47 mi_X8_turn mv_X8_turn (by decide) (Nat.le_of_ble_eq_true rfl) (by decide) dL_turn_7 [] ⟨0, 12, 15, 36⟩ [⟨0, 12, 19, 13⟩, ⟨0, 12, 23, 26⟩] rfl (fun z hz => by cases hz) (by decide) (by decide) kl_L_36 wy2 5 2 (Or.inr ⟨rfl, dL_turn_15⟩) (by decide) [0, 1, 2, 3, 4] [(0, .ref a0), (1, .int a1), (2, .int a2), (3, .int a3), (4, .ref a4)] rfl rfl ?_
      refine r_iconst O (v := 1) dL_turn_17 (by decide) ?_
      obtain rfl := Option.some.inj hf
      exact r_iret O hr rfl rfl (by decide) (by decide) dL_turn_18
    · rw [if_neg hc] at hf
      by_cases hc : k9 = 0
      · rw [if_pos hc] at hf
        subst hc
        refine r_callC (kx := 0) (av := [.int a1, .int a2, .int a3]) (st := [.int 0, .ref a4]) O ht (c_X8_turn ex1) mf_X8_turn cf8 (kd_X8_turn ex1) ml_L_47 mi_X8_turn mv_X8_turn (by decide) (Nat.le_of_ble_eq_true rfl) (by decide) dL_turn_7 [⟨0, 12, 15, 36⟩] ⟨0, 12, 19, 13⟩ [⟨0, 12, 23, 26⟩] rfl (fun z hz => by
      rcases List.mem_cons.mp hz with rfl | hz
      · exact Or.inr ⟨by decide, "java/lang/IndexOutOfBoundsException", kl_L_36, nc02 O⟩
      cases hz) (by decide) (by decide) kl_L_13 wy0 5 2 (Or.inr ⟨rfl, dL_turn_19⟩) (by decide) [0, 1, 2, 3, 4] [(0, .ref a0), (1, .int a1), (2, .int a2), (3, .int a3), (4, .ref a4)] rfl rfl ?_
        refine r_iconst O (v := 2) dL_turn_21 (by decide) ?_
        obtain rfl := Option.some.inj hf
        exact r_iret O hr rfl rfl (by decide) (by decide) dL_turn_22
      · rw [if_neg hc] at hf
        by_cases hc : k9 = 1
        · rw [if_pos hc] at hf
          subst hc
          refine r_callC (kx := 1) (av := [.int a1, .int a2, .int a3]) (st := [.int 0, .ref a4]) O ht (c_X8_turn ex1) mf_X8_turn cf8 (kd_X8_turn ex1) ml_L_47 mi_X8_turn mv_X8_turn (by decide) (Nat.le_of_ble_eq_true rfl) (by decide) dL_turn_7 [⟨0, 12, 15, 36⟩, ⟨0, 12, 19, 13⟩] ⟨0, 12, 23, 26⟩ [] rfl (fun z hz => by
      rcases List.mem_cons.mp hz with rfl | hz
      · exact Or.inr ⟨by decide, "java/lang/IndexOutOfBoundsException", kl_L_36, nc12 O⟩
      rcases List.mem_cons.mp hz with rfl | hz
      · exact Or.inr ⟨by decide, "java/lang/IllegalStateException", kl_L_13, nc10 O⟩
      cases hz) (by decide) (by decide) kl_L_26 wy1 5 2 (Or.inr ⟨rfl, dL_turn_23⟩) (by decide) [0, 1, 2, 3, 4] [(0, .ref a0), (1, .int a1), (2, .int a2), (3, .int a3), (4, .ref a4)] rfl rfl ?_
          refine r_iconst O (v := 3) dL_turn_25 (by decide) ?_
          obtain rfl := Option.some.inj hf
          exact r_iret O hr rfl rfl (by decide) (by decide) dL_turn_26
        · rw [if_neg hc] at hf
          cases hf
  | ok x1 =>
    dsimp only at hf
    refine r_callV (av := [.int a1, .int a2, .int a3]) (st := [.int 0, .ref a4]) O (c_X8_turn ex1) mf_X8_turn cf8 (kd_X8_turn ex1) ml_L_47 mi_X8_turn mv_X8_turn (by decide) (Nat.le_of_ble_eq_true rfl) (by decide) dL_turn_7 ?_
    refine r_i2l O dL_turn_10 ?_
    obtain ⟨h3, eh3, hf⟩ := bnd hf
    refine r_stJ O eh3 dL_turn_11 ?_
    refine r_goto (tgt := 27) O dL_turn_12 (by decide) ?_
    refine r_iconst O (v := 0) dL_turn_27 (by decide) ?_
    obtain rfl := Option.some.inj hf
    exact r_iret O hr rfl rfl (by decide) (by decide) dL_turn_28
def f_L_tails (h : AH) (a0 : Nat) (a1 : Int32) (a2 : Int32) (a3 : Int32) (a4 : Int32) (a5 : Nat) : Option (Int32 × AH) :=
Option.bind (f_X8_tails h a0 a1 a2 a3 a4) fun w => match w with
| (.error k9, h2) => if k9 = 2 then
some (1, h2)
else
if k9 = 0 then
some (2, h2)
else
if k9 = 1 then
some (3, h2)
else
none
| (.ok x1, h2) =>
Option.bind (stJ h2 a5 0 x1.toInt64) fun h3 =>
some (0, h3)
set_option maxRecDepth 100000 in
set_option maxHeartbeats 4000000 in
theorem c_L_tails {l : Launch} {G : GT} {h : AH} {a0 : Nat} {a1 : Int32} {a2 : Int32} {a3 : Int32} {a4 : Int32} {a5 : Nat} {r : (Int32 × AH)} (hf : f_L_tails h a0 a1 a2 a3 a4 a5 = some r) : CnW l yL_tails cL_tails 7 (some .int) [(0, 14, 17, 36), (0, 14, 21, 13), (0, 14, 25, 26)] 8 194 15 836 G h [.ref a0, .int a1, .int a2, .int a3, .int a4, .ref a5] (.ok (some (.int r.1))) r.2 := by
  refine CnW.of (by decide) (Nat.le_of_ble_eq_true rfl) ?_
  intro p e s m args below meth c O hr ht hin
  have O : OkC p l s m args meth c G cL_tails 7 RL := O
  unfold f_L_tails at hf
  refine AW.sub (lv' := [(0, .ref a0), (1, .int a1), (2, .int a2), (3, .int a3), (4, .int a4), (5, .ref a5)]) [0, 1, 2, 3, 4, 5] rfl ?_
  refine r_aload O 5 dL_tails_0 rfl (Or.inl rfl) ?_
  refine r_iconst O (v := 0) dL_tails_2 (by decide) ?_
  refine r_aload_n O 0 dL_tails_3 rfl (Or.inl rfl) ?_
  refine r_iload_n O 1 dL_tails_4 rfl ?_
  refine r_iload_n O 2 dL_tails_5 rfl ?_
  refine r_iload_n O 3 dL_tails_6 rfl ?_
  refine r_iload O 4 dL_tails_7 rfl ?_
  obtain ⟨⟨w, h2⟩, ex1, hf⟩ := bnd hf
  cases w with
  | error k9 =>
    dsimp only at hf
    by_cases hc : k9 = 2
    · rw [if_pos hc] at hf
      subst hc
      refine r_callC (kx := 2) (av := [.int a1, .int a2, .int a3, .int a4]) (st := [.int 0, .ref a5]) O ht (c_X8_tails ex1) mf_X8_tails cf8 (kd_X8_tails ex1) ml_L_50 mi_X8_tails mv_X8_tails (by decide) (Nat.le_of_ble_eq_true rfl) (by decide) dL_tails_9 [] ⟨0, 14, 17, 36⟩ [⟨0, 14, 21, 13⟩, ⟨0, 14, 25, 26⟩] rfl (fun z hz => by cases hz) (by decide) (by decide) kl_L_36 wy2 6 2 (Or.inr ⟨rfl, dL_tails_17⟩) (by decide) [0, 1, 2, 3, 4, 5] [(0, .ref a0), (1, .int a1), (2, .int a2), (3, .int a3), (4, .int a4), (5, .ref a5)] rfl rfl ?_
      refine r_iconst O (v := 1) dL_tails_19 (by decide) ?_
      obtain rfl := Option.some.inj hf
      exact r_iret O hr rfl rfl (by decide) (by decide) dL_tails_20
    · rw [if_neg hc] at hf
      by_cases hc : k9 = 0
      · rw [if_pos hc] at hf
        subst hc
        refine r_callC (kx := 0) (av := [.int a1, .int a2, .int a3, .int a4]) (st := [.int 0, .ref a5]) O ht (c_X8_tails ex1) mf_X8_tails cf8 (kd_X8_tails ex1) ml_L_50 mi_X8_tails mv_X8_tails (by decide) (Nat.le_of_ble_eq_true rfl) (by decide) dL_tails_9 [⟨0, 14, 17, 36⟩] ⟨0, 14, 21, 13⟩ [⟨0, 14, 25, 26⟩] rfl (fun z hz => by
      rcases List.mem_cons.mp hz with rfl | hz
      · exact Or.inr ⟨by decide, "java/lang/IndexOutOfBoundsException", kl_L_36, nc02 O⟩
      cases hz) (by decide) (by decide) kl_L_13 wy0 6 2 (Or.inr ⟨rfl, dL_tails_21⟩) (by decide) [0, 1, 2, 3, 4, 5] [(0, .ref a0), (1, .int a1), (2, .int a2), (3, .int a3), (4, .int a4), (5, .ref a5)] rfl rfl ?_
        refine r_iconst O (v := 2) dL_tails_23 (by decide) ?_
        obtain rfl := Option.some.inj hf
        exact r_iret O hr rfl rfl (by decide) (by decide) dL_tails_24
      · rw [if_neg hc] at hf
        by_cases hc : k9 = 1
        · rw [if_pos hc] at hf
          subst hc
          refine r_callC (kx := 1) (av := [.int a1, .int a2, .int a3, .int a4]) (st := [.int 0, .ref a5]) O ht (c_X8_tails ex1) mf_X8_tails cf8 (kd_X8_tails ex1) ml_L_50 mi_X8_tails mv_X8_tails (by decide) (Nat.le_of_ble_eq_true rfl) (by decide) dL_tails_9 [⟨0, 14, 17, 36⟩, ⟨0, 14, 21, 13⟩] ⟨0, 14, 25, 26⟩ [] rfl (fun z hz => by
      rcases List.mem_cons.mp hz with rfl | hz
      · exact Or.inr ⟨by decide, "java/lang/IndexOutOfBoundsException", kl_L_36, nc12 O⟩
      rcases List.mem_cons.mp hz with rfl | hz
      · exact Or.inr ⟨by decide, "java/lang/IllegalStateException", kl_L_13, nc10 O⟩
      cases hz) (by decide) (by decide) kl_L_26 wy1 6 2 (Or.inr ⟨rfl, dL_tails_25⟩) (by decide) [0, 1, 2, 3, 4, 5] [(0, .ref a0), (1, .int a1), (2, .int a2), (3, .int a3), (4, .int a4), (5, .ref a5)] rfl rfl ?_
          refine r_iconst O (v := 3) dL_tails_27 (by decide) ?_
          obtain rfl := Option.some.inj hf
          exact r_iret O hr rfl rfl (by decide) (by decide) dL_tails_28
        · rw [if_neg hc] at hf
          cases hf
  | ok x1 =>
    dsimp only at hf
    refine r_callV (av := [.int a1, .int a2, .int a3, .int a4]) (st := [.int 0, .ref a5]) O (c_X8_tails ex1) mf_X8_tails cf8 (kd_X8_tails ex1) ml_L_50 mi_X8_tails mv_X8_tails (by decide) (Nat.le_of_ble_eq_true rfl) (by decide) dL_tails_9 ?_
    refine r_i2l O dL_tails_12 ?_
    obtain ⟨h3, eh3, hf⟩ := bnd hf
    refine r_stJ O eh3 dL_tails_13 ?_
    refine r_goto (tgt := 29) O dL_tails_14 (by decide) ?_
    refine r_iconst O (v := 0) dL_tails_29 (by decide) ?_
    obtain rfl := Option.some.inj hf
    exact r_iret O hr rfl rfl (by decide) (by decide) dL_tails_30
def f_L_fact (h : AH) (a0 : Nat) (a1 : Int32) (a2 : Int32) (a3 : Int32) (a4 : Nat) : Option (Int32 × AH) :=
Option.bind (f_X8_fact h a0 a1 a2 a3) fun w => match w with
| (.error k9, h2) => if k9 = 2 then
some (1, h2)
else
if k9 = 0 then
some (2, h2)
else
if k9 = 1 then
some (3, h2)
else
none
| (.ok x1, h2) =>
Option.bind (stJ h2 a4 0 x1.toInt64) fun h3 =>
some (0, h3)
set_option maxRecDepth 100000 in
set_option maxHeartbeats 4000000 in
theorem c_L_fact {l : Launch} {G : GT} {h : AH} {a0 : Nat} {a1 : Int32} {a2 : Int32} {a3 : Int32} {a4 : Nat} {r : (Int32 × AH)} (hf : f_L_fact h a0 a1 a2 a3 a4 = some r) : CnW l yL_fact cL_fact 6 (some .int) [(0, 12, 15, 36), (0, 12, 19, 13), (0, 12, 23, 26)] 8 194 14 830 G h [.ref a0, .int a1, .int a2, .int a3, .ref a4] (.ok (some (.int r.1))) r.2 := by
  refine CnW.of (by decide) (Nat.le_of_ble_eq_true rfl) ?_
  intro p e s m args below meth c O hr ht hin
  have O : OkC p l s m args meth c G cL_fact 6 RL := O
  unfold f_L_fact at hf
  refine AW.sub (lv' := [(0, .ref a0), (1, .int a1), (2, .int a2), (3, .int a3), (4, .ref a4)]) [0, 1, 2, 3, 4] rfl ?_
  refine r_aload O 4 dL_fact_0 rfl (Or.inl rfl) ?_
  refine r_iconst O (v := 0) dL_fact_2 (by decide) ?_
  refine r_aload_n O 0 dL_fact_3 rfl (Or.inl rfl) ?_
  refine r_iload_n O 1 dL_fact_4 rfl ?_
  refine r_iload_n O 2 dL_fact_5 rfl ?_
  refine r_iload_n O 3 dL_fact_6 rfl ?_
  obtain ⟨⟨w, h2⟩, ex1, hf⟩ := bnd hf
  cases w with
  | error k9 =>
    dsimp only at hf
    by_cases hc : k9 = 2
    · rw [if_pos hc] at hf
      subst hc
      refine r_callC (kx := 2) (av := [.int a1, .int a2, .int a3]) (st := [.int 0, .ref a4]) O ht (c_X8_fact ex1) mf_X8_fact cf8 (kd_X8_fact ex1) ml_L_53 mi_X8_fact mv_X8_fact (by decide) (Nat.le_of_ble_eq_true rfl) (by decide) dL_fact_7 [] ⟨0, 12, 15, 36⟩ [⟨0, 12, 19, 13⟩, ⟨0, 12, 23, 26⟩] rfl (fun z hz => by cases hz) (by decide) (by decide) kl_L_36 wy2 5 2 (Or.inr ⟨rfl, dL_fact_15⟩) (by decide) [0, 1, 2, 3, 4] [(0, .ref a0), (1, .int a1), (2, .int a2), (3, .int a3), (4, .ref a4)] rfl rfl ?_
      refine r_iconst O (v := 1) dL_fact_17 (by decide) ?_
      obtain rfl := Option.some.inj hf
      exact r_iret O hr rfl rfl (by decide) (by decide) dL_fact_18
    · rw [if_neg hc] at hf
      by_cases hc : k9 = 0
      · rw [if_pos hc] at hf
        subst hc
        refine r_callC (kx := 0) (av := [.int a1, .int a2, .int a3]) (st := [.int 0, .ref a4]) O ht (c_X8_fact ex1) mf_X8_fact cf8 (kd_X8_fact ex1) ml_L_53 mi_X8_fact mv_X8_fact (by decide) (Nat.le_of_ble_eq_true rfl) (by decide) dL_fact_7 [⟨0, 12, 15, 36⟩] ⟨0, 12, 19, 13⟩ [⟨0, 12, 23, 26⟩] rfl (fun z hz => by
      rcases List.mem_cons.mp hz with rfl | hz
      · exact Or.inr ⟨by decide, "java/lang/IndexOutOfBoundsException", kl_L_36, nc02 O⟩
      cases hz) (by decide) (by decide) kl_L_13 wy0 5 2 (Or.inr ⟨rfl, dL_fact_19⟩) (by decide) [0, 1, 2, 3, 4] [(0, .ref a0), (1, .int a1), (2, .int a2), (3, .int a3), (4, .ref a4)] rfl rfl ?_
        refine r_iconst O (v := 2) dL_fact_21 (by decide) ?_
        obtain rfl := Option.some.inj hf
        exact r_iret O hr rfl rfl (by decide) (by decide) dL_fact_22
      · rw [if_neg hc] at hf
        by_cases hc : k9 = 1
        · rw [if_pos hc] at hf
          subst hc
          refine r_callC (kx := 1) (av := [.int a1, .int a2, .int a3]) (st := [.int 0, .ref a4]) O ht (c_X8_fact ex1) mf_X8_fact cf8 (kd_X8_fact ex1) ml_L_53 mi_X8_fact mv_X8_fact (by decide) (Nat.le_of_ble_eq_true rfl) (by decide) dL_fact_7 [⟨0, 12, 15, 36⟩, ⟨0, 12, 19, 13⟩] ⟨0, 12, 23, 26⟩ [] rfl (fun z hz => by
      rcases List.mem_cons.mp hz with rfl | hz
      · exact Or.inr ⟨by decide, "java/lang/IndexOutOfBoundsException", kl_L_36, nc12 O⟩
      rcases List.mem_cons.mp hz with rfl | hz
      · exact Or.inr ⟨by decide, "java/lang/IllegalStateException", kl_L_13, nc10 O⟩
      cases hz) (by decide) (by decide) kl_L_26 wy1 5 2 (Or.inr ⟨rfl, dL_fact_23⟩) (by decide) [0, 1, 2, 3, 4] [(0, .ref a0), (1, .int a1), (2, .int a2), (3, .int a3), (4, .ref a4)] rfl rfl ?_
          refine r_iconst O (v := 3) dL_fact_25 (by decide) ?_
          obtain rfl := Option.some.inj hf
          exact r_iret O hr rfl rfl (by decide) (by decide) dL_fact_26
        · rw [if_neg hc] at hf
          cases hf
  | ok x1 =>
    dsimp only at hf
    refine r_callV (av := [.int a1, .int a2, .int a3]) (st := [.int 0, .ref a4]) O (c_X8_fact ex1) mf_X8_fact cf8 (kd_X8_fact ex1) ml_L_53 mi_X8_fact mv_X8_fact (by decide) (Nat.le_of_ble_eq_true rfl) (by decide) dL_fact_7 ?_
    refine r_i2l O dL_fact_10 ?_
    obtain ⟨h3, eh3, hf⟩ := bnd hf
    refine r_stJ O eh3 dL_fact_11 ?_
    refine r_goto (tgt := 27) O dL_fact_12 (by decide) ?_
    refine r_iconst O (v := 0) dL_fact_27 (by decide) ?_
    obtain rfl := Option.some.inj hf
    exact r_iret O hr rfl rfl (by decide) (by decide) dL_fact_28
def f_L_listFact (h : AH) (a0 : Nat) (a1 : Int32) (a2 : Int32) (a3 : Int32) (a4 : Nat) : Option (Int32 × AH) :=
Option.bind (f_X8_listFact h a0 a1 a2 a3) fun w => match w with
| (.error k9, h2) => if k9 = 2 then
some (1, h2)
else
if k9 = 0 then
some (2, h2)
else
if k9 = 1 then
some (3, h2)
else
none
| (.ok x1, h2) =>
Option.bind (stJ h2 a4 0 x1.toInt64) fun h3 =>
some (0, h3)
set_option maxRecDepth 100000 in
set_option maxHeartbeats 4000000 in
theorem c_L_listFact {l : Launch} {G : GT} {h : AH} {a0 : Nat} {a1 : Int32} {a2 : Int32} {a3 : Int32} {a4 : Nat} {r : (Int32 × AH)} (hf : f_L_listFact h a0 a1 a2 a3 a4 = some r) : CnW l yL_listFact cL_listFact 6 (some .int) [(0, 12, 15, 36), (0, 12, 19, 13), (0, 12, 23, 26)] 8 193 14 830 G h [.ref a0, .int a1, .int a2, .int a3, .ref a4] (.ok (some (.int r.1))) r.2 := by
  refine CnW.of (by decide) (Nat.le_of_ble_eq_true rfl) ?_
  intro p e s m args below meth c O hr ht hin
  have O : OkC p l s m args meth c G cL_listFact 6 RL := O
  unfold f_L_listFact at hf
  refine AW.sub (lv' := [(0, .ref a0), (1, .int a1), (2, .int a2), (3, .int a3), (4, .ref a4)]) [0, 1, 2, 3, 4] rfl ?_
  refine r_aload O 4 dL_listFact_0 rfl (Or.inl rfl) ?_
  refine r_iconst O (v := 0) dL_listFact_2 (by decide) ?_
  refine r_aload_n O 0 dL_listFact_3 rfl (Or.inl rfl) ?_
  refine r_iload_n O 1 dL_listFact_4 rfl ?_
  refine r_iload_n O 2 dL_listFact_5 rfl ?_
  refine r_iload_n O 3 dL_listFact_6 rfl ?_
  obtain ⟨⟨w, h2⟩, ex1, hf⟩ := bnd hf
  cases w with
  | error k9 =>
    dsimp only at hf
    by_cases hc : k9 = 2
    · rw [if_pos hc] at hf
      subst hc
      refine r_callC (kx := 2) (av := [.int a1, .int a2, .int a3]) (st := [.int 0, .ref a4]) O ht (c_X8_listFact ex1) mf_X8_listFact cf8 (kd_X8_listFact ex1) ml_L_56 mi_X8_listFact mv_X8_listFact (by decide) (Nat.le_of_ble_eq_true rfl) (by decide) dL_listFact_7 [] ⟨0, 12, 15, 36⟩ [⟨0, 12, 19, 13⟩, ⟨0, 12, 23, 26⟩] rfl (fun z hz => by cases hz) (by decide) (by decide) kl_L_36 wy2 5 2 (Or.inr ⟨rfl, dL_listFact_15⟩) (by decide) [0, 1, 2, 3, 4] [(0, .ref a0), (1, .int a1), (2, .int a2), (3, .int a3), (4, .ref a4)] rfl rfl ?_
      refine r_iconst O (v := 1) dL_listFact_17 (by decide) ?_
      obtain rfl := Option.some.inj hf
      exact r_iret O hr rfl rfl (by decide) (by decide) dL_listFact_18
    · rw [if_neg hc] at hf
      by_cases hc : k9 = 0
      · rw [if_pos hc] at hf
        subst hc
        refine r_callC (kx := 0) (av := [.int a1, .int a2, .int a3]) (st := [.int 0, .ref a4]) O ht (c_X8_listFact ex1) mf_X8_listFact cf8 (kd_X8_listFact ex1) ml_L_56 mi_X8_listFact mv_X8_listFact (by decide) (Nat.le_of_ble_eq_true rfl) (by decide) dL_listFact_7 [⟨0, 12, 15, 36⟩] ⟨0, 12, 19, 13⟩ [⟨0, 12, 23, 26⟩] rfl (fun z hz => by
      rcases List.mem_cons.mp hz with rfl | hz
      · exact Or.inr ⟨by decide, "java/lang/IndexOutOfBoundsException", kl_L_36, nc02 O⟩
      cases hz) (by decide) (by decide) kl_L_13 wy0 5 2 (Or.inr ⟨rfl, dL_listFact_19⟩) (by decide) [0, 1, 2, 3, 4] [(0, .ref a0), (1, .int a1), (2, .int a2), (3, .int a3), (4, .ref a4)] rfl rfl ?_
        refine r_iconst O (v := 2) dL_listFact_21 (by decide) ?_
        obtain rfl := Option.some.inj hf
        exact r_iret O hr rfl rfl (by decide) (by decide) dL_listFact_22
      · rw [if_neg hc] at hf
        by_cases hc : k9 = 1
        · rw [if_pos hc] at hf
          subst hc
          refine r_callC (kx := 1) (av := [.int a1, .int a2, .int a3]) (st := [.int 0, .ref a4]) O ht (c_X8_listFact ex1) mf_X8_listFact cf8 (kd_X8_listFact ex1) ml_L_56 mi_X8_listFact mv_X8_listFact (by decide) (Nat.le_of_ble_eq_true rfl) (by decide) dL_listFact_7 [⟨0, 12, 15, 36⟩, ⟨0, 12, 19, 13⟩] ⟨0, 12, 23, 26⟩ [] rfl (fun z hz => by
      rcases List.mem_cons.mp hz with rfl | hz
      · exact Or.inr ⟨by decide, "java/lang/IndexOutOfBoundsException", kl_L_36, nc12 O⟩
      rcases List.mem_cons.mp hz with rfl | hz
      · exact Or.inr ⟨by decide, "java/lang/IllegalStateException", kl_L_13, nc10 O⟩
      cases hz) (by decide) (by decide) kl_L_26 wy1 5 2 (Or.inr ⟨rfl, dL_listFact_23⟩) (by decide) [0, 1, 2, 3, 4] [(0, .ref a0), (1, .int a1), (2, .int a2), (3, .int a3), (4, .ref a4)] rfl rfl ?_
          refine r_iconst O (v := 3) dL_listFact_25 (by decide) ?_
          obtain rfl := Option.some.inj hf
          exact r_iret O hr rfl rfl (by decide) (by decide) dL_listFact_26
        · rw [if_neg hc] at hf
          cases hf
  | ok x1 =>
    dsimp only at hf
    refine r_callV (av := [.int a1, .int a2, .int a3]) (st := [.int 0, .ref a4]) O (c_X8_listFact ex1) mf_X8_listFact cf8 (kd_X8_listFact ex1) ml_L_56 mi_X8_listFact mv_X8_listFact (by decide) (Nat.le_of_ble_eq_true rfl) (by decide) dL_listFact_7 ?_
    refine r_i2l O dL_listFact_10 ?_
    obtain ⟨h3, eh3, hf⟩ := bnd hf
    refine r_stJ O eh3 dL_listFact_11 ?_
    refine r_goto (tgt := 27) O dL_listFact_12 (by decide) ?_
    refine r_iconst O (v := 0) dL_listFact_27 (by decide) ?_
    obtain rfl := Option.some.inj hf
    exact r_iret O hr rfl rfl (by decide) (by decide) dL_listFact_28
def f_L_link (h : AH) (a0 : Nat) (a1 : Int32) (a2 : Int32) (a3 : Nat) : Option (Int32 × AH) :=
Option.bind (f_X8_link h a0 a1 a2) fun w => match w with
| (.error k9, h2) => if k9 = 2 then
some (1, h2)
else
if k9 = 0 then
some (2, h2)
else
if k9 = 1 then
some (3, h2)
else
none
| (.ok x1, h2) =>
Option.bind (stJ h2 a3 0 x1.toInt64) fun h3 =>
some (0, h3)
set_option maxRecDepth 100000 in
set_option maxHeartbeats 4000000 in
theorem c_L_link {l : Launch} {G : GT} {h : AH} {a0 : Nat} {a1 : Int32} {a2 : Int32} {a3 : Nat} {r : (Int32 × AH)} (hf : f_L_link h a0 a1 a2 a3 = some r) : CnW l yL_link cL_link 5 (some .int) [(0, 10, 13, 36), (0, 10, 17, 13), (0, 10, 21, 26)] 8 192 15 836 G h [.ref a0, .int a1, .int a2, .ref a3] (.ok (some (.int r.1))) r.2 := by
  refine CnW.of (by decide) (Nat.le_of_ble_eq_true rfl) ?_
  intro p e s m args below meth c O hr ht hin
  have O : OkC p l s m args meth c G cL_link 5 RL := O
  unfold f_L_link at hf
  refine AW.sub (lv' := [(0, .ref a0), (1, .int a1), (2, .int a2), (3, .ref a3)]) [0, 1, 2, 3] rfl ?_
  refine r_aload_n O 3 dL_link_0 rfl (Or.inl rfl) ?_
  refine r_iconst O (v := 0) dL_link_1 (by decide) ?_
  refine r_aload_n O 0 dL_link_2 rfl (Or.inl rfl) ?_
  refine r_iload_n O 1 dL_link_3 rfl ?_
  refine r_iload_n O 2 dL_link_4 rfl ?_
  obtain ⟨⟨w, h2⟩, ex1, hf⟩ := bnd hf
  cases w with
  | error k9 =>
    dsimp only at hf
    by_cases hc : k9 = 2
    · rw [if_pos hc] at hf
      subst hc
      refine r_callC (kx := 2) (av := [.int a1, .int a2]) (st := [.int 0, .ref a3]) O ht (c_X8_link ex1) mf_X8_link cf8 (kd_X8_link ex1) ml_L_59 mi_X8_link mv_X8_link (by decide) (Nat.le_of_ble_eq_true rfl) (by decide) dL_link_5 [] ⟨0, 10, 13, 36⟩ [⟨0, 10, 17, 13⟩, ⟨0, 10, 21, 26⟩] rfl (fun z hz => by cases hz) (by decide) (by decide) kl_L_36 wy2 4 2 (Or.inr ⟨rfl, dL_link_13⟩) (by decide) [0, 1, 2, 3] [(0, .ref a0), (1, .int a1), (2, .int a2), (3, .ref a3)] rfl rfl ?_
      refine r_iconst O (v := 1) dL_link_15 (by decide) ?_
      obtain rfl := Option.some.inj hf
      exact r_iret O hr rfl rfl (by decide) (by decide) dL_link_16
    · rw [if_neg hc] at hf
      by_cases hc : k9 = 0
      · rw [if_pos hc] at hf
        subst hc
        refine r_callC (kx := 0) (av := [.int a1, .int a2]) (st := [.int 0, .ref a3]) O ht (c_X8_link ex1) mf_X8_link cf8 (kd_X8_link ex1) ml_L_59 mi_X8_link mv_X8_link (by decide) (Nat.le_of_ble_eq_true rfl) (by decide) dL_link_5 [⟨0, 10, 13, 36⟩] ⟨0, 10, 17, 13⟩ [⟨0, 10, 21, 26⟩] rfl (fun z hz => by
      rcases List.mem_cons.mp hz with rfl | hz
      · exact Or.inr ⟨by decide, "java/lang/IndexOutOfBoundsException", kl_L_36, nc02 O⟩
      cases hz) (by decide) (by decide) kl_L_13 wy0 4 2 (Or.inr ⟨rfl, dL_link_17⟩) (by decide) [0, 1, 2, 3] [(0, .ref a0), (1, .int a1), (2, .int a2), (3, .ref a3)] rfl rfl ?_
        refine r_iconst O (v := 2) dL_link_19 (by decide) ?_
        obtain rfl := Option.some.inj hf
        exact r_iret O hr rfl rfl (by decide) (by decide) dL_link_20
      · rw [if_neg hc] at hf
        by_cases hc : k9 = 1
        · rw [if_pos hc] at hf
          subst hc
          refine r_callC (kx := 1) (av := [.int a1, .int a2]) (st := [.int 0, .ref a3]) O ht (c_X8_link ex1) mf_X8_link cf8 (kd_X8_link ex1) ml_L_59 mi_X8_link mv_X8_link (by decide) (Nat.le_of_ble_eq_true rfl) (by decide) dL_link_5 [⟨0, 10, 13, 36⟩, ⟨0, 10, 17, 13⟩] ⟨0, 10, 21, 26⟩ [] rfl (fun z hz => by
      rcases List.mem_cons.mp hz with rfl | hz
      · exact Or.inr ⟨by decide, "java/lang/IndexOutOfBoundsException", kl_L_36, nc12 O⟩
      rcases List.mem_cons.mp hz with rfl | hz
      · exact Or.inr ⟨by decide, "java/lang/IllegalStateException", kl_L_13, nc10 O⟩
      cases hz) (by decide) (by decide) kl_L_26 wy1 4 2 (Or.inr ⟨rfl, dL_link_21⟩) (by decide) [0, 1, 2, 3] [(0, .ref a0), (1, .int a1), (2, .int a2), (3, .ref a3)] rfl rfl ?_
          refine r_iconst O (v := 3) dL_link_23 (by decide) ?_
          obtain rfl := Option.some.inj hf
          exact r_iret O hr rfl rfl (by decide) (by decide) dL_link_24
        · rw [if_neg hc] at hf
          cases hf
  | ok x1 =>
    dsimp only at hf
    refine r_callV (av := [.int a1, .int a2]) (st := [.int 0, .ref a3]) O (c_X8_link ex1) mf_X8_link cf8 (kd_X8_link ex1) ml_L_59 mi_X8_link mv_X8_link (by decide) (Nat.le_of_ble_eq_true rfl) (by decide) dL_link_5 ?_
    refine r_i2l O dL_link_8 ?_
    obtain ⟨h3, eh3, hf⟩ := bnd hf
    refine r_stJ O eh3 dL_link_9 ?_
    refine r_goto (tgt := 25) O dL_link_10 (by decide) ?_
    refine r_iconst O (v := 0) dL_link_25 (by decide) ?_
    obtain rfl := Option.some.inj hf
    exact r_iret O hr rfl rfl (by decide) (by decide) dL_link_26
def f_L_freeze (h : AH) (a0 : Nat) (a1 : Int32) (a2 : Int32) (a3 : Nat) : Option (Int32 × AH) :=
Option.bind (f_X8_freeze h a0 a1 a2) fun w => match w with
| (.error k9, h2) => if k9 = 2 then
some (1, h2)
else
if k9 = 0 then
some (2, h2)
else
if k9 = 1 then
some (3, h2)
else
none
| (.ok x1, h2) =>
Option.bind (stJ h2 a3 0 x1.toInt64) fun h3 =>
some (0, h3)
set_option maxRecDepth 100000 in
set_option maxHeartbeats 4000000 in
theorem c_L_freeze {l : Launch} {G : GT} {h : AH} {a0 : Nat} {a1 : Int32} {a2 : Int32} {a3 : Nat} {r : (Int32 × AH)} (hf : f_L_freeze h a0 a1 a2 a3 = some r) : CnW l yL_freeze cL_freeze 5 (some .int) [(0, 10, 13, 36), (0, 10, 17, 13), (0, 10, 21, 26)] 8 192 14 830 G h [.ref a0, .int a1, .int a2, .ref a3] (.ok (some (.int r.1))) r.2 := by
  refine CnW.of (by decide) (Nat.le_of_ble_eq_true rfl) ?_
  intro p e s m args below meth c O hr ht hin
  have O : OkC p l s m args meth c G cL_freeze 5 RL := O
  unfold f_L_freeze at hf
  refine AW.sub (lv' := [(0, .ref a0), (1, .int a1), (2, .int a2), (3, .ref a3)]) [0, 1, 2, 3] rfl ?_
  refine r_aload_n O 3 dL_freeze_0 rfl (Or.inl rfl) ?_
  refine r_iconst O (v := 0) dL_freeze_1 (by decide) ?_
  refine r_aload_n O 0 dL_freeze_2 rfl (Or.inl rfl) ?_
  refine r_iload_n O 1 dL_freeze_3 rfl ?_
  refine r_iload_n O 2 dL_freeze_4 rfl ?_
  obtain ⟨⟨w, h2⟩, ex1, hf⟩ := bnd hf
  cases w with
  | error k9 =>
    dsimp only at hf
    by_cases hc : k9 = 2
    · rw [if_pos hc] at hf
      subst hc
      refine r_callC (kx := 2) (av := [.int a1, .int a2]) (st := [.int 0, .ref a3]) O ht (c_X8_freeze ex1) mf_X8_freeze cf8 (kd_X8_freeze ex1) ml_L_62 mi_X8_freeze mv_X8_freeze (by decide) (Nat.le_of_ble_eq_true rfl) (by decide) dL_freeze_5 [] ⟨0, 10, 13, 36⟩ [⟨0, 10, 17, 13⟩, ⟨0, 10, 21, 26⟩] rfl (fun z hz => by cases hz) (by decide) (by decide) kl_L_36 wy2 4 2 (Or.inr ⟨rfl, dL_freeze_13⟩) (by decide) [0, 1, 2, 3] [(0, .ref a0), (1, .int a1), (2, .int a2), (3, .ref a3)] rfl rfl ?_
      refine r_iconst O (v := 1) dL_freeze_15 (by decide) ?_
      obtain rfl := Option.some.inj hf
      exact r_iret O hr rfl rfl (by decide) (by decide) dL_freeze_16
    · rw [if_neg hc] at hf
      by_cases hc : k9 = 0
      · rw [if_pos hc] at hf
        subst hc
        refine r_callC (kx := 0) (av := [.int a1, .int a2]) (st := [.int 0, .ref a3]) O ht (c_X8_freeze ex1) mf_X8_freeze cf8 (kd_X8_freeze ex1) ml_L_62 mi_X8_freeze mv_X8_freeze (by decide) (Nat.le_of_ble_eq_true rfl) (by decide) dL_freeze_5 [⟨0, 10, 13, 36⟩] ⟨0, 10, 17, 13⟩ [⟨0, 10, 21, 26⟩] rfl (fun z hz => by
      rcases List.mem_cons.mp hz with rfl | hz
      · exact Or.inr ⟨by decide, "java/lang/IndexOutOfBoundsException", kl_L_36, nc02 O⟩
      cases hz) (by decide) (by decide) kl_L_13 wy0 4 2 (Or.inr ⟨rfl, dL_freeze_17⟩) (by decide) [0, 1, 2, 3] [(0, .ref a0), (1, .int a1), (2, .int a2), (3, .ref a3)] rfl rfl ?_
        refine r_iconst O (v := 2) dL_freeze_19 (by decide) ?_
        obtain rfl := Option.some.inj hf
        exact r_iret O hr rfl rfl (by decide) (by decide) dL_freeze_20
      · rw [if_neg hc] at hf
        by_cases hc : k9 = 1
        · rw [if_pos hc] at hf
          subst hc
          refine r_callC (kx := 1) (av := [.int a1, .int a2]) (st := [.int 0, .ref a3]) O ht (c_X8_freeze ex1) mf_X8_freeze cf8 (kd_X8_freeze ex1) ml_L_62 mi_X8_freeze mv_X8_freeze (by decide) (Nat.le_of_ble_eq_true rfl) (by decide) dL_freeze_5 [⟨0, 10, 13, 36⟩, ⟨0, 10, 17, 13⟩] ⟨0, 10, 21, 26⟩ [] rfl (fun z hz => by
      rcases List.mem_cons.mp hz with rfl | hz
      · exact Or.inr ⟨by decide, "java/lang/IndexOutOfBoundsException", kl_L_36, nc12 O⟩
      rcases List.mem_cons.mp hz with rfl | hz
      · exact Or.inr ⟨by decide, "java/lang/IllegalStateException", kl_L_13, nc10 O⟩
      cases hz) (by decide) (by decide) kl_L_26 wy1 4 2 (Or.inr ⟨rfl, dL_freeze_21⟩) (by decide) [0, 1, 2, 3] [(0, .ref a0), (1, .int a1), (2, .int a2), (3, .ref a3)] rfl rfl ?_
          refine r_iconst O (v := 3) dL_freeze_23 (by decide) ?_
          obtain rfl := Option.some.inj hf
          exact r_iret O hr rfl rfl (by decide) (by decide) dL_freeze_24
        · rw [if_neg hc] at hf
          cases hf
  | ok x1 =>
    dsimp only at hf
    refine r_callV (av := [.int a1, .int a2]) (st := [.int 0, .ref a3]) O (c_X8_freeze ex1) mf_X8_freeze cf8 (kd_X8_freeze ex1) ml_L_62 mi_X8_freeze mv_X8_freeze (by decide) (Nat.le_of_ble_eq_true rfl) (by decide) dL_freeze_5 ?_
    refine r_i2l O dL_freeze_8 ?_
    obtain ⟨h3, eh3, hf⟩ := bnd hf
    refine r_stJ O eh3 dL_freeze_9 ?_
    refine r_goto (tgt := 25) O dL_freeze_10 (by decide) ?_
    refine r_iconst O (v := 0) dL_freeze_25 (by decide) ?_
    obtain rfl := Option.some.inj hf
    exact r_iret O hr rfl rfl (by decide) (by decide) dL_freeze_26
def f_L_begin (h : AH) (a0 : Nat) : Option (Int32 × AH) :=
Option.bind (f_X8_begin h a0) fun w => match w with
| (.error k9, h2) => if k9 = 0 then
some (1, h2)
else
none
| (.ok x1, h2) =>
some (0, h2)
set_option maxRecDepth 100000 in
set_option maxHeartbeats 4000000 in
theorem c_L_begin {l : Launch} {G : GT} {h : AH} {a0 : Nat} {r : (Int32 × AH)} (hf : f_L_begin h a0 = some r) : CnW l yL_begin cL_begin 2 (some .int) [(0, 4, 7, 13)] 8 130 2 12 G h [.ref a0] (.ok (some (.int r.1))) r.2 := by
  refine CnW.of (by decide) (Nat.le_of_ble_eq_true rfl) ?_
  intro p e s m args below meth c O hr ht hin
  have O : OkC p l s m args meth c G cL_begin 2 RL := O
  unfold f_L_begin at hf
  refine AW.sub (lv' := [(0, .ref a0)]) [0] rfl ?_
  refine r_aload_n O 0 dL_begin_0 rfl (Or.inl rfl) ?_
  obtain ⟨⟨w, h2⟩, ex1, hf⟩ := bnd hf
  cases w with
  | error k9 =>
    dsimp only at hf
    by_cases hc : k9 = 0
    · rw [if_pos hc] at hf
      subst hc
      refine r_callC (kx := 0) (av := []) (st := []) O ht (c_X8_begin ex1) mf_X8_begin cf8 (kd_X8_begin ex1) ml_L_65 mi_X8_begin mv_X8_begin (by decide) (Nat.le_of_ble_eq_true rfl) (by decide) dL_begin_1 [] ⟨0, 4, 7, 13⟩ [] rfl (fun z hz => by cases hz) (by decide) (by decide) kl_L_13 wy0 1 1 (Or.inl ⟨1, rfl, rfl, dL_begin_7⟩) (by decide) [0] [(0, .ref a0)] rfl rfl ?_
      refine r_iconst O (v := 1) dL_begin_8 (by decide) ?_
      obtain rfl := Option.some.inj hf
      exact r_iret O hr rfl rfl (by decide) (by decide) dL_begin_9
    · rw [if_neg hc] at hf
      cases hf
  | ok x1 =>
    dsimp only at hf
    refine r_callV (av := []) (st := []) O (c_X8_begin ex1) mf_X8_begin cf8 (kd_X8_begin ex1) ml_L_65 mi_X8_begin mv_X8_begin (by decide) (Nat.le_of_ble_eq_true rfl) (by decide) dL_begin_1 ?_
    refine r_goto (tgt := 10) O dL_begin_4 (by decide) ?_
    refine r_iconst O (v := 0) dL_begin_10 (by decide) ?_
    obtain rfl := Option.some.inj hf
    exact r_iret O hr rfl rfl (by decide) (by decide) dL_begin_11
def f_L_end (h : AH) (a0 : Nat) (a1 : Nat) : Option (Int32 × AH) :=
Option.bind (f_X8_end h a0) fun w => match w with
| (.error k9, h2) => if k9 = 0 then
some (1, h2)
else
none
| (.ok x1, h2) =>
Option.bind (stJ h2 a1 0 x1.toInt64) fun h3 =>
some (0, h3)
set_option maxRecDepth 100000 in
set_option maxHeartbeats 4000000 in
theorem c_L_end {l : Launch} {G : GT} {h : AH} {a0 : Nat} {a1 : Nat} {r : (Int32 × AH)} (hf : f_L_end h a0 a1 = some r) : CnW l yL_end cL_end 3 (some .int) [(0, 8, 11, 13)] 8 190 12 818 G h [.ref a0, .ref a1] (.ok (some (.int r.1))) r.2 := by
  refine CnW.of (by decide) (Nat.le_of_ble_eq_true rfl) ?_
  intro p e s m args below meth c O hr ht hin
  have O : OkC p l s m args meth c G cL_end 3 RL := O
  unfold f_L_end at hf
  refine AW.sub (lv' := [(0, .ref a0), (1, .ref a1)]) [0, 1] rfl ?_
  refine r_aload_n O 1 dL_end_0 rfl (Or.inl rfl) ?_
  refine r_iconst O (v := 0) dL_end_1 (by decide) ?_
  refine r_aload_n O 0 dL_end_2 rfl (Or.inl rfl) ?_
  obtain ⟨⟨w, h2⟩, ex1, hf⟩ := bnd hf
  cases w with
  | error k9 =>
    dsimp only at hf
    by_cases hc : k9 = 0
    · rw [if_pos hc] at hf
      subst hc
      refine r_callC (kx := 0) (av := []) (st := [.int 0, .ref a1]) O ht (c_X8_end ex1) mf_X8_end cf8 (kd_X8_end ex1) ml_L_68 mi_X8_end mv_X8_end (by decide) (Nat.le_of_ble_eq_true rfl) (by decide) dL_end_3 [] ⟨0, 8, 11, 13⟩ [] rfl (fun z hz => by cases hz) (by decide) (by decide) kl_L_13 wy0 2 1 (Or.inl ⟨2, rfl, rfl, dL_end_11⟩) (by decide) [0, 1] [(0, .ref a0), (1, .ref a1)] rfl rfl ?_
      refine r_iconst O (v := 1) dL_end_12 (by decide) ?_
      obtain rfl := Option.some.inj hf
      exact r_iret O hr rfl rfl (by decide) (by decide) dL_end_13
    · rw [if_neg hc] at hf
      cases hf
  | ok x1 =>
    dsimp only at hf
    refine r_callV (av := []) (st := [.int 0, .ref a1]) O (c_X8_end ex1) mf_X8_end cf8 (kd_X8_end ex1) ml_L_68 mi_X8_end mv_X8_end (by decide) (Nat.le_of_ble_eq_true rfl) (by decide) dL_end_3 ?_
    refine r_i2l O dL_end_6 ?_
    obtain ⟨h3, eh3, hf⟩ := bnd hf
    refine r_stJ O eh3 dL_end_7 ?_
    refine r_goto (tgt := 14) O dL_end_8 (by decide) ?_
    refine r_iconst O (v := 0) dL_end_14 (by decide) ?_
    obtain rfl := Option.some.inj hf
    exact r_iret O hr rfl rfl (by decide) (by decide) dL_end_15
def f_L_drop (h : AH) (a0 : Nat) (a1 : Nat) : Option (Int32 × AH) :=
Option.bind (f_X8_drop h a0) fun w => match w with
| (.error k9, h2) => if k9 = 0 then
some (1, h2)
else
none
| (.ok x1, h2) =>
Option.bind (stJ h2 a1 0 x1.toInt64) fun h3 =>
some (0, h3)
set_option maxRecDepth 100000 in
set_option maxHeartbeats 4000000 in
theorem c_L_drop {l : Launch} {G : GT} {h : AH} {a0 : Nat} {a1 : Nat} {r : (Int32 × AH)} (hf : f_L_drop h a0 a1 = some r) : CnW l yL_drop cL_drop 3 (some .int) [(0, 8, 11, 13)] 8 131 1 6 G h [.ref a0, .ref a1] (.ok (some (.int r.1))) r.2 := by
  refine CnW.of (by decide) (Nat.le_of_ble_eq_true rfl) ?_
  intro p e s m args below meth c O hr ht hin
  have O : OkC p l s m args meth c G cL_drop 3 RL := O
  unfold f_L_drop at hf
  refine AW.sub (lv' := [(0, .ref a0), (1, .ref a1)]) [0, 1] rfl ?_
  refine r_aload_n O 1 dL_drop_0 rfl (Or.inl rfl) ?_
  refine r_iconst O (v := 0) dL_drop_1 (by decide) ?_
  refine r_aload_n O 0 dL_drop_2 rfl (Or.inl rfl) ?_
  obtain ⟨⟨w, h2⟩, ex1, hf⟩ := bnd hf
  cases w with
  | error k9 =>
    dsimp only at hf
    by_cases hc : k9 = 0
    · rw [if_pos hc] at hf
      subst hc
      refine r_callC (kx := 0) (av := []) (st := [.int 0, .ref a1]) O ht (c_X8_drop ex1) mf_X8_drop cf8 (kd_X8_drop ex1) ml_L_71 mi_X8_drop mv_X8_drop (by decide) (Nat.le_of_ble_eq_true rfl) (by decide) dL_drop_3 [] ⟨0, 8, 11, 13⟩ [] rfl (fun z hz => by cases hz) (by decide) (by decide) kl_L_13 wy0 2 1 (Or.inl ⟨2, rfl, rfl, dL_drop_11⟩) (by decide) [0, 1] [(0, .ref a0), (1, .ref a1)] rfl rfl ?_
      refine r_iconst O (v := 1) dL_drop_12 (by decide) ?_
      obtain rfl := Option.some.inj hf
      exact r_iret O hr rfl rfl (by decide) (by decide) dL_drop_13
    · rw [if_neg hc] at hf
      cases hf
  | ok x1 =>
    dsimp only at hf
    refine r_callV (av := []) (st := [.int 0, .ref a1]) O (c_X8_drop ex1) mf_X8_drop cf8 (kd_X8_drop ex1) ml_L_71 mi_X8_drop mv_X8_drop (by decide) (Nat.le_of_ble_eq_true rfl) (by decide) dL_drop_3 ?_
    refine r_i2l O dL_drop_6 ?_
    obtain ⟨h3, eh3, hf⟩ := bnd hf
    refine r_stJ O eh3 dL_drop_7 ?_
    refine r_goto (tgt := 14) O dL_drop_8 (by decide) ?_
    refine r_iconst O (v := 0) dL_drop_14 (by decide) ?_
    obtain rfl := Option.some.inj hf
    exact r_iret O hr rfl rfl (by decide) (by decide) dL_drop_15
def f_L_undo (h : AH) (a0 : Nat) (a1 : Nat) : Option (Int32 × AH) :=
Option.bind (f_X8_undo h a0) fun w => match w with
| (.error k9, h2) => if k9 = 0 then
some (1, h2)
else
none
| (.ok x1, h2) =>
Option.bind (stJ h2 a1 0 x1.toInt64) fun h3 =>
some (0, h3)
set_option maxRecDepth 100000 in
set_option maxHeartbeats 4000000 in
theorem c_L_undo {l : Launch} {G : GT} {h : AH} {a0 : Nat} {a1 : Nat} {r : (Int32 × AH)} (hf : f_L_undo h a0 a1 = some r) : CnW l yL_undo cL_undo 3 (some .int) [(0, 8, 11, 13)] 8 140 2 12 G h [.ref a0, .ref a1] (.ok (some (.int r.1))) r.2 := by
  refine CnW.of (by decide) (Nat.le_of_ble_eq_true rfl) ?_
  intro p e s m args below meth c O hr ht hin
  have O : OkC p l s m args meth c G cL_undo 3 RL := O
  unfold f_L_undo at hf
  refine AW.sub (lv' := [(0, .ref a0), (1, .ref a1)]) [0, 1] rfl ?_
  refine r_aload_n O 1 dL_undo_0 rfl (Or.inl rfl) ?_
  refine r_iconst O (v := 0) dL_undo_1 (by decide) ?_
  refine r_aload_n O 0 dL_undo_2 rfl (Or.inl rfl) ?_
  obtain ⟨⟨w, h2⟩, ex1, hf⟩ := bnd hf
  cases w with
  | error k9 =>
    dsimp only at hf
    by_cases hc : k9 = 0
    · rw [if_pos hc] at hf
      subst hc
      refine r_callC (kx := 0) (av := []) (st := [.int 0, .ref a1]) O ht (c_X8_undo ex1) mf_X8_undo cf8 (kd_X8_undo ex1) ml_L_74 mi_X8_undo mv_X8_undo (by decide) (Nat.le_of_ble_eq_true rfl) (by decide) dL_undo_3 [] ⟨0, 8, 11, 13⟩ [] rfl (fun z hz => by cases hz) (by decide) (by decide) kl_L_13 wy0 2 1 (Or.inl ⟨2, rfl, rfl, dL_undo_11⟩) (by decide) [0, 1] [(0, .ref a0), (1, .ref a1)] rfl rfl ?_
      refine r_iconst O (v := 1) dL_undo_12 (by decide) ?_
      obtain rfl := Option.some.inj hf
      exact r_iret O hr rfl rfl (by decide) (by decide) dL_undo_13
    · rw [if_neg hc] at hf
      cases hf
  | ok x1 =>
    dsimp only at hf
    refine r_callV (av := []) (st := [.int 0, .ref a1]) O (c_X8_undo ex1) mf_X8_undo cf8 (kd_X8_undo ex1) ml_L_74 mi_X8_undo mv_X8_undo (by decide) (Nat.le_of_ble_eq_true rfl) (by decide) dL_undo_3 ?_
    refine r_i2l O dL_undo_6 ?_
    obtain ⟨h3, eh3, hf⟩ := bnd hf
    refine r_stJ O eh3 dL_undo_7 ?_
    refine r_goto (tgt := 14) O dL_undo_8 (by decide) ?_
    refine r_iconst O (v := 0) dL_undo_14 (by decide) ?_
    obtain rfl := Option.some.inj hf
    exact r_iret O hr rfl rfl (by decide) (by decide) dL_undo_15
def f_L_shadow (h : AH) (a0 : Nat) (a1 : Int32) (a2 : Int32) (a3 : Nat) : Option (Int32 × AH) :=
Option.bind (f_X8_shadow h a0 a1 a2) fun w => match w with
| (.error k9, h2) => if k9 = 2 then
some (1, h2)
else
if k9 = 1 then
some (2, h2)
else
none
| (.ok x1, h2) =>
Option.bind (stJ h2 a3 0 x1) fun h3 =>
some (0, h3)
set_option maxRecDepth 100000 in
set_option maxHeartbeats 4000000 in
theorem c_L_shadow {l : Launch} {G : GT} {h : AH} {a0 : Nat} {a1 : Int32} {a2 : Int32} {a3 : Nat} {r : (Int32 × AH)} (hf : f_L_shadow h a0 a1 a2 a3 = some r) : CnW l yL_shadow cL_shadow 5 (some .int) [(0, 9, 12, 36), (0, 9, 16, 26)] 8 133 2 12 G h [.ref a0, .int a1, .int a2, .ref a3] (.ok (some (.int r.1))) r.2 := by
  refine CnW.of (by decide) (Nat.le_of_ble_eq_true rfl) ?_
  intro p e s m args below meth c O hr ht hin
  have O : OkC p l s m args meth c G cL_shadow 5 RL := O
  unfold f_L_shadow at hf
  refine AW.sub (lv' := [(0, .ref a0), (1, .int a1), (2, .int a2), (3, .ref a3)]) [0, 1, 2, 3] rfl ?_
  refine r_aload_n O 3 dL_shadow_0 rfl (Or.inl rfl) ?_
  refine r_iconst O (v := 0) dL_shadow_1 (by decide) ?_
  refine r_aload_n O 0 dL_shadow_2 rfl (Or.inl rfl) ?_
  refine r_iload_n O 1 dL_shadow_3 rfl ?_
  refine r_iload_n O 2 dL_shadow_4 rfl ?_
  obtain ⟨⟨w, h2⟩, ex1, hf⟩ := bnd hf
  cases w with
  | error k9 =>
    dsimp only at hf
    by_cases hc : k9 = 2
    · rw [if_pos hc] at hf
      subst hc
      refine r_callC (kx := 2) (av := [.int a1, .int a2]) (st := [.int 0, .ref a3]) O ht (c_X8_shadow ex1) mf_X8_shadow cf8 (kd_X8_shadow ex1) ml_L_77 mi_X8_shadow mv_X8_shadow (by decide) (Nat.le_of_ble_eq_true rfl) (by decide) dL_shadow_5 [] ⟨0, 9, 12, 36⟩ [⟨0, 9, 16, 26⟩] rfl (fun z hz => by cases hz) (by decide) (by decide) kl_L_36 wy2 4 2 (Or.inr ⟨rfl, dL_shadow_12⟩) (by decide) [0, 1, 2, 3] [(0, .ref a0), (1, .int a1), (2, .int a2), (3, .ref a3)] rfl rfl ?_
      refine r_iconst O (v := 1) dL_shadow_14 (by decide) ?_
      obtain rfl := Option.some.inj hf
      exact r_iret O hr rfl rfl (by decide) (by decide) dL_shadow_15
    · rw [if_neg hc] at hf
      by_cases hc : k9 = 1
      · rw [if_pos hc] at hf
        subst hc
        refine r_callC (kx := 1) (av := [.int a1, .int a2]) (st := [.int 0, .ref a3]) O ht (c_X8_shadow ex1) mf_X8_shadow cf8 (kd_X8_shadow ex1) ml_L_77 mi_X8_shadow mv_X8_shadow (by decide) (Nat.le_of_ble_eq_true rfl) (by decide) dL_shadow_5 [⟨0, 9, 12, 36⟩] ⟨0, 9, 16, 26⟩ [] rfl (fun z hz => by
      rcases List.mem_cons.mp hz with rfl | hz
      · exact Or.inr ⟨by decide, "java/lang/IndexOutOfBoundsException", kl_L_36, nc12 O⟩
      cases hz) (by decide) (by decide) kl_L_26 wy1 4 2 (Or.inr ⟨rfl, dL_shadow_16⟩) (by decide) [0, 1, 2, 3] [(0, .ref a0), (1, .int a1), (2, .int a2), (3, .ref a3)] rfl rfl ?_
        refine r_iconst O (v := 2) dL_shadow_18 (by decide) ?_
        obtain rfl := Option.some.inj hf
        exact r_iret O hr rfl rfl (by decide) (by decide) dL_shadow_19
      · rw [if_neg hc] at hf
        cases hf
  | ok x1 =>
    dsimp only at hf
    refine r_callV (av := [.int a1, .int a2]) (st := [.int 0, .ref a3]) O (c_X8_shadow ex1) mf_X8_shadow cf8 (kd_X8_shadow ex1) ml_L_77 mi_X8_shadow mv_X8_shadow (by decide) (Nat.le_of_ble_eq_true rfl) (by decide) dL_shadow_5 ?_
    obtain ⟨h3, eh3, hf⟩ := bnd hf
    refine r_stJ O eh3 dL_shadow_8 ?_
    refine r_goto (tgt := 20) O dL_shadow_9 (by decide) ?_
    refine r_iconst O (v := 0) dL_shadow_20 (by decide) ?_
    obtain rfl := Option.some.inj hf
    exact r_iret O hr rfl rfl (by decide) (by decide) dL_shadow_21
def f_L_listShadow (h : AH) (a0 : Nat) (a1 : Int32) (a2 : Int32) (a3 : Nat) : Option (Int32 × AH) :=
Option.bind (f_X8_listShadow h a0 a1 a2) fun w => match w with
| (.error k9, h2) => if k9 = 2 then
some (1, h2)
else
if k9 = 1 then
some (2, h2)
else
none
| (.ok x1, h2) =>
Option.bind (stJ h2 a3 0 x1) fun h3 =>
some (0, h3)
set_option maxRecDepth 100000 in
set_option maxHeartbeats 4000000 in
theorem c_L_listShadow {l : Launch} {G : GT} {h : AH} {a0 : Nat} {a1 : Int32} {a2 : Int32} {a3 : Nat} {r : (Int32 × AH)} (hf : f_L_listShadow h a0 a1 a2 a3 = some r) : CnW l yL_listShadow cL_listShadow 5 (some .int) [(0, 9, 12, 36), (0, 9, 16, 26)] 8 133 2 12 G h [.ref a0, .int a1, .int a2, .ref a3] (.ok (some (.int r.1))) r.2 := by
  refine CnW.of (by decide) (Nat.le_of_ble_eq_true rfl) ?_
  intro p e s m args below meth c O hr ht hin
  have O : OkC p l s m args meth c G cL_listShadow 5 RL := O
  unfold f_L_listShadow at hf
  refine AW.sub (lv' := [(0, .ref a0), (1, .int a1), (2, .int a2), (3, .ref a3)]) [0, 1, 2, 3] rfl ?_
  refine r_aload_n O 3 dL_listShadow_0 rfl (Or.inl rfl) ?_
  refine r_iconst O (v := 0) dL_listShadow_1 (by decide) ?_
  refine r_aload_n O 0 dL_listShadow_2 rfl (Or.inl rfl) ?_
  refine r_iload_n O 1 dL_listShadow_3 rfl ?_
  refine r_iload_n O 2 dL_listShadow_4 rfl ?_
  obtain ⟨⟨w, h2⟩, ex1, hf⟩ := bnd hf
  cases w with
  | error k9 =>
    dsimp only at hf
    by_cases hc : k9 = 2
    · rw [if_pos hc] at hf
      subst hc
      refine r_callC (kx := 2) (av := [.int a1, .int a2]) (st := [.int 0, .ref a3]) O ht (c_X8_listShadow ex1) mf_X8_listShadow cf8 (kd_X8_listShadow ex1) ml_L_81 mi_X8_listShadow mv_X8_listShadow (by decide) (Nat.le_of_ble_eq_true rfl) (by decide) dL_listShadow_5 [] ⟨0, 9, 12, 36⟩ [⟨0, 9, 16, 26⟩] rfl (fun z hz => by cases hz) (by decide) (by decide) kl_L_36 wy2 4 2 (Or.inr ⟨rfl, dL_listShadow_12⟩) (by decide) [0, 1, 2, 3] [(0, .ref a0), (1, .int a1), (2, .int a2), (3, .ref a3)] rfl rfl ?_
      refine r_iconst O (v := 1) dL_listShadow_14 (by decide) ?_
      obtain rfl := Option.some.inj hf
      exact r_iret O hr rfl rfl (by decide) (by decide) dL_listShadow_15
    · rw [if_neg hc] at hf
      by_cases hc : k9 = 1
      · rw [if_pos hc] at hf
        subst hc
        refine r_callC (kx := 1) (av := [.int a1, .int a2]) (st := [.int 0, .ref a3]) O ht (c_X8_listShadow ex1) mf_X8_listShadow cf8 (kd_X8_listShadow ex1) ml_L_81 mi_X8_listShadow mv_X8_listShadow (by decide) (Nat.le_of_ble_eq_true rfl) (by decide) dL_listShadow_5 [⟨0, 9, 12, 36⟩] ⟨0, 9, 16, 26⟩ [] rfl (fun z hz => by
      rcases List.mem_cons.mp hz with rfl | hz
      · exact Or.inr ⟨by decide, "java/lang/IndexOutOfBoundsException", kl_L_36, nc12 O⟩
      cases hz) (by decide) (by decide) kl_L_26 wy1 4 2 (Or.inr ⟨rfl, dL_listShadow_16⟩) (by decide) [0, 1, 2, 3] [(0, .ref a0), (1, .int a1), (2, .int a2), (3, .ref a3)] rfl rfl ?_
        refine r_iconst O (v := 2) dL_listShadow_18 (by decide) ?_
        obtain rfl := Option.some.inj hf
        exact r_iret O hr rfl rfl (by decide) (by decide) dL_listShadow_19
      · rw [if_neg hc] at hf
        cases hf
  | ok x1 =>
    dsimp only at hf
    refine r_callV (av := [.int a1, .int a2]) (st := [.int 0, .ref a3]) O (c_X8_listShadow ex1) mf_X8_listShadow cf8 (kd_X8_listShadow ex1) ml_L_81 mi_X8_listShadow mv_X8_listShadow (by decide) (Nat.le_of_ble_eq_true rfl) (by decide) dL_listShadow_5 ?_
    obtain ⟨h3, eh3, hf⟩ := bnd hf
    refine r_stJ O eh3 dL_listShadow_8 ?_
    refine r_goto (tgt := 20) O dL_listShadow_9 (by decide) ?_
    refine r_iconst O (v := 0) dL_listShadow_20 (by decide) ?_
    obtain rfl := Option.some.inj hf
    exact r_iret O hr rfl rfl (by decide) (by decide) dL_listShadow_21
def f_L_where (h : AH) (a0 : Nat) (a1 : Int32) (a2 : Int32) (a3 : Nat) : Option (Int32 × AH) :=
Option.bind (f_X8_where h a0 a1 a2) fun w => match w with
| (.error k9, h2) => if k9 = 2 then
some (1, h2)
else
if k9 = 1 then
some (2, h2)
else
none
| (.ok x1, h2) =>
Option.bind (stJ h2 a3 0 x1.toInt64) fun h3 =>
some (0, h3)
set_option maxRecDepth 100000 in
set_option maxHeartbeats 4000000 in
theorem c_L_where {l : Launch} {G : GT} {h : AH} {a0 : Nat} {a1 : Int32} {a2 : Int32} {a3 : Nat} {r : (Int32 × AH)} (hf : f_L_where h a0 a1 a2 a3 = some r) : CnW l yL_where cL_where 5 (some .int) [(0, 10, 13, 36), (0, 10, 17, 26)] 8 133 2 12 G h [.ref a0, .int a1, .int a2, .ref a3] (.ok (some (.int r.1))) r.2 := by
  refine CnW.of (by decide) (Nat.le_of_ble_eq_true rfl) ?_
  intro p e s m args below meth c O hr ht hin
  have O : OkC p l s m args meth c G cL_where 5 RL := O
  unfold f_L_where at hf
  refine AW.sub (lv' := [(0, .ref a0), (1, .int a1), (2, .int a2), (3, .ref a3)]) [0, 1, 2, 3] rfl ?_
  refine r_aload_n O 3 dL_where_0 rfl (Or.inl rfl) ?_
  refine r_iconst O (v := 0) dL_where_1 (by decide) ?_
  refine r_aload_n O 0 dL_where_2 rfl (Or.inl rfl) ?_
  refine r_iload_n O 1 dL_where_3 rfl ?_
  refine r_iload_n O 2 dL_where_4 rfl ?_
  obtain ⟨⟨w, h2⟩, ex1, hf⟩ := bnd hf
  cases w with
  | error k9 =>
    dsimp only at hf
    by_cases hc : k9 = 2
    · rw [if_pos hc] at hf
      subst hc
      refine r_callC (kx := 2) (av := [.int a1, .int a2]) (st := [.int 0, .ref a3]) O ht (c_X8_where ex1) mf_X8_where cf8 (kd_X8_where ex1) ml_L_84 mi_X8_where mv_X8_where (by decide) (Nat.le_of_ble_eq_true rfl) (by decide) dL_where_5 [] ⟨0, 10, 13, 36⟩ [⟨0, 10, 17, 26⟩] rfl (fun z hz => by cases hz) (by decide) (by decide) kl_L_36 wy2 4 2 (Or.inr ⟨rfl, dL_where_13⟩) (by decide) [0, 1, 2, 3] [(0, .ref a0), (1, .int a1), (2, .int a2), (3, .ref a3)] rfl rfl ?_
      refine r_iconst O (v := 1) dL_where_15 (by decide) ?_
      obtain rfl := Option.some.inj hf
      exact r_iret O hr rfl rfl (by decide) (by decide) dL_where_16
    · rw [if_neg hc] at hf
      by_cases hc : k9 = 1
      · rw [if_pos hc] at hf
        subst hc
        refine r_callC (kx := 1) (av := [.int a1, .int a2]) (st := [.int 0, .ref a3]) O ht (c_X8_where ex1) mf_X8_where cf8 (kd_X8_where ex1) ml_L_84 mi_X8_where mv_X8_where (by decide) (Nat.le_of_ble_eq_true rfl) (by decide) dL_where_5 [⟨0, 10, 13, 36⟩] ⟨0, 10, 17, 26⟩ [] rfl (fun z hz => by
      rcases List.mem_cons.mp hz with rfl | hz
      · exact Or.inr ⟨by decide, "java/lang/IndexOutOfBoundsException", kl_L_36, nc12 O⟩
      cases hz) (by decide) (by decide) kl_L_26 wy1 4 2 (Or.inr ⟨rfl, dL_where_17⟩) (by decide) [0, 1, 2, 3] [(0, .ref a0), (1, .int a1), (2, .int a2), (3, .ref a3)] rfl rfl ?_
        refine r_iconst O (v := 2) dL_where_19 (by decide) ?_
        obtain rfl := Option.some.inj hf
        exact r_iret O hr rfl rfl (by decide) (by decide) dL_where_20
      · rw [if_neg hc] at hf
        cases hf
  | ok x1 =>
    dsimp only at hf
    refine r_callV (av := [.int a1, .int a2]) (st := [.int 0, .ref a3]) O (c_X8_where ex1) mf_X8_where cf8 (kd_X8_where ex1) ml_L_84 mi_X8_where mv_X8_where (by decide) (Nat.le_of_ble_eq_true rfl) (by decide) dL_where_5 ?_
    refine r_i2l O dL_where_8 ?_
    obtain ⟨h3, eh3, hf⟩ := bnd hf
    refine r_stJ O eh3 dL_where_9 ?_
    refine r_goto (tgt := 21) O dL_where_10 (by decide) ?_
    refine r_iconst O (v := 0) dL_where_21 (by decide) ?_
    obtain rfl := Option.some.inj hf
    exact r_iret O hr rfl rfl (by decide) (by decide) dL_where_22
def f_L_at (h : AH) (a0 : Nat) (a1 : Int32) (a2 : Int32) (a3 : Nat) : Option (Int32 × AH) :=
Option.bind (f_X8_at h a0 a1 a2) fun w => match w with
| (.error k9, h2) => if k9 = 2 then
some (1, h2)
else
none
| (.ok x1, h2) =>
Option.bind (stJ h2 a3 0 x1.toInt64) fun h3 =>
some (0, h3)
set_option maxRecDepth 100000 in
set_option maxHeartbeats 4000000 in
theorem c_L_at {l : Launch} {G : GT} {h : AH} {a0 : Nat} {a1 : Int32} {a2 : Int32} {a3 : Nat} {r : (Int32 × AH)} (hf : f_L_at h a0 a1 a2 a3 = some r) : CnW l yL_at cL_at 5 (some .int) [(0, 10, 13, 36)] 8 133 1 6 G h [.ref a0, .int a1, .int a2, .ref a3] (.ok (some (.int r.1))) r.2 := by
  refine CnW.of (by decide) (Nat.le_of_ble_eq_true rfl) ?_
  intro p e s m args below meth c O hr ht hin
  have O : OkC p l s m args meth c G cL_at 5 RL := O
  unfold f_L_at at hf
  refine AW.sub (lv' := [(0, .ref a0), (1, .int a1), (2, .int a2), (3, .ref a3)]) [0, 1, 2, 3] rfl ?_
  refine r_aload_n O 3 dL_at_0 rfl (Or.inl rfl) ?_
  refine r_iconst O (v := 0) dL_at_1 (by decide) ?_
  refine r_aload_n O 0 dL_at_2 rfl (Or.inl rfl) ?_
  refine r_iload_n O 1 dL_at_3 rfl ?_
  refine r_iload_n O 2 dL_at_4 rfl ?_
  obtain ⟨⟨w, h2⟩, ex1, hf⟩ := bnd hf
  cases w with
  | error k9 =>
    dsimp only at hf
    by_cases hc : k9 = 2
    · rw [if_pos hc] at hf
      subst hc
      refine r_callC (kx := 2) (av := [.int a1, .int a2]) (st := [.int 0, .ref a3]) O ht (c_X8_at ex1) mf_X8_at cf8 (kd_X8_at ex1) ml_L_87 mi_X8_at mv_X8_at (by decide) (Nat.le_of_ble_eq_true rfl) (by decide) dL_at_5 [] ⟨0, 10, 13, 36⟩ [] rfl (fun z hz => by cases hz) (by decide) (by decide) kl_L_36 wy2 4 2 (Or.inr ⟨rfl, dL_at_13⟩) (by decide) [0, 1, 2, 3] [(0, .ref a0), (1, .int a1), (2, .int a2), (3, .ref a3)] rfl rfl ?_
      refine r_iconst O (v := 1) dL_at_15 (by decide) ?_
      obtain rfl := Option.some.inj hf
      exact r_iret O hr rfl rfl (by decide) (by decide) dL_at_16
    · rw [if_neg hc] at hf
      cases hf
  | ok x1 =>
    dsimp only at hf
    refine r_callV (av := [.int a1, .int a2]) (st := [.int 0, .ref a3]) O (c_X8_at ex1) mf_X8_at cf8 (kd_X8_at ex1) ml_L_87 mi_X8_at mv_X8_at (by decide) (Nat.le_of_ble_eq_true rfl) (by decide) dL_at_5 ?_
    refine r_i2l O dL_at_8 ?_
    obtain ⟨h3, eh3, hf⟩ := bnd hf
    refine r_stJ O eh3 dL_at_9 ?_
    refine r_goto (tgt := 17) O dL_at_10 (by decide) ?_
    refine r_iconst O (v := 0) dL_at_17 (by decide) ?_
    obtain rfl := Option.some.inj hf
    exact r_iret O hr rfl rfl (by decide) (by decide) dL_at_18
def f_L_cause (h : AH) (a0 : Nat) (a1 : Int32) (a2 : Nat) : Option (Int32 × AH) :=
Option.bind (f_X8_cause h a0 a1) fun w => match w with
| (.error k9, h2) => if k9 = 1 then
some (1, h2)
else
none
| (.ok x1, h2) =>
Option.bind (stJ h2 a2 0 x1.toInt64) fun h3 =>
some (0, h3)
set_option maxRecDepth 100000 in
set_option maxHeartbeats 4000000 in
theorem c_L_cause {l : Launch} {G : GT} {h : AH} {a0 : Nat} {a1 : Int32} {a2 : Nat} {r : (Int32 × AH)} (hf : f_L_cause h a0 a1 a2 = some r) : CnW l yL_cause cL_cause 4 (some .int) [(0, 9, 12, 26)] 8 131 1 6 G h [.ref a0, .int a1, .ref a2] (.ok (some (.int r.1))) r.2 := by
  refine CnW.of (by decide) (Nat.le_of_ble_eq_true rfl) ?_
  intro p e s m args below meth c O hr ht hin
  have O : OkC p l s m args meth c G cL_cause 4 RL := O
  unfold f_L_cause at hf
  refine AW.sub (lv' := [(0, .ref a0), (1, .int a1), (2, .ref a2)]) [0, 1, 2] rfl ?_
  refine r_aload_n O 2 dL_cause_0 rfl (Or.inl rfl) ?_
  refine r_iconst O (v := 0) dL_cause_1 (by decide) ?_
  refine r_aload_n O 0 dL_cause_2 rfl (Or.inl rfl) ?_
  refine r_iload_n O 1 dL_cause_3 rfl ?_
  obtain ⟨⟨w, h2⟩, ex1, hf⟩ := bnd hf
  cases w with
  | error k9 =>
    dsimp only at hf
    by_cases hc : k9 = 1
    · rw [if_pos hc] at hf
      subst hc
      refine r_callC (kx := 1) (av := [.int a1]) (st := [.int 0, .ref a2]) O ht (c_X8_cause ex1) mf_X8_cause cf8 (kd_X8_cause ex1) ml_L_90 mi_X8_cause mv_X8_cause (by decide) (Nat.le_of_ble_eq_true rfl) (by decide) dL_cause_4 [] ⟨0, 9, 12, 26⟩ [] rfl (fun z hz => by cases hz) (by decide) (by decide) kl_L_26 wy1 3 1 (Or.inl ⟨3, rfl, rfl, dL_cause_12⟩) (by decide) [0, 1, 2] [(0, .ref a0), (1, .int a1), (2, .ref a2)] rfl rfl ?_
      refine r_iconst O (v := 1) dL_cause_13 (by decide) ?_
      obtain rfl := Option.some.inj hf
      exact r_iret O hr rfl rfl (by decide) (by decide) dL_cause_14
    · rw [if_neg hc] at hf
      cases hf
  | ok x1 =>
    dsimp only at hf
    refine r_callV (av := [.int a1]) (st := [.int 0, .ref a2]) O (c_X8_cause ex1) mf_X8_cause cf8 (kd_X8_cause ex1) ml_L_90 mi_X8_cause mv_X8_cause (by decide) (Nat.le_of_ble_eq_true rfl) (by decide) dL_cause_4 ?_
    refine r_i2l O dL_cause_7 ?_
    obtain ⟨h3, eh3, hf⟩ := bnd hf
    refine r_stJ O eh3 dL_cause_8 ?_
    refine r_goto (tgt := 15) O dL_cause_9 (by decide) ?_
    refine r_iconst O (v := 0) dL_cause_15 (by decide) ?_
    obtain rfl := Option.some.inj hf
    exact r_iret O hr rfl rfl (by decide) (by decide) dL_cause_16
def f_L_count (h : AH) (a0 : Nat) (a1 : Int32) (a2 : Nat) : Option (Int32 × AH) :=
Option.bind (f_X8_count h a0 a1) fun w => match w with
| (.error k9, h2) => if k9 = 1 then
some (1, h2)
else
none
| (.ok x1, h2) =>
Option.bind (stJ h2 a2 0 x1.toInt64) fun h3 =>
some (0, h3)
set_option maxRecDepth 100000 in
set_option maxHeartbeats 4000000 in
theorem c_L_count {l : Launch} {G : GT} {h : AH} {a0 : Nat} {a1 : Int32} {a2 : Nat} {r : (Int32 × AH)} (hf : f_L_count h a0 a1 a2 = some r) : CnW l yL_count cL_count 4 (some .int) [(0, 9, 12, 26)] 8 131 1 6 G h [.ref a0, .int a1, .ref a2] (.ok (some (.int r.1))) r.2 := by
  refine CnW.of (by decide) (Nat.le_of_ble_eq_true rfl) ?_
  intro p e s m args below meth c O hr ht hin
  have O : OkC p l s m args meth c G cL_count 4 RL := O
  unfold f_L_count at hf
  refine AW.sub (lv' := [(0, .ref a0), (1, .int a1), (2, .ref a2)]) [0, 1, 2] rfl ?_
  refine r_aload_n O 2 dL_count_0 rfl (Or.inl rfl) ?_
  refine r_iconst O (v := 0) dL_count_1 (by decide) ?_
  refine r_aload_n O 0 dL_count_2 rfl (Or.inl rfl) ?_
  refine r_iload_n O 1 dL_count_3 rfl ?_
  obtain ⟨⟨w, h2⟩, ex1, hf⟩ := bnd hf
  cases w with
  | error k9 =>
    dsimp only at hf
    by_cases hc : k9 = 1
    · rw [if_pos hc] at hf
      subst hc
      refine r_callC (kx := 1) (av := [.int a1]) (st := [.int 0, .ref a2]) O ht (c_X8_count ex1) mf_X8_count cf8 (kd_X8_count ex1) ml_L_93 mi_X8_count mv_X8_count (by decide) (Nat.le_of_ble_eq_true rfl) (by decide) dL_count_4 [] ⟨0, 9, 12, 26⟩ [] rfl (fun z hz => by cases hz) (by decide) (by decide) kl_L_26 wy1 3 1 (Or.inl ⟨3, rfl, rfl, dL_count_12⟩) (by decide) [0, 1, 2] [(0, .ref a0), (1, .int a1), (2, .ref a2)] rfl rfl ?_
      refine r_iconst O (v := 1) dL_count_13 (by decide) ?_
      obtain rfl := Option.some.inj hf
      exact r_iret O hr rfl rfl (by decide) (by decide) dL_count_14
    · rw [if_neg hc] at hf
      cases hf
  | ok x1 =>
    dsimp only at hf
    refine r_callV (av := [.int a1]) (st := [.int 0, .ref a2]) O (c_X8_count ex1) mf_X8_count cf8 (kd_X8_count ex1) ml_L_93 mi_X8_count mv_X8_count (by decide) (Nat.le_of_ble_eq_true rfl) (by decide) dL_count_4 ?_
    refine r_i2l O dL_count_7 ?_
    obtain ⟨h3, eh3, hf⟩ := bnd hf
    refine r_stJ O eh3 dL_count_8 ?_
    refine r_goto (tgt := 15) O dL_count_9 (by decide) ?_
    refine r_iconst O (v := 0) dL_count_15 (by decide) ?_
    obtain rfl := Option.some.inj hf
    exact r_iret O hr rfl rfl (by decide) (by decide) dL_count_16
