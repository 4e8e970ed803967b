def cT (cB cI cJ cZ cD cO : ClassId) : List (ClassId × FieldType) := [(cB, .byte), (cI, .int), (cJ, .long), (cZ, .boolean), (cD, .double), (cO, .object "FlushPlanner$State")]
def perm (i : Nat) : Nat := if i < 3 then i else if i < 15 then i + 28 else if i < 43 then i - 12 else if i < 71 then i else i + 10
/-- what the planner holds when it is made -/
def stC0 : uSt := (fun i j =>
  if i = 0 then (if j = 2 then -1 else 0) else if i = 1 then (if j = 3 then -1 else 0)
  else if i = 16 then (if j = 0 ∨ j = 1 ∨ j = 4 then 100 else if j = 2 then 10 else if j = 3 then 1 else 0)
  else if i = 9 ∨ i = 30 ∨ i = 44 ∨ i = 58 then (if j = 0 ∨ j = 3 ∨ j = 4 then 1 else 0)
  else if i = 17 ∨ i = 31 ∨ i = 45 ∨ i = 59 then (if j = 1 then 24 else 0)
  else if i = 15 ∨ i = 29 ∨ i = 43 ∨ i = 57 then (if j = 6 then 1 else 0) else 0, fun _ _ => 0, fun _ _ => 0)
def pX0 (base i n : Nat) (cB cI cJ cZ cD cO : ClassId) (cf cf' : Nat → va_E) : Prop := cf' i = .inr (0, [.int 1, .int 0, .int 0, .int 1, .int 1, .int 0]) ∧ ∀ x, x ≠ i → x < n → cf' x = cf x
theorem kc_X0 {l : Launch} {D : va_G} {base i n : Nat} {cB cI cJ cZ cD cO : ClassId} {cf0 : Nat → va_E} (hi : i < n) (h0 : cf0 i = .inr (0, [.int 0, .int 0, .int 0, .int 0, .int 0, .int 0])) : cMet l D (cT cB cI cJ cZ cD cO) base yX0_init cX0_init 1 1 20 0 0 i n cf0 n (pX0 base i n cB cI cJ cZ cD cO cf0) := by
  refine cw_met rfl rfl (by decide) hi fun M hl hr C hin => ?_
  refine cw_aload_n C dX0_init_0 0 rfl ?_
  refine cw_objInit C oi_X0_1 dX0_init_1 (Nat.le_of_ble_eq_true rfl) ⟨(Nat.le_of_ble_eq_true rfl), (Nat.le_of_ble_eq_true rfl)⟩ ?_
  refine cw_aload_n C dX0_init_4 0 rfl ?_
  refine cw_iconst C dX0_init_5 (v := (1 : Int32)) (by decide) ?_
  refine cw_put C fp_X0_7 dX0_init_6 (by omega) h0 rfl rfl (Nat.le_of_ble_eq_true rfl) fun cf1 e1 o1 => ?_
  have e1 : cf1 i = .inr (0, [.int 1, .int 0, .int 0, .int 0, .int 0, .int 0]) := e1
  have o1 : ∀ x, x ≠ i → cf1 x = cf0 x := o1
  refine cw_aload_n C dX0_init_9 0 rfl ?_
  refine cw_iconst C dX0_init_10 (v := (0 : Int32)) (by decide) ?_
  refine cw_put C fp_X0_13 dX0_init_11 (by omega) e1 rfl rfl (Nat.le_of_ble_eq_true rfl) fun cf2 e2 o2 => ?_
  have e2 : cf2 i = .inr (0, [.int 1, .int 0, .int 0, .int 0, .int 0, .int 0]) := e2
  have o2 : ∀ x, x ≠ i → cf2 x = cf1 x := o2
  refine cw_aload_n C dX0_init_14 0 rfl ?_
  refine cw_iconst C dX0_init_15 (v := (0 : Int32)) (by decide) ?_
  refine cw_put C fp_X0_16 dX0_init_16 (by omega) e2 rfl rfl (Nat.le_of_ble_eq_true rfl) fun cf3 e3 o3 => ?_
  have e3 : cf3 i = .inr (0, [.int 1, .int 0, .int 0, .int 0, .int 0, .int 0]) := e3
  have o3 : ∀ x, x ≠ i → cf3 x = cf2 x := o3
  refine cw_aload_n C dX0_init_19 0 rfl ?_
  refine cw_iconst C dX0_init_20 (v := (1 : Int32)) (by decide) ?_
  refine cw_put C fp_X0_19 dX0_init_21 (by omega) e3 rfl rfl (Nat.le_of_ble_eq_true rfl) fun cf4 e4 o4 => ?_
  have e4 : cf4 i = .inr (0, [.int 1, .int 0, .int 0, .int 1, .int 0, .int 0]) := e4
  have o4 : ∀ x, x ≠ i → cf4 x = cf3 x := o4
  refine cw_aload_n C dX0_init_24 0 rfl ?_
  refine cw_iconst C dX0_init_25 (v := (1 : Int32)) (by decide) ?_
  refine cw_put C fp_X0_22 dX0_init_26 (by omega) e4 rfl rfl (Nat.le_of_ble_eq_true rfl) fun cf5 e5 o5 => ?_
  have e5 : cf5 i = .inr (0, [.int 1, .int 0, .int 0, .int 1, .int 1, .int 0]) := e5
  have o5 : ∀ x, x ≠ i → cf5 x = cf4 x := o5
  refine cw_aload_n C dX0_init_29 0 rfl ?_
  refine cw_iconst C dX0_init_30 (v := (0 : Int32)) (by decide) ?_
  refine cw_put C fp_X0_25 dX0_init_31 (by omega) e5 rfl rfl (Nat.le_of_ble_eq_true rfl) fun cf6 e6 o6 => ?_
  have e6 : cf6 i = .inr (0, [.int 1, .int 0, .int 0, .int 1, .int 1, .int 0]) := e6
  have o6 : ∀ x, x ≠ i → cf6 x = cf5 x := o6
  exact cw_vret C hr dX0_init_34 ⟨e6, fun x hx hn => ((o6 x (by omega)).trans ((o5 x (by omega)).trans ((o4 x (by omega)).trans ((o3 x (by omega)).trans ((o2 x (by omega)).trans ((o1 x (by omega)).trans rfl))))))⟩ rfl (Nat.le_of_ble_eq_true rfl) (Nat.le_of_ble_eq_true rfl)
def pX1 (base i n : Nat) (cB cI cJ cZ cD cO : ClassId) (cf cf' : Nat → va_E) : Prop := cf' i = .inr (1, [.int 0, .ref (base + n), .ref (base + (n + 1)), .ref (base + (n + 2)), .ref (base + (n + 3))]) ∧ cf' n = .inl (cI, 24, .inl (fun _ => 0)) ∧ cf' (n + 1) = .inl (cI, 24, .inl (fun _ => 0)) ∧ cf' (n + 2) = .inl (cI, 24, .inl (fun _ => 0)) ∧ cf' (n + 3) = .inl (cI, 24, .inl (fun _ => 0)) ∧ ∀ x, x ≠ i → x < n → cf' x = cf x
theorem kc_X1 {l : Launch} {D : va_G} {base i n : Nat} {cB cI cJ cZ cD cO : ClassId} {cf0 : Nat → va_E} (hi : i < n) (h0 : cf0 i = .inr (1, [.int 0, .null, .null, .null, .null])) : cMet l D (cT cB cI cJ cZ cD cO) base yX1_init cX1_init 1 1 20 4 96 i n cf0 (n + 4) (pX1 base i n cB cI cJ cZ cD cO cf0) := by
  refine cw_met rfl rfl (by decide) hi fun M hl hr C hin => ?_
  refine cw_aload_n C dX1_init_0 0 rfl ?_
  refine cw_objInit C oi_X1_3 dX1_init_1 (Nat.le_of_ble_eq_true rfl) ⟨(Nat.le_of_ble_eq_true rfl), (Nat.le_of_ble_eq_true rfl)⟩ ?_
  refine cw_aload_n C dX1_init_4 0 rfl ?_
  refine cw_iconst C dX1_init_5 (v := (0 : Int32)) (by decide) ?_
  refine cw_put C fp_X1_9 dX1_init_6 (by omega) h0 rfl rfl (Nat.le_of_ble_eq_true rfl) fun cf1 e1 o1 => ?_
  have e1 : cf1 i = .inr (1, [.int 0, .null, .null, .null, .null]) := e1
  have o1 : ∀ x, x ≠ i → cf1 x = cf0 x := o1
  refine cw_aload_n C dX1_init_9 0 rfl ?_
  refine cw_bipush C dX1_init_10 (v := (24 : Int32)) (by decide) ?_
  refine cw_newa C (atype := .int) ac_int (t0 := 1) rfl id dX1_init_12 (a0 := (24, .inl (fun _ => 0))) (fun _ => rfl) (by decide) rfl (by decide) ⟨(Nat.le_of_ble_eq_true rfl), (Nat.le_of_ble_eq_true rfl)⟩ fun cf2 e2 o2 => ?_
  have o2 : ∀ x, x ≠ n → cf2 x = cf1 x := o2
  refine cw_putF C hin ff_X1_15 dX1_init_14 (by omega) ((o2 i (by omega)).trans e1) rfl rfl (Nat.le_of_ble_eq_true rfl) fun cf3 e3 o3 => ?_
  have e3 : cf3 i = .inr (1, [.int 0, .ref (base + n), .null, .null, .null]) := e3
  have o3 : ∀ x, x ≠ i → cf3 x = cf2 x := o3
  refine cw_aload_n C dX1_init_17 0 rfl ?_
  refine cw_bipush C dX1_init_18 (v := (24 : Int32)) (by decide) ?_
  refine cw_newa C (atype := .int) ac_int (t0 := 1) rfl id dX1_init_20 (a0 := (24, .inl (fun _ => 0))) (fun _ => rfl) (by decide) rfl (by decide) ⟨(Nat.le_of_ble_eq_true rfl), (Nat.le_of_ble_eq_true rfl)⟩ fun cf4 e4 o4 => ?_
  have o4 : ∀ x, x ≠ n + 1 → cf4 x = cf3 x := o4
  refine cw_putF C hin ff_X1_19 dX1_init_22 (by omega) ((o4 i (by omega)).trans e3) rfl rfl (Nat.le_of_ble_eq_true rfl) fun cf5 e5 o5 => ?_
  have e5 : cf5 i = .inr (1, [.int 0, .ref (base + n), .ref (base + (n + 1)), .null, .null]) := e5
  have o5 : ∀ x, x ≠ i → cf5 x = cf4 x := o5
  refine cw_aload_n C dX1_init_25 0 rfl ?_
  refine cw_bipush C dX1_init_26 (v := (24 : Int32)) (by decide) ?_
  refine cw_newa C (atype := .int) ac_int (t0 := 1) rfl id dX1_init_28 (a0 := (24, .inl (fun _ => 0))) (fun _ => rfl) (by decide) rfl (by decide) ⟨(Nat.le_of_ble_eq_true rfl), (Nat.le_of_ble_eq_true rfl)⟩ fun cf6 e6 o6 => ?_
  have o6 : ∀ x, x ≠ n + 2 → cf6 x = cf5 x := o6
  refine cw_putF C hin ff_X1_22 dX1_init_30 (by omega) ((o6 i (by omega)).trans e5) rfl rfl (Nat.le_of_ble_eq_true rfl) fun cf7 e7 o7 => ?_
  have e7 : cf7 i = .inr (1, [.int 0, .ref (base + n), .ref (base + (n + 1)), .ref (base + (n + 2)), .null]) := e7
  have o7 : ∀ x, x ≠ i → cf7 x = cf6 x := o7
  refine cw_aload_n C dX1_init_33 0 rfl ?_
  refine cw_bipush C dX1_init_34 (v := (24 : Int32)) (by decide) ?_
  refine cw_newa C (atype := .int) ac_int (t0 := 1) rfl id dX1_init_36 (a0 := (24, .inl (fun _ => 0))) (fun _ => rfl) (by decide) rfl (by decide) ⟨(Nat.le_of_ble_eq_true rfl), (Nat.le_of_ble_eq_true rfl)⟩ fun cf8 e8 o8 => ?_
  have o8 : ∀ x, x ≠ n + 3 → cf8 x = cf7 x := o8
  refine cw_putF C hin ff_X1_25 dX1_init_38 (by omega) ((o8 i (by omega)).trans e7) rfl rfl (Nat.le_of_ble_eq_true rfl) fun cf9 e9 o9 => ?_
  have e9 : cf9 i = .inr (1, [.int 0, .ref (base + n), .ref (base + (n + 1)), .ref (base + (n + 2)), .ref (base + (n + 3))]) := e9
  have o9 : ∀ x, x ≠ i → cf9 x = cf8 x := o9
  exact cw_vret C hr dX1_init_41 ⟨e9, ((o9 n (by omega)).trans ((o8 n (by omega)).trans ((o7 n (by omega)).trans ((o6 n (by omega)).trans ((o5 n (by omega)).trans ((o4 n (by omega)).trans ((o3 n (by omega)).trans e2))))))), ((o9 (n + 1) (by omega)).trans ((o8 (n + 1) (by omega)).trans ((o7 (n + 1) (by omega)).trans ((o6 (n + 1) (by omega)).trans ((o5 (n + 1) (by omega)).trans e4))))), ((o9 (n + 2) (by omega)).trans ((o8 (n + 2) (by omega)).trans ((o7 (n + 2) (by omega)).trans e6))), ((o9 (n + 3) (by omega)).trans e8), fun x hx hn => ((o9 x (by omega)).trans ((o8 x (by omega)).trans ((o7 x (by omega)).trans ((o6 x (by omega)).trans ((o5 x (by omega)).trans ((o4 x (by omega)).trans ((o3 x (by omega)).trans ((o2 x (by omega)).trans ((o1 x (by omega)).trans rfl)))))))))⟩ rfl (Nat.le_of_ble_eq_true rfl) (Nat.le_of_ble_eq_true rfl)
def pX2 (base i n : Nat) (cB cI cJ cZ cD cO : ClassId) (cf cf' : Nat → va_E) : Prop := cf' i = .inr (2, [.int 0, .ref (base + n), .ref (base + (n + 1)), .ref (base + (n + 2)), .ref (base + (n + 3))]) ∧ cf' n = .inl (cI, 5, .inl (fun _ => 0)) ∧ cf' (n + 1) = .inl (cI, 5, .inl (fun _ => 0)) ∧ cf' (n + 2) = .inl (cI, 5, .inl (fun _ => 0)) ∧ cf' (n + 3) = .inl (cZ, 5, .inl (fun _ => 0)) ∧ ∀ x, x ≠ i → x < n → cf' x = cf x
theorem kc_X2 {l : Launch} {D : va_G} {base i n : Nat} {cB cI cJ cZ cD cO : ClassId} {cf0 : Nat → va_E} (hi : i < n) (h0 : cf0 i = .inr (2, [.int 0, .null, .null, .null, .null])) : cMet l D (cT cB cI cJ cZ cD cO) base yX2_init cX2_init 1 1 20 4 20 i n cf0 (n + 4) (pX2 base i n cB cI cJ cZ cD cO cf0) := by
  refine cw_met rfl rfl (by decide) hi fun M hl hr C hin => ?_
  refine cw_aload_n C dX2_init_0 0 rfl ?_
  refine cw_objInit C oi_X2_3 dX2_init_1 (Nat.le_of_ble_eq_true rfl) ⟨(Nat.le_of_ble_eq_true rfl), (Nat.le_of_ble_eq_true rfl)⟩ ?_
  refine cw_aload_n C dX2_init_4 0 rfl ?_
  refine cw_iconst C dX2_init_5 (v := (0 : Int32)) (by decide) ?_
  refine cw_put C fp_X2_9 dX2_init_6 (by omega) h0 rfl rfl (Nat.le_of_ble_eq_true rfl) fun cf1 e1 o1 => ?_
  have e1 : cf1 i = .inr (2, [.int 0, .null, .null, .null, .null]) := e1
  have o1 : ∀ x, x ≠ i → cf1 x = cf0 x := o1
  refine cw_aload_n C dX2_init_9 0 rfl ?_
  refine cw_iconst C dX2_init_10 (v := (5 : Int32)) (by decide) ?_
  refine cw_newa C (atype := .int) ac_int (t0 := 1) rfl id dX2_init_11 (a0 := (5, .inl (fun _ => 0))) (fun _ => rfl) (by decide) rfl (by decide) ⟨(Nat.le_of_ble_eq_true rfl), (Nat.le_of_ble_eq_true rfl)⟩ fun cf2 e2 o2 => ?_
  have o2 : ∀ x, x ≠ n → cf2 x = cf1 x := o2
  refine cw_putF C hin ff_X2_15 dX2_init_13 (by omega) ((o2 i (by omega)).trans e1) rfl rfl (Nat.le_of_ble_eq_true rfl) fun cf3 e3 o3 => ?_
  have e3 : cf3 i = .inr (2, [.int 0, .ref (base + n), .null, .null, .null]) := e3
  have o3 : ∀ x, x ≠ i → cf3 x = cf2 x := o3
  refine cw_aload_n C dX2_init_16 0 rfl ?_
  refine cw_iconst C dX2_init_17 (v := (5 : Int32)) (by decide) ?_
  refine cw_newa C (atype := .int) ac_int (t0 := 1) rfl id dX2_init_18 (a0 := (5, .inl (fun _ => 0))) (fun _ => rfl) (by decide) rfl (by decide) ⟨(Nat.le_of_ble_eq_true rfl), (Nat.le_of_ble_eq_true rfl)⟩ fun cf4 e4 o4 => ?_
  have o4 : ∀ x, x ≠ n + 1 → cf4 x = cf3 x := o4
  refine cw_putF C hin ff_X2_19 dX2_init_20 (by omega) ((o4 i (by omega)).trans e3) rfl rfl (Nat.le_of_ble_eq_true rfl) fun cf5 e5 o5 => ?_
  have e5 : cf5 i = .inr (2, [.int 0, .ref (base + n), .ref (base + (n + 1)), .null, .null]) := e5
  have o5 : ∀ x, x ≠ i → cf5 x = cf4 x := o5
  refine cw_aload_n C dX2_init_23 0 rfl ?_
  refine cw_iconst C dX2_init_24 (v := (5 : Int32)) (by decide) ?_
  refine cw_newa C (atype := .int) ac_int (t0 := 1) rfl id dX2_init_25 (a0 := (5, .inl (fun _ => 0))) (fun _ => rfl) (by decide) rfl (by decide) ⟨(Nat.le_of_ble_eq_true rfl), (Nat.le_of_ble_eq_true rfl)⟩ fun cf6 e6 o6 => ?_
  have o6 : ∀ x, x ≠ n + 2 → cf6 x = cf5 x := o6
  refine cw_putF C hin ff_X2_22 dX2_init_27 (by omega) ((o6 i (by omega)).trans e5) rfl rfl (Nat.le_of_ble_eq_true rfl) fun cf7 e7 o7 => ?_
  have e7 : cf7 i = .inr (2, [.int 0, .ref (base + n), .ref (base + (n + 1)), .ref (base + (n + 2)), .null]) := e7
  have o7 : ∀ x, x ≠ i → cf7 x = cf6 x := o7
  refine cw_aload_n C dX2_init_30 0 rfl ?_
  refine cw_iconst C dX2_init_31 (v := (5 : Int32)) (by decide) ?_
  refine cw_newa C (atype := .boolean) ac_boolean (t0 := 3) rfl id dX2_init_32 (a0 := (5, .inl (fun _ => 0))) (fun _ => rfl) (by decide) rfl (by decide) ⟨(Nat.le_of_ble_eq_true rfl), (Nat.le_of_ble_eq_true rfl)⟩ fun cf8 e8 o8 => ?_
  have o8 : ∀ x, x ≠ n + 3 → cf8 x = cf7 x := o8
  refine cw_putF C hin ff_X2_25 dX2_init_34 (by omega) ((o8 i (by omega)).trans e7) rfl rfl (Nat.le_of_ble_eq_true rfl) fun cf9 e9 o9 => ?_
  have e9 : cf9 i = .inr (2, [.int 0, .ref (base + n), .ref (base + (n + 1)), .ref (base + (n + 2)), .ref (base + (n + 3))]) := e9
  have o9 : ∀ x, x ≠ i → cf9 x = cf8 x := o9
  exact cw_vret C hr dX2_init_37 ⟨e9, ((o9 n (by omega)).trans ((o8 n (by omega)).trans ((o7 n (by omega)).trans ((o6 n (by omega)).trans ((o5 n (by omega)).trans ((o4 n (by omega)).trans ((o3 n (by omega)).trans e2))))))), ((o9 (n + 1) (by omega)).trans ((o8 (n + 1) (by omega)).trans ((o7 (n + 1) (by omega)).trans ((o6 (n + 1) (by omega)).trans ((o5 (n + 1) (by omega)).trans e4))))), ((o9 (n + 2) (by omega)).trans ((o8 (n + 2) (by omega)).trans ((o7 (n + 2) (by omega)).trans e6))), ((o9 (n + 3) (by omega)).trans e8), fun x hx hn => ((o9 x (by omega)).trans ((o8 x (by omega)).trans ((o7 x (by omega)).trans ((o6 x (by omega)).trans ((o5 x (by omega)).trans ((o4 x (by omega)).trans ((o3 x (by omega)).trans ((o2 x (by omega)).trans ((o1 x (by omega)).trans rfl)))))))))⟩ rfl (Nat.le_of_ble_eq_true rfl) (Nat.le_of_ble_eq_true rfl)
def pX3 (base i n : Nat) (cB cI cJ cZ cD cO : ClassId) (cf cf' : Nat → va_E) : Prop := cf' i = .inr (3, [.int 0, .int 24, .int 0, .int 0]) ∧ ∀ x, x ≠ i → x < n → cf' x = cf x
theorem kc_X3 {l : Launch} {D : va_G} {base i n : Nat} {cB cI cJ cZ cD cO : ClassId} {cf0 : Nat → va_E} (hi : i < n) (h0 : cf0 i = .inr (3, [.int 0, .int 0, .int 0, .int 0])) : cMet l D (cT cB cI cJ cZ cD cO) base yX3_init cX3_init 1 1 20 0 0 i n cf0 n (pX3 base i n cB cI cJ cZ cD cO cf0) := by
  refine cw_met rfl rfl (by decide) hi fun M hl hr C hin => ?_
  refine cw_aload_n C dX3_init_0 0 rfl ?_
  refine cw_objInit C oi_X3_3 dX3_init_1 (Nat.le_of_ble_eq_true rfl) ⟨(Nat.le_of_ble_eq_true rfl), (Nat.le_of_ble_eq_true rfl)⟩ ?_
  refine cw_aload_n C dX3_init_4 0 rfl ?_
  refine cw_iconst C dX3_init_5 (v := (0 : Int32)) (by decide) ?_
  refine cw_put C fp_X3_9 dX3_init_6 (by omega) h0 rfl rfl (Nat.le_of_ble_eq_true rfl) fun cf1 e1 o1 => ?_
  have e1 : cf1 i = .inr (3, [.int 0, .int 0, .int 0, .int 0]) := e1
  have o1 : ∀ x, x ≠ i → cf1 x = cf0 x := o1
  refine cw_aload_n C dX3_init_9 0 rfl ?_
  refine cw_bipush C dX3_init_10 (v := (24 : Int32)) (by decide) ?_
  refine cw_put C fp_X3_15 dX3_init_12 (by omega) e1 rfl rfl (Nat.le_of_ble_eq_true rfl) fun cf2 e2 o2 => ?_
  have e2 : cf2 i = .inr (3, [.int 0, .int 24, .int 0, .int 0]) := e2
  have o2 : ∀ x, x ≠ i → cf2 x = cf1 x := o2
  refine cw_aload_n C dX3_init_15 0 rfl ?_
  refine cw_iconst C dX3_init_16 (v := (0 : Int32)) (by decide) ?_
  refine cw_put C fp_X3_18 dX3_init_17 (by omega) e2 rfl rfl (Nat.le_of_ble_eq_true rfl) fun cf3 e3 o3 => ?_
  have e3 : cf3 i = .inr (3, [.int 0, .int 24, .int 0, .int 0]) := e3
  have o3 : ∀ x, x ≠ i → cf3 x = cf2 x := o3
  refine cw_aload_n C dX3_init_20 0 rfl ?_
  refine cw_iconst C dX3_init_21 (v := (0 : Int32)) (by decide) ?_
  refine cw_put C fp_X3_21 dX3_init_22 (by omega) e3 rfl rfl (Nat.le_of_ble_eq_true rfl) fun cf4 e4 o4 => ?_
  have e4 : cf4 i = .inr (3, [.int 0, .int 24, .int 0, .int 0]) := e4
  have o4 : ∀ x, x ≠ i → cf4 x = cf3 x := o4
  exact cw_vret C hr dX3_init_25 ⟨e4, fun x hx hn => ((o4 x (by omega)).trans ((o3 x (by omega)).trans ((o2 x (by omega)).trans ((o1 x (by omega)).trans rfl))))⟩ rfl (Nat.le_of_ble_eq_true rfl) (Nat.le_of_ble_eq_true rfl)
def pX4 (base i n : Nat) (cB cI cJ cZ cD cO : ClassId) (cf cf' : Nat → va_E) : Prop := cf' i = .inr (4, [.ref (base + n), .ref (base + (n + 1)), .ref (base + (n + 2))]) ∧ cf' n = .inl (cJ, 501, .inr (.inl (fun _ => 0))) ∧ cf' (n + 1) = .inl (cJ, 501, .inr (.inl (fun _ => 0))) ∧ cf' (n + 2) = .inl (cJ, 501, .inr (.inl (fun _ => 0))) ∧ ∀ x, x ≠ i → x < n → cf' x = cf x
theorem kc_X4 {l : Launch} {D : va_G} {base i n : Nat} {cB cI cJ cZ cD cO : ClassId} {cf0 : Nat → va_E} (hi : i < n) (h0 : cf0 i = .inr (4, [.null, .null, .null])) : cMet l D (cT cB cI cJ cZ cD cO) base yX4_init cX4_init 1 1 20 3 1503 i n cf0 (n + 3) (pX4 base i n cB cI cJ cZ cD cO cf0) := by
  refine cw_met rfl rfl (by decide) hi fun M hl hr C hin => ?_
  refine cw_aload_n C dX4_init_0 0 rfl ?_
  refine cw_objInit C oi_X4_5 dX4_init_1 (Nat.le_of_ble_eq_true rfl) ⟨(Nat.le_of_ble_eq_true rfl), (Nat.le_of_ble_eq_true rfl)⟩ ?_
  refine cw_aload_n C dX4_init_4 0 rfl ?_
  refine cw_sipush C dX4_init_5 (v := (501 : Int32)) (by decide) ?_
  refine cw_newa C (atype := .long) ac_long (t0 := 2) rfl id dX4_init_8 (a0 := (501, .inr (.inl (fun _ => 0)))) (fun _ => rfl) (by decide) rfl (by decide) ⟨(Nat.le_of_ble_eq_true rfl), (Nat.le_of_ble_eq_true rfl)⟩ fun cf1 e1 o1 => ?_
  have o1 : ∀ x, x ≠ n → cf1 x = cf0 x := o1
  refine cw_putF C hin ff_X4_11 dX4_init_10 (by omega) ((o1 i (by omega)).trans h0) rfl rfl (Nat.le_of_ble_eq_true rfl) fun cf2 e2 o2 => ?_
  have e2 : cf2 i = .inr (4, [.ref (base + n), .null, .null]) := e2
  have o2 : ∀ x, x ≠ i → cf2 x = cf1 x := o2
  refine cw_aload_n C dX4_init_13 0 rfl ?_
  refine cw_sipush C dX4_init_14 (v := (501 : Int32)) (by decide) ?_
  refine cw_newa C (atype := .long) ac_long (t0 := 2) rfl id dX4_init_17 (a0 := (501, .inr (.inl (fun _ => 0)))) (fun _ => rfl) (by decide) rfl (by decide) ⟨(Nat.le_of_ble_eq_true rfl), (Nat.le_of_ble_eq_true rfl)⟩ fun cf3 e3 o3 => ?_
  have o3 : ∀ x, x ≠ n + 1 → cf3 x = cf2 x := o3
  refine cw_putF C hin ff_X4_15 dX4_init_19 (by omega) ((o3 i (by omega)).trans e2) rfl rfl (Nat.le_of_ble_eq_true rfl) fun cf4 e4 o4 => ?_
  have e4 : cf4 i = .inr (4, [.ref (base + n), .ref (base + (n + 1)), .null]) := e4
  have o4 : ∀ x, x ≠ i → cf4 x = cf3 x := o4
  refine cw_aload_n C dX4_init_22 0 rfl ?_
  refine cw_sipush C dX4_init_23 (v := (501 : Int32)) (by decide) ?_
  refine cw_newa C (atype := .long) ac_long (t0 := 2) rfl id dX4_init_26 (a0 := (501, .inr (.inl (fun _ => 0)))) (fun _ => rfl) (by decide) rfl (by decide) ⟨(Nat.le_of_ble_eq_true rfl), (Nat.le_of_ble_eq_true rfl)⟩ fun cf5 e5 o5 => ?_
  have o5 : ∀ x, x ≠ n + 2 → cf5 x = cf4 x := o5
  refine cw_putF C hin ff_X4_18 dX4_init_28 (by omega) ((o5 i (by omega)).trans e4) rfl rfl (Nat.le_of_ble_eq_true rfl) fun cf6 e6 o6 => ?_
  have e6 : cf6 i = .inr (4, [.ref (base + n), .ref (base + (n + 1)), .ref (base + (n + 2))]) := e6
  have o6 : ∀ x, x ≠ i → cf6 x = cf5 x := o6
  exact cw_vret C hr dX4_init_31 ⟨e6, ((o6 n (by omega)).trans ((o5 n (by omega)).trans ((o4 n (by omega)).trans ((o3 n (by omega)).trans ((o2 n (by omega)).trans e1))))), ((o6 (n + 1) (by omega)).trans ((o5 (n + 1) (by omega)).trans ((o4 (n + 1) (by omega)).trans e3))), ((o6 (n + 2) (by omega)).trans e5), fun x hx hn => ((o6 x (by omega)).trans ((o5 x (by omega)).trans ((o4 x (by omega)).trans ((o3 x (by omega)).trans ((o2 x (by omega)).trans ((o1 x (by omega)).trans rfl))))))⟩ rfl (Nat.le_of_ble_eq_true rfl) (Nat.le_of_ble_eq_true rfl)
def pX5 (base i n : Nat) (cB cI cJ cZ cD cO : ClassId) (cf cf' : Nat → va_E) : Prop := cf' i = .inr (5, [.ref (base + n), .int 0, .int 0, .int (-1), .int 0, .int 0, .int 0]) ∧ cf' n = .inl (cB, 400, .inl (fun _ => 0)) ∧ ∀ x, x ≠ i → x < n → cf' x = cf x
theorem kc_X5 {l : Launch} {D : va_G} {base i n : Nat} {cB cI cJ cZ cD cO : ClassId} {cf0 : Nat → va_E} (hi : i < n) (h0 : cf0 i = .inr (5, [.null, .int 0, .int 0, .int 0, .int 0, .int 0, .int 0])) : cMet l D (cT cB cI cJ cZ cD cO) base yX5_init cX5_init 1 1 20 1 400 i n cf0 (n + 1) (pX5 base i n cB cI cJ cZ cD cO cf0) := by
  refine cw_met rfl rfl (by decide) hi fun M hl hr C hin => ?_
  refine cw_aload_n C dX5_init_0 0 rfl ?_
  refine cw_objInit C oi_X5_3 dX5_init_1 (Nat.le_of_ble_eq_true rfl) ⟨(Nat.le_of_ble_eq_true rfl), (Nat.le_of_ble_eq_true rfl)⟩ ?_
  refine cw_aload_n C dX5_init_4 0 rfl ?_
  refine cw_sipush C dX5_init_5 (v := (400 : Int32)) (by decide) ?_
  refine cw_newa C (atype := .byte) ac_byte (t0 := 0) rfl id dX5_init_8 (a0 := (400, .inl (fun _ => 0))) (fun _ => rfl) (by decide) rfl (by decide) ⟨(Nat.le_of_ble_eq_true rfl), (Nat.le_of_ble_eq_true rfl)⟩ fun cf1 e1 o1 => ?_
  have o1 : ∀ x, x ≠ n → cf1 x = cf0 x := o1
  refine cw_putF C hin ff_X5_9 dX5_init_10 (by omega) ((o1 i (by omega)).trans h0) rfl rfl (Nat.le_of_ble_eq_true rfl) fun cf2 e2 o2 => ?_
  have e2 : cf2 i = .inr (5, [.ref (base + n), .int 0, .int 0, .int 0, .int 0, .int 0, .int 0]) := e2
  have o2 : ∀ x, x ≠ i → cf2 x = cf1 x := o2
  refine cw_aload_n C dX5_init_13 0 rfl ?_
  refine cw_iconst C dX5_init_14 (v := (0 : Int32)) (by decide) ?_
  refine cw_put C fp_X5_15 dX5_init_15 (by omega) e2 rfl rfl (Nat.le_of_ble_eq_true rfl) fun cf3 e3 o3 => ?_
  have e3 : cf3 i = .inr (5, [.ref (base + n), .int 0, .int 0, .int 0, .int 0, .int 0, .int 0]) := e3
  have o3 : ∀ x, x ≠ i → cf3 x = cf2 x := o3
  refine cw_aload_n C dX5_init_18 0 rfl ?_
  refine cw_iconst C dX5_init_19 (v := (0 : Int32)) (by decide) ?_
  refine cw_put C fp_X5_19 dX5_init_20 (by omega) e3 rfl rfl (Nat.le_of_ble_eq_true rfl) fun cf4 e4 o4 => ?_
  have e4 : cf4 i = .inr (5, [.ref (base + n), .int 0, .int 0, .int 0, .int 0, .int 0, .int 0]) := e4
  have o4 : ∀ x, x ≠ i → cf4 x = cf3 x := o4
  refine cw_aload_n C dX5_init_23 0 rfl ?_
  refine cw_iconst C dX5_init_24 (v := (-1 : Int32)) (by decide) ?_
  refine cw_put C fp_X5_22 dX5_init_25 (by omega) e4 rfl rfl (Nat.le_of_ble_eq_true rfl) fun cf5 e5 o5 => ?_
  have e5 : cf5 i = .inr (5, [.ref (base + n), .int 0, .int 0, .int (-1), .int 0, .int 0, .int 0]) := e5
  have o5 : ∀ x, x ≠ i → cf5 x = cf4 x := o5
  refine cw_aload_n C dX5_init_28 0 rfl ?_
  refine cw_iconst C dX5_init_29 (v := (0 : Int32)) (by decide) ?_
  refine cw_put C fp_X5_25 dX5_init_30 (by omega) e5 rfl rfl (Nat.le_of_ble_eq_true rfl) fun cf6 e6 o6 => ?_
  have e6 : cf6 i = .inr (5, [.ref (base + n), .int 0, .int 0, .int (-1), .int 0, .int 0, .int 0]) := e6
  have o6 : ∀ x, x ≠ i → cf6 x = cf5 x := o6
  refine cw_aload_n C dX5_init_33 0 rfl ?_
  refine cw_iconst C dX5_init_34 (v := (0 : Int32)) (by decide) ?_
  refine cw_put C fp_X5_28 dX5_init_35 (by omega) e6 rfl rfl (Nat.le_of_ble_eq_true rfl) fun cf7 e7 o7 => ?_
  have e7 : cf7 i = .inr (5, [.ref (base + n), .int 0, .int 0, .int (-1), .int 0, .int 0, .int 0]) := e7
  have o7 : ∀ x, x ≠ i → cf7 x = cf6 x := o7
  refine cw_aload_n C dX5_init_38 0 rfl ?_
  refine cw_iconst C dX5_init_39 (v := (0 : Int32)) (by decide) ?_
  refine cw_put C fp_X5_31 dX5_init_40 (by omega) e7 rfl rfl (Nat.le_of_ble_eq_true rfl) fun cf8 e8 o8 => ?_
  have e8 : cf8 i = .inr (5, [.ref (base + n), .int 0, .int 0, .int (-1), .int 0, .int 0, .int 0]) := e8
  have o8 : ∀ x, x ≠ i → cf8 x = cf7 x := o8
  exact cw_vret C hr dX5_init_43 ⟨e8, ((o8 n (by omega)).trans ((o7 n (by omega)).trans ((o6 n (by omega)).trans ((o5 n (by omega)).trans ((o4 n (by omega)).trans ((o3 n (by omega)).trans ((o2 n (by omega)).trans e1))))))), fun x hx hn => ((o8 x (by omega)).trans ((o7 x (by omega)).trans ((o6 x (by omega)).trans ((o5 x (by omega)).trans ((o4 x (by omega)).trans ((o3 x (by omega)).trans ((o2 x (by omega)).trans ((o1 x (by omega)).trans rfl))))))))⟩ rfl (Nat.le_of_ble_eq_true rfl) (Nat.le_of_ble_eq_true rfl)
def pX6 (base i n : Nat) (cB cI cJ cZ cD cO : ClassId) (cf cf' : Nat → va_E) : Prop := cf' i = .inr (6, [.ref (base + n), .ref (base + (n + 1)), .ref (base + (n + 2)), .ref (base + (n + 7)), .ref (base + (n + 12)), .int 0, .int 1]) ∧ cf' n = .inr (0, [.int 1, .int 0, .int 0, .int 1, .int 1, .int 0]) ∧ cf' (n + 1) = .inr (3, [.int 0, .int 24, .int 0, .int 0]) ∧ cf' (n + 2) = .inr (2, [.int 0, .ref (base + (n + 3)), .ref (base + (n + 4)), .ref (base + (n + 5)), .ref (base + (n + 6))]) ∧ cf' (n + 3) = .inl (cI, 5, .inl (fun _ => 0)) ∧ cf' (n + 4) = .inl (cI, 5, .inl (fun _ => 0)) ∧ cf' (n + 5) = .inl (cI, 5, .inl (fun _ => 0)) ∧ cf' (n + 6) = .inl (cZ, 5, .inl (fun _ => 0)) ∧ cf' (n + 7) = .inr (1, [.int 0, .ref (base + (n + 8)), .ref (base + (n + 9)), .ref (base + (n + 10)), .ref (base + (n + 11))]) ∧ cf' (n + 8) = .inl (cI, 24, .inl (fun _ => 0)) ∧ cf' (n + 9) = .inl (cI, 24, .inl (fun _ => 0)) ∧ cf' (n + 10) = .inl (cI, 24, .inl (fun _ => 0)) ∧ cf' (n + 11) = .inl (cI, 24, .inl (fun _ => 0)) ∧ cf' (n + 12) = .inl (cI, 7, .inl (fun _ => 0)) ∧ ∀ x, x ≠ i → x < n → cf' x = cf x
theorem kc_X6 {l : Launch} {D : va_G} {base i n : Nat} {cB cI cJ cZ cD cO : ClassId} {cf0 : Nat → va_E} (hi : i < n) (h0 : cf0 i = .inr (6, [.null, .null, .null, .null, .null, .int 0, .int 0])) : cMet l D (cT cB cI cJ cZ cD cO) base yX6_init cX6_init 1 2 40 13 143 i n cf0 (n + 13) (pX6 base i n cB cI cJ cZ cD cO cf0) := by
  refine cw_met rfl rfl (by decide) hi fun M hl hr C hin => ?_
  refine cw_aload_n C dX6_init_0 0 rfl ?_
  refine cw_objInit C oi_X6_3 dX6_init_1 (Nat.le_of_ble_eq_true rfl) ⟨(Nat.le_of_ble_eq_true rfl), (Nat.le_of_ble_eq_true rfl)⟩ ?_
  refine cw_aload_n C dX6_init_4 0 rfl ?_
  refine cw_new C nw_X6_9 rfl dX6_init_5 ⟨(Nat.le_of_ble_eq_true rfl), (Nat.le_of_ble_eq_true rfl)⟩ fun cf1 e1 o1 => ?_
  have o1 : ∀ x, x ≠ n → cf1 x = cf0 x := o1
  refine cw_dup C dX6_init_8 rfl ?_
  refine cw_call C cn_X6_11 dX6_init_9 (kc_X0 (by omega) e1) (Nat.le_of_ble_eq_true rfl) ⟨(Nat.le_of_ble_eq_true rfl), (Nat.le_of_ble_eq_true rfl)⟩ ⟨(Nat.le_of_ble_eq_true rfl), (Nat.le_of_ble_eq_true rfl)⟩ fun cf2 ⟨e2, o2⟩ => ?_
  have e2 : cf2 n = .inr (0, [.int 1, .int 0, .int 0, .int 1, .int 1, .int 0]) := e2
  have o2 : ∀ x, x ≠ n → x < n + 1 → cf2 x = cf1 x := o2
  refine cw_putF C hin ff_X6_12 dX6_init_12 (by omega) ((o2 i (by omega) (by omega)).trans ((o1 i (by omega)).trans h0)) rfl rfl (Nat.le_of_ble_eq_true rfl) fun cf3 e3 o3 => ?_
  have e3 : cf3 i = .inr (6, [.ref (base + n), .null, .null, .null, .null, .int 0, .int 0]) := e3
  have o3 : ∀ x, x ≠ i → cf3 x = cf2 x := o3
  refine cw_aload_n C dX6_init_15 0 rfl ?_
  refine cw_new C nw_X6_18 rfl dX6_init_16 ⟨(Nat.le_of_ble_eq_true rfl), (Nat.le_of_ble_eq_true rfl)⟩ fun cf4 e4 o4 => ?_
  have o4 : ∀ x, x ≠ n + 1 → cf4 x = cf3 x := o4
  refine cw_dup C dX6_init_19 rfl ?_
  refine cw_call C cn_X6_20 dX6_init_20 (kc_X3 (by omega) e4) (Nat.le_of_ble_eq_true rfl) ⟨(Nat.le_of_ble_eq_true rfl), (Nat.le_of_ble_eq_true rfl)⟩ ⟨(Nat.le_of_ble_eq_true rfl), (Nat.le_of_ble_eq_true rfl)⟩ fun cf5 ⟨e5, o5⟩ => ?_
  have e5 : cf5 (n + 1) = .inr (3, [.int 0, .int 24, .int 0, .int 0]) := e5
  have o5 : ∀ x, x ≠ n + 1 → x < n + 2 → cf5 x = cf4 x := o5
  refine cw_putF C hin ff_X6_21 dX6_init_23 (by omega) ((o5 i (by omega) (by omega)).trans ((o4 i (by omega)).trans e3)) rfl rfl (Nat.le_of_ble_eq_true rfl) fun cf6 e6 o6 => ?_
  have e6 : cf6 i = .inr (6, [.ref (base + n), .ref (base + (n + 1)), .null, .null, .null, .int 0, .int 0]) := e6
  have o6 : ∀ x, x ≠ i → cf6 x = cf5 x := o6
  refine cw_aload_n C dX6_init_26 0 rfl ?_
  refine cw_new C nw_X6_25 rfl dX6_init_27 ⟨(Nat.le_of_ble_eq_true rfl), (Nat.le_of_ble_eq_true rfl)⟩ fun cf7 e7 o7 => ?_
  have o7 : ∀ x, x ≠ n + 2 → cf7 x = cf6 x := o7
  refine cw_dup C dX6_init_30 rfl ?_
  refine cw_call C cn_X6_27 dX6_init_31 (kc_X2 (by omega) e7) (Nat.le_of_ble_eq_true rfl) ⟨(Nat.le_of_ble_eq_true rfl), (Nat.le_of_ble_eq_true rfl)⟩ ⟨(Nat.le_of_ble_eq_true rfl), (Nat.le_of_ble_eq_true rfl)⟩ fun cf8 ⟨e8, e8_0, e8_1, e8_2, e8_3, o8⟩ => ?_
  have e8 : cf8 (n + 2) = .inr (2, [.int 0, .ref (base + (n + 3)), .ref (base + (n + 4)), .ref (base + (n + 5)), .ref (base + (n + 6))]) := e8
  have e8_0 : cf8 (n + 3) = .inl (cI, 5, .inl (fun _ => 0)) := e8_0
  have e8_1 : cf8 (n + 4) = .inl (cI, 5, .inl (fun _ => 0)) := e8_1
  have e8_2 : cf8 (n + 5) = .inl (cI, 5, .inl (fun _ => 0)) := e8_2
  have e8_3 : cf8 (n + 6) = .inl (cZ, 5, .inl (fun _ => 0)) := e8_3
  have o8 : ∀ x, x ≠ n + 2 → x < n + 3 → cf8 x = cf7 x := o8
  refine cw_putF C hin ff_X6_28 dX6_init_34 (by omega) ((o8 i (by omega) (by omega)).trans ((o7 i (by omega)).trans e6)) rfl rfl (Nat.le_of_ble_eq_true rfl) fun cf9 e9 o9 => ?_
  have e9 : cf9 i = .inr (6, [.ref (base + n), .ref (base + (n + 1)), .ref (base + (n + 2)), .null, .null, .int 0, .int 0]) := e9
  have o9 : ∀ x, x ≠ i → cf9 x = cf8 x := o9
  refine cw_aload_n C dX6_init_37 0 rfl ?_
  refine cw_new C nw_X6_32 rfl dX6_init_38 ⟨(Nat.le_of_ble_eq_true rfl), (Nat.le_of_ble_eq_true rfl)⟩ fun cf10 e10 o10 => ?_
  have o10 : ∀ x, x ≠ n + 7 → cf10 x = cf9 x := o10
  refine cw_dup C dX6_init_41 rfl ?_
  refine cw_call C cn_X6_34 dX6_init_42 (kc_X1 (by omega) e10) (Nat.le_of_ble_eq_true rfl) ⟨(Nat.le_of_ble_eq_true rfl), (Nat.le_of_ble_eq_true rfl)⟩ ⟨(Nat.le_of_ble_eq_true rfl), (Nat.le_of_ble_eq_true rfl)⟩ fun cf11 ⟨e11, e11_0, e11_1, e11_2, e11_3, o11⟩ => ?_
  have e11 : cf11 (n + 7) = .inr (1, [.int 0, .ref (base + (n + 8)), .ref (base + (n + 9)), .ref (base + (n + 10)), .ref (base + (n + 11))]) := e11
  have e11_0 : cf11 (n + 8) = .inl (cI, 24, .inl (fun _ => 0)) := e11_0
  have e11_1 : cf11 (n + 9) = .inl (cI, 24, .inl (fun _ => 0)) := e11_1
  have e11_2 : cf11 (n + 10) = .inl (cI, 24, .inl (fun _ => 0)) := e11_2
  have e11_3 : cf11 (n + 11) = .inl (cI, 24, .inl (fun _ => 0)) := e11_3
  have o11 : ∀ x, x ≠ n + 7 → x < n + 8 → cf11 x = cf10 x := o11
  refine cw_putF C hin ff_X6_35 dX6_init_45 (by omega) ((o11 i (by omega) (by omega)).trans ((o10 i (by omega)).trans e9)) rfl rfl (Nat.le_of_ble_eq_true rfl) fun cf12 e12 o12 => ?_
  have e12 : cf12 i = .inr (6, [.ref (base + n), .ref (base + (n + 1)), .ref (base + (n + 2)), .ref (base + (n + 7)), .null, .int 0, .int 0]) := e12
  have o12 : ∀ x, x ≠ i → cf12 x = cf11 x := o12
  refine cw_aload_n C dX6_init_48 0 rfl ?_
  refine cw_bipush C dX6_init_49 (v := (7 : Int32)) (by decide) ?_
  refine cw_newa C (atype := .int) ac_int (t0 := 1) rfl id dX6_init_51 (a0 := (7, .inl (fun _ => 0))) (fun _ => rfl) (by decide) rfl (by decide) ⟨(Nat.le_of_ble_eq_true rfl), (Nat.le_of_ble_eq_true rfl)⟩ fun cf13 e13 o13 => ?_
  have o13 : ∀ x, x ≠ n + 12 → cf13 x = cf12 x := o13
  refine cw_putF C hin ff_X6_39 dX6_init_53 (by omega) ((o13 i (by omega)).trans e12) rfl rfl (Nat.le_of_ble_eq_true rfl) fun cf14 e14 o14 => ?_
  have e14 : cf14 i = .inr (6, [.ref (base + n), .ref (base + (n + 1)), .ref (base + (n + 2)), .ref (base + (n + 7)), .ref (base + (n + 12)), .int 0, .int 0]) := e14
  have o14 : ∀ x, x ≠ i → cf14 x = cf13 x := o14
  refine cw_aload_n C dX6_init_56 0 rfl ?_
  refine cw_iconst C dX6_init_57 (v := (0 : Int32)) (by decide) ?_
  refine cw_put C fp_X6_43 dX6_init_58 (by omega) e14 rfl rfl (Nat.le_of_ble_eq_true rfl) fun cf15 e15 o15 => ?_
  have e15 : cf15 i = .inr (6, [.ref (base + n), .ref (base + (n + 1)), .ref (base + (n + 2)), .ref (base + (n + 7)), .ref (base + (n + 12)), .int 0, .int 0]) := e15
  have o15 : ∀ x, x ≠ i → cf15 x = cf14 x := o15
  refine cw_aload_n C dX6_init_61 0 rfl ?_
  refine cw_iconst C dX6_init_62 (v := (1 : Int32)) (by decide) ?_
  refine cw_put C fp_X6_47 dX6_init_63 (by omega) e15 rfl rfl (Nat.le_of_ble_eq_true rfl) fun cf16 e16 o16 => ?_
  have e16 : cf16 i = .inr (6, [.ref (base + n), .ref (base + (n + 1)), .ref (base + (n + 2)), .ref (base + (n + 7)), .ref (base + (n + 12)), .int 0, .int 1]) := e16
  have o16 : ∀ x, x ≠ i → cf16 x = cf15 x := o16
  exact cw_vret C hr dX6_init_66 ⟨e16, ((o16 n (by omega)).trans ((o15 n (by omega)).trans ((o14 n (by omega)).trans ((o13 n (by omega)).trans ((o12 n (by omega)).trans ((o11 n (by omega) (by omega)).trans ((o10 n (by omega)).trans ((o9 n (by omega)).trans ((o8 n (by omega) (by omega)).trans ((o7 n (by omega)).trans ((o6 n (by omega)).trans ((o5 n (by omega) (by omega)).trans ((o4 n (by omega)).trans ((o3 n (by omega)).trans e2)))))))))))))), ((o16 (n + 1) (by omega)).trans ((o15 (n + 1) (by omega)).trans ((o14 (n + 1) (by omega)).trans ((o13 (n + 1) (by omega)).trans ((o12 (n + 1) (by omega)).trans ((o11 (n + 1) (by omega) (by omega)).trans ((o10 (n + 1) (by omega)).trans ((o9 (n + 1) (by omega)).trans ((o8 (n + 1) (by omega) (by omega)).trans ((o7 (n + 1) (by omega)).trans ((o6 (n + 1) (by omega)).trans e5))))))))))), ((o16 (n + 2) (by omega)).trans ((o15 (n + 2) (by omega)).trans ((o14 (n + 2) (by omega)).trans ((o13 (n + 2) (by omega)).trans ((o12 (n + 2) (by omega)).trans ((o11 (n + 2) (by omega) (by omega)).trans ((o10 (n + 2) (by omega)).trans ((o9 (n + 2) (by omega)).trans e8)))))))), ((o16 (n + 3) (by omega)).trans ((o15 (n + 3) (by omega)).trans ((o14 (n + 3) (by omega)).trans ((o13 (n + 3) (by omega)).trans ((o12 (n + 3) (by omega)).trans ((o11 (n + 3) (by omega) (by omega)).trans ((o10 (n + 3) (by omega)).trans ((o9 (n + 3) (by omega)).trans e8_0)))))))), ((o16 (n + 4) (by omega)).trans ((o15 (n + 4) (by omega)).trans ((o14 (n + 4) (by omega)).trans ((o13 (n + 4) (by omega)).trans ((o12 (n + 4) (by omega)).trans ((o11 (n + 4) (by omega) (by omega)).trans ((o10 (n + 4) (by omega)).trans ((o9 (n + 4) (by omega)).trans e8_1)))))))), ((o16 (n + 5) (by omega)).trans ((o15 (n + 5) (by omega)).trans ((o14 (n + 5) (by omega)).trans ((o13 (n + 5) (by omega)).trans ((o12 (n + 5) (by omega)).trans ((o11 (n + 5) (by omega) (by omega)).trans ((o10 (n + 5) (by omega)).trans ((o9 (n + 5) (by omega)).trans e8_2)))))))), ((o16 (n + 6) (by omega)).trans ((o15 (n + 6) (by omega)).trans ((o14 (n + 6) (by omega)).trans ((o13 (n + 6) (by omega)).trans ((o12 (n + 6) (by omega)).trans ((o11 (n + 6) (by omega) (by omega)).trans ((o10 (n + 6) (by omega)).trans ((o9 (n + 6) (by omega)).trans e8_3)))))))), ((o16 (n + 7) (by omega)).trans ((o15 (n + 7) (by omega)).trans ((o14 (n + 7) (by omega)).trans ((o13 (n + 7) (by omega)).trans ((o12 (n + 7) (by omega)).trans e11))))), ((o16 (n + 8) (by omega)).trans ((o15 (n + 8) (by omega)).trans ((o14 (n + 8) (by omega)).trans ((o13 (n + 8) (by omega)).trans ((o12 (n + 8) (by omega)).trans e11_0))))), ((o16 (n + 9) (by omega)).trans ((o15 (n + 9) (by omega)).trans ((o14 (n + 9) (by omega)).trans ((o13 (n + 9) (by omega)).trans ((o12 (n + 9) (by omega)).trans e11_1))))), ((o16 (n + 10) (by omega)).trans ((o15 (n + 10) (by omega)).trans ((o14 (n + 10) (by omega)).trans ((o13 (n + 10) (by omega)).trans ((o12 (n + 10) (by omega)).trans e11_2))))), ((o16 (n + 11) (by omega)).trans ((o15 (n + 11) (by omega)).trans ((o14 (n + 11) (by omega)).trans ((o13 (n + 11) (by omega)).trans ((o12 (n + 11) (by omega)).trans e11_3))))), ((o16 (n + 12) (by omega)).trans ((o15 (n + 12) (by omega)).trans ((o14 (n + 12) (by omega)).trans e13))), fun x hx hn => ((o16 x (by omega)).trans ((o15 x (by omega)).trans ((o14 x (by omega)).trans ((o13 x (by omega)).trans ((o12 x (by omega)).trans ((o11 x (by omega) (by omega)).trans ((o10 x (by omega)).trans ((o9 x (by omega)).trans ((o8 x (by omega) (by omega)).trans ((o7 x (by omega)).trans ((o6 x (by omega)).trans ((o5 x (by omega) (by omega)).trans ((o4 x (by omega)).trans ((o3 x (by omega)).trans ((o2 x (by omega) (by omega)).trans ((o1 x (by omega)).trans rfl))))))))))))))))⟩ rfl (Nat.le_of_ble_eq_true rfl) (Nat.le_of_ble_eq_true rfl)
theorem all71 {P : Nat → Prop} (h0 : P 0) (h1 : P 1) (h2 : P 2) (h3 : P 3) (h4 : P 4) (h5 : P 5) (h6 : P 6) (h7 : P 7) (h8 : P 8) (h9 : P 9) (h10 : P 10) (h11 : P 11) (h12 : P 12) (h13 : P 13) (h14 : P 14) (h15 : P 15) (h16 : P 16) (h17 : P 17) (h18 : P 18) (h19 : P 19) (h20 : P 20) (h21 : P 21) (h22 : P 22) (h23 : P 23) (h24 : P 24) (h25 : P 25) (h26 : P 26) (h27 : P 27) (h28 : P 28) (h29 : P 29) (h30 : P 30) (h31 : P 31) (h32 : P 32) (h33 : P 33) (h34 : P 34) (h35 : P 35) (h36 : P 36) (h37 : P 37) (h38 : P 38) (h39 : P 39) (h40 : P 40) (h41 : P 41) (h42 : P 42) (h43 : P 43) (h44 : P 44) (h45 : P 45) (h46 : P 46) (h47 : P 47) (h48 : P 48) (h49 : P 49) (h50 : P 50) (h51 : P 51) (h52 : P 52) (h53 : P 53) (h54 : P 54) (h55 : P 55) (h56 : P 56) (h57 : P 57) (h58 : P 58) (h59 : P 59) (h60 : P 60) (h61 : P 61) (h62 : P 62) (h63 : P 63) (h64 : P 64) (h65 : P 65) (h66 : P 66) (h67 : P 67) (h68 : P 68) (h69 : P 69) (h70 : P 70) : ∀ i, i < 71 → P i := fun i hi => match i, hi with
  | 0, _ => h0
  | 1, _ => h1
  | 2, _ => h2
  | 3, _ => h3
  | 4, _ => h4
  | 5, _ => h5
  | 6, _ => h6
  | 7, _ => h7
  | 8, _ => h8
  | 9, _ => h9
  | 10, _ => h10
  | 11, _ => h11
  | 12, _ => h12
  | 13, _ => h13
  | 14, _ => h14
  | 15, _ => h15
  | 16, _ => h16
  | 17, _ => h17
  | 18, _ => h18
  | 19, _ => h19
  | 20, _ => h20
  | 21, _ => h21
  | 22, _ => h22
  | 23, _ => h23
  | 24, _ => h24
  | 25, _ => h25
  | 26, _ => h26
  | 27, _ => h27
  | 28, _ => h28
  | 29, _ => h29
  | 30, _ => h30
  | 31, _ => h31
  | 32, _ => h32
  | 33, _ => h33
  | 34, _ => h34
  | 35, _ => h35
  | 36, _ => h36
  | 37, _ => h37
  | 38, _ => h38
  | 39, _ => h39
  | 40, _ => h40
  | 41, _ => h41
  | 42, _ => h42
  | 43, _ => h43
  | 44, _ => h44
  | 45, _ => h45
  | 46, _ => h46
  | 47, _ => h47
  | 48, _ => h48
  | 49, _ => h49
  | 50, _ => h50
  | 51, _ => h51
  | 52, _ => h52
  | 53, _ => h53
  | 54, _ => h54
  | 55, _ => h55
  | 56, _ => h56
  | 57, _ => h57
  | 58, _ => h58
  | 59, _ => h59
  | 60, _ => h60
  | 61, _ => h61
  | 62, _ => h62
  | 63, _ => h63
  | 64, _ => h64
  | 65, _ => h65
  | 66, _ => h66
  | 67, _ => h67
  | 68, _ => h68
  | 69, _ => h69
  | 70, _ => h70
  | n + 71, h => absurd h (by omega)
def pX7 (base : Nat) (cB cI cJ cZ cD cO : ClassId) (cf : Nat → va_E) : Prop := (∀ i, i < 71 → i ≠ 3 → cf (perm i) = shC (fun i => base + perm i) cB cI cJ cZ cD cO i (stC0.1 i) (stC0.2.1 i) (stC0.2.2 i)) ∧ cf 31 = .inl (cO, 2, .inr (.inr (.inr (.inr (va_up (va_up (fun _ => none) 0 (some (base + 43))) 1 (some (base + 57)))))))
theorem kc_X7 {l : Launch} {D : va_G} {base : Nat} {cB cI cJ cZ cD cO : ClassId} {cf0 : Nat → va_E} (h0 : cf0 0 = .inr (7, [.null, .int 0, .int 0, .null, .null, .null, .null, .null, .null, .null])) : cMet l D (cT cB cI cJ cZ cD cO) base yX7_init cX7_init 2 3 60 70 2624 0 1 cf0 71 (pX7 base cB cI cJ cZ cD cO) := by
  refine cw_met rfl rfl (by decide) (by decide) fun M hl hr C hin => ?_
  refine cw_aload_n C dX7_init_0 0 rfl ?_
  refine cw_objInit C oi_X7_1 dX7_init_1 (Nat.le_of_ble_eq_true rfl) ⟨(Nat.le_of_ble_eq_true rfl), (Nat.le_of_ble_eq_true rfl)⟩ ?_
  refine cw_aload_n C dX7_init_4 0 rfl ?_
  refine cw_new C nw_X7_7 rfl dX7_init_5 ⟨(Nat.le_of_ble_eq_true rfl), (Nat.le_of_ble_eq_true rfl)⟩ fun cf1 e1 o1 => ?_
  have o1 : ∀ x, x ≠ 1 → cf1 x = cf0 x := o1
  refine cw_dup C dX7_init_8 rfl ?_
  refine cw_call C cn_X7_9 dX7_init_9 (kc_X5 (by decide) e1) (Nat.le_of_ble_eq_true rfl) ⟨(Nat.le_of_ble_eq_true rfl), (Nat.le_of_ble_eq_true rfl)⟩ ⟨(Nat.le_of_ble_eq_true rfl), (Nat.le_of_ble_eq_true rfl)⟩ fun cf2 ⟨e2, e2_0, o2⟩ => ?_
  have e2 : cf2 1 = .inr (5, [.ref (base + 2), .int 0, .int 0, .int (-1), .int 0, .int 0, .int 0]) := e2
  have e2_0 : cf2 2 = .inl (cB, 400, .inl (fun _ => 0)) := e2_0
  have o2 : ∀ x, x ≠ 1 → x < 2 → cf2 x = cf1 x := o2
  refine cw_putF C hin ff_X7_10 dX7_init_12 (by decide) ((o2 0 (by decide) (by decide)).trans ((o1 0 (by decide)).trans h0)) rfl rfl (Nat.le_of_ble_eq_true rfl) fun cf3 e3 o3 => ?_
  have e3 : cf3 0 = .inr (7, [.ref (base + 1), .int 0, .int 0, .null, .null, .null, .null, .null, .null, .null]) := e3
  have o3 : ∀ x, x ≠ 0 → cf3 x = cf2 x := o3
  refine cw_aload_n C dX7_init_15 0 rfl ?_
  refine cw_iconst C dX7_init_16 (v := (0 : Int32)) (by decide) ?_
  refine cw_put C fp_X7_16 dX7_init_17 (by decide) e3 rfl rfl (Nat.le_of_ble_eq_true rfl) fun cf4 e4 o4 => ?_
  have e4 : cf4 0 = .inr (7, [.ref (base + 1), .int 0, .int 0, .null, .null, .null, .null, .null, .null, .null]) := e4
  have o4 : ∀ x, x ≠ 0 → cf4 x = cf3 x := o4
  refine cw_aload_n C dX7_init_20 0 rfl ?_
  refine cw_iconst C dX7_init_21 (v := (-1 : Int32)) (by decide) ?_
  refine cw_put C fp_X7_20 dX7_init_22 (by decide) e4 rfl rfl (Nat.le_of_ble_eq_true rfl) fun cf5 e5 o5 => ?_
  have e5 : cf5 0 = .inr (7, [.ref (base + 1), .int 0, .int (-1), .null, .null, .null, .null, .null, .null, .null]) := e5
  have o5 : ∀ x, x ≠ 0 → cf5 x = cf4 x := o5
  refine cw_aload_n C dX7_init_25 0 rfl ?_
  refine cw_new C nw_X7_23 rfl dX7_init_26 ⟨(Nat.le_of_ble_eq_true rfl), (Nat.le_of_ble_eq_true rfl)⟩ fun cf6 e6 o6 => ?_
  have o6 : ∀ x, x ≠ 3 → cf6 x = cf5 x := o6
  refine cw_dup C dX7_init_29 rfl ?_
  refine cw_call C cn_X7_25 dX7_init_30 (kc_X6 (by decide) e6) (Nat.le_of_ble_eq_true rfl) ⟨(Nat.le_of_ble_eq_true rfl), (Nat.le_of_ble_eq_true rfl)⟩ ⟨(Nat.le_of_ble_eq_true rfl), (Nat.le_of_ble_eq_true rfl)⟩ fun cf7 ⟨e7, e7_0, e7_1, e7_2, e7_3, e7_4, e7_5, e7_6, e7_7, e7_8, e7_9, e7_10, e7_11, e7_12, o7⟩ => ?_
  have e7 : cf7 3 = .inr (6, [.ref (base + 4), .ref (base + 5), .ref (base + 6), .ref (base + 11), .ref (base + 16), .int 0, .int 1]) := e7
  have e7_0 : cf7 4 = .inr (0, [.int 1, .int 0, .int 0, .int 1, .int 1, .int 0]) := e7_0
  have e7_1 : cf7 5 = .inr (3, [.int 0, .int 24, .int 0, .int 0]) := e7_1
  have e7_2 : cf7 6 = .inr (2, [.int 0, .ref (base + 7), .ref (base + 8), .ref (base + 9), .ref (base + 10)]) := e7_2
  have e7_3 : cf7 7 = .inl (cI, 5, .inl (fun _ => 0)) := e7_3
  have e7_4 : cf7 8 = .inl (cI, 5, .inl (fun _ => 0)) := e7_4
  have e7_5 : cf7 9 = .inl (cI, 5, .inl (fun _ => 0)) := e7_5
  have e7_6 : cf7 10 = .inl (cZ, 5, .inl (fun _ => 0)) := e7_6
  have e7_7 : cf7 11 = .inr (1, [.int 0, .ref (base + 12), .ref (base + 13), .ref (base + 14), .ref (base + 15)]) := e7_7
  have e7_8 : cf7 12 = .inl (cI, 24, .inl (fun _ => 0)) := e7_8
  have e7_9 : cf7 13 = .inl (cI, 24, .inl (fun _ => 0)) := e7_9
  have e7_10 : cf7 14 = .inl (cI, 24, .inl (fun _ => 0)) := e7_10
  have e7_11 : cf7 15 = .inl (cI, 24, .inl (fun _ => 0)) := e7_11
  have e7_12 : cf7 16 = .inl (cI, 7, .inl (fun _ => 0)) := e7_12
  have o7 : ∀ x, x ≠ 3 → x < 4 → cf7 x = cf6 x := o7
  refine cw_putF C hin ff_X7_26 dX7_init_33 (by decide) ((o7 0 (by decide) (by decide)).trans ((o6 0 (by decide)).trans e5)) rfl rfl (Nat.le_of_ble_eq_true rfl) fun cf8 e8 o8 => ?_
  have e8 : cf8 0 = .inr (7, [.ref (base + 1), .int 0, .int (-1), .ref (base + 3), .null, .null, .null, .null, .null, .null]) := e8
  have o8 : ∀ x, x ≠ 0 → cf8 x = cf7 x := o8
  refine cw_aload_n C dX7_init_36 0 rfl ?_
  refine cw_new C nw_X7_23 rfl dX7_init_37 ⟨(Nat.le_of_ble_eq_true rfl), (Nat.le_of_ble_eq_true rfl)⟩ fun cf9 e9 o9 => ?_
  have o9 : ∀ x, x ≠ 17 → cf9 x = cf8 x := o9
  refine cw_dup C dX7_init_40 rfl ?_
  refine cw_call C cn_X7_25 dX7_init_41 (kc_X6 (by decide) e9) (Nat.le_of_ble_eq_true rfl) ⟨(Nat.le_of_ble_eq_true rfl), (Nat.le_of_ble_eq_true rfl)⟩ ⟨(Nat.le_of_ble_eq_true rfl), (Nat.le_of_ble_eq_true rfl)⟩ fun cf10 ⟨e10, e10_0, e10_1, e10_2, e10_3, e10_4, e10_5, e10_6, e10_7, e10_8, e10_9, e10_10, e10_11, e10_12, o10⟩ => ?_
  have e10 : cf10 17 = .inr (6, [.ref (base + 18), .ref (base + 19), .ref (base + 20), .ref (base + 25), .ref (base + 30), .int 0, .int 1]) := e10
  have e10_0 : cf10 18 = .inr (0, [.int 1, .int 0, .int 0, .int 1, .int 1, .int 0]) := e10_0
  have e10_1 : cf10 19 = .inr (3, [.int 0, .int 24, .int 0, .int 0]) := e10_1
  have e10_2 : cf10 20 = .inr (2, [.int 0, .ref (base + 21), .ref (base + 22), .ref (base + 23), .ref (base + 24)]) := e10_2
  have e10_3 : cf10 21 = .inl (cI, 5, .inl (fun _ => 0)) := e10_3
  have e10_4 : cf10 22 = .inl (cI, 5, .inl (fun _ => 0)) := e10_4
  have e10_5 : cf10 23 = .inl (cI, 5, .inl (fun _ => 0)) := e10_5
  have e10_6 : cf10 24 = .inl (cZ, 5, .inl (fun _ => 0)) := e10_6
  have e10_7 : cf10 25 = .inr (1, [.int 0, .ref (base + 26), .ref (base + 27), .ref (base + 28), .ref (base + 29)]) := e10_7
  have e10_8 : cf10 26 = .inl (cI, 24, .inl (fun _ => 0)) := e10_8
  have e10_9 : cf10 27 = .inl (cI, 24, .inl (fun _ => 0)) := e10_9
  have e10_10 : cf10 28 = .inl (cI, 24, .inl (fun _ => 0)) := e10_10
  have e10_11 : cf10 29 = .inl (cI, 24, .inl (fun _ => 0)) := e10_11
  have e10_12 : cf10 30 = .inl (cI, 7, .inl (fun _ => 0)) := e10_12
  have o10 : ∀ x, x ≠ 17 → x < 18 → cf10 x = cf9 x := o10
  refine cw_putF C hin ff_X7_30 dX7_init_44 (by decide) ((o10 0 (by decide) (by decide)).trans ((o9 0 (by decide)).trans e8)) rfl rfl (Nat.le_of_ble_eq_true rfl) fun cf11 e11 o11 => ?_
  have e11 : cf11 0 = .inr (7, [.ref (base + 1), .int 0, .int (-1), .ref (base + 3), .ref (base + 17), .null, .null, .null, .null, .null]) := e11
  have o11 : ∀ x, x ≠ 0 → cf11 x = cf10 x := o11
  refine cw_aload_n C dX7_init_47 0 rfl ?_
  refine cw_iconst C dX7_init_48 (v := (2 : Int32)) (by decide) ?_
  refine cw_newq C clk_X7_23 (t0 := 5) rfl dX7_init_49 (by decide) rfl (by decide) ⟨(Nat.le_of_ble_eq_true rfl), (Nat.le_of_ble_eq_true rfl)⟩ fun cf12 e12 o12 => ?_
  have o12 : ∀ x, x ≠ 31 → cf12 x = cf11 x := o12
  refine cw_putF C hin ff_X7_33 dX7_init_52 (by decide) ((o12 0 (by decide)).trans e11) rfl rfl (Nat.le_of_ble_eq_true rfl) fun cf13 e13 o13 => ?_
  have e13 : cf13 0 = .inr (7, [.ref (base + 1), .int 0, .int (-1), .ref (base + 3), .ref (base + 17), .ref (base + 31), .null, .null, .null, .null]) := e13
  have o13 : ∀ x, x ≠ 0 → cf13 x = cf12 x := o13
  refine cw_aload_n C dX7_init_55 0 rfl ?_
  refine cw_iconst C dX7_init_56 (v := (2 : Int32)) (by decide) ?_
  refine cw_newa C (atype := .boolean) ac_boolean (t0 := 3) rfl id dX7_init_57 (a0 := (2, .inl (fun _ => 0))) (fun _ => rfl) (by decide) rfl (by decide) ⟨(Nat.le_of_ble_eq_true rfl), (Nat.le_of_ble_eq_true rfl)⟩ fun cf14 e14 o14 => ?_
  have o14 : ∀ x, x ≠ 32 → cf14 x = cf13 x := o14
  refine cw_putF C hin ff_X7_37 dX7_init_59 (by decide) ((o14 0 (by decide)).trans e13) rfl rfl (Nat.le_of_ble_eq_true rfl) fun cf15 e15 o15 => ?_
  have e15 : cf15 0 = .inr (7, [.ref (base + 1), .int 0, .int (-1), .ref (base + 3), .ref (base + 17), .ref (base + 31), .ref (base + 32), .null, .null, .null]) := e15
  have o15 : ∀ x, x ≠ 0 → cf15 x = cf14 x := o15
  refine cw_aload_n C dX7_init_62 0 rfl ?_
  refine cw_new C nw_X7_41 rfl dX7_init_63 ⟨(Nat.le_of_ble_eq_true rfl), (Nat.le_of_ble_eq_true rfl)⟩ fun cf16 e16 o16 => ?_
  have o16 : ∀ x, x ≠ 33 → cf16 x = cf15 x := o16
  refine cw_dup C dX7_init_66 rfl ?_
  refine cw_call C cn_X7_43 dX7_init_67 (kc_X4 (by decide) e16) (Nat.le_of_ble_eq_true rfl) ⟨(Nat.le_of_ble_eq_true rfl), (Nat.le_of_ble_eq_true rfl)⟩ ⟨(Nat.le_of_ble_eq_true rfl), (Nat.le_of_ble_eq_true rfl)⟩ fun cf17 ⟨e17, e17_0, e17_1, e17_2, o17⟩ => ?_
  have e17 : cf17 33 = .inr (4, [.ref (base + 34), .ref (base + 35), .ref (base + 36)]) := e17
  have e17_0 : cf17 34 = .inl (cJ, 501, .inr (.inl (fun _ => 0))) := e17_0
  have e17_1 : cf17 35 = .inl (cJ, 501, .inr (.inl (fun _ => 0))) := e17_1
  have e17_2 : cf17 36 = .inl (cJ, 501, .inr (.inl (fun _ => 0))) := e17_2
  have o17 : ∀ x, x ≠ 33 → x < 34 → cf17 x = cf16 x := o17
  refine cw_putF C hin ff_X7_44 dX7_init_70 (by decide) ((o17 0 (by decide) (by decide)).trans ((o16 0 (by decide)).trans e15)) rfl rfl (Nat.le_of_ble_eq_true rfl) fun cf18 e18 o18 => ?_
  have e18 : cf18 0 = .inr (7, [.ref (base + 1), .int 0, .int (-1), .ref (base + 3), .ref (base + 17), .ref (base + 31), .ref (base + 32), .ref (base + 33), .null, .null]) := e18
  have o18 : ∀ x, x ≠ 0 → cf18 x = cf17 x := o18
  refine cw_aload_n C dX7_init_73 0 rfl ?_
  refine cw_new C nw_X7_48 rfl dX7_init_74 ⟨(Nat.le_of_ble_eq_true rfl), (Nat.le_of_ble_eq_true rfl)⟩ fun cf19 e19 o19 => ?_
  have o19 : ∀ x, x ≠ 37 → cf19 x = cf18 x := o19
  refine cw_dup C dX7_init_77 rfl ?_
  refine cw_call C cn_X7_50 dX7_init_78 (kc_X0 (by decide) e19) (Nat.le_of_ble_eq_true rfl) ⟨(Nat.le_of_ble_eq_true rfl), (Nat.le_of_ble_eq_true rfl)⟩ ⟨(Nat.le_of_ble_eq_true rfl), (Nat.le_of_ble_eq_true rfl)⟩ fun cf20 ⟨e20, o20⟩ => ?_
  have e20 : cf20 37 = .inr (0, [.int 1, .int 0, .int 0, .int 1, .int 1, .int 0]) := e20
  have o20 : ∀ x, x ≠ 37 → x < 38 → cf20 x = cf19 x := o20
  refine cw_putF C hin ff_X7_51 dX7_init_81 (by decide) ((o20 0 (by decide) (by decide)).trans ((o19 0 (by decide)).trans e18)) rfl rfl (Nat.le_of_ble_eq_true rfl) fun cf21 e21 o21 => ?_
  have e21 : cf21 0 = .inr (7, [.ref (base + 1), .int 0, .int (-1), .ref (base + 3), .ref (base + 17), .ref (base + 31), .ref (base + 32), .ref (base + 33), .ref (base + 37), .null]) := e21
  have o21 : ∀ x, x ≠ 0 → cf21 x = cf20 x := o21
  refine cw_aload_n C dX7_init_84 0 rfl ?_
  refine cw_new C nw_X7_55 rfl dX7_init_85 ⟨(Nat.le_of_ble_eq_true rfl), (Nat.le_of_ble_eq_true rfl)⟩ fun cf22 e22 o22 => ?_
  have o22 : ∀ x, x ≠ 38 → cf22 x = cf21 x := o22
  refine cw_dup C dX7_init_88 rfl ?_
  refine cw_call C cn_X7_57 dX7_init_89 (kc_X1 (by decide) e22) (Nat.le_of_ble_eq_true rfl) ⟨(Nat.le_of_ble_eq_true rfl), (Nat.le_of_ble_eq_true rfl)⟩ ⟨(Nat.le_of_ble_eq_true rfl), (Nat.le_of_ble_eq_true rfl)⟩ fun cf23 ⟨e23, e23_0, e23_1, e23_2, e23_3, o23⟩ => ?_
  have e23 : cf23 38 = .inr (1, [.int 0, .ref (base + 39), .ref (base + 40), .ref (base + 41), .ref (base + 42)]) := e23
  have e23_0 : cf23 39 = .inl (cI, 24, .inl (fun _ => 0)) := e23_0
  have e23_1 : cf23 40 = .inl (cI, 24, .inl (fun _ => 0)) := e23_1
  have e23_2 : cf23 41 = .inl (cI, 24, .inl (fun _ => 0)) := e23_2
  have e23_3 : cf23 42 = .inl (cI, 24, .inl (fun _ => 0)) := e23_3
  have o23 : ∀ x, x ≠ 38 → x < 39 → cf23 x = cf22 x := o23
  refine cw_putF C hin ff_X7_58 dX7_init_92 (by decide) ((o23 0 (by decide) (by decide)).trans ((o22 0 (by decide)).trans e21)) rfl rfl (Nat.le_of_ble_eq_true rfl) fun cf24 e24 o24 => ?_
  have e24 : cf24 0 = .inr (7, [.ref (base + 1), .int 0, .int (-1), .ref (base + 3), .ref (base + 17), .ref (base + 31), .ref (base + 32), .ref (base + 33), .ref (base + 37), .ref (base + 38)]) := e24
  have o24 : ∀ x, x ≠ 0 → cf24 x = cf23 x := o24
  refine cw_iconst C dX7_init_95 (v := (0 : Int32)) (by decide) ?_
  refine cw_istore_n C dX7_init_96 rfl (Nat.le_of_ble_eq_true rfl) ?_
  refine cw_iload_n C dX7_init_97 0 rfl ?_
  refine cw_iconst C dX7_init_98 (v := (2 : Int32)) (by decide) ?_
  refine cw_icmp_ge C dX7_init_99 (fun h9 => absurd h9 (by decide)) (fun _ => ?_)
  refine cw_aload_n C dX7_init_102 1 rfl ?_
  refine cw_get C fl_X7_33 dX7_init_103 (by decide) e24 rfl ?_
  refine cw_iload_n C dX7_init_106 0 rfl ?_
  refine cw_new C nw_X7_23 rfl dX7_init_107 ⟨(Nat.le_of_ble_eq_true rfl), (Nat.le_of_ble_eq_true rfl)⟩ fun cf25 e25 o25 => ?_
  have o25 : ∀ x, x ≠ 43 → cf25 x = cf24 x := o25
  refine cw_dup C dX7_init_110 rfl ?_
  refine cw_call C cn_X7_25 dX7_init_111 (kc_X6 (by decide) e25) (Nat.le_of_ble_eq_true rfl) ⟨(Nat.le_of_ble_eq_true rfl), (Nat.le_of_ble_eq_true rfl)⟩ ⟨(Nat.le_of_ble_eq_true rfl), (Nat.le_of_ble_eq_true rfl)⟩ fun cf26 ⟨e26, e26_0, e26_1, e26_2, e26_3, e26_4, e26_5, e26_6, e26_7, e26_8, e26_9, e26_10, e26_11, e26_12, o26⟩ => ?_
  have e26 : cf26 43 = .inr (6, [.ref (base + 44), .ref (base + 45), .ref (base + 46), .ref (base + 51), .ref (base + 56), .int 0, .int 1]) := e26
  have e26_0 : cf26 44 = .inr (0, [.int 1, .int 0, .int 0, .int 1, .int 1, .int 0]) := e26_0
  have e26_1 : cf26 45 = .inr (3, [.int 0, .int 24, .int 0, .int 0]) := e26_1
  have e26_2 : cf26 46 = .inr (2, [.int 0, .ref (base + 47), .ref (base + 48), .ref (base + 49), .ref (base + 50)]) := e26_2
  have e26_3 : cf26 47 = .inl (cI, 5, .inl (fun _ => 0)) := e26_3
  have e26_4 : cf26 48 = .inl (cI, 5, .inl (fun _ => 0)) := e26_4
  have e26_5 : cf26 49 = .inl (cI, 5, .inl (fun _ => 0)) := e26_5
  have e26_6 : cf26 50 = .inl (cZ, 5, .inl (fun _ => 0)) := e26_6
  have e26_7 : cf26 51 = .inr (1, [.int 0, .ref (base + 52), .ref (base + 53), .ref (base + 54), .ref (base + 55)]) := e26_7
  have e26_8 : cf26 52 = .inl (cI, 24, .inl (fun _ => 0)) := e26_8
  have e26_9 : cf26 53 = .inl (cI, 24, .inl (fun _ => 0)) := e26_9
  have e26_10 : cf26 54 = .inl (cI, 24, .inl (fun _ => 0)) := e26_10
  have e26_11 : cf26 55 = .inl (cI, 24, .inl (fun _ => 0)) := e26_11
  have e26_12 : cf26 56 = .inl (cI, 7, .inl (fun _ => 0)) := e26_12
  have o26 : ∀ x, x ≠ 43 → x < 44 → cf26 x = cf25 x := o26
  refine cw_aast C (t0 := 5) (r := (RX6, TX6, 7)) (by decide) ((o26 31 (by decide) (by decide)).trans ((o25 31 (by decide)).trans ((o24 31 (by decide)).trans ((o23 31 (by decide) (by decide)).trans ((o22 31 (by decide)).trans ((o21 31 (by decide)).trans ((o20 31 (by decide) (by decide)).trans ((o19 31 (by decide)).trans ((o18 31 (by decide)).trans ((o17 31 (by decide) (by decide)).trans ((o16 31 (by decide)).trans ((o15 31 (by decide)).trans ((o14 31 (by decide)).trans ((o13 31 (by decide)).trans e12)))))))))))))) rfl (by decide) e26 rfl dX7_init_114 (by decide) rfl fun cf27 e27 o27 => ?_
  have o27 : ∀ x, x ≠ 31 → cf27 x = cf26 x := o27
  refine cw_iinc C dX7_init_115 0 rfl (v := (1 : Int32)) (by decide) rfl (Nat.le_of_ble_eq_true rfl) ?_
  refine cw_goto C dX7_init_118 ?_
  refine cw_iload_n C dX7_init_97 0 rfl ?_
  refine cw_iconst C dX7_init_98 (v := (2 : Int32)) (by decide) ?_
  refine cw_icmp_ge C dX7_init_99 (fun h9 => absurd h9 (by decide)) (fun _ => ?_)
  refine cw_aload_n C dX7_init_102 1 rfl ?_
  refine cw_get C fl_X7_33 dX7_init_103 (by decide) ((o27 0 (by decide)).trans ((o26 0 (by decide) (by decide)).trans ((o25 0 (by decide)).trans e24))) rfl ?_
  refine cw_iload_n C dX7_init_106 0 rfl ?_
  refine cw_new C nw_X7_23 rfl dX7_init_107 ⟨(Nat.le_of_ble_eq_true rfl), (Nat.le_of_ble_eq_true rfl)⟩ fun cf28 e28 o28 => ?_
  have o28 : ∀ x, x ≠ 57 → cf28 x = cf27 x := o28
  refine cw_dup C dX7_init_110 rfl ?_
  refine cw_call C cn_X7_25 dX7_init_111 (kc_X6 (by decide) e28) (Nat.le_of_ble_eq_true rfl) ⟨(Nat.le_of_ble_eq_true rfl), (Nat.le_of_ble_eq_true rfl)⟩ ⟨(Nat.le_of_ble_eq_true rfl), (Nat.le_of_ble_eq_true rfl)⟩ fun cf29 ⟨e29, e29_0, e29_1, e29_2, e29_3, e29_4, e29_5, e29_6, e29_7, e29_8, e29_9, e29_10, e29_11, e29_12, o29⟩ => ?_
  have e29 : cf29 57 = .inr (6, [.ref (base + 58), .ref (base + 59), .ref (base + 60), .ref (base + 65), .ref (base + 70), .int 0, .int 1]) := e29
  have e29_0 : cf29 58 = .inr (0, [.int 1, .int 0, .int 0, .int 1, .int 1, .int 0]) := e29_0
  have e29_1 : cf29 59 = .inr (3, [.int 0, .int 24, .int 0, .int 0]) := e29_1
  have e29_2 : cf29 60 = .inr (2, [.int 0, .ref (base + 61), .ref (base + 62), .ref (base + 63), .ref (base + 64)]) := e29_2
  have e29_3 : cf29 61 = .inl (cI, 5, .inl (fun _ => 0)) := e29_3
  have e29_4 : cf29 62 = .inl (cI, 5, .inl (fun _ => 0)) := e29_4
  have e29_5 : cf29 63 = .inl (cI, 5, .inl (fun _ => 0)) := e29_5
  have e29_6 : cf29 64 = .inl (cZ, 5, .inl (fun _ => 0)) := e29_6
  have e29_7 : cf29 65 = .inr (1, [.int 0, .ref (base + 66), .ref (base + 67), .ref (base + 68), .ref (base + 69)]) := e29_7
  have e29_8 : cf29 66 = .inl (cI, 24, .inl (fun _ => 0)) := e29_8
  have e29_9 : cf29 67 = .inl (cI, 24, .inl (fun _ => 0)) := e29_9
  have e29_10 : cf29 68 = .inl (cI, 24, .inl (fun _ => 0)) := e29_10
  have e29_11 : cf29 69 = .inl (cI, 24, .inl (fun _ => 0)) := e29_11
  have e29_12 : cf29 70 = .inl (cI, 7, .inl (fun _ => 0)) := e29_12
  have o29 : ∀ x, x ≠ 57 → x < 58 → cf29 x = cf28 x := o29
  refine cw_aast C (t0 := 5) (r := (RX6, TX6, 7)) (by decide) ((o29 31 (by decide) (by decide)).trans ((o28 31 (by decide)).trans e27)) rfl (by decide) e29 rfl dX7_init_114 (by decide) rfl fun cf30 e30 o30 => ?_
  have o30 : ∀ x, x ≠ 31 → cf30 x = cf29 x := o30
  refine cw_iinc C dX7_init_115 0 rfl (v := (2 : Int32)) (by decide) rfl (Nat.le_of_ble_eq_true rfl) ?_
  refine cw_goto C dX7_init_118 ?_
  refine cw_iload_n C dX7_init_97 0 rfl ?_
  refine cw_iconst C dX7_init_98 (v := (2 : Int32)) (by decide) ?_
  refine cw_icmp_ge C dX7_init_99 (fun _ => ?_) (fun h9 => absurd (by decide) h9)
  refine cw_aload_n C dX7_init_121 1 rfl ?_
  refine cw_get C fl_X7_26 dX7_init_122 (by decide) ((o30 0 (by decide)).trans ((o29 0 (by decide) (by decide)).trans ((o28 0 (by decide)).trans ((o27 0 (by decide)).trans ((o26 0 (by decide) (by decide)).trans ((o25 0 (by decide)).trans e24)))))) rfl ?_
  refine cw_get C fl_X7_62 dX7_init_125 (by decide) ((o30 3 (by decide)).trans ((o29 3 (by decide) (by decide)).trans ((o28 3 (by decide)).trans ((o27 3 (by decide)).trans ((o26 3 (by decide) (by decide)).trans ((o25 3 (by decide)).trans ((o24 3 (by decide)).trans ((o23 3 (by decide) (by decide)).trans ((o22 3 (by decide)).trans ((o21 3 (by decide)).trans ((o20 3 (by decide) (by decide)).trans ((o19 3 (by decide)).trans ((o18 3 (by decide)).trans ((o17 3 (by decide) (by decide)).trans ((o16 3 (by decide)).trans ((o15 3 (by decide)).trans ((o14 3 (by decide)).trans ((o13 3 (by decide)).trans ((o12 3 (by decide)).trans ((o11 3 (by decide)).trans ((o10 3 (by decide) (by decide)).trans ((o9 3 (by decide)).trans ((o8 3 (by decide)).trans e7))))))))))))))))))))))) rfl ?_
  refine cw_bipush C dX7_init_128 (v := (100 : Int32)) (by decide) ?_
  refine cw_put C fp_X7_65 dX7_init_130 (by decide) ((o30 4 (by decide)).trans ((o29 4 (by decide) (by decide)).trans ((o28 4 (by decide)).trans ((o27 4 (by decide)).trans ((o26 4 (by decide) (by decide)).trans ((o25 4 (by decide)).trans ((o24 4 (by decide)).trans ((o23 4 (by decide) (by decide)).trans ((o22 4 (by decide)).trans ((o21 4 (by decide)).trans ((o20 4 (by decide) (by decide)).trans ((o19 4 (by decide)).trans ((o18 4 (by decide)).trans ((o17 4 (by decide) (by decide)).trans ((o16 4 (by decide)).trans ((o15 4 (by decide)).trans ((o14 4 (by decide)).trans ((o13 4 (by decide)).trans ((o12 4 (by decide)).trans ((o11 4 (by decide)).trans ((o10 4 (by decide) (by decide)).trans ((o9 4 (by decide)).trans ((o8 4 (by decide)).trans e7_0))))))))))))))))))))))) rfl rfl (Nat.le_of_ble_eq_true rfl) fun cf31 e31 o31 => ?_
  have e31 : cf31 4 = .inr (0, [.int 100, .int 0, .int 0, .int 1, .int 1, .int 0]) := e31
  have o31 : ∀ x, x ≠ 4 → cf31 x = cf30 x := o31
  refine cw_aload_n C dX7_init_133 1 rfl ?_
  refine cw_get C fl_X7_26 dX7_init_134 (by decide) ((o31 0 (by decide)).trans ((o30 0 (by decide)).trans ((o29 0 (by decide) (by decide)).trans ((o28 0 (by decide)).trans ((o27 0 (by decide)).trans ((o26 0 (by decide) (by decide)).trans ((o25 0 (by decide)).trans e24))))))) rfl ?_
  refine cw_get C fl_X7_62 dX7_init_137 (by decide) ((o31 3 (by decide)).trans ((o30 3 (by decide)).trans ((o29 3 (by decide) (by decide)).trans ((o28 3 (by decide)).trans ((o27 3 (by decide)).trans ((o26 3 (by decide) (by decide)).trans ((o25 3 (by decide)).trans ((o24 3 (by decide)).trans ((o23 3 (by decide) (by decide)).trans ((o22 3 (by decide)).trans ((o21 3 (by decide)).trans ((o20 3 (by decide) (by decide)).trans ((o19 3 (by decide)).trans ((o18 3 (by decide)).trans ((o17 3 (by decide) (by decide)).trans ((o16 3 (by decide)).trans ((o15 3 (by decide)).trans ((o14 3 (by decide)).trans ((o13 3 (by decide)).trans ((o12 3 (by decide)).trans ((o11 3 (by decide)).trans ((o10 3 (by decide) (by decide)).trans ((o9 3 (by decide)).trans ((o8 3 (by decide)).trans e7)))))))))))))))))))))))) rfl ?_
  refine cw_bipush C dX7_init_140 (v := (100 : Int32)) (by decide) ?_
  refine cw_put C fp_X7_68 dX7_init_142 (by decide) e31 rfl rfl (Nat.le_of_ble_eq_true rfl) fun cf32 e32 o32 => ?_
  have e32 : cf32 4 = .inr (0, [.int 100, .int 100, .int 0, .int 1, .int 1, .int 0]) := e32
  have o32 : ∀ x, x ≠ 4 → cf32 x = cf31 x := o32
  refine cw_aload_n C dX7_init_145 1 rfl ?_
  refine cw_get C fl_X7_26 dX7_init_146 (by decide) ((o32 0 (by decide)).trans ((o31 0 (by decide)).trans ((o30 0 (by decide)).trans ((o29 0 (by decide) (by decide)).trans ((o28 0 (by decide)).trans ((o27 0 (by decide)).trans ((o26 0 (by decide) (by decide)).trans ((o25 0 (by decide)).trans e24)))))))) rfl ?_
  refine cw_get C fl_X7_62 dX7_init_149 (by decide) ((o32 3 (by decide)).trans ((o31 3 (by decide)).trans ((o30 3 (by decide)).trans ((o29 3 (by decide) (by decide)).trans ((o28 3 (by decide)).trans ((o27 3 (by decide)).trans ((o26 3 (by decide) (by decide)).trans ((o25 3 (by decide)).trans ((o24 3 (by decide)).trans ((o23 3 (by decide) (by decide)).trans ((o22 3 (by decide)).trans ((o21 3 (by decide)).trans ((o20 3 (by decide) (by decide)).trans ((o19 3 (by decide)).trans ((o18 3 (by decide)).trans ((o17 3 (by decide) (by decide)).trans ((o16 3 (by decide)).trans ((o15 3 (by decide)).trans ((o14 3 (by decide)).trans ((o13 3 (by decide)).trans ((o12 3 (by decide)).trans ((o11 3 (by decide)).trans ((o10 3 (by decide) (by decide)).trans ((o9 3 (by decide)).trans ((o8 3 (by decide)).trans e7))))))))))))))))))))))))) rfl ?_
  refine cw_bipush C dX7_init_152 (v := (10 : Int32)) (by decide) ?_
  refine cw_put C fp_X7_71 dX7_init_154 (by decide) e32 rfl rfl (Nat.le_of_ble_eq_true rfl) fun cf33 e33 o33 => ?_
  have e33 : cf33 4 = .inr (0, [.int 100, .int 100, .int 10, .int 1, .int 1, .int 0]) := e33
  have o33 : ∀ x, x ≠ 4 → cf33 x = cf32 x := o33
  refine cw_aload_n C dX7_init_157 1 rfl ?_
  refine cw_get C fl_X7_26 dX7_init_158 (by decide) ((o33 0 (by decide)).trans ((o32 0 (by decide)).trans ((o31 0 (by decide)).trans ((o30 0 (by decide)).trans ((o29 0 (by decide) (by decide)).trans ((o28 0 (by decide)).trans ((o27 0 (by decide)).trans ((o26 0 (by decide) (by decide)).trans ((o25 0 (by decide)).trans e24))))))))) rfl ?_
  refine cw_get C fl_X7_62 dX7_init_161 (by decide) ((o33 3 (by decide)).trans ((o32 3 (by decide)).trans ((o31 3 (by decide)).trans ((o30 3 (by decide)).trans ((o29 3 (by decide) (by decide)).trans ((o28 3 (by decide)).trans ((o27 3 (by decide)).trans ((o26 3 (by decide) (by decide)).trans ((o25 3 (by decide)).trans ((o24 3 (by decide)).trans ((o23 3 (by decide) (by decide)).trans ((o22 3 (by decide)).trans ((o21 3 (by decide)).trans ((o20 3 (by decide) (by decide)).trans ((o19 3 (by decide)).trans ((o18 3 (by decide)).trans ((o17 3 (by decide) (by decide)).trans ((o16 3 (by decide)).trans ((o15 3 (by decide)).trans ((o14 3 (by decide)).trans ((o13 3 (by decide)).trans ((o12 3 (by decide)).trans ((o11 3 (by decide)).trans ((o10 3 (by decide) (by decide)).trans ((o9 3 (by decide)).trans ((o8 3 (by decide)).trans e7)))))))))))))))))))))))))) rfl ?_
  refine cw_iconst C dX7_init_164 (v := (1 : Int32)) (by decide) ?_
  refine cw_put C fp_X7_74 dX7_init_165 (by decide) e33 rfl rfl (Nat.le_of_ble_eq_true rfl) fun cf34 e34 o34 => ?_
  have e34 : cf34 4 = .inr (0, [.int 100, .int 100, .int 10, .int 1, .int 1, .int 0]) := e34
  have o34 : ∀ x, x ≠ 4 → cf34 x = cf33 x := o34
  refine cw_aload_n C dX7_init_168 1 rfl ?_
  refine cw_get C fl_X7_26 dX7_init_169 (by decide) ((o34 0 (by decide)).trans ((o33 0 (by decide)).trans ((o32 0 (by decide)).trans ((o31 0 (by decide)).trans ((o30 0 (by decide)).trans ((o29 0 (by decide) (by decide)).trans ((o28 0 (by decide)).trans ((o27 0 (by decide)).trans ((o26 0 (by decide) (by decide)).trans ((o25 0 (by decide)).trans e24)))))))))) rfl ?_
  refine cw_get C fl_X7_62 dX7_init_172 (by decide) ((o34 3 (by decide)).trans ((o33 3 (by decide)).trans ((o32 3 (by decide)).trans ((o31 3 (by decide)).trans ((o30 3 (by decide)).trans ((o29 3 (by decide) (by decide)).trans ((o28 3 (by decide)).trans ((o27 3 (by decide)).trans ((o26 3 (by decide) (by decide)).trans ((o25 3 (by decide)).trans ((o24 3 (by decide)).trans ((o23 3 (by decide) (by decide)).trans ((o22 3 (by decide)).trans ((o21 3 (by decide)).trans ((o20 3 (by decide) (by decide)).trans ((o19 3 (by decide)).trans ((o18 3 (by decide)).trans ((o17 3 (by decide) (by decide)).trans ((o16 3 (by decide)).trans ((o15 3 (by decide)).trans ((o14 3 (by decide)).trans ((o13 3 (by decide)).trans ((o12 3 (by decide)).trans ((o11 3 (by decide)).trans ((o10 3 (by decide) (by decide)).trans ((o9 3 (by decide)).trans ((o8 3 (by decide)).trans e7))))))))))))))))))))))))))) rfl ?_
  refine cw_bipush C dX7_init_175 (v := (100 : Int32)) (by decide) ?_
  refine cw_put C fp_X7_77 dX7_init_177 (by decide) e34 rfl rfl (Nat.le_of_ble_eq_true rfl) fun cf35 e35 o35 => ?_
  have e35 : cf35 4 = .inr (0, [.int 100, .int 100, .int 10, .int 1, .int 100, .int 0]) := e35
  have o35 : ∀ x, x ≠ 4 → cf35 x = cf34 x := o35
  exact cw_vret C hr dX7_init_180 ⟨all71 (fun _ => ((o35 0 (by decide)).trans ((o34 0 (by decide)).trans ((o33 0 (by decide)).trans ((o32 0 (by decide)).trans ((o31 0 (by decide)).trans ((o30 0 (by decide)).trans ((o29 0 (by decide) (by decide)).trans ((o28 0 (by decide)).trans ((o27 0 (by decide)).trans ((o26 0 (by decide) (by decide)).trans ((o25 0 (by decide)).trans e24)))))))))))) (fun _ => ((o35 1 (by decide)).trans ((o34 1 (by decide)).trans ((o33 1 (by decide)).trans ((o32 1 (by decide)).trans ((o31 1 (by decide)).trans ((o30 1 (by decide)).trans ((o29 1 (by decide) (by decide)).trans ((o28 1 (by decide)).trans ((o27 1 (by decide)).trans ((o26 1 (by decide) (by decide)).trans ((o25 1 (by decide)).trans ((o24 1 (by decide)).trans ((o23 1 (by decide) (by decide)).trans ((o22 1 (by decide)).trans ((o21 1 (by decide)).trans ((o20 1 (by decide) (by decide)).trans ((o19 1 (by decide)).trans ((o18 1 (by decide)).trans ((o17 1 (by decide) (by decide)).trans ((o16 1 (by decide)).trans ((o15 1 (by decide)).trans ((o14 1 (by decide)).trans ((o13 1 (by decide)).trans ((o12 1 (by decide)).trans ((o11 1 (by decide)).trans ((o10 1 (by decide) (by decide)).trans ((o9 1 (by decide)).trans ((o8 1 (by decide)).trans ((o7 1 (by decide) (by decide)).trans ((o6 1 (by decide)).trans ((o5 1 (by decide)).trans ((o4 1 (by decide)).trans ((o3 1 (by decide)).trans e2)))))))))))))))))))))))))))))))))) (fun _ => ((o35 2 (by decide)).trans ((o34 2 (by decide)).trans ((o33 2 (by decide)).trans ((o32 2 (by decide)).trans ((o31 2 (by decide)).trans ((o30 2 (by decide)).trans ((o29 2 (by decide) (by decide)).trans ((o28 2 (by decide)).trans ((o27 2 (by decide)).trans ((o26 2 (by decide) (by decide)).trans ((o25 2 (by decide)).trans ((o24 2 (by decide)).trans ((o23 2 (by decide) (by decide)).trans ((o22 2 (by decide)).trans ((o21 2 (by decide)).trans ((o20 2 (by decide) (by decide)).trans ((o19 2 (by decide)).trans ((o18 2 (by decide)).trans ((o17 2 (by decide) (by decide)).trans ((o16 2 (by decide)).trans ((o15 2 (by decide)).trans ((o14 2 (by decide)).trans ((o13 2 (by decide)).trans ((o12 2 (by decide)).trans ((o11 2 (by decide)).trans ((o10 2 (by decide) (by decide)).trans ((o9 2 (by decide)).trans ((o8 2 (by decide)).trans ((o7 2 (by decide) (by decide)).trans ((o6 2 (by decide)).trans ((o5 2 (by decide)).trans ((o4 2 (by decide)).trans ((o3 2 (by decide)).trans e2_0)))))))))))))))))))))))))))))))))) (fun h => absurd rfl h) (fun _ => ((o35 32 (by decide)).trans ((o34 32 (by decide)).trans ((o33 32 (by decide)).trans ((o32 32 (by decide)).trans ((o31 32 (by decide)).trans ((o30 32 (by decide)).trans ((o29 32 (by decide) (by decide)).trans ((o28 32 (by decide)).trans ((o27 32 (by decide)).trans ((o26 32 (by decide) (by decide)).trans ((o25 32 (by decide)).trans ((o24 32 (by decide)).trans ((o23 32 (by decide) (by decide)).trans ((o22 32 (by decide)).trans ((o21 32 (by decide)).trans ((o20 32 (by decide) (by decide)).trans ((o19 32 (by decide)).trans ((o18 32 (by decide)).trans ((o17 32 (by decide) (by decide)).trans ((o16 32 (by decide)).trans ((o15 32 (by decide)).trans e14)))))))))))))))))))))) (fun _ => ((o35 33 (by decide)).trans ((o34 33 (by decide)).trans ((o33 33 (by decide)).trans ((o32 33 (by decide)).trans ((o31 33 (by decide)).trans ((o30 33 (by decide)).trans ((o29 33 (by decide) (by decide)).trans ((o28 33 (by decide)).trans ((o27 33 (by decide)).trans ((o26 33 (by decide) (by decide)).trans ((o25 33 (by decide)).trans ((o24 33 (by decide)).trans ((o23 33 (by decide) (by decide)).trans ((o22 33 (by decide)).trans ((o21 33 (by decide)).trans ((o20 33 (by decide) (by decide)).trans ((o19 33 (by decide)).trans ((o18 33 (by decide)).trans e17))))))))))))))))))) (fun _ => ((o35 34 (by decide)).trans ((o34 34 (by decide)).trans ((o33 34 (by decide)).trans ((o32 34 (by decide)).trans ((o31 34 (by decide)).trans ((o30 34 (by decide)).trans ((o29 34 (by decide) (by decide)).trans ((o28 34 (by decide)).trans ((o27 34 (by decide)).trans ((o26 34 (by decide) (by decide)).trans ((o25 34 (by decide)).trans ((o24 34 (by decide)).trans ((o23 34 (by decide) (by decide)).trans ((o22 34 (by decide)).trans ((o21 34 (by decide)).trans ((o20 34 (by decide) (by decide)).trans ((o19 34 (by decide)).trans ((o18 34 (by decide)).trans e17_0))))))))))))))))))) (fun _ => ((o35 35 (by decide)).trans ((o34 35 (by decide)).trans ((o33 35 (by decide)).trans ((o32 35 (by decide)).trans ((o31 35 (by decide)).trans ((o30 35 (by decide)).trans ((o29 35 (by decide) (by decide)).trans ((o28 35 (by decide)).trans ((o27 35 (by decide)).trans ((o26 35 (by decide) (by decide)).trans ((o25 35 (by decide)).trans ((o24 35 (by decide)).trans ((o23 35 (by decide) (by decide)).trans ((o22 35 (by decide)).trans ((o21 35 (by decide)).trans ((o20 35 (by decide) (by decide)).trans ((o19 35 (by decide)).trans ((o18 35 (by decide)).trans e17_1))))))))))))))))))) (fun _ => ((o35 36 (by decide)).trans ((o34 36 (by decide)).trans ((o33 36 (by decide)).trans ((o32 36 (by decide)).trans ((o31 36 (by decide)).trans ((o30 36 (by decide)).trans ((o29 36 (by decide) (by decide)).trans ((o28 36 (by decide)).trans ((o27 36 (by decide)).trans ((o26 36 (by decide) (by decide)).trans ((o25 36 (by decide)).trans ((o24 36 (by decide)).trans ((o23 36 (by decide) (by decide)).trans ((o22 36 (by decide)).trans ((o21 36 (by decide)).trans ((o20 36 (by decide) (by decide)).trans ((o19 36 (by decide)).trans ((o18 36 (by decide)).trans e17_2))))))))))))))))))) (fun _ => ((o35 37 (by decide)).trans ((o34 37 (by decide)).trans ((o33 37 (by decide)).trans ((o32 37 (by decide)).trans ((o31 37 (by decide)).trans ((o30 37 (by decide)).trans ((o29 37 (by decide) (by decide)).trans ((o28 37 (by decide)).trans ((o27 37 (by decide)).trans ((o26 37 (by decide) (by decide)).trans ((o25 37 (by decide)).trans ((o24 37 (by decide)).trans ((o23 37 (by decide) (by decide)).trans ((o22 37 (by decide)).trans ((o21 37 (by decide)).trans e20)))))))))))))))) (fun _ => ((o35 38 (by decide)).trans ((o34 38 (by decide)).trans ((o33 38 (by decide)).trans ((o32 38 (by decide)).trans ((o31 38 (by decide)).trans ((o30 38 (by decide)).trans ((o29 38 (by decide) (by decide)).trans ((o28 38 (by decide)).trans ((o27 38 (by decide)).trans ((o26 38 (by decide) (by decide)).trans ((o25 38 (by decide)).trans ((o24 38 (by decide)).trans e23))))))))))))) (fun _ => ((o35 39 (by decide)).trans ((o34 39 (by decide)).trans ((o33 39 (by decide)).trans ((o32 39 (by decide)).trans ((o31 39 (by decide)).trans ((o30 39 (by decide)).trans ((o29 39 (by decide) (by decide)).trans ((o28 39 (by decide)).trans ((o27 39 (by decide)).trans ((o26 39 (by decide) (by decide)).trans ((o25 39 (by decide)).trans ((o24 39 (by decide)).trans e23_0))))))))))))) (fun _ => ((o35 40 (by decide)).trans ((o34 40 (by decide)).trans ((o33 40 (by decide)).trans ((o32 40 (by decide)).trans ((o31 40 (by decide)).trans ((o30 40 (by decide)).trans ((o29 40 (by decide) (by decide)).trans ((o28 40 (by decide)).trans ((o27 40 (by decide)).trans ((o26 40 (by decide) (by decide)).trans ((o25 40 (by decide)).trans ((o24 40 (by decide)).trans e23_1))))))))))))) (fun _ => ((o35 41 (by decide)).trans ((o34 41 (by decide)).trans ((o33 41 (by decide)).trans ((o32 41 (by decide)).trans ((o31 41 (by decide)).trans ((o30 41 (by decide)).trans ((o29 41 (by decide) (by decide)).trans ((o28 41 (by decide)).trans ((o27 41 (by decide)).trans ((o26 41 (by decide) (by decide)).trans ((o25 41 (by decide)).trans ((o24 41 (by decide)).trans e23_2))))))))))))) (fun _ => ((o35 42 (by decide)).trans ((o34 42 (by decide)).trans ((o33 42 (by decide)).trans ((o32 42 (by decide)).trans ((o31 42 (by decide)).trans ((o30 42 (by decide)).trans ((o29 42 (by decide) (by decide)).trans ((o28 42 (by decide)).trans ((o27 42 (by decide)).trans ((o26 42 (by decide) (by decide)).trans ((o25 42 (by decide)).trans ((o24 42 (by decide)).trans e23_3))))))))))))) (fun _ => ((o35 3 (by decide)).trans ((o34 3 (by decide)).trans ((o33 3 (by decide)).trans ((o32 3 (by decide)).trans ((o31 3 (by decide)).trans ((o30 3 (by decide)).trans ((o29 3 (by decide) (by decide)).trans ((o28 3 (by decide)).trans ((o27 3 (by decide)).trans ((o26 3 (by decide) (by decide)).trans ((o25 3 (by decide)).trans ((o24 3 (by decide)).trans ((o23 3 (by decide) (by decide)).trans ((o22 3 (by decide)).trans ((o21 3 (by decide)).trans ((o20 3 (by decide) (by decide)).trans ((o19 3 (by decide)).trans ((o18 3 (by decide)).trans ((o17 3 (by decide) (by decide)).trans ((o16 3 (by decide)).trans ((o15 3 (by decide)).trans ((o14 3 (by decide)).trans ((o13 3 (by decide)).trans ((o12 3 (by decide)).trans ((o11 3 (by decide)).trans ((o10 3 (by decide) (by decide)).trans ((o9 3 (by decide)).trans ((o8 3 (by decide)).trans e7))))))))))))))))))))))))))))) (fun _ => e35) (fun _ => ((o35 5 (by decide)).trans ((o34 5 (by decide)).trans ((o33 5 (by decide)).trans ((o32 5 (by decide)).trans ((o31 5 (by decide)).trans ((o30 5 (by decide)).trans ((o29 5 (by decide) (by decide)).trans ((o28 5 (by decide)).trans ((o27 5 (by decide)).trans ((o26 5 (by decide) (by decide)).trans ((o25 5 (by decide)).trans ((o24 5 (by decide)).trans ((o23 5 (by decide) (by decide)).trans ((o22 5 (by decide)).trans ((o21 5 (by decide)).trans ((o20 5 (by decide) (by decide)).trans ((o19 5 (by decide)).trans ((o18 5 (by decide)).trans ((o17 5 (by decide) (by decide)).trans ((o16 5 (by decide)).trans ((o15 5 (by decide)).trans ((o14 5 (by decide)).trans ((o13 5 (by decide)).trans ((o12 5 (by decide)).trans ((o11 5 (by decide)).trans ((o10 5 (by decide) (by decide)).trans ((o9 5 (by decide)).trans ((o8 5 (by decide)).trans e7_1))))))))))))))))))))))))))))) (fun _ => ((o35 6 (by decide)).trans ((o34 6 (by decide)).trans ((o33 6 (by decide)).trans ((o32 6 (by decide)).trans ((o31 6 (by decide)).trans ((o30 6 (by decide)).trans ((o29 6 (by decide) (by decide)).trans ((o28 6 (by decide)).trans ((o27 6 (by decide)).trans ((o26 6 (by decide) (by decide)).trans ((o25 6 (by decide)).trans ((o24 6 (by decide)).trans ((o23 6 (by decide) (by decide)).trans ((o22 6 (by decide)).trans ((o21 6 (by decide)).trans ((o20 6 (by decide) (by decide)).trans ((o19 6 (by decide)).trans ((o18 6 (by decide)).trans ((o17 6 (by decide) (by decide)).trans ((o16 6 (by decide)).trans ((o15 6 (by decide)).trans ((o14 6 (by decide)).trans ((o13 6 (by decide)).trans ((o12 6 (by decide)).trans ((o11 6 (by decide)).trans ((o10 6 (by decide) (by decide)).trans ((o9 6 (by decide)).trans ((o8 6 (by decide)).trans e7_2))))))))))))))))))))))))))))) (fun _ => ((o35 7 (by decide)).trans ((o34 7 (by decide)).trans ((o33 7 (by decide)).trans ((o32 7 (by decide)).trans ((o31 7 (by decide)).trans ((o30 7 (by decide)).trans ((o29 7 (by decide) (by decide)).trans ((o28 7 (by decide)).trans ((o27 7 (by decide)).trans ((o26 7 (by decide) (by decide)).trans ((o25 7 (by decide)).trans ((o24 7 (by decide)).trans ((o23 7 (by decide) (by decide)).trans ((o22 7 (by decide)).trans ((o21 7 (by decide)).trans ((o20 7 (by decide) (by decide)).trans ((o19 7 (by decide)).trans ((o18 7 (by decide)).trans ((o17 7 (by decide) (by decide)).trans ((o16 7 (by decide)).trans ((o15 7 (by decide)).trans ((o14 7 (by decide)).trans ((o13 7 (by decide)).trans ((o12 7 (by decide)).trans ((o11 7 (by decide)).trans ((o10 7 (by decide) (by decide)).trans ((o9 7 (by decide)).trans ((o8 7 (by decide)).trans e7_3))))))))))))))))))))))))))))) (fun _ => ((o35 8 (by decide)).trans ((o34 8 (by decide)).trans ((o33 8 (by decide)).trans ((o32 8 (by decide)).trans ((o31 8 (by decide)).trans ((o30 8 (by decide)).trans ((o29 8 (by decide) (by decide)).trans ((o28 8 (by decide)).trans ((o27 8 (by decide)).trans ((o26 8 (by decide) (by decide)).trans ((o25 8 (by decide)).trans ((o24 8 (by decide)).trans ((o23 8 (by decide) (by decide)).trans ((o22 8 (by decide)).trans ((o21 8 (by decide)).trans ((o20 8 (by decide) (by decide)).trans ((o19 8 (by decide)).trans ((o18 8 (by decide)).trans ((o17 8 (by decide) (by decide)).trans ((o16 8 (by decide)).trans ((o15 8 (by decide)).trans ((o14 8 (by decide)).trans ((o13 8 (by decide)).trans ((o12 8 (by decide)).trans ((o11 8 (by decide)).trans ((o10 8 (by decide) (by decide)).trans ((o9 8 (by decide)).trans ((o8 8 (by decide)).trans e7_4))))))))))))))))))))))))))))) (fun _ => ((o35 9 (by decide)).trans ((o34 9 (by decide)).trans ((o33 9 (by decide)).trans ((o32 9 (by decide)).trans ((o31 9 (by decide)).trans ((o30 9 (by decide)).trans ((o29 9 (by decide) (by decide)).trans ((o28 9 (by decide)).trans ((o27 9 (by decide)).trans ((o26 9 (by decide) (by decide)).trans ((o25 9 (by decide)).trans ((o24 9 (by decide)).trans ((o23 9 (by decide) (by decide)).trans ((o22 9 (by decide)).trans ((o21 9 (by decide)).trans ((o20 9 (by decide) (by decide)).trans ((o19 9 (by decide)).trans ((o18 9 (by decide)).trans ((o17 9 (by decide) (by decide)).trans ((o16 9 (by decide)).trans ((o15 9 (by decide)).trans ((o14 9 (by decide)).trans ((o13 9 (by decide)).trans ((o12 9 (by decide)).trans ((o11 9 (by decide)).trans ((o10 9 (by decide) (by decide)).trans ((o9 9 (by decide)).trans ((o8 9 (by decide)).trans e7_5))))))))))))))))))))))))))))) (fun _ => ((o35 10 (by decide)).trans ((o34 10 (by decide)).trans ((o33 10 (by decide)).trans ((o32 10 (by decide)).trans ((o31 10 (by decide)).trans ((o30 10 (by decide)).trans ((o29 10 (by decide) (by decide)).trans ((o28 10 (by decide)).trans ((o27 10 (by decide)).trans ((o26 10 (by decide) (by decide)).trans ((o25 10 (by decide)).trans ((o24 10 (by decide)).trans ((o23 10 (by decide) (by decide)).trans ((o22 10 (by decide)).trans ((o21 10 (by decide)).trans ((o20 10 (by decide) (by decide)).trans ((o19 10 (by decide)).trans ((o18 10 (by decide)).trans ((o17 10 (by decide) (by decide)).trans ((o16 10 (by decide)).trans ((o15 10 (by decide)).trans ((o14 10 (by decide)).trans ((o13 10 (by decide)).trans ((o12 10 (by decide)).trans ((o11 10 (by decide)).trans ((o10 10 (by decide) (by decide)).trans ((o9 10 (by decide)).trans ((o8 10 (by decide)).trans e7_6))))))))))))))))))))))))))))) (fun _ => ((o35 11 (by decide)).trans ((o34 11 (by decide)).trans ((o33 11 (by decide)).trans ((o32 11 (by decide)).trans ((o31 11 (by decide)).trans ((o30 11 (by decide)).trans ((o29 11 (by decide) (by decide)).trans ((o28 11 (by decide)).trans ((o27 11 (by decide)).trans ((o26 11 (by decide) (by decide)).trans ((o25 11 (by decide)).trans ((o24 11 (by decide)).trans ((o23 11 (by decide) (by decide)).trans ((o22 11 (by decide)).trans ((o21 11 (by decide)).trans ((o20 11 (by decide) (by decide)).trans ((o19 11 (by decide)).trans ((o18 11 (by decide)).trans ((o17 11 (by decide) (by decide)).trans ((o16 11 (by decide)).trans ((o15 11 (by decide)).trans ((o14 11 (by decide)).trans ((o13 11 (by decide)).trans ((o12 11 (by decide)).trans ((o11 11 (by decide)).trans ((o10 11 (by decide) (by decide)).trans ((o9 11 (by decide)).trans ((o8 11 (by decide)).trans e7_7))))))))))))))))))))))))))))) (fun _ => ((o35 12 (by decide)).trans ((o34 12 (by decide)).trans ((o33 12 (by decide)).trans ((o32 12 (by decide)).trans ((o31 12 (by decide)).trans ((o30 12 (by decide)).trans ((o29 12 (by decide) (by decide)).trans ((o28 12 (by decide)).trans ((o27 12 (by decide)).trans ((o26 12 (by decide) (by decide)).trans ((o25 12 (by decide)).trans ((o24 12 (by decide)).trans ((o23 12 (by decide) (by decide)).trans ((o22 12 (by decide)).trans ((o21 12 (by decide)).trans ((o20 12 (by decide) (by decide)).trans ((o19 12 (by decide)).trans ((o18 12 (by decide)).trans ((o17 12 (by decide) (by decide)).trans ((o16 12 (by decide)).trans ((o15 12 (by decide)).trans ((o14 12 (by decide)).trans ((o13 12 (by decide)).trans ((o12 12 (by decide)).trans ((o11 12 (by decide)).trans ((o10 12 (by decide) (by decide)).trans ((o9 12 (by decide)).trans ((o8 12 (by decide)).trans e7_8))))))))))))))))))))))))))))) (fun _ => ((o35 13 (by decide)).trans ((o34 13 (by decide)).trans ((o33 13 (by decide)).trans ((o32 13 (by decide)).trans ((o31 13 (by decide)).trans ((o30 13 (by decide)).trans ((o29 13 (by decide) (by decide)).trans ((o28 13 (by decide)).trans ((o27 13 (by decide)).trans ((o26 13 (by decide) (by decide)).trans ((o25 13 (by decide)).trans ((o24 13 (by decide)).trans ((o23 13 (by decide) (by decide)).trans ((o22 13 (by decide)).trans ((o21 13 (by decide)).trans ((o20 13 (by decide) (by decide)).trans ((o19 13 (by decide)).trans ((o18 13 (by decide)).trans ((o17 13 (by decide) (by decide)).trans ((o16 13 (by decide)).trans ((o15 13 (by decide)).trans ((o14 13 (by decide)).trans ((o13 13 (by decide)).trans ((o12 13 (by decide)).trans ((o11 13 (by decide)).trans ((o10 13 (by decide) (by decide)).trans ((o9 13 (by decide)).trans ((o8 13 (by decide)).trans e7_9))))))))))))))))))))))))))))) (fun _ => ((o35 14 (by decide)).trans ((o34 14 (by decide)).trans ((o33 14 (by decide)).trans ((o32 14 (by decide)).trans ((o31 14 (by decide)).trans ((o30 14 (by decide)).trans ((o29 14 (by decide) (by decide)).trans ((o28 14 (by decide)).trans ((o27 14 (by decide)).trans ((o26 14 (by decide) (by decide)).trans ((o25 14 (by decide)).trans ((o24 14 (by decide)).trans ((o23 14 (by decide) (by decide)).trans ((o22 14 (by decide)).trans ((o21 14 (by decide)).trans ((o20 14 (by decide) (by decide)).trans ((o19 14 (by decide)).trans ((o18 14 (by decide)).trans ((o17 14 (by decide) (by decide)).trans ((o16 14 (by decide)).trans ((o15 14 (by decide)).trans ((o14 14 (by decide)).trans ((o13 14 (by decide)).trans ((o12 14 (by decide)).trans ((o11 14 (by decide)).trans ((o10 14 (by decide) (by decide)).trans ((o9 14 (by decide)).trans ((o8 14 (by decide)).trans e7_10))))))))))))))))))))))))))))) (fun _ => ((o35 15 (by decide)).trans ((o34 15 (by decide)).trans ((o33 15 (by decide)).trans ((o32 15 (by decide)).trans ((o31 15 (by decide)).trans ((o30 15 (by decide)).trans ((o29 15 (by decide) (by decide)).trans ((o28 15 (by decide)).trans ((o27 15 (by decide)).trans ((o26 15 (by decide) (by decide)).trans ((o25 15 (by decide)).trans ((o24 15 (by decide)).trans ((o23 15 (by decide) (by decide)).trans ((o22 15 (by decide)).trans ((o21 15 (by decide)).trans ((o20 15 (by decide) (by decide)).trans ((o19 15 (by decide)).trans ((o18 15 (by decide)).trans ((o17 15 (by decide) (by decide)).trans ((o16 15 (by decide)).trans ((o15 15 (by decide)).trans ((o14 15 (by decide)).trans ((o13 15 (by decide)).trans ((o12 15 (by decide)).trans ((o11 15 (by decide)).trans ((o10 15 (by decide) (by decide)).trans ((o9 15 (by decide)).trans ((o8 15 (by decide)).trans e7_11))))))))))))))))))))))))))))) (fun _ => ((o35 16 (by decide)).trans ((o34 16 (by decide)).trans ((o33 16 (by decide)).trans ((o32 16 (by decide)).trans ((o31 16 (by decide)).trans ((o30 16 (by decide)).trans ((o29 16 (by decide) (by decide)).trans ((o28 16 (by decide)).trans ((o27 16 (by decide)).trans ((o26 16 (by decide) (by decide)).trans ((o25 16 (by decide)).trans ((o24 16 (by decide)).trans ((o23 16 (by decide) (by decide)).trans ((o22 16 (by decide)).trans ((o21 16 (by decide)).trans ((o20 16 (by decide) (by decide)).trans ((o19 16 (by decide)).trans ((o18 16 (by decide)).trans ((o17 16 (by decide) (by decide)).trans ((o16 16 (by decide)).trans ((o15 16 (by decide)).trans ((o14 16 (by decide)).trans ((o13 16 (by decide)).trans ((o12 16 (by decide)).trans ((o11 16 (by decide)).trans ((o10 16 (by decide) (by decide)).trans ((o9 16 (by decide)).trans ((o8 16 (by decide)).trans e7_12))))))))))))))))))))))))))))) (fun _ => ((o35 17 (by decide)).trans ((o34 17 (by decide)).trans ((o33 17 (by decide)).trans ((o32 17 (by decide)).trans ((o31 17 (by decide)).trans ((o30 17 (by decide)).trans ((o29 17 (by decide) (by decide)).trans ((o28 17 (by decide)).trans ((o27 17 (by decide)).trans ((o26 17 (by decide) (by decide)).trans ((o25 17 (by decide)).trans ((o24 17 (by decide)).trans ((o23 17 (by decide) (by decide)).trans ((o22 17 (by decide)).trans ((o21 17 (by decide)).trans ((o20 17 (by decide) (by decide)).trans ((o19 17 (by decide)).trans ((o18 17 (by decide)).trans ((o17 17 (by decide) (by decide)).trans ((o16 17 (by decide)).trans ((o15 17 (by decide)).trans ((o14 17 (by decide)).trans ((o13 17 (by decide)).trans ((o12 17 (by decide)).trans ((o11 17 (by decide)).trans e10)))))))))))))))))))))))))) (fun _ => ((o35 18 (by decide)).trans ((o34 18 (by decide)).trans ((o33 18 (by decide)).trans ((o32 18 (by decide)).trans ((o31 18 (by decide)).trans ((o30 18 (by decide)).trans ((o29 18 (by decide) (by decide)).trans ((o28 18 (by decide)).trans ((o27 18 (by decide)).trans ((o26 18 (by decide) (by decide)).trans ((o25 18 (by decide)).trans ((o24 18 (by decide)).trans ((o23 18 (by decide) (by decide)).trans ((o22 18 (by decide)).trans ((o21 18 (by decide)).trans ((o20 18 (by decide) (by decide)).trans ((o19 18 (by decide)).trans ((o18 18 (by decide)).trans ((o17 18 (by decide) (by decide)).trans ((o16 18 (by decide)).trans ((o15 18 (by decide)).trans ((o14 18 (by decide)).trans ((o13 18 (by decide)).trans ((o12 18 (by decide)).trans ((o11 18 (by decide)).trans e10_0)))))))))))))))))))))))))) (fun _ => ((o35 19 (by decide)).trans ((o34 19 (by decide)).trans ((o33 19 (by decide)).trans ((o32 19 (by decide)).trans ((o31 19 (by decide)).trans ((o30 19 (by decide)).trans ((o29 19 (by decide) (by decide)).trans ((o28 19 (by decide)).trans ((o27 19 (by decide)).trans ((o26 19 (by decide) (by decide)).trans ((o25 19 (by decide)).trans ((o24 19 (by decide)).trans ((o23 19 (by decide) (by decide)).trans ((o22 19 (by decide)).trans ((o21 19 (by decide)).trans ((o20 19 (by decide) (by decide)).trans ((o19 19 (by decide)).trans ((o18 19 (by decide)).trans ((o17 19 (by decide) (by decide)).trans ((o16 19 (by decide)).trans ((o15 19 (by decide)).trans ((o14 19 (by decide)).trans ((o13 19 (by decide)).trans ((o12 19 (by decide)).trans ((o11 19 (by decide)).trans e10_1)))))))))))))))))))))))))) (fun _ => ((o35 20 (by decide)).trans ((o34 20 (by decide)).trans ((o33 20 (by decide)).trans ((o32 20 (by decide)).trans ((o31 20 (by decide)).trans ((o30 20 (by decide)).trans ((o29 20 (by decide) (by decide)).trans ((o28 20 (by decide)).trans ((o27 20 (by decide)).trans ((o26 20 (by decide) (by decide)).trans ((o25 20 (by decide)).trans ((o24 20 (by decide)).trans ((o23 20 (by decide) (by decide)).trans ((o22 20 (by decide)).trans ((o21 20 (by decide)).trans ((o20 20 (by decide) (by decide)).trans ((o19 20 (by decide)).trans ((o18 20 (by decide)).trans ((o17 20 (by decide) (by decide)).trans ((o16 20 (by decide)).trans ((o15 20 (by decide)).trans ((o14 20 (by decide)).trans ((o13 20 (by decide)).trans ((o12 20 (by decide)).trans ((o11 20 (by decide)).trans e10_2)))))))))))))))))))))))))) (fun _ => ((o35 21 (by decide)).trans ((o34 21 (by decide)).trans ((o33 21 (by decide)).trans ((o32 21 (by decide)).trans ((o31 21 (by decide)).trans ((o30 21 (by decide)).trans ((o29 21 (by decide) (by decide)).trans ((o28 21 (by decide)).trans ((o27 21 (by decide)).trans ((o26 21 (by decide) (by decide)).trans ((o25 21 (by decide)).trans ((o24 21 (by decide)).trans ((o23 21 (by decide) (by decide)).trans ((o22 21 (by decide)).trans ((o21 21 (by decide)).trans ((o20 21 (by decide) (by decide)).trans ((o19 21 (by decide)).trans ((o18 21 (by decide)).trans ((o17 21 (by decide) (by decide)).trans ((o16 21 (by decide)).trans ((o15 21 (by decide)).trans ((o14 21 (by decide)).trans ((o13 21 (by decide)).trans ((o12 21 (by decide)).trans ((o11 21 (by decide)).trans e10_3)))))))))))))))))))))))))) (fun _ => ((o35 22 (by decide)).trans ((o34 22 (by decide)).trans ((o33 22 (by decide)).trans ((o32 22 (by decide)).trans ((o31 22 (by decide)).trans ((o30 22 (by decide)).trans ((o29 22 (by decide) (by decide)).trans ((o28 22 (by decide)).trans ((o27 22 (by decide)).trans ((o26 22 (by decide) (by decide)).trans ((o25 22 (by decide)).trans ((o24 22 (by decide)).trans ((o23 22 (by decide) (by decide)).trans ((o22 22 (by decide)).trans ((o21 22 (by decide)).trans ((o20 22 (by decide) (by decide)).trans ((o19 22 (by decide)).trans ((o18 22 (by decide)).trans ((o17 22 (by decide) (by decide)).trans ((o16 22 (by decide)).trans ((o15 22 (by decide)).trans ((o14 22 (by decide)).trans ((o13 22 (by decide)).trans ((o12 22 (by decide)).trans ((o11 22 (by decide)).trans e10_4)))))))))))))))))))))))))) (fun _ => ((o35 23 (by decide)).trans ((o34 23 (by decide)).trans ((o33 23 (by decide)).trans ((o32 23 (by decide)).trans ((o31 23 (by decide)).trans ((o30 23 (by decide)).trans ((o29 23 (by decide) (by decide)).trans ((o28 23 (by decide)).trans ((o27 23 (by decide)).trans ((o26 23 (by decide) (by decide)).trans ((o25 23 (by decide)).trans ((o24 23 (by decide)).trans ((o23 23 (by decide) (by decide)).trans ((o22 23 (by decide)).trans ((o21 23 (by decide)).trans ((o20 23 (by decide) (by decide)).trans ((o19 23 (by decide)).trans ((o18 23 (by decide)).trans ((o17 23 (by decide) (by decide)).trans ((o16 23 (by decide)).trans ((o15 23 (by decide)).trans ((o14 23 (by decide)).trans ((o13 23 (by decide)).trans ((o12 23 (by decide)).trans ((o11 23 (by decide)).trans e10_5)))))))))))))))))))))))))) (fun _ => ((o35 24 (by decide)).trans ((o34 24 (by decide)).trans ((o33 24 (by decide)).trans ((o32 24 (by decide)).trans ((o31 24 (by decide)).trans ((o30 24 (by decide)).trans ((o29 24 (by decide) (by decide)).trans ((o28 24 (by decide)).trans ((o27 24 (by decide)).trans ((o26 24 (by decide) (by decide)).trans ((o25 24 (by decide)).trans ((o24 24 (by decide)).trans ((o23 24 (by decide) (by decide)).trans ((o22 24 (by decide)).trans ((o21 24 (by decide)).trans ((o20 24 (by decide) (by decide)).trans ((o19 24 (by decide)).trans ((o18 24 (by decide)).trans ((o17 24 (by decide) (by decide)).trans ((o16 24 (by decide)).trans ((o15 24 (by decide)).trans ((o14 24 (by decide)).trans ((o13 24 (by decide)).trans ((o12 24 (by decide)).trans ((o11 24 (by decide)).trans e10_6)))))))))))))))))))))))))) (fun _ => ((o35 25 (by decide)).trans ((o34 25 (by decide)).trans ((o33 25 (by decide)).trans ((o32 25 (by decide)).trans ((o31 25 (by decide)).trans ((o30 25 (by decide)).trans ((o29 25 (by decide) (by decide)).trans ((o28 25 (by decide)).trans ((o27 25 (by decide)).trans ((o26 25 (by decide) (by decide)).trans ((o25 25 (by decide)).trans ((o24 25 (by decide)).trans ((o23 25 (by decide) (by decide)).trans ((o22 25 (by decide)).trans ((o21 25 (by decide)).trans ((o20 25 (by decide) (by decide)).trans ((o19 25 (by decide)).trans ((o18 25 (by decide)).trans ((o17 25 (by decide) (by decide)).trans ((o16 25 (by decide)).trans ((o15 25 (by decide)).trans ((o14 25 (by decide)).trans ((o13 25 (by decide)).trans ((o12 25 (by decide)).trans ((o11 25 (by decide)).trans e10_7)))))))))))))))))))))))))) (fun _ => ((o35 26 (by decide)).trans ((o34 26 (by decide)).trans ((o33 26 (by decide)).trans ((o32 26 (by decide)).trans ((o31 26 (by decide)).trans ((o30 26 (by decide)).trans ((o29 26 (by decide) (by decide)).trans ((o28 26 (by decide)).trans ((o27 26 (by decide)).trans ((o26 26 (by decide) (by decide)).trans ((o25 26 (by decide)).trans ((o24 26 (by decide)).trans ((o23 26 (by decide) (by decide)).trans ((o22 26 (by decide)).trans ((o21 26 (by decide)).trans ((o20 26 (by decide) (by decide)).trans ((o19 26 (by decide)).trans ((o18 26 (by decide)).trans ((o17 26 (by decide) (by decide)).trans ((o16 26 (by decide)).trans ((o15 26 (by decide)).trans ((o14 26 (by decide)).trans ((o13 26 (by decide)).trans ((o12 26 (by decide)).trans ((o11 26 (by decide)).trans e10_8)))))))))))))))))))))))))) (fun _ => ((o35 27 (by decide)).trans ((o34 27 (by decide)).trans ((o33 27 (by decide)).trans ((o32 27 (by decide)).trans ((o31 27 (by decide)).trans ((o30 27 (by decide)).trans ((o29 27 (by decide) (by decide)).trans ((o28 27 (by decide)).trans ((o27 27 (by decide)).trans ((o26 27 (by decide) (by decide)).trans ((o25 27 (by decide)).trans ((o24 27 (by decide)).trans ((o23 27 (by decide) (by decide)).trans ((o22 27 (by decide)).trans ((o21 27 (by decide)).trans ((o20 27 (by decide) (by decide)).trans ((o19 27 (by decide)).trans ((o18 27 (by decide)).trans ((o17 27 (by decide) (by decide)).trans ((o16 27 (by decide)).trans ((o15 27 (by decide)).trans ((o14 27 (by decide)).trans ((o13 27 (by decide)).trans ((o12 27 (by decide)).trans ((o11 27 (by decide)).trans e10_9)))))))))))))))))))))))))) (fun _ => ((o35 28 (by decide)).trans ((o34 28 (by decide)).trans ((o33 28 (by decide)).trans ((o32 28 (by decide)).trans ((o31 28 (by decide)).trans ((o30 28 (by decide)).trans ((o29 28 (by decide) (by decide)).trans ((o28 28 (by decide)).trans ((o27 28 (by decide)).trans ((o26 28 (by decide) (by decide)).trans ((o25 28 (by decide)).trans ((o24 28 (by decide)).trans ((o23 28 (by decide) (by decide)).trans ((o22 28 (by decide)).trans ((o21 28 (by decide)).trans ((o20 28 (by decide) (by decide)).trans ((o19 28 (by decide)).trans ((o18 28 (by decide)).trans ((o17 28 (by decide) (by decide)).trans ((o16 28 (by decide)).trans ((o15 28 (by decide)).trans ((o14 28 (by decide)).trans ((o13 28 (by decide)).trans ((o12 28 (by decide)).trans ((o11 28 (by decide)).trans e10_10)))))))))))))))))))))))))) (fun _ => ((o35 29 (by decide)).trans ((o34 29 (by decide)).trans ((o33 29 (by decide)).trans ((o32 29 (by decide)).trans ((o31 29 (by decide)).trans ((o30 29 (by decide)).trans ((o29 29 (by decide) (by decide)).trans ((o28 29 (by decide)).trans ((o27 29 (by decide)).trans ((o26 29 (by decide) (by decide)).trans ((o25 29 (by decide)).trans ((o24 29 (by decide)).trans ((o23 29 (by decide) (by decide)).trans ((o22 29 (by decide)).trans ((o21 29 (by decide)).trans ((o20 29 (by decide) (by decide)).trans ((o19 29 (by decide)).trans ((o18 29 (by decide)).trans ((o17 29 (by decide) (by decide)).trans ((o16 29 (by decide)).trans ((o15 29 (by decide)).trans ((o14 29 (by decide)).trans ((o13 29 (by decide)).trans ((o12 29 (by decide)).trans ((o11 29 (by decide)).trans e10_11)))))))))))))))))))))))))) (fun _ => ((o35 30 (by decide)).trans ((o34 30 (by decide)).trans ((o33 30 (by decide)).trans ((o32 30 (by decide)).trans ((o31 30 (by decide)).trans ((o30 30 (by decide)).trans ((o29 30 (by decide) (by decide)).trans ((o28 30 (by decide)).trans ((o27 30 (by decide)).trans ((o26 30 (by decide) (by decide)).trans ((o25 30 (by decide)).trans ((o24 30 (by decide)).trans ((o23 30 (by decide) (by decide)).trans ((o22 30 (by decide)).trans ((o21 30 (by decide)).trans ((o20 30 (by decide) (by decide)).trans ((o19 30 (by decide)).trans ((o18 30 (by decide)).trans ((o17 30 (by decide) (by decide)).trans ((o16 30 (by decide)).trans ((o15 30 (by decide)).trans ((o14 30 (by decide)).trans ((o13 30 (by decide)).trans ((o12 30 (by decide)).trans ((o11 30 (by decide)).trans e10_12)))))))))))))))))))))))))) (fun _ => ((o35 43 (by decide)).trans ((o34 43 (by decide)).trans ((o33 43 (by decide)).trans ((o32 43 (by decide)).trans ((o31 43 (by decide)).trans ((o30 43 (by decide)).trans ((o29 43 (by decide) (by decide)).trans ((o28 43 (by decide)).trans ((o27 43 (by decide)).trans e26)))))))))) (fun _ => ((o35 44 (by decide)).trans ((o34 44 (by decide)).trans ((o33 44 (by decide)).trans ((o32 44 (by decide)).trans ((o31 44 (by decide)).trans ((o30 44 (by decide)).trans ((o29 44 (by decide) (by decide)).trans ((o28 44 (by decide)).trans ((o27 44 (by decide)).trans e26_0)))))))))) (fun _ => ((o35 45 (by decide)).trans ((o34 45 (by decide)).trans ((o33 45 (by decide)).trans ((o32 45 (by decide)).trans ((o31 45 (by decide)).trans ((o30 45 (by decide)).trans ((o29 45 (by decide) (by decide)).trans ((o28 45 (by decide)).trans ((o27 45 (by decide)).trans e26_1)))))))))) (fun _ => ((o35 46 (by decide)).trans ((o34 46 (by decide)).trans ((o33 46 (by decide)).trans ((o32 46 (by decide)).trans ((o31 46 (by decide)).trans ((o30 46 (by decide)).trans ((o29 46 (by decide) (by decide)).trans ((o28 46 (by decide)).trans ((o27 46 (by decide)).trans e26_2)))))))))) (fun _ => ((o35 47 (by decide)).trans ((o34 47 (by decide)).trans ((o33 47 (by decide)).trans ((o32 47 (by decide)).trans ((o31 47 (by decide)).trans ((o30 47 (by decide)).trans ((o29 47 (by decide) (by decide)).trans ((o28 47 (by decide)).trans ((o27 47 (by decide)).trans e26_3)))))))))) (fun _ => ((o35 48 (by decide)).trans ((o34 48 (by decide)).trans ((o33 48 (by decide)).trans ((o32 48 (by decide)).trans ((o31 48 (by decide)).trans ((o30 48 (by decide)).trans ((o29 48 (by decide) (by decide)).trans ((o28 48 (by decide)).trans ((o27 48 (by decide)).trans e26_4)))))))))) (fun _ => ((o35 49 (by decide)).trans ((o34 49 (by decide)).trans ((o33 49 (by decide)).trans ((o32 49 (by decide)).trans ((o31 49 (by decide)).trans ((o30 49 (by decide)).trans ((o29 49 (by decide) (by decide)).trans ((o28 49 (by decide)).trans ((o27 49 (by decide)).trans e26_5)))))))))) (fun _ => ((o35 50 (by decide)).trans ((o34 50 (by decide)).trans ((o33 50 (by decide)).trans ((o32 50 (by decide)).trans ((o31 50 (by decide)).trans ((o30 50 (by decide)).trans ((o29 50 (by decide) (by decide)).trans ((o28 50 (by decide)).trans ((o27 50 (by decide)).trans e26_6)))))))))) (fun _ => ((o35 51 (by decide)).trans ((o34 51 (by decide)).trans ((o33 51 (by decide)).trans ((o32 51 (by decide)).trans ((o31 51 (by decide)).trans ((o30 51 (by decide)).trans ((o29 51 (by decide) (by decide)).trans ((o28 51 (by decide)).trans ((o27 51 (by decide)).trans e26_7)))))))))) (fun _ => ((o35 52 (by decide)).trans ((o34 52 (by decide)).trans ((o33 52 (by decide)).trans ((o32 52 (by decide)).trans ((o31 52 (by decide)).trans ((o30 52 (by decide)).trans ((o29 52 (by decide) (by decide)).trans ((o28 52 (by decide)).trans ((o27 52 (by decide)).trans e26_8)))))))))) (fun _ => ((o35 53 (by decide)).trans ((o34 53 (by decide)).trans ((o33 53 (by decide)).trans ((o32 53 (by decide)).trans ((o31 53 (by decide)).trans ((o30 53 (by decide)).trans ((o29 53 (by decide) (by decide)).trans ((o28 53 (by decide)).trans ((o27 53 (by decide)).trans e26_9)))))))))) (fun _ => ((o35 54 (by decide)).trans ((o34 54 (by decide)).trans ((o33 54 (by decide)).trans ((o32 54 (by decide)).trans ((o31 54 (by decide)).trans ((o30 54 (by decide)).trans ((o29 54 (by decide) (by decide)).trans ((o28 54 (by decide)).trans ((o27 54 (by decide)).trans e26_10)))))))))) (fun _ => ((o35 55 (by decide)).trans ((o34 55 (by decide)).trans ((o33 55 (by decide)).trans ((o32 55 (by decide)).trans ((o31 55 (by decide)).trans ((o30 55 (by decide)).trans ((o29 55 (by decide) (by decide)).trans ((o28 55 (by decide)).trans ((o27 55 (by decide)).trans e26_11)))))))))) (fun _ => ((o35 56 (by decide)).trans ((o34 56 (by decide)).trans ((o33 56 (by decide)).trans ((o32 56 (by decide)).trans ((o31 56 (by decide)).trans ((o30 56 (by decide)).trans ((o29 56 (by decide) (by decide)).trans ((o28 56 (by decide)).trans ((o27 56 (by decide)).trans e26_12)))))))))) (fun _ => ((o35 57 (by decide)).trans ((o34 57 (by decide)).trans ((o33 57 (by decide)).trans ((o32 57 (by decide)).trans ((o31 57 (by decide)).trans ((o30 57 (by decide)).trans e29))))))) (fun _ => ((o35 58 (by decide)).trans ((o34 58 (by decide)).trans ((o33 58 (by decide)).trans ((o32 58 (by decide)).trans ((o31 58 (by decide)).trans ((o30 58 (by decide)).trans e29_0))))))) (fun _ => ((o35 59 (by decide)).trans ((o34 59 (by decide)).trans ((o33 59 (by decide)).trans ((o32 59 (by decide)).trans ((o31 59 (by decide)).trans ((o30 59 (by decide)).trans e29_1))))))) (fun _ => ((o35 60 (by decide)).trans ((o34 60 (by decide)).trans ((o33 60 (by decide)).trans ((o32 60 (by decide)).trans ((o31 60 (by decide)).trans ((o30 60 (by decide)).trans e29_2))))))) (fun _ => ((o35 61 (by decide)).trans ((o34 61 (by decide)).trans ((o33 61 (by decide)).trans ((o32 61 (by decide)).trans ((o31 61 (by decide)).trans ((o30 61 (by decide)).trans e29_3))))))) (fun _ => ((o35 62 (by decide)).trans ((o34 62 (by decide)).trans ((o33 62 (by decide)).trans ((o32 62 (by decide)).trans ((o31 62 (by decide)).trans ((o30 62 (by decide)).trans e29_4))))))) (fun _ => ((o35 63 (by decide)).trans ((o34 63 (by decide)).trans ((o33 63 (by decide)).trans ((o32 63 (by decide)).trans ((o31 63 (by decide)).trans ((o30 63 (by decide)).trans e29_5))))))) (fun _ => ((o35 64 (by decide)).trans ((o34 64 (by decide)).trans ((o33 64 (by decide)).trans ((o32 64 (by decide)).trans ((o31 64 (by decide)).trans ((o30 64 (by decide)).trans e29_6))))))) (fun _ => ((o35 65 (by decide)).trans ((o34 65 (by decide)).trans ((o33 65 (by decide)).trans ((o32 65 (by decide)).trans ((o31 65 (by decide)).trans ((o30 65 (by decide)).trans e29_7))))))) (fun _ => ((o35 66 (by decide)).trans ((o34 66 (by decide)).trans ((o33 66 (by decide)).trans ((o32 66 (by decide)).trans ((o31 66 (by decide)).trans ((o30 66 (by decide)).trans e29_8))))))) (fun _ => ((o35 67 (by decide)).trans ((o34 67 (by decide)).trans ((o33 67 (by decide)).trans ((o32 67 (by decide)).trans ((o31 67 (by decide)).trans ((o30 67 (by decide)).trans e29_9))))))) (fun _ => ((o35 68 (by decide)).trans ((o34 68 (by decide)).trans ((o33 68 (by decide)).trans ((o32 68 (by decide)).trans ((o31 68 (by decide)).trans ((o30 68 (by decide)).trans e29_10))))))) (fun _ => ((o35 69 (by decide)).trans ((o34 69 (by decide)).trans ((o33 69 (by decide)).trans ((o32 69 (by decide)).trans ((o31 69 (by decide)).trans ((o30 69 (by decide)).trans e29_11))))))) (fun _ => ((o35 70 (by decide)).trans ((o34 70 (by decide)).trans ((o33 70 (by decide)).trans ((o32 70 (by decide)).trans ((o31 70 (by decide)).trans ((o30 70 (by decide)).trans e29_12))))))), ((o35 31 (by decide)).trans ((o34 31 (by decide)).trans ((o33 31 (by decide)).trans ((o32 31 (by decide)).trans ((o31 31 (by decide)).trans e30)))))⟩ rfl (Nat.le_of_ble_eq_true rfl) (Nat.le_of_ble_eq_true rfl)
def fX8_init (st : uSt) : Option (Unit × uSt) :=
  obV (fX8_plain st) (fun st_1 => ol (sI st_1 2 0 (100 : Int32)) (fun st_2 => ol (sI st_2 2 1 (100 : Int32)) (fun st_3 => ol (sI st_3 2 2 (10 : Int32)) (fun st_4 => ol (sI st_4 2 3 (1 : Int32)) (fun st_5 => ol (sI st_5 2 4 (100 : Int32)) (fun st_6 => obV (fX8_takes st_6) (fun st_7 => some ((), st_7))))))))
theorem wX8_init {M : uM} {V : uV} (C : uCx M V cX8_init 1 RX8 1 21 9 4454) (W0 : uWM (mL M) V) (hr : (mT M).sig.returnType = none) {st s9 : uSt} (h : fX8_init st = some ((), s9)) : uW M V (uEnd M V 9 4454 none s9) 1 9 4454 85 [(0, .ref (vA V 0))] [] st := by
  unfold fX8_init at h
  refine ux_aload_n C dX8_init_85 0 rfl ?_
  obtain ⟨st_1, h1, h⟩ := obV_some h
  refine ux_callVv C cv_X8_43 dX8_init_86 (oM W0) rfl (kX8_plain W0 h1) rfl (Nat.le_of_ble_eq_true rfl) ⟨(Nat.le_of_ble_eq_true rfl), (Nat.le_of_ble_eq_true rfl)⟩ ⟨(Nat.le_of_ble_eq_true rfl), (Nat.le_of_ble_eq_true rfl)⟩ ?_ rfl
  refine ux_aload_n C dX8_init_89 0 rfl ?_
  refine ux_get C fl_X8_13 dX8_init_90 (oM W0) rfl ?_
  refine ux_iconst (v := 0) C dX8_init_93 (by decide) ?_
  refine ux_bipush (v := 100) C dX8_init_94 (by decide) ?_
  refine ux_iastK (j := 0) C (aM_told W0) dX8_init_96 (by decide) (by decide) h (fun st_2 h => ?_)
  refine ux_aload_n C dX8_init_97 0 rfl ?_
  refine ux_get C fl_X8_13 dX8_init_98 (oM W0) rfl ?_
  refine ux_iconst (v := 1) C dX8_init_101 (by decide) ?_
  refine ux_bipush (v := 100) C dX8_init_102 (by decide) ?_
  refine ux_iastK (j := 1) C (aM_told W0) dX8_init_104 (by decide) (by decide) h (fun st_3 h => ?_)
  refine ux_aload_n C dX8_init_105 0 rfl ?_
  refine ux_get C fl_X8_13 dX8_init_106 (oM W0) rfl ?_
  refine ux_iconst (v := 2) C dX8_init_109 (by decide) ?_
  refine ux_bipush (v := 10) C dX8_init_110 (by decide) ?_
  refine ux_iastK (j := 2) C (aM_told W0) dX8_init_112 (by decide) (by decide) h (fun st_4 h => ?_)
  refine ux_aload_n C dX8_init_113 0 rfl ?_
  refine ux_get C fl_X8_13 dX8_init_114 (oM W0) rfl ?_
  refine ux_iconst (v := 3) C dX8_init_117 (by decide) ?_
  refine ux_iconst (v := 1) C dX8_init_118 (by decide) ?_
  refine ux_iastK (j := 3) C (aM_told W0) dX8_init_119 (by decide) (by decide) h (fun st_5 h => ?_)
  refine ux_aload_n C dX8_init_120 0 rfl ?_
  refine ux_get C fl_X8_13 dX8_init_121 (oM W0) rfl ?_
  refine ux_iconst (v := 4) C dX8_init_124 (by decide) ?_
  refine ux_bipush (v := 100) C dX8_init_125 (by decide) ?_
  refine ux_iastK (j := 4) C (aM_told W0) dX8_init_127 (by decide) (by decide) h (fun st_6 h => ?_)
  refine ux_aload_n C dX8_init_128 0 rfl ?_
  obtain ⟨st_7, h1, h⟩ := obV_some h
  refine ux_callVv C cv_X8_46 dX8_init_129 (oM W0) rfl (kX8_takes W0 h1) rfl (Nat.le_of_ble_eq_true rfl) ⟨(Nat.le_of_ble_eq_true rfl), (Nat.le_of_ble_eq_true rfl)⟩ ⟨(Nat.le_of_ble_eq_true rfl), (Nat.le_of_ble_eq_true rfl)⟩ ?_ rfl
  exact ux_vret C hr dX8_init_132 h (Nat.le_of_ble_eq_true rfl) (Nat.le_of_ble_eq_true rfl)
def stM0 : uSt := (fun i j => if i = 0 then (if j = 14 then -1 else 0) else 0, fun _ _ => 0, fun _ _ => 0)
def vM (D : va_G) (base : Nat) (cI cJ cZ : ClassId) (A : Nat → Prop) (sK sV : Nat → Nat) : uV := (D, [(cI, .int), (cJ, .long), (cZ, .boolean)], shM (fun i => base + i) cI cJ cZ, fun i => base + i, 10, A, sK, sV)
theorem vM_ok {l : Launch} {D : va_G} {base : Nat} {cI cJ cZ : ClassId} {A : Nat → Prop} {sK sV : Nat → Nat} (hl : l.stackTraces = false) (hA : ∀ i, i < 10 → A (base + i)) : uWM l (vM D base cI cJ cZ A sK sV) :=
  ⟨hl, ⟨fun i j _ _ h => by have h : base + i = base + j := h; omega, fun i hi => hA i hi⟩, cI, cJ, cZ, rfl, rfl, rfl⟩
theorem all10 {P : Nat → Prop} (h0 : P 0) (h1 : P 1) (h2 : P 2) (h3 : P 3) (h4 : P 4) (h5 : P 5) (h6 : P 6) (h7 : P 7) (h8 : P 8) (h9 : P 9) : ∀ i, i < 10 → P i := fun i hi => match i, hi with
  | 0, _ => h0
  | 1, _ => h1
  | 2, _ => h2
  | 3, _ => h3
  | 4, _ => h4
  | 5, _ => h5
  | 6, _ => h6
  | 7, _ => h7
  | 8, _ => h8
  | 9, _ => h9
  | n + 10, h => absurd h (by omega)
theorem uH_of {V : uV} {st : uSt} {H : Heap} (h : ∀ i, i < vN V → va_at (vD V) vwCl (vA V i, vS V i (st.1 i) (st.2.1 i) (st.2.2 i)) H) : uH V st H := by
  intro k q hk
  have hlt : k < vN V := by
    rcases Nat.lt_or_ge k (vN V) with h1 | h1
    · exact h1
    · rw [uL, List.getElem?_map, List.getElem?_eq_none (by rw [List.length_range]; exact h1)] at hk; cases hk
  rw [uL_get hlt] at hk
  cases hk
  exact h k hlt
def mPre (D : va_G) (tys : List (ClassId × FieldType)) (base : Nat) (sK sV : Nat → Nat) (cf : Nat → va_E) : Array Value → State → Prop := va_Pc [.ref (base + 0)] (fun U => cH D base 1 cf U.heap ∧ va_K D vwCl tys U ∧ cE U ∧ uG sK sV (cR base) U)
theorem mPre_blind {D : va_G} {tys : List (ClassId × FieldType)} {base : Nat} {sK sV : Nat → Nat} {cf : Nat → va_E} : FrameBlind (mPre D tys base sK sV cf) := by
  intro a U g mk h
  obtain ⟨h1, h2, h3, h4, h5⟩ := h
  exact ⟨h1, h2, va_K.moved (u := U) (U := U.calling g mk a) (Vm.Alike.refl U.vm) h3, cE_step (U := U.calling g mk a) h4 (State.WarmedH.refl U), uG_step (U := U.calling g mk a) h5 (State.WarmedH.refl U) (fun _ _ _ => rfl)⟩
theorem kc_X8 {l : Launch} (hlt : l.stackTraces = false) {D : va_G} {base : Nat} {cB cI cJ cZ cD cO : ClassId} {sK sV : Nat → Nat} {cf0 : Nat → va_E} (h0 : cf0 0 = .inr (8, [.int 0, .null, .null, .null, .null, .null, .null, .int 0, .int 0, .int 0, .int 0, .int 0, .int 0, .int 0, .int 0, .null, .null, .null])) {s9 : uSt} (h : fX8_init stM0 = some ((), s9)) : Met l yX8_init (Cond.code yX8_init cX8_init 1 none :: gw) { frames := 1, cells := 9, slots := 4454, locals := 21 } (mPre D (cT cB cI cJ cZ cD cO) base sK sV cf0) (uQ (vM D base cI cJ cZ (cR base) sK sV) none s9) 9 4454 (cR base) := by
  refine Met.ofW (cc := cX8_init) (maxL := 1) (ret := none) (by decide) rfl ?_
  intro p e s m args' below meth c s₁ B hml hv
  obtain ⟨rfl, hP, hK, hE, hG⟩ := hv
  have hts := atoms_spec (ws := Cond.code yX8_init cX8_init 1 none :: gw) B.pre
  have hl := lv_entry [.ref (base + 0)] (n := 1) (Nat.le_refl _)
  rw [lg_entry_eq]
  have C : cCx (p, l, e, { frames := 1, cells := 9, slots := 4454, locals := 21 }, s, m, _, below, meth, c) D (cT cB cI cJ cZ cD cO) base cX8_init 1 RX8 1 21 9 4454 := ⟨B.exec, B.bytes, hml, findClass_of_methodNamed B.named, fun w hw => hts w (List.mem_cons_of_mem _ hw), hK, by show base ≤ s.heap.size; rw [hP.1]; exact Nat.le_add_right _ _, B.notSynchronized, hE, ⟨Nat.le_refl _, Nat.le_refl _, Nat.le_refl _, Nat.le_refl _⟩⟩
  have C2 : uCx (p, l, e, { frames := 1, cells := 9, slots := 4454, locals := 21 }, s, m, _, below, meth, c) (vM D base cI cJ cZ (cR base) sK sV) cX8_init 1 RX8 1 21 9 4454 := ⟨B.exec, B.bytes, hml, findClass_of_methodNamed B.named, fun w hw => hts w (List.mem_cons_of_mem _ hw), va_K.sub hK [1, 2, 3] rfl, (vM_ok hlt (fun i _ => Nat.le_add_right _ _)).2.1, fun q hq => Nat.le_trans C.2.2.2.2.2.2.1 hq, B.notSynchronized, hG, ⟨Nat.le_refl _, Nat.le_refl _, Nat.le_refl _, Nat.le_refl _⟩, hlt⟩
  have hin := (name_of_methodNamed B.named B.method).1.trans (show yX8_init.name = "<init>" from rfl)
  have hr := B.returns
  skip
  suffices hW : cW (p, l, e, { frames := 1, cells := 9, slots := 4454, locals := 21 }, s, m, _, below, meth, c) D base (MQ below (uQ (vM D base cI cJ cZ (cR base) sK sV) none s9) _ s 9 4454 (cR base)) 1 0 0 0 [(0, .ref (base + 0))] [] 1 cf0 from hW s.heap [] _ hP va_S.rf hl
  refine cw_aload_n C dX8_init_0 0 rfl ?_
  refine cw_objInit C oi_X8_1 dX8_init_1 (Nat.le_of_ble_eq_true rfl) ⟨(Nat.le_of_ble_eq_true rfl), (Nat.le_of_ble_eq_true rfl)⟩ ?_
  refine cw_aload_n C dX8_init_4 0 rfl ?_
  refine cw_bipush C dX8_init_5 (v := (109 : Int32)) (by decide) ?_
  refine cw_newa C (atype := .int) ac_int (t0 := 1) rfl id dX8_init_7 (a0 := (109, .inl (fun _ => 0))) (fun _ => rfl) (by decide) rfl (by decide) ⟨(Nat.le_of_ble_eq_true rfl), (Nat.le_of_ble_eq_true rfl)⟩ fun cf1 e1 o1 => ?_
  have o1 : ∀ x, x ≠ 1 → cf1 x = cf0 x := o1
  refine cw_putF C hin ff_X8_7 dX8_init_9 (by decide) ((o1 0 (by decide)).trans h0) rfl rfl (Nat.le_of_ble_eq_true rfl) fun cf2 e2 o2 => ?_
  have e2 : cf2 0 = .inr (8, [.int 0, .ref (base + 1), .null, .null, .null, .null, .null, .int 0, .int 0, .int 0, .int 0, .int 0, .int 0, .int 0, .int 0, .null, .null, .null]) := e2
  have o2 : ∀ x, x ≠ 0 → cf2 x = cf1 x := o2
  refine cw_aload_n C dX8_init_12 0 rfl ?_
  refine cw_bipush C dX8_init_13 (v := (109 : Int32)) (by decide) ?_
  refine cw_newa C (atype := .int) ac_int (t0 := 1) rfl id dX8_init_15 (a0 := (109, .inl (fun _ => 0))) (fun _ => rfl) (by decide) rfl (by decide) ⟨(Nat.le_of_ble_eq_true rfl), (Nat.le_of_ble_eq_true rfl)⟩ fun cf3 e3 o3 => ?_
  have o3 : ∀ x, x ≠ 2 → cf3 x = cf2 x := o3
  refine cw_putF C hin ff_X8_13 dX8_init_17 (by decide) ((o3 0 (by decide)).trans e2) rfl rfl (Nat.le_of_ble_eq_true rfl) fun cf4 e4 o4 => ?_
  have e4 : cf4 0 = .inr (8, [.int 0, .ref (base + 1), .ref (base + 2), .null, .null, .null, .null, .int 0, .int 0, .int 0, .int 0, .int 0, .int 0, .int 0, .int 0, .null, .null, .null]) := e4
  have o4 : ∀ x, x ≠ 0 → cf4 x = cf3 x := o4
  refine cw_aload_n C dX8_init_20 0 rfl ?_
  refine cw_sipush C dX8_init_21 (v := (218 : Int32)) (by decide) ?_
  refine cw_newa C (atype := .int) ac_int (t0 := 1) rfl id dX8_init_24 (a0 := (218, .inl (fun _ => 0))) (fun _ => rfl) (by decide) rfl (by decide) ⟨(Nat.le_of_ble_eq_true rfl), (Nat.le_of_ble_eq_true rfl)⟩ fun cf5 e5 o5 => ?_
  have o5 : ∀ x, x ≠ 3 → cf5 x = cf4 x := o5
  refine cw_putF C hin ff_X8_16 dX8_init_26 (by decide) ((o5 0 (by decide)).trans e4) rfl rfl (Nat.le_of_ble_eq_true rfl) fun cf6 e6 o6 => ?_
  have e6 : cf6 0 = .inr (8, [.int 0, .ref (base + 1), .ref (base + 2), .ref (base + 3), .null, .null, .null, .int 0, .int 0, .int 0, .int 0, .int 0, .int 0, .int 0, .int 0, .null, .null, .null]) := e6
  have o6 : ∀ x, x ≠ 0 → cf6 x = cf5 x := o6
  refine cw_aload_n C dX8_init_29 0 rfl ?_
  refine cw_bipush C dX8_init_30 (v := (109 : Int32)) (by decide) ?_
  refine cw_newa C (atype := .int) ac_int (t0 := 1) rfl id dX8_init_32 (a0 := (109, .inl (fun _ => 0))) (fun _ => rfl) (by decide) rfl (by decide) ⟨(Nat.le_of_ble_eq_true rfl), (Nat.le_of_ble_eq_true rfl)⟩ fun cf7 e7 o7 => ?_
  have o7 : ∀ x, x ≠ 4 → cf7 x = cf6 x := o7
  refine cw_putF C hin ff_X8_19 dX8_init_34 (by decide) ((o7 0 (by decide)).trans e6) rfl rfl (Nat.le_of_ble_eq_true rfl) fun cf8 e8 o8 => ?_
  have e8 : cf8 0 = .inr (8, [.int 0, .ref (base + 1), .ref (base + 2), .ref (base + 3), .ref (base + 4), .null, .null, .int 0, .int 0, .int 0, .int 0, .int 0, .int 0, .int 0, .int 0, .null, .null, .null]) := e8
  have o8 : ∀ x, x ≠ 0 → cf8 x = cf7 x := o8
  refine cw_aload_n C dX8_init_37 0 rfl ?_
  refine cw_iconst C dX8_init_38 (v := (2 : Int32)) (by decide) ?_
  refine cw_newa C (atype := .boolean) ac_boolean (t0 := 3) rfl id dX8_init_39 (a0 := (2, .inl (fun _ => 0))) (fun _ => rfl) (by decide) rfl (by decide) ⟨(Nat.le_of_ble_eq_true rfl), (Nat.le_of_ble_eq_true rfl)⟩ fun cf9 e9 o9 => ?_
  have o9 : ∀ x, x ≠ 5 → cf9 x = cf8 x := o9
  refine cw_putF C hin ff_X8_22 dX8_init_41 (by decide) ((o9 0 (by decide)).trans e8) rfl rfl (Nat.le_of_ble_eq_true rfl) fun cf10 e10 o10 => ?_
  have e10 : cf10 0 = .inr (8, [.int 0, .ref (base + 1), .ref (base + 2), .ref (base + 3), .ref (base + 4), .ref (base + 5), .null, .int 0, .int 0, .int 0, .int 0, .int 0, .int 0, .int 0, .int 0, .null, .null, .null]) := e10
  have o10 : ∀ x, x ≠ 0 → cf10 x = cf9 x := o10
  refine cw_aload_n C dX8_init_44 0 rfl ?_
  refine cw_sipush C dX8_init_45 (v := (400 : Int32)) (by decide) ?_
  refine cw_newa C (atype := .int) ac_int (t0 := 1) rfl id dX8_init_48 (a0 := (400, .inl (fun _ => 0))) (fun _ => rfl) (by decide) rfl (by decide) ⟨(Nat.le_of_ble_eq_true rfl), (Nat.le_of_ble_eq_true rfl)⟩ fun cf11 e11 o11 => ?_
  have o11 : ∀ x, x ≠ 6 → cf11 x = cf10 x := o11
  refine cw_putF C hin ff_X8_26 dX8_init_50 (by decide) ((o11 0 (by decide)).trans e10) rfl rfl (Nat.le_of_ble_eq_true rfl) fun cf12 e12 o12 => ?_
  have e12 : cf12 0 = .inr (8, [.int 0, .ref (base + 1), .ref (base + 2), .ref (base + 3), .ref (base + 4), .ref (base + 5), .ref (base + 6), .int 0, .int 0, .int 0, .int 0, .int 0, .int 0, .int 0, .int 0, .null, .null, .null]) := e12
  have o12 : ∀ x, x ≠ 0 → cf12 x = cf11 x := o12
  refine cw_aload_n C dX8_init_53 0 rfl ?_
  refine cw_iconst C dX8_init_54 (v := (-1 : Int32)) (by decide) ?_
  refine cw_put C fp_X8_29 dX8_init_55 (by decide) e12 rfl rfl (Nat.le_of_ble_eq_true rfl) fun cf13 e13 o13 => ?_
  have e13 : cf13 0 = .inr (8, [.int 0, .ref (base + 1), .ref (base + 2), .ref (base + 3), .ref (base + 4), .ref (base + 5), .ref (base + 6), .int 0, .int 0, .int 0, .int 0, .int 0, .int 0, .int 0, .int (-1), .null, .null, .null]) := e13
  have o13 : ∀ x, x ≠ 0 → cf13 x = cf12 x := o13
  refine cw_aload_n C dX8_init_58 0 rfl ?_
  refine cw_sipush C dX8_init_59 (v := (1503 : Int32)) (by decide) ?_
  refine cw_newa C (atype := .long) ac_long (t0 := 2) rfl id dX8_init_62 (a0 := (1503, .inr (.inl (fun _ => 0)))) (fun _ => rfl) (by decide) rfl (by decide) ⟨(Nat.le_of_ble_eq_true rfl), (Nat.le_of_ble_eq_true rfl)⟩ fun cf14 e14 o14 => ?_
  have o14 : ∀ x, x ≠ 7 → cf14 x = cf13 x := o14
  refine cw_putF C hin ff_X8_33 dX8_init_64 (by decide) ((o14 0 (by decide)).trans e13) rfl rfl (Nat.le_of_ble_eq_true rfl) fun cf15 e15 o15 => ?_
  have e15 : cf15 0 = .inr (8, [.int 0, .ref (base + 1), .ref (base + 2), .ref (base + 3), .ref (base + 4), .ref (base + 5), .ref (base + 6), .int 0, .int 0, .int 0, .int 0, .int 0, .int 0, .int 0, .int (-1), .ref (base + 7), .null, .null]) := e15
  have o15 : ∀ x, x ≠ 0 → cf15 x = cf14 x := o15
  refine cw_aload_n C dX8_init_67 0 rfl ?_
  refine cw_sipush C dX8_init_68 (v := (1503 : Int32)) (by decide) ?_
  refine cw_newa C (atype := .long) ac_long (t0 := 2) rfl id dX8_init_71 (a0 := (1503, .inr (.inl (fun _ => 0)))) (fun _ => rfl) (by decide) rfl (by decide) ⟨(Nat.le_of_ble_eq_true rfl), (Nat.le_of_ble_eq_true rfl)⟩ fun cf16 e16 o16 => ?_
  have o16 : ∀ x, x ≠ 8 → cf16 x = cf15 x := o16
  refine cw_putF C hin ff_X8_37 dX8_init_73 (by decide) ((o16 0 (by decide)).trans e15) rfl rfl (Nat.le_of_ble_eq_true rfl) fun cf17 e17 o17 => ?_
  have e17 : cf17 0 = .inr (8, [.int 0, .ref (base + 1), .ref (base + 2), .ref (base + 3), .ref (base + 4), .ref (base + 5), .ref (base + 6), .int 0, .int 0, .int 0, .int 0, .int 0, .int 0, .int 0, .int (-1), .ref (base + 7), .ref (base + 8), .null]) := e17
  have o17 : ∀ x, x ≠ 0 → cf17 x = cf16 x := o17
  refine cw_aload_n C dX8_init_76 0 rfl ?_
  refine cw_sipush C dX8_init_77 (v := (501 : Int32)) (by decide) ?_
  refine cw_newa C (atype := .long) ac_long (t0 := 2) rfl id dX8_init_80 (a0 := (501, .inr (.inl (fun _ => 0)))) (fun _ => rfl) (by decide) rfl (by decide) ⟨(Nat.le_of_ble_eq_true rfl), (Nat.le_of_ble_eq_true rfl)⟩ fun cf18 e18 o18 => ?_
  have o18 : ∀ x, x ≠ 9 → cf18 x = cf17 x := o18
  refine cw_putF C hin ff_X8_40 dX8_init_82 (by decide) ((o18 0 (by decide)).trans e17) rfl rfl (Nat.le_of_ble_eq_true rfl) fun cf19 e19 o19 => ?_
  have e19 : cf19 0 = .inr (8, [.int 0, .ref (base + 1), .ref (base + 2), .ref (base + 3), .ref (base + 4), .ref (base + 5), .ref (base + 6), .int 0, .int 0, .int 0, .int 0, .int 0, .int 0, .int 0, .int (-1), .ref (base + 7), .ref (base + 8), .ref (base + 9)]) := e19
  have o19 : ∀ x, x ≠ 0 → cf19 x = cf18 x := o19
  intro H locs ls hP hS hl
  refine wX8_init C2 (vM_ok hlt (fun i _ => Nat.le_add_right _ _)) hr h H locs ls (uH_of (all10 (by have := hP.2 0 (by decide); rw [e19] at this; exact this) (by have := hP.2 1 (by decide); rw [((o19 1 (by decide)).trans ((o18 1 (by decide)).trans ((o17 1 (by decide)).trans ((o16 1 (by decide)).trans ((o15 1 (by decide)).trans ((o14 1 (by decide)).trans ((o13 1 (by decide)).trans ((o12 1 (by decide)).trans ((o11 1 (by decide)).trans ((o10 1 (by decide)).trans ((o9 1 (by decide)).trans ((o8 1 (by decide)).trans ((o7 1 (by decide)).trans ((o6 1 (by decide)).trans ((o5 1 (by decide)).trans ((o4 1 (by decide)).trans ((o3 1 (by decide)).trans ((o2 1 (by decide)).trans e1))))))))))))))))))] at this; exact this) (by have := hP.2 2 (by decide); rw [((o19 2 (by decide)).trans ((o18 2 (by decide)).trans ((o17 2 (by decide)).trans ((o16 2 (by decide)).trans ((o15 2 (by decide)).trans ((o14 2 (by decide)).trans ((o13 2 (by decide)).trans ((o12 2 (by decide)).trans ((o11 2 (by decide)).trans ((o10 2 (by decide)).trans ((o9 2 (by decide)).trans ((o8 2 (by decide)).trans ((o7 2 (by decide)).trans ((o6 2 (by decide)).trans ((o5 2 (by decide)).trans ((o4 2 (by decide)).trans e3))))))))))))))))] at this; exact this) (by have := hP.2 3 (by decide); rw [((o19 3 (by decide)).trans ((o18 3 (by decide)).trans ((o17 3 (by decide)).trans ((o16 3 (by decide)).trans ((o15 3 (by decide)).trans ((o14 3 (by decide)).trans ((o13 3 (by decide)).trans ((o12 3 (by decide)).trans ((o11 3 (by decide)).trans ((o10 3 (by decide)).trans ((o9 3 (by decide)).trans ((o8 3 (by decide)).trans ((o7 3 (by decide)).trans ((o6 3 (by decide)).trans e5))))))))))))))] at this; exact this) (by have := hP.2 4 (by decide); rw [((o19 4 (by decide)).trans ((o18 4 (by decide)).trans ((o17 4 (by decide)).trans ((o16 4 (by decide)).trans ((o15 4 (by decide)).trans ((o14 4 (by decide)).trans ((o13 4 (by decide)).trans ((o12 4 (by decide)).trans ((o11 4 (by decide)).trans ((o10 4 (by decide)).trans ((o9 4 (by decide)).trans ((o8 4 (by decide)).trans e7))))))))))))] at this; exact this) (by have := hP.2 5 (by decide); rw [((o19 5 (by decide)).trans ((o18 5 (by decide)).trans ((o17 5 (by decide)).trans ((o16 5 (by decide)).trans ((o15 5 (by decide)).trans ((o14 5 (by decide)).trans ((o13 5 (by decide)).trans ((o12 5 (by decide)).trans ((o11 5 (by decide)).trans ((o10 5 (by decide)).trans e9))))))))))] at this; exact this) (by have := hP.2 6 (by decide); rw [((o19 6 (by decide)).trans ((o18 6 (by decide)).trans ((o17 6 (by decide)).trans ((o16 6 (by decide)).trans ((o15 6 (by decide)).trans ((o14 6 (by decide)).trans ((o13 6 (by decide)).trans ((o12 6 (by decide)).trans e11))))))))] at this; exact this) (by have := hP.2 7 (by decide); rw [((o19 7 (by decide)).trans ((o18 7 (by decide)).trans ((o17 7 (by decide)).trans ((o16 7 (by decide)).trans ((o15 7 (by decide)).trans e14)))))] at this; exact this) (by have := hP.2 8 (by decide); rw [((o19 8 (by decide)).trans ((o18 8 (by decide)).trans ((o17 8 (by decide)).trans e16)))] at this; exact this) (by have := hP.2 9 (by decide); rw [((o19 9 (by decide)).trans e18)] at this; exact this))) hS hl
