def fL_append  (p1 : Int32) (p2 : Int32) (p3 : Int32) (p4 : Int32) (p5 : Int32) (st : uSt) : Option (Int32 × uSt) :=
  olx (fX7_append p1 p2 p3 p4 p5 st) (fun x_1 st_2 => ol (sL st_2 71 0 x_1.toInt64) (fun st_5 => some ((0 : Int32), st_5))) (fun E_3 st_2 => if E_3 = "java/lang/IllegalStateException" then some ((1 : Int32), st_2) else none)
def fL_truncate  (p1 : Int32) (st : uSt) : Option (Int32 × uSt) :=
  olx (fX7_truncate p1 st) (fun x_1 st_2 => ol (sL st_2 71 0 x_1.toInt64) (fun st_5 => some ((0 : Int32), st_5))) (fun E_3 st_2 => if E_3 = "java/lang/IndexOutOfBoundsException" then some ((1 : Int32), st_2) else none)
def fL_load   (st : uSt) : Option (Int32 × uSt) :=
  olx (fX7_load st) (fun x_1 st_2 => ol (sL st_2 71 0 x_1.toInt64) (fun st_5 => some ((0 : Int32), st_5))) (fun E_3 st_2 => if E_3 = "java/lang/IllegalArgumentException" then some ((1 : Int32), st_2) else none)
def fL_report  (p1 : Int32) (st : uSt) : Option (Int32 × uSt) :=
  olx (fX7_report p1 st) (fun x_1 st_2 => ol (sL st_2 71 0 x_1.toInt64) (fun st_5 => some ((0 : Int32), st_5))) (fun E_3 st_2 => if E_3 = "java/lang/IllegalArgumentException" then some ((1 : Int32), st_2) else none)
def fL_device  (p1 : Int32) (p2 : Int32) (st : uSt) : Option (Int32 × uSt) :=
  olx (fX7_device p1 p2 st) (fun x_1 st_2 => ol (sL st_2 71 0 x_1.toInt64) (fun st_5 => some ((0 : Int32), st_5))) (fun E_3 st_2 => if E_3 = "java/lang/IndexOutOfBoundsException" then some ((1 : Int32), st_2) else if E_3 = "java/lang/IllegalArgumentException" then some ((2 : Int32), st_2) else none)
def fL_block  (p1 : Int32) (p2 : Int32) (st : uSt) : Option (Int32 × uSt) :=
  olx (fX7_block p1 p2 st) (fun x_1 st_2 => ol (sL st_2 71 0 x_1.toInt64) (fun st_5 => some ((0 : Int32), st_5))) (fun E_3 st_2 => if E_3 = "java/lang/IndexOutOfBoundsException" then some ((1 : Int32), st_2) else if E_3 = "java/lang/IllegalArgumentException" then some ((2 : Int32), st_2) else none)
def fL_find  (p1 : Int32) (p2 : Int32) (st : uSt) : Option (Int32 × uSt) :=
  olx (fX7_find p1 p2 st) (fun x_1 st_2 => ol (sL st_2 71 0 x_1.toInt64) (fun st_5 => some ((0 : Int32), st_5))) (fun E_3 st_2 => if E_3 = "java/lang/IndexOutOfBoundsException" then some ((1 : Int32), st_2) else if E_3 = "java/util/NoSuchElementException" then some ((2 : Int32), st_2) else none)
def fL_oldest   (st : uSt) : Option (Int32 × uSt) :=
  olx (fX7_oldest st) (fun x_1 st_2 => ol (sL st_2 71 0 x_1.toInt64) (fun st_5 => some ((0 : Int32), st_5))) (fun E_3 st_2 => if E_3 = "java/util/NoSuchElementException" then some ((1 : Int32), st_2) else none)
def fL_total  (p1 : Int32) (st : uSt) : Option (Int32 × uSt) :=
  olx (fX7_total p1 st) (fun x_1 st_2 => ol (sL st_2 71 0 x_1.toInt64) (fun st_5 => some ((0 : Int32), st_5))) (fun E_3 st_2 => if E_3 = "java/lang/IllegalArgumentException" then some ((1 : Int32), st_2) else none)
def fL_write  (p1 : Int32) (p2 : Int32) (p3 : Int32) (st : uSt) : Option (Int32 × uSt) :=
  olx (fX7_write p1 p2 p3 st) (fun x_1 st_2 => oj1 (fun (v_6 : Int64) => ol (sL st_2 71 0 v_6) (fun st_7 => some ((0 : Int32), st_7))) (fun j_5 => (if x_1 = 0 then (j_5 (0 : Int64)) else (j_5 (1 : Int64))))) (fun E_3 st_2 => if E_3 = "java/lang/IndexOutOfBoundsException" then some ((1 : Int32), st_2) else if E_3 = "java/lang/IllegalArgumentException" then some ((2 : Int32), st_2) else if E_3 = "java/lang/IllegalStateException" then some ((3 : Int32), st_2) else none)
def fL_wouldCache  (p1 : Int32) (p2 : Int32) (p3 : Int32) (st : uSt) : Option (Int32 × uSt) :=
  olx (fX7_wouldCache p1 p2 p3 st) (fun x_1 st_2 => oj1 (fun (v_6 : Int64) => ol (sL st_2 71 0 v_6) (fun st_7 => some ((0 : Int32), st_7))) (fun j_5 => (if x_1 = 0 then (j_5 (0 : Int64)) else (j_5 (1 : Int64))))) (fun E_3 st_2 => if E_3 = "java/lang/IndexOutOfBoundsException" then some ((1 : Int32), st_2) else if E_3 = "java/lang/IllegalArgumentException" then some ((2 : Int32), st_2) else if E_3 = "java/lang/IllegalStateException" then some ((3 : Int32), st_2) else none)
def fL_clean  (p1 : Int32) (st : uSt) : Option (Int32 × uSt) :=
  olx (fX7_clean p1 st) (fun x_1 st_2 => ol (sL st_2 71 0 x_1.toInt64) (fun st_5 => some ((0 : Int32), st_5))) (fun E_3 st_2 => if E_3 = "java/lang/IndexOutOfBoundsException" then some ((1 : Int32), st_2) else if E_3 = "java/lang/IllegalStateException" then some ((2 : Int32), st_2) else none)
def fL_setFailed  (p1 : Int32) (p2 : Int32) (st : uSt) : Option (Int32 × uSt) :=
  olx (fX7_setFailed p1 p2 st) (fun x_1 st_2 => oj1 (fun (v_6 : Int64) => ol (sL st_2 71 0 v_6) (fun st_7 => some ((0 : Int32), st_7))) (fun j_5 => (if x_1 = 0 then (j_5 (0 : Int64)) else (j_5 (1 : Int64))))) (fun E_3 st_2 => if E_3 = "java/lang/IndexOutOfBoundsException" then some ((1 : Int32), st_2) else none)
def fL_setMode  (p1 : Int32) (p2 : Int32) (st : uSt) : Option (Int32 × uSt) :=
  olx (fX7_setMode p1 p2 st) (fun x_1 st_2 => ol (sL st_2 71 0 x_1.toInt64) (fun st_5 => some ((0 : Int32), st_5))) (fun E_3 st_2 => if E_3 = "java/lang/IllegalArgumentException" then some ((1 : Int32), st_2) else none)
def fL_advance  (p1 : Int32) (st : uSt) : Option (Int32 × uSt) :=
  olx (fX7_advance p1 st) (fun x_1 st_2 => ol (sL st_2 71 0 x_1.toInt64) (fun st_5 => some ((0 : Int32), st_5))) (fun E_3 st_2 => if E_3 = "java/lang/IllegalArgumentException" then some ((1 : Int32), st_2) else none)
def fL_flush   (st : uSt) : Option (Int32 × uSt) :=
  olx (fX7_flush st) (fun x_1 st_2 => ol (sL st_2 71 0 x_1.toInt64) (fun st_5 => some ((0 : Int32), st_5))) (fun E_3 st_2 => if E_3 = "java/lang/IllegalStateException" then some ((1 : Int32), st_2) else none)
def fL_flushDevice  (p1 : Int32) (st : uSt) : Option (Int32 × uSt) :=
  olx (fX7_flushDevice p1 st) (fun x_1 st_2 => ol (sL st_2 71 0 x_1.toInt64) (fun st_5 => some ((0 : Int32), st_5))) (fun E_3 st_2 => if E_3 = "java/lang/IndexOutOfBoundsException" then some ((1 : Int32), st_2) else if E_3 = "java/lang/IllegalStateException" then some ((2 : Int32), st_2) else none)
def fL_energyOf  (p1 : Int32) (st : uSt) : Option (Int32 × uSt) :=
  olx (fX7_energyOf p1 st) (fun x_1 st_2 => ol (sL st_2 71 0 x_1.toInt64) (fun st_5 => some ((0 : Int32), st_5))) (fun E_3 st_2 => if E_3 = "java/lang/IllegalArgumentException" then some ((1 : Int32), st_2) else none)
def fL_valueOf  (p1 : Int32) (st : uSt) : Option (Int32 × uSt) :=
  olx (fX7_valueOf p1 st) (fun x_1 st_2 => ol (sL st_2 71 0 x_1.toInt64) (fun st_5 => some ((0 : Int32), st_5))) (fun E_3 st_2 => if E_3 = "java/lang/IllegalArgumentException" then some ((1 : Int32), st_2) else none)
def fL_bestSet  (p1 : Int32) (st : uSt) : Option (Int32 × uSt) :=
  olx (fX7_bestSet p1 st) (fun x_1 st_2 => ol (sL st_2 71 0 x_1.toInt64) (fun st_5 => some ((0 : Int32), st_5))) (fun E_3 st_2 => if E_3 = "java/lang/IllegalArgumentException" then some ((1 : Int32), st_2) else none)
def fL_bestValue  (p1 : Int32) (st : uSt) : Option (Int32 × uSt) :=
  olx (fX7_bestValue p1 st) (fun x_1 st_2 => ol (sL st_2 71 0 x_1.toInt64) (fun st_5 => some ((0 : Int32), st_5))) (fun E_3 st_2 => if E_3 = "java/lang/IllegalArgumentException" then some ((1 : Int32), st_2) else none)
def fL_greedySet  (p1 : Int32) (st : uSt) : Option (Int32 × uSt) :=
  olx (fX7_greedySet p1 st) (fun x_1 st_2 => ol (sL st_2 71 0 x_1.toInt64) (fun st_5 => some ((0 : Int32), st_5))) (fun E_3 st_2 => if E_3 = "java/lang/IllegalArgumentException" then some ((1 : Int32), st_2) else none)
def fL_quality  (p1 : Int32) (st : uSt) : Option (Int32 × uSt) :=
  olx (fX7_quality p1 st) (fun x_1 st_2 => ol (sD st_2 72 0 x_1) (fun st_5 => some ((0 : Int32), st_5))) (fun E_3 st_2 => if E_3 = "java/lang/IllegalArgumentException" then some ((1 : Int32), st_2) else if E_3 = "java/util/NoSuchElementException" then some ((2 : Int32), st_2) else none)
def fL_energyFor  (p1 : Int32) (st : uSt) : Option (Int32 × uSt) :=
  olx (fX7_energyFor p1 st) (fun x_1 st_2 => ol (sL st_2 71 0 x_1.toInt64) (fun st_5 => some ((0 : Int32), st_5))) (fun E_3 st_2 => if E_3 = "java/lang/IllegalArgumentException" then some ((1 : Int32), st_2) else if E_3 = "java/util/NoSuchElementException" then some ((2 : Int32), st_2) else none)
def fL_extra  (p1 : Int32) (st : uSt) : Option (Int32 × uSt) :=
  olx (fX7_extra p1 st) (fun x_1 st_2 => ol (sL st_2 71 0 x_1.toInt64) (fun st_5 => some ((0 : Int32), st_5))) (fun E_3 st_2 => if E_3 = "java/lang/IndexOutOfBoundsException" then some ((1 : Int32), st_2) else if E_3 = "java/lang/IllegalStateException" then some ((2 : Int32), st_2) else none)
def fL_valueAfter  (p1 : Int32) (st : uSt) : Option (Int32 × uSt) :=
  olx (fX7_valueAfter p1 st) (fun x_1 st_2 => ol (sL st_2 71 0 x_1.toInt64) (fun st_5 => some ((0 : Int32), st_5))) (fun E_3 st_2 => if E_3 = "java/lang/IllegalArgumentException" then some ((1 : Int32), st_2) else none)
def fL_gainOfRepair  (p1 : Int32) (st : uSt) : Option (Int32 × uSt) :=
  olx (fX7_gainOfRepair p1 st) (fun x_1 st_2 => ol (sL st_2 71 0 x_1.toInt64) (fun st_5 => some ((0 : Int32), st_5))) (fun E_3 st_2 => if E_3 = "java/lang/IndexOutOfBoundsException" then some ((1 : Int32), st_2) else none)
def fL_costliest   (st : uSt) : Option (Int32 × uSt) :=
  olx (fX7_costliest st) (fun x_1 st_2 => ol (sL st_2 71 0 x_1.toInt64) (fun st_5 => some ((0 : Int32), st_5))) (fun E_3 st_2 => if E_3 = "java/util/NoSuchElementException" then some ((1 : Int32), st_2) else none)
def fL_save  (p1 : Int32) (st : uSt) : Option (Int32 × uSt) :=
  olx (fX7_save p1 st) (fun _ st_2 => some ((0 : Int32), st_2)) (fun E_3 st_2 => if E_3 = "java/lang/IndexOutOfBoundsException" then some ((1 : Int32), st_2) else none)
def fL_restore  (p1 : Int32) (st : uSt) : Option (Int32 × uSt) :=
  olx (fX7_restore p1 st) (fun _ st_2 => some ((0 : Int32), st_2)) (fun E_3 st_2 => if E_3 = "java/lang/IndexOutOfBoundsException" then some ((1 : Int32), st_2) else if E_3 = "java/util/NoSuchElementException" then some ((2 : Int32), st_2) else none)
set_option maxRecDepth 100000 in
set_option maxHeartbeats 4000000 in
theorem kL_append {l : Launch} {V : uV} (W0 : uWC l V) {p1 : Int32} {p2 : Int32} {p3 : Int32} {p4 : Int32} {p5 : Int32} {st : uSt} {r : Int32} {s9 : uSt} (h : fL_append p1 p2 p3 p4 p5 st = some (r, s9)) : uMetH l V yL_append cL_append 8 (some .int) [(0, 16, 19, 13)] 7 115 1 6 [.ref (vA V 0), .int p1, .int p2, .int p3, .int p4, .int p5, .ref (vA V 71)] st (some (.int r)) s9 := by
  refine ux_metH W0.1 W0.2.1 (by decide) rfl (Nat.le_of_ble_eq_true rfl) (fun M hL hr C hTab => ?_)
  subst hL
  have C : uCx M V cL_append 8 RL 7 115 1 6 := C
  unfold fL_append at h
  refine ux_aload C dL_append_0 6 rfl ?_
  refine ux_iconst (v := 0) C dL_append_2 (by decide) ?_
  refine ux_aload_n C dL_append_3 0 rfl ?_
  refine ux_iload_n C dL_append_4 1 rfl ?_
  refine ux_iload_n C dL_append_5 2 rfl ?_
  refine ux_iload_n C dL_append_6 3 rfl ?_
  refine ux_iload C dL_append_7 4 rfl ?_
  refine ux_iload C dL_append_9 5 rfl ?_
  obtain ⟨x_1, st_2, h1, h⟩ := olx_some h
  refine ux_callCi C cv_L_7 dL_append_11 (oF W0) rfl (kX7_append W0 h1) rfl (Nat.le_of_ble_eq_true rfl) ⟨(Nat.le_of_ble_eq_true rfl), (Nat.le_of_ble_eq_true rfl)⟩ ⟨(Nat.le_of_ble_eq_true rfl), (Nat.le_of_ble_eq_true rfl)⟩ h (fun x_1 h => ?_) (fun E_3 q_4 h => ?_) rfl
  · refine ux_i2l C dL_append_14 ?_
    refine ux_lastK (j := 0) C (aOut W0) dL_append_15 (by decide) (by decide) h (fun st_5 h => ?_)
    refine ux_goto C dL_append_16 ?_
    refine ux_iconst (v := 0) C dL_append_23 (by decide) ?_
    exact ux_iretS C hr dL_append_24 h (Nat.le_of_ble_eq_true rfl) (Nat.le_of_ble_eq_true rfl)
  · by_cases c0 : E_3 = "java/lang/IllegalStateException"
    · subst c0
      rw [if_pos rfl] at h
      refine ux_catch C hTab [] (0, 16, 19, 13) [] rfl (fun _ hz => nomatch hz) (by decide) (by decide) clL_13 (by decide) ?_
      refine ux_astore C dL_append_19 rfl (by decide) ?_
      refine ux_iconst (v := 1) C dL_append_21 (by decide) ?_
      exact ux_iretS C hr dL_append_22 h (Nat.le_of_ble_eq_true rfl) (Nat.le_of_ble_eq_true rfl)
    rw [if_neg c0] at h
    cases h
set_option maxRecDepth 100000 in
set_option maxHeartbeats 4000000 in
theorem kL_truncate {l : Launch} {V : uV} (W0 : uWC l V) {p1 : Int32} {st : uSt} {r : Int32} {s9 : uSt} (h : fL_truncate p1 st = some (r, s9)) : uMetH l V yL_truncate cL_truncate 4 (some .int) [(0, 9, 12, 19)] 7 111 1 6 [.ref (vA V 0), .int p1, .ref (vA V 71)] st (some (.int r)) s9 := by
  refine ux_metH W0.1 W0.2.1 (by decide) rfl (Nat.le_of_ble_eq_true rfl) (fun M hL hr C hTab => ?_)
  subst hL
  have C : uCx M V cL_truncate 4 RL 7 111 1 6 := C
  unfold fL_truncate at h
  refine ux_aload_n C dL_truncate_0 2 rfl ?_
  refine ux_iconst (v := 0) C dL_truncate_1 (by decide) ?_
  refine ux_aload_n C dL_truncate_2 0 rfl ?_
  refine ux_iload_n C dL_truncate_3 1 rfl ?_
  obtain ⟨x_1, st_2, h1, h⟩ := olx_some h
  refine ux_callCi C cv_L_15 dL_truncate_4 (oF W0) rfl (kX7_truncate W0 h1) rfl (Nat.le_of_ble_eq_true rfl) ⟨(Nat.le_of_ble_eq_true rfl), (Nat.le_of_ble_eq_true rfl)⟩ ⟨(Nat.le_of_ble_eq_true rfl), (Nat.le_of_ble_eq_true rfl)⟩ h (fun x_1 h => ?_) (fun E_3 q_4 h => ?_) rfl
  · refine ux_i2l C dL_truncate_7 ?_
    refine ux_lastK (j := 0) C (aOut W0) dL_truncate_8 (by decide) (by decide) h (fun st_5 h => ?_)
    refine ux_goto C dL_truncate_9 ?_
    refine ux_iconst (v := 0) C dL_truncate_15 (by decide) ?_
    exact ux_iretS C hr dL_truncate_16 h (Nat.le_of_ble_eq_true rfl) (Nat.le_of_ble_eq_true rfl)
  · by_cases c0 : E_3 = "java/lang/IndexOutOfBoundsException"
    · subst c0
      rw [if_pos rfl] at h
      refine ux_catch C hTab [] (0, 9, 12, 19) [] rfl (fun _ hz => nomatch hz) (by decide) (by decide) clL_19 (by decide) ?_
      refine ux_astore_n C dL_truncate_12 rfl (by decide) ?_
      refine ux_iconst (v := 1) C dL_truncate_13 (by decide) ?_
      exact ux_iretS C hr dL_truncate_14 h (Nat.le_of_ble_eq_true rfl) (Nat.le_of_ble_eq_true rfl)
    rw [if_neg c0] at h
    cases h
set_option maxRecDepth 100000 in
set_option maxHeartbeats 4000000 in
theorem kL_load {l : Launch} {V : uV} (W0 : uWC l V) {st : uSt} {r : Int32} {s9 : uSt} (h : fL_load st = some (r, s9)) : uMetH l V yL_load cL_load 3 (some .int) [(0, 8, 11, 25)] 11 237 1 6 [.ref (vA V 0), .ref (vA V 71)] st (some (.int r)) s9 := by
  refine ux_metH W0.1 W0.2.1 (by decide) rfl (Nat.le_of_ble_eq_true rfl) (fun M hL hr C hTab => ?_)
  subst hL
  have C : uCx M V cL_load 3 RL 11 237 1 6 := C
  unfold fL_load at h
  refine ux_aload_n C dL_load_0 1 rfl ?_
  refine ux_iconst (v := 0) C dL_load_1 (by decide) ?_
  refine ux_aload_n C dL_load_2 0 rfl ?_
  obtain ⟨x_1, st_2, h1, h⟩ := olx_some h
  refine ux_callCi C cv_L_21 dL_load_3 (oF W0) rfl (kX7_load W0 h1) rfl (Nat.le_of_ble_eq_true rfl) ⟨(Nat.le_of_ble_eq_true rfl), (Nat.le_of_ble_eq_true rfl)⟩ ⟨(Nat.le_of_ble_eq_true rfl), (Nat.le_of_ble_eq_true rfl)⟩ h (fun x_1 h => ?_) (fun E_3 q_4 h => ?_) rfl
  · refine ux_i2l C dL_load_6 ?_
    refine ux_lastK (j := 0) C (aOut W0) dL_load_7 (by decide) (by decide) h (fun st_5 h => ?_)
    refine ux_goto C dL_load_8 ?_
    refine ux_iconst (v := 0) C dL_load_14 (by decide) ?_
    exact ux_iretS C hr dL_load_15 h (Nat.le_of_ble_eq_true rfl) (Nat.le_of_ble_eq_true rfl)
  · by_cases c0 : E_3 = "java/lang/IllegalArgumentException"
    · subst c0
      rw [if_pos rfl] at h
      refine ux_catch C hTab [] (0, 8, 11, 25) [] rfl (fun _ hz => nomatch hz) (by decide) (by decide) clL_25 (by decide) ?_
      refine ux_astore_n C dL_load_11 rfl (by decide) ?_
      refine ux_iconst (v := 1) C dL_load_12 (by decide) ?_
      exact ux_iretS C hr dL_load_13 h (Nat.le_of_ble_eq_true rfl) (Nat.le_of_ble_eq_true rfl)
    rw [if_neg c0] at h
    cases h
set_option maxRecDepth 100000 in
set_option maxHeartbeats 4000000 in
theorem kL_report {l : Launch} {V : uV} (W0 : uWC l V) {p1 : Int32} {st : uSt} {r : Int32} {s9 : uSt} (h : fL_report p1 st = some (r, s9)) : uMetH l V yL_report cL_report 4 (some .int) [(0, 9, 12, 25)] 7 111 1 6 [.ref (vA V 0), .int p1, .ref (vA V 71)] st (some (.int r)) s9 := by
  refine ux_metH W0.1 W0.2.1 (by decide) rfl (Nat.le_of_ble_eq_true rfl) (fun M hL hr C hTab => ?_)
  subst hL
  have C : uCx M V cL_report 4 RL 7 111 1 6 := C
  unfold fL_report at h
  refine ux_aload_n C dL_report_0 2 rfl ?_
  refine ux_iconst (v := 0) C dL_report_1 (by decide) ?_
  refine ux_aload_n C dL_report_2 0 rfl ?_
  refine ux_iload_n C dL_report_3 1 rfl ?_
  obtain ⟨x_1, st_2, h1, h⟩ := olx_some h
  refine ux_callCi C cv_L_27 dL_report_4 (oF W0) rfl (kX7_report W0 h1) rfl (Nat.le_of_ble_eq_true rfl) ⟨(Nat.le_of_ble_eq_true rfl), (Nat.le_of_ble_eq_true rfl)⟩ ⟨(Nat.le_of_ble_eq_true rfl), (Nat.le_of_ble_eq_true rfl)⟩ h (fun x_1 h => ?_) (fun E_3 q_4 h => ?_) rfl
  · refine ux_i2l C dL_report_7 ?_
    refine ux_lastK (j := 0) C (aOut W0) dL_report_8 (by decide) (by decide) h (fun st_5 h => ?_)
    refine ux_goto C dL_report_9 ?_
    refine ux_iconst (v := 0) C dL_report_15 (by decide) ?_
    exact ux_iretS C hr dL_report_16 h (Nat.le_of_ble_eq_true rfl) (Nat.le_of_ble_eq_true rfl)
  · by_cases c0 : E_3 = "java/lang/IllegalArgumentException"
    · subst c0
      rw [if_pos rfl] at h
      refine ux_catch C hTab [] (0, 9, 12, 25) [] rfl (fun _ hz => nomatch hz) (by decide) (by decide) clL_25 (by decide) ?_
      refine ux_astore_n C dL_report_12 rfl (by decide) ?_
      refine ux_iconst (v := 1) C dL_report_13 (by decide) ?_
      exact ux_iretS C hr dL_report_14 h (Nat.le_of_ble_eq_true rfl) (Nat.le_of_ble_eq_true rfl)
    rw [if_neg c0] at h
    cases h
set_option maxRecDepth 100000 in
set_option maxHeartbeats 4000000 in
theorem kL_device {l : Launch} {V : uV} (W0 : uWC l V) {p1 : Int32} {p2 : Int32} {st : uSt} {r : Int32} {s9 : uSt} (h : fL_device p1 p2 st = some (r, s9)) : uMetH l V yL_device cL_device 5 (some .int) [(0, 10, 13, 19), (0, 10, 17, 25)] 8 134 2 12 [.ref (vA V 0), .int p1, .int p2, .ref (vA V 71)] st (some (.int r)) s9 := by
  refine ux_metH W0.1 W0.2.1 (by decide) rfl (Nat.le_of_ble_eq_true rfl) (fun M hL hr C hTab => ?_)
  subst hL
  have C : uCx M V cL_device 5 RL 8 134 2 12 := C
  unfold fL_device at h
  refine ux_aload_n C dL_device_0 3 rfl ?_
  refine ux_iconst (v := 0) C dL_device_1 (by decide) ?_
  refine ux_aload_n C dL_device_2 0 rfl ?_
  refine ux_iload_n C dL_device_3 1 rfl ?_
  refine ux_iload_n C dL_device_4 2 rfl ?_
  obtain ⟨x_1, st_2, h1, h⟩ := olx_some h
  refine ux_callCi C cv_L_30 dL_device_5 (oF W0) rfl (kX7_device W0 h1) rfl (Nat.le_of_ble_eq_true rfl) ⟨(Nat.le_of_ble_eq_true rfl), (Nat.le_of_ble_eq_true rfl)⟩ ⟨(Nat.le_of_ble_eq_true rfl), (Nat.le_of_ble_eq_true rfl)⟩ h (fun x_1 h => ?_) (fun E_3 q_4 h => ?_) rfl
  · refine ux_i2l C dL_device_8 ?_
    refine ux_lastK (j := 0) C (aOut W0) dL_device_9 (by decide) (by decide) h (fun st_5 h => ?_)
    refine ux_goto C dL_device_10 ?_
    refine ux_iconst (v := 0) C dL_device_21 (by decide) ?_
    exact ux_iretS C hr dL_device_22 h (Nat.le_of_ble_eq_true rfl) (Nat.le_of_ble_eq_true rfl)
  · by_cases c0 : E_3 = "java/lang/IndexOutOfBoundsException"
    · subst c0
      rw [if_pos rfl] at h
      refine ux_catch C hTab [] (0, 10, 13, 19) [(0, 10, 17, 25)] rfl (fun _ hz => nomatch hz) (by decide) (by decide) clL_19 (by decide) ?_
      refine ux_astore C dL_device_13 rfl (by decide) ?_
      refine ux_iconst (v := 1) C dL_device_15 (by decide) ?_
      exact ux_iretS C hr dL_device_16 h (Nat.le_of_ble_eq_true rfl) (Nat.le_of_ble_eq_true rfl)
    rw [if_neg c0] at h
    by_cases c1 : E_3 = "java/lang/IllegalArgumentException"
    · subst c1
      rw [if_pos rfl] at h
      refine ux_catch C hTab [(0, 10, 13, 19)] (0, 10, 17, 25) [] rfl (fun z hz => by simp only [List.mem_cons, List.not_mem_nil, or_false] at hz; rcases hz with rfl <;> first | exact ⟨by decide, _, clL_19, by decide⟩) (by decide) (by decide) clL_25 (by decide) ?_
      refine ux_astore C dL_device_17 rfl (by decide) ?_
      refine ux_iconst (v := 2) C dL_device_19 (by decide) ?_
      exact ux_iretS C hr dL_device_20 h (Nat.le_of_ble_eq_true rfl) (Nat.le_of_ble_eq_true rfl)
    rw [if_neg c1] at h
    cases h
set_option maxRecDepth 100000 in
set_option maxHeartbeats 4000000 in
theorem kL_block {l : Launch} {V : uV} (W0 : uWC l V) {p1 : Int32} {p2 : Int32} {st : uSt} {r : Int32} {s9 : uSt} (h : fL_block p1 p2 st = some (r, s9)) : uMetH l V yL_block cL_block 5 (some .int) [(0, 10, 13, 19), (0, 10, 17, 25)] 8 133 2 12 [.ref (vA V 0), .int p1, .int p2, .ref (vA V 71)] st (some (.int r)) s9 := by
  refine ux_metH W0.1 W0.2.1 (by decide) rfl (Nat.le_of_ble_eq_true rfl) (fun M hL hr C hTab => ?_)
  subst hL
  have C : uCx M V cL_block 5 RL 8 133 2 12 := C
  unfold fL_block at h
  refine ux_aload_n C dL_block_0 3 rfl ?_
  refine ux_iconst (v := 0) C dL_block_1 (by decide) ?_
  refine ux_aload_n C dL_block_2 0 rfl ?_
  refine ux_iload_n C dL_block_3 1 rfl ?_
  refine ux_iload_n C dL_block_4 2 rfl ?_
  obtain ⟨x_1, st_2, h1, h⟩ := olx_some h
  refine ux_callCi C cv_L_34 dL_block_5 (oF W0) rfl (kX7_block W0 h1) rfl (Nat.le_of_ble_eq_true rfl) ⟨(Nat.le_of_ble_eq_true rfl), (Nat.le_of_ble_eq_true rfl)⟩ ⟨(Nat.le_of_ble_eq_true rfl), (Nat.le_of_ble_eq_true rfl)⟩ h (fun x_1 h => ?_) (fun E_3 q_4 h => ?_) rfl
  · refine ux_i2l C dL_block_8 ?_
    refine ux_lastK (j := 0) C (aOut W0) dL_block_9 (by decide) (by decide) h (fun st_5 h => ?_)
    refine ux_goto C dL_block_10 ?_
    refine ux_iconst (v := 0) C dL_block_21 (by decide) ?_
    exact ux_iretS C hr dL_block_22 h (Nat.le_of_ble_eq_true rfl) (Nat.le_of_ble_eq_true rfl)
  · by_cases c0 : E_3 = "java/lang/IndexOutOfBoundsException"
    · subst c0
      rw [if_pos rfl] at h
      refine ux_catch C hTab [] (0, 10, 13, 19) [(0, 10, 17, 25)] rfl (fun _ hz => nomatch hz) (by decide) (by decide) clL_19 (by decide) ?_
      refine ux_astore C dL_block_13 rfl (by decide) ?_
      refine ux_iconst (v := 1) C dL_block_15 (by decide) ?_
      exact ux_iretS C hr dL_block_16 h (Nat.le_of_ble_eq_true rfl) (Nat.le_of_ble_eq_true rfl)
    rw [if_neg c0] at h
    by_cases c1 : E_3 = "java/lang/IllegalArgumentException"
    · subst c1
      rw [if_pos rfl] at h
      refine ux_catch C hTab [(0, 10, 13, 19)] (0, 10, 17, 25) [] rfl (fun z hz => by simp only [List.mem_cons, List.not_mem_nil, or_false] at hz; rcases hz with rfl <;> first | exact ⟨by decide, _, clL_19, by decide⟩) (by decide) (by decide) clL_25 (by decide) ?_
      refine ux_astore C dL_block_17 rfl (by decide) ?_
      refine ux_iconst (v := 2) C dL_block_19 (by decide) ?_
      exact ux_iretS C hr dL_block_20 h (Nat.le_of_ble_eq_true rfl) (Nat.le_of_ble_eq_true rfl)
    rw [if_neg c1] at h
    cases h
set_option maxRecDepth 100000 in
set_option maxHeartbeats 4000000 in
theorem kL_find {l : Launch} {V : uV} (W0 : uWC l V) {p1 : Int32} {p2 : Int32} {st : uSt} {r : Int32} {s9 : uSt} (h : fL_find p1 p2 st = some (r, s9)) : uMetH l V yL_find cL_find 5 (some .int) [(0, 10, 13, 19), (0, 10, 17, 40)] 8 134 3 18 [.ref (vA V 0), .int p1, .int p2, .ref (vA V 71)] st (some (.int r)) s9 := by
  refine ux_metH W0.1 W0.2.1 (by decide) rfl (Nat.le_of_ble_eq_true rfl) (fun M hL hr C hTab => ?_)
  subst hL
  have C : uCx M V cL_find 5 RL 8 134 3 18 := C
  unfold fL_find at h
  refine ux_aload_n C dL_find_0 3 rfl ?_
  refine ux_iconst (v := 0) C dL_find_1 (by decide) ?_
  refine ux_aload_n C dL_find_2 0 rfl ?_
  refine ux_iload_n C dL_find_3 1 rfl ?_
  refine ux_iload_n C dL_find_4 2 rfl ?_
  obtain ⟨x_1, st_2, h1, h⟩ := olx_some h
  refine ux_callCi C cv_L_37 dL_find_5 (oF W0) rfl (kX7_find W0 h1) rfl (Nat.le_of_ble_eq_true rfl) ⟨(Nat.le_of_ble_eq_true rfl), (Nat.le_of_ble_eq_true rfl)⟩ ⟨(Nat.le_of_ble_eq_true rfl), (Nat.le_of_ble_eq_true rfl)⟩ h (fun x_1 h => ?_) (fun E_3 q_4 h => ?_) rfl
  · refine ux_i2l C dL_find_8 ?_
    refine ux_lastK (j := 0) C (aOut W0) dL_find_9 (by decide) (by decide) h (fun st_5 h => ?_)
    refine ux_goto C dL_find_10 ?_
    refine ux_iconst (v := 0) C dL_find_21 (by decide) ?_
    exact ux_iretS C hr dL_find_22 h (Nat.le_of_ble_eq_true rfl) (Nat.le_of_ble_eq_true rfl)
  · by_cases c0 : E_3 = "java/lang/IndexOutOfBoundsException"
    · subst c0
      rw [if_pos rfl] at h
      refine ux_catch C hTab [] (0, 10, 13, 19) [(0, 10, 17, 40)] rfl (fun _ hz => nomatch hz) (by decide) (by decide) clL_19 (by decide) ?_
      refine ux_astore C dL_find_13 rfl (by decide) ?_
      refine ux_iconst (v := 1) C dL_find_15 (by decide) ?_
      exact ux_iretS C hr dL_find_16 h (Nat.le_of_ble_eq_true rfl) (Nat.le_of_ble_eq_true rfl)
    rw [if_neg c0] at h
    by_cases c1 : E_3 = "java/util/NoSuchElementException"
    · subst c1
      rw [if_pos rfl] at h
      refine ux_catch C hTab [(0, 10, 13, 19)] (0, 10, 17, 40) [] rfl (fun z hz => by simp only [List.mem_cons, List.not_mem_nil, or_false] at hz; rcases hz with rfl <;> first | exact ⟨by decide, _, clL_19, by decide⟩) (by decide) (by decide) clL_40 (by decide) ?_
      refine ux_astore C dL_find_17 rfl (by decide) ?_
      refine ux_iconst (v := 2) C dL_find_19 (by decide) ?_
      exact ux_iretS C hr dL_find_20 h (Nat.le_of_ble_eq_true rfl) (Nat.le_of_ble_eq_true rfl)
    rw [if_neg c1] at h
    cases h
set_option maxRecDepth 100000 in
set_option maxHeartbeats 4000000 in
theorem kL_oldest {l : Launch} {V : uV} (W0 : uWC l V) {st : uSt} {r : Int32} {s9 : uSt} (h : fL_oldest st = some (r, s9)) : uMetH l V yL_oldest cL_oldest 3 (some .int) [(0, 8, 11, 40)] 7 112 1 6 [.ref (vA V 0), .ref (vA V 71)] st (some (.int r)) s9 := by
  refine ux_metH W0.1 W0.2.1 (by decide) rfl (Nat.le_of_ble_eq_true rfl) (fun M hL hr C hTab => ?_)
  subst hL
  have C : uCx M V cL_oldest 3 RL 7 112 1 6 := C
  unfold fL_oldest at h
  refine ux_aload_n C dL_oldest_0 1 rfl ?_
  refine ux_iconst (v := 0) C dL_oldest_1 (by decide) ?_
  refine ux_aload_n C dL_oldest_2 0 rfl ?_
  obtain ⟨x_1, st_2, h1, h⟩ := olx_some h
  refine ux_callCi C cv_L_42 dL_oldest_3 (oF W0) rfl (kX7_oldest W0 h1) rfl (Nat.le_of_ble_eq_true rfl) ⟨(Nat.le_of_ble_eq_true rfl), (Nat.le_of_ble_eq_true rfl)⟩ ⟨(Nat.le_of_ble_eq_true rfl), (Nat.le_of_ble_eq_true rfl)⟩ h (fun x_1 h => ?_) (fun E_3 q_4 h => ?_) rfl
  · refine ux_i2l C dL_oldest_6 ?_
    refine ux_lastK (j := 0) C (aOut W0) dL_oldest_7 (by decide) (by decide) h (fun st_5 h => ?_)
    refine ux_goto C dL_oldest_8 ?_
    refine ux_iconst (v := 0) C dL_oldest_14 (by decide) ?_
    exact ux_iretS C hr dL_oldest_15 h (Nat.le_of_ble_eq_true rfl) (Nat.le_of_ble_eq_true rfl)
  · by_cases c0 : E_3 = "java/util/NoSuchElementException"
    · subst c0
      rw [if_pos rfl] at h
      refine ux_catch C hTab [] (0, 8, 11, 40) [] rfl (fun _ hz => nomatch hz) (by decide) (by decide) clL_40 (by decide) ?_
      refine ux_astore_n C dL_oldest_11 rfl (by decide) ?_
      refine ux_iconst (v := 1) C dL_oldest_12 (by decide) ?_
      exact ux_iretS C hr dL_oldest_13 h (Nat.le_of_ble_eq_true rfl) (Nat.le_of_ble_eq_true rfl)
    rw [if_neg c0] at h
    cases h
set_option maxRecDepth 100000 in
set_option maxHeartbeats 4000000 in
theorem kL_total {l : Launch} {V : uV} (W0 : uWC l V) {p1 : Int32} {st : uSt} {r : Int32} {s9 : uSt} (h : fL_total p1 st = some (r, s9)) : uMetH l V yL_total cL_total 4 (some .int) [(0, 9, 12, 25)] 7 111 1 6 [.ref (vA V 0), .int p1, .ref (vA V 71)] st (some (.int r)) s9 := by
  refine ux_metH W0.1 W0.2.1 (by decide) rfl (Nat.le_of_ble_eq_true rfl) (fun M hL hr C hTab => ?_)
  subst hL
  have C : uCx M V cL_total 4 RL 7 111 1 6 := C
  unfold fL_total at h
  refine ux_aload_n C dL_total_0 2 rfl ?_
  refine ux_iconst (v := 0) C dL_total_1 (by decide) ?_
  refine ux_aload_n C dL_total_2 0 rfl ?_
  refine ux_iload_n C dL_total_3 1 rfl ?_
  obtain ⟨x_1, st_2, h1, h⟩ := olx_some h
  refine ux_callCi C cv_L_45 dL_total_4 (oF W0) rfl (kX7_total W0 h1) rfl (Nat.le_of_ble_eq_true rfl) ⟨(Nat.le_of_ble_eq_true rfl), (Nat.le_of_ble_eq_true rfl)⟩ ⟨(Nat.le_of_ble_eq_true rfl), (Nat.le_of_ble_eq_true rfl)⟩ h (fun x_1 h => ?_) (fun E_3 q_4 h => ?_) rfl
  · refine ux_i2l C dL_total_7 ?_
    refine ux_lastK (j := 0) C (aOut W0) dL_total_8 (by decide) (by decide) h (fun st_5 h => ?_)
    refine ux_goto C dL_total_9 ?_
    refine ux_iconst (v := 0) C dL_total_15 (by decide) ?_
    exact ux_iretS C hr dL_total_16 h (Nat.le_of_ble_eq_true rfl) (Nat.le_of_ble_eq_true rfl)
  · by_cases c0 : E_3 = "java/lang/IllegalArgumentException"
    · subst c0
      rw [if_pos rfl] at h
      refine ux_catch C hTab [] (0, 9, 12, 25) [] rfl (fun _ hz => nomatch hz) (by decide) (by decide) clL_25 (by decide) ?_
      refine ux_astore_n C dL_total_12 rfl (by decide) ?_
      refine ux_iconst (v := 1) C dL_total_13 (by decide) ?_
      exact ux_iretS C hr dL_total_14 h (Nat.le_of_ble_eq_true rfl) (Nat.le_of_ble_eq_true rfl)
    rw [if_neg c0] at h
    cases h
set_option maxRecDepth 100000 in
set_option maxHeartbeats 4000000 in
theorem kL_write {l : Launch} {V : uV} (W0 : uWC l V) {p1 : Int32} {p2 : Int32} {p3 : Int32} {st : uSt} {r : Int32} {s9 : uSt} (h : fL_write p1 p2 p3 st = some (r, s9)) : uMetH l V yL_write cL_write 6 (some .int) [(0, 19, 22, 19), (0, 19, 26, 25), (0, 19, 30, 13)] 9 158 3 18 [.ref (vA V 0), .int p1, .int p2, .int p3, .ref (vA V 71)] st (some (.int r)) s9 := by
  refine ux_metH W0.1 W0.2.1 (by decide) rfl (Nat.le_of_ble_eq_true rfl) (fun M hL hr C hTab => ?_)
  subst hL
  have C : uCx M V cL_write 6 RL 9 158 3 18 := C
  unfold fL_write at h
  refine ux_aload C dL_write_0 4 rfl ?_
  refine ux_iconst (v := 0) C dL_write_2 (by decide) ?_
  refine ux_aload_n C dL_write_3 0 rfl ?_
  refine ux_iload_n C dL_write_4 1 rfl ?_
  refine ux_iload_n C dL_write_5 2 rfl ?_
  refine ux_iload_n C dL_write_6 3 rfl ?_
  obtain ⟨x_1, st_2, h1, h⟩ := olx_some h
  refine ux_callCi C cv_L_48 dL_write_7 (oF W0) rfl (kX7_write W0 h1) rfl (Nat.le_of_ble_eq_true rfl) ⟨(Nat.le_of_ble_eq_true rfl), (Nat.le_of_ble_eq_true rfl)⟩ ⟨(Nat.le_of_ble_eq_true rfl), (Nat.le_of_ble_eq_true rfl)⟩ h (fun x_1 h => ?_) (fun E_3 q_4 h => ?_) rfl
  · obtain ⟨j_5, hK_5, h⟩ := oj1_some h
    have hJ_5 : ∀ (v_6 : Int64), j_5 v_6 = some (r, s9) → uW M V (uEnd M V 3 18 (some (.int r)) s9) 6 3 18 18 [] [.long v_6, .int (0 : Int32), .ref (vA V 71)] st_2 := by
      intro v_6 h
      replace h := hK_5 v_6 h
      refine ux_lastK (j := 0) C (aOut W0) dL_write_18 (by decide) (by decide) h (fun st_7 h => ?_)
      refine ux_goto C dL_write_19 ?_
      refine ux_iconst (v := 0) C dL_write_34 (by decide) ?_
      exact ux_iretS C hr dL_write_35 h (Nat.le_of_ble_eq_true rfl) (Nat.le_of_ble_eq_true rfl)
    refine ux_if_eq C dL_write_10 h (fun h => ?_) (fun h => ?_)
    · refine ux_lconst (v := 0) C dL_write_17 (by decide) ?_
      refine ux_sub [] rfl ?_
      exact hJ_5 (0 : Int64) h
    · refine ux_lconst (v := 1) C dL_write_13 (by decide) ?_
      refine ux_goto C dL_write_14 ?_
      refine ux_sub [] rfl ?_
      exact hJ_5 (1 : Int64) h
  · by_cases c0 : E_3 = "java/lang/IndexOutOfBoundsException"
    · subst c0
      rw [if_pos rfl] at h
      refine ux_catch C hTab [] (0, 19, 22, 19) [(0, 19, 26, 25), (0, 19, 30, 13)] rfl (fun _ hz => nomatch hz) (by decide) (by decide) clL_19 (by decide) ?_
      refine ux_astore C dL_write_22 rfl (by decide) ?_
      refine ux_iconst (v := 1) C dL_write_24 (by decide) ?_
      exact ux_iretS C hr dL_write_25 h (Nat.le_of_ble_eq_true rfl) (Nat.le_of_ble_eq_true rfl)
    rw [if_neg c0] at h
    by_cases c1 : E_3 = "java/lang/IllegalArgumentException"
    · subst c1
      rw [if_pos rfl] at h
      refine ux_catch C hTab [(0, 19, 22, 19)] (0, 19, 26, 25) [(0, 19, 30, 13)] rfl (fun z hz => by simp only [List.mem_cons, List.not_mem_nil, or_false] at hz; rcases hz with rfl <;> first | exact ⟨by decide, _, clL_19, by decide⟩) (by decide) (by decide) clL_25 (by decide) ?_
      refine ux_astore C dL_write_26 rfl (by decide) ?_
      refine ux_iconst (v := 2) C dL_write_28 (by decide) ?_
      exact ux_iretS C hr dL_write_29 h (Nat.le_of_ble_eq_true rfl) (Nat.le_of_ble_eq_true rfl)
    rw [if_neg c1] at h
    by_cases c2 : E_3 = "java/lang/IllegalStateException"
    · subst c2
      rw [if_pos rfl] at h
      refine ux_catch C hTab [(0, 19, 22, 19), (0, 19, 26, 25)] (0, 19, 30, 13) [] rfl (fun z hz => by simp only [List.mem_cons, List.not_mem_nil, or_false] at hz; rcases hz with rfl | rfl <;> first | exact ⟨by decide, _, clL_19, by decide⟩ | exact ⟨by decide, _, clL_25, by decide⟩) (by decide) (by decide) clL_13 (by decide) ?_
      refine ux_astore C dL_write_30 rfl (by decide) ?_
      refine ux_iconst (v := 3) C dL_write_32 (by decide) ?_
      exact ux_iretS C hr dL_write_33 h (Nat.le_of_ble_eq_true rfl) (Nat.le_of_ble_eq_true rfl)
    rw [if_neg c2] at h
    cases h
set_option maxRecDepth 100000 in
set_option maxHeartbeats 4000000 in
theorem kL_wouldCache {l : Launch} {V : uV} (W0 : uWC l V) {p1 : Int32} {p2 : Int32} {p3 : Int32} {st : uSt} {r : Int32} {s9 : uSt} (h : fL_wouldCache p1 p2 p3 st = some (r, s9)) : uMetH l V yL_wouldCache cL_wouldCache 6 (some .int) [(0, 19, 22, 19), (0, 19, 26, 25), (0, 19, 30, 13)] 9 157 3 18 [.ref (vA V 0), .int p1, .int p2, .int p3, .ref (vA V 71)] st (some (.int r)) s9 := by
  refine ux_metH W0.1 W0.2.1 (by decide) rfl (Nat.le_of_ble_eq_true rfl) (fun M hL hr C hTab => ?_)
  subst hL
  have C : uCx M V cL_wouldCache 6 RL 9 157 3 18 := C
  unfold fL_wouldCache at h
  refine ux_aload C dL_wouldCache_0 4 rfl ?_
  refine ux_iconst (v := 0) C dL_wouldCache_2 (by decide) ?_
  refine ux_aload_n C dL_wouldCache_3 0 rfl ?_
  refine ux_iload_n C dL_wouldCache_4 1 rfl ?_
  refine ux_iload_n C dL_wouldCache_5 2 rfl ?_
  refine ux_iload_n C dL_wouldCache_6 3 rfl ?_
  obtain ⟨x_1, st_2, h1, h⟩ := olx_some h
  refine ux_callCi C cv_L_52 dL_wouldCache_7 (oF W0) rfl (kX7_wouldCache W0 h1) rfl (Nat.le_of_ble_eq_true rfl) ⟨(Nat.le_of_ble_eq_true rfl), (Nat.le_of_ble_eq_true rfl)⟩ ⟨(Nat.le_of_ble_eq_true rfl), (Nat.le_of_ble_eq_true rfl)⟩ h (fun x_1 h => ?_) (fun E_3 q_4 h => ?_) rfl
  · obtain ⟨j_5, hK_5, h⟩ := oj1_some h
    have hJ_5 : ∀ (v_6 : Int64), j_5 v_6 = some (r, s9) → uW M V (uEnd M V 3 18 (some (.int r)) s9) 6 3 18 18 [] [.long v_6, .int (0 : Int32), .ref (vA V 71)] st_2 := by
      intro v_6 h
      replace h := hK_5 v_6 h
      refine ux_lastK (j := 0) C (aOut W0) dL_wouldCache_18 (by decide) (by decide) h (fun st_7 h => ?_)
      refine ux_goto C dL_wouldCache_19 ?_
      refine ux_iconst (v := 0) C dL_wouldCache_34 (by decide) ?_
      exact ux_iretS C hr dL_wouldCache_35 h (Nat.le_of_ble_eq_true rfl) (Nat.le_of_ble_eq_true rfl)
    refine ux_if_eq C dL_wouldCache_10 h (fun h => ?_) (fun h => ?_)
    · refine ux_lconst (v := 0) C dL_wouldCache_17 (by decide) ?_
      refine ux_sub [] rfl ?_
      exact hJ_5 (0 : Int64) h
    · refine ux_lconst (v := 1) C dL_wouldCache_13 (by decide) ?_
      refine ux_goto C dL_wouldCache_14 ?_
      refine ux_sub [] rfl ?_
      exact hJ_5 (1 : Int64) h
  · by_cases c0 : E_3 = "java/lang/IndexOutOfBoundsException"
    · subst c0
      rw [if_pos rfl] at h
      refine ux_catch C hTab [] (0, 19, 22, 19) [(0, 19, 26, 25), (0, 19, 30, 13)] rfl (fun _ hz => nomatch hz) (by decide) (by decide) clL_19 (by decide) ?_
      refine ux_astore C dL_wouldCache_22 rfl (by decide) ?_
      refine ux_iconst (v := 1) C dL_wouldCache_24 (by decide) ?_
      exact ux_iretS C hr dL_wouldCache_25 h (Nat.le_of_ble_eq_true rfl) (Nat.le_of_ble_eq_true rfl)
    rw [if_neg c0] at h
    by_cases c1 : E_3 = "java/lang/IllegalArgumentException"
    · subst c1
      rw [if_pos rfl] at h
      refine ux_catch C hTab [(0, 19, 22, 19)] (0, 19, 26, 25) [(0, 19, 30, 13)] rfl (fun z hz => by simp only [List.mem_cons, List.not_mem_nil, or_false] at hz; rcases hz with rfl <;> first | exact ⟨by decide, _, clL_19, by decide⟩) (by decide) (by decide) clL_25 (by decide) ?_
      refine ux_astore C dL_wouldCache_26 rfl (by decide) ?_
      refine ux_iconst (v := 2) C dL_wouldCache_28 (by decide) ?_
      exact ux_iretS C hr dL_wouldCache_29 h (Nat.le_of_ble_eq_true rfl) (Nat.le_of_ble_eq_true rfl)
    rw [if_neg c1] at h
    by_cases c2 : E_3 = "java/lang/IllegalStateException"
    · subst c2
      rw [if_pos rfl] at h
      refine ux_catch C hTab [(0, 19, 22, 19), (0, 19, 26, 25)] (0, 19, 30, 13) [] rfl (fun z hz => by simp only [List.mem_cons, List.not_mem_nil, or_false] at hz; rcases hz with rfl | rfl <;> first | exact ⟨by decide, _, clL_19, by decide⟩ | exact ⟨by decide, _, clL_25, by decide⟩) (by decide) (by decide) clL_13 (by decide) ?_
      refine ux_astore C dL_wouldCache_30 rfl (by decide) ?_
      refine ux_iconst (v := 3) C dL_wouldCache_32 (by decide) ?_
      exact ux_iretS C hr dL_wouldCache_33 h (Nat.le_of_ble_eq_true rfl) (Nat.le_of_ble_eq_true rfl)
    rw [if_neg c2] at h
    cases h
set_option maxRecDepth 100000 in
set_option maxHeartbeats 4000000 in
theorem kL_clean {l : Launch} {V : uV} (W0 : uWC l V) {p1 : Int32} {st : uSt} {r : Int32} {s9 : uSt} (h : fL_clean p1 st = some (r, s9)) : uMetH l V yL_clean cL_clean 4 (some .int) [(0, 9, 12, 19), (0, 9, 15, 13)] 8 134 2 12 [.ref (vA V 0), .int p1, .ref (vA V 71)] st (some (.int r)) s9 := by
  refine ux_metH W0.1 W0.2.1 (by decide) rfl (Nat.le_of_ble_eq_true rfl) (fun M hL hr C hTab => ?_)
  subst hL
  have C : uCx M V cL_clean 4 RL 8 134 2 12 := C
  unfold fL_clean at h
  refine ux_aload_n C dL_clean_0 2 rfl ?_
  refine ux_iconst (v := 0) C dL_clean_1 (by decide) ?_
  refine ux_aload_n C dL_clean_2 0 rfl ?_
  refine ux_iload_n C dL_clean_3 1 rfl ?_
  obtain ⟨x_1, st_2, h1, h⟩ := olx_some h
  refine ux_callCi C cv_L_55 dL_clean_4 (oF W0) rfl (kX7_clean W0 h1) rfl (Nat.le_of_ble_eq_true rfl) ⟨(Nat.le_of_ble_eq_true rfl), (Nat.le_of_ble_eq_true rfl)⟩ ⟨(Nat.le_of_ble_eq_true rfl), (Nat.le_of_ble_eq_true rfl)⟩ h (fun x_1 h => ?_) (fun E_3 q_4 h => ?_) rfl
  · refine ux_i2l C dL_clean_7 ?_
    refine ux_lastK (j := 0) C (aOut W0) dL_clean_8 (by decide) (by decide) h (fun st_5 h => ?_)
    refine ux_goto C dL_clean_9 ?_
    refine ux_iconst (v := 0) C dL_clean_18 (by decide) ?_
    exact ux_iretS C hr dL_clean_19 h (Nat.le_of_ble_eq_true rfl) (Nat.le_of_ble_eq_true rfl)
  · by_cases c0 : E_3 = "java/lang/IndexOutOfBoundsException"
    · subst c0
      rw [if_pos rfl] at h
      refine ux_catch C hTab [] (0, 9, 12, 19) [(0, 9, 15, 13)] rfl (fun _ hz => nomatch hz) (by decide) (by decide) clL_19 (by decide) ?_
      refine ux_astore_n C dL_clean_12 rfl (by decide) ?_
      refine ux_iconst (v := 1) C dL_clean_13 (by decide) ?_
      exact ux_iretS C hr dL_clean_14 h (Nat.le_of_ble_eq_true rfl) (Nat.le_of_ble_eq_true rfl)
    rw [if_neg c0] at h
    by_cases c1 : E_3 = "java/lang/IllegalStateException"
    · subst c1
      rw [if_pos rfl] at h
      refine ux_catch C hTab [(0, 9, 12, 19)] (0, 9, 15, 13) [] rfl (fun z hz => by simp only [List.mem_cons, List.not_mem_nil, or_false] at hz; rcases hz with rfl <;> first | exact ⟨by decide, _, clL_19, by decide⟩) (by decide) (by decide) clL_13 (by decide) ?_
      refine ux_astore_n C dL_clean_15 rfl (by decide) ?_
      refine ux_iconst (v := 2) C dL_clean_16 (by decide) ?_
      exact ux_iretS C hr dL_clean_17 h (Nat.le_of_ble_eq_true rfl) (Nat.le_of_ble_eq_true rfl)
    rw [if_neg c1] at h
    cases h
set_option maxRecDepth 100000 in
set_option maxHeartbeats 4000000 in
theorem kL_setFailed {l : Launch} {V : uV} (W0 : uWC l V) {p1 : Int32} {p2 : Int32} {st : uSt} {r : Int32} {s9 : uSt} (h : fL_setFailed p1 p2 st = some (r, s9)) : uMetH l V yL_setFailed cL_setFailed 5 (some .int) [(0, 17, 20, 19)] 8 134 1 6 [.ref (vA V 0), .int p1, .int p2, .ref (vA V 71)] st (some (.int r)) s9 := by
  refine ux_metH W0.1 W0.2.1 (by decide) rfl (Nat.le_of_ble_eq_true rfl) (fun M hL hr C hTab => ?_)
  subst hL
  have C : uCx M V cL_setFailed 5 RL 8 134 1 6 := C
  unfold fL_setFailed at h
  refine ux_aload_n C dL_setFailed_0 3 rfl ?_
  refine ux_iconst (v := 0) C dL_setFailed_1 (by decide) ?_
  refine ux_aload_n C dL_setFailed_2 0 rfl ?_
  refine ux_iload_n C dL_setFailed_3 1 rfl ?_
  refine ux_iload_n C dL_setFailed_4 2 rfl ?_
  obtain ⟨x_1, st_2, h1, h⟩ := olx_some h
  refine ux_callCi C cv_L_58 dL_setFailed_5 (oF W0) rfl (kX7_setFailed W0 h1) rfl (Nat.le_of_ble_eq_true rfl) ⟨(Nat.le_of_ble_eq_true rfl), (Nat.le_of_ble_eq_true rfl)⟩ ⟨(Nat.le_of_ble_eq_true rfl), (Nat.le_of_ble_eq_true rfl)⟩ h (fun x_1 h => ?_) (fun E_3 q_4 h => ?_) rfl
  · obtain ⟨j_5, hK_5, h⟩ := oj1_some h
    have hJ_5 : ∀ (v_6 : Int64), j_5 v_6 = some (r, s9) → uW M V (uEnd M V 1 6 (some (.int r)) s9) 5 1 6 16 [] [.long v_6, .int (0 : Int32), .ref (vA V 71)] st_2 := by
      intro v_6 h
      replace h := hK_5 v_6 h
      refine ux_lastK (j := 0) C (aOut W0) dL_setFailed_16 (by decide) (by decide) h (fun st_7 h => ?_)
      refine ux_goto C dL_setFailed_17 ?_
      refine ux_iconst (v := 0) C dL_setFailed_24 (by decide) ?_
      exact ux_iretS C hr dL_setFailed_25 h (Nat.le_of_ble_eq_true rfl) (Nat.le_of_ble_eq_true rfl)
    refine ux_if_eq C dL_setFailed_8 h (fun h => ?_) (fun h => ?_)
    · refine ux_lconst (v := 0) C dL_setFailed_15 (by decide) ?_
      refine ux_sub [] rfl ?_
      exact hJ_5 (0 : Int64) h
    · refine ux_lconst (v := 1) C dL_setFailed_11 (by decide) ?_
      refine ux_goto C dL_setFailed_12 ?_
      refine ux_sub [] rfl ?_
      exact hJ_5 (1 : Int64) h
  · by_cases c0 : E_3 = "java/lang/IndexOutOfBoundsException"
    · subst c0
      rw [if_pos rfl] at h
      refine ux_catch C hTab [] (0, 17, 20, 19) [] rfl (fun _ hz => nomatch hz) (by decide) (by decide) clL_19 (by decide) ?_
      refine ux_astore C dL_setFailed_20 rfl (by decide) ?_
      refine ux_iconst (v := 1) C dL_setFailed_22 (by decide) ?_
      exact ux_iretS C hr dL_setFailed_23 h (Nat.le_of_ble_eq_true rfl) (Nat.le_of_ble_eq_true rfl)
    rw [if_neg c0] at h
    cases h
set_option maxRecDepth 100000 in
set_option maxHeartbeats 4000000 in
theorem kL_setMode {l : Launch} {V : uV} (W0 : uWC l V) {p1 : Int32} {p2 : Int32} {st : uSt} {r : Int32} {s9 : uSt} (h : fL_setMode p1 p2 st = some (r, s9)) : uMetH l V yL_setMode cL_setMode 5 (some .int) [(0, 10, 13, 25)] 7 115 1 6 [.ref (vA V 0), .int p1, .int p2, .ref (vA V 71)] st (some (.int r)) s9 := by
  refine ux_metH W0.1 W0.2.1 (by decide) rfl (Nat.le_of_ble_eq_true rfl) (fun M hL hr C hTab => ?_)
  subst hL
  have C : uCx M V cL_setMode 5 RL 7 115 1 6 := C
  unfold fL_setMode at h
  refine ux_aload_n C dL_setMode_0 3 rfl ?_
  refine ux_iconst (v := 0) C dL_setMode_1 (by decide) ?_
  refine ux_aload_n C dL_setMode_2 0 rfl ?_
  refine ux_iload_n C dL_setMode_3 1 rfl ?_
  refine ux_iload_n C dL_setMode_4 2 rfl ?_
  obtain ⟨x_1, st_2, h1, h⟩ := olx_some h
  refine ux_callCi C cv_L_62 dL_setMode_5 (oF W0) rfl (kX7_setMode W0 h1) rfl (Nat.le_of_ble_eq_true rfl) ⟨(Nat.le_of_ble_eq_true rfl), (Nat.le_of_ble_eq_true rfl)⟩ ⟨(Nat.le_of_ble_eq_true rfl), (Nat.le_of_ble_eq_true rfl)⟩ h (fun x_1 h => ?_) (fun E_3 q_4 h => ?_) rfl
  · refine ux_i2l C dL_setMode_8 ?_
    refine ux_lastK (j := 0) C (aOut W0) dL_setMode_9 (by decide) (by decide) h (fun st_5 h => ?_)
    refine ux_goto C dL_setMode_10 ?_
    refine ux_iconst (v := 0) C dL_setMode_17 (by decide) ?_
    exact ux_iretS C hr dL_setMode_18 h (Nat.le_of_ble_eq_true rfl) (Nat.le_of_ble_eq_true rfl)
  · by_cases c0 : E_3 = "java/lang/IllegalArgumentException"
    · subst c0
      rw [if_pos rfl] at h
      refine ux_catch C hTab [] (0, 10, 13, 25) [] rfl (fun _ hz => nomatch hz) (by decide) (by decide) clL_25 (by decide) ?_
      refine ux_astore C dL_setMode_13 rfl (by decide) ?_
      refine ux_iconst (v := 1) C dL_setMode_15 (by decide) ?_
      exact ux_iretS C hr dL_setMode_16 h (Nat.le_of_ble_eq_true rfl) (Nat.le_of_ble_eq_true rfl)
    rw [if_neg c0] at h
    cases h
set_option maxRecDepth 100000 in
set_option maxHeartbeats 4000000 in
theorem kL_advance {l : Launch} {V : uV} (W0 : uWC l V) {p1 : Int32} {st : uSt} {r : Int32} {s9 : uSt} (h : fL_advance p1 st = some (r, s9)) : uMetH l V yL_advance cL_advance 4 (some .int) [(0, 9, 12, 25)] 7 113 1 6 [.ref (vA V 0), .int p1, .ref (vA V 71)] st (some (.int r)) s9 := by
  refine ux_metH W0.1 W0.2.1 (by decide) rfl (Nat.le_of_ble_eq_true rfl) (fun M hL hr C hTab => ?_)
  subst hL
  have C : uCx M V cL_advance 4 RL 7 113 1 6 := C
  unfold fL_advance at h
  refine ux_aload_n C dL_advance_0 2 rfl ?_
  refine ux_iconst (v := 0) C dL_advance_1 (by decide) ?_
  refine ux_aload_n C dL_advance_2 0 rfl ?_
  refine ux_iload_n C dL_advance_3 1 rfl ?_
  obtain ⟨x_1, st_2, h1, h⟩ := olx_some h
  refine ux_callCi C cv_L_65 dL_advance_4 (oF W0) rfl (kX7_advance W0 h1) rfl (Nat.le_of_ble_eq_true rfl) ⟨(Nat.le_of_ble_eq_true rfl), (Nat.le_of_ble_eq_true rfl)⟩ ⟨(Nat.le_of_ble_eq_true rfl), (Nat.le_of_ble_eq_true rfl)⟩ h (fun x_1 h => ?_) (fun E_3 q_4 h => ?_) rfl
  · refine ux_i2l C dL_advance_7 ?_
    refine ux_lastK (j := 0) C (aOut W0) dL_advance_8 (by decide) (by decide) h (fun st_5 h => ?_)
    refine ux_goto C dL_advance_9 ?_
    refine ux_iconst (v := 0) C dL_advance_15 (by decide) ?_
    exact ux_iretS C hr dL_advance_16 h (Nat.le_of_ble_eq_true rfl) (Nat.le_of_ble_eq_true rfl)
  · by_cases c0 : E_3 = "java/lang/IllegalArgumentException"
    · subst c0
      rw [if_pos rfl] at h
      refine ux_catch C hTab [] (0, 9, 12, 25) [] rfl (fun _ hz => nomatch hz) (by decide) (by decide) clL_25 (by decide) ?_
      refine ux_astore_n C dL_advance_12 rfl (by decide) ?_
      refine ux_iconst (v := 1) C dL_advance_13 (by decide) ?_
      exact ux_iretS C hr dL_advance_14 h (Nat.le_of_ble_eq_true rfl) (Nat.le_of_ble_eq_true rfl)
    rw [if_neg c0] at h
    cases h
set_option maxRecDepth 100000 in
set_option maxHeartbeats 4000000 in
theorem kL_flush {l : Launch} {V : uV} (W0 : uWC l V) {st : uSt} {r : Int32} {s9 : uSt} (h : fL_flush st = some (r, s9)) : uMetH l V yL_flush cL_flush 3 (some .int) [(0, 8, 11, 13)] 7 130 1 6 [.ref (vA V 0), .ref (vA V 71)] st (some (.int r)) s9 := by
  refine ux_metH W0.1 W0.2.1 (by decide) rfl (Nat.le_of_ble_eq_true rfl) (fun M hL hr C hTab => ?_)
  subst hL
  have C : uCx M V cL_flush 3 RL 7 130 1 6 := C
  unfold fL_flush at h
  refine ux_aload_n C dL_flush_0 1 rfl ?_
  refine ux_iconst (v := 0) C dL_flush_1 (by decide) ?_
  refine ux_aload_n C dL_flush_2 0 rfl ?_
  obtain ⟨x_1, st_2, h1, h⟩ := olx_some h
  refine ux_callCi C cv_L_68 dL_flush_3 (oF W0) rfl (kX7_flush W0 h1) rfl (Nat.le_of_ble_eq_true rfl) ⟨(Nat.le_of_ble_eq_true rfl), (Nat.le_of_ble_eq_true rfl)⟩ ⟨(Nat.le_of_ble_eq_true rfl), (Nat.le_of_ble_eq_true rfl)⟩ h (fun x_1 h => ?_) (fun E_3 q_4 h => ?_) rfl
  · refine ux_i2l C dL_flush_6 ?_
    refine ux_lastK (j := 0) C (aOut W0) dL_flush_7 (by decide) (by decide) h (fun st_5 h => ?_)
    refine ux_goto C dL_flush_8 ?_
    refine ux_iconst (v := 0) C dL_flush_14 (by decide) ?_
    exact ux_iretS C hr dL_flush_15 h (Nat.le_of_ble_eq_true rfl) (Nat.le_of_ble_eq_true rfl)
  · by_cases c0 : E_3 = "java/lang/IllegalStateException"
    · subst c0
      rw [if_pos rfl] at h
      refine ux_catch C hTab [] (0, 8, 11, 13) [] rfl (fun _ hz => nomatch hz) (by decide) (by decide) clL_13 (by decide) ?_
      refine ux_astore_n C dL_flush_11 rfl (by decide) ?_
      refine ux_iconst (v := 1) C dL_flush_12 (by decide) ?_
      exact ux_iretS C hr dL_flush_13 h (Nat.le_of_ble_eq_true rfl) (Nat.le_of_ble_eq_true rfl)
    rw [if_neg c0] at h
    cases h
set_option maxRecDepth 100000 in
set_option maxHeartbeats 4000000 in
theorem kL_flushDevice {l : Launch} {V : uV} (W0 : uWC l V) {p1 : Int32} {st : uSt} {r : Int32} {s9 : uSt} (h : fL_flushDevice p1 st = some (r, s9)) : uMetH l V yL_flushDevice cL_flushDevice 4 (some .int) [(0, 9, 12, 19), (0, 9, 15, 13)] 8 133 2 12 [.ref (vA V 0), .int p1, .ref (vA V 71)] st (some (.int r)) s9 := by
  refine ux_metH W0.1 W0.2.1 (by decide) rfl (Nat.le_of_ble_eq_true rfl) (fun M hL hr C hTab => ?_)
  subst hL
  have C : uCx M V cL_flushDevice 4 RL 8 133 2 12 := C
  unfold fL_flushDevice at h
  refine ux_aload_n C dL_flushDevice_0 2 rfl ?_
  refine ux_iconst (v := 0) C dL_flushDevice_1 (by decide) ?_
  refine ux_aload_n C dL_flushDevice_2 0 rfl ?_
  refine ux_iload_n C dL_flushDevice_3 1 rfl ?_
  obtain ⟨x_1, st_2, h1, h⟩ := olx_some h
  refine ux_callCi C cv_L_71 dL_flushDevice_4 (oF W0) rfl (kX7_flushDevice W0 h1) rfl (Nat.le_of_ble_eq_true rfl) ⟨(Nat.le_of_ble_eq_true rfl), (Nat.le_of_ble_eq_true rfl)⟩ ⟨(Nat.le_of_ble_eq_true rfl), (Nat.le_of_ble_eq_true rfl)⟩ h (fun x_1 h => ?_) (fun E_3 q_4 h => ?_) rfl
  · refine ux_i2l C dL_flushDevice_7 ?_
    refine ux_lastK (j := 0) C (aOut W0) dL_flushDevice_8 (by decide) (by decide) h (fun st_5 h => ?_)
    refine ux_goto C dL_flushDevice_9 ?_
    refine ux_iconst (v := 0) C dL_flushDevice_18 (by decide) ?_
    exact ux_iretS C hr dL_flushDevice_19 h (Nat.le_of_ble_eq_true rfl) (Nat.le_of_ble_eq_true rfl)
  · by_cases c0 : E_3 = "java/lang/IndexOutOfBoundsException"
    · subst c0
      rw [if_pos rfl] at h
      refine ux_catch C hTab [] (0, 9, 12, 19) [(0, 9, 15, 13)] rfl (fun _ hz => nomatch hz) (by decide) (by decide) clL_19 (by decide) ?_
      refine ux_astore_n C dL_flushDevice_12 rfl (by decide) ?_
      refine ux_iconst (v := 1) C dL_flushDevice_13 (by decide) ?_
      exact ux_iretS C hr dL_flushDevice_14 h (Nat.le_of_ble_eq_true rfl) (Nat.le_of_ble_eq_true rfl)
    rw [if_neg c0] at h
    by_cases c1 : E_3 = "java/lang/IllegalStateException"
    · subst c1
      rw [if_pos rfl] at h
      refine ux_catch C hTab [(0, 9, 12, 19)] (0, 9, 15, 13) [] rfl (fun z hz => by simp only [List.mem_cons, List.not_mem_nil, or_false] at hz; rcases hz with rfl <;> first | exact ⟨by decide, _, clL_19, by decide⟩) (by decide) (by decide) clL_13 (by decide) ?_
      refine ux_astore_n C dL_flushDevice_15 rfl (by decide) ?_
      refine ux_iconst (v := 2) C dL_flushDevice_16 (by decide) ?_
      exact ux_iretS C hr dL_flushDevice_17 h (Nat.le_of_ble_eq_true rfl) (Nat.le_of_ble_eq_true rfl)
    rw [if_neg c1] at h
    cases h
set_option maxRecDepth 100000 in
set_option maxHeartbeats 4000000 in
theorem kL_energyOf {l : Launch} {V : uV} (W0 : uWC l V) {p1 : Int32} {st : uSt} {r : Int32} {s9 : uSt} (h : fL_energyOf p1 st = some (r, s9)) : uMetH l V yL_energyOf cL_energyOf 4 (some .int) [(0, 9, 12, 25)] 8 132 1 6 [.ref (vA V 0), .int p1, .ref (vA V 71)] st (some (.int r)) s9 := by
  refine ux_metH W0.1 W0.2.1 (by decide) rfl (Nat.le_of_ble_eq_true rfl) (fun M hL hr C hTab => ?_)
  subst hL
  have C : uCx M V cL_energyOf 4 RL 8 132 1 6 := C
  unfold fL_energyOf at h
  refine ux_aload_n C dL_energyOf_0 2 rfl ?_
  refine ux_iconst (v := 0) C dL_energyOf_1 (by decide) ?_
  refine ux_aload_n C dL_energyOf_2 0 rfl ?_
  refine ux_iload_n C dL_energyOf_3 1 rfl ?_
  obtain ⟨x_1, st_2, h1, h⟩ := olx_some h
  refine ux_callCi C cv_L_74 dL_energyOf_4 (oF W0) rfl (kX7_energyOf W0 h1) rfl (Nat.le_of_ble_eq_true rfl) ⟨(Nat.le_of_ble_eq_true rfl), (Nat.le_of_ble_eq_true rfl)⟩ ⟨(Nat.le_of_ble_eq_true rfl), (Nat.le_of_ble_eq_true rfl)⟩ h (fun x_1 h => ?_) (fun E_3 q_4 h => ?_) rfl
  · refine ux_i2l C dL_energyOf_7 ?_
    refine ux_lastK (j := 0) C (aOut W0) dL_energyOf_8 (by decide) (by decide) h (fun st_5 h => ?_)
    refine ux_goto C dL_energyOf_9 ?_
    refine ux_iconst (v := 0) C dL_energyOf_15 (by decide) ?_
    exact ux_iretS C hr dL_energyOf_16 h (Nat.le_of_ble_eq_true rfl) (Nat.le_of_ble_eq_true rfl)
  · by_cases c0 : E_3 = "java/lang/IllegalArgumentException"
    · subst c0
      rw [if_pos rfl] at h
      refine ux_catch C hTab [] (0, 9, 12, 25) [] rfl (fun _ hz => nomatch hz) (by decide) (by decide) clL_25 (by decide) ?_
      refine ux_astore_n C dL_energyOf_12 rfl (by decide) ?_
      refine ux_iconst (v := 1) C dL_energyOf_13 (by decide) ?_
      exact ux_iretS C hr dL_energyOf_14 h (Nat.le_of_ble_eq_true rfl) (Nat.le_of_ble_eq_true rfl)
    rw [if_neg c0] at h
    cases h
set_option maxRecDepth 100000 in
set_option maxHeartbeats 4000000 in
theorem kL_valueOf {l : Launch} {V : uV} (W0 : uWC l V) {p1 : Int32} {st : uSt} {r : Int32} {s9 : uSt} (h : fL_valueOf p1 st = some (r, s9)) : uMetH l V yL_valueOf cL_valueOf 4 (some .int) [(0, 9, 12, 25)] 8 132 1 6 [.ref (vA V 0), .int p1, .ref (vA V 71)] st (some (.int r)) s9 := by
  refine ux_metH W0.1 W0.2.1 (by decide) rfl (Nat.le_of_ble_eq_true rfl) (fun M hL hr C hTab => ?_)
  subst hL
  have C : uCx M V cL_valueOf 4 RL 8 132 1 6 := C
  unfold fL_valueOf at h
  refine ux_aload_n C dL_valueOf_0 2 rfl ?_
  refine ux_iconst (v := 0) C dL_valueOf_1 (by decide) ?_
  refine ux_aload_n C dL_valueOf_2 0 rfl ?_
  refine ux_iload_n C dL_valueOf_3 1 rfl ?_
  obtain ⟨x_1, st_2, h1, h⟩ := olx_some h
  refine ux_callCi C cv_L_77 dL_valueOf_4 (oF W0) rfl (kX7_valueOf W0 h1) rfl (Nat.le_of_ble_eq_true rfl) ⟨(Nat.le_of_ble_eq_true rfl), (Nat.le_of_ble_eq_true rfl)⟩ ⟨(Nat.le_of_ble_eq_true rfl), (Nat.le_of_ble_eq_true rfl)⟩ h (fun x_1 h => ?_) (fun E_3 q_4 h => ?_) rfl
  · refine ux_i2l C dL_valueOf_7 ?_
    refine ux_lastK (j := 0) C (aOut W0) dL_valueOf_8 (by decide) (by decide) h (fun st_5 h => ?_)
    refine ux_goto C dL_valueOf_9 ?_
    refine ux_iconst (v := 0) C dL_valueOf_15 (by decide) ?_
    exact ux_iretS C hr dL_valueOf_16 h (Nat.le_of_ble_eq_true rfl) (Nat.le_of_ble_eq_true rfl)
  · by_cases c0 : E_3 = "java/lang/IllegalArgumentException"
    · subst c0
      rw [if_pos rfl] at h
      refine ux_catch C hTab [] (0, 9, 12, 25) [] rfl (fun _ hz => nomatch hz) (by decide) (by decide) clL_25 (by decide) ?_
      refine ux_astore_n C dL_valueOf_12 rfl (by decide) ?_
      refine ux_iconst (v := 1) C dL_valueOf_13 (by decide) ?_
      exact ux_iretS C hr dL_valueOf_14 h (Nat.le_of_ble_eq_true rfl) (Nat.le_of_ble_eq_true rfl)
    rw [if_neg c0] at h
    cases h
set_option maxRecDepth 100000 in
set_option maxHeartbeats 4000000 in
theorem kL_bestSet {l : Launch} {V : uV} (W0 : uWC l V) {p1 : Int32} {st : uSt} {r : Int32} {s9 : uSt} (h : fL_bestSet p1 st = some (r, s9)) : uMetH l V yL_bestSet cL_bestSet 4 (some .int) [(0, 9, 12, 25)] 8 132 1 6 [.ref (vA V 0), .int p1, .ref (vA V 71)] st (some (.int r)) s9 := by
  refine ux_metH W0.1 W0.2.1 (by decide) rfl (Nat.le_of_ble_eq_true rfl) (fun M hL hr C hTab => ?_)
  subst hL
  have C : uCx M V cL_bestSet 4 RL 8 132 1 6 := C
  unfold fL_bestSet at h
  refine ux_aload_n C dL_bestSet_0 2 rfl ?_
  refine ux_iconst (v := 0) C dL_bestSet_1 (by decide) ?_
  refine ux_aload_n C dL_bestSet_2 0 rfl ?_
  refine ux_iload_n C dL_bestSet_3 1 rfl ?_
  obtain ⟨x_1, st_2, h1, h⟩ := olx_some h
  refine ux_callCi C cv_L_80 dL_bestSet_4 (oF W0) rfl (kX7_bestSet W0 h1) rfl (Nat.le_of_ble_eq_true rfl) ⟨(Nat.le_of_ble_eq_true rfl), (Nat.le_of_ble_eq_true rfl)⟩ ⟨(Nat.le_of_ble_eq_true rfl), (Nat.le_of_ble_eq_true rfl)⟩ h (fun x_1 h => ?_) (fun E_3 q_4 h => ?_) rfl
  · refine ux_i2l C dL_bestSet_7 ?_
    refine ux_lastK (j := 0) C (aOut W0) dL_bestSet_8 (by decide) (by decide) h (fun st_5 h => ?_)
    refine ux_goto C dL_bestSet_9 ?_
    refine ux_iconst (v := 0) C dL_bestSet_15 (by decide) ?_
    exact ux_iretS C hr dL_bestSet_16 h (Nat.le_of_ble_eq_true rfl) (Nat.le_of_ble_eq_true rfl)
  · by_cases c0 : E_3 = "java/lang/IllegalArgumentException"
    · subst c0
      rw [if_pos rfl] at h
      refine ux_catch C hTab [] (0, 9, 12, 25) [] rfl (fun _ hz => nomatch hz) (by decide) (by decide) clL_25 (by decide) ?_
      refine ux_astore_n C dL_bestSet_12 rfl (by decide) ?_
      refine ux_iconst (v := 1) C dL_bestSet_13 (by decide) ?_
      exact ux_iretS C hr dL_bestSet_14 h (Nat.le_of_ble_eq_true rfl) (Nat.le_of_ble_eq_true rfl)
    rw [if_neg c0] at h
    cases h
set_option maxRecDepth 100000 in
set_option maxHeartbeats 4000000 in
theorem kL_bestValue {l : Launch} {V : uV} (W0 : uWC l V) {p1 : Int32} {st : uSt} {r : Int32} {s9 : uSt} (h : fL_bestValue p1 st = some (r, s9)) : uMetH l V yL_bestValue cL_bestValue 4 (some .int) [(0, 9, 12, 25)] 8 153 1 6 [.ref (vA V 0), .int p1, .ref (vA V 71)] st (some (.int r)) s9 := by
  refine ux_metH W0.1 W0.2.1 (by decide) rfl (Nat.le_of_ble_eq_true rfl) (fun M hL hr C hTab => ?_)
  subst hL
  have C : uCx M V cL_bestValue 4 RL 8 153 1 6 := C
  unfold fL_bestValue at h
  refine ux_aload_n C dL_bestValue_0 2 rfl ?_
  refine ux_iconst (v := 0) C dL_bestValue_1 (by decide) ?_
  refine ux_aload_n C dL_bestValue_2 0 rfl ?_
  refine ux_iload_n C dL_bestValue_3 1 rfl ?_
  obtain ⟨x_1, st_2, h1, h⟩ := olx_some h
  refine ux_callCi C cv_L_83 dL_bestValue_4 (oF W0) rfl (kX7_bestValue W0 h1) rfl (Nat.le_of_ble_eq_true rfl) ⟨(Nat.le_of_ble_eq_true rfl), (Nat.le_of_ble_eq_true rfl)⟩ ⟨(Nat.le_of_ble_eq_true rfl), (Nat.le_of_ble_eq_true rfl)⟩ h (fun x_1 h => ?_) (fun E_3 q_4 h => ?_) rfl
  · refine ux_i2l C dL_bestValue_7 ?_
    refine ux_lastK (j := 0) C (aOut W0) dL_bestValue_8 (by decide) (by decide) h (fun st_5 h => ?_)
    refine ux_goto C dL_bestValue_9 ?_
    refine ux_iconst (v := 0) C dL_bestValue_15 (by decide) ?_
    exact ux_iretS C hr dL_bestValue_16 h (Nat.le_of_ble_eq_true rfl) (Nat.le_of_ble_eq_true rfl)
  · by_cases c0 : E_3 = "java/lang/IllegalArgumentException"
    · subst c0
      rw [if_pos rfl] at h
      refine ux_catch C hTab [] (0, 9, 12, 25) [] rfl (fun _ hz => nomatch hz) (by decide) (by decide) clL_25 (by decide) ?_
      refine ux_astore_n C dL_bestValue_12 rfl (by decide) ?_
      refine ux_iconst (v := 1) C dL_bestValue_13 (by decide) ?_
      exact ux_iretS C hr dL_bestValue_14 h (Nat.le_of_ble_eq_true rfl) (Nat.le_of_ble_eq_true rfl)
    rw [if_neg c0] at h
    cases h
set_option maxRecDepth 100000 in
set_option maxHeartbeats 4000000 in
theorem kL_greedySet {l : Launch} {V : uV} (W0 : uWC l V) {p1 : Int32} {st : uSt} {r : Int32} {s9 : uSt} (h : fL_greedySet p1 st = some (r, s9)) : uMetH l V yL_greedySet cL_greedySet 4 (some .int) [(0, 9, 12, 25)] 8 132 1 6 [.ref (vA V 0), .int p1, .ref (vA V 71)] st (some (.int r)) s9 := by
  refine ux_metH W0.1 W0.2.1 (by decide) rfl (Nat.le_of_ble_eq_true rfl) (fun M hL hr C hTab => ?_)
  subst hL
  have C : uCx M V cL_greedySet 4 RL 8 132 1 6 := C
  unfold fL_greedySet at h
  refine ux_aload_n C dL_greedySet_0 2 rfl ?_
  refine ux_iconst (v := 0) C dL_greedySet_1 (by decide) ?_
  refine ux_aload_n C dL_greedySet_2 0 rfl ?_
  refine ux_iload_n C dL_greedySet_3 1 rfl ?_
  obtain ⟨x_1, st_2, h1, h⟩ := olx_some h
  refine ux_callCi C cv_L_86 dL_greedySet_4 (oF W0) rfl (kX7_greedySet W0 h1) rfl (Nat.le_of_ble_eq_true rfl) ⟨(Nat.le_of_ble_eq_true rfl), (Nat.le_of_ble_eq_true rfl)⟩ ⟨(Nat.le_of_ble_eq_true rfl), (Nat.le_of_ble_eq_true rfl)⟩ h (fun x_1 h => ?_) (fun E_3 q_4 h => ?_) rfl
  · refine ux_i2l C dL_greedySet_7 ?_
    refine ux_lastK (j := 0) C (aOut W0) dL_greedySet_8 (by decide) (by decide) h (fun st_5 h => ?_)
    refine ux_goto C dL_greedySet_9 ?_
    refine ux_iconst (v := 0) C dL_greedySet_15 (by decide) ?_
    exact ux_iretS C hr dL_greedySet_16 h (Nat.le_of_ble_eq_true rfl) (Nat.le_of_ble_eq_true rfl)
  · by_cases c0 : E_3 = "java/lang/IllegalArgumentException"
    · subst c0
      rw [if_pos rfl] at h
      refine ux_catch C hTab [] (0, 9, 12, 25) [] rfl (fun _ hz => nomatch hz) (by decide) (by decide) clL_25 (by decide) ?_
      refine ux_astore_n C dL_greedySet_12 rfl (by decide) ?_
      refine ux_iconst (v := 1) C dL_greedySet_13 (by decide) ?_
      exact ux_iretS C hr dL_greedySet_14 h (Nat.le_of_ble_eq_true rfl) (Nat.le_of_ble_eq_true rfl)
    rw [if_neg c0] at h
    cases h
set_option maxRecDepth 100000 in
set_option maxHeartbeats 4000000 in
theorem kL_quality {l : Launch} {V : uV} (W0 : uWC l V) {p1 : Int32} {st : uSt} {r : Int32} {s9 : uSt} (h : fL_quality p1 st = some (r, s9)) : uMetH l V yL_quality cL_quality 4 (some .int) [(0, 8, 11, 25), (0, 8, 14, 40)] 8 154 2 12 [.ref (vA V 0), .int p1, .ref (vA V 72)] st (some (.int r)) s9 := by
  refine ux_metH W0.1 W0.2.1 (by decide) rfl (Nat.le_of_ble_eq_true rfl) (fun M hL hr C hTab => ?_)
  subst hL
  have C : uCx M V cL_quality 4 RL 8 154 2 12 := C
  unfold fL_quality at h
  refine ux_aload_n C dL_quality_0 2 rfl ?_
  refine ux_iconst (v := 0) C dL_quality_1 (by decide) ?_
  refine ux_aload_n C dL_quality_2 0 rfl ?_
  refine ux_iload_n C dL_quality_3 1 rfl ?_
  obtain ⟨x_1, st_2, h1, h⟩ := olx_some h
  refine ux_callCd C cv_L_89 dL_quality_4 (oF W0) rfl (kX7_quality W0 h1) rfl (Nat.le_of_ble_eq_true rfl) ⟨(Nat.le_of_ble_eq_true rfl), (Nat.le_of_ble_eq_true rfl)⟩ ⟨(Nat.le_of_ble_eq_true rfl), (Nat.le_of_ble_eq_true rfl)⟩ h (fun x_1 h => ?_) (fun E_3 q_4 h => ?_) rfl
  · refine ux_dastK (j := 0) C (aOutD W0) dL_quality_7 (by decide) (by decide) h (fun st_5 h => ?_)
    refine ux_goto C dL_quality_8 ?_
    refine ux_iconst (v := 0) C dL_quality_17 (by decide) ?_
    exact ux_iretS C hr dL_quality_18 h (Nat.le_of_ble_eq_true rfl) (Nat.le_of_ble_eq_true rfl)
  · by_cases c0 : E_3 = "java/lang/IllegalArgumentException"
    · subst c0
      rw [if_pos rfl] at h
      refine ux_catch C hTab [] (0, 8, 11, 25) [(0, 8, 14, 40)] rfl (fun _ hz => nomatch hz) (by decide) (by decide) clL_25 (by decide) ?_
      refine ux_astore_n C dL_quality_11 rfl (by decide) ?_
      refine ux_iconst (v := 1) C dL_quality_12 (by decide) ?_
      exact ux_iretS C hr dL_quality_13 h (Nat.le_of_ble_eq_true rfl) (Nat.le_of_ble_eq_true rfl)
    rw [if_neg c0] at h
    by_cases c1 : E_3 = "java/util/NoSuchElementException"
    · subst c1
      rw [if_pos rfl] at h
      refine ux_catch C hTab [(0, 8, 11, 25)] (0, 8, 14, 40) [] rfl (fun z hz => by simp only [List.mem_cons, List.not_mem_nil, or_false] at hz; rcases hz with rfl <;> first | exact ⟨by decide, _, clL_25, by decide⟩) (by decide) (by decide) clL_40 (by decide) ?_
      refine ux_astore_n C dL_quality_14 rfl (by decide) ?_
      refine ux_iconst (v := 2) C dL_quality_15 (by decide) ?_
      exact ux_iretS C hr dL_quality_16 h (Nat.le_of_ble_eq_true rfl) (Nat.le_of_ble_eq_true rfl)
    rw [if_neg c1] at h
    cases h
set_option maxRecDepth 100000 in
set_option maxHeartbeats 4000000 in
theorem kL_energyFor {l : Launch} {V : uV} (W0 : uWC l V) {p1 : Int32} {st : uSt} {r : Int32} {s9 : uSt} (h : fL_energyFor p1 st = some (r, s9)) : uMetH l V yL_energyFor cL_energyFor 4 (some .int) [(0, 9, 12, 25), (0, 9, 15, 40)] 7 129 1 6 [.ref (vA V 0), .int p1, .ref (vA V 71)] st (some (.int r)) s9 := by
  refine ux_metH W0.1 W0.2.1 (by decide) rfl (Nat.le_of_ble_eq_true rfl) (fun M hL hr C hTab => ?_)
  subst hL
  have C : uCx M V cL_energyFor 4 RL 7 129 1 6 := C
  unfold fL_energyFor at h
  refine ux_aload_n C dL_energyFor_0 2 rfl ?_
  refine ux_iconst (v := 0) C dL_energyFor_1 (by decide) ?_
  refine ux_aload_n C dL_energyFor_2 0 rfl ?_
  refine ux_iload_n C dL_energyFor_3 1 rfl ?_
  obtain ⟨x_1, st_2, h1, h⟩ := olx_some h
  refine ux_callCi C cv_L_93 dL_energyFor_4 (oF W0) rfl (kX7_energyFor W0 h1) rfl (Nat.le_of_ble_eq_true rfl) ⟨(Nat.le_of_ble_eq_true rfl), (Nat.le_of_ble_eq_true rfl)⟩ ⟨(Nat.le_of_ble_eq_true rfl), (Nat.le_of_ble_eq_true rfl)⟩ h (fun x_1 h => ?_) (fun E_3 q_4 h => ?_) rfl
  · refine ux_i2l C dL_energyFor_7 ?_
    refine ux_lastK (j := 0) C (aOut W0) dL_energyFor_8 (by decide) (by decide) h (fun st_5 h => ?_)
    refine ux_goto C dL_energyFor_9 ?_
    refine ux_iconst (v := 0) C dL_energyFor_18 (by decide) ?_
    exact ux_iretS C hr dL_energyFor_19 h (Nat.le_of_ble_eq_true rfl) (Nat.le_of_ble_eq_true rfl)
  · by_cases c0 : E_3 = "java/lang/IllegalArgumentException"
    · subst c0
      rw [if_pos rfl] at h
      refine ux_catch C hTab [] (0, 9, 12, 25) [(0, 9, 15, 40)] rfl (fun _ hz => nomatch hz) (by decide) (by decide) clL_25 (by decide) ?_
      refine ux_astore_n C dL_energyFor_12 rfl (by decide) ?_
      refine ux_iconst (v := 1) C dL_energyFor_13 (by decide) ?_
      exact ux_iretS C hr dL_energyFor_14 h (Nat.le_of_ble_eq_true rfl) (Nat.le_of_ble_eq_true rfl)
    rw [if_neg c0] at h
    by_cases c1 : E_3 = "java/util/NoSuchElementException"
    · subst c1
      rw [if_pos rfl] at h
      refine ux_catch C hTab [(0, 9, 12, 25)] (0, 9, 15, 40) [] rfl (fun z hz => by simp only [List.mem_cons, List.not_mem_nil, or_false] at hz; rcases hz with rfl <;> first | exact ⟨by decide, _, clL_25, by decide⟩) (by decide) (by decide) clL_40 (by decide) ?_
      refine ux_astore_n C dL_energyFor_15 rfl (by decide) ?_
      refine ux_iconst (v := 2) C dL_energyFor_16 (by decide) ?_
      exact ux_iretS C hr dL_energyFor_17 h (Nat.le_of_ble_eq_true rfl) (Nat.le_of_ble_eq_true rfl)
    rw [if_neg c1] at h
    cases h
set_option maxRecDepth 100000 in
set_option maxHeartbeats 4000000 in
theorem kL_extra {l : Launch} {V : uV} (W0 : uWC l V) {p1 : Int32} {st : uSt} {r : Int32} {s9 : uSt} (h : fL_extra p1 st = some (r, s9)) : uMetH l V yL_extra cL_extra 4 (some .int) [(0, 9, 12, 19), (0, 9, 15, 13)] 8 134 2 12 [.ref (vA V 0), .int p1, .ref (vA V 71)] st (some (.int r)) s9 := by
  refine ux_metH W0.1 W0.2.1 (by decide) rfl (Nat.le_of_ble_eq_true rfl) (fun M hL hr C hTab => ?_)
  subst hL
  have C : uCx M V cL_extra 4 RL 8 134 2 12 := C
  unfold fL_extra at h
  refine ux_aload_n C dL_extra_0 2 rfl ?_
  refine ux_iconst (v := 0) C dL_extra_1 (by decide) ?_
  refine ux_aload_n C dL_extra_2 0 rfl ?_
  refine ux_iload_n C dL_extra_3 1 rfl ?_
  obtain ⟨x_1, st_2, h1, h⟩ := olx_some h
  refine ux_callCi C cv_L_96 dL_extra_4 (oF W0) rfl (kX7_extra W0 h1) rfl (Nat.le_of_ble_eq_true rfl) ⟨(Nat.le_of_ble_eq_true rfl), (Nat.le_of_ble_eq_true rfl)⟩ ⟨(Nat.le_of_ble_eq_true rfl), (Nat.le_of_ble_eq_true rfl)⟩ h (fun x_1 h => ?_) (fun E_3 q_4 h => ?_) rfl
  · refine ux_i2l C dL_extra_7 ?_
    refine ux_lastK (j := 0) C (aOut W0) dL_extra_8 (by decide) (by decide) h (fun st_5 h => ?_)
    refine ux_goto C dL_extra_9 ?_
    refine ux_iconst (v := 0) C dL_extra_18 (by decide) ?_
    exact ux_iretS C hr dL_extra_19 h (Nat.le_of_ble_eq_true rfl) (Nat.le_of_ble_eq_true rfl)
  · by_cases c0 : E_3 = "java/lang/IndexOutOfBoundsException"
    · subst c0
      rw [if_pos rfl] at h
      refine ux_catch C hTab [] (0, 9, 12, 19) [(0, 9, 15, 13)] rfl (fun _ hz => nomatch hz) (by decide) (by decide) clL_19 (by decide) ?_
      refine ux_astore_n C dL_extra_12 rfl (by decide) ?_
      refine ux_iconst (v := 1) C dL_extra_13 (by decide) ?_
      exact ux_iretS C hr dL_extra_14 h (Nat.le_of_ble_eq_true rfl) (Nat.le_of_ble_eq_true rfl)
    rw [if_neg c0] at h
    by_cases c1 : E_3 = "java/lang/IllegalStateException"
    · subst c1
      rw [if_pos rfl] at h
      refine ux_catch C hTab [(0, 9, 12, 19)] (0, 9, 15, 13) [] rfl (fun z hz => by simp only [List.mem_cons, List.not_mem_nil, or_false] at hz; rcases hz with rfl <;> first | exact ⟨by decide, _, clL_19, by decide⟩) (by decide) (by decide) clL_13 (by decide) ?_
      refine ux_astore_n C dL_extra_15 rfl (by decide) ?_
      refine ux_iconst (v := 2) C dL_extra_16 (by decide) ?_
      exact ux_iretS C hr dL_extra_17 h (Nat.le_of_ble_eq_true rfl) (Nat.le_of_ble_eq_true rfl)
    rw [if_neg c1] at h
    cases h
set_option maxRecDepth 100000 in
set_option maxHeartbeats 4000000 in
theorem kL_valueAfter {l : Launch} {V : uV} (W0 : uWC l V) {p1 : Int32} {st : uSt} {r : Int32} {s9 : uSt} (h : fL_valueAfter p1 st = some (r, s9)) : uMetH l V yL_valueAfter cL_valueAfter 4 (some .int) [(0, 9, 12, 25)] 7 154 1 6 [.ref (vA V 0), .int p1, .ref (vA V 71)] st (some (.int r)) s9 := by
  refine ux_metH W0.1 W0.2.1 (by decide) rfl (Nat.le_of_ble_eq_true rfl) (fun M hL hr C hTab => ?_)
  subst hL
  have C : uCx M V cL_valueAfter 4 RL 7 154 1 6 := C
  unfold fL_valueAfter at h
  refine ux_aload_n C dL_valueAfter_0 2 rfl ?_
  refine ux_iconst (v := 0) C dL_valueAfter_1 (by decide) ?_
  refine ux_aload_n C dL_valueAfter_2 0 rfl ?_
  refine ux_iload_n C dL_valueAfter_3 1 rfl ?_
  obtain ⟨x_1, st_2, h1, h⟩ := olx_some h
  refine ux_callCi C cv_L_99 dL_valueAfter_4 (oF W0) rfl (kX7_valueAfter W0 h1) rfl (Nat.le_of_ble_eq_true rfl) ⟨(Nat.le_of_ble_eq_true rfl), (Nat.le_of_ble_eq_true rfl)⟩ ⟨(Nat.le_of_ble_eq_true rfl), (Nat.le_of_ble_eq_true rfl)⟩ h (fun x_1 h => ?_) (fun E_3 q_4 h => ?_) rfl
  · refine ux_i2l C dL_valueAfter_7 ?_
    refine ux_lastK (j := 0) C (aOut W0) dL_valueAfter_8 (by decide) (by decide) h (fun st_5 h => ?_)
    refine ux_goto C dL_valueAfter_9 ?_
    refine ux_iconst (v := 0) C dL_valueAfter_15 (by decide) ?_
    exact ux_iretS C hr dL_valueAfter_16 h (Nat.le_of_ble_eq_true rfl) (Nat.le_of_ble_eq_true rfl)
  · by_cases c0 : E_3 = "java/lang/IllegalArgumentException"
    · subst c0
      rw [if_pos rfl] at h
      refine ux_catch C hTab [] (0, 9, 12, 25) [] rfl (fun _ hz => nomatch hz) (by decide) (by decide) clL_25 (by decide) ?_
      refine ux_astore_n C dL_valueAfter_12 rfl (by decide) ?_
      refine ux_iconst (v := 1) C dL_valueAfter_13 (by decide) ?_
      exact ux_iretS C hr dL_valueAfter_14 h (Nat.le_of_ble_eq_true rfl) (Nat.le_of_ble_eq_true rfl)
    rw [if_neg c0] at h
    cases h
set_option maxRecDepth 100000 in
set_option maxHeartbeats 4000000 in
theorem kL_gainOfRepair {l : Launch} {V : uV} (W0 : uWC l V) {p1 : Int32} {st : uSt} {r : Int32} {s9 : uSt} (h : fL_gainOfRepair p1 st = some (r, s9)) : uMetH l V yL_gainOfRepair cL_gainOfRepair 4 (some .int) [(0, 9, 12, 19)] 8 155 1 6 [.ref (vA V 0), .int p1, .ref (vA V 71)] st (some (.int r)) s9 := by
  refine ux_metH W0.1 W0.2.1 (by decide) rfl (Nat.le_of_ble_eq_true rfl) (fun M hL hr C hTab => ?_)
  subst hL
  have C : uCx M V cL_gainOfRepair 4 RL 8 155 1 6 := C
  unfold fL_gainOfRepair at h
  refine ux_aload_n C dL_gainOfRepair_0 2 rfl ?_
  refine ux_iconst (v := 0) C dL_gainOfRepair_1 (by decide) ?_
  refine ux_aload_n C dL_gainOfRepair_2 0 rfl ?_
  refine ux_iload_n C dL_gainOfRepair_3 1 rfl ?_
  obtain ⟨x_1, st_2, h1, h⟩ := olx_some h
  refine ux_callCi C cv_L_102 dL_gainOfRepair_4 (oF W0) rfl (kX7_gainOfRepair W0 h1) rfl (Nat.le_of_ble_eq_true rfl) ⟨(Nat.le_of_ble_eq_true rfl), (Nat.le_of_ble_eq_true rfl)⟩ ⟨(Nat.le_of_ble_eq_true rfl), (Nat.le_of_ble_eq_true rfl)⟩ h (fun x_1 h => ?_) (fun E_3 q_4 h => ?_) rfl
  · refine ux_i2l C dL_gainOfRepair_7 ?_
    refine ux_lastK (j := 0) C (aOut W0) dL_gainOfRepair_8 (by decide) (by decide) h (fun st_5 h => ?_)
    refine ux_goto C dL_gainOfRepair_9 ?_
    refine ux_iconst (v := 0) C dL_gainOfRepair_15 (by decide) ?_
    exact ux_iretS C hr dL_gainOfRepair_16 h (Nat.le_of_ble_eq_true rfl) (Nat.le_of_ble_eq_true rfl)
  · by_cases c0 : E_3 = "java/lang/IndexOutOfBoundsException"
    · subst c0
      rw [if_pos rfl] at h
      refine ux_catch C hTab [] (0, 9, 12, 19) [] rfl (fun _ hz => nomatch hz) (by decide) (by decide) clL_19 (by decide) ?_
      refine ux_astore_n C dL_gainOfRepair_12 rfl (by decide) ?_
      refine ux_iconst (v := 1) C dL_gainOfRepair_13 (by decide) ?_
      exact ux_iretS C hr dL_gainOfRepair_14 h (Nat.le_of_ble_eq_true rfl) (Nat.le_of_ble_eq_true rfl)
    rw [if_neg c0] at h
    cases h
set_option maxRecDepth 100000 in
set_option maxHeartbeats 4000000 in
theorem kL_costliest {l : Launch} {V : uV} (W0 : uWC l V) {st : uSt} {r : Int32} {s9 : uSt} (h : fL_costliest st = some (r, s9)) : uMetH l V yL_costliest cL_costliest 3 (some .int) [(0, 8, 11, 40)] 7 117 1 6 [.ref (vA V 0), .ref (vA V 71)] st (some (.int r)) s9 := by
  refine ux_metH W0.1 W0.2.1 (by decide) rfl (Nat.le_of_ble_eq_true rfl) (fun M hL hr C hTab => ?_)
  subst hL
  have C : uCx M V cL_costliest 3 RL 7 117 1 6 := C
  unfold fL_costliest at h
  refine ux_aload_n C dL_costliest_0 1 rfl ?_
  refine ux_iconst (v := 0) C dL_costliest_1 (by decide) ?_
  refine ux_aload_n C dL_costliest_2 0 rfl ?_
  obtain ⟨x_1, st_2, h1, h⟩ := olx_some h
  refine ux_callCi C cv_L_105 dL_costliest_3 (oF W0) rfl (kX7_costliest W0 h1) rfl (Nat.le_of_ble_eq_true rfl) ⟨(Nat.le_of_ble_eq_true rfl), (Nat.le_of_ble_eq_true rfl)⟩ ⟨(Nat.le_of_ble_eq_true rfl), (Nat.le_of_ble_eq_true rfl)⟩ h (fun x_1 h => ?_) (fun E_3 q_4 h => ?_) rfl
  · refine ux_i2l C dL_costliest_6 ?_
    refine ux_lastK (j := 0) C (aOut W0) dL_costliest_7 (by decide) (by decide) h (fun st_5 h => ?_)
    refine ux_goto C dL_costliest_8 ?_
    refine ux_iconst (v := 0) C dL_costliest_14 (by decide) ?_
    exact ux_iretS C hr dL_costliest_15 h (Nat.le_of_ble_eq_true rfl) (Nat.le_of_ble_eq_true rfl)
  · by_cases c0 : E_3 = "java/util/NoSuchElementException"
    · subst c0
      rw [if_pos rfl] at h
      refine ux_catch C hTab [] (0, 8, 11, 40) [] rfl (fun _ hz => nomatch hz) (by decide) (by decide) clL_40 (by decide) ?_
      refine ux_astore_n C dL_costliest_11 rfl (by decide) ?_
      refine ux_iconst (v := 1) C dL_costliest_12 (by decide) ?_
      exact ux_iretS C hr dL_costliest_13 h (Nat.le_of_ble_eq_true rfl) (Nat.le_of_ble_eq_true rfl)
    rw [if_neg c0] at h
    cases h
set_option maxRecDepth 100000 in
set_option maxHeartbeats 4000000 in
theorem kL_save {l : Launch} {V : uV} (W0 : uWC l V) {p1 : Int32} {st : uSt} {r : Int32} {s9 : uSt} (h : fL_save p1 st = some (r, s9)) : uMetH l V yL_save cL_save 3 (some .int) [(0, 5, 8, 19)] 8 132 1 6 [.ref (vA V 0), .int p1] st (some (.int r)) s9 := by
  refine ux_metH W0.1 W0.2.1 (by decide) rfl (Nat.le_of_ble_eq_true rfl) (fun M hL hr C hTab => ?_)
  subst hL
  have C : uCx M V cL_save 3 RL 8 132 1 6 := C
  unfold fL_save at h
  refine ux_aload_n C dL_save_0 0 rfl ?_
  refine ux_iload_n C dL_save_1 1 rfl ?_
  obtain ⟨x_1, st_2, h1, h⟩ := olx_some h
  refine ux_callCv C cv_L_108 dL_save_2 (oF W0) rfl (kX7_save W0 h1) rfl (Nat.le_of_ble_eq_true rfl) ⟨(Nat.le_of_ble_eq_true rfl), (Nat.le_of_ble_eq_true rfl)⟩ ⟨(Nat.le_of_ble_eq_true rfl), (Nat.le_of_ble_eq_true rfl)⟩ h (fun x_1 h => ?_) (fun E_3 q_4 h => ?_) rfl
  · refine ux_goto C dL_save_5 ?_
    refine ux_iconst (v := 0) C dL_save_11 (by decide) ?_
    exact ux_iretS C hr dL_save_12 h (Nat.le_of_ble_eq_true rfl) (Nat.le_of_ble_eq_true rfl)
  · by_cases c0 : E_3 = "java/lang/IndexOutOfBoundsException"
    · subst c0
      rw [if_pos rfl] at h
      refine ux_catch C hTab [] (0, 5, 8, 19) [] rfl (fun _ hz => nomatch hz) (by decide) (by decide) clL_19 (by decide) ?_
      refine ux_astore_n C dL_save_8 rfl (by decide) ?_
      refine ux_iconst (v := 1) C dL_save_9 (by decide) ?_
      exact ux_iretS C hr dL_save_10 h (Nat.le_of_ble_eq_true rfl) (Nat.le_of_ble_eq_true rfl)
    rw [if_neg c0] at h
    cases h
set_option maxRecDepth 100000 in
set_option maxHeartbeats 4000000 in
theorem kL_restore {l : Launch} {V : uV} (W0 : uWC l V) {p1 : Int32} {st : uSt} {r : Int32} {s9 : uSt} (h : fL_restore p1 st = some (r, s9)) : uMetH l V yL_restore cL_restore 3 (some .int) [(0, 5, 8, 19), (0, 5, 11, 40)] 8 132 2 12 [.ref (vA V 0), .int p1] st (some (.int r)) s9 := by
  refine ux_metH W0.1 W0.2.1 (by decide) rfl (Nat.le_of_ble_eq_true rfl) (fun M hL hr C hTab => ?_)
  subst hL
  have C : uCx M V cL_restore 3 RL 8 132 2 12 := C
  unfold fL_restore at h
  refine ux_aload_n C dL_restore_0 0 rfl ?_
  refine ux_iload_n C dL_restore_1 1 rfl ?_
  obtain ⟨x_1, st_2, h1, h⟩ := olx_some h
  refine ux_callCv C cv_L_112 dL_restore_2 (oF W0) rfl (kX7_restore W0 h1) rfl (Nat.le_of_ble_eq_true rfl) ⟨(Nat.le_of_ble_eq_true rfl), (Nat.le_of_ble_eq_true rfl)⟩ ⟨(Nat.le_of_ble_eq_true rfl), (Nat.le_of_ble_eq_true rfl)⟩ h (fun x_1 h => ?_) (fun E_3 q_4 h => ?_) rfl
  · refine ux_goto C dL_restore_5 ?_
    refine ux_iconst (v := 0) C dL_restore_14 (by decide) ?_
    exact ux_iretS C hr dL_restore_15 h (Nat.le_of_ble_eq_true rfl) (Nat.le_of_ble_eq_true rfl)
  · by_cases c0 : E_3 = "java/lang/IndexOutOfBoundsException"
    · subst c0
      rw [if_pos rfl] at h
      refine ux_catch C hTab [] (0, 5, 8, 19) [(0, 5, 11, 40)] rfl (fun _ hz => nomatch hz) (by decide) (by decide) clL_19 (by decide) ?_
      refine ux_astore_n C dL_restore_8 rfl (by decide) ?_
      refine ux_iconst (v := 1) C dL_restore_9 (by decide) ?_
      exact ux_iretS C hr dL_restore_10 h (Nat.le_of_ble_eq_true rfl) (Nat.le_of_ble_eq_true rfl)
    rw [if_neg c0] at h
    by_cases c1 : E_3 = "java/util/NoSuchElementException"
    · subst c1
      rw [if_pos rfl] at h
      refine ux_catch C hTab [(0, 5, 8, 19)] (0, 5, 11, 40) [] rfl (fun z hz => by simp only [List.mem_cons, List.not_mem_nil, or_false] at hz; rcases hz with rfl <;> first | exact ⟨by decide, _, clL_19, by decide⟩) (by decide) (by decide) clL_40 (by decide) ?_
      refine ux_astore_n C dL_restore_11 rfl (by decide) ?_
      refine ux_iconst (v := 2) C dL_restore_12 (by decide) ?_
      exact ux_iretS C hr dL_restore_13 h (Nat.le_of_ble_eq_true rfl) (Nat.le_of_ble_eq_true rfl)
    rw [if_neg c1] at h
    cases h
