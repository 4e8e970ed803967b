def fJ7_fill_d0a16_6 (rw : Nat) (l1 : Int64) (l4 : Int32) (ke : uSt → Option (Unit × uSt)) : Nat → uSt → Int32 → Option (Unit × uSt)
  | 0, _, _ => none
  | n + 1, st, l3 =>
    (if l4 ≤ l3 then (ke st) else og (inB l3 501) (ol (sL st rw l3.toNatClampNeg l1) (fun st_3 => ol (l3 + 1) (fun l3_4 => fJ7_fill_d0a16_6 rw l1 l4 ke n st_3 l3_4))))
def fJ7_fill_d0a16 (rw : Nat) (p1 : Int64) (st : uSt) : Option (Unit × uSt) :=
  fJ7_fill_d0a16_6 rw p1 (501 : Int32) (fun st_5 => some ((), st_5)) FU st (0 : Int32)
def fX6_copyFrom (sb : Nat) (sb2 : Nat)  (st : uSt) : Option (Unit × uSt) :=
  obV (fX0_copyFrom (sb + 1) (sb2 + 1) st) (fun st_1 => obV (fX3_copyFrom (sb + 2) (sb2 + 2) st_1) (fun st_2 => obV (fX2_copyFrom (sb + 3) (sb2 + 3) st_2) (fun st_3 => obV (fX1_copyFrom (sb + 8) (sb2 + 8) st_3) (fun st_4 => ol (sC st_4 (sb + 13) (va_cpy (st_4.1 (sb2 + 13)) (st_4.1 (sb + 13)) (0 : Int32).toNatClampNeg (0 : Int32).toNatClampNeg (7 : Int32).toNatClampNeg)) (fun st_5 => ol (sI st_5 sb 5 (st_5.1 sb2 5)) (fun st_6 => og (isB (st_6.1 sb2 6)) (ol (sI st_6 sb 6 (st_6.1 sb2 6)) (fun st_7 => some ((), st_7)))))))))
def fX6_usableBlocks_4 (sb : Nat)  (st : uSt) (ke : Int32 → Option Int32) : Nat → Int32 → Int32 → Option Int32
  | 0, _, _ => none
  | n + 1, l1, l2 =>
    (if (st.1 (sb + 8) 0) ≤ l2 then (ke l1) else og (inB l2 24) (og (inB (st.1 ((sb + 8) + 1) l2.toNatClampNeg) 5) ((if (st.1 ((sb + 3) + 4) (st.1 ((sb + 8) + 1) l2.toNatClampNeg).toNatClampNeg) = 0 then ol (l1 ||| ((1 : Int32) <<< (l2 &&& 31))) (fun l1_3 => ol (l2 + 1) (fun l2_4 => fX6_usableBlocks_4 sb st ke n l1_3 l2_4)) else ol (l2 + 1) (fun l2_5 => fX6_usableBlocks_4 sb st ke n l1 l2_5)))))
def fX6_usableBlocks (sb : Nat)  (st : uSt) : Option Int32 :=
  fX6_usableBlocks_4 sb st (fun l1_6 => some l1_6) FU (0 : Int32) (0 : Int32)
def fX6_neededEnergy (sb : Nat)  (st : uSt) : Option Int32 :=
  ob (fX6_usableBlocks sb st) (fun x_1 => ob (fX2_energyIn (sb + 3) (sb + 8) x_1 st) (fun x_2 => some x_2))
def fX6_loseAll (sb : Nat)  (st : uSt) : Option (Int32 × uSt) :=
  ob (fX1_allBlocks (sb + 8) st) (fun x_1 => ob (fX1_valueIn (sb + 8) x_1 st) (fun x_2 => ol (sI st (sb + 13) 3 ((st.1 (sb + 13) 3) + (st.1 (sb + 8) 0))) (fun st_4 => ol (sI st_4 (sb + 13) 5 ((st_4.1 (sb + 13) 5) + x_2)) (fun st_5 => ol (sI st_5 (sb + 8) 0 (0 : Int32)) (fun st_6 => some (x_2, st_6))))))
def fX6_passMinute (sb : Nat)  (st : uSt) : Option (Int32 × uSt) :=
  ol (sI st sb 5 ((st.1 sb 5) + (1 : Int32))) (fun st_1 => (if (st_1.1 sb 6) = 0 then obV (fX0_drainForMinute (sb + 1) st_1) (fun st_2 => (if (st_2.1 (sb + 1) 1) = 0 then obS (fX6_loseAll sb st_2) (fun x_4 st_3 => some (x_4, st_3)) else some ((0 : Int32), st_2))) else obV (fX0_chargeForMinute (sb + 1) st_1) (fun st_5 => some ((0 : Int32), st_5))))
def fX4_rankAt (rw : Nat) (p1 : Int32) (st : uSt) : Option Int64 :=
  oj0 (some (-1 : Int64)) (fun j_1 => (if p1 < 0 then j_1 else (if (501 : Int32) ≤ p1 then j_1 else og (inB p1 501) (some (st.2.1 rw p1.toNatClampNeg)))))
def fX4_considerBlock_76 (sb : Nat) (l3 : Int32) (l6 : Int32) (l7 : Int32) (l8 : Int32) (l9 : Int64) (ke : uSt → Option (Unit × uSt)) : Nat → uSt → Int32 → Option (Unit × uSt)
  | 0, _, _ => none
  | n + 1, st, l11 =>
    (if l11 < 0 then (ke st) else ob (fX4_rankAt 6 (l11 - l8) st) (fun x_7 => ob (fX4_rankAt 7 (l11 - l7) st) (fun x_8 => ol ((if x_8 < x_7 then x_7 else x_8)) (fun l12_9 => oj1 (fun (v_11 : Int32) => ob (fX4_rankAt 8 (l11 - v_11) st) (fun x_12 => ol ((if x_12 < l12_9 then l12_9 else x_12)) (fun l12_13 => og (inB l11 501) (og (inB l11 501) (og (inB l11 501) (ol (sL st 7 l11.toNatClampNeg ((if (st.2.1 8 l11.toNatClampNeg) < (st.2.1 7 l11.toNatClampNeg) then (st.2.1 7 l11.toNatClampNeg) else (st.2.1 8 l11.toNatClampNeg)))) (fun st_14 => oj1 (fun (v_16 : Int64) => og (inB l11 501) (ol (sL st_14 8 l11.toNatClampNeg v_16) (fun st_17 => ol (l11 + (-1)) (fun l11_18 => fX4_considerBlock_76 sb l3 l6 l7 l8 l9 ke n st_17 l11_18)))) (fun j_15 => (if 0 ≤ (lg_cmp l12_13 (0 : Int64)) then (j_15 (l12_13 + l9)) else (j_15 (-1 : Int64))))))))))) (fun j_10 => (if l3 = 0 then (j_10 l7) else (j_10 l6)))))))
def fX4_considerBlock (sb : Nat) (p2 : Int32) (p3 : Int32) (p4 : Int32) (st : uSt) : Option (Unit × uSt) :=
  og (inB p2 24) (ol (st.1 ((sb + 8) + 1) p2.toNatClampNeg) (fun l5_1 => og (inB l5_1 5) (ol (st.1 ((sb + 3) + 3) l5_1.toNatClampNeg) (fun l6_2 => og (inB l5_1 5) (ol (l6_2 + (st.1 ((sb + 3) + 2) l5_1.toNatClampNeg)) (fun l7_3 => og (inB l5_1 5) (ol (l7_3 + (st.1 ((sb + 3) + 1) l5_1.toNatClampNeg)) (fun l8_4 => og (inB p2 24) (ol ((((st.1 ((sb + 8) + 3) p2.toNatClampNeg).toInt64) <<< ((24 : Int32).toInt64 &&& 63)) - ((1 : Int64) <<< (p2.toInt64 &&& 63))) (fun l9_5 => fX4_considerBlock_76 sb p3 l6_2 l7_3 l8_4 l9_5 (fun st_19 => some ((), st_19)) FU st p4))))))))))
def fX4_leaveDevice_2  (l1 : Int32) (ke : uSt → Option (Unit × uSt)) : Nat → uSt → Int32 → Option (Unit × uSt)
  | 0, _, _ => none
  | n + 1, st, l2 =>
    (if l1 < l2 then (ke st) else og (inB l2 501) (og (inB l2 501) (og (inB l2 501) (og (inB l2 501) (ol (sL st 6 l2.toNatClampNeg ((if ((if (st.2.1 8 l2.toNatClampNeg) < (st.2.1 7 l2.toNatClampNeg) then (st.2.1 7 l2.toNatClampNeg) else (st.2.1 8 l2.toNatClampNeg))) < (st.2.1 6 l2.toNatClampNeg) then (st.2.1 6 l2.toNatClampNeg) else ((if (st.2.1 8 l2.toNatClampNeg) < (st.2.1 7 l2.toNatClampNeg) then (st.2.1 7 l2.toNatClampNeg) else (st.2.1 8 l2.toNatClampNeg)))))) (fun st_2 => og (inB l2 501) (ol (sL st_2 7 l2.toNatClampNeg (-1 : Int64)) (fun st_3 => og (inB l2 501) (ol (sL st_3 8 l2.toNatClampNeg (-1 : Int64)) (fun st_4 => ol (l2 + 1) (fun l2_5 => fX4_leaveDevice_2 l1 ke n st_4 l2_5)))))))))))
def fX4_leaveDevice  (p1 : Int32) (st : uSt) : Option (Unit × uSt) :=
  fX4_leaveDevice_2 p1 (fun st_6 => some ((), st_6)) FU st (0 : Int32)
def fX4_rank_48 (sb : Nat) (l2 : Int32) (l3 : Int32) (ke : uSt → Int32 → Option (Unit × uSt)) : Nat → uSt → Int32 → Int32 → Int32 → Option (Unit × uSt)
  | 0, _, _, _, _ => none
  | n + 1, st, l4, l5, l6 =>
    (if (st.1 (sb + 8) 0) ≤ l6 then (ke st l5) else (if ((l2 >>> (l6 &&& 31)) &&& (1 : Int32)) = 0 then ol (l6 + 1) (fun l6_8 => fX4_rank_48 sb l2 l3 ke n st l4 l5 l6_8) else oj1 (fun (st_10 : uSt) => oj1 (fun (v_12 : Int32) => ob (fX2_energyIn (sb + 3) (sb + 8) ((1 : Int32) <<< (l6 &&& 31)) st_10) (fun x_14 => ol ((if (l5 + x_14) < l3 then (l5 + x_14) else l3)) (fun l5_15 => obV (fX4_considerBlock sb l6 v_12 l5_15 st_10) (fun st_16 => ol (l6 + 1) (fun l6_18 => fX4_rank_48 sb l2 l3 ke n st_16 l6 l5_15 l6_18))))) (fun j_11 => oj0 ((j_11 (0 : Int32))) (fun j_19 => (if l4 = (-1 : Int32) then j_19 else ob (fX1_isFollowedBy (sb + 8) l4 l6 st_10) (fun x_20 => (if x_20 = 0 then j_19 else (j_11 (1 : Int32)))))))) (fun j_9 => (if l4 = (-1 : Int32) then (j_9 st) else og (inB l4 24) (og (inB l6 24) ((if (st.1 ((sb + 8) + 1) l4.toNatClampNeg) = (st.1 ((sb + 8) + 1) l6.toNatClampNeg) then (j_9 st) else obV (fX4_leaveDevice l5 st) (fun st_21 => (j_9 st_21)))))))))
def fX4_rank (sb : Nat) (p2 : Int32) (p3 : Int32) (st : uSt) : Option (Unit × uSt) :=
  obV (fJ7_fill_d0a16 6 (-1 : Int64) st) (fun st_1 => obV (fJ7_fill_d0a16 7 (-1 : Int64) st_1) (fun st_2 => obV (fJ7_fill_d0a16 8 (-1 : Int64) st_2) (fun st_3 => ol (sL st_3 6 0 (16777215 : Int64)) (fun st_4 => fX4_rank_48 sb p2 p3 (fun st_23 l5_22 => obV (fX4_leaveDevice l5_22 st_23) (fun st_24 => some ((), st_24))) FU st_4 (-1 : Int32) (0 : Int32) (0 : Int32)))))
def fX4_best_50 (sb : Nat) (l4 : Int32) (st : uSt) (ke : Int64 → Option (Int32 × uSt)) : Nat → Int64 → Int32 → Option (Int32 × uSt)
  | 0, _, _ => none
  | n + 1, l5, l7 =>
    (if l4 < l7 then (ke l5) else og (inB l7 501) ((if (lg_cmp ((st.2.1 6 l7.toNatClampNeg) >>> ((24 : Int32).toInt64 &&& 63)) (l5 >>> ((24 : Int32).toInt64 &&& 63))) ≤ 0 then ol (l7 + 1) (fun l7_6 => fX4_best_50 sb l4 st ke n l5 l7_6) else og (inB l7 501) (ol (st.2.1 6 l7.toNatClampNeg) (fun l5_7 => ol (l7 + 1) (fun l7_8 => fX4_best_50 sb l4 st ke n l5_7 l7_8))))))
def fX4_best (sb : Nat) (p2 : Int32) (p3 : Int32) (st : uSt) : Option (Int32 × uSt) :=
  ob (fX2_energyIn (sb + 3) (sb + 8) p2 st) (fun x_1 => (if p3 < x_1 then ol ((if (0 : Int32) < ((if (500 : Int32) < p3 then (500 : Int32) else p3)) then ((if (500 : Int32) < p3 then (500 : Int32) else p3)) else (0 : Int32))) (fun l4_2 => obV (fX4_rank sb p2 l4_2 st) (fun st_3 => ol (st_3.2.1 6 0) (fun l5_4 => fX4_best_50 sb l4_2 st_3 (fun l5_9 => some (((16777215 : Int64) - (l5_9 &&& (16777215 : Int64))).toInt32, st_3)) FU l5_4 (1 : Int32)))) else some (p2, st)))
def fX4_leastEnergy_12 (sb : Nat) (l3 : Int32) (st : uSt) (ke : Option (Int32 × uSt)) : Nat → Int32 → Option (Int32 × uSt)
  | 0, _ => none
  | n + 1, l4 =>
    (if (500 : Int32) < l4 then ke else og (inB l4 501) ((if (lg_cmp (st.2.1 6 l4.toNatClampNeg) (0 : Int64)) < 0 then ol (l4 + 1) (fun l4_3 => fX4_leastEnergy_12 sb l3 st ke n l4_3) else og (inB l4 501) ((if (lg_cmp ((st.2.1 6 l4.toNatClampNeg) >>> ((24 : Int32).toInt64 &&& 63)) l3.toInt64) < 0 then ol (l4 + 1) (fun l4_4 => fX4_leastEnergy_12 sb l3 st ke n l4_4) else some (l4, st))))))
def fX4_leastEnergy (sb : Nat) (p2 : Int32) (p3 : Int32) (st : uSt) : Option (Int32 × uSt) :=
  obV (fX4_rank sb p2 (500 : Int32) st) (fun st_1 => fX4_leastEnergy_12 sb p3 st_1 (some ((-1 : Int32), st_1)) FU (0 : Int32))
set_option maxRecDepth 100000 in
set_option maxHeartbeats 4000000 in
theorem wJ7_fill_d0a16_6 {M : uM} {V : uV} (W0 : uWC (mL M) V) (C : uCx M V cJ7_fill_d0a16 5 RJ7 0 0 0 0) (hr : (mT M).sig.returnType = none) {rw : Nat} (hrw : kRow rw) {l1 : Int64} {l4 : Int32} {s9 : uSt} {ke : uSt → Option (Unit × uSt)} (K : ∀ (st : uSt), ke st = some ((), s9) → uW M V (uEnd M V 0 0 none s9) 5 0 0 22 [] [] st) : ∀ (n : Nat) (st : uSt) (l3 : Int32), fJ7_fill_d0a16_6 rw l1 l4 ke n st l3 = some ((), s9) → uW M V (uEnd M V 0 0 none s9) 5 0 0 6 [(0, .ref (vA V rw)), (1, .long l1), (3, .int l3), (4, .int l4)] [] st := by
  intro n
  induction n with
  | zero =>
    intro st l3 h
    rw [fJ7_fill_d0a16_6] at h
    cases h
  | succ n ih =>
    intro st l3 h
    rw [fJ7_fill_d0a16_6] at h
    refine ux_iload_n C dJ7_fill_d0a16_6 2 rfl ?_
    refine ux_iload C dJ7_fill_d0a16_7 3 rfl ?_
    refine ux_icmp_ge C dJ7_fill_d0a16_9 h (fun h => ?_) (fun h => ?_)
    · refine ux_sub [] rfl ?_
      exact K st h
    · refine ux_aload_n C dJ7_fill_d0a16_12 0 rfl ?_
      refine ux_iload_n C dJ7_fill_d0a16_13 2 rfl ?_
      refine ux_lload_n C dJ7_fill_d0a16_14 1 rfl ?_
      refine ux_last C (aRow W0 hrw) dJ7_fill_d0a16_15 h (fun st_3 h => ?_)
      refine ux_iincK C dJ7_fill_d0a16_16 (by decide) 2 rfl (fun z => [(3, .int z), (0, .ref (vA V rw)), (1, .long l1), (4, .int l4)]) (fun _ => rfl) (by decide) h (fun l3_4 h => ?_)
      refine ux_goto C dJ7_fill_d0a16_19 ?_
      refine ux_sub [1, 2, 0, 3] rfl ?_
      exact ih _ _ h
set_option maxRecDepth 100000 in
set_option maxHeartbeats 4000000 in
theorem kJ7_fill_d0a16 {l : Launch} {V : uV} (W0 : uWC l V) {rw : Nat} (hrw : kRow rw) {p1 : Int64} {st : uSt} {s9 : uSt} (h : fJ7_fill_d0a16 rw p1 st = some ((), s9)) : uMet l V yJ7_fill_d0a16 cJ7_fill_d0a16 5 none 0 0 0 0 [.ref (vA V rw), .long p1] st none s9 := by
  refine ux_met W0.1 W0.2.1 (by decide) rfl (Nat.le_of_ble_eq_true rfl) (fun M hL hr C => ?_)
  subst hL
  have C : uCx M V cJ7_fill_d0a16 5 RJ7 0 0 0 0 := C
  unfold fJ7_fill_d0a16 at h
  refine ux_iconst (v := 0) C dJ7_fill_d0a16_0 (by decide) ?_
  refine ux_istoreK_n C dJ7_fill_d0a16_1 rfl (by decide) ?_
  refine ux_aload_n C dJ7_fill_d0a16_2 1 rfl ?_
  refine ux_alenL (v := 501) C (aRow W0 hrw) dJ7_fill_d0a16_3 (by decide) ?_
  refine ux_istoreK C dJ7_fill_d0a16_4 rfl (by decide) ?_
  refine ux_sub [2, 3, 1, 0] rfl ?_
  refine wJ7_fill_d0a16_6 W0 C hr hrw (fun st_5 h => ?_) _ _ _ h
  exact ux_vret C hr dJ7_fill_d0a16_22 h (Nat.le_of_ble_eq_true rfl) (Nat.le_of_ble_eq_true rfl)
set_option maxRecDepth 100000 in
set_option maxHeartbeats 4000000 in
theorem kX6_copyFrom {l : Launch} {V : uV} (W0 : uWC l V) {sb : Nat} (hsb : kState sb) {sb2 : Nat} (hsb2 : kState sb2) {st : uSt} {s9 : uSt} (h : fX6_copyFrom sb sb2 st = some ((), s9)) : uMet l V yX6_copyFrom cX6_copyFrom 2 none 2 45 0 0 [.ref (vA V sb), .ref (vA V sb2)] st none s9 := by
  refine ux_met W0.1 W0.2.1 (by decide) rfl (Nat.le_of_ble_eq_true rfl) (fun M hL hr C => ?_)
  subst hL
  have C : uCx M V cX6_copyFrom 2 RX6 2 45 0 0 := C
  unfold fX6_copyFrom at h
  refine ux_aload_n C dX6_copyFrom_0 0 rfl ?_
  refine ux_get C fl_X6_12 dX6_copyFrom_1 (oState W0 hsb) rfl ?_
  refine ux_aload_n C dX6_copyFrom_4 1 rfl ?_
  refine ux_get C fl_X6_12 dX6_copyFrom_5 (oState W0 hsb2) rfl ?_
  obtain ⟨st_1, h1, h⟩ := obV_some h
  refine ux_callVv C cv_X6_51 dX6_copyFrom_8 (oBat W0 (kS_bat hsb)) rfl (kX0_copyFrom W0 (kS_bat hsb) (kS_bat hsb2) h1) rfl (Nat.le_of_ble_eq_true rfl) ⟨(Nat.le_of_ble_eq_true rfl), (Nat.le_of_ble_eq_true rfl)⟩ ⟨(Nat.le_of_ble_eq_true rfl), (Nat.le_of_ble_eq_true rfl)⟩ ?_ rfl
  refine ux_aload_n C dX6_copyFrom_11 0 rfl ?_
  refine ux_get C fl_X6_21 dX6_copyFrom_12 (oState W0 hsb) rfl ?_
  refine ux_aload_n C dX6_copyFrom_15 1 rfl ?_
  refine ux_get C fl_X6_21 dX6_copyFrom_16 (oState W0 hsb2) rfl ?_
  obtain ⟨st_2, h1, h⟩ := obV_some h
  refine ux_callVv C cv_X6_55 dX6_copyFrom_19 (oRules W0 (kS_rules hsb)) rfl (kX3_copyFrom W0 (kS_rules hsb) (kS_rules hsb2) h1) rfl (Nat.le_of_ble_eq_true rfl) ⟨(Nat.le_of_ble_eq_true rfl), (Nat.le_of_ble_eq_true rfl)⟩ ⟨(Nat.le_of_ble_eq_true rfl), (Nat.le_of_ble_eq_true rfl)⟩ ?_ rfl
  refine ux_aload_n C dX6_copyFrom_22 0 rfl ?_
  refine ux_get C fl_X6_28 dX6_copyFrom_23 (oState W0 hsb) rfl ?_
  refine ux_aload_n C dX6_copyFrom_26 1 rfl ?_
  refine ux_get C fl_X6_28 dX6_copyFrom_27 (oState W0 hsb2) rfl ?_
  obtain ⟨st_3, h1, h⟩ := obV_some h
  refine ux_callVv C cv_X6_58 dX6_copyFrom_30 (oDev W0 (kS_dev hsb)) rfl (kX2_copyFrom W0 (kS_dev hsb) (kS_dev hsb2) h1) rfl (Nat.le_of_ble_eq_true rfl) ⟨(Nat.le_of_ble_eq_true rfl), (Nat.le_of_ble_eq_true rfl)⟩ ⟨(Nat.le_of_ble_eq_true rfl), (Nat.le_of_ble_eq_true rfl)⟩ ?_ rfl
  refine ux_aload_n C dX6_copyFrom_33 0 rfl ?_
  refine ux_get C fl_X6_35 dX6_copyFrom_34 (oState W0 hsb) rfl ?_
  refine ux_aload_n C dX6_copyFrom_37 1 rfl ?_
  refine ux_get C fl_X6_35 dX6_copyFrom_38 (oState W0 hsb2) rfl ?_
  obtain ⟨st_4, h1, h⟩ := obV_some h
  refine ux_callVv C cv_X6_61 dX6_copyFrom_41 (oCache W0 (kS_cache hsb)) rfl (kX1_copyFrom W0 (kS_cache hsb) (kS_cache hsb2) h1) rfl (Nat.le_of_ble_eq_true rfl) ⟨(Nat.le_of_ble_eq_true rfl), (Nat.le_of_ble_eq_true rfl)⟩ ⟨(Nat.le_of_ble_eq_true rfl), (Nat.le_of_ble_eq_true rfl)⟩ ?_ rfl
  refine ux_aload_n C dX6_copyFrom_44 1 rfl ?_
  refine ux_get C fl_X6_39 dX6_copyFrom_45 (oState W0 hsb2) rfl ?_
  refine ux_iconst (v := 0) C dX6_copyFrom_48 (by decide) ?_
  refine ux_aload_n C dX6_copyFrom_49 0 rfl ?_
  refine ux_get C fl_X6_39 dX6_copyFrom_50 (oState W0 hsb) rfl ?_
  refine ux_iconst (v := 0) C dX6_copyFrom_53 (by decide) ?_
  refine ux_bipush (v := 7) C dX6_copyFrom_54 (by decide) ?_
  refine ux_copyi C ac_X6_64 (aTot W0 hsb2) (aTot W0 hsb) dX6_copyFrom_56 (by decide) (by decide) (by decide) (by decide) (by decide) (Nat.le_of_ble_eq_true rfl) ⟨(Nat.le_of_ble_eq_true rfl), (Nat.le_of_ble_eq_true rfl)⟩ h (fun st_5 h => ?_)
  refine ux_aload_n C dX6_copyFrom_59 0 rfl ?_
  refine ux_aload_n C dX6_copyFrom_60 1 rfl ?_
  refine ux_get C fl_X6_43 dX6_copyFrom_61 (oState W0 hsb2) rfl ?_
  refine ux_puti C fp_X6_43 dX6_copyFrom_64 (oState W0 hsb) (Nat.le_of_ble_eq_true rfl) rfl h (fun st_6 h => ?_)
  refine ux_aload_n C dX6_copyFrom_67 0 rfl ?_
  refine ux_aload_n C dX6_copyFrom_68 1 rfl ?_
  refine ux_get C fl_X6_47 dX6_copyFrom_69 (oState W0 hsb2) rfl ?_
  refine ux_putz C fp_X6_47 dX6_copyFrom_72 (oState W0 hsb) (Nat.le_of_ble_eq_true rfl) rfl h (fun st_7 h => ?_)
  exact ux_vret C hr dX6_copyFrom_75 h (Nat.le_of_ble_eq_true rfl) (Nat.le_of_ble_eq_true rfl)
set_option maxRecDepth 100000 in
set_option maxHeartbeats 4000000 in
theorem wX6_usableBlocks_4 {M : uM} {V : uV} (W0 : uWC (mL M) V) (C : uCx M V cX6_usableBlocks 3 RX6 0 0 0 0) (hr : (mT M).sig.returnType = (some .int)) {sb : Nat} (hsb : kState sb) {st : uSt} {r : Int32} {ke : Int32 → Option Int32} (K : ∀ (l1 : Int32), ke l1 = some r → uW M V (uEnd M V 0 0 (some (.int r)) st) 3 0 0 47 [(1, .int l1)] [] st) : ∀ (n : Nat) (l1 : Int32) (l2 : Int32), fX6_usableBlocks_4 sb st ke n l1 l2 = some r → uW M V (uEnd M V 0 0 (some (.int r)) st) 3 0 0 4 [(0, .ref (vA V sb)), (1, .int l1), (2, .int l2)] [] st := by
  intro n
  induction n with
  | zero =>
    intro l1 l2 h
    rw [fX6_usableBlocks_4] at h
    cases h
  | succ n ih =>
    intro l1 l2 h
    rw [fX6_usableBlocks_4] at h
    refine ux_iload_n C dX6_usableBlocks_4 2 rfl ?_
    refine ux_aload_n C dX6_usableBlocks_5 0 rfl ?_
    refine ux_get C fl_X6_35 dX6_usableBlocks_6 (oState W0 hsb) rfl ?_
    refine ux_get C fl_X6_70 dX6_usableBlocks_9 (oCache W0 (kS_cache hsb)) rfl ?_
    refine ux_icmp_ge C dX6_usableBlocks_12 h (fun h => ?_) (fun h => ?_)
    · refine ux_sub [1] rfl ?_
      exact K l1 h
    · refine ux_aload_n C dX6_usableBlocks_15 0 rfl ?_
      refine ux_get C fl_X6_28 dX6_usableBlocks_16 (oState W0 hsb) rfl ?_
      refine ux_get C fl_X6_73 dX6_usableBlocks_19 (oDev W0 (kS_dev hsb)) rfl ?_
      refine ux_aload_n C dX6_usableBlocks_22 0 rfl ?_
      refine ux_get C fl_X6_35 dX6_usableBlocks_23 (oState W0 hsb) rfl ?_
      refine ux_get C fl_X6_77 dX6_usableBlocks_26 (oCache W0 (kS_cache hsb)) rfl ?_
      refine ux_iload_n C dX6_usableBlocks_29 2 rfl ?_
      refine ux_iald C (aCache1 W0 (kS_cache hsb)) dX6_usableBlocks_30 h (fun h => ?_)
      refine ux_zald C (aDev4 W0 (kS_dev hsb)) dX6_usableBlocks_31 h (fun h => ?_)
      refine ux_if_ne C dX6_usableBlocks_32 h (fun h => ?_) (fun h => ?_)
      · refine ux_iload_n C dX6_usableBlocks_35 1 rfl ?_
        refine ux_iconst (v := 1) C dX6_usableBlocks_36 (by decide) ?_
        refine ux_iload_n C dX6_usableBlocks_37 2 rfl ?_
        refine ux_ishl C dX6_usableBlocks_38 ?_
        refine ux_ior C dX6_usableBlocks_39 ?_
        refine ux_istore_n C dX6_usableBlocks_40 (fun z => [(1, .int z), (0, .ref (vA V sb)), (2, .int l2)]) (fun _ => rfl) (by decide) h (fun l1_3 h => ?_)
        refine ux_iincK C dX6_usableBlocks_41 (by decide) 2 rfl (fun z => [(2, .int z), (1, .int l1_3), (0, .ref (vA V sb))]) (fun _ => rfl) (by decide) h (fun l2_4 h => ?_)
        refine ux_goto C dX6_usableBlocks_44 ?_
        refine ux_sub [2, 1, 0] rfl ?_
        exact ih _ _ h
      · refine ux_iincK C dX6_usableBlocks_41 (by decide) 2 rfl (fun z => [(2, .int z), (0, .ref (vA V sb)), (1, .int l1)]) (fun _ => rfl) (by decide) h (fun l2_5 h => ?_)
        refine ux_goto C dX6_usableBlocks_44 ?_
        refine ux_sub [1, 2, 0] rfl ?_
        exact ih _ _ h
set_option maxRecDepth 100000 in
set_option maxHeartbeats 4000000 in
theorem kX6_usableBlocks {l : Launch} {V : uV} (W0 : uWC l V) {sb : Nat} (hsb : kState sb) {st : uSt} {r : Int32} (h : fX6_usableBlocks sb st = some r) : uMet l V yX6_usableBlocks cX6_usableBlocks 3 (some .int) 0 0 0 0 [.ref (vA V sb)] st (some (.int r)) st := by
  refine ux_met W0.1 W0.2.1 (by decide) rfl (Nat.le_of_ble_eq_true rfl) (fun M hL hr C => ?_)
  subst hL
  have C : uCx M V cX6_usableBlocks 3 RX6 0 0 0 0 := C
  unfold fX6_usableBlocks at h
  refine ux_iconst (v := 0) C dX6_usableBlocks_0 (by decide) ?_
  refine ux_istoreK_n C dX6_usableBlocks_1 rfl (by decide) ?_
  refine ux_iconst (v := 0) C dX6_usableBlocks_2 (by decide) ?_
  refine ux_istoreK_n C dX6_usableBlocks_3 rfl (by decide) ?_
  refine ux_sub [2, 1, 0] rfl ?_
  refine wX6_usableBlocks_4 W0 C hr hsb (fun l1_6 h => ?_) _ _ _ h
  refine ux_iload_n C dX6_usableBlocks_47 0 rfl ?_
  exact ux_iret C hr dX6_usableBlocks_48 h (Nat.le_of_ble_eq_true rfl) (Nat.le_of_ble_eq_true rfl)
set_option maxRecDepth 100000 in
set_option maxHeartbeats 4000000 in
theorem kX6_neededEnergy {l : Launch} {V : uV} (W0 : uWC l V) {sb : Nat} (hsb : kState sb) {st : uSt} {r : Int32} (h : fX6_neededEnergy sb st = some r) : uMet l V yX6_neededEnergy cX6_neededEnergy 1 (some .int) 2 48 0 0 [.ref (vA V sb)] st (some (.int r)) st := by
  refine ux_met W0.1 W0.2.1 (by decide) rfl (Nat.le_of_ble_eq_true rfl) (fun M hL hr C => ?_)
  subst hL
  have C : uCx M V cX6_neededEnergy 1 RX6 2 48 0 0 := C
  unfold fX6_neededEnergy at h
  refine ux_aload_n C dX6_neededEnergy_0 0 rfl ?_
  refine ux_get C fl_X6_28 dX6_neededEnergy_1 (oState W0 hsb) rfl ?_
  refine ux_aload_n C dX6_neededEnergy_4 0 rfl ?_
  refine ux_get C fl_X6_35 dX6_neededEnergy_5 (oState W0 hsb) rfl ?_
  refine ux_aload_n C dX6_neededEnergy_8 0 rfl ?_
  obtain ⟨x_1, h1, h⟩ := ob_some h
  refine ux_callVi C cv_X6_80 dX6_neededEnergy_9 (oState W0 hsb) rfl (kX6_usableBlocks W0 hsb h1) rfl (Nat.le_of_ble_eq_true rfl) ⟨(Nat.le_of_ble_eq_true rfl), (Nat.le_of_ble_eq_true rfl)⟩ ⟨(Nat.le_of_ble_eq_true rfl), (Nat.le_of_ble_eq_true rfl)⟩ ?_ rfl
  obtain ⟨x_2, h1, h⟩ := ob_some h
  refine ux_callVi C cv_X6_84 dX6_neededEnergy_12 (oDev W0 (kS_dev hsb)) rfl (kX2_energyIn W0 (kS_dev hsb) (kS_cache hsb) h1) rfl (Nat.le_of_ble_eq_true rfl) ⟨(Nat.le_of_ble_eq_true rfl), (Nat.le_of_ble_eq_true rfl)⟩ ⟨(Nat.le_of_ble_eq_true rfl), (Nat.le_of_ble_eq_true rfl)⟩ ?_ rfl
  exact ux_iret C hr dX6_neededEnergy_15 h (Nat.le_of_ble_eq_true rfl) (Nat.le_of_ble_eq_true rfl)
set_option maxRecDepth 100000 in
set_option maxHeartbeats 4000000 in
theorem kX6_loseAll {l : Launch} {V : uV} (W0 : uWC l V) {sb : Nat} (hsb : kState sb) {st : uSt} {r : Int32} {s9 : uSt} (h : fX6_loseAll sb st = some (r, s9)) : uMet l V yX6_loseAll cX6_loseAll 2 (some .int) 1 23 0 0 [.ref (vA V sb)] st (some (.int r)) s9 := by
  refine ux_met W0.1 W0.2.1 (by decide) rfl (Nat.le_of_ble_eq_true rfl) (fun M hL hr C => ?_)
  subst hL
  have C : uCx M V cX6_loseAll 2 RX6 1 23 0 0 := C
  unfold fX6_loseAll at h
  refine ux_aload_n C dX6_loseAll_0 0 rfl ?_
  refine ux_get C fl_X6_35 dX6_loseAll_1 (oState W0 hsb) rfl ?_
  refine ux_aload_n C dX6_loseAll_4 0 rfl ?_
  refine ux_get C fl_X6_35 dX6_loseAll_5 (oState W0 hsb) rfl ?_
  obtain ⟨x_1, h1, h⟩ := ob_some h
  refine ux_callVi C cv_X6_100 dX6_loseAll_8 (oCache W0 (kS_cache hsb)) rfl (kX1_allBlocks W0 (kS_cache hsb) h1) rfl (Nat.le_of_ble_eq_true rfl) ⟨(Nat.le_of_ble_eq_true rfl), (Nat.le_of_ble_eq_true rfl)⟩ ⟨(Nat.le_of_ble_eq_true rfl), (Nat.le_of_ble_eq_true rfl)⟩ ?_ rfl
  obtain ⟨x_2, h1, h⟩ := ob_some h
  refine ux_callVi C cv_X6_103 dX6_loseAll_11 (oCache W0 (kS_cache hsb)) rfl (kX1_valueIn W0 (kS_cache hsb) h1) rfl (Nat.le_of_ble_eq_true rfl) ⟨(Nat.le_of_ble_eq_true rfl), (Nat.le_of_ble_eq_true rfl)⟩ ⟨(Nat.le_of_ble_eq_true rfl), (Nat.le_of_ble_eq_true rfl)⟩ ?_ rfl
  refine ux_istoreK_n C dX6_loseAll_14 rfl (by decide) ?_
  refine ux_aload_n C dX6_loseAll_15 1 rfl ?_
  refine ux_get C fl_X6_39 dX6_loseAll_16 (oState W0 hsb) rfl ?_
  refine ux_iconst (v := 3) C dX6_loseAll_19 (by decide) ?_
  refine ux_dup2 C dX6_loseAll_20 rfl rfl ?_
  refine ux_ialdK (j := 3) C (aTot W0 hsb) dX6_loseAll_21 (by decide) (by decide) ?_
  refine ux_aload_n C dX6_loseAll_22 1 rfl ?_
  refine ux_get C fl_X6_35 dX6_loseAll_23 (oState W0 hsb) rfl ?_
  refine ux_get C fl_X6_70 dX6_loseAll_26 (oCache W0 (kS_cache hsb)) rfl ?_
  refine ux_iadd C dX6_loseAll_29 ?_
  refine ux_iastK (j := 3) C (aTot W0 hsb) dX6_loseAll_30 (by decide) (by decide) h (fun st_4 h => ?_)
  refine ux_aload_n C dX6_loseAll_31 1 rfl ?_
  refine ux_get C fl_X6_39 dX6_loseAll_32 (oState W0 hsb) rfl ?_
  refine ux_iconst (v := 5) C dX6_loseAll_35 (by decide) ?_
  refine ux_dup2 C dX6_loseAll_36 rfl rfl ?_
  refine ux_ialdK (j := 5) C (aTot W0 hsb) dX6_loseAll_37 (by decide) (by decide) ?_
  refine ux_iload_n C dX6_loseAll_38 0 rfl ?_
  refine ux_iadd C dX6_loseAll_39 ?_
  refine ux_iastK (j := 5) C (aTot W0 hsb) dX6_loseAll_40 (by decide) (by decide) h (fun st_5 h => ?_)
  refine ux_aload_n C dX6_loseAll_41 1 rfl ?_
  refine ux_get C fl_X6_35 dX6_loseAll_42 (oState W0 hsb) rfl ?_
  refine ux_iconst (v := 0) C dX6_loseAll_45 (by decide) ?_
  refine ux_puti C fp_X6_70 dX6_loseAll_46 (oCache W0 (kS_cache hsb)) (Nat.le_of_ble_eq_true rfl) rfl h (fun st_6 h => ?_)
  refine ux_iload_n C dX6_loseAll_49 0 rfl ?_
  exact ux_iretS C hr dX6_loseAll_50 h (Nat.le_of_ble_eq_true rfl) (Nat.le_of_ble_eq_true rfl)
set_option maxRecDepth 100000 in
set_option maxHeartbeats 4000000 in
theorem kX6_passMinute {l : Launch} {V : uV} (W0 : uWC l V) {sb : Nat} (hsb : kState sb) {st : uSt} {r : Int32} {s9 : uSt} (h : fX6_passMinute sb st = some (r, s9)) : uMet l V yX6_passMinute cX6_passMinute 1 (some .int) 3 65 0 0 [.ref (vA V sb)] st (some (.int r)) s9 := by
  refine ux_met W0.1 W0.2.1 (by decide) rfl (Nat.le_of_ble_eq_true rfl) (fun M hL hr C => ?_)
  subst hL
  have C : uCx M V cX6_passMinute 1 RX6 3 65 0 0 := C
  unfold fX6_passMinute at h
  refine ux_aload_n C dX6_passMinute_0 0 rfl ?_
  refine ux_dup C dX6_passMinute_1 rfl ?_
  refine ux_get C fl_X6_43 dX6_passMinute_2 (oState W0 hsb) rfl ?_
  refine ux_iconst (v := 1) C dX6_passMinute_5 (by decide) ?_
  refine ux_iadd C dX6_passMinute_6 ?_
  refine ux_puti C fp_X6_43 dX6_passMinute_7 (oState W0 hsb) (Nat.le_of_ble_eq_true rfl) rfl h (fun st_1 h => ?_)
  refine ux_aload_n C dX6_passMinute_10 0 rfl ?_
  refine ux_get C fl_X6_47 dX6_passMinute_11 (oState W0 hsb) rfl ?_
  refine ux_if_eq C dX6_passMinute_14 h (fun h => ?_) (fun h => ?_)
  · refine ux_aload_n C dX6_passMinute_26 0 rfl ?_
    refine ux_get C fl_X6_12 dX6_passMinute_27 (oState W0 hsb) rfl ?_
    obtain ⟨st_2, h1, h⟩ := obV_some h
    refine ux_callVv C cv_X6_91 dX6_passMinute_30 (oBat W0 (kS_bat hsb)) rfl (kX0_drainForMinute W0 (kS_bat hsb) h1) rfl (Nat.le_of_ble_eq_true rfl) ⟨(Nat.le_of_ble_eq_true rfl), (Nat.le_of_ble_eq_true rfl)⟩ ⟨(Nat.le_of_ble_eq_true rfl), (Nat.le_of_ble_eq_true rfl)⟩ ?_ rfl
    refine ux_aload_n C dX6_passMinute_33 0 rfl ?_
    refine ux_get C fl_X6_12 dX6_passMinute_34 (oState W0 hsb) rfl ?_
    refine ux_get C fl_X6_94 dX6_passMinute_37 (oBat W0 (kS_bat hsb)) rfl ?_
    refine ux_if_ne C dX6_passMinute_40 h (fun h => ?_) (fun h => ?_)
    · refine ux_aload_n C dX6_passMinute_43 0 rfl ?_
      obtain ⟨x_4, st_3, h1, h⟩ := obS_some h
      refine ux_callVi C cv_X6_97 dX6_passMinute_44 (oState W0 hsb) rfl (kX6_loseAll W0 hsb h1) rfl (Nat.le_of_ble_eq_true rfl) ⟨(Nat.le_of_ble_eq_true rfl), (Nat.le_of_ble_eq_true rfl)⟩ ⟨(Nat.le_of_ble_eq_true rfl), (Nat.le_of_ble_eq_true rfl)⟩ ?_ rfl
      refine ux_goto C dX6_passMinute_47 ?_
      exact ux_iretS C hr dX6_passMinute_51 h (Nat.le_of_ble_eq_true rfl) (Nat.le_of_ble_eq_true rfl)
    · refine ux_iconst (v := 0) C dX6_passMinute_50 (by decide) ?_
      exact ux_iretS C hr dX6_passMinute_51 h (Nat.le_of_ble_eq_true rfl) (Nat.le_of_ble_eq_true rfl)
  · refine ux_aload_n C dX6_passMinute_17 0 rfl ?_
    refine ux_get C fl_X6_12 dX6_passMinute_18 (oState W0 hsb) rfl ?_
    obtain ⟨st_5, h1, h⟩ := obV_some h
    refine ux_callVv C cv_X6_88 dX6_passMinute_21 (oBat W0 (kS_bat hsb)) rfl (kX0_chargeForMinute W0 (kS_bat hsb) h1) rfl (Nat.le_of_ble_eq_true rfl) ⟨(Nat.le_of_ble_eq_true rfl), (Nat.le_of_ble_eq_true rfl)⟩ ⟨(Nat.le_of_ble_eq_true rfl), (Nat.le_of_ble_eq_true rfl)⟩ ?_ rfl
    refine ux_iconst (v := 0) C dX6_passMinute_24 (by decide) ?_
    exact ux_iretS C hr dX6_passMinute_25 h (Nat.le_of_ble_eq_true rfl) (Nat.le_of_ble_eq_true rfl)
set_option maxRecDepth 100000 in
set_option maxHeartbeats 4000000 in
theorem kX4_rankAt {l : Launch} {V : uV} (W0 : uWC l V) {rw : Nat} (hrw : kRow rw) {p1 : Int32} {st : uSt} {r : Int64} (h : fX4_rankAt rw p1 st = some r) : uMet l V yX4_rankAt cX4_rankAt 2 (some .long) 0 0 0 0 [.ref (vA V rw), .int p1] st (some (.long r)) st := by
  refine ux_met W0.1 W0.2.1 (by decide) rfl (Nat.le_of_ble_eq_true rfl) (fun M hL hr C => ?_)
  subst hL
  have C : uCx M V cX4_rankAt 2 RX4 0 0 0 0 := C
  unfold fX4_rankAt at h
  refine ux_iload_n C dX4_rankAt_0 1 rfl ?_
  obtain ⟨j_1, hK_1, h⟩ := oj0_some h
  have hJ_1 : j_1 = some r → uW M V (uEnd M V 0 0 (some (.long r)) st) 2 0 0 16 [] [] st := by
    intro h
    replace h := hK_1 h
    refine ux_ldc2 C ckl_X4_52 dX4_rankAt_16 ?_
    exact ux_lret C hr dX4_rankAt_19 h (Nat.le_of_ble_eq_true rfl) (Nat.le_of_ble_eq_true rfl)
  refine ux_if_lt C dX4_rankAt_1 h (fun h => ?_) (fun h => ?_)
  · refine ux_sub [] rfl ?_
    exact hJ_1 h
  · refine ux_iload_n C dX4_rankAt_4 1 rfl ?_
    refine ux_aload_n C dX4_rankAt_5 0 rfl ?_
    refine ux_alenL (v := 501) C (aRow W0 hrw) dX4_rankAt_6 (by decide) ?_
    refine ux_icmp_ge C dX4_rankAt_7 h (fun h => ?_) (fun h => ?_)
    · refine ux_sub [] rfl ?_
      exact hJ_1 h
    · refine ux_aload_n C dX4_rankAt_10 0 rfl ?_
      refine ux_iload_n C dX4_rankAt_11 1 rfl ?_
      refine ux_lald C (aRow W0 hrw) dX4_rankAt_12 h (fun h => ?_)
      refine ux_goto C dX4_rankAt_13 ?_
      exact ux_lret C hr dX4_rankAt_19 h (Nat.le_of_ble_eq_true rfl) (Nat.le_of_ble_eq_true rfl)
set_option maxRecDepth 100000 in
set_option maxHeartbeats 4000000 in
theorem wX4_considerBlock_76 {M : uM} {V : uV} (W0 : uWC (mL M) V) (C : uCx M V cX4_considerBlock 14 RX4 1 23 0 0) (hr : (mT M).sig.returnType = none) {sb : Nat} (hsb : kState sb) {l3 : Int32} {l6 : Int32} {l7 : Int32} {l8 : Int32} {l9 : Int64} {s9 : uSt} {ke : uSt → Option (Unit × uSt)} (K : ∀ (st : uSt), ke st = some ((), s9) → uW M V (uEnd M V 0 0 none s9) 14 0 0 193 [] [] st) : ∀ (n : Nat) (st : uSt) (l11 : Int32), fX4_considerBlock_76 sb l3 l6 l7 l8 l9 ke n st l11 = some ((), s9) → uW M V (uEnd M V 0 0 none s9) 14 0 0 76 [(0, .ref (vA V 5)), (3, .int l3), (6, .int l6), (7, .int l7), (8, .int l8), (9, .long l9), (11, .int l11)] [] st := by
  intro n
  induction n with
  | zero =>
    intro st l11 h
    rw [fX4_considerBlock_76] at h
    cases h
  | succ n ih =>
    intro st l11 h
    rw [fX4_considerBlock_76] at h
    refine ux_iload C dX4_considerBlock_76 6 rfl ?_
    refine ux_if_lt C dX4_considerBlock_78 h (fun h => ?_) (fun h => ?_)
    · refine ux_sub [] rfl ?_
      exact K st h
    · refine ux_aload_n C dX4_considerBlock_81 0 rfl ?_
      refine ux_get C fl_X4_11 dX4_considerBlock_82 (oSearch W0) rfl ?_
      refine ux_iload C dX4_considerBlock_85 6 rfl ?_
      refine ux_iload C dX4_considerBlock_87 4 rfl ?_
      refine ux_isub C dX4_considerBlock_89 ?_
      obtain ⟨x_7, h1, h⟩ := ob_some h
      refine ux_callSl C cs_X4_97 dX4_considerBlock_90 (kX4_rankAt W0 kR_6 h1) rfl (Nat.le_of_ble_eq_true rfl) ⟨(Nat.le_of_ble_eq_true rfl), (Nat.le_of_ble_eq_true rfl)⟩ ⟨(Nat.le_of_ble_eq_true rfl), (Nat.le_of_ble_eq_true rfl)⟩ ?_ rfl
      refine ux_aload_n C dX4_considerBlock_93 0 rfl ?_
      refine ux_get C fl_X4_15 dX4_considerBlock_94 (oSearch W0) rfl ?_
      refine ux_iload C dX4_considerBlock_97 6 rfl ?_
      refine ux_iload C dX4_considerBlock_99 3 rfl ?_
      refine ux_isub C dX4_considerBlock_101 ?_
      obtain ⟨x_8, h1, h⟩ := ob_some h
      refine ux_callSl C cs_X4_97 dX4_considerBlock_102 (kX4_rankAt W0 kR_7 h1) rfl (Nat.le_of_ble_eq_true rfl) ⟨(Nat.le_of_ble_eq_true rfl), (Nat.le_of_ble_eq_true rfl)⟩ ⟨(Nat.le_of_ble_eq_true rfl), (Nat.le_of_ble_eq_true rfl)⟩ ?_ rfl
      refine ux_mmaxL C mm_X4_82 dX4_considerBlock_105 (Nat.le_of_ble_eq_true rfl) ⟨(Nat.le_of_ble_eq_true rfl), (Nat.le_of_ble_eq_true rfl)⟩ ⟨(Nat.le_of_ble_eq_true rfl), (Nat.le_of_ble_eq_true rfl)⟩ ?_
      refine ux_lstore C dX4_considerBlock_108 (fun z => [(12, .long z), (0, .ref (vA V 5)), (3, .int l3), (6, .int l6), (7, .int l7), (8, .int l8), (9, .long l9), (11, .int l11)]) (fun _ => rfl) (by decide) h (fun l12_9 h => ?_)
      refine ux_lload C dX4_considerBlock_110 0 rfl ?_
      refine ux_aload_n C dX4_considerBlock_112 1 rfl ?_
      refine ux_get C fl_X4_18 dX4_considerBlock_113 (oSearch W0) rfl ?_
      refine ux_iload C dX4_considerBlock_116 7 rfl ?_
      refine ux_iload_n C dX4_considerBlock_118 2 rfl ?_
      obtain ⟨j_10, hK_10, h⟩ := oj1_some h
      have hJ_10 : ∀ (v_11 : Int32), j_10 v_11 = some ((), s9) → uW M V (uEnd M V 0 0 none s9) 14 0 0 129 [(0, .ref (vA V 5)), (3, .int l3), (6, .int l6), (7, .int l7), (8, .int l8), (9, .long l9), (11, .int l11)] [.int v_11, .int l11, .ref (vA V 8), .long l12_9] st := by
        intro v_11 h
        replace h := hK_10 v_11 h
        refine ux_isub C dX4_considerBlock_129 ?_
        obtain ⟨x_12, h1, h⟩ := ob_some h
        refine ux_callSl C cs_X4_97 dX4_considerBlock_130 (kX4_rankAt W0 kR_8 h1) rfl (Nat.le_of_ble_eq_true rfl) ⟨(Nat.le_of_ble_eq_true rfl), (Nat.le_of_ble_eq_true rfl)⟩ ⟨(Nat.le_of_ble_eq_true rfl), (Nat.le_of_ble_eq_true rfl)⟩ ?_ rfl
        refine ux_mmaxL C mm_X4_82 dX4_considerBlock_133 (Nat.le_of_ble_eq_true rfl) ⟨(Nat.le_of_ble_eq_true rfl), (Nat.le_of_ble_eq_true rfl)⟩ ⟨(Nat.le_of_ble_eq_true rfl), (Nat.le_of_ble_eq_true rfl)⟩ ?_
        refine ux_lstore C dX4_considerBlock_136 (fun z => [(12, .long z), (0, .ref (vA V 5)), (3, .int l3), (6, .int l6), (7, .int l7), (8, .int l8), (9, .long l9), (11, .int l11)]) (fun _ => rfl) (by decide) h (fun l12_13 h => ?_)
        refine ux_aload_n C dX4_considerBlock_138 1 rfl ?_
        refine ux_get C fl_X4_15 dX4_considerBlock_139 (oSearch W0) rfl ?_
        refine ux_iload C dX4_considerBlock_142 7 rfl ?_
        refine ux_aload_n C dX4_considerBlock_144 1 rfl ?_
        refine ux_get C fl_X4_15 dX4_considerBlock_145 (oSearch W0) rfl ?_
        refine ux_iload C dX4_considerBlock_148 7 rfl ?_
        refine ux_lald C (aRow W0 kR_7) dX4_considerBlock_150 h (fun h => ?_)
        refine ux_aload_n C dX4_considerBlock_151 1 rfl ?_
        refine ux_get C fl_X4_18 dX4_considerBlock_152 (oSearch W0) rfl ?_
        refine ux_iload C dX4_considerBlock_155 7 rfl ?_
        refine ux_lald C (aRow W0 kR_8) dX4_considerBlock_157 h (fun h => ?_)
        refine ux_mmaxL C mm_X4_82 dX4_considerBlock_158 (Nat.le_of_ble_eq_true rfl) ⟨(Nat.le_of_ble_eq_true rfl), (Nat.le_of_ble_eq_true rfl)⟩ ⟨(Nat.le_of_ble_eq_true rfl), (Nat.le_of_ble_eq_true rfl)⟩ ?_
        refine ux_last C (aRow W0 kR_7) dX4_considerBlock_161 h (fun st_14 h => ?_)
        refine ux_aload_n C dX4_considerBlock_162 1 rfl ?_
        refine ux_get C fl_X4_18 dX4_considerBlock_163 (oSearch W0) rfl ?_
        refine ux_iload C dX4_considerBlock_166 7 rfl ?_
        refine ux_lload C dX4_considerBlock_168 0 rfl ?_
        refine ux_lconst (v := 0) C dX4_considerBlock_170 (by decide) ?_
        refine ux_lcmp C dX4_considerBlock_171 ?_
        obtain ⟨j_15, hK_15, h⟩ := oj1_some h
        have hJ_15 : ∀ (v_16 : Int64), j_15 v_16 = some ((), s9) → uW M V (uEnd M V 0 0 none s9) 14 0 0 186 [(0, .ref (vA V 5)), (3, .int l3), (6, .int l6), (7, .int l7), (8, .int l8), (9, .long l9), (11, .int l11)] [.long v_16, .int l11, .ref (vA V 8)] st_14 := by
          intro v_16 h
          replace h := hK_15 v_16 h
          refine ux_last C (aRow W0 kR_8) dX4_considerBlock_186 h (fun st_17 h => ?_)
          refine ux_iincK C dX4_considerBlock_187 (by decide) 6 rfl (fun z => [(11, .int z), (0, .ref (vA V 5)), (3, .int l3), (6, .int l6), (7, .int l7), (8, .int l8), (9, .long l9)]) (fun _ => rfl) (by decide) h (fun l11_18 h => ?_)
          refine ux_goto C dX4_considerBlock_190 ?_
          refine ux_sub [1, 2, 3, 4, 5, 6, 0] rfl ?_
          exact ih _ _ h
        refine ux_if_ge C dX4_considerBlock_172 h (fun h => ?_) (fun h => ?_)
        · refine ux_lload C dX4_considerBlock_181 0 rfl ?_
          refine ux_lload C dX4_considerBlock_183 6 rfl ?_
          refine ux_ladd C dX4_considerBlock_185 ?_
          refine ux_sub [1, 2, 3, 4, 5, 6, 7] rfl ?_
          exact hJ_15 (l12_13 + l9) h
        · refine ux_ldc2 C ckl_X4_52 dX4_considerBlock_175 ?_
          refine ux_goto C dX4_considerBlock_178 ?_
          refine ux_sub [1, 2, 3, 4, 5, 6, 7] rfl ?_
          exact hJ_15 (-1 : Int64) h
      refine ux_if_eq C dX4_considerBlock_119 h (fun h => ?_) (fun h => ?_)
      · refine ux_iload C dX4_considerBlock_127 4 rfl ?_
        refine ux_sub [1, 2, 3, 4, 5, 6, 7] rfl ?_
        exact hJ_10 l7 h
      · refine ux_iload C dX4_considerBlock_122 3 rfl ?_
        refine ux_goto C dX4_considerBlock_124 ?_
        refine ux_sub [1, 2, 3, 4, 5, 6, 7] rfl ?_
        exact hJ_10 l6 h
set_option maxRecDepth 100000 in
set_option maxHeartbeats 4000000 in
theorem kX4_considerBlock {l : Launch} {V : uV} (W0 : uWC l V) {sb : Nat} (hsb : kState sb) {p2 : Int32} {p3 : Int32} {p4 : Int32} {st : uSt} {s9 : uSt} (h : fX4_considerBlock sb p2 p3 p4 st = some ((), s9)) : uMet l V yX4_considerBlock cX4_considerBlock 14 none 1 23 0 0 [.ref (vA V 5), .ref (vA V sb), .int p2, .int p3, .int p4] st none s9 := by
  refine ux_met W0.1 W0.2.1 (by decide) rfl (Nat.le_of_ble_eq_true rfl) (fun M hL hr C => ?_)
  subst hL
  have C : uCx M V cX4_considerBlock 14 RX4 1 23 0 0 := C
  unfold fX4_considerBlock at h
  refine ux_aload_n C dX4_considerBlock_0 1 rfl ?_
  refine ux_get C fl_X4_27 dX4_considerBlock_1 (oState W0 hsb) rfl ?_
  refine ux_get C fl_X4_66 dX4_considerBlock_4 (oCache W0 (kS_cache hsb)) rfl ?_
  refine ux_iload_n C dX4_considerBlock_7 2 rfl ?_
  refine ux_iald C (aCache1 W0 (kS_cache hsb)) dX4_considerBlock_8 h (fun h => ?_)
  refine ux_istore C dX4_considerBlock_9 (fun z => [(5, .int z), (0, .ref (vA V 5)), (1, .ref (vA V sb)), (2, .int p2), (3, .int p3), (4, .int p4)]) (fun _ => rfl) (by decide) h (fun l5_1 h => ?_)
  refine ux_aload_n C dX4_considerBlock_11 2 rfl ?_
  refine ux_get C fl_X4_21 dX4_considerBlock_12 (oState W0 hsb) rfl ?_
  refine ux_get C fl_X4_85 dX4_considerBlock_15 (oDev W0 (kS_dev hsb)) rfl ?_
  refine ux_iload C dX4_considerBlock_18 0 rfl ?_
  refine ux_iald C (aDev3 W0 (kS_dev hsb)) dX4_considerBlock_20 h (fun h => ?_)
  refine ux_istore C dX4_considerBlock_21 (fun z => [(6, .int z), (5, .int l5_1), (0, .ref (vA V 5)), (1, .ref (vA V sb)), (2, .int p2), (3, .int p3), (4, .int p4)]) (fun _ => rfl) (by decide) h (fun l6_2 h => ?_)
  refine ux_iload C dX4_considerBlock_23 0 rfl ?_
  refine ux_aload_n C dX4_considerBlock_25 3 rfl ?_
  refine ux_get C fl_X4_21 dX4_considerBlock_26 (oState W0 hsb) rfl ?_
  refine ux_get C fl_X4_88 dX4_considerBlock_29 (oDev W0 (kS_dev hsb)) rfl ?_
  refine ux_iload C dX4_considerBlock_32 1 rfl ?_
  refine ux_iald C (aDev2 W0 (kS_dev hsb)) dX4_considerBlock_34 h (fun h => ?_)
  refine ux_iadd C dX4_considerBlock_35 ?_
  refine ux_istore C dX4_considerBlock_36 (fun z => [(7, .int z), (6, .int l6_2), (5, .int l5_1), (0, .ref (vA V 5)), (1, .ref (vA V sb)), (2, .int p2), (3, .int p3), (4, .int p4)]) (fun _ => rfl) (by decide) h (fun l7_3 h => ?_)
  refine ux_iload C dX4_considerBlock_38 0 rfl ?_
  refine ux_aload_n C dX4_considerBlock_40 4 rfl ?_
  refine ux_get C fl_X4_21 dX4_considerBlock_41 (oState W0 hsb) rfl ?_
  refine ux_get C fl_X4_91 dX4_considerBlock_44 (oDev W0 (kS_dev hsb)) rfl ?_
  refine ux_iload C dX4_considerBlock_47 2 rfl ?_
  refine ux_iald C (aDev1 W0 (kS_dev hsb)) dX4_considerBlock_49 h (fun h => ?_)
  refine ux_iadd C dX4_considerBlock_50 ?_
  refine ux_istore C dX4_considerBlock_51 (fun z => [(8, .int z), (7, .int l7_3), (6, .int l6_2), (5, .int l5_1), (0, .ref (vA V 5)), (1, .ref (vA V sb)), (2, .int p2), (3, .int p3), (4, .int p4)]) (fun _ => rfl) (by decide) h (fun l8_4 h => ?_)
  refine ux_aload_n C dX4_considerBlock_53 5 rfl ?_
  refine ux_get C fl_X4_27 dX4_considerBlock_54 (oState W0 hsb) rfl ?_
  refine ux_get C fl_X4_94 dX4_considerBlock_57 (oCache W0 (kS_cache hsb)) rfl ?_
  refine ux_iload_n C dX4_considerBlock_60 6 rfl ?_
  refine ux_iald C (aCache3 W0 (kS_cache hsb)) dX4_considerBlock_61 h (fun h => ?_)
  refine ux_i2l C dX4_considerBlock_62 ?_
  refine ux_bipush (v := 24) C dX4_considerBlock_63 (by decide) ?_
  refine ux_lshl C dX4_considerBlock_65 ?_
  refine ux_lconst (v := 1) C dX4_considerBlock_66 (by decide) ?_
  refine ux_iload_n C dX4_considerBlock_67 6 rfl ?_
  refine ux_lshl C dX4_considerBlock_68 ?_
  refine ux_lsub C dX4_considerBlock_69 ?_
  refine ux_lstore C dX4_considerBlock_70 (fun z => [(9, .long z), (8, .int l8_4), (7, .int l7_3), (6, .int l6_2), (5, .int l5_1), (0, .ref (vA V 5)), (1, .ref (vA V sb)), (2, .int p2), (3, .int p3), (4, .int p4)]) (fun _ => rfl) (by decide) h (fun l9_5 h => ?_)
  refine ux_iload C dX4_considerBlock_72 9 rfl ?_
  refine ux_istoreK C dX4_considerBlock_74 rfl (by decide) ?_
  refine ux_sub [6, 9, 4, 3, 2, 1, 0] rfl ?_
  refine wX4_considerBlock_76 W0 C hr hsb (fun st_19 h => ?_) _ _ _ h
  exact ux_vret C hr dX4_considerBlock_193 h (Nat.le_of_ble_eq_true rfl) (Nat.le_of_ble_eq_true rfl)
set_option maxRecDepth 100000 in
set_option maxHeartbeats 4000000 in
theorem wX4_leaveDevice_2 {M : uM} {V : uV} (W0 : uWC (mL M) V) (C : uCx M V cX4_leaveDevice 3 RX4 1 23 0 0) (hr : (mT M).sig.returnType = none) {l1 : Int32} {s9 : uSt} {ke : uSt → Option (Unit × uSt)} (K : ∀ (st : uSt), ke st = some ((), s9) → uW M V (uEnd M V 0 0 none s9) 3 0 0 61 [] [] st) : ∀ (n : Nat) (st : uSt) (l2 : Int32), fX4_leaveDevice_2 l1 ke n st l2 = some ((), s9) → uW M V (uEnd M V 0 0 none s9) 3 0 0 2 [(0, .ref (vA V 5)), (1, .int l1), (2, .int l2)] [] st := by
  intro n
  induction n with
  | zero =>
    intro st l2 h
    rw [fX4_leaveDevice_2] at h
    cases h
  | succ n ih =>
    intro st l2 h
    rw [fX4_leaveDevice_2] at h
    refine ux_iload_n C dX4_leaveDevice_2 2 rfl ?_
    refine ux_iload_n C dX4_leaveDevice_3 1 rfl ?_
    refine ux_icmp_gt C dX4_leaveDevice_4 h (fun h => ?_) (fun h => ?_)
    · refine ux_sub [] rfl ?_
      exact K st h
    · refine ux_aload_n C dX4_leaveDevice_7 0 rfl ?_
      refine ux_get C fl_X4_11 dX4_leaveDevice_8 (oSearch W0) rfl ?_
      refine ux_iload_n C dX4_leaveDevice_11 2 rfl ?_
      refine ux_aload_n C dX4_leaveDevice_12 0 rfl ?_
      refine ux_get C fl_X4_11 dX4_leaveDevice_13 (oSearch W0) rfl ?_
      refine ux_iload_n C dX4_leaveDevice_16 2 rfl ?_
      refine ux_lald C (aRow W0 kR_6) dX4_leaveDevice_17 h (fun h => ?_)
      refine ux_aload_n C dX4_leaveDevice_18 0 rfl ?_
      refine ux_get C fl_X4_15 dX4_leaveDevice_19 (oSearch W0) rfl ?_
      refine ux_iload_n C dX4_leaveDevice_22 2 rfl ?_
      refine ux_lald C (aRow W0 kR_7) dX4_leaveDevice_23 h (fun h => ?_)
      refine ux_aload_n C dX4_leaveDevice_24 0 rfl ?_
      refine ux_get C fl_X4_18 dX4_leaveDevice_25 (oSearch W0) rfl ?_
      refine ux_iload_n C dX4_leaveDevice_28 2 rfl ?_
      refine ux_lald C (aRow W0 kR_8) dX4_leaveDevice_29 h (fun h => ?_)
      refine ux_mmaxL C mm_X4_82 dX4_leaveDevice_30 (Nat.le_of_ble_eq_true rfl) ⟨(Nat.le_of_ble_eq_true rfl), (Nat.le_of_ble_eq_true rfl)⟩ ⟨(Nat.le_of_ble_eq_true rfl), (Nat.le_of_ble_eq_true rfl)⟩ ?_
      refine ux_mmaxL C mm_X4_82 dX4_leaveDevice_33 (Nat.le_of_ble_eq_true rfl) ⟨(Nat.le_of_ble_eq_true rfl), (Nat.le_of_ble_eq_true rfl)⟩ ⟨(Nat.le_of_ble_eq_true rfl), (Nat.le_of_ble_eq_true rfl)⟩ ?_
      refine ux_last C (aRow W0 kR_6) dX4_leaveDevice_36 h (fun st_2 h => ?_)
      refine ux_aload_n C dX4_leaveDevice_37 0 rfl ?_
      refine ux_get C fl_X4_15 dX4_leaveDevice_38 (oSearch W0) rfl ?_
      refine ux_iload_n C dX4_leaveDevice_41 2 rfl ?_
      refine ux_ldc2 C ckl_X4_52 dX4_leaveDevice_42 ?_
      refine ux_last C (aRow W0 kR_7) dX4_leaveDevice_45 h (fun st_3 h => ?_)
      refine ux_aload_n C dX4_leaveDevice_46 0 rfl ?_
      refine ux_get C fl_X4_18 dX4_leaveDevice_47 (oSearch W0) rfl ?_
      refine ux_iload_n C dX4_leaveDevice_50 2 rfl ?_
      refine ux_ldc2 C ckl_X4_52 dX4_leaveDevice_51 ?_
      refine ux_last C (aRow W0 kR_8) dX4_leaveDevice_54 h (fun st_4 h => ?_)
      refine ux_iincK C dX4_leaveDevice_55 (by decide) 2 rfl (fun z => [(2, .int z), (0, .ref (vA V 5)), (1, .int l1)]) (fun _ => rfl) (by decide) h (fun l2_5 h => ?_)
      refine ux_goto C dX4_leaveDevice_58 ?_
      refine ux_sub [1, 2, 0] rfl ?_
      exact ih _ _ h
set_option maxRecDepth 100000 in
set_option maxHeartbeats 4000000 in
theorem kX4_leaveDevice {l : Launch} {V : uV} (W0 : uWC l V) {p1 : Int32} {st : uSt} {s9 : uSt} (h : fX4_leaveDevice p1 st = some ((), s9)) : uMet l V yX4_leaveDevice cX4_leaveDevice 3 none 1 23 0 0 [.ref (vA V 5), .int p1] st none s9 := by
  refine ux_met W0.1 W0.2.1 (by decide) rfl (Nat.le_of_ble_eq_true rfl) (fun M hL hr C => ?_)
  subst hL
  have C : uCx M V cX4_leaveDevice 3 RX4 1 23 0 0 := C
  unfold fX4_leaveDevice at h
  refine ux_iconst (v := 0) C dX4_leaveDevice_0 (by decide) ?_
  refine ux_istoreK_n C dX4_leaveDevice_1 rfl (by decide) ?_
  refine ux_sub [1, 2, 0] rfl ?_
  refine wX4_leaveDevice_2 W0 C hr (fun st_6 h => ?_) _ _ _ h
  exact ux_vret C hr dX4_leaveDevice_61 h (Nat.le_of_ble_eq_true rfl) (Nat.le_of_ble_eq_true rfl)
set_option maxRecDepth 100000 in
set_option maxHeartbeats 4000000 in
theorem wX4_rank_48 {M : uM} {V : uV} (W0 : uWC (mL M) V) (C : uCx M V cX4_rank 8 RX4 2 56 0 0) (hr : (mT M).sig.returnType = none) {sb : Nat} (hsb : kState sb) {l2 : Int32} {l3 : Int32} {s9 : uSt} {ke : uSt → Int32 → Option (Unit × uSt)} (K : ∀ (st : uSt) (l5 : Int32), ke st l5 = some ((), s9) → uW M V (uEnd M V 0 0 none s9) 8 0 0 179 [(0, .ref (vA V 5)), (5, .int l5)] [] st) : ∀ (n : Nat) (st : uSt) (l4 : Int32) (l5 : Int32) (l6 : Int32), fX4_rank_48 sb l2 l3 ke n st l4 l5 l6 = some ((), s9) → uW M V (uEnd M V 0 0 none s9) 8 0 0 48 [(0, .ref (vA V 5)), (1, .ref (vA V sb)), (2, .int l2), (3, .int l3), (4, .int l4), (5, .int l5), (6, .int l6)] [] st := by
  intro n
  induction n with
  | zero =>
    intro st l4 l5 l6 h
    rw [fX4_rank_48] at h
    cases h
  | succ n ih =>
    intro st l4 l5 l6 h
    rw [fX4_rank_48] at h
    refine ux_iload C dX4_rank_48 6 rfl ?_
    refine ux_aload_n C dX4_rank_50 1 rfl ?_
    refine ux_get C fl_X4_27 dX4_rank_51 (oState W0 hsb) rfl ?_
    refine ux_get C fl_X4_60 dX4_rank_54 (oCache W0 (kS_cache hsb)) rfl ?_
    refine ux_icmp_ge C dX4_rank_57 h (fun h => ?_) (fun h => ?_)
    · refine ux_sub [0, 5] rfl ?_
      exact K st l5 h
    · refine ux_iload_n C dX4_rank_60 2 rfl ?_
      refine ux_iload C dX4_rank_61 6 rfl ?_
      refine ux_ishr C dX4_rank_63 ?_
      refine ux_iconst (v := 1) C dX4_rank_64 (by decide) ?_
      refine ux_iand C dX4_rank_65 ?_
      refine ux_if_ne C dX4_rank_66 h (fun h => ?_) (fun h => ?_)
      · refine ux_goto C dX4_rank_69 ?_
        refine ux_iincK C dX4_rank_173 (by decide) 6 rfl (fun z => [(6, .int z), (0, .ref (vA V 5)), (1, .ref (vA V sb)), (2, .int l2), (3, .int l3), (4, .int l4), (5, .int l5)]) (fun _ => rfl) (by decide) h (fun l6_8 h => ?_)
        refine ux_goto C dX4_rank_176 ?_
        refine ux_sub [1, 2, 3, 4, 5, 6, 0] rfl ?_
        exact ih _ _ _ _ h
      · refine ux_iload C dX4_rank_72 4 rfl ?_
        refine ux_iconst (v := (-1)) C dX4_rank_74 (by decide) ?_
        obtain ⟨j_9, hK_9, h⟩ := oj1_some h
        have hJ_9 : ∀ (st_10 : uSt), j_9 st_10 = some ((), s9) → uW M V (uEnd M V 0 0 none s9) 8 0 0 107 [(0, .ref (vA V 5)), (1, .ref (vA V sb)), (2, .int l2), (3, .int l3), (4, .int l4), (5, .int l5), (6, .int l6)] [] st_10 := by
          intro st_10 h
          replace h := hK_9 st_10 h
          refine ux_iload C dX4_rank_107 4 rfl ?_
          refine ux_iconst (v := (-1)) C dX4_rank_109 (by decide) ?_
          obtain ⟨j_11, hK_11, h⟩ := oj1_some h
          have hJ_11 : ∀ (v_12 : Int32), j_11 v_12 = some ((), s9) → uW M V (uEnd M V 0 0 none s9) 8 0 0 132 [(0, .ref (vA V 5)), (1, .ref (vA V sb)), (2, .int l2), (3, .int l3), (5, .int l5), (6, .int l6)] [.int v_12] st_10 := by
            intro v_12 h
            replace h := hK_11 v_12 h
            refine ux_istoreK C dX4_rank_132 rfl (by decide) ?_
            refine ux_iload_n C dX4_rank_134 4 rfl ?_
            refine ux_iload C dX4_rank_135 5 rfl ?_
            refine ux_aload_n C dX4_rank_137 2 rfl ?_
            refine ux_get C fl_X4_21 dX4_rank_138 (oState W0 hsb) rfl ?_
            refine ux_aload_n C dX4_rank_141 2 rfl ?_
            refine ux_get C fl_X4_27 dX4_rank_142 (oState W0 hsb) rfl ?_
            refine ux_iconst (v := 1) C dX4_rank_145 (by decide) ?_
            refine ux_iload C dX4_rank_146 6 rfl ?_
            refine ux_ishl C dX4_rank_148 ?_
            obtain ⟨x_14, h1, h⟩ := ob_some h
            refine ux_callVi C cv_X4_31 dX4_rank_149 (oDev W0 (kS_dev hsb)) rfl (kX2_energyIn W0 (kS_dev hsb) (kS_cache hsb) h1) rfl (Nat.le_of_ble_eq_true rfl) ⟨(Nat.le_of_ble_eq_true rfl), (Nat.le_of_ble_eq_true rfl)⟩ ⟨(Nat.le_of_ble_eq_true rfl), (Nat.le_of_ble_eq_true rfl)⟩ ?_ rfl
            refine ux_iadd C dX4_rank_152 ?_
            refine ux_mmin C mm_X4_37 dX4_rank_153 (Nat.le_of_ble_eq_true rfl) ⟨(Nat.le_of_ble_eq_true rfl), (Nat.le_of_ble_eq_true rfl)⟩ ⟨(Nat.le_of_ble_eq_true rfl), (Nat.le_of_ble_eq_true rfl)⟩ ?_
            refine ux_istore C dX4_rank_156 (fun z => [(5, .int z), (7, .int v_12), (0, .ref (vA V 5)), (1, .ref (vA V sb)), (2, .int l2), (3, .int l3), (6, .int l6)]) (fun _ => rfl) (by decide) h (fun l5_15 h => ?_)
            refine ux_aload_n C dX4_rank_158 2 rfl ?_
            refine ux_aload_n C dX4_rank_159 3 rfl ?_
            refine ux_iload C dX4_rank_160 6 rfl ?_
            refine ux_iload C dX4_rank_162 1 rfl ?_
            refine ux_iload C dX4_rank_164 0 rfl ?_
            obtain ⟨st_16, h1, h⟩ := obV_some h
            refine ux_callVv C cv_X4_78 dX4_rank_166 (oSearch W0) rfl (kX4_considerBlock W0 hsb h1) rfl (Nat.le_of_ble_eq_true rfl) ⟨(Nat.le_of_ble_eq_true rfl), (Nat.le_of_ble_eq_true rfl)⟩ ⟨(Nat.le_of_ble_eq_true rfl), (Nat.le_of_ble_eq_true rfl)⟩ ?_ rfl
            refine ux_iload C dX4_rank_169 6 rfl ?_
            refine ux_istoreK C dX4_rank_171 rfl (by decide) ?_
            refine ux_iincK C dX4_rank_173 (by decide) 7 rfl (fun z => [(6, .int z), (4, .int l6), (5, .int l5_15), (7, .int v_12), (0, .ref (vA V 5)), (1, .ref (vA V sb)), (2, .int l2), (3, .int l3)]) (fun _ => rfl) (by decide) h (fun l6_18 h => ?_)
            refine ux_goto C dX4_rank_176 ?_
            refine ux_sub [4, 5, 6, 7, 1, 2, 0] rfl ?_
            exact ih _ _ _ _ h
          obtain ⟨j_19, hK_19, h⟩ := oj0_some h
          have hJ_19 : j_19 = some ((), s9) → uW M V (uEnd M V 0 0 none s9) 8 0 0 131 [(0, .ref (vA V 5)), (1, .ref (vA V sb)), (2, .int l2), (3, .int l3), (5, .int l5), (6, .int l6)] [] st_10 := by
            intro h
            replace h := hK_19 h
            refine ux_iconst (v := 0) C dX4_rank_131 (by decide) ?_
            exact hJ_11 (0 : Int32) h
          refine ux_icmp_eq C dX4_rank_110 h (fun h => ?_) (fun h => ?_)
          · refine ux_sub [0, 1, 2, 3, 5, 6] rfl ?_
            exact hJ_19 h
          · refine ux_aload_n C dX4_rank_113 1 rfl ?_
            refine ux_get C fl_X4_27 dX4_rank_114 (oState W0 hsb) rfl ?_
            refine ux_iload C dX4_rank_117 4 rfl ?_
            refine ux_iload C dX4_rank_119 6 rfl ?_
            obtain ⟨x_20, h1, h⟩ := ob_some h
            refine ux_callVi C cv_X4_74 dX4_rank_121 (oCache W0 (kS_cache hsb)) rfl (kX1_isFollowedBy W0 (kS_cache hsb) h1) rfl (Nat.le_of_ble_eq_true rfl) ⟨(Nat.le_of_ble_eq_true rfl), (Nat.le_of_ble_eq_true rfl)⟩ ⟨(Nat.le_of_ble_eq_true rfl), (Nat.le_of_ble_eq_true rfl)⟩ ?_ rfl
            refine ux_if_eq C dX4_rank_124 h (fun h => ?_) (fun h => ?_)
            · refine ux_sub [0, 1, 2, 3, 5, 6] rfl ?_
              exact hJ_19 h
            · refine ux_iconst (v := 1) C dX4_rank_127 (by decide) ?_
              refine ux_goto C dX4_rank_128 ?_
              refine ux_sub [0, 1, 2, 3, 5, 6] rfl ?_
              exact hJ_11 (1 : Int32) h
        refine ux_icmp_eq C dX4_rank_75 h (fun h => ?_) (fun h => ?_)
        · exact hJ_9 st h
        · refine ux_aload_n C dX4_rank_78 1 rfl ?_
          refine ux_get C fl_X4_27 dX4_rank_79 (oState W0 hsb) rfl ?_
          refine ux_get C fl_X4_66 dX4_rank_82 (oCache W0 (kS_cache hsb)) rfl ?_
          refine ux_iload C dX4_rank_85 4 rfl ?_
          refine ux_iald C (aCache1 W0 (kS_cache hsb)) dX4_rank_87 h (fun h => ?_)
          refine ux_aload_n C dX4_rank_88 1 rfl ?_
          refine ux_get C fl_X4_27 dX4_rank_89 (oState W0 hsb) rfl ?_
          refine ux_get C fl_X4_66 dX4_rank_92 (oCache W0 (kS_cache hsb)) rfl ?_
          refine ux_iload C dX4_rank_95 6 rfl ?_
          refine ux_iald C (aCache1 W0 (kS_cache hsb)) dX4_rank_97 h (fun h => ?_)
          refine ux_icmp_eq C dX4_rank_98 h (fun h => ?_) (fun h => ?_)
          · exact hJ_9 st h
          · refine ux_aload_n C dX4_rank_101 0 rfl ?_
            refine ux_iload C dX4_rank_102 5 rfl ?_
            obtain ⟨st_21, h1, h⟩ := obV_some h
            refine ux_callVv C cv_X4_70 dX4_rank_104 (oSearch W0) rfl (kX4_leaveDevice W0 h1) rfl (Nat.le_of_ble_eq_true rfl) ⟨(Nat.le_of_ble_eq_true rfl), (Nat.le_of_ble_eq_true rfl)⟩ ⟨(Nat.le_of_ble_eq_true rfl), (Nat.le_of_ble_eq_true rfl)⟩ ?_ rfl
            exact hJ_9 st_21 h
set_option maxRecDepth 100000 in
set_option maxHeartbeats 4000000 in
theorem kX4_rank {l : Launch} {V : uV} (W0 : uWC l V) {sb : Nat} (hsb : kState sb) {p2 : Int32} {p3 : Int32} {st : uSt} {s9 : uSt} (h : fX4_rank sb p2 p3 st = some ((), s9)) : uMet l V yX4_rank cX4_rank 8 none 2 56 0 0 [.ref (vA V 5), .ref (vA V sb), .int p2, .int p3] st none s9 := by
  refine ux_met W0.1 W0.2.1 (by decide) rfl (Nat.le_of_ble_eq_true rfl) (fun M hL hr C => ?_)
  subst hL
  have C : uCx M V cX4_rank 8 RX4 2 56 0 0 := C
  unfold fX4_rank at h
  refine ux_aload_n C dX4_rank_0 0 rfl ?_
  refine ux_get C fl_X4_11 dX4_rank_1 (oSearch W0) rfl ?_
  refine ux_ldc2 C ckl_X4_52 dX4_rank_4 ?_
  obtain ⟨st_1, h1, h⟩ := obV_some h
  refine ux_callSv C cs_X4_54 dX4_rank_7 (kJ7_fill_d0a16 W0 kR_6 h1) rfl (Nat.le_of_ble_eq_true rfl) ⟨(Nat.le_of_ble_eq_true rfl), (Nat.le_of_ble_eq_true rfl)⟩ ⟨(Nat.le_of_ble_eq_true rfl), (Nat.le_of_ble_eq_true rfl)⟩ ?_ rfl
  refine ux_aload_n C dX4_rank_10 0 rfl ?_
  refine ux_get C fl_X4_15 dX4_rank_11 (oSearch W0) rfl ?_
  refine ux_ldc2 C ckl_X4_52 dX4_rank_14 ?_
  obtain ⟨st_2, h1, h⟩ := obV_some h
  refine ux_callSv C cs_X4_54 dX4_rank_17 (kJ7_fill_d0a16 W0 kR_7 h1) rfl (Nat.le_of_ble_eq_true rfl) ⟨(Nat.le_of_ble_eq_true rfl), (Nat.le_of_ble_eq_true rfl)⟩ ⟨(Nat.le_of_ble_eq_true rfl), (Nat.le_of_ble_eq_true rfl)⟩ ?_ rfl
  refine ux_aload_n C dX4_rank_20 0 rfl ?_
  refine ux_get C fl_X4_18 dX4_rank_21 (oSearch W0) rfl ?_
  refine ux_ldc2 C ckl_X4_52 dX4_rank_24 ?_
  obtain ⟨st_3, h1, h⟩ := obV_some h
  refine ux_callSv C cs_X4_54 dX4_rank_27 (kJ7_fill_d0a16 W0 kR_8 h1) rfl (Nat.le_of_ble_eq_true rfl) ⟨(Nat.le_of_ble_eq_true rfl), (Nat.le_of_ble_eq_true rfl)⟩ ⟨(Nat.le_of_ble_eq_true rfl), (Nat.le_of_ble_eq_true rfl)⟩ ?_ rfl
  refine ux_aload_n C dX4_rank_30 0 rfl ?_
  refine ux_get C fl_X4_11 dX4_rank_31 (oSearch W0) rfl ?_
  refine ux_iconst (v := 0) C dX4_rank_34 (by decide) ?_
  refine ux_ldc2 C ckl_X4_50 dX4_rank_35 ?_
  refine ux_lastK (j := 0) C (aRow W0 kR_6) dX4_rank_38 (by decide) (by decide) h (fun st_4 h => ?_)
  refine ux_iconst (v := (-1)) C dX4_rank_39 (by decide) ?_
  refine ux_istoreK C dX4_rank_40 rfl (by decide) ?_
  refine ux_iconst (v := 0) C dX4_rank_42 (by decide) ?_
  refine ux_istoreK C dX4_rank_43 rfl (by decide) ?_
  refine ux_iconst (v := 0) C dX4_rank_45 (by decide) ?_
  refine ux_istoreK C dX4_rank_46 rfl (by decide) ?_
  refine ux_sub [3, 4, 5, 6, 2, 1, 0] rfl ?_
  refine wX4_rank_48 W0 C hr hsb (fun st_23 l5_22 h => ?_) _ _ _ _ _ h
  refine ux_aload_n C dX4_rank_179 0 rfl ?_
  refine ux_iload C dX4_rank_180 1 rfl ?_
  obtain ⟨st_24, h1, h⟩ := obV_some h
  refine ux_callVv C cv_X4_70 dX4_rank_182 (oSearch W0) rfl (kX4_leaveDevice W0 h1) rfl (Nat.le_of_ble_eq_true rfl) ⟨(Nat.le_of_ble_eq_true rfl), (Nat.le_of_ble_eq_true rfl)⟩ ⟨(Nat.le_of_ble_eq_true rfl), (Nat.le_of_ble_eq_true rfl)⟩ ?_ rfl
  exact ux_vret C hr dX4_rank_185 h (Nat.le_of_ble_eq_true rfl) (Nat.le_of_ble_eq_true rfl)
set_option maxRecDepth 100000 in
set_option maxHeartbeats 4000000 in
theorem wX4_best_50 {M : uM} {V : uV} (W0 : uWC (mL M) V) (C : uCx M V cX4_best 8 RX4 3 83 0 0) (hr : (mT M).sig.returnType = (some .int)) {sb : Nat} (hsb : kState sb) {l4 : Int32} {st : uSt} {r : Int32} {s9 : uSt} {ke : Int64 → Option (Int32 × uSt)} (K : ∀ (l5 : Int64), ke l5 = some (r, s9) → uW M V (uEnd M V 0 0 (some (.int r)) s9) 8 0 0 91 [(5, .long l5)] [] st) : ∀ (n : Nat) (l5 : Int64) (l7 : Int32), fX4_best_50 sb l4 st ke n l5 l7 = some (r, s9) → uW M V (uEnd M V 0 0 (some (.int r)) s9) 8 0 0 50 [(0, .ref (vA V 5)), (4, .int l4), (5, .long l5), (7, .int l7)] [] st := by
  intro n
  induction n with
  | zero =>
    intro l5 l7 h
    rw [fX4_best_50] at h
    cases h
  | succ n ih =>
    intro l5 l7 h
    rw [fX4_best_50] at h
    refine ux_iload C dX4_best_50 3 rfl ?_
    refine ux_iload C dX4_best_52 1 rfl ?_
    refine ux_icmp_gt C dX4_best_54 h (fun h => ?_) (fun h => ?_)
    · refine ux_sub [2] rfl ?_
      exact K l5 h
    · refine ux_aload_n C dX4_best_57 0 rfl ?_
      refine ux_get C fl_X4_11 dX4_best_58 (oSearch W0) rfl ?_
      refine ux_iload C dX4_best_61 3 rfl ?_
      refine ux_lald C (aRow W0 kR_6) dX4_best_63 h (fun h => ?_)
      refine ux_bipush (v := 24) C dX4_best_64 (by decide) ?_
      refine ux_lshr C dX4_best_66 ?_
      refine ux_lload C dX4_best_67 2 rfl ?_
      refine ux_bipush (v := 24) C dX4_best_69 (by decide) ?_
      refine ux_lshr C dX4_best_71 ?_
      refine ux_lcmp C dX4_best_72 ?_
      refine ux_if_le C dX4_best_73 h (fun h => ?_) (fun h => ?_)
      · refine ux_iincK C dX4_best_85 (by decide) 3 rfl (fun z => [(7, .int z), (0, .ref (vA V 5)), (4, .int l4), (5, .long l5)]) (fun _ => rfl) (by decide) h (fun l7_6 h => ?_)
        refine ux_goto C dX4_best_88 ?_
        refine ux_sub [1, 2, 3, 0] rfl ?_
        exact ih _ _ h
      · refine ux_aload_n C dX4_best_76 0 rfl ?_
        refine ux_get C fl_X4_11 dX4_best_77 (oSearch W0) rfl ?_
        refine ux_iload C dX4_best_80 3 rfl ?_
        refine ux_lald C (aRow W0 kR_6) dX4_best_82 h (fun h => ?_)
        refine ux_lstore C dX4_best_83 (fun z => [(5, .long z), (0, .ref (vA V 5)), (4, .int l4), (7, .int l7)]) (fun _ => rfl) (by decide) h (fun l5_7 h => ?_)
        refine ux_iincK C dX4_best_85 (by decide) 3 rfl (fun z => [(7, .int z), (5, .long l5_7), (0, .ref (vA V 5)), (4, .int l4)]) (fun _ => rfl) (by decide) h (fun l7_8 h => ?_)
        refine ux_goto C dX4_best_88 ?_
        refine ux_sub [2, 3, 1, 0] rfl ?_
        exact ih _ _ h
set_option maxRecDepth 100000 in
set_option maxHeartbeats 4000000 in
theorem kX4_best {l : Launch} {V : uV} (W0 : uWC l V) {sb : Nat} (hsb : kState sb) {p2 : Int32} {p3 : Int32} {st : uSt} {r : Int32} {s9 : uSt} (h : fX4_best sb p2 p3 st = some (r, s9)) : uMet l V yX4_best cX4_best 8 (some .int) 3 83 0 0 [.ref (vA V 5), .ref (vA V sb), .int p2, .int p3] st (some (.int r)) s9 := by
  refine ux_met W0.1 W0.2.1 (by decide) rfl (Nat.le_of_ble_eq_true rfl) (fun M hL hr C => ?_)
  subst hL
  have C : uCx M V cX4_best 8 RX4 3 83 0 0 := C
  unfold fX4_best at h
  refine ux_aload_n C dX4_best_0 1 rfl ?_
  refine ux_get C fl_X4_21 dX4_best_1 (oState W0 hsb) rfl ?_
  refine ux_aload_n C dX4_best_4 1 rfl ?_
  refine ux_get C fl_X4_27 dX4_best_5 (oState W0 hsb) rfl ?_
  refine ux_iload_n C dX4_best_8 2 rfl ?_
  obtain ⟨x_1, h1, h⟩ := ob_some h
  refine ux_callVi C cv_X4_31 dX4_best_9 (oDev W0 (kS_dev hsb)) rfl (kX2_energyIn W0 (kS_dev hsb) (kS_cache hsb) h1) rfl (Nat.le_of_ble_eq_true rfl) ⟨(Nat.le_of_ble_eq_true rfl), (Nat.le_of_ble_eq_true rfl)⟩ ⟨(Nat.le_of_ble_eq_true rfl), (Nat.le_of_ble_eq_true rfl)⟩ ?_ rfl
  refine ux_iload_n C dX4_best_12 3 rfl ?_
  refine ux_icmp_gt C dX4_best_13 h (fun h => ?_) (fun h => ?_)
  · refine ux_iconst (v := 0) C dX4_best_18 (by decide) ?_
    refine ux_iload_n C dX4_best_19 3 rfl ?_
    refine ux_sipush (v := 500) C dX4_best_20 (by decide) ?_
    refine ux_mmin C mm_X4_37 dX4_best_23 (Nat.le_of_ble_eq_true rfl) ⟨(Nat.le_of_ble_eq_true rfl), (Nat.le_of_ble_eq_true rfl)⟩ ⟨(Nat.le_of_ble_eq_true rfl), (Nat.le_of_ble_eq_true rfl)⟩ ?_
    refine ux_mmax C mm_X4_43 dX4_best_26 (Nat.le_of_ble_eq_true rfl) ⟨(Nat.le_of_ble_eq_true rfl), (Nat.le_of_ble_eq_true rfl)⟩ ⟨(Nat.le_of_ble_eq_true rfl), (Nat.le_of_ble_eq_true rfl)⟩ ?_
    refine ux_istore C dX4_best_29 (fun z => [(4, .int z), (0, .ref (vA V 5)), (1, .ref (vA V sb)), (2, .int p2), (3, .int p3)]) (fun _ => rfl) (by decide) h (fun l4_2 h => ?_)
    refine ux_aload_n C dX4_best_31 1 rfl ?_
    refine ux_aload_n C dX4_best_32 2 rfl ?_
    refine ux_iload_n C dX4_best_33 3 rfl ?_
    refine ux_iload C dX4_best_34 0 rfl ?_
    obtain ⟨st_3, h1, h⟩ := obV_some h
    refine ux_callVv C cv_X4_46 dX4_best_36 (oSearch W0) rfl (kX4_rank W0 hsb h1) rfl (Nat.le_of_ble_eq_true rfl) ⟨(Nat.le_of_ble_eq_true rfl), (Nat.le_of_ble_eq_true rfl)⟩ ⟨(Nat.le_of_ble_eq_true rfl), (Nat.le_of_ble_eq_true rfl)⟩ ?_ rfl
    refine ux_aload_n C dX4_best_39 1 rfl ?_
    refine ux_get C fl_X4_11 dX4_best_40 (oSearch W0) rfl ?_
    refine ux_iconst (v := 0) C dX4_best_43 (by decide) ?_
    refine ux_laldK (j := 0) C (aRow W0 kR_6) dX4_best_44 (by decide) (by decide) ?_
    refine ux_lstore C dX4_best_45 (fun z => [(5, .long z), (4, .int l4_2), (0, .ref (vA V 5)), (1, .ref (vA V sb)), (2, .int p2), (3, .int p3)]) (fun _ => rfl) (by decide) h (fun l5_4 h => ?_)
    refine ux_iconst (v := 1) C dX4_best_47 (by decide) ?_
    refine ux_istoreK C dX4_best_48 rfl (by decide) ?_
    refine ux_sub [3, 2, 1, 0] rfl ?_
    refine wX4_best_50 W0 C hr hsb (fun l5_9 h => ?_) _ _ _ h
    refine ux_ldc2 C ckl_X4_50 dX4_best_91 ?_
    refine ux_lload C dX4_best_94 0 rfl ?_
    refine ux_ldc2 C ckl_X4_50 dX4_best_96 ?_
    refine ux_land C dX4_best_99 ?_
    refine ux_lsub C dX4_best_100 ?_
    refine ux_l2i C dX4_best_101 ?_
    exact ux_iretS C hr dX4_best_102 h (Nat.le_of_ble_eq_true rfl) (Nat.le_of_ble_eq_true rfl)
  · refine ux_iload_n C dX4_best_16 2 rfl ?_
    exact ux_iretS C hr dX4_best_17 h (Nat.le_of_ble_eq_true rfl) (Nat.le_of_ble_eq_true rfl)
set_option maxRecDepth 100000 in
set_option maxHeartbeats 4000000 in
theorem wX4_leastEnergy_12 {M : uM} {V : uV} (W0 : uWC (mL M) V) (C : uCx M V cX4_leastEnergy 5 RX4 3 83 0 0) (hr : (mT M).sig.returnType = (some .int)) {sb : Nat} (hsb : kState sb) {l3 : Int32} {st : uSt} {r : Int32} {s9 : uSt} {ke : Option (Int32 × uSt)} (K : ke = some (r, s9) → uW M V (uEnd M V 0 0 (some (.int r)) s9) 5 0 0 57 [] [] st) : ∀ (n : Nat) (l4 : Int32), fX4_leastEnergy_12 sb l3 st ke n l4 = some (r, s9) → uW M V (uEnd M V 0 0 (some (.int r)) s9) 5 0 0 12 [(0, .ref (vA V 5)), (3, .int l3), (4, .int l4)] [] st := by
  intro n
  induction n with
  | zero =>
    intro l4 h
    rw [fX4_leastEnergy_12] at h
    cases h
  | succ n ih =>
    intro l4 h
    rw [fX4_leastEnergy_12] at h
    refine ux_iload C dX4_leastEnergy_12 2 rfl ?_
    refine ux_sipush (v := 500) C dX4_leastEnergy_14 (by decide) ?_
    refine ux_icmp_gt C dX4_leastEnergy_17 h (fun h => ?_) (fun h => ?_)
    · refine ux_sub [] rfl ?_
      exact K  h
    · refine ux_aload_n C dX4_leastEnergy_20 0 rfl ?_
      refine ux_get C fl_X4_11 dX4_leastEnergy_21 (oSearch W0) rfl ?_
      refine ux_iload C dX4_leastEnergy_24 2 rfl ?_
      refine ux_lald C (aRow W0 kR_6) dX4_leastEnergy_26 h (fun h => ?_)
      refine ux_lconst (v := 0) C dX4_leastEnergy_27 (by decide) ?_
      refine ux_lcmp C dX4_leastEnergy_28 ?_
      refine ux_if_lt C dX4_leastEnergy_29 h (fun h => ?_) (fun h => ?_)
      · refine ux_iincK C dX4_leastEnergy_51 (by decide) 2 rfl (fun z => [(4, .int z), (0, .ref (vA V 5)), (3, .int l3)]) (fun _ => rfl) (by decide) h (fun l4_3 h => ?_)
        refine ux_goto C dX4_leastEnergy_54 ?_
        refine ux_sub [1, 2, 0] rfl ?_
        exact ih _ h
      · refine ux_aload_n C dX4_leastEnergy_32 0 rfl ?_
        refine ux_get C fl_X4_11 dX4_leastEnergy_33 (oSearch W0) rfl ?_
        refine ux_iload C dX4_leastEnergy_36 2 rfl ?_
        refine ux_lald C (aRow W0 kR_6) dX4_leastEnergy_38 h (fun h => ?_)
        refine ux_bipush (v := 24) C dX4_leastEnergy_39 (by decide) ?_
        refine ux_lshr C dX4_leastEnergy_41 ?_
        refine ux_iload_n C dX4_leastEnergy_42 1 rfl ?_
        refine ux_i2l C dX4_leastEnergy_43 ?_
        refine ux_lcmp C dX4_leastEnergy_44 ?_
        refine ux_if_lt C dX4_leastEnergy_45 h (fun h => ?_) (fun h => ?_)
        · refine ux_iincK C dX4_leastEnergy_51 (by decide) 2 rfl (fun z => [(4, .int z), (0, .ref (vA V 5)), (3, .int l3)]) (fun _ => rfl) (by decide) h (fun l4_4 h => ?_)
          refine ux_goto C dX4_leastEnergy_54 ?_
          refine ux_sub [1, 2, 0] rfl ?_
          exact ih _ h
        · refine ux_iload C dX4_leastEnergy_48 2 rfl ?_
          exact ux_iretS C hr dX4_leastEnergy_50 h (Nat.le_of_ble_eq_true rfl) (Nat.le_of_ble_eq_true rfl)
set_option maxRecDepth 100000 in
set_option maxHeartbeats 4000000 in
theorem kX4_leastEnergy {l : Launch} {V : uV} (W0 : uWC l V) {sb : Nat} (hsb : kState sb) {p2 : Int32} {p3 : Int32} {st : uSt} {r : Int32} {s9 : uSt} (h : fX4_leastEnergy sb p2 p3 st = some (r, s9)) : uMet l V yX4_leastEnergy cX4_leastEnergy 5 (some .int) 3 83 0 0 [.ref (vA V 5), .ref (vA V sb), .int p2, .int p3] st (some (.int r)) s9 := by
  refine ux_met W0.1 W0.2.1 (by decide) rfl (Nat.le_of_ble_eq_true rfl) (fun M hL hr C => ?_)
  subst hL
  have C : uCx M V cX4_leastEnergy 5 RX4 3 83 0 0 := C
  unfold fX4_leastEnergy at h
  refine ux_aload_n C dX4_leastEnergy_0 0 rfl ?_
  refine ux_aload_n C dX4_leastEnergy_1 1 rfl ?_
  refine ux_iload_n C dX4_leastEnergy_2 2 rfl ?_
  refine ux_sipush (v := 500) C dX4_leastEnergy_3 (by decide) ?_
  obtain ⟨st_1, h1, h⟩ := obV_some h
  refine ux_callVv C cv_X4_46 dX4_leastEnergy_6 (oSearch W0) rfl (kX4_rank W0 hsb h1) rfl (Nat.le_of_ble_eq_true rfl) ⟨(Nat.le_of_ble_eq_true rfl), (Nat.le_of_ble_eq_true rfl)⟩ ⟨(Nat.le_of_ble_eq_true rfl), (Nat.le_of_ble_eq_true rfl)⟩ ?_ rfl
  refine ux_iconst (v := 0) C dX4_leastEnergy_9 (by decide) ?_
  refine ux_istoreK C dX4_leastEnergy_10 rfl (by decide) ?_
  refine ux_sub [1, 4, 0] rfl ?_
  refine wX4_leastEnergy_12 W0 C hr hsb (fun h => ?_) _ _ h
  refine ux_iconst (v := (-1)) C dX4_leastEnergy_57 (by decide) ?_
  exact ux_iretS C hr dX4_leastEnergy_58 h (Nat.le_of_ble_eq_true rfl) (Nat.le_of_ble_eq_true rfl)
