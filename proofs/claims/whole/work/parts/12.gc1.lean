def fX0_wornTimes (b : Nat)  (st : uSt) : Option Int32 :=
  (if (st.1 b 4) ≤ 0 then some (0 : Int32) else og (nzB (st.1 b 4)) (some ((st.1 b 5) / (st.1 b 4))))
def fX0_spend (b : Nat) (p1 : Int32) (st : uSt) : Option (Unit × uSt) :=
  ob (fX0_wornTimes b st) (fun x_1 => ol (sI st b 1 ((st.1 b 1) - p1)) (fun st_3 => ol (sI st_3 b 5 ((st_3.1 b 5) + p1)) (fun st_4 => ob (fX0_wornTimes b st_4) (fun x_5 => ol (sI st_4 b 0 ((if (1 : Int32) < ((st_4.1 b 0) - (x_5 - x_1)) then ((st_4.1 b 0) - (x_5 - x_1)) else (1 : Int32)))) (fun st_6 => ol (sI st_6 b 1 ((if (st_6.1 b 0) < (st_6.1 b 1) then (st_6.1 b 0) else (st_6.1 b 1)))) (fun st_7 => some ((), st_7)))))))
def fX0_drainForMinute (b : Nat)  (st : uSt) : Option (Unit × uSt) :=
  obV (fX0_spend b ((if (st.1 b 1) < (st.1 b 3) then (st.1 b 1) else (st.1 b 3))) st) (fun st_1 => some ((), st_1))
def fX0_chargeForMinute (b : Nat)  (st : uSt) : Option (Unit × uSt) :=
  ol (sI st b 1 ((if (st.1 b 0) < ((st.1 b 1) + (st.1 b 2)) then (st.1 b 0) else ((st.1 b 1) + (st.1 b 2))))) (fun st_1 => some ((), st_1))
def fX0_copyFrom (b : Nat) (b2 : Nat)  (st : uSt) : Option (Unit × uSt) :=
  ol (sI st b 0 (st.1 b2 0)) (fun st_1 => ol (sI st_1 b 1 (st_1.1 b2 1)) (fun st_2 => ol (sI st_2 b 2 (st_2.1 b2 2)) (fun st_3 => ol (sI st_3 b 3 (st_3.1 b2 3)) (fun st_4 => ol (sI st_4 b 4 (st_4.1 b2 4)) (fun st_5 => ol (sI st_5 b 5 (st_5.1 b2 5)) (fun st_6 => some ((), st_6)))))))
def fX1_copyBlock (c : Nat) (c2 : Nat) (p2 : Int32) (p3 : Int32) (st : uSt) : Option (Unit × uSt) :=
  og (inB p2 24) (og (inB p3 24) (ol (sI st (c + 1) p3.toNatClampNeg (st.1 (c2 + 1) p2.toNatClampNeg)) (fun st_1 => og (inB p2 24) (og (inB p3 24) (ol (sI st_1 (c + 2) p3.toNatClampNeg (st_1.1 (c2 + 2) p2.toNatClampNeg)) (fun st_2 => og (inB p2 24) (og (inB p3 24) (ol (sI st_2 (c + 3) p3.toNatClampNeg (st_2.1 (c2 + 3) p2.toNatClampNeg)) (fun st_3 => og (inB p2 24) (og (inB p3 24) (ol (sI st_3 (c + 4) p3.toNatClampNeg (st_3.1 (c2 + 4) p2.toNatClampNeg)) (fun st_4 => some ((), st_4)))))))))))))
def fX1_copyFrom_10 (c : Nat) (c2 : Nat)  (ke : uSt → Option (Unit × uSt)) : Nat → uSt → Int32 → Option (Unit × uSt)
  | 0, _, _ => none
  | n + 1, st, l2 =>
    (if (st.1 c 0) ≤ l2 then (ke st) else obV (fX1_copyBlock c c2 l2 l2 st) (fun st_3 => ol (l2 + 1) (fun l2_4 => fX1_copyFrom_10 c c2 ke n st_3 l2_4)))
def fX1_copyFrom (c : Nat) (c2 : Nat)  (st : uSt) : Option (Unit × uSt) :=
  ol (sI st c 0 (st.1 c2 0)) (fun st_1 => fX1_copyFrom_10 c c2 (fun st_5 => some ((), st_5)) FU st_1 (0 : Int32))
def fX1_allBlocks (c : Nat)  (st : uSt) : Option Int32 :=
  some (((1 : Int32) <<< ((st.1 c 0) &&& 31)) - (1 : Int32))
def fX1_blocksOn_4 (c : Nat) (l1 : Int32) (st : uSt) (ke : Int32 → Option Int32) : Nat → Int32 → Int32 → Option Int32
  | 0, _, _ => none
  | n + 1, l2, l3 =>
    (if (st.1 c 0) ≤ l3 then (ke l2) else og (inB l3 24) ((if (st.1 (c + 1) l3.toNatClampNeg) = l1 then ol (l2 ||| ((1 : Int32) <<< (l3 &&& 31))) (fun l2_3 => ol (l3 + 1) (fun l3_4 => fX1_blocksOn_4 c l1 st ke n l2_3 l3_4)) else ol (l3 + 1) (fun l3_5 => fX1_blocksOn_4 c l1 st ke n l2 l3_5))))
def fX1_blocksOn (c : Nat) (p1 : Int32) (st : uSt) : Option Int32 :=
  fX1_blocksOn_4 c p1 st (fun l2_6 => some l2_6) FU (0 : Int32) (0 : Int32)
def fX1_valueIn_4 (c : Nat) (l1 : Int32) (st : uSt) (ke : Int32 → Option Int32) : Nat → Int32 → Int32 → Option Int32
  | 0, _, _ => none
  | n + 1, l2, l3 =>
    (if (st.1 c 0) ≤ l3 then (ke l2) else (if ((l1 >>> (l3 &&& 31)) &&& (1 : Int32)) = 0 then ol (l3 + 1) (fun l3_3 => fX1_valueIn_4 c l1 st ke n l2 l3_3) else og (inB l3 24) (ol (l2 + (st.1 (c + 3) l3.toNatClampNeg)) (fun l2_4 => ol (l3 + 1) (fun l3_5 => fX1_valueIn_4 c l1 st ke n l2_4 l3_5)))))
def fX1_valueIn (c : Nat) (p1 : Int32) (st : uSt) : Option Int32 :=
  fX1_valueIn_4 c p1 st (fun l2_6 => some l2_6) FU (0 : Int32) (0 : Int32)
def fX1_isFollowedBy (c : Nat) (p1 : Int32) (p2 : Int32) (st : uSt) : Option Int32 :=
  og (inB p1 24) (og (inB p2 24) ((if (st.1 (c + 1) p1.toNatClampNeg) = (st.1 (c + 1) p2.toNatClampNeg) then og (inB p1 24) (og (inB p2 24) ((if ((st.1 (c + 2) p1.toNatClampNeg) + (1 : Int32)) = (st.1 (c + 2) p2.toNatClampNeg) then some (1 : Int32) else some (0 : Int32)))) else some (0 : Int32))))
def fX1_mostValuable_7 (c : Nat) (l1 : Int32) (st : uSt) (ke : Int32 → Option Int32) : Nat → Int32 → Int32 → Int32 → Option Int32
  | 0, _, _, _ => none
  | n + 1, l2, l3, l4 =>
    (if (st.1 c 0) ≤ l4 then (ke l2) else (if ((l1 >>> (l4 &&& 31)) &&& (1 : Int32)) = 0 then ol (l4 + 1) (fun l4_4 => fX1_mostValuable_7 c l1 st ke n l2 l3 l4_4) else og (inB l4 24) ((if (st.1 (c + 3) l4.toNatClampNeg) ≤ l3 then ol (l4 + 1) (fun l4_5 => fX1_mostValuable_7 c l1 st ke n l2 l3 l4_5) else og (inB l4 24) (ol (st.1 (c + 3) l4.toNatClampNeg) (fun l3_7 => ol (l4 + 1) (fun l4_8 => fX1_mostValuable_7 c l1 st ke n l4 l3_7 l4_8)))))))
def fX1_mostValuable (c : Nat) (p1 : Int32) (st : uSt) : Option Int32 :=
  fX1_mostValuable_7 c p1 st (fun l2_9 => some l2_9) FU (0 : Int32) (0 : Int32) (0 : Int32)
def fX1_indexOf_2 (c : Nat) (l1 : Int32) (l2 : Int32) (st : uSt) (ke : Option Int32) : Nat → Int32 → Option Int32
  | 0, _ => none
  | n + 1, l3 =>
    (if (st.1 c 0) ≤ l3 then ke else og (inB l3 24) ((if (st.1 (c + 1) l3.toNatClampNeg) = l1 then og (inB l3 24) ((if (st.1 (c + 2) l3.toNatClampNeg) = l2 then some l3 else ol (l3 + 1) (fun l3_2 => fX1_indexOf_2 c l1 l2 st ke n l3_2))) else ol (l3 + 1) (fun l3_3 => fX1_indexOf_2 c l1 l2 st ke n l3_3))))
def fX1_indexOf (c : Nat) (p1 : Int32) (p2 : Int32) (st : uSt) : Option Int32 :=
  fX1_indexOf_2 c p1 p2 st (some (-1 : Int32)) FU (0 : Int32)
def fX1_isBehind (c : Nat) (p1 : Int32) (p2 : Int32) (p3 : Int32) (st : uSt) : Option Int32 :=
  og (inB p1 24) ((if p2 < (st.1 (c + 1) p1.toNatClampNeg) then some (1 : Int32) else og (inB p1 24) ((if (st.1 (c + 1) p1.toNatClampNeg) = p2 then og (inB p1 24) ((if (st.1 (c + 2) p1.toNatClampNeg) ≤ p3 then some (0 : Int32) else some (1 : Int32))) else some (0 : Int32)))))
def fX1_put_39 (c : Nat) (l1 : Int32) (l2 : Int32) (l3 : Int32) (l4 : Int32) (ke : uSt → Int32 → Option (Unit × uSt)) : Nat → uSt → Int32 → Option (Unit × uSt)
  | 0, _, _ => none
  | n + 1, st, l6 =>
    (if l6 ≤ 0 then (ke st l6) else ob (fX1_isBehind c (l6 - (1 : Int32)) l1 l2 st) (fun x_4 => (if x_4 = 0 then (ke st l6) else obV (fX1_copyBlock c c (l6 - (1 : Int32)) l6 st) (fun st_5 => ol (l6 + (-1)) (fun l6_6 => fX1_put_39 c l1 l2 l3 l4 ke n st_5 l6_6)))))
def fX1_put (c : Nat) (p1 : Int32) (p2 : Int32) (p3 : Int32) (p4 : Int32) (st : uSt) : Option (Unit × uSt) :=
  ob (fX1_indexOf c p1 p2 st) (fun x_1 => (if x_1 = (-1 : Int32) then (if (st.1 c 0) < (24 : Int32) then ol (st.1 c 0) (fun l6_3 => fX1_put_39 c p1 p2 p3 p4 (fun st_8 l6_7 => og (inB l6_7 24) (ol (sI st_8 (c + 1) l6_7.toNatClampNeg p1) (fun st_9 => og (inB l6_7 24) (ol (sI st_9 (c + 2) l6_7.toNatClampNeg p2) (fun st_10 => og (inB l6_7 24) (ol (sI st_10 (c + 3) l6_7.toNatClampNeg p3) (fun st_11 => og (inB l6_7 24) (ol (sI st_11 (c + 4) l6_7.toNatClampNeg p4) (fun st_12 => ol (sI st_12 c 0 ((st_12.1 c 0) + (1 : Int32))) (fun st_13 => some ((), st_13))))))))))) FU st l6_3) else some ((), st)) else og (inB x_1 24) (ol (sI st (c + 3) x_1.toNatClampNeg p3) (fun st_14 => some ((), st_14)))))
def fX1_removeSet_4 (c : Nat) (l1 : Int32) (ke : uSt → Int32 → Option (Unit × uSt)) : Nat → uSt → Int32 → Int32 → Option (Unit × uSt)
  | 0, _, _, _ => none
  | n + 1, st, l2, l3 =>
    (if (st.1 c 0) ≤ l3 then (ke st l2) else (if ((l1 >>> (l3 &&& 31)) &&& (1 : Int32)) = 0 then obV (fX1_copyBlock c c l3 l2 st) (fun st_3 => ol (l2 + 1) (fun l2_4 => ol (l3 + 1) (fun l3_5 => fX1_removeSet_4 c l1 ke n st_3 l2_4 l3_5))) else ol (l3 + 1) (fun l3_6 => fX1_removeSet_4 c l1 ke n st l2 l3_6)))
def fX1_removeSet (c : Nat) (p1 : Int32) (st : uSt) : Option (Unit × uSt) :=
  fX1_removeSet_4 c p1 (fun st_8 l2_7 => ol (sI st_8 c 0 l2_7) (fun st_9 => some ((), st_9))) FU st (0 : Int32) (0 : Int32)
def fX1_drop (c : Nat) (p1 : Int32) (p2 : Int32) (st : uSt) : Option (Unit × uSt) :=
  ob (fX1_indexOf c p1 p2 st) (fun x_1 => (if x_1 = (-1 : Int32) then some ((), st) else obV (fX1_removeSet c ((1 : Int32) <<< (x_1 &&& 31)) st) (fun st_3 => some ((), st_3))))
def fX2_copyFrom_10 (d : Nat) (d2 : Nat)  (ke : uSt → Option (Unit × uSt)) : Nat → uSt → Int32 → Option (Unit × uSt)
  | 0, _, _ => none
  | n + 1, st, l2 =>
    (if (5 : Int32) ≤ l2 then (ke st) else og (inB l2 5) (og (inB l2 5) (ol (sI st (d + 1) l2.toNatClampNeg (st.1 (d2 + 1) l2.toNatClampNeg)) (fun st_3 => og (inB l2 5) (og (inB l2 5) (ol (sI st_3 (d + 2) l2.toNatClampNeg (st_3.1 (d2 + 2) l2.toNatClampNeg)) (fun st_4 => og (inB l2 5) (og (inB l2 5) (ol (sI st_4 (d + 3) l2.toNatClampNeg (st_4.1 (d2 + 3) l2.toNatClampNeg)) (fun st_5 => og (inB l2 5) (og (inB l2 5) (ol (sI st_5 (d + 4) l2.toNatClampNeg (vp_nar .boolean (st_5.1 (d2 + 4) l2.toNatClampNeg))) (fun st_6 => ol (l2 + 1) (fun l2_7 => fX2_copyFrom_10 d d2 ke n st_6 l2_7))))))))))))))
def fX2_copyFrom (d : Nat) (d2 : Nat)  (st : uSt) : Option (Unit × uSt) :=
  ol (sI st d 0 (st.1 d2 0)) (fun st_1 => fX2_copyFrom_10 d d2 (fun st_8 => some ((), st_8)) FU st_1 (0 : Int32))
def fX2_energyIn_8 (d : Nat) (c : Nat) (l2 : Int32) (st : uSt) (ke : Int32 → Option Int32) : Nat → Int32 → Int32 → Int32 → Option Int32
  | 0, _, _, _ => none
  | n + 1, l3, l4, l5 =>
    (if (st.1 c 0) ≤ l5 then (ke l3) else (if ((l2 >>> (l5 &&& 31)) &&& (1 : Int32)) = 0 then ol (l5 + 1) (fun l5_4 => fX2_energyIn_8 d c l2 st ke n l3 l4 l5_4) else og (inB l5 24) (ol (st.1 (c + 1) l5.toNatClampNeg) (fun l6_5 => oj1 (fun (l3_7 : Int32) => og (inB l6_5 5) (ol (l3_7 + (st.1 (d + 3) l6_5.toNatClampNeg)) (fun l3_8 => ol (l5 + 1) (fun l5_10 => fX2_energyIn_8 d c l2 st ke n l3_8 l5 l5_10)))) (fun j_6 => oj0 (og (inB l6_5 5) (og (inB l6_5 5) (ol (l3 + ((st.1 (d + 1) l6_5.toNatClampNeg) + (st.1 (d + 2) l6_5.toNatClampNeg))) (fun l3_12 => (j_6 l3_12))))) (fun j_11 => (if l4 = (-1 : Int32) then j_11 else og (inB l4 24) ((if (st.1 (c + 1) l4.toNatClampNeg) = l6_5 then ob (fX1_isFollowedBy c l4 l5 st) (fun x_13 => (if x_13 = 0 then og (inB l6_5 5) (ol (l3 + (st.1 (d + 2) l6_5.toNatClampNeg)) (fun l3_14 => (j_6 l3_14))) else (j_6 l3))) else j_11)))))))))
def fX2_energyIn (d : Nat) (c : Nat) (p2 : Int32) (st : uSt) : Option Int32 :=
  fX2_energyIn_8 d c p2 st (fun l3_15 => some l3_15) FU (0 : Int32) (-1 : Int32) (0 : Int32)
def fX3_copyFrom (q : Nat) (q2 : Nat)  (st : uSt) : Option (Unit × uSt) :=
  ol (sI st q 0 (st.1 q2 0)) (fun st_1 => ol (sI st_1 q 1 (st_1.1 q2 1)) (fun st_2 => ol (sI st_2 q 2 (st_2.1 q2 2)) (fun st_3 => ol (sI st_3 q 3 (st_3.1 q2 3)) (fun st_4 => some ((), st_4)))))
def fX3_setDefaults (q : Nat)  (st : uSt) : Option (Unit × uSt) :=
  ol (sI st q 0 (0 : Int32)) (fun st_1 => ol (sI st_1 q 1 (24 : Int32)) (fun st_2 => ol (sI st_2 q 2 (0 : Int32)) (fun st_3 => ol (sI st_3 q 3 (0 : Int32)) (fun st_4 => some ((), st_4)))))
def fJ6_bitCount_0f7a4  (p0 : Int32) : Option Int32 :=
  ol (p0 - (((p0.toUInt32 >>> ((1 : Int32).toUInt32 &&& Int32.toUInt32 31)).toInt32) &&& (1431655765 : Int32))) (fun l0_1 => ol ((l0_1 &&& (858993459 : Int32)) + (((l0_1.toUInt32 >>> ((2 : Int32).toUInt32 &&& Int32.toUInt32 31)).toInt32) &&& (858993459 : Int32))) (fun l0_2 => ol ((l0_2 + ((l0_2.toUInt32 >>> ((4 : Int32).toUInt32 &&& Int32.toUInt32 31)).toInt32)) &&& (252645135 : Int32)) (fun l0_3 => ol (l0_3 + ((l0_3.toUInt32 >>> ((8 : Int32).toUInt32 &&& Int32.toUInt32 31)).toInt32)) (fun l0_4 => ol (l0_4 + ((l0_4.toUInt32 >>> ((16 : Int32).toUInt32 &&& Int32.toUInt32 31)).toInt32)) (fun l0_5 => some (l0_5 &&& (63 : Int32)))))))
set_option maxRecDepth 100000 in
set_option maxHeartbeats 4000000 in
theorem kX0_wornTimes {l : Launch} {V : uV} (W0 : uWC l V) {b : Nat} (hb : kBat b) {st : uSt} {r : Int32} (h : fX0_wornTimes b st = some r) : uMet l V yX0_wornTimes cX0_wornTimes 1 (some .int) 0 0 0 0 [.ref (vA V b)] st (some (.int r)) st := by
  refine ux_met W0.1 W0.2.1 (by decide) rfl (Nat.le_of_ble_eq_true rfl) (fun M hL hr C => ?_)
  subst hL
  have C : uCx M V cX0_wornTimes 1 RX0 0 0 0 0 := C
  unfold fX0_wornTimes at h
  refine ux_aload_n C dX0_wornTimes_0 0 rfl ?_
  refine ux_get C fl_X0_22 dX0_wornTimes_1 (oBat W0 hb) rfl ?_
  refine ux_if_le C dX0_wornTimes_4 h (fun h => ?_) (fun h => ?_)
  · refine ux_iconst (v := 0) C dX0_wornTimes_19 (by decide) ?_
    exact ux_iret C hr dX0_wornTimes_20 h (Nat.le_of_ble_eq_true rfl) (Nat.le_of_ble_eq_true rfl)
  · refine ux_aload_n C dX0_wornTimes_7 0 rfl ?_
    refine ux_get C fl_X0_25 dX0_wornTimes_8 (oBat W0 hb) rfl ?_
    refine ux_aload_n C dX0_wornTimes_11 0 rfl ?_
    refine ux_get C fl_X0_22 dX0_wornTimes_12 (oBat W0 hb) rfl ?_
    refine ux_idiv C dX0_wornTimes_15 h (fun h => ?_)
    refine ux_goto C dX0_wornTimes_16 ?_
    exact ux_iret C hr dX0_wornTimes_20 h (Nat.le_of_ble_eq_true rfl) (Nat.le_of_ble_eq_true rfl)
set_option maxRecDepth 100000 in
set_option maxHeartbeats 4000000 in
theorem kX0_spend {l : Launch} {V : uV} (W0 : uWC l V) {b : Nat} (hb : kBat b) {p1 : Int32} {st : uSt} {s9 : uSt} (h : fX0_spend b p1 st = some ((), s9)) : uMet l V yX0_spend cX0_spend 3 none 1 23 0 0 [.ref (vA V b), .int p1] st none s9 := by
  refine ux_met W0.1 W0.2.1 (by decide) rfl (Nat.le_of_ble_eq_true rfl) (fun M hL hr C => ?_)
  subst hL
  have C : uCx M V cX0_spend 3 RX0 1 23 0 0 := C
  unfold fX0_spend at h
  refine ux_aload_n C dX0_spend_0 0 rfl ?_
  obtain ⟨x_1, h1, h⟩ := ob_some h
  refine ux_callVi C cv_X0_38 dX0_spend_1 (oBat W0 hb) rfl (kX0_wornTimes W0 hb h1) rfl (Nat.le_of_ble_eq_true rfl) ⟨(Nat.le_of_ble_eq_true rfl), (Nat.le_of_ble_eq_true rfl)⟩ ⟨(Nat.le_of_ble_eq_true rfl), (Nat.le_of_ble_eq_true rfl)⟩ ?_ rfl
  refine ux_istoreK_n C dX0_spend_4 rfl (by decide) ?_
  refine ux_aload_n C dX0_spend_5 1 rfl ?_
  refine ux_dup C dX0_spend_6 rfl ?_
  refine ux_get C fl_X0_13 dX0_spend_7 (oBat W0 hb) rfl ?_
  refine ux_iload_n C dX0_spend_10 2 rfl ?_
  refine ux_isub C dX0_spend_11 ?_
  refine ux_puti C fp_X0_13 dX0_spend_12 (oBat W0 hb) (Nat.le_of_ble_eq_true rfl) rfl h (fun st_3 h => ?_)
  refine ux_aload_n C dX0_spend_15 1 rfl ?_
  refine ux_dup C dX0_spend_16 rfl ?_
  refine ux_get C fl_X0_25 dX0_spend_17 (oBat W0 hb) rfl ?_
  refine ux_iload_n C dX0_spend_20 2 rfl ?_
  refine ux_iadd C dX0_spend_21 ?_
  refine ux_puti C fp_X0_25 dX0_spend_22 (oBat W0 hb) (Nat.le_of_ble_eq_true rfl) rfl h (fun st_4 h => ?_)
  refine ux_aload_n C dX0_spend_25 1 rfl ?_
  refine ux_iconst (v := 1) C dX0_spend_26 (by decide) ?_
  refine ux_aload_n C dX0_spend_27 1 rfl ?_
  refine ux_get C fl_X0_7 dX0_spend_28 (oBat W0 hb) rfl ?_
  refine ux_aload_n C dX0_spend_31 1 rfl ?_
  obtain ⟨x_5, h1, h⟩ := ob_some h
  refine ux_callVi C cv_X0_38 dX0_spend_32 (oBat W0 hb) rfl (kX0_wornTimes W0 hb h1) rfl (Nat.le_of_ble_eq_true rfl) ⟨(Nat.le_of_ble_eq_true rfl), (Nat.le_of_ble_eq_true rfl)⟩ ⟨(Nat.le_of_ble_eq_true rfl), (Nat.le_of_ble_eq_true rfl)⟩ ?_ rfl
  refine ux_iload_n C dX0_spend_35 0 rfl ?_
  refine ux_isub C dX0_spend_36 ?_
  refine ux_isub C dX0_spend_37 ?_
  refine ux_mmax C mm_X0_42 dX0_spend_38 (Nat.le_of_ble_eq_true rfl) ⟨(Nat.le_of_ble_eq_true rfl), (Nat.le_of_ble_eq_true rfl)⟩ ⟨(Nat.le_of_ble_eq_true rfl), (Nat.le_of_ble_eq_true rfl)⟩ ?_
  refine ux_puti C fp_X0_7 dX0_spend_41 (oBat W0 hb) (Nat.le_of_ble_eq_true rfl) rfl h (fun st_6 h => ?_)
  refine ux_aload_n C dX0_spend_44 1 rfl ?_
  refine ux_aload_n C dX0_spend_45 1 rfl ?_
  refine ux_get C fl_X0_13 dX0_spend_46 (oBat W0 hb) rfl ?_
  refine ux_aload_n C dX0_spend_49 1 rfl ?_
  refine ux_get C fl_X0_7 dX0_spend_50 (oBat W0 hb) rfl ?_
  refine ux_mmin C mm_X0_28 dX0_spend_53 (Nat.le_of_ble_eq_true rfl) ⟨(Nat.le_of_ble_eq_true rfl), (Nat.le_of_ble_eq_true rfl)⟩ ⟨(Nat.le_of_ble_eq_true rfl), (Nat.le_of_ble_eq_true rfl)⟩ ?_
  refine ux_puti C fp_X0_13 dX0_spend_56 (oBat W0 hb) (Nat.le_of_ble_eq_true rfl) rfl h (fun st_7 h => ?_)
  exact ux_vret C hr dX0_spend_59 h (Nat.le_of_ble_eq_true rfl) (Nat.le_of_ble_eq_true rfl)
set_option maxRecDepth 100000 in
set_option maxHeartbeats 4000000 in
theorem kX0_drainForMinute {l : Launch} {V : uV} (W0 : uWC l V) {b : Nat} (hb : kBat b) {st : uSt} {s9 : uSt} (h : fX0_drainForMinute b st = some ((), s9)) : uMet l V yX0_drainForMinute cX0_drainForMinute 1 none 2 45 0 0 [.ref (vA V b)] st none s9 := by
  refine ux_met W0.1 W0.2.1 (by decide) rfl (Nat.le_of_ble_eq_true rfl) (fun M hL hr C => ?_)
  subst hL
  have C : uCx M V cX0_drainForMinute 1 RX0 2 45 0 0 := C
  unfold fX0_drainForMinute at h
  refine ux_aload_n C dX0_drainForMinute_0 0 rfl ?_
  refine ux_aload_n C dX0_drainForMinute_1 0 rfl ?_
  refine ux_get C fl_X0_19 dX0_drainForMinute_2 (oBat W0 hb) rfl ?_
  refine ux_aload_n C dX0_drainForMinute_5 0 rfl ?_
  refine ux_get C fl_X0_13 dX0_drainForMinute_6 (oBat W0 hb) rfl ?_
  refine ux_mmin C mm_X0_28 dX0_drainForMinute_9 (Nat.le_of_ble_eq_true rfl) ⟨(Nat.le_of_ble_eq_true rfl), (Nat.le_of_ble_eq_true rfl)⟩ ⟨(Nat.le_of_ble_eq_true rfl), (Nat.le_of_ble_eq_true rfl)⟩ ?_
  obtain ⟨st_1, h1, h⟩ := obV_some h
  refine ux_callVv C cv_X0_34 dX0_drainForMinute_12 (oBat W0 hb) rfl (kX0_spend W0 hb h1) rfl (Nat.le_of_ble_eq_true rfl) ⟨(Nat.le_of_ble_eq_true rfl), (Nat.le_of_ble_eq_true rfl)⟩ ⟨(Nat.le_of_ble_eq_true rfl), (Nat.le_of_ble_eq_true rfl)⟩ ?_ rfl
  exact ux_vret C hr dX0_drainForMinute_15 h (Nat.le_of_ble_eq_true rfl) (Nat.le_of_ble_eq_true rfl)
set_option maxRecDepth 100000 in
set_option maxHeartbeats 4000000 in
theorem kX0_chargeForMinute {l : Launch} {V : uV} (W0 : uWC l V) {b : Nat} (hb : kBat b) {st : uSt} {s9 : uSt} (h : fX0_chargeForMinute b st = some ((), s9)) : uMet l V yX0_chargeForMinute cX0_chargeForMinute 1 none 1 23 0 0 [.ref (vA V b)] st none s9 := by
  refine ux_met W0.1 W0.2.1 (by decide) rfl (Nat.le_of_ble_eq_true rfl) (fun M hL hr C => ?_)
  subst hL
  have C : uCx M V cX0_chargeForMinute 1 RX0 1 23 0 0 := C
  unfold fX0_chargeForMinute at h
  refine ux_aload_n C dX0_chargeForMinute_0 0 rfl ?_
  refine ux_aload_n C dX0_chargeForMinute_1 0 rfl ?_
  refine ux_get C fl_X0_13 dX0_chargeForMinute_2 (oBat W0 hb) rfl ?_
  refine ux_aload_n C dX0_chargeForMinute_5 0 rfl ?_
  refine ux_get C fl_X0_16 dX0_chargeForMinute_6 (oBat W0 hb) rfl ?_
  refine ux_iadd C dX0_chargeForMinute_9 ?_
  refine ux_aload_n C dX0_chargeForMinute_10 0 rfl ?_
  refine ux_get C fl_X0_7 dX0_chargeForMinute_11 (oBat W0 hb) rfl ?_
  refine ux_mmin C mm_X0_28 dX0_chargeForMinute_14 (Nat.le_of_ble_eq_true rfl) ⟨(Nat.le_of_ble_eq_true rfl), (Nat.le_of_ble_eq_true rfl)⟩ ⟨(Nat.le_of_ble_eq_true rfl), (Nat.le_of_ble_eq_true rfl)⟩ ?_
  refine ux_puti C fp_X0_13 dX0_chargeForMinute_17 (oBat W0 hb) (Nat.le_of_ble_eq_true rfl) rfl h (fun st_1 h => ?_)
  exact ux_vret C hr dX0_chargeForMinute_20 h (Nat.le_of_ble_eq_true rfl) (Nat.le_of_ble_eq_true rfl)
set_option maxRecDepth 100000 in
set_option maxHeartbeats 4000000 in
theorem kX0_copyFrom {l : Launch} {V : uV} (W0 : uWC l V) {b : Nat} (hb : kBat b) {b2 : Nat} (hb2 : kBat b2) {st : uSt} {s9 : uSt} (h : fX0_copyFrom b b2 st = some ((), s9)) : uMet l V yX0_copyFrom cX0_copyFrom 2 none 0 0 0 0 [.ref (vA V b), .ref (vA V b2)] st none s9 := by
  refine ux_met W0.1 W0.2.1 (by decide) rfl (Nat.le_of_ble_eq_true rfl) (fun M hL hr C => ?_)
  subst hL
  have C : uCx M V cX0_copyFrom 2 RX0 0 0 0 0 := C
  unfold fX0_copyFrom at h
  refine ux_aload_n C dX0_copyFrom_0 0 rfl ?_
  refine ux_aload_n C dX0_copyFrom_1 1 rfl ?_
  refine ux_get C fl_X0_7 dX0_copyFrom_2 (oBat W0 hb2) rfl ?_
  refine ux_puti C fp_X0_7 dX0_copyFrom_5 (oBat W0 hb) (Nat.le_of_ble_eq_true rfl) rfl h (fun st_1 h => ?_)
  refine ux_aload_n C dX0_copyFrom_8 0 rfl ?_
  refine ux_aload_n C dX0_copyFrom_9 1 rfl ?_
  refine ux_get C fl_X0_13 dX0_copyFrom_10 (oBat W0 hb2) rfl ?_
  refine ux_puti C fp_X0_13 dX0_copyFrom_13 (oBat W0 hb) (Nat.le_of_ble_eq_true rfl) rfl h (fun st_2 h => ?_)
  refine ux_aload_n C dX0_copyFrom_16 0 rfl ?_
  refine ux_aload_n C dX0_copyFrom_17 1 rfl ?_
  refine ux_get C fl_X0_16 dX0_copyFrom_18 (oBat W0 hb2) rfl ?_
  refine ux_puti C fp_X0_16 dX0_copyFrom_21 (oBat W0 hb) (Nat.le_of_ble_eq_true rfl) rfl h (fun st_3 h => ?_)
  refine ux_aload_n C dX0_copyFrom_24 0 rfl ?_
  refine ux_aload_n C dX0_copyFrom_25 1 rfl ?_
  refine ux_get C fl_X0_19 dX0_copyFrom_26 (oBat W0 hb2) rfl ?_
  refine ux_puti C fp_X0_19 dX0_copyFrom_29 (oBat W0 hb) (Nat.le_of_ble_eq_true rfl) rfl h (fun st_4 h => ?_)
  refine ux_aload_n C dX0_copyFrom_32 0 rfl ?_
  refine ux_aload_n C dX0_copyFrom_33 1 rfl ?_
  refine ux_get C fl_X0_22 dX0_copyFrom_34 (oBat W0 hb2) rfl ?_
  refine ux_puti C fp_X0_22 dX0_copyFrom_37 (oBat W0 hb) (Nat.le_of_ble_eq_true rfl) rfl h (fun st_5 h => ?_)
  refine ux_aload_n C dX0_copyFrom_40 0 rfl ?_
  refine ux_aload_n C dX0_copyFrom_41 1 rfl ?_
  refine ux_get C fl_X0_25 dX0_copyFrom_42 (oBat W0 hb2) rfl ?_
  refine ux_puti C fp_X0_25 dX0_copyFrom_45 (oBat W0 hb) (Nat.le_of_ble_eq_true rfl) rfl h (fun st_6 h => ?_)
  exact ux_vret C hr dX0_copyFrom_48 h (Nat.le_of_ble_eq_true rfl) (Nat.le_of_ble_eq_true rfl)
set_option maxRecDepth 100000 in
set_option maxHeartbeats 4000000 in
theorem kX1_copyBlock {l : Launch} {V : uV} (W0 : uWC l V) {c : Nat} (hc : kCache c) {c2 : Nat} (hc2 : kCache c2) {p2 : Int32} {p3 : Int32} {st : uSt} {s9 : uSt} (h : fX1_copyBlock c c2 p2 p3 st = some ((), s9)) : uMet l V yX1_copyBlock cX1_copyBlock 4 none 0 0 0 0 [.ref (vA V c), .ref (vA V c2), .int p2, .int p3] st none s9 := by
  refine ux_met W0.1 W0.2.1 (by decide) rfl (Nat.le_of_ble_eq_true rfl) (fun M hL hr C => ?_)
  subst hL
  have C : uCx M V cX1_copyBlock 4 RX1 0 0 0 0 := C
  unfold fX1_copyBlock at h
  refine ux_aload_n C dX1_copyBlock_0 0 rfl ?_
  refine ux_get C fl_X1_15 dX1_copyBlock_1 (oCache W0 hc) rfl ?_
  refine ux_iload_n C dX1_copyBlock_4 3 rfl ?_
  refine ux_aload_n C dX1_copyBlock_5 1 rfl ?_
  refine ux_get C fl_X1_15 dX1_copyBlock_6 (oCache W0 hc2) rfl ?_
  refine ux_iload_n C dX1_copyBlock_9 2 rfl ?_
  refine ux_iald C (aCache1 W0 hc2) dX1_copyBlock_10 h (fun h => ?_)
  refine ux_iast C (aCache1 W0 hc) dX1_copyBlock_11 h (fun st_1 h => ?_)
  refine ux_aload_n C dX1_copyBlock_12 0 rfl ?_
  refine ux_get C fl_X1_19 dX1_copyBlock_13 (oCache W0 hc) rfl ?_
  refine ux_iload_n C dX1_copyBlock_16 3 rfl ?_
  refine ux_aload_n C dX1_copyBlock_17 1 rfl ?_
  refine ux_get C fl_X1_19 dX1_copyBlock_18 (oCache W0 hc2) rfl ?_
  refine ux_iload_n C dX1_copyBlock_21 2 rfl ?_
  refine ux_iald C (aCache2 W0 hc2) dX1_copyBlock_22 h (fun h => ?_)
  refine ux_iast C (aCache2 W0 hc) dX1_copyBlock_23 h (fun st_2 h => ?_)
  refine ux_aload_n C dX1_copyBlock_24 0 rfl ?_
  refine ux_get C fl_X1_22 dX1_copyBlock_25 (oCache W0 hc) rfl ?_
  refine ux_iload_n C dX1_copyBlock_28 3 rfl ?_
  refine ux_aload_n C dX1_copyBlock_29 1 rfl ?_
  refine ux_get C fl_X1_22 dX1_copyBlock_30 (oCache W0 hc2) rfl ?_
  refine ux_iload_n C dX1_copyBlock_33 2 rfl ?_
  refine ux_iald C (aCache3 W0 hc2) dX1_copyBlock_34 h (fun h => ?_)
  refine ux_iast C (aCache3 W0 hc) dX1_copyBlock_35 h (fun st_3 h => ?_)
  refine ux_aload_n C dX1_copyBlock_36 0 rfl ?_
  refine ux_get C fl_X1_25 dX1_copyBlock_37 (oCache W0 hc) rfl ?_
  refine ux_iload_n C dX1_copyBlock_40 3 rfl ?_
  refine ux_aload_n C dX1_copyBlock_41 1 rfl ?_
  refine ux_get C fl_X1_25 dX1_copyBlock_42 (oCache W0 hc2) rfl ?_
  refine ux_iload_n C dX1_copyBlock_45 2 rfl ?_
  refine ux_iald C (aCache4 W0 hc2) dX1_copyBlock_46 h (fun h => ?_)
  refine ux_iast C (aCache4 W0 hc) dX1_copyBlock_47 h (fun st_4 h => ?_)
  exact ux_vret C hr dX1_copyBlock_48 h (Nat.le_of_ble_eq_true rfl) (Nat.le_of_ble_eq_true rfl)
set_option maxRecDepth 100000 in
set_option maxHeartbeats 4000000 in
theorem wX1_copyFrom_10 {M : uM} {V : uV} (W0 : uWC (mL M) V) (C : uCx M V cX1_copyFrom 3 RX1 1 23 0 0) (hr : (mT M).sig.returnType = none) {c : Nat} (hc : kCache c) {c2 : Nat} (hc2 : kCache c2) {s9 : uSt} {ke : uSt → Option (Unit × uSt)} (K : ∀ (st : uSt), ke st = some ((), s9) → uW M V (uEnd M V 0 0 none s9) 3 0 0 31 [] [] st) : ∀ (n : Nat) (st : uSt) (l2 : Int32), fX1_copyFrom_10 c c2 ke n st l2 = some ((), s9) → uW M V (uEnd M V 0 0 none s9) 3 0 0 10 [(0, .ref (vA V c)), (1, .ref (vA V c2)), (2, .int l2)] [] st := by
  intro n
  induction n with
  | zero =>
    intro st l2 h
    rw [fX1_copyFrom_10] at h
    cases h
  | succ n ih =>
    intro st l2 h
    rw [fX1_copyFrom_10] at h
    refine ux_iload_n C dX1_copyFrom_10 2 rfl ?_
    refine ux_aload_n C dX1_copyFrom_11 0 rfl ?_
    refine ux_get C fl_X1_9 dX1_copyFrom_12 (oCache W0 hc) rfl ?_
    refine ux_icmp_ge C dX1_copyFrom_15 h (fun h => ?_) (fun h => ?_)
    · refine ux_sub [] rfl ?_
      exact K st h
    · refine ux_aload_n C dX1_copyFrom_18 0 rfl ?_
      refine ux_aload_n C dX1_copyFrom_19 1 rfl ?_
      refine ux_iload_n C dX1_copyFrom_20 2 rfl ?_
      refine ux_iload_n C dX1_copyFrom_21 2 rfl ?_
      obtain ⟨st_3, h1, h⟩ := obV_some h
      refine ux_callVv C cv_X1_28 dX1_copyFrom_22 (oCache W0 hc) rfl (kX1_copyBlock W0 hc hc2 h1) rfl (Nat.le_of_ble_eq_true rfl) ⟨(Nat.le_of_ble_eq_true rfl), (Nat.le_of_ble_eq_true rfl)⟩ ⟨(Nat.le_of_ble_eq_true rfl), (Nat.le_of_ble_eq_true rfl)⟩ ?_ rfl
      refine ux_iincK C dX1_copyFrom_25 (by decide) 2 rfl (fun z => [(2, .int z), (0, .ref (vA V c)), (1, .ref (vA V c2))]) (fun _ => rfl) (by decide) h (fun l2_4 h => ?_)
      refine ux_goto C dX1_copyFrom_28 ?_
      refine ux_sub [1, 2, 0] rfl ?_
      exact ih _ _ h
set_option maxRecDepth 100000 in
set_option maxHeartbeats 4000000 in
theorem kX1_copyFrom {l : Launch} {V : uV} (W0 : uWC l V) {c : Nat} (hc : kCache c) {c2 : Nat} (hc2 : kCache c2) {st : uSt} {s9 : uSt} (h : fX1_copyFrom c c2 st = some ((), s9)) : uMet l V yX1_copyFrom cX1_copyFrom 3 none 1 23 0 0 [.ref (vA V c), .ref (vA V c2)] st none s9 := by
  refine ux_met W0.1 W0.2.1 (by decide) rfl (Nat.le_of_ble_eq_true rfl) (fun M hL hr C => ?_)
  subst hL
  have C : uCx M V cX1_copyFrom 3 RX1 1 23 0 0 := C
  unfold fX1_copyFrom at h
  refine ux_aload_n C dX1_copyFrom_0 0 rfl ?_
  refine ux_aload_n C dX1_copyFrom_1 1 rfl ?_
  refine ux_get C fl_X1_9 dX1_copyFrom_2 (oCache W0 hc2) rfl ?_
  refine ux_puti C fp_X1_9 dX1_copyFrom_5 (oCache W0 hc) (Nat.le_of_ble_eq_true rfl) rfl h (fun st_1 h => ?_)
  refine ux_iconst (v := 0) C dX1_copyFrom_8 (by decide) ?_
  refine ux_istoreK_n C dX1_copyFrom_9 rfl (by decide) ?_
  refine ux_sub [1, 2, 0] rfl ?_
  refine wX1_copyFrom_10 W0 C hr hc hc2 (fun st_5 h => ?_) _ _ _ h
  exact ux_vret C hr dX1_copyFrom_31 h (Nat.le_of_ble_eq_true rfl) (Nat.le_of_ble_eq_true rfl)
set_option maxRecDepth 100000 in
set_option maxHeartbeats 4000000 in
theorem kX1_allBlocks {l : Launch} {V : uV} (W0 : uWC l V) {c : Nat} (hc : kCache c) {st : uSt} {r : Int32} (h : fX1_allBlocks c st = some r) : uMet l V yX1_allBlocks cX1_allBlocks 1 (some .int) 0 0 0 0 [.ref (vA V c)] st (some (.int r)) st := by
  refine ux_met W0.1 W0.2.1 (by decide) rfl (Nat.le_of_ble_eq_true rfl) (fun M hL hr C => ?_)
  subst hL
  have C : uCx M V cX1_allBlocks 1 RX1 0 0 0 0 := C
  unfold fX1_allBlocks at h
  refine ux_iconst (v := 1) C dX1_allBlocks_0 (by decide) ?_
  refine ux_aload_n C dX1_allBlocks_1 0 rfl ?_
  refine ux_get C fl_X1_9 dX1_allBlocks_2 (oCache W0 hc) rfl ?_
  refine ux_ishl C dX1_allBlocks_5 ?_
  refine ux_iconst (v := 1) C dX1_allBlocks_6 (by decide) ?_
  refine ux_isub C dX1_allBlocks_7 ?_
  exact ux_iret C hr dX1_allBlocks_8 h (Nat.le_of_ble_eq_true rfl) (Nat.le_of_ble_eq_true rfl)
set_option maxRecDepth 100000 in
set_option maxHeartbeats 4000000 in
theorem wX1_blocksOn_4 {M : uM} {V : uV} (W0 : uWC (mL M) V) (C : uCx M V cX1_blocksOn 4 RX1 0 0 0 0) (hr : (mT M).sig.returnType = (some .int)) {c : Nat} (hc : kCache c) {l1 : Int32} {st : uSt} {r : Int32} {ke : Int32 → Option Int32} (K : ∀ (l2 : Int32), ke l2 = some r → uW M V (uEnd M V 0 0 (some (.int r)) st) 4 0 0 34 [(2, .int l2)] [] st) : ∀ (n : Nat) (l2 : Int32) (l3 : Int32), fX1_blocksOn_4 c l1 st ke n l2 l3 = some r → uW M V (uEnd M V 0 0 (some (.int r)) st) 4 0 0 4 [(0, .ref (vA V c)), (1, .int l1), (2, .int l2), (3, .int l3)] [] st := by
  intro n
  induction n with
  | zero =>
    intro l2 l3 h
    rw [fX1_blocksOn_4] at h
    cases h
  | succ n ih =>
    intro l2 l3 h
    rw [fX1_blocksOn_4] at h
    refine ux_iload_n C dX1_blocksOn_4 3 rfl ?_
    refine ux_aload_n C dX1_blocksOn_5 0 rfl ?_
    refine ux_get C fl_X1_9 dX1_blocksOn_6 (oCache W0 hc) rfl ?_
    refine ux_icmp_ge C dX1_blocksOn_9 h (fun h => ?_) (fun h => ?_)
    · refine ux_sub [2] rfl ?_
      exact K l2 h
    · refine ux_aload_n C dX1_blocksOn_12 0 rfl ?_
      refine ux_get C fl_X1_15 dX1_blocksOn_13 (oCache W0 hc) rfl ?_
      refine ux_iload_n C dX1_blocksOn_16 3 rfl ?_
      refine ux_iald C (aCache1 W0 hc) dX1_blocksOn_17 h (fun h => ?_)
      refine ux_iload_n C dX1_blocksOn_18 1 rfl ?_
      refine ux_icmp_ne C dX1_blocksOn_19 h (fun h => ?_) (fun h => ?_)
      · refine ux_iload_n C dX1_blocksOn_22 2 rfl ?_
        refine ux_iconst (v := 1) C dX1_blocksOn_23 (by decide) ?_
        refine ux_iload_n C dX1_blocksOn_24 3 rfl ?_
        refine ux_ishl C dX1_blocksOn_25 ?_
        refine ux_ior C dX1_blocksOn_26 ?_
        refine ux_istore_n C dX1_blocksOn_27 (fun z => [(2, .int z), (0, .ref (vA V c)), (1, .int l1), (3, .int l3)]) (fun _ => rfl) (by decide) h (fun l2_3 h => ?_)
        refine ux_iincK C dX1_blocksOn_28 (by decide) 3 rfl (fun z => [(3, .int z), (2, .int l2_3), (0, .ref (vA V c)), (1, .int l1)]) (fun _ => rfl) (by decide) h (fun l3_4 h => ?_)
        refine ux_goto C dX1_blocksOn_31 ?_
        refine ux_sub [2, 3, 1, 0] rfl ?_
        exact ih _ _ h
      · refine ux_iincK C dX1_blocksOn_28 (by decide) 3 rfl (fun z => [(3, .int z), (0, .ref (vA V c)), (1, .int l1), (2, .int l2)]) (fun _ => rfl) (by decide) h (fun l3_5 h => ?_)
        refine ux_goto C dX1_blocksOn_31 ?_
        refine ux_sub [1, 2, 3, 0] rfl ?_
        exact ih _ _ h
set_option maxRecDepth 100000 in
set_option maxHeartbeats 4000000 in
theorem kX1_blocksOn {l : Launch} {V : uV} (W0 : uWC l V) {c : Nat} (hc : kCache c) {p1 : Int32} {st : uSt} {r : Int32} (h : fX1_blocksOn c p1 st = some r) : uMet l V yX1_blocksOn cX1_blocksOn 4 (some .int) 0 0 0 0 [.ref (vA V c), .int p1] st (some (.int r)) st := by
  refine ux_met W0.1 W0.2.1 (by decide) rfl (Nat.le_of_ble_eq_true rfl) (fun M hL hr C => ?_)
  subst hL
  have C : uCx M V cX1_blocksOn 4 RX1 0 0 0 0 := C
  unfold fX1_blocksOn at h
  refine ux_iconst (v := 0) C dX1_blocksOn_0 (by decide) ?_
  refine ux_istoreK_n C dX1_blocksOn_1 rfl (by decide) ?_
  refine ux_iconst (v := 0) C dX1_blocksOn_2 (by decide) ?_
  refine ux_istoreK_n C dX1_blocksOn_3 rfl (by decide) ?_
  refine ux_sub [2, 3, 1, 0] rfl ?_
  refine wX1_blocksOn_4 W0 C hr hc (fun l2_6 h => ?_) _ _ _ h
  refine ux_iload_n C dX1_blocksOn_34 0 rfl ?_
  exact ux_iret C hr dX1_blocksOn_35 h (Nat.le_of_ble_eq_true rfl) (Nat.le_of_ble_eq_true rfl)
set_option maxRecDepth 100000 in
set_option maxHeartbeats 4000000 in
theorem wX1_valueIn_4 {M : uM} {V : uV} (W0 : uWC (mL M) V) (C : uCx M V cX1_valueIn 4 RX1 0 0 0 0) (hr : (mT M).sig.returnType = (some .int)) {c : Nat} (hc : kCache c) {l1 : Int32} {st : uSt} {r : Int32} {ke : Int32 → Option Int32} (K : ∀ (l2 : Int32), ke l2 = some r → uW M V (uEnd M V 0 0 (some (.int r)) st) 4 0 0 35 [(2, .int l2)] [] st) : ∀ (n : Nat) (l2 : Int32) (l3 : Int32), fX1_valueIn_4 c l1 st ke n l2 l3 = some r → uW M V (uEnd M V 0 0 (some (.int r)) st) 4 0 0 4 [(0, .ref (vA V c)), (1, .int l1), (2, .int l2), (3, .int l3)] [] st := by
  intro n
  induction n with
  | zero =>
    intro l2 l3 h
    rw [fX1_valueIn_4] at h
    cases h
  | succ n ih =>
    intro l2 l3 h
    rw [fX1_valueIn_4] at h
    refine ux_iload_n C dX1_valueIn_4 3 rfl ?_
    refine ux_aload_n C dX1_valueIn_5 0 rfl ?_
    refine ux_get C fl_X1_9 dX1_valueIn_6 (oCache W0 hc) rfl ?_
    refine ux_icmp_ge C dX1_valueIn_9 h (fun h => ?_) (fun h => ?_)
    · refine ux_sub [2] rfl ?_
      exact K l2 h
    · refine ux_iload_n C dX1_valueIn_12 1 rfl ?_
      refine ux_iload_n C dX1_valueIn_13 3 rfl ?_
      refine ux_ishr C dX1_valueIn_14 ?_
      refine ux_iconst (v := 1) C dX1_valueIn_15 (by decide) ?_
      refine ux_iand C dX1_valueIn_16 ?_
      refine ux_if_eq C dX1_valueIn_17 h (fun h => ?_) (fun h => ?_)
      · refine ux_iincK C dX1_valueIn_29 (by decide) 3 rfl (fun z => [(3, .int z), (0, .ref (vA V c)), (1, .int l1), (2, .int l2)]) (fun _ => rfl) (by decide) h (fun l3_3 h => ?_)
        refine ux_goto C dX1_valueIn_32 ?_
        refine ux_sub [1, 2, 3, 0] rfl ?_
        exact ih _ _ h
      · refine ux_iload_n C dX1_valueIn_20 2 rfl ?_
        refine ux_aload_n C dX1_valueIn_21 0 rfl ?_
        refine ux_get C fl_X1_22 dX1_valueIn_22 (oCache W0 hc) rfl ?_
        refine ux_iload_n C dX1_valueIn_25 3 rfl ?_
        refine ux_iald C (aCache3 W0 hc) dX1_valueIn_26 h (fun h => ?_)
        refine ux_iadd C dX1_valueIn_27 ?_
        refine ux_istore_n C dX1_valueIn_28 (fun z => [(2, .int z), (0, .ref (vA V c)), (1, .int l1), (3, .int l3)]) (fun _ => rfl) (by decide) h (fun l2_4 h => ?_)
        refine ux_iincK C dX1_valueIn_29 (by decide) 3 rfl (fun z => [(3, .int z), (2, .int l2_4), (0, .ref (vA V c)), (1, .int l1)]) (fun _ => rfl) (by decide) h (fun l3_5 h => ?_)
        refine ux_goto C dX1_valueIn_32 ?_
        refine ux_sub [2, 3, 1, 0] rfl ?_
        exact ih _ _ h
set_option maxRecDepth 100000 in
set_option maxHeartbeats 4000000 in
theorem kX1_valueIn {l : Launch} {V : uV} (W0 : uWC l V) {c : Nat} (hc : kCache c) {p1 : Int32} {st : uSt} {r : Int32} (h : fX1_valueIn c p1 st = some r) : uMet l V yX1_valueIn cX1_valueIn 4 (some .int) 0 0 0 0 [.ref (vA V c), .int p1] st (some (.int r)) st := by
  refine ux_met W0.1 W0.2.1 (by decide) rfl (Nat.le_of_ble_eq_true rfl) (fun M hL hr C => ?_)
  subst hL
  have C : uCx M V cX1_valueIn 4 RX1 0 0 0 0 := C
  unfold fX1_valueIn at h
  refine ux_iconst (v := 0) C dX1_valueIn_0 (by decide) ?_
  refine ux_istoreK_n C dX1_valueIn_1 rfl (by decide) ?_
  refine ux_iconst (v := 0) C dX1_valueIn_2 (by decide) ?_
  refine ux_istoreK_n C dX1_valueIn_3 rfl (by decide) ?_
  refine ux_sub [2, 3, 1, 0] rfl ?_
  refine wX1_valueIn_4 W0 C hr hc (fun l2_6 h => ?_) _ _ _ h
  refine ux_iload_n C dX1_valueIn_35 0 rfl ?_
  exact ux_iret C hr dX1_valueIn_36 h (Nat.le_of_ble_eq_true rfl) (Nat.le_of_ble_eq_true rfl)
set_option maxRecDepth 100000 in
set_option maxHeartbeats 4000000 in
theorem kX1_isFollowedBy {l : Launch} {V : uV} (W0 : uWC l V) {c : Nat} (hc : kCache c) {p1 : Int32} {p2 : Int32} {st : uSt} {r : Int32} (h : fX1_isFollowedBy c p1 p2 st = some r) : uMet l V yX1_isFollowedBy cX1_isFollowedBy 3 (some .boolean) 0 0 0 0 [.ref (vA V c), .int p1, .int p2] st (some (.int r)) st := by
  refine ux_met W0.1 W0.2.1 (by decide) rfl (Nat.le_of_ble_eq_true rfl) (fun M hL hr C => ?_)
  subst hL
  have C : uCx M V cX1_isFollowedBy 3 RX1 0 0 0 0 := C
  unfold fX1_isFollowedBy at h
  refine ux_aload_n C dX1_isFollowedBy_0 0 rfl ?_
  refine ux_get C fl_X1_15 dX1_isFollowedBy_1 (oCache W0 hc) rfl ?_
  refine ux_iload_n C dX1_isFollowedBy_4 1 rfl ?_
  refine ux_iald C (aCache1 W0 hc) dX1_isFollowedBy_5 h (fun h => ?_)
  refine ux_aload_n C dX1_isFollowedBy_6 0 rfl ?_
  refine ux_get C fl_X1_15 dX1_isFollowedBy_7 (oCache W0 hc) rfl ?_
  refine ux_iload_n C dX1_isFollowedBy_10 2 rfl ?_
  refine ux_iald C (aCache1 W0 hc) dX1_isFollowedBy_11 h (fun h => ?_)
  refine ux_icmp_ne C dX1_isFollowedBy_12 h (fun h => ?_) (fun h => ?_)
  · refine ux_aload_n C dX1_isFollowedBy_15 0 rfl ?_
    refine ux_get C fl_X1_19 dX1_isFollowedBy_16 (oCache W0 hc) rfl ?_
    refine ux_iload_n C dX1_isFollowedBy_19 1 rfl ?_
    refine ux_iald C (aCache2 W0 hc) dX1_isFollowedBy_20 h (fun h => ?_)
    refine ux_iconst (v := 1) C dX1_isFollowedBy_21 (by decide) ?_
    refine ux_iadd C dX1_isFollowedBy_22 ?_
    refine ux_aload_n C dX1_isFollowedBy_23 0 rfl ?_
    refine ux_get C fl_X1_19 dX1_isFollowedBy_24 (oCache W0 hc) rfl ?_
    refine ux_iload_n C dX1_isFollowedBy_27 2 rfl ?_
    refine ux_iald C (aCache2 W0 hc) dX1_isFollowedBy_28 h (fun h => ?_)
    refine ux_icmp_ne C dX1_isFollowedBy_29 h (fun h => ?_) (fun h => ?_)
    · refine ux_iconst (v := 1) C dX1_isFollowedBy_32 (by decide) ?_
      refine ux_goto C dX1_isFollowedBy_33 ?_
      exact ux_zretK C hr dX1_isFollowedBy_37 (by decide) h (Nat.le_of_ble_eq_true rfl) (Nat.le_of_ble_eq_true rfl)
    · refine ux_iconst (v := 0) C dX1_isFollowedBy_36 (by decide) ?_
      exact ux_zretK C hr dX1_isFollowedBy_37 (by decide) h (Nat.le_of_ble_eq_true rfl) (Nat.le_of_ble_eq_true rfl)
  · refine ux_iconst (v := 0) C dX1_isFollowedBy_36 (by decide) ?_
    exact ux_zretK C hr dX1_isFollowedBy_37 (by decide) h (Nat.le_of_ble_eq_true rfl) (Nat.le_of_ble_eq_true rfl)
set_option maxRecDepth 100000 in
set_option maxHeartbeats 4000000 in
theorem wX1_mostValuable_7 {M : uM} {V : uV} (W0 : uWC (mL M) V) (C : uCx M V cX1_mostValuable 5 RX1 0 0 0 0) (hr : (mT M).sig.returnType = (some .int)) {c : Nat} (hc : kCache c) {l1 : Int32} {st : uSt} {r : Int32} {ke : Int32 → Option Int32} (K : ∀ (l2 : Int32), ke l2 = some r → uW M V (uEnd M V 0 0 (some (.int r)) st) 5 0 0 53 [(2, .int l2)] [] st) : ∀ (n : Nat) (l2 : Int32) (l3 : Int32) (l4 : Int32), fX1_mostValuable_7 c l1 st ke n l2 l3 l4 = some r → uW M V (uEnd M V 0 0 (some (.int r)) st) 5 0 0 7 [(0, .ref (vA V c)), (1, .int l1), (2, .int l2), (3, .int l3), (4, .int l4)] [] st := by
  intro n
  induction n with
  | zero =>
    intro l2 l3 l4 h
    rw [fX1_mostValuable_7] at h
    cases h
  | succ n ih =>
    intro l2 l3 l4 h
    rw [fX1_mostValuable_7] at h
    refine ux_iload C dX1_mostValuable_7 4 rfl ?_
    refine ux_aload_n C dX1_mostValuable_9 0 rfl ?_
    refine ux_get C fl_X1_9 dX1_mostValuable_10 (oCache W0 hc) rfl ?_
    refine ux_icmp_ge C dX1_mostValuable_13 h (fun h => ?_) (fun h => ?_)
    · refine ux_sub [2] rfl ?_
      exact K l2 h
    · refine ux_iload_n C dX1_mostValuable_16 1 rfl ?_
      refine ux_iload C dX1_mostValuable_17 4 rfl ?_
      refine ux_ishr C dX1_mostValuable_19 ?_
      refine ux_iconst (v := 1) C dX1_mostValuable_20 (by decide) ?_
      refine ux_iand C dX1_mostValuable_21 ?_
      refine ux_if_eq C dX1_mostValuable_22 h (fun h => ?_) (fun h => ?_)
      · refine ux_iincK C dX1_mostValuable_47 (by decide) 4 rfl (fun z => [(4, .int z), (0, .ref (vA V c)), (1, .int l1), (2, .int l2), (3, .int l3)]) (fun _ => rfl) (by decide) h (fun l4_4 h => ?_)
        refine ux_goto C dX1_mostValuable_50 ?_
        refine ux_sub [1, 2, 3, 4, 0] rfl ?_
        exact ih _ _ _ h
      · refine ux_aload_n C dX1_mostValuable_25 0 rfl ?_
        refine ux_get C fl_X1_22 dX1_mostValuable_26 (oCache W0 hc) rfl ?_
        refine ux_iload C dX1_mostValuable_29 4 rfl ?_
        refine ux_iald C (aCache3 W0 hc) dX1_mostValuable_31 h (fun h => ?_)
        refine ux_iload_n C dX1_mostValuable_32 3 rfl ?_
        refine ux_icmp_le C dX1_mostValuable_33 h (fun h => ?_) (fun h => ?_)
        · refine ux_iincK C dX1_mostValuable_47 (by decide) 4 rfl (fun z => [(4, .int z), (0, .ref (vA V c)), (1, .int l1), (2, .int l2), (3, .int l3)]) (fun _ => rfl) (by decide) h (fun l4_5 h => ?_)
          refine ux_goto C dX1_mostValuable_50 ?_
          refine ux_sub [1, 2, 3, 4, 0] rfl ?_
          exact ih _ _ _ h
        · refine ux_iload C dX1_mostValuable_36 4 rfl ?_
          refine ux_istoreK_n C dX1_mostValuable_38 rfl (by decide) ?_
          refine ux_aload_n C dX1_mostValuable_39 1 rfl ?_
          refine ux_get C fl_X1_22 dX1_mostValuable_40 (oCache W0 hc) rfl ?_
          refine ux_iload C dX1_mostValuable_43 4 rfl ?_
          refine ux_iald C (aCache3 W0 hc) dX1_mostValuable_45 h (fun h => ?_)
          refine ux_istore_n C dX1_mostValuable_46 (fun z => [(3, .int z), (2, .int l4), (0, .ref (vA V c)), (1, .int l1), (4, .int l4)]) (fun _ => rfl) (by decide) h (fun l3_7 h => ?_)
          refine ux_iincK C dX1_mostValuable_47 (by decide) 4 rfl (fun z => [(4, .int z), (3, .int l3_7), (2, .int l4), (0, .ref (vA V c)), (1, .int l1)]) (fun _ => rfl) (by decide) h (fun l4_8 h => ?_)
          refine ux_goto C dX1_mostValuable_50 ?_
          refine ux_sub [3, 4, 2, 1, 0] rfl ?_
          exact ih _ _ _ h
set_option maxRecDepth 100000 in
set_option maxHeartbeats 4000000 in
theorem kX1_mostValuable {l : Launch} {V : uV} (W0 : uWC l V) {c : Nat} (hc : kCache c) {p1 : Int32} {st : uSt} {r : Int32} (h : fX1_mostValuable c p1 st = some r) : uMet l V yX1_mostValuable cX1_mostValuable 5 (some .int) 0 0 0 0 [.ref (vA V c), .int p1] st (some (.int r)) st := by
  refine ux_met W0.1 W0.2.1 (by decide) rfl (Nat.le_of_ble_eq_true rfl) (fun M hL hr C => ?_)
  subst hL
  have C : uCx M V cX1_mostValuable 5 RX1 0 0 0 0 := C
  unfold fX1_mostValuable at h
  refine ux_iconst (v := 0) C dX1_mostValuable_0 (by decide) ?_
  refine ux_istoreK_n C dX1_mostValuable_1 rfl (by decide) ?_
  refine ux_iconst (v := 0) C dX1_mostValuable_2 (by decide) ?_
  refine ux_istoreK_n C dX1_mostValuable_3 rfl (by decide) ?_
  refine ux_iconst (v := 0) C dX1_mostValuable_4 (by decide) ?_
  refine ux_istoreK C dX1_mostValuable_5 rfl (by decide) ?_
  refine ux_sub [3, 4, 2, 1, 0] rfl ?_
  refine wX1_mostValuable_7 W0 C hr hc (fun l2_9 h => ?_) _ _ _ _ h
  refine ux_iload_n C dX1_mostValuable_53 0 rfl ?_
  exact ux_iret C hr dX1_mostValuable_54 h (Nat.le_of_ble_eq_true rfl) (Nat.le_of_ble_eq_true rfl)
set_option maxRecDepth 100000 in
set_option maxHeartbeats 4000000 in
theorem wX1_indexOf_2 {M : uM} {V : uV} (W0 : uWC (mL M) V) (C : uCx M V cX1_indexOf 4 RX1 0 0 0 0) (hr : (mT M).sig.returnType = (some .int)) {c : Nat} (hc : kCache c) {l1 : Int32} {l2 : Int32} {st : uSt} {r : Int32} {ke : Option Int32} (K : ke = some r → uW M V (uEnd M V 0 0 (some (.int r)) st) 4 0 0 38 [] [] st) : ∀ (n : Nat) (l3 : Int32), fX1_indexOf_2 c l1 l2 st ke n l3 = some r → uW M V (uEnd M V 0 0 (some (.int r)) st) 4 0 0 2 [(0, .ref (vA V c)), (1, .int l1), (2, .int l2), (3, .int l3)] [] st := by
  intro n
  induction n with
  | zero =>
    intro l3 h
    rw [fX1_indexOf_2] at h
    cases h
  | succ n ih =>
    intro l3 h
    rw [fX1_indexOf_2] at h
    refine ux_iload_n C dX1_indexOf_2 3 rfl ?_
    refine ux_aload_n C dX1_indexOf_3 0 rfl ?_
    refine ux_get C fl_X1_9 dX1_indexOf_4 (oCache W0 hc) rfl ?_
    refine ux_icmp_ge C dX1_indexOf_7 h (fun h => ?_) (fun h => ?_)
    · refine ux_sub [] rfl ?_
      exact K  h
    · refine ux_aload_n C dX1_indexOf_10 0 rfl ?_
      refine ux_get C fl_X1_15 dX1_indexOf_11 (oCache W0 hc) rfl ?_
      refine ux_iload_n C dX1_indexOf_14 3 rfl ?_
      refine ux_iald C (aCache1 W0 hc) dX1_indexOf_15 h (fun h => ?_)
      refine ux_iload_n C dX1_indexOf_16 1 rfl ?_
      refine ux_icmp_ne C dX1_indexOf_17 h (fun h => ?_) (fun h => ?_)
      · refine ux_aload_n C dX1_indexOf_20 0 rfl ?_
        refine ux_get C fl_X1_19 dX1_indexOf_21 (oCache W0 hc) rfl ?_
        refine ux_iload_n C dX1_indexOf_24 3 rfl ?_
        refine ux_iald C (aCache2 W0 hc) dX1_indexOf_25 h (fun h => ?_)
        refine ux_iload_n C dX1_indexOf_26 2 rfl ?_
        refine ux_icmp_ne C dX1_indexOf_27 h (fun h => ?_) (fun h => ?_)
        · refine ux_iload_n C dX1_indexOf_30 3 rfl ?_
          exact ux_iret C hr dX1_indexOf_31 h (Nat.le_of_ble_eq_true rfl) (Nat.le_of_ble_eq_true rfl)
        · refine ux_iincK C dX1_indexOf_32 (by decide) 3 rfl (fun z => [(3, .int z), (0, .ref (vA V c)), (1, .int l1), (2, .int l2)]) (fun _ => rfl) (by decide) h (fun l3_2 h => ?_)
          refine ux_goto C dX1_indexOf_35 ?_
          refine ux_sub [1, 2, 3, 0] rfl ?_
          exact ih _ h
      · refine ux_iincK C dX1_indexOf_32 (by decide) 3 rfl (fun z => [(3, .int z), (0, .ref (vA V c)), (1, .int l1), (2, .int l2)]) (fun _ => rfl) (by decide) h (fun l3_3 h => ?_)
        refine ux_goto C dX1_indexOf_35 ?_
        refine ux_sub [1, 2, 3, 0] rfl ?_
        exact ih _ h
set_option maxRecDepth 100000 in
set_option maxHeartbeats 4000000 in
theorem kX1_indexOf {l : Launch} {V : uV} (W0 : uWC l V) {c : Nat} (hc : kCache c) {p1 : Int32} {p2 : Int32} {st : uSt} {r : Int32} (h : fX1_indexOf c p1 p2 st = some r) : uMet l V yX1_indexOf cX1_indexOf 4 (some .int) 0 0 0 0 [.ref (vA V c), .int p1, .int p2] st (some (.int r)) st := by
  refine ux_met W0.1 W0.2.1 (by decide) rfl (Nat.le_of_ble_eq_true rfl) (fun M hL hr C => ?_)
  subst hL
  have C : uCx M V cX1_indexOf 4 RX1 0 0 0 0 := C
  unfold fX1_indexOf at h
  refine ux_iconst (v := 0) C dX1_indexOf_0 (by decide) ?_
  refine ux_istoreK_n C dX1_indexOf_1 rfl (by decide) ?_
  refine ux_sub [1, 2, 3, 0] rfl ?_
  refine wX1_indexOf_2 W0 C hr hc (fun h => ?_) _ _ h
  refine ux_iconst (v := (-1)) C dX1_indexOf_38 (by decide) ?_
  exact ux_iret C hr dX1_indexOf_39 h (Nat.le_of_ble_eq_true rfl) (Nat.le_of_ble_eq_true rfl)
set_option maxRecDepth 100000 in
set_option maxHeartbeats 4000000 in
theorem kX1_isBehind {l : Launch} {V : uV} (W0 : uWC l V) {c : Nat} (hc : kCache c) {p1 : Int32} {p2 : Int32} {p3 : Int32} {st : uSt} {r : Int32} (h : fX1_isBehind c p1 p2 p3 st = some r) : uMet l V yX1_isBehind cX1_isBehind 4 (some .boolean) 0 0 0 0 [.ref (vA V c), .int p1, .int p2, .int p3] st (some (.int r)) st := by
  refine ux_met W0.1 W0.2.1 (by decide) rfl (Nat.le_of_ble_eq_true rfl) (fun M hL hr C => ?_)
  subst hL
  have C : uCx M V cX1_isBehind 4 RX1 0 0 0 0 := C
  unfold fX1_isBehind at h
  refine ux_aload_n C dX1_isBehind_0 0 rfl ?_
  refine ux_get C fl_X1_15 dX1_isBehind_1 (oCache W0 hc) rfl ?_
  refine ux_iload_n C dX1_isBehind_4 1 rfl ?_
  refine ux_iald C (aCache1 W0 hc) dX1_isBehind_5 h (fun h => ?_)
  refine ux_iload_n C dX1_isBehind_6 2 rfl ?_
  refine ux_icmp_gt C dX1_isBehind_7 h (fun h => ?_) (fun h => ?_)
  · refine ux_iconst (v := 1) C dX1_isBehind_30 (by decide) ?_
    refine ux_goto C dX1_isBehind_31 ?_
    exact ux_zretK C hr dX1_isBehind_35 (by decide) h (Nat.le_of_ble_eq_true rfl) (Nat.le_of_ble_eq_true rfl)
  · refine ux_aload_n C dX1_isBehind_10 0 rfl ?_
    refine ux_get C fl_X1_15 dX1_isBehind_11 (oCache W0 hc) rfl ?_
    refine ux_iload_n C dX1_isBehind_14 1 rfl ?_
    refine ux_iald C (aCache1 W0 hc) dX1_isBehind_15 h (fun h => ?_)
    refine ux_iload_n C dX1_isBehind_16 2 rfl ?_
    refine ux_icmp_ne C dX1_isBehind_17 h (fun h => ?_) (fun h => ?_)
    · refine ux_aload_n C dX1_isBehind_20 0 rfl ?_
      refine ux_get C fl_X1_19 dX1_isBehind_21 (oCache W0 hc) rfl ?_
      refine ux_iload_n C dX1_isBehind_24 1 rfl ?_
      refine ux_iald C (aCache2 W0 hc) dX1_isBehind_25 h (fun h => ?_)
      refine ux_iload_n C dX1_isBehind_26 3 rfl ?_
      refine ux_icmp_le C dX1_isBehind_27 h (fun h => ?_) (fun h => ?_)
      · refine ux_iconst (v := 0) C dX1_isBehind_34 (by decide) ?_
        exact ux_zretK C hr dX1_isBehind_35 (by decide) h (Nat.le_of_ble_eq_true rfl) (Nat.le_of_ble_eq_true rfl)
      · refine ux_iconst (v := 1) C dX1_isBehind_30 (by decide) ?_
        refine ux_goto C dX1_isBehind_31 ?_
        exact ux_zretK C hr dX1_isBehind_35 (by decide) h (Nat.le_of_ble_eq_true rfl) (Nat.le_of_ble_eq_true rfl)
    · refine ux_iconst (v := 0) C dX1_isBehind_34 (by decide) ?_
      exact ux_zretK C hr dX1_isBehind_35 (by decide) h (Nat.le_of_ble_eq_true rfl) (Nat.le_of_ble_eq_true rfl)
set_option maxRecDepth 100000 in
set_option maxHeartbeats 4000000 in
theorem wX1_put_39 {M : uM} {V : uV} (W0 : uWC (mL M) V) (C : uCx M V cX1_put 7 RX1 1 23 0 0) (hr : (mT M).sig.returnType = none) {c : Nat} (hc : kCache c) {l1 : Int32} {l2 : Int32} {l3 : Int32} {l4 : Int32} {s9 : uSt} {ke : uSt → Int32 → Option (Unit × uSt)} (K : ∀ (st : uSt) (l6 : Int32), ke st l6 = some ((), s9) → uW M V (uEnd M V 0 0 none s9) 7 0 0 74 [(0, .ref (vA V c)), (1, .int l1), (2, .int l2), (3, .int l3), (4, .int l4), (6, .int l6)] [] st) : ∀ (n : Nat) (st : uSt) (l6 : Int32), fX1_put_39 c l1 l2 l3 l4 ke n st l6 = some ((), s9) → uW M V (uEnd M V 0 0 none s9) 7 0 0 39 [(0, .ref (vA V c)), (1, .int l1), (2, .int l2), (3, .int l3), (4, .int l4), (6, .int l6)] [] st := by
  intro n
  induction n with
  | zero =>
    intro st l6 h
    rw [fX1_put_39] at h
    cases h
  | succ n ih =>
    intro st l6 h
    rw [fX1_put_39] at h
    refine ux_iload C dX1_put_39 5 rfl ?_
    refine ux_if_le C dX1_put_41 h (fun h => ?_) (fun h => ?_)
    · exact K st l6 h
    · refine ux_aload_n C dX1_put_44 0 rfl ?_
      refine ux_iload C dX1_put_45 5 rfl ?_
      refine ux_iconst (v := 1) C dX1_put_47 (by decide) ?_
      refine ux_isub C dX1_put_48 ?_
      refine ux_iload_n C dX1_put_49 1 rfl ?_
      refine ux_iload_n C dX1_put_50 2 rfl ?_
      obtain ⟨x_4, h1, h⟩ := ob_some h
      refine ux_callVi C cv_X1_36 dX1_put_51 (oCache W0 hc) rfl (kX1_isBehind W0 hc h1) rfl (Nat.le_of_ble_eq_true rfl) ⟨(Nat.le_of_ble_eq_true rfl), (Nat.le_of_ble_eq_true rfl)⟩ ⟨(Nat.le_of_ble_eq_true rfl), (Nat.le_of_ble_eq_true rfl)⟩ ?_ rfl
      refine ux_if_eq C dX1_put_54 h (fun h => ?_) (fun h => ?_)
      · exact K st l6 h
      · refine ux_aload_n C dX1_put_57 0 rfl ?_
        refine ux_aload_n C dX1_put_58 0 rfl ?_
        refine ux_iload C dX1_put_59 5 rfl ?_
        refine ux_iconst (v := 1) C dX1_put_61 (by decide) ?_
        refine ux_isub C dX1_put_62 ?_
        refine ux_iload C dX1_put_63 5 rfl ?_
        obtain ⟨st_5, h1, h⟩ := obV_some h
        refine ux_callVv C cv_X1_28 dX1_put_65 (oCache W0 hc) rfl (kX1_copyBlock W0 hc hc h1) rfl (Nat.le_of_ble_eq_true rfl) ⟨(Nat.le_of_ble_eq_true rfl), (Nat.le_of_ble_eq_true rfl)⟩ ⟨(Nat.le_of_ble_eq_true rfl), (Nat.le_of_ble_eq_true rfl)⟩ ?_ rfl
        refine ux_iincK C dX1_put_68 (by decide) 5 rfl (fun z => [(6, .int z), (0, .ref (vA V c)), (1, .int l1), (2, .int l2), (3, .int l3), (4, .int l4)]) (fun _ => rfl) (by decide) h (fun l6_6 h => ?_)
        refine ux_goto C dX1_put_71 ?_
        refine ux_sub [1, 2, 3, 4, 5, 0] rfl ?_
        exact ih _ _ h
set_option maxRecDepth 100000 in
set_option maxHeartbeats 4000000 in
theorem kX1_put {l : Launch} {V : uV} (W0 : uWC l V) {c : Nat} (hc : kCache c) {p1 : Int32} {p2 : Int32} {p3 : Int32} {p4 : Int32} {st : uSt} {s9 : uSt} (h : fX1_put c p1 p2 p3 p4 st = some ((), s9)) : uMet l V yX1_put cX1_put 7 none 1 23 0 0 [.ref (vA V c), .int p1, .int p2, .int p3, .int p4] st none s9 := by
  refine ux_met W0.1 W0.2.1 (by decide) rfl (Nat.le_of_ble_eq_true rfl) (fun M hL hr C => ?_)
  subst hL
  have C : uCx M V cX1_put 7 RX1 1 23 0 0 := C
  unfold fX1_put at h
  refine ux_aload_n C dX1_put_0 0 rfl ?_
  refine ux_iload_n C dX1_put_1 1 rfl ?_
  refine ux_iload_n C dX1_put_2 2 rfl ?_
  obtain ⟨x_1, h1, h⟩ := ob_some h
  refine ux_callVi C cv_X1_32 dX1_put_3 (oCache W0 hc) rfl (kX1_indexOf W0 hc h1) rfl (Nat.le_of_ble_eq_true rfl) ⟨(Nat.le_of_ble_eq_true rfl), (Nat.le_of_ble_eq_true rfl)⟩ ⟨(Nat.le_of_ble_eq_true rfl), (Nat.le_of_ble_eq_true rfl)⟩ ?_ rfl
  refine ux_istoreK C dX1_put_6 rfl (by decide) ?_
  refine ux_iload C dX1_put_8 0 rfl ?_
  refine ux_iconst (v := (-1)) C dX1_put_10 (by decide) ?_
  refine ux_icmp_eq C dX1_put_11 h (fun h => ?_) (fun h => ?_)
  · refine ux_aload_n C dX1_put_23 1 rfl ?_
    refine ux_get C fl_X1_9 dX1_put_24 (oCache W0 hc) rfl ?_
    refine ux_bipush (v := 24) C dX1_put_27 (by decide) ?_
    refine ux_icmp_lt C dX1_put_29 h (fun h => ?_) (fun h => ?_)
    · refine ux_aload_n C dX1_put_33 1 rfl ?_
      refine ux_get C fl_X1_9 dX1_put_34 (oCache W0 hc) rfl ?_
      refine ux_istore C dX1_put_37 (fun z => [(6, .int z), (5, .int x_1), (0, .ref (vA V c)), (1, .int p1), (2, .int p2), (3, .int p3), (4, .int p4)]) (fun _ => rfl) (by decide) h (fun l6_3 h => ?_)
      refine ux_sub [2, 3, 4, 5, 6, 0] rfl ?_
      refine wX1_put_39 W0 C hr hc (fun st_8 l6_7 h => ?_) _ _ _ h
      refine ux_aload_n C dX1_put_74 0 rfl ?_
      refine ux_get C fl_X1_15 dX1_put_75 (oCache W0 hc) rfl ?_
      refine ux_iload C dX1_put_78 5 rfl ?_
      refine ux_iload_n C dX1_put_80 1 rfl ?_
      refine ux_iast C (aCache1 W0 hc) dX1_put_81 h (fun st_9 h => ?_)
      refine ux_aload_n C dX1_put_82 0 rfl ?_
      refine ux_get C fl_X1_19 dX1_put_83 (oCache W0 hc) rfl ?_
      refine ux_iload C dX1_put_86 5 rfl ?_
      refine ux_iload_n C dX1_put_88 2 rfl ?_
      refine ux_iast C (aCache2 W0 hc) dX1_put_89 h (fun st_10 h => ?_)
      refine ux_aload_n C dX1_put_90 0 rfl ?_
      refine ux_get C fl_X1_22 dX1_put_91 (oCache W0 hc) rfl ?_
      refine ux_iload C dX1_put_94 5 rfl ?_
      refine ux_iload_n C dX1_put_96 3 rfl ?_
      refine ux_iast C (aCache3 W0 hc) dX1_put_97 h (fun st_11 h => ?_)
      refine ux_aload_n C dX1_put_98 0 rfl ?_
      refine ux_get C fl_X1_25 dX1_put_99 (oCache W0 hc) rfl ?_
      refine ux_iload C dX1_put_102 5 rfl ?_
      refine ux_iload C dX1_put_104 4 rfl ?_
      refine ux_iast C (aCache4 W0 hc) dX1_put_106 h (fun st_12 h => ?_)
      refine ux_aload_n C dX1_put_107 0 rfl ?_
      refine ux_dup C dX1_put_108 rfl ?_
      refine ux_get C fl_X1_9 dX1_put_109 (oCache W0 hc) rfl ?_
      refine ux_iconst (v := 1) C dX1_put_112 (by decide) ?_
      refine ux_iadd C dX1_put_113 ?_
      refine ux_puti C fp_X1_9 dX1_put_114 (oCache W0 hc) (Nat.le_of_ble_eq_true rfl) rfl h (fun st_13 h => ?_)
      exact ux_vret C hr dX1_put_117 h (Nat.le_of_ble_eq_true rfl) (Nat.le_of_ble_eq_true rfl)
    · exact ux_vret C hr dX1_put_32 h (Nat.le_of_ble_eq_true rfl) (Nat.le_of_ble_eq_true rfl)
  · refine ux_aload_n C dX1_put_14 1 rfl ?_
    refine ux_get C fl_X1_22 dX1_put_15 (oCache W0 hc) rfl ?_
    refine ux_iload C dX1_put_18 0 rfl ?_
    refine ux_iload_n C dX1_put_20 4 rfl ?_
    refine ux_iast C (aCache3 W0 hc) dX1_put_21 h (fun st_14 h => ?_)
    exact ux_vret C hr dX1_put_22 h (Nat.le_of_ble_eq_true rfl) (Nat.le_of_ble_eq_true rfl)
set_option maxRecDepth 100000 in
set_option maxHeartbeats 4000000 in
theorem wX1_removeSet_4 {M : uM} {V : uV} (W0 : uWC (mL M) V) (C : uCx M V cX1_removeSet 4 RX1 1 23 0 0) (hr : (mT M).sig.returnType = none) {c : Nat} (hc : kCache c) {l1 : Int32} {s9 : uSt} {ke : uSt → Int32 → Option (Unit × uSt)} (K : ∀ (st : uSt) (l2 : Int32), ke st l2 = some ((), s9) → uW M V (uEnd M V 0 0 none s9) 4 0 0 36 [(0, .ref (vA V c)), (2, .int l2)] [] st) : ∀ (n : Nat) (st : uSt) (l2 : Int32) (l3 : Int32), fX1_removeSet_4 c l1 ke n st l2 l3 = some ((), s9) → uW M V (uEnd M V 0 0 none s9) 4 0 0 4 [(0, .ref (vA V c)), (1, .int l1), (2, .int l2), (3, .int l3)] [] st := by
  intro n
  induction n with
  | zero =>
    intro st l2 l3 h
    rw [fX1_removeSet_4] at h
    cases h
  | succ n ih =>
    intro st l2 l3 h
    rw [fX1_removeSet_4] at h
    refine ux_iload_n C dX1_removeSet_4 3 rfl ?_
    refine ux_aload_n C dX1_removeSet_5 0 rfl ?_
    refine ux_get C fl_X1_9 dX1_removeSet_6 (oCache W0 hc) rfl ?_
    refine ux_icmp_ge C dX1_removeSet_9 h (fun h => ?_) (fun h => ?_)
    · refine ux_sub [0, 2] rfl ?_
      exact K st l2 h
    · refine ux_iload_n C dX1_removeSet_12 1 rfl ?_
      refine ux_iload_n C dX1_removeSet_13 3 rfl ?_
      refine ux_ishr C dX1_removeSet_14 ?_
      refine ux_iconst (v := 1) C dX1_removeSet_15 (by decide) ?_
      refine ux_iand C dX1_removeSet_16 ?_
      refine ux_if_ne C dX1_removeSet_17 h (fun h => ?_) (fun h => ?_)
      · refine ux_aload_n C dX1_removeSet_20 0 rfl ?_
        refine ux_aload_n C dX1_removeSet_21 0 rfl ?_
        refine ux_iload_n C dX1_removeSet_22 3 rfl ?_
        refine ux_iload_n C dX1_removeSet_23 2 rfl ?_
        obtain ⟨st_3, h1, h⟩ := obV_some h
        refine ux_callVv C cv_X1_28 dX1_removeSet_24 (oCache W0 hc) rfl (kX1_copyBlock W0 hc hc h1) rfl (Nat.le_of_ble_eq_true rfl) ⟨(Nat.le_of_ble_eq_true rfl), (Nat.le_of_ble_eq_true rfl)⟩ ⟨(Nat.le_of_ble_eq_true rfl), (Nat.le_of_ble_eq_true rfl)⟩ ?_ rfl
        refine ux_iincK C dX1_removeSet_27 (by decide) 2 rfl (fun z => [(2, .int z), (0, .ref (vA V c)), (1, .int l1), (3, .int l3)]) (fun _ => rfl) (by decide) h (fun l2_4 h => ?_)
        refine ux_iincK C dX1_removeSet_30 (by decide) 3 rfl (fun z => [(3, .int z), (2, .int l2_4), (0, .ref (vA V c)), (1, .int l1)]) (fun _ => rfl) (by decide) h (fun l3_5 h => ?_)
        refine ux_goto C dX1_removeSet_33 ?_
        refine ux_sub [2, 3, 1, 0] rfl ?_
        exact ih _ _ _ h
      · refine ux_iincK C dX1_removeSet_30 (by decide) 3 rfl (fun z => [(3, .int z), (0, .ref (vA V c)), (1, .int l1), (2, .int l2)]) (fun _ => rfl) (by decide) h (fun l3_6 h => ?_)
        refine ux_goto C dX1_removeSet_33 ?_
        refine ux_sub [1, 2, 3, 0] rfl ?_
        exact ih _ _ _ h
set_option maxRecDepth 100000 in
set_option maxHeartbeats 4000000 in
theorem kX1_removeSet {l : Launch} {V : uV} (W0 : uWC l V) {c : Nat} (hc : kCache c) {p1 : Int32} {st : uSt} {s9 : uSt} (h : fX1_removeSet c p1 st = some ((), s9)) : uMet l V yX1_removeSet cX1_removeSet 4 none 1 23 0 0 [.ref (vA V c), .int p1] st none s9 := by
  refine ux_met W0.1 W0.2.1 (by decide) rfl (Nat.le_of_ble_eq_true rfl) (fun M hL hr C => ?_)
  subst hL
  have C : uCx M V cX1_removeSet 4 RX1 1 23 0 0 := C
  unfold fX1_removeSet at h
  refine ux_iconst (v := 0) C dX1_removeSet_0 (by decide) ?_
  refine ux_istoreK_n C dX1_removeSet_1 rfl (by decide) ?_
  refine ux_iconst (v := 0) C dX1_removeSet_2 (by decide) ?_
  refine ux_istoreK_n C dX1_removeSet_3 rfl (by decide) ?_
  refine ux_sub [2, 3, 1, 0] rfl ?_
  refine wX1_removeSet_4 W0 C hr hc (fun st_8 l2_7 h => ?_) _ _ _ _ h
  refine ux_aload_n C dX1_removeSet_36 0 rfl ?_
  refine ux_iload_n C dX1_removeSet_37 1 rfl ?_
  refine ux_puti C fp_X1_9 dX1_removeSet_38 (oCache W0 hc) (Nat.le_of_ble_eq_true rfl) rfl h (fun st_9 h => ?_)
  exact ux_vret C hr dX1_removeSet_41 h (Nat.le_of_ble_eq_true rfl) (Nat.le_of_ble_eq_true rfl)
set_option maxRecDepth 100000 in
set_option maxHeartbeats 4000000 in
theorem kX1_drop {l : Launch} {V : uV} (W0 : uWC l V) {c : Nat} (hc : kCache c) {p1 : Int32} {p2 : Int32} {st : uSt} {s9 : uSt} (h : fX1_drop c p1 p2 st = some ((), s9)) : uMet l V yX1_drop cX1_drop 4 none 2 46 0 0 [.ref (vA V c), .int p1, .int p2] st none s9 := by
  refine ux_met W0.1 W0.2.1 (by decide) rfl (Nat.le_of_ble_eq_true rfl) (fun M hL hr C => ?_)
  subst hL
  have C : uCx M V cX1_drop 4 RX1 2 46 0 0 := C
  unfold fX1_drop at h
  refine ux_aload_n C dX1_drop_0 0 rfl ?_
  refine ux_iload_n C dX1_drop_1 1 rfl ?_
  refine ux_iload_n C dX1_drop_2 2 rfl ?_
  obtain ⟨x_1, h1, h⟩ := ob_some h
  refine ux_callVi C cv_X1_32 dX1_drop_3 (oCache W0 hc) rfl (kX1_indexOf W0 hc h1) rfl (Nat.le_of_ble_eq_true rfl) ⟨(Nat.le_of_ble_eq_true rfl), (Nat.le_of_ble_eq_true rfl)⟩ ⟨(Nat.le_of_ble_eq_true rfl), (Nat.le_of_ble_eq_true rfl)⟩ ?_ rfl
  refine ux_istoreK_n C dX1_drop_6 rfl (by decide) ?_
  refine ux_iload_n C dX1_drop_7 0 rfl ?_
  refine ux_iconst (v := (-1)) C dX1_drop_8 (by decide) ?_
  refine ux_icmp_eq C dX1_drop_9 h (fun h => ?_) (fun h => ?_)
  · exact ux_vret C hr dX1_drop_19 h (Nat.le_of_ble_eq_true rfl) (Nat.le_of_ble_eq_true rfl)
  · refine ux_aload_n C dX1_drop_12 1 rfl ?_
    refine ux_iconst (v := 1) C dX1_drop_13 (by decide) ?_
    refine ux_iload_n C dX1_drop_14 0 rfl ?_
    refine ux_ishl C dX1_drop_15 ?_
    obtain ⟨st_3, h1, h⟩ := obV_some h
    refine ux_callVv C cv_X1_40 dX1_drop_16 (oCache W0 hc) rfl (kX1_removeSet W0 hc h1) rfl (Nat.le_of_ble_eq_true rfl) ⟨(Nat.le_of_ble_eq_true rfl), (Nat.le_of_ble_eq_true rfl)⟩ ⟨(Nat.le_of_ble_eq_true rfl), (Nat.le_of_ble_eq_true rfl)⟩ ?_ rfl
    exact ux_vret C hr dX1_drop_19 h (Nat.le_of_ble_eq_true rfl) (Nat.le_of_ble_eq_true rfl)
set_option maxRecDepth 100000 in
set_option maxHeartbeats 4000000 in
theorem wX2_copyFrom_10 {M : uM} {V : uV} (W0 : uWC (mL M) V) (C : uCx M V cX2_copyFrom 3 RX2 0 0 0 0) (hr : (mT M).sig.returnType = none) {d : Nat} (hd : kDev d) {d2 : Nat} (hd2 : kDev d2) {s9 : uSt} {ke : uSt → Option (Unit × uSt)} (K : ∀ (st : uSt), ke st = some ((), s9) → uW M V (uEnd M V 0 0 none s9) 3 0 0 69 [] [] st) : ∀ (n : Nat) (st : uSt) (l2 : Int32), fX2_copyFrom_10 d d2 ke n st l2 = some ((), s9) → uW M V (uEnd M V 0 0 none s9) 3 0 0 10 [(0, .ref (vA V d)), (1, .ref (vA V d2)), (2, .int l2)] [] st := by
  intro n
  induction n with
  | zero =>
    intro st l2 h
    rw [fX2_copyFrom_10] at h
    cases h
  | succ n ih =>
    intro st l2 h
    rw [fX2_copyFrom_10] at h
    refine ux_iload_n C dX2_copyFrom_10 2 rfl ?_
    refine ux_iconst (v := 5) C dX2_copyFrom_11 (by decide) ?_
    refine ux_icmp_ge C dX2_copyFrom_12 h (fun h => ?_) (fun h => ?_)
    · refine ux_sub [] rfl ?_
      exact K st h
    · refine ux_aload_n C dX2_copyFrom_15 0 rfl ?_
      refine ux_get C fl_X2_15 dX2_copyFrom_16 (oDev W0 hd) rfl ?_
      refine ux_iload_n C dX2_copyFrom_19 2 rfl ?_
      refine ux_aload_n C dX2_copyFrom_20 1 rfl ?_
      refine ux_get C fl_X2_15 dX2_copyFrom_21 (oDev W0 hd2) rfl ?_
      refine ux_iload_n C dX2_copyFrom_24 2 rfl ?_
      refine ux_iald C (aDev1 W0 hd2) dX2_copyFrom_25 h (fun h => ?_)
      refine ux_iast C (aDev1 W0 hd) dX2_copyFrom_26 h (fun st_3 h => ?_)
      refine ux_aload_n C dX2_copyFrom_27 0 rfl ?_
      refine ux_get C fl_X2_19 dX2_copyFrom_28 (oDev W0 hd) rfl ?_
      refine ux_iload_n C dX2_copyFrom_31 2 rfl ?_
      refine ux_aload_n C dX2_copyFrom_32 1 rfl ?_
      refine ux_get C fl_X2_19 dX2_copyFrom_33 (oDev W0 hd2) rfl ?_
      refine ux_iload_n C dX2_copyFrom_36 2 rfl ?_
      refine ux_iald C (aDev2 W0 hd2) dX2_copyFrom_37 h (fun h => ?_)
      refine ux_iast C (aDev2 W0 hd) dX2_copyFrom_38 h (fun st_4 h => ?_)
      refine ux_aload_n C dX2_copyFrom_39 0 rfl ?_
      refine ux_get C fl_X2_22 dX2_copyFrom_40 (oDev W0 hd) rfl ?_
      refine ux_iload_n C dX2_copyFrom_43 2 rfl ?_
      refine ux_aload_n C dX2_copyFrom_44 1 rfl ?_
      refine ux_get C fl_X2_22 dX2_copyFrom_45 (oDev W0 hd2) rfl ?_
      refine ux_iload_n C dX2_copyFrom_48 2 rfl ?_
      refine ux_iald C (aDev3 W0 hd2) dX2_copyFrom_49 h (fun h => ?_)
      refine ux_iast C (aDev3 W0 hd) dX2_copyFrom_50 h (fun st_5 h => ?_)
      refine ux_aload_n C dX2_copyFrom_51 0 rfl ?_
      refine ux_get C fl_X2_25 dX2_copyFrom_52 (oDev W0 hd) rfl ?_
      refine ux_iload_n C dX2_copyFrom_55 2 rfl ?_
      refine ux_aload_n C dX2_copyFrom_56 1 rfl ?_
      refine ux_get C fl_X2_25 dX2_copyFrom_57 (oDev W0 hd2) rfl ?_
      refine ux_iload_n C dX2_copyFrom_60 2 rfl ?_
      refine ux_zald C (aDev4 W0 hd2) dX2_copyFrom_61 h (fun h => ?_)
      refine ux_zast C (aDev4 W0 hd) dX2_copyFrom_62 h (fun st_6 h => ?_)
      refine ux_iincK C dX2_copyFrom_63 (by decide) 2 rfl (fun z => [(2, .int z), (0, .ref (vA V d)), (1, .ref (vA V d2))]) (fun _ => rfl) (by decide) h (fun l2_7 h => ?_)
      refine ux_goto C dX2_copyFrom_66 ?_
      refine ux_sub [1, 2, 0] rfl ?_
      exact ih _ _ h
set_option maxRecDepth 100000 in
set_option maxHeartbeats 4000000 in
theorem kX2_copyFrom {l : Launch} {V : uV} (W0 : uWC l V) {d : Nat} (hd : kDev d) {d2 : Nat} (hd2 : kDev d2) {st : uSt} {s9 : uSt} (h : fX2_copyFrom d d2 st = some ((), s9)) : uMet l V yX2_copyFrom cX2_copyFrom 3 none 0 0 0 0 [.ref (vA V d), .ref (vA V d2)] st none s9 := by
  refine ux_met W0.1 W0.2.1 (by decide) rfl (Nat.le_of_ble_eq_true rfl) (fun M hL hr C => ?_)
  subst hL
  have C : uCx M V cX2_copyFrom 3 RX2 0 0 0 0 := C
  unfold fX2_copyFrom at h
  refine ux_aload_n C dX2_copyFrom_0 0 rfl ?_
  refine ux_aload_n C dX2_copyFrom_1 1 rfl ?_
  refine ux_get C fl_X2_9 dX2_copyFrom_2 (oDev W0 hd2) rfl ?_
  refine ux_puti C fp_X2_9 dX2_copyFrom_5 (oDev W0 hd) (Nat.le_of_ble_eq_true rfl) rfl h (fun st_1 h => ?_)
  refine ux_iconst (v := 0) C dX2_copyFrom_8 (by decide) ?_
  refine ux_istoreK_n C dX2_copyFrom_9 rfl (by decide) ?_
  refine ux_sub [1, 2, 0] rfl ?_
  refine wX2_copyFrom_10 W0 C hr hd hd2 (fun st_8 h => ?_) _ _ _ h
  exact ux_vret C hr dX2_copyFrom_69 h (Nat.le_of_ble_eq_true rfl) (Nat.le_of_ble_eq_true rfl)
set_option maxRecDepth 100000 in
set_option maxHeartbeats 4000000 in
theorem wX2_energyIn_8 {M : uM} {V : uV} (W0 : uWC (mL M) V) (C : uCx M V cX2_energyIn 7 RX2 1 22 0 0) (hr : (mT M).sig.returnType = (some .int)) {d : Nat} (hd : kDev d) {c : Nat} (hc : kCache c) {l2 : Int32} {st : uSt} {r : Int32} {ke : Int32 → Option Int32} (K : ∀ (l3 : Int32), ke l3 = some r → uW M V (uEnd M V 0 0 (some (.int r)) st) 7 0 0 118 [(3, .int l3)] [] st) : ∀ (n : Nat) (l3 : Int32) (l4 : Int32) (l5 : Int32), fX2_energyIn_8 d c l2 st ke n l3 l4 l5 = some r → uW M V (uEnd M V 0 0 (some (.int r)) st) 7 0 0 8 [(0, .ref (vA V d)), (1, .ref (vA V c)), (2, .int l2), (3, .int l3), (4, .int l4), (5, .int l5)] [] st := by
  intro n
  induction n with
  | zero =>
    intro l3 l4 l5 h
    rw [fX2_energyIn_8] at h
    cases h
  | succ n ih =>
    intro l3 l4 l5 h
    rw [fX2_energyIn_8] at h
    refine ux_iload C dX2_energyIn_8 5 rfl ?_
    refine ux_aload_n C dX2_energyIn_10 1 rfl ?_
    refine ux_get C fl_X2_29 dX2_energyIn_11 (oCache W0 hc) rfl ?_
    refine ux_icmp_ge C dX2_energyIn_14 h (fun h => ?_) (fun h => ?_)
    · refine ux_sub [3] rfl ?_
      exact K l3 h
    · refine ux_iload_n C dX2_energyIn_17 2 rfl ?_
      refine ux_iload C dX2_energyIn_18 5 rfl ?_
      refine ux_ishr C dX2_energyIn_20 ?_
      refine ux_iconst (v := 1) C dX2_energyIn_21 (by decide) ?_
      refine ux_iand C dX2_energyIn_22 ?_
      refine ux_if_ne C dX2_energyIn_23 h (fun h => ?_) (fun h => ?_)
      · refine ux_goto C dX2_energyIn_26 ?_
        refine ux_iincK C dX2_energyIn_112 (by decide) 5 rfl (fun z => [(5, .int z), (0, .ref (vA V d)), (1, .ref (vA V c)), (2, .int l2), (3, .int l3), (4, .int l4)]) (fun _ => rfl) (by decide) h (fun l5_4 h => ?_)
        refine ux_goto C dX2_energyIn_115 ?_
        refine ux_sub [1, 2, 3, 4, 5, 0] rfl ?_
        exact ih _ _ _ h
      · refine ux_aload_n C dX2_energyIn_29 1 rfl ?_
        refine ux_get C fl_X2_32 dX2_energyIn_30 (oCache W0 hc) rfl ?_
        refine ux_iload C dX2_energyIn_33 5 rfl ?_
        refine ux_iald C (aCache1 W0 hc) dX2_energyIn_35 h (fun h => ?_)
        refine ux_istore C dX2_energyIn_36 (fun z => [(6, .int z), (0, .ref (vA V d)), (1, .ref (vA V c)), (2, .int l2), (3, .int l3), (4, .int l4), (5, .int l5)]) (fun _ => rfl) (by decide) h (fun l6_5 h => ?_)
        refine ux_iload C dX2_energyIn_38 5 rfl ?_
        refine ux_iconst (v := (-1)) C dX2_energyIn_40 (by decide) ?_
        obtain ⟨j_6, hK_6, h⟩ := oj1_some h
        have hJ_6 : ∀ (l3_7 : Int32), j_6 l3_7 = some r → uW M V (uEnd M V 0 0 (some (.int r)) st) 7 0 0 98 [(0, .ref (vA V d)), (1, .ref (vA V c)), (2, .int l2), (3, .int l3_7), (5, .int l5), (6, .int l6_5)] [] st := by
          intro l3_7 h
          replace h := hK_6 l3_7 h
          refine ux_iload_n C dX2_energyIn_98 3 rfl ?_
          refine ux_aload_n C dX2_energyIn_99 0 rfl ?_
          refine ux_get C fl_X2_22 dX2_energyIn_100 (oDev W0 hd) rfl ?_
          refine ux_iload C dX2_energyIn_103 5 rfl ?_
          refine ux_iald C (aDev3 W0 hd) dX2_energyIn_105 h (fun h => ?_)
          refine ux_iadd C dX2_energyIn_106 ?_
          refine ux_istore_n C dX2_energyIn_107 (fun z => [(3, .int z), (0, .ref (vA V d)), (1, .ref (vA V c)), (2, .int l2), (5, .int l5), (6, .int l6_5)]) (fun _ => rfl) (by decide) h (fun l3_8 h => ?_)
          refine ux_iload C dX2_energyIn_108 4 rfl ?_
          refine ux_istoreK C dX2_energyIn_110 rfl (by decide) ?_
          refine ux_iincK C dX2_energyIn_112 (by decide) 5 rfl (fun z => [(5, .int z), (4, .int l5), (3, .int l3_8), (0, .ref (vA V d)), (1, .ref (vA V c)), (2, .int l2), (6, .int l6_5)]) (fun _ => rfl) (by decide) h (fun l5_10 h => ?_)
          refine ux_goto C dX2_energyIn_115 ?_
          refine ux_sub [3, 4, 5, 2, 1, 0] rfl ?_
          exact ih _ _ _ h
        obtain ⟨j_11, hK_11, h⟩ := oj0_some h
        have hJ_11 : j_11 = some r → uW M V (uEnd M V 0 0 (some (.int r)) st) 7 0 0 56 [(0, .ref (vA V d)), (1, .ref (vA V c)), (2, .int l2), (3, .int l3), (5, .int l5), (6, .int l6_5)] [] st := by
          intro h
          replace h := hK_11 h
          refine ux_iload_n C dX2_energyIn_56 3 rfl ?_
          refine ux_aload_n C dX2_energyIn_57 0 rfl ?_
          refine ux_get C fl_X2_15 dX2_energyIn_58 (oDev W0 hd) rfl ?_
          refine ux_iload C dX2_energyIn_61 5 rfl ?_
          refine ux_iald C (aDev1 W0 hd) dX2_energyIn_63 h (fun h => ?_)
          refine ux_aload_n C dX2_energyIn_64 0 rfl ?_
          refine ux_get C fl_X2_19 dX2_energyIn_65 (oDev W0 hd) rfl ?_
          refine ux_iload C dX2_energyIn_68 5 rfl ?_
          refine ux_iald C (aDev2 W0 hd) dX2_energyIn_70 h (fun h => ?_)
          refine ux_iadd C dX2_energyIn_71 ?_
          refine ux_iadd C dX2_energyIn_72 ?_
          refine ux_istore_n C dX2_energyIn_73 (fun z => [(3, .int z), (0, .ref (vA V d)), (1, .ref (vA V c)), (2, .int l2), (5, .int l5), (6, .int l6_5)]) (fun _ => rfl) (by decide) h (fun l3_12 h => ?_)
          refine ux_goto C dX2_energyIn_74 ?_
          refine ux_sub [1, 2, 3, 0, 4, 5] rfl ?_
          exact hJ_6 l3_12 h
        refine ux_icmp_eq C dX2_energyIn_41 h (fun h => ?_) (fun h => ?_)
        · refine ux_sub [1, 2, 3, 4, 6, 0] rfl ?_
          exact hJ_11 h
        · refine ux_aload_n C dX2_energyIn_44 2 rfl ?_
          refine ux_get C fl_X2_32 dX2_energyIn_45 (oCache W0 hc) rfl ?_
          refine ux_iload C dX2_energyIn_48 5 rfl ?_
          refine ux_iald C (aCache1 W0 hc) dX2_energyIn_50 h (fun h => ?_)
          refine ux_iload C dX2_energyIn_51 0 rfl ?_
          refine ux_icmp_eq C dX2_energyIn_53 h (fun h => ?_) (fun h => ?_)
          · refine ux_aload_n C dX2_energyIn_77 2 rfl ?_
            refine ux_iload C dX2_energyIn_78 5 rfl ?_
            refine ux_iload C dX2_energyIn_80 6 rfl ?_
            obtain ⟨x_13, h1, h⟩ := ob_some h
            refine ux_callVi C cv_X2_35 dX2_energyIn_82 (oCache W0 hc) rfl (kX1_isFollowedBy W0 hc h1) rfl (Nat.le_of_ble_eq_true rfl) ⟨(Nat.le_of_ble_eq_true rfl), (Nat.le_of_ble_eq_true rfl)⟩ ⟨(Nat.le_of_ble_eq_true rfl), (Nat.le_of_ble_eq_true rfl)⟩ ?_ rfl
            refine ux_if_ne C dX2_energyIn_85 h (fun h => ?_) (fun h => ?_)
            · refine ux_iload_n C dX2_energyIn_88 4 rfl ?_
              refine ux_aload_n C dX2_energyIn_89 1 rfl ?_
              refine ux_get C fl_X2_19 dX2_energyIn_90 (oDev W0 hd) rfl ?_
              refine ux_iload C dX2_energyIn_93 0 rfl ?_
              refine ux_iald C (aDev2 W0 hd) dX2_energyIn_95 h (fun h => ?_)
              refine ux_iadd C dX2_energyIn_96 ?_
              refine ux_istore_n C dX2_energyIn_97 (fun z => [(3, .int z), (6, .int l6_5), (0, .ref (vA V d)), (1, .ref (vA V c)), (2, .int l2), (4, .int l4), (5, .int l5)]) (fun _ => rfl) (by decide) h (fun l3_14 h => ?_)
              refine ux_sub [2, 3, 4, 0, 6, 1] rfl ?_
              exact hJ_6 l3_14 h
            · refine ux_sub [1, 2, 3, 4, 6, 0] rfl ?_
              exact hJ_6 l3 h
          · refine ux_sub [1, 2, 3, 4, 6, 0] rfl ?_
            exact hJ_11 h
set_option maxRecDepth 100000 in
set_option maxHeartbeats 4000000 in
theorem kX2_energyIn {l : Launch} {V : uV} (W0 : uWC l V) {d : Nat} (hd : kDev d) {c : Nat} (hc : kCache c) {p2 : Int32} {st : uSt} {r : Int32} (h : fX2_energyIn d c p2 st = some r) : uMet l V yX2_energyIn cX2_energyIn 7 (some .int) 1 22 0 0 [.ref (vA V d), .ref (vA V c), .int p2] st (some (.int r)) st := by
  refine ux_met W0.1 W0.2.1 (by decide) rfl (Nat.le_of_ble_eq_true rfl) (fun M hL hr C => ?_)
  subst hL
  have C : uCx M V cX2_energyIn 7 RX2 1 22 0 0 := C
  unfold fX2_energyIn at h
  refine ux_iconst (v := 0) C dX2_energyIn_0 (by decide) ?_
  refine ux_istoreK_n C dX2_energyIn_1 rfl (by decide) ?_
  refine ux_iconst (v := (-1)) C dX2_energyIn_2 (by decide) ?_
  refine ux_istoreK C dX2_energyIn_3 rfl (by decide) ?_
  refine ux_iconst (v := 0) C dX2_energyIn_5 (by decide) ?_
  refine ux_istoreK C dX2_energyIn_6 rfl (by decide) ?_
  refine ux_sub [3, 4, 5, 2, 1, 0] rfl ?_
  refine wX2_energyIn_8 W0 C hr hd hc (fun l3_15 h => ?_) _ _ _ _ h
  refine ux_iload_n C dX2_energyIn_118 0 rfl ?_
  exact ux_iret C hr dX2_energyIn_119 h (Nat.le_of_ble_eq_true rfl) (Nat.le_of_ble_eq_true rfl)
set_option maxRecDepth 100000 in
set_option maxHeartbeats 4000000 in
theorem kX3_copyFrom {l : Launch} {V : uV} (W0 : uWC l V) {q : Nat} (hq : kRules q) {q2 : Nat} (hq2 : kRules q2) {st : uSt} {s9 : uSt} (h : fX3_copyFrom q q2 st = some ((), s9)) : uMet l V yX3_copyFrom cX3_copyFrom 2 none 0 0 0 0 [.ref (vA V q), .ref (vA V q2)] st none s9 := by
  refine ux_met W0.1 W0.2.1 (by decide) rfl (Nat.le_of_ble_eq_true rfl) (fun M hL hr C => ?_)
  subst hL
  have C : uCx M V cX3_copyFrom 2 RX3 0 0 0 0 := C
  unfold fX3_copyFrom at h
  refine ux_aload_n C dX3_copyFrom_0 0 rfl ?_
  refine ux_aload_n C dX3_copyFrom_1 1 rfl ?_
  refine ux_get C fl_X3_9 dX3_copyFrom_2 (oRules W0 hq2) rfl ?_
  refine ux_puti C fp_X3_9 dX3_copyFrom_5 (oRules W0 hq) (Nat.le_of_ble_eq_true rfl) rfl h (fun st_1 h => ?_)
  refine ux_aload_n C dX3_copyFrom_8 0 rfl ?_
  refine ux_aload_n C dX3_copyFrom_9 1 rfl ?_
  refine ux_get C fl_X3_15 dX3_copyFrom_10 (oRules W0 hq2) rfl ?_
  refine ux_puti C fp_X3_15 dX3_copyFrom_13 (oRules W0 hq) (Nat.le_of_ble_eq_true rfl) rfl h (fun st_2 h => ?_)
  refine ux_aload_n C dX3_copyFrom_16 0 rfl ?_
  refine ux_aload_n C dX3_copyFrom_17 1 rfl ?_
  refine ux_get C fl_X3_18 dX3_copyFrom_18 (oRules W0 hq2) rfl ?_
  refine ux_puti C fp_X3_18 dX3_copyFrom_21 (oRules W0 hq) (Nat.le_of_ble_eq_true rfl) rfl h (fun st_3 h => ?_)
  refine ux_aload_n C dX3_copyFrom_24 0 rfl ?_
  refine ux_aload_n C dX3_copyFrom_25 1 rfl ?_
  refine ux_get C fl_X3_21 dX3_copyFrom_26 (oRules W0 hq2) rfl ?_
  refine ux_puti C fp_X3_21 dX3_copyFrom_29 (oRules W0 hq) (Nat.le_of_ble_eq_true rfl) rfl h (fun st_4 h => ?_)
  exact ux_vret C hr dX3_copyFrom_32 h (Nat.le_of_ble_eq_true rfl) (Nat.le_of_ble_eq_true rfl)
set_option maxRecDepth 100000 in
set_option maxHeartbeats 4000000 in
theorem kX3_setDefaults {l : Launch} {V : uV} (W0 : uWC l V) {q : Nat} (hq : kRules q) {st : uSt} {s9 : uSt} (h : fX3_setDefaults q st = some ((), s9)) : uMet l V yX3_setDefaults cX3_setDefaults 1 none 0 0 0 0 [.ref (vA V q)] st none s9 := by
  refine ux_met W0.1 W0.2.1 (by decide) rfl (Nat.le_of_ble_eq_true rfl) (fun M hL hr C => ?_)
  subst hL
  have C : uCx M V cX3_setDefaults 1 RX3 0 0 0 0 := C
  unfold fX3_setDefaults at h
  refine ux_aload_n C dX3_setDefaults_0 0 rfl ?_
  refine ux_iconst (v := 0) C dX3_setDefaults_1 (by decide) ?_
  refine ux_puti C fp_X3_9 dX3_setDefaults_2 (oRules W0 hq) (Nat.le_of_ble_eq_true rfl) rfl h (fun st_1 h => ?_)
  refine ux_aload_n C dX3_setDefaults_5 0 rfl ?_
  refine ux_bipush (v := 24) C dX3_setDefaults_6 (by decide) ?_
  refine ux_puti C fp_X3_15 dX3_setDefaults_8 (oRules W0 hq) (Nat.le_of_ble_eq_true rfl) rfl h (fun st_2 h => ?_)
  refine ux_aload_n C dX3_setDefaults_11 0 rfl ?_
  refine ux_iconst (v := 0) C dX3_setDefaults_12 (by decide) ?_
  refine ux_puti C fp_X3_18 dX3_setDefaults_13 (oRules W0 hq) (Nat.le_of_ble_eq_true rfl) rfl h (fun st_3 h => ?_)
  refine ux_aload_n C dX3_setDefaults_16 0 rfl ?_
  refine ux_iconst (v := 0) C dX3_setDefaults_17 (by decide) ?_
  refine ux_puti C fp_X3_21 dX3_setDefaults_18 (oRules W0 hq) (Nat.le_of_ble_eq_true rfl) rfl h (fun st_4 h => ?_)
  exact ux_vret C hr dX3_setDefaults_21 h (Nat.le_of_ble_eq_true rfl) (Nat.le_of_ble_eq_true rfl)
set_option maxRecDepth 100000 in
set_option maxHeartbeats 4000000 in
theorem kJ6_bitCount_0f7a4 {l : Launch} {V : uV} (W0 : uWC l V) {p0 : Int32} {st : uSt} {r : Int32} (h : fJ6_bitCount_0f7a4 p0 = some r) : uMet l V yJ6_bitCount_0f7a4 cJ6_bitCount_0f7a4 1 (some .int) 0 0 0 0 [.int p0] st (some (.int r)) st := by
  refine ux_met W0.1 W0.2.1 (by decide) rfl (Nat.le_of_ble_eq_true rfl) (fun M hL hr C => ?_)
  subst hL
  have C : uCx M V cJ6_bitCount_0f7a4 1 RJ6 0 0 0 0 := C
  unfold fJ6_bitCount_0f7a4 at h
  refine ux_iload_n C dJ6_bitCount_0f7a4_0 0 rfl ?_
  refine ux_iload_n C dJ6_bitCount_0f7a4_1 0 rfl ?_
  refine ux_iconst (v := 1) C dJ6_bitCount_0f7a4_2 (by decide) ?_
  refine ux_iushr C dJ6_bitCount_0f7a4_3 ?_
  refine ux_ldcw C ck_J6_265 dJ6_bitCount_0f7a4_4 ?_
  refine ux_iand C dJ6_bitCount_0f7a4_7 ?_
  refine ux_isub C dJ6_bitCount_0f7a4_8 ?_
  refine ux_istore_n C dJ6_bitCount_0f7a4_9 (fun z => [(0, .int z)]) (fun _ => rfl) (by decide) h (fun l0_1 h => ?_)
  refine ux_iload_n C dJ6_bitCount_0f7a4_10 0 rfl ?_
  refine ux_ldcw C ck_J6_266 dJ6_bitCount_0f7a4_11 ?_
  refine ux_iand C dJ6_bitCount_0f7a4_14 ?_
  refine ux_iload_n C dJ6_bitCount_0f7a4_15 0 rfl ?_
  refine ux_iconst (v := 2) C dJ6_bitCount_0f7a4_16 (by decide) ?_
  refine ux_iushr C dJ6_bitCount_0f7a4_17 ?_
  refine ux_ldcw C ck_J6_266 dJ6_bitCount_0f7a4_18 ?_
  refine ux_iand C dJ6_bitCount_0f7a4_21 ?_
  refine ux_iadd C dJ6_bitCount_0f7a4_22 ?_
  refine ux_istore_n C dJ6_bitCount_0f7a4_23 (fun z => [(0, .int z)]) (fun _ => rfl) (by decide) h (fun l0_2 h => ?_)
  refine ux_iload_n C dJ6_bitCount_0f7a4_24 0 rfl ?_
  refine ux_iload_n C dJ6_bitCount_0f7a4_25 0 rfl ?_
  refine ux_iconst (v := 4) C dJ6_bitCount_0f7a4_26 (by decide) ?_
  refine ux_iushr C dJ6_bitCount_0f7a4_27 ?_
  refine ux_iadd C dJ6_bitCount_0f7a4_28 ?_
  refine ux_ldcw C ck_J6_267 dJ6_bitCount_0f7a4_29 ?_
  refine ux_iand C dJ6_bitCount_0f7a4_32 ?_
  refine ux_istore_n C dJ6_bitCount_0f7a4_33 (fun z => [(0, .int z)]) (fun _ => rfl) (by decide) h (fun l0_3 h => ?_)
  refine ux_iload_n C dJ6_bitCount_0f7a4_34 0 rfl ?_
  refine ux_iload_n C dJ6_bitCount_0f7a4_35 0 rfl ?_
  refine ux_bipush (v := 8) C dJ6_bitCount_0f7a4_36 (by decide) ?_
  refine ux_iushr C dJ6_bitCount_0f7a4_38 ?_
  refine ux_iadd C dJ6_bitCount_0f7a4_39 ?_
  refine ux_istore_n C dJ6_bitCount_0f7a4_40 (fun z => [(0, .int z)]) (fun _ => rfl) (by decide) h (fun l0_4 h => ?_)
  refine ux_iload_n C dJ6_bitCount_0f7a4_41 0 rfl ?_
  refine ux_iload_n C dJ6_bitCount_0f7a4_42 0 rfl ?_
  refine ux_bipush (v := 16) C dJ6_bitCount_0f7a4_43 (by decide) ?_
  refine ux_iushr C dJ6_bitCount_0f7a4_45 ?_
  refine ux_iadd C dJ6_bitCount_0f7a4_46 ?_
  refine ux_istore_n C dJ6_bitCount_0f7a4_47 (fun z => [(0, .int z)]) (fun _ => rfl) (by decide) h (fun l0_5 h => ?_)
  refine ux_iload_n C dJ6_bitCount_0f7a4_48 0 rfl ?_
  refine ux_bipush (v := 63) C dJ6_bitCount_0f7a4_49 (by decide) ?_
  refine ux_iand C dJ6_bitCount_0f7a4_51 ?_
  exact ux_iret C hr dJ6_bitCount_0f7a4_52 h (Nat.le_of_ble_eq_true rfl) (Nat.le_of_ble_eq_true rfl)
