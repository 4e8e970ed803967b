def fX8_greater  (p0 : Int64) (p2 : Int64) : Option Int64 :=
  (if (lg_cmp p0 p2) ≤ 0 then some p2 else some p0)
def fX8_merges_2   (ke : uSt → Option (Unit × uSt)) : Nat → uSt → Int32 → Option (Unit × uSt)
  | 0, _, _ => none
  | n + 1, st, l1 =>
    (if (500 : Int32) < l1 then (ke st) else og (inB ((3 : Int32) * l1) 1503) (og (inB (((3 : Int32) * l1) + (1 : Int32)) 1503) (og (inB (((3 : Int32) * l1) + (2 : Int32)) 1503) (ob (fX8_greater (st.2.1 7 (((3 : Int32) * l1) + (1 : Int32)).toNatClampNeg) (st.2.1 7 (((3 : Int32) * l1) + (2 : Int32)).toNatClampNeg)) (fun x_2 => ob (fX8_greater (st.2.1 7 ((3 : Int32) * l1).toNatClampNeg) x_2) (fun x_3 => og (inB ((3 : Int32) * l1) 1503) (ol (sL st 7 ((3 : Int32) * l1).toNatClampNeg x_3) (fun st_4 => og (inB (((3 : Int32) * l1) + (1 : Int32)) 1503) (ol (sL st_4 7 (((3 : Int32) * l1) + (1 : Int32)).toNatClampNeg (-1 : Int64)) (fun st_5 => og (inB (((3 : Int32) * l1) + (2 : Int32)) 1503) (ol (sL st_5 7 (((3 : Int32) * l1) + (2 : Int32)).toNatClampNeg (-1 : Int64)) (fun st_6 => ol (l1 + 1) (fun l1_7 => fX8_merges_2 ke n st_6 l1_7)))))))))))))
def fX8_merges   (st : uSt) : Option (Unit × uSt) :=
  fX8_merges_2 (fun st_8 => some ((), st_8)) FU st (0 : Int32)
def fX8_takesBlock_30  (l2 : Int32) (l3 : Int32) (l4 : Int64) (ke : uSt → Option (Unit × uSt)) : Nat → uSt → Int32 → Option (Unit × uSt)
  | 0, _, _ => none
  | n + 1, st, l6 =>
    (if (1503 : Int32) ≤ l6 then (ke st) else og (inB l6 1503) (ol (sL st 8 l6.toNatClampNeg (-1 : Int64)) (fun st_6 => ol (l6 + 1) (fun l6_7 => fX8_takesBlock_30 l2 l3 l4 ke n st_6 l6_7))))
def fX8_takesBlock_148  (l2 : Int32) (l3 : Int32) (l4 : Int64) (l6 : Int32) (ke : uSt → Option (Unit × uSt)) : Nat → uSt → Int32 → Option (Unit × uSt)
  | 0, _, _ => none
  | n + 1, st, l7 =>
    (if (3 : Int32) ≤ l7 then (ke st) else og (inB (l3 + (2 : Int32)) 109) (oj1 (fun (v_17 : Int32) => oj1 (fun (v_19 : Int32) => ol (((l6 + (st.1 1 (l3 + (2 : Int32)).toNatClampNeg)) + v_17) + v_19) (fun l8_20 => og (inB (((3 : Int32) * l6) + l7) 1503) ((if (lg_cmp (st.2.1 7 (((3 : Int32) * l6) + l7).toNatClampNeg) (-1 : Int64)) = 0 then ol (l7 + 1) (fun l7_21 => fX8_takesBlock_148 l2 l3 l4 l6 ke n st l7_21) else (if l8_20 ≤ (500 : Int32) then og (inB (((3 : Int32) * l8_20) + (2 : Int32)) 1503) (og (inB (((3 : Int32) * l6) + l7) 1503) (ob (fX8_greater (st.2.1 8 (((3 : Int32) * l8_20) + (2 : Int32)).toNatClampNeg) ((st.2.1 7 (((3 : Int32) * l6) + l7).toNatClampNeg) + l4)) (fun x_22 => og (inB (((3 : Int32) * l8_20) + (2 : Int32)) 1503) (ol (sL st 8 (((3 : Int32) * l8_20) + (2 : Int32)).toNatClampNeg x_22) (fun st_23 => ol (l7 + 1) (fun l7_24 => fX8_takesBlock_148 l2 l3 l4 l6 ke n st_23 l7_24)))))) else ol (l7 + 1) (fun l7_25 => fX8_takesBlock_148 l2 l3 l4 l6 ke n st l7_25)))))) (fun j_18 => (if l7 = 0 then og (inB (l3 + (0 : Int32)) 109) ((j_18 (st.1 1 (l3 + (0 : Int32)).toNatClampNeg))) else (j_18 (0 : Int32))))) (fun j_16 => oj0 (og (inB (l3 + (1 : Int32)) 109) ((j_16 (st.1 1 (l3 + (1 : Int32)).toNatClampNeg)))) (fun j_26 => (if l7 = (2 : Int32) then (if l2 = 0 then j_26 else (j_16 (0 : Int32))) else j_26)))))
def fX8_takesBlock_57  (l2 : Int32) (l3 : Int32) (l4 : Int64) (ke : uSt → Option (Unit × uSt)) : Nat → uSt → Int32 → Option (Unit × uSt)
  | 0, _, _ => none
  | n + 1, st, l6 =>
    (if (500 : Int32) < l6 then (ke st) else og (inB ((3 : Int32) * l6) 1503) (og (inB ((3 : Int32) * l6) 1503) (ob (fX8_greater (st.2.1 8 ((3 : Int32) * l6).toNatClampNeg) (st.2.1 7 ((3 : Int32) * l6).toNatClampNeg)) (fun x_10 => og (inB ((3 : Int32) * l6) 1503) (ol (sL st 8 ((3 : Int32) * l6).toNatClampNeg x_10) (fun st_11 => og (inB (((3 : Int32) * l6) + (1 : Int32)) 1503) (og (inB (((3 : Int32) * l6) + (1 : Int32)) 1503) (og (inB (((3 : Int32) * l6) + (2 : Int32)) 1503) (ob (fX8_greater (st_11.2.1 7 (((3 : Int32) * l6) + (1 : Int32)).toNatClampNeg) (st_11.2.1 7 (((3 : Int32) * l6) + (2 : Int32)).toNatClampNeg)) (fun x_12 => ob (fX8_greater (st_11.2.1 8 (((3 : Int32) * l6) + (1 : Int32)).toNatClampNeg) x_12) (fun x_13 => og (inB (((3 : Int32) * l6) + (1 : Int32)) 1503) (ol (sL st_11 8 (((3 : Int32) * l6) + (1 : Int32)).toNatClampNeg x_13) (fun st_14 => fX8_takesBlock_148 l2 l3 l4 l6 (fun st_27 => ol (l6 + 1) (fun l6_28 => fX8_takesBlock_57 l2 l3 l4 ke n st_27 l6_28)) FU st_14 (0 : Int32))))))))))))))
def fX8_takesBlock_293   (ke : uSt → Option (Unit × uSt)) : Nat → uSt → Int32 → Option (Unit × uSt)
  | 0, _, _ => none
  | n + 1, st, l6 =>
    (if (1503 : Int32) ≤ l6 then (ke st) else og (inB l6 1503) (og (inB l6 1503) (ol (sL st 7 l6.toNatClampNeg (st.2.1 8 l6.toNatClampNeg)) (fun st_31 => ol (l6 + 1) (fun l6_32 => fX8_takesBlock_293 ke n st_31 l6_32)))))
def fX8_takesBlock  (p1 : Int32) (p2 : Int32) (st : uSt) : Option (Unit × uSt) :=
  ob (fX8_deviceOf p1 st) (fun x_1 => ol ((10 : Int32) + ((3 : Int32) * x_1)) (fun l3_2 => ob (fX8_of p1 (1 : Int32) st) (fun x_3 => ol ((x_3.toInt64 <<< ((24 : Int32).toInt64 &&& 63)) - ((1 : Int64) <<< (p1.toInt64 &&& 63))) (fun l4_4 => fX8_takesBlock_30 p2 l3_2 l4_4 (fun st_8 => fX8_takesBlock_57 p2 l3_2 l4_4 (fun st_29 => fX8_takesBlock_293 (fun st_33 => some ((), st_33)) FU st_29 (0 : Int32)) FU st_8 (0 : Int32)) FU st (0 : Int32)))))
def fX8_weighs_2  (l1 : Int32) (ke : uSt → Option (Unit × uSt)) : Nat → uSt → Int32 → Option (Unit × uSt)
  | 0, _, _ => none
  | n + 1, st, l2 =>
    (if (1503 : Int32) ≤ l2 then (ke st) else og (inB l2 1503) (ol (sL st 7 l2.toNatClampNeg (-1 : Int64)) (fun st_2 => ol (l2 + 1) (fun l2_3 => fX8_weighs_2 l1 ke n st_2 l2_3))))
def fX8_weighs_33  (l1 : Int32) (ke : uSt → Option (Unit × uSt)) : Nat → uSt → Int32 → Option (Unit × uSt)
  | 0, _, _ => none
  | n + 1, st, l2 =>
    (if (st.1 1 36) ≤ l2 then (ke st) else oj1 (fun (v_8 : Int32) => oj1 (fun (st_11 : uSt) => ob (fX8_deviceOf l2 st_11) (fun x_12 => ob (fX8_has l1 x_12) (fun x_13 => (if x_13 = 0 then oj1 (fun (v_15 : Int32) => obV (fX8_takesBlock l2 v_15 st_11) (fun st_16 => ol (l2 + 1) (fun l2_17 => fX8_weighs_33 l1 ke n st_16 l2_17))) (fun j_14 => oj0 ((j_14 (0 : Int32))) (fun j_18 => (if v_8 = 0 then j_18 else ob (fX8_of (l2 - (1 : Int32)) (0 : Int32) st_11) (fun x_19 => ob (fX8_of l2 (0 : Int32) st_11) (fun x_20 => (if (x_19 + (1 : Int32)) = x_20 then (j_14 (1 : Int32)) else j_18)))))) else ol (l2 + 1) (fun l2_21 => fX8_weighs_33 l1 ke n st_11 l2_21))))) (fun j_10 => (if v_8 = 0 then obV (fX8_merges st) (fun st_22 => (j_10 st_22)) else (j_10 st)))) (fun j_7 => oj0 ((j_7 (0 : Int32))) (fun j_23 => (if l2 ≤ 0 then j_23 else ob (fX8_deviceOf (l2 - (1 : Int32)) st) (fun x_24 => ob (fX8_deviceOf l2 st) (fun x_25 => (if x_24 = x_25 then (j_7 (1 : Int32)) else j_23)))))))
def fX8_weighs_134   (ke : uSt → Option (Unit × uSt)) : Nat → uSt → Int32 → Option (Unit × uSt)
  | 0, _, _ => none
  | n + 1, st, l2 =>
    (if (500 : Int32) < l2 then (ke st) else og (inB ((3 : Int32) * l2) 1503) (og (inB l2 501) (ol (sL st 9 l2.toNatClampNeg (st.2.1 7 ((3 : Int32) * l2).toNatClampNeg)) (fun st_29 => ol (l2 + 1) (fun l2_30 => fX8_weighs_134 ke n st_29 l2_30)))))
def fX8_weighs  (p1 : Int32) (st : uSt) : Option (Unit × uSt) :=
  fX8_weighs_2 p1 (fun st_4 => ol (sL st_4 7 0 (0 : Int64)) (fun st_5 => fX8_weighs_33 p1 (fun st_26 => obV (fX8_merges st_26) (fun st_27 => fX8_weighs_134 (fun st_31 => some ((), st_31)) FU st_27 (0 : Int32))) FU st_5 (0 : Int32))) FU st (0 : Int32)
def fX8_valueBy  (p1 : Int32) (st : uSt) : Option Int32 :=
  og (inB p1 501) ((if (lg_cmp (st.2.1 9 p1.toNatClampNeg) (-1 : Int64)) = 0 then some (-1 : Int32) else og (inB p1 501) (some (((((st.2.1 9 p1.toNatClampNeg) + (16777216 : Int64)) - (1 : Int64)) >>> ((24 : Int32).toInt64 &&& 63)).toInt32))))
def fX8_leastOf_4  (l1 : Int32) (st : uSt) (ke : Int32 → Option Int32) : Nat → Int32 → Int32 → Option Int32
  | 0, _, _ => none
  | n + 1, l2, l3 =>
    (if l1 < l3 then (ke l2) else ob (fX8_valueBy l3 st) (fun x_3 => ob (fX8_valueBy l2 st) (fun x_4 => oj1 (fun (v_6 : Int32) => ol (l3 + 1) (fun l3_8 => fX8_leastOf_4 l1 st ke n v_6 l3_8)) (fun j_5 => (if x_3 ≤ x_4 then (j_5 l2) else (j_5 l3))))))
def fX8_leastOf  (p1 : Int32) (st : uSt) : Option Int32 :=
  fX8_leastOf_4 p1 st (fun l2_9 => some l2_9) FU (0 : Int32) (1 : Int32)
def fX8_bestOf  (p1 : Int32) (st : uSt) : Option Int32 :=
  ob (fX8_leastOf p1 st) (fun x_1 => ob (fX8_valueBy x_1 st) (fun x_3 => og (inB x_1 501) (some (((x_3.toInt64 <<< ((24 : Int32).toInt64 &&& 63)) - (st.2.1 9 x_1.toNatClampNeg)).toInt32))))
def fX8_flushes  (p1 : Int32) (st : uSt) : Option (Int32 × uSt) :=
  ob (fX8_valueIn p1 st) (fun x_1 => ob (fX8_energyIn p1 st) (fun x_3 => obV (fX8_drains x_3 st) (fun st_4 => ob (fX8_bits p1) (fun x_5 => ol (sI st_4 1 31 ((st_4.1 1 31) + x_5)) (fun st_6 => ol (sI st_6 1 33 ((st_6.1 1 33) + x_1)) (fun st_7 => obV (fX8_allGo p1 st_7) (fun st_8 => some (x_1, st_8))))))))
def fX8_flush   (st : uSt) : Option (Int32 × uSt) :=
  ol (sI st 0 0 (0 : Int32)) (fun st_1 => oj1 (fun (v_3 : Int32) => obS (fX8_may v_3 (1 : Int32) st_1) (fun x_5 st_4 => (if x_5 = 0 then some ((0 : Int32), st_4) else obV (fX8_weighs (st_4.1 1 25) st_4) (fun st_6 => ob (fX8_bestOf (st_6.1 1 1) st_6) (fun x_7 => obS (fX8_flushes x_7 st_6) (fun x_9 st_8 => some (x_9, st_8))))))) (fun j_2 => (if (st_1.1 1 27) = 0 then (j_2 (1 : Int32)) else (j_2 (0 : Int32)))))
def fX8_flushDevice  (p1 : Int32) (st : uSt) : Option (Int32 × uSt) :=
  ol (sI st 0 0 (0 : Int32)) (fun st_1 => ob (fX8_isDevice p1 st_1) (fun x_2 => obS (fX8_may x_2 (1 : Int32) st_1) (fun x_4 st_3 => (if x_4 = 0 then some ((0 : Int32), st_3) else oj1 (fun (v_6 : Int32) => obS (fX8_may v_6 (2 : Int32) st_3) (fun x_8 st_7 => (if x_8 = 0 then some ((0 : Int32), st_7) else ob (fX8_setOf p1 st_7) (fun x_9 => obS (fX8_flushes x_9 st_7) (fun x_11 st_10 => some (x_11, st_10)))))) (fun j_5 => oj0 ((j_5 (0 : Int32))) (fun j_12 => (if (st_3.1 1 27) = 0 then ob (fX8_hasFailed p1 st_3) (fun x_13 => (if x_13 = 0 then ob (fX8_setOf p1 st_3) (fun x_14 => ob (fX8_energyIn x_14 st_3) (fun x_15 => (if (st_3.1 1 1) < x_15 then j_12 else (j_5 (1 : Int32))))) else j_12)) else j_12)))))))
def fX8_valueWithin  (p1 : Int32) (p2 : Int32) (st : uSt) : Option (Int32 × uSt) :=
  obV (fX8_weighs p1 st) (fun st_1 => ob (fX8_leastOf p2 st_1) (fun x_2 => ob (fX8_valueBy x_2 st_1) (fun x_3 => some (x_3, st_1))))
def fX8_need   (st : uSt) : Option (Int32 × uSt) :=
  ol (sI st 0 0 (0 : Int32)) (fun st_1 => ob (fX8_needed st_1) (fun x_2 => some (x_2, st_1)))
def fX8_isSet  (p1 : Int32) (st : uSt) : Option Int32 :=
  ob (fX8_all st) (fun x_1 => (if (p1 &&& (x_1 ^^^ (-1 : Int32))) = 0 then some (1 : Int32) else some (0 : Int32)))
def fX8_energyOf  (p1 : Int32) (st : uSt) : Option (Int32 × uSt) :=
  ol (sI st 0 0 (0 : Int32)) (fun st_1 => ob (fX8_isSet p1 st_1) (fun x_2 => obS (fX8_may x_2 (1 : Int32) st_1) (fun x_4 st_3 => (if x_4 = 0 then some ((0 : Int32), st_3) else ob (fX8_energyIn p1 st_3) (fun x_5 => some (x_5, st_3))))))
def fX8_valueOf  (p1 : Int32) (st : uSt) : Option (Int32 × uSt) :=
  ol (sI st 0 0 (0 : Int32)) (fun st_1 => ob (fX8_isSet p1 st_1) (fun x_2 => obS (fX8_may x_2 (1 : Int32) st_1) (fun x_4 st_3 => (if x_4 = 0 then some ((0 : Int32), st_3) else ob (fX8_valueIn p1 st_3) (fun x_5 => some (x_5, st_3))))))
def fX8_isEnergy  (p1 : Int32) : Option Int32 :=
  ob (fX8_isIn p1 (0 : Int32) (500 : Int32)) (fun x_1 => og (isB x_1) (some x_1))
def fX8_bestSet  (p1 : Int32) (st : uSt) : Option (Int32 × uSt) :=
  ol (sI st 0 0 (0 : Int32)) (fun st_1 => ob (fX8_isEnergy p1) (fun x_2 => obS (fX8_may x_2 (1 : Int32) st_1) (fun x_4 st_3 => (if x_4 = 0 then some ((0 : Int32), st_3) else obV (fX8_weighs (st_3.1 1 25) st_3) (fun st_5 => ob (fX8_bestOf p1 st_5) (fun x_6 => some (x_6, st_5)))))))
def fX8_bestValue  (p1 : Int32) (st : uSt) : Option (Int32 × uSt) :=
  ol (sI st 0 0 (0 : Int32)) (fun st_1 => ob (fX8_isEnergy p1) (fun x_2 => obS (fX8_may x_2 (1 : Int32) st_1) (fun x_4 st_3 => (if x_4 = 0 then some ((0 : Int32), st_3) else obS (fX8_valueWithin (st_3.1 1 25) p1 st_3) (fun x_6 st_5 => some (x_6, st_5))))))
def fX8_greedyOf_17  (l1 : Int32) (l2 : Int32) (l3 : Int32) (st : uSt) (ke : Int32 → Option Int32) : Nat → Int32 → Int32 → Option Int32
  | 0, _, _ => none
  | n + 1, l4, l5 =>
    (if (st.1 1 36) ≤ l5 then (ke l4) else ob (fX8_has l3 l5) (fun x_6 => (if x_6 = 0 then ol (l5 + 1) (fun l5_7 => fX8_greedyOf_17 l1 l2 l3 st ke n l4 l5_7) else oj0 (ol (l5 + 1) (fun l5_10 => fX8_greedyOf_17 l1 l2 l3 st ke n l5 l5_10)) (fun j_8 => (if l4 = (-1 : Int32) then j_8 else ob (fX8_of l5 (1 : Int32) st) (fun x_11 => ob (fX8_of l4 (1 : Int32) st) (fun x_12 => (if x_11 ≤ x_12 then ol (l5 + 1) (fun l5_13 => fX8_greedyOf_17 l1 l2 l3 st ke n l4 l5_13) else j_8))))))))
def fX8_greedyOf_7  (l1 : Int32) (st : uSt) (ke : Int32 → Option Int32) : Nat → Int32 → Int32 → Option Int32
  | 0, _, _ => none
  | n + 1, l2, l3 =>
    (if l3 = 0 then (ke l2) else fX8_greedyOf_17 l1 l2 l3 st (fun l4_14 => ol (l3 &&& (((1 : Int32) <<< (l4_14 &&& 31)) ^^^ (-1 : Int32))) (fun l3_15 => ob (fX8_energyIn (l2 ||| ((1 : Int32) <<< (l4_14 &&& 31))) st) (fun x_16 => oj1 (fun (v_18 : Int32) => ol (l2 ||| v_18) (fun l2_19 => fX8_greedyOf_7 l1 st ke n l2_19 l3_15)) (fun j_17 => (if l1 < x_16 then (j_17 (0 : Int32)) else (j_17 ((1 : Int32) <<< (l4_14 &&& 31)))))))) FU (-1 : Int32) (0 : Int32))
def fX8_greedyOf  (p1 : Int32) (st : uSt) : Option Int32 :=
  ob (fX8_possible st) (fun x_2 => fX8_greedyOf_7 p1 st (fun l2_20 => some l2_20) FU (0 : Int32) x_2)
def fX8_greedySet  (p1 : Int32) (st : uSt) : Option (Int32 × uSt) :=
  ol (sI st 0 0 (0 : Int32)) (fun st_1 => ob (fX8_isEnergy p1) (fun x_2 => obS (fX8_may x_2 (1 : Int32) st_1) (fun x_4 st_3 => (if x_4 = 0 then some ((0 : Int32), st_3) else ob (fX8_greedyOf p1 st_3) (fun x_5 => some (x_5, st_3))))))
def fX8_energyFor_36  (l1 : Int32) (st : uSt) (ke : Option (Int32 × uSt)) : Nat → Int32 → Option (Int32 × uSt)
  | 0, _ => none
  | n + 1, l2 =>
    (if (500 : Int32) < l2 then ke else ob (fX8_valueBy l2 st) (fun x_7 => (if x_7 < l1 then ol (l2 + 1) (fun l2_8 => fX8_energyFor_36 l1 st ke n l2_8) else some (l2, st))))
def fX8_energyFor  (p1 : Int32) (st : uSt) : Option (Int32 × uSt) :=
  ol (sI st 0 0 (0 : Int32)) (fun st_1 => ob (fX8_isIn p1 (0 : Int32) (2376 : Int32)) (fun x_2 => obS (fX8_may x_2 (1 : Int32) st_1) (fun x_4 st_3 => (if x_4 = 0 then some ((0 : Int32), st_3) else obV (fX8_weighs (st_3.1 1 25) st_3) (fun st_5 => fX8_energyFor_36 p1 st_5 (ol (sI st_5 0 0 (2 : Int32)) (fun st_9 => some ((0 : Int32), st_9))) FU (0 : Int32))))))
def fX8_extra  (p1 : Int32) (st : uSt) : Option (Int32 × uSt) :=
  ol (sI st 0 0 (0 : Int32)) (fun st_1 => ob (fX8_isBlock p1 st_1) (fun x_2 => obS (fX8_may x_2 (1 : Int32) st_1) (fun x_4 st_3 => (if x_4 = 0 then some ((0 : Int32), st_3) else ob (fX8_deviceOf p1 st_3) (fun x_5 => ob (fX8_hasFailed x_5 st_3) (fun x_6 => oj1 (fun (v_8 : Int32) => obS (fX8_may v_8 (2 : Int32) st_3) (fun x_10 st_9 => (if x_10 = 0 then some ((0 : Int32), st_9) else obV (fX8_weighs (st_9.1 1 25) st_9) (fun st_11 => ob (fX8_bestOf (st_11.1 1 1) st_11) (fun x_12 => ob (fX8_energyIn (x_12 ||| ((1 : Int32) <<< (p1 &&& 31))) st_11) (fun x_14 => ob (fX8_energyIn x_12 st_11) (fun x_15 => some (x_14 - x_15, st_11)))))))) (fun j_7 => (if x_6 = 0 then (j_7 (1 : Int32)) else (j_7 (0 : Int32))))))))))
def fX8_keeps_2   (ke : uSt → Option (Unit × uSt)) : Nat → uSt → Int32 → Option (Unit × uSt)
  | 0, _, _ => none
  | n + 1, st, l1 =>
    (if (109 : Int32) ≤ l1 then (ke st) else og (inB l1 109) (og (inB l1 109) (ol (sI st 4 l1.toNatClampNeg (st.1 1 l1.toNatClampNeg)) (fun st_2 => ol (l1 + 1) (fun l1_3 => fX8_keeps_2 ke n st_2 l1_3)))))
def fX8_keeps   (st : uSt) : Option (Unit × uSt) :=
  fX8_keeps_2 (fun st_4 => some ((), st_4)) FU st (0 : Int32)
def fX8_comesBack_2   (ke : uSt → Option (Unit × uSt)) : Nat → uSt → Int32 → Option (Unit × uSt)
  | 0, _, _ => none
  | n + 1, st, l1 =>
    (if (109 : Int32) ≤ l1 then (ke st) else og (inB l1 109) (og (inB l1 109) (ol (sI st 1 l1.toNatClampNeg (st.1 4 l1.toNatClampNeg)) (fun st_2 => ol (l1 + 1) (fun l1_3 => fX8_comesBack_2 ke n st_2 l1_3)))))
def fX8_comesBack   (st : uSt) : Option (Unit × uSt) :=
  fX8_comesBack_2 (fun st_4 => some ((), st_4)) FU st (0 : Int32)
def fX8_minutesLeft_32  (l1 : Int32) (ke : uSt → Int32 → Option (Int32 × uSt)) : Nat → uSt → Int32 → Option (Int32 × uSt)
  | 0, _, _ => none
  | n + 1, st, l2 =>
    (if (st.1 1 1) < l1 then (ke st l2) else ol (l2 + 1) (fun l2_6 => obV (fX8_minuteWithout st) (fun st_7 => fX8_minutesLeft_32 l1 ke n st_7 l2_6)))
def fX8_minutesLeft   (st : uSt) : Option (Int32 × uSt) :=
  ol (sI st 0 0 (0 : Int32)) (fun st_1 => ob (fX8_needed st_1) (fun x_2 => (if x_2 = 0 then some ((-1 : Int32), st_1) else (if x_2 ≤ (st_1.1 1 1) then obV (fX8_keeps st_1) (fun st_4 => fX8_minutesLeft_32 x_2 (fun st_9 l2_8 => obV (fX8_comesBack st_9) (fun st_10 => some (l2_8, st_10))) FU st_4 (-1 : Int32)) else some ((-1 : Int32), st_1)))))
def fX8_valueAfter_29  (l1 : Int32) (ke : uSt → Option (Int32 × uSt)) : Nat → uSt → Int32 → Option (Int32 × uSt)
  | 0, _, _ => none
  | n + 1, st, l2 =>
    (if l1 ≤ l2 then (ke st) else (if (st.1 1 1) ≤ 0 then (ke st) else obV (fX8_minuteWithout st) (fun st_7 => ol (l2 + 1) (fun l2_8 => fX8_valueAfter_29 l1 ke n st_7 l2_8))))
def fX8_valueAfter  (p1 : Int32) (st : uSt) : Option (Int32 × uSt) :=
  ol (sI st 0 0 (0 : Int32)) (fun st_1 => ob (fX8_isIn p1 (0 : Int32) (1000 : Int32)) (fun x_2 => obS (fX8_may x_2 (1 : Int32) st_1) (fun x_4 st_3 => (if x_4 = 0 then some ((0 : Int32), st_3) else obV (fX8_keeps st_3) (fun st_5 => fX8_valueAfter_29 p1 (fun st_9 => oj2 (fun (v_11 : Int32) (st_12 : uSt) => obV (fX8_comesBack st_12) (fun st_14 => some (v_11, st_14))) (fun j_10 => (if (st_9.1 1 1) = 0 then (j_10 (0 : Int32) st_9) else obS (fX8_valueWithin (st_9.1 1 25) (st_9.1 1 1) st_9) (fun x_16 st_15 => (j_10 x_16 st_15))))) FU st_5 (0 : Int32))))))
def fX8_minutesToSafety   (st : uSt) : Option (Int32 × uSt) :=
  ol (sI st 0 0 (0 : Int32)) (fun st_1 => ob (fX8_needed st_1) (fun x_2 => ol (x_2 + (st_1.1 1 5)) (fun l1_3 => (if (st_1.1 1 1) < l1_3 then (if (st_1.1 1 0) < l1_3 then some ((-1 : Int32), st_1) else (if (st_1.1 1 2) = 0 then some ((-1 : Int32), st_1) else og (nzB (st_1.1 1 2)) (some ((((l1_3 - (st_1.1 1 1)) + (st_1.1 1 2)) - (1 : Int32)) / (st_1.1 1 2), st_1)))) else some ((0 : Int32), st_1)))))
def fX8_gainOfRepair  (p1 : Int32) (st : uSt) : Option (Int32 × uSt) :=
  ol (sI st 0 0 (0 : Int32)) (fun st_1 => ob (fX8_isDevice p1 st_1) (fun x_2 => obS (fX8_may x_2 (1 : Int32) st_1) (fun x_4 st_3 => (if x_4 = 0 then some ((0 : Int32), st_3) else obS (fX8_valueWithin (st_3.1 1 25) (st_3.1 1 1) st_3) (fun x_6 st_5 => obS (fX8_valueWithin ((st_5.1 1 25) &&& (((1 : Int32) <<< (p1 &&& 31)) ^^^ (-1 : Int32))) (st_5.1 1 1) st_5) (fun x_9 st_8 => some (x_9 - x_6, st_8)))))))
def fX8_costliest_9   (st : uSt) (ke : Int32 → Option (Int32 × uSt)) : Nat → Int32 → Int32 → Option (Int32 × uSt)
  | 0, _, _ => none
  | n + 1, l1, l2 =>
    (if (st.1 1 9) ≤ l2 then (ke l1) else ob (fX8_setOf l2 st) (fun x_4 => (if x_4 = 0 then ol (l2 + 1) (fun l2_6 => fX8_costliest_9 st ke n l1 l2_6) else ob (fX8_hasFailed l2 st) (fun x_7 => (if x_7 = 0 then oj1 (fun (v_9 : Int32) => oj0 (ol (l2 + 1) (fun l2_13 => fX8_costliest_9 st ke n l2 l2_13)) (fun j_11 => (if l1 = (-1 : Int32) then j_11 else ob (fX8_energyIn x_4 st) (fun x_14 => ob (fX8_valueIn v_9 st) (fun x_15 => ob (fX8_energyIn v_9 st) (fun x_16 => ob (fX8_valueIn x_4 st) (fun x_17 => (if (x_14 * x_15) ≤ (x_16 * x_17) then ol (l2 + 1) (fun l2_18 => fX8_costliest_9 st ke n l1 l2_18) else j_11)))))))) (fun j_8 => (if l1 = (-1 : Int32) then (j_8 (0 : Int32)) else ob (fX8_setOf l1 st) (fun x_19 => (j_8 x_19)))) else ol (l2 + 1) (fun l2_20 => fX8_costliest_9 st ke n l1 l2_20))))))
def fX8_costliest   (st : uSt) : Option (Int32 × uSt) :=
  ol (sI st 0 0 (0 : Int32)) (fun st_1 => fX8_costliest_9 st_1 (fun l1_21 => oj1 (fun (v_23 : Int32) => obS (fX8_may v_23 (1 : Int32) st_1) (fun x_25 st_24 => (if x_25 = 0 then some ((0 : Int32), st_24) else some (l1_21, st_24)))) (fun j_22 => (if l1_21 = (-1 : Int32) then (j_22 (0 : Int32)) else (j_22 (1 : Int32))))) FU (-1 : Int32) (0 : Int32))
def fX8_save_29  (l1 : Int32) (ke : uSt → Option (Unit × uSt)) : Nat → uSt → Int32 → Option (Unit × uSt)
  | 0, _, _ => none
  | n + 1, st, l2 =>
    (if (109 : Int32) ≤ l2 then (ke st) else og (inB l2 109) (og (inB (((109 : Int32) * l1) + l2) 218) (ol (sI st 3 (((109 : Int32) * l1) + l2).toNatClampNeg (st.1 1 l2.toNatClampNeg)) (fun st_7 => ol (l2 + 1) (fun l2_8 => fX8_save_29 l1 ke n st_7 l2_8)))))
def fX8_save  (p1 : Int32) (st : uSt) : Option (Unit × uSt) :=
  ol (sI st 0 0 (0 : Int32)) (fun st_1 => ob (fX8_isIn p1 (0 : Int32) (1 : Int32)) (fun x_2 => obS (fX8_may x_2 (1 : Int32) st_1) (fun x_4 st_3 => (if x_4 = 0 then some ((), st_3) else og (inB p1 2) (ol (sI st_3 5 p1.toNatClampNeg (1 : Int32)) (fun st_5 => fX8_save_29 p1 (fun st_9 => some ((), st_9)) FU st_5 (0 : Int32)))))))
def fX8_restore_36  (l1 : Int32) (ke : uSt → Option (Unit × uSt)) : Nat → uSt → Int32 → Option (Unit × uSt)
  | 0, _, _ => none
  | n + 1, st, l2 =>
    (if (109 : Int32) ≤ l2 then (ke st) else og (inB (((109 : Int32) * l1) + l2) 218) (og (inB l2 109) (ol (sI st 1 l2.toNatClampNeg (st.1 3 (((109 : Int32) * l1) + l2).toNatClampNeg)) (fun st_8 => ol (l2 + 1) (fun l2_9 => fX8_restore_36 l1 ke n st_8 l2_9)))))
def fX8_restore  (p1 : Int32) (st : uSt) : Option (Unit × uSt) :=
  ol (sI st 0 0 (0 : Int32)) (fun st_1 => ob (fX8_isIn p1 (0 : Int32) (1 : Int32)) (fun x_2 => obS (fX8_may x_2 (1 : Int32) st_1) (fun x_4 st_3 => (if x_4 = 0 then some ((), st_3) else og (inB p1 2) (obS (fX8_may (st_3.1 5 p1.toNatClampNeg) (2 : Int32) st_3) (fun x_6 st_5 => (if x_6 = 0 then some ((), st_5) else fX8_restore_36 p1 (fun st_10 => some ((), st_10)) FU st_5 (0 : Int32))))))))
def fX8_thrown   (st : uSt) : Option Int32 :=
  some (st.1 0 0)
set_option maxRecDepth 100000 in
set_option maxHeartbeats 4000000 in
theorem kX8_greater {l : Launch} {V : uV} (W0 : uWM l V) {p0 : Int64} {p2 : Int64} {st : uSt} {r : Int64} (h : fX8_greater p0 p2 = some r) : uMet l V yX8_greater cX8_greater 4 (some .long) 0 0 0 0 [.long p0, .long p2] st (some (.long r)) st := by
  refine ux_met W0.1 W0.2.1 (by decide) rfl (Nat.le_of_ble_eq_true rfl) (fun M hL hr C => ?_)
  subst hL
  have C : uCx M V cX8_greater 4 RX8 0 0 0 0 := C
  unfold fX8_greater at h
  refine ux_lload_n C dX8_greater_0 0 rfl ?_
  refine ux_lload_n C dX8_greater_1 1 rfl ?_
  refine ux_lcmp C dX8_greater_2 ?_
  refine ux_if_le C dX8_greater_3 h (fun h => ?_) (fun h => ?_)
  · refine ux_lload_n C dX8_greater_10 1 rfl ?_
    exact ux_lret C hr dX8_greater_11 h (Nat.le_of_ble_eq_true rfl) (Nat.le_of_ble_eq_true rfl)
  · refine ux_lload_n C dX8_greater_6 0 rfl ?_
    refine ux_goto C dX8_greater_7 ?_
    exact ux_lret C hr dX8_greater_11 h (Nat.le_of_ble_eq_true rfl) (Nat.le_of_ble_eq_true rfl)
set_option maxRecDepth 100000 in
set_option maxHeartbeats 4000000 in
theorem wX8_merges_2 {M : uM} {V : uV} (W0 : uWM (mL M) V) (C : uCx M V cX8_merges 2 RX8 1 23 0 0) (hr : (mT M).sig.returnType = none) {s9 : uSt} {ke : uSt → Option (Unit × uSt)} (K : ∀ (st : uSt), ke st = some ((), s9) → uW M V (uEnd M V 0 0 none s9) 2 0 0 83 [] [] st) : ∀ (n : Nat) (st : uSt) (l1 : Int32), fX8_merges_2 ke n st l1 = some ((), s9) → uW M V (uEnd M V 0 0 none s9) 2 0 0 2 [(0, .ref (vA V 0)), (1, .int l1)] [] st := by
  intro n
  induction n with
  | zero =>
    intro st l1 h
    rw [fX8_merges_2] at h
    cases h
  | succ n ih =>
    intro st l1 h
    rw [fX8_merges_2] at h
    refine ux_iload_n C dX8_merges_2 1 rfl ?_
    refine ux_sipush (v := 500) C dX8_merges_3 (by decide) ?_
    refine ux_icmp_gt C dX8_merges_6 h (fun h => ?_) (fun h => ?_)
    · refine ux_sub [] rfl ?_
      exact K st h
    · refine ux_aload_n C dX8_merges_9 0 rfl ?_
      refine ux_get C fl_X8_33 dX8_merges_10 (oM W0) rfl ?_
      refine ux_iconst (v := 3) C dX8_merges_13 (by decide) ?_
      refine ux_iload_n C dX8_merges_14 1 rfl ?_
      refine ux_imul C dX8_merges_15 ?_
      refine ux_aload_n C dX8_merges_16 0 rfl ?_
      refine ux_get C fl_X8_33 dX8_merges_17 (oM W0) rfl ?_
      refine ux_iconst (v := 3) C dX8_merges_20 (by decide) ?_
      refine ux_iload_n C dX8_merges_21 1 rfl ?_
      refine ux_imul C dX8_merges_22 ?_
      refine ux_lald C (aM_now W0) dX8_merges_23 h (fun h => ?_)
      refine ux_aload_n C dX8_merges_24 0 rfl ?_
      refine ux_get C fl_X8_33 dX8_merges_25 (oM W0) rfl ?_
      refine ux_iconst (v := 3) C dX8_merges_28 (by decide) ?_
      refine ux_iload_n C dX8_merges_29 1 rfl ?_
      refine ux_imul C dX8_merges_30 ?_
      refine ux_iconst (v := 1) C dX8_merges_31 (by decide) ?_
      refine ux_iadd C dX8_merges_32 ?_
      refine ux_lald C (aM_now W0) dX8_merges_33 h (fun h => ?_)
      refine ux_aload_n C dX8_merges_34 0 rfl ?_
      refine ux_get C fl_X8_33 dX8_merges_35 (oM W0) rfl ?_
      refine ux_iconst (v := 3) C dX8_merges_38 (by decide) ?_
      refine ux_iload_n C dX8_merges_39 1 rfl ?_
      refine ux_imul C dX8_merges_40 ?_
      refine ux_iconst (v := 2) C dX8_merges_41 (by decide) ?_
      refine ux_iadd C dX8_merges_42 ?_
      refine ux_lald C (aM_now W0) dX8_merges_43 h (fun h => ?_)
      obtain ⟨x_2, h1, h⟩ := ob_some h
      refine ux_callSl C cs_X8_233 dX8_merges_44 (kX8_greater W0 h1) rfl (Nat.le_of_ble_eq_true rfl) ⟨(Nat.le_of_ble_eq_true rfl), (Nat.le_of_ble_eq_true rfl)⟩ ⟨(Nat.le_of_ble_eq_true rfl), (Nat.le_of_ble_eq_true rfl)⟩ ?_ rfl
      obtain ⟨x_3, h1, h⟩ := ob_some h
      refine ux_callSl C cs_X8_233 dX8_merges_47 (kX8_greater W0 h1) rfl (Nat.le_of_ble_eq_true rfl) ⟨(Nat.le_of_ble_eq_true rfl), (Nat.le_of_ble_eq_true rfl)⟩ ⟨(Nat.le_of_ble_eq_true rfl), (Nat.le_of_ble_eq_true rfl)⟩ ?_ rfl
      refine ux_last C (aM_now W0) dX8_merges_50 h (fun st_4 h => ?_)
      refine ux_aload_n C dX8_merges_51 0 rfl ?_
      refine ux_get C fl_X8_33 dX8_merges_52 (oM W0) rfl ?_
      refine ux_iconst (v := 3) C dX8_merges_55 (by decide) ?_
      refine ux_iload_n C dX8_merges_56 1 rfl ?_
      refine ux_imul C dX8_merges_57 ?_
      refine ux_iconst (v := 1) C dX8_merges_58 (by decide) ?_
      refine ux_iadd C dX8_merges_59 ?_
      refine ux_ldc2 C ckl_X8_237 dX8_merges_60 ?_
      refine ux_last C (aM_now W0) dX8_merges_63 h (fun st_5 h => ?_)
      refine ux_aload_n C dX8_merges_64 0 rfl ?_
      refine ux_get C fl_X8_33 dX8_merges_65 (oM W0) rfl ?_
      refine ux_iconst (v := 3) C dX8_merges_68 (by decide) ?_
      refine ux_iload_n C dX8_merges_69 1 rfl ?_
      refine ux_imul C dX8_merges_70 ?_
      refine ux_iconst (v := 2) C dX8_merges_71 (by decide) ?_
      refine ux_iadd C dX8_merges_72 ?_
      refine ux_ldc2 C ckl_X8_237 dX8_merges_73 ?_
      refine ux_last C (aM_now W0) dX8_merges_76 h (fun st_6 h => ?_)
      refine ux_iincK C dX8_merges_77 (by decide) 1 rfl (fun z => [(1, .int z), (0, .ref (vA V 0))]) (fun _ => rfl) (by decide) h (fun l1_7 h => ?_)
      refine ux_goto C dX8_merges_80 ?_
      refine ux_sub [1, 0] rfl ?_
      exact ih _ _ h
set_option maxRecDepth 100000 in
set_option maxHeartbeats 4000000 in
theorem kX8_merges {l : Launch} {V : uV} (W0 : uWM l V) {st : uSt} {s9 : uSt} (h : fX8_merges st = some ((), s9)) : uMet l V yX8_merges cX8_merges 2 none 1 23 0 0 [.ref (vA V 0)] st none s9 := by
  refine ux_met W0.1 W0.2.1 (by decide) rfl (Nat.le_of_ble_eq_true rfl) (fun M hL hr C => ?_)
  subst hL
  have C : uCx M V cX8_merges 2 RX8 1 23 0 0 := C
  unfold fX8_merges at h
  refine ux_iconst (v := 0) C dX8_merges_0 (by decide) ?_
  refine ux_istoreK_n C dX8_merges_1 rfl (by decide) ?_
  refine ux_sub [1, 0] rfl ?_
  refine wX8_merges_2 W0 C hr (fun st_8 h => ?_) _ _ _ h
  exact ux_vret C hr dX8_merges_83 h (Nat.le_of_ble_eq_true rfl) (Nat.le_of_ble_eq_true rfl)
set_option maxRecDepth 100000 in
set_option maxHeartbeats 4000000 in
theorem wX8_takesBlock_30 {M : uM} {V : uV} (W0 : uWM (mL M) V) (C : uCx M V cX8_takesBlock 9 RX8 2 43 0 0) (hr : (mT M).sig.returnType = none) {l2 : Int32} {l3 : Int32} {l4 : Int64} {s9 : uSt} {ke : uSt → Option (Unit × uSt)} (K : ∀ (st : uSt), ke st = some ((), s9) → uW M V (uEnd M V 0 0 none s9) 9 0 0 54 [(0, .ref (vA V 0)), (2, .int l2), (3, .int l3), (4, .long l4)] [] st) : ∀ (n : Nat) (st : uSt) (l6 : Int32), fX8_takesBlock_30 l2 l3 l4 ke n st l6 = some ((), s9) → uW M V (uEnd M V 0 0 none s9) 9 0 0 30 [(0, .ref (vA V 0)), (2, .int l2), (3, .int l3), (4, .long l4), (6, .int l6)] [] st := by
  intro n
  induction n with
  | zero =>
    intro st l6 h
    rw [fX8_takesBlock_30] at h
    cases h
  | succ n ih =>
    intro st l6 h
    rw [fX8_takesBlock_30] at h
    refine ux_iload C dX8_takesBlock_30 4 rfl ?_
    refine ux_sipush (v := 1503) C dX8_takesBlock_32 (by decide) ?_
    refine ux_icmp_ge C dX8_takesBlock_35 h (fun h => ?_) (fun h => ?_)
    · refine ux_sub [0, 1, 2, 3] rfl ?_
      exact K st h
    · refine ux_aload_n C dX8_takesBlock_38 0 rfl ?_
      refine ux_get C fl_X8_37 dX8_takesBlock_39 (oM W0) rfl ?_
      refine ux_iload C dX8_takesBlock_42 4 rfl ?_
      refine ux_ldc2 C ckl_X8_237 dX8_takesBlock_44 ?_
      refine ux_last C (aM_then W0) dX8_takesBlock_47 h (fun st_6 h => ?_)
      refine ux_iincK C dX8_takesBlock_48 (by decide) 4 rfl (fun z => [(6, .int z), (0, .ref (vA V 0)), (2, .int l2), (3, .int l3), (4, .long l4)]) (fun _ => rfl) (by decide) h (fun l6_7 h => ?_)
      refine ux_goto C dX8_takesBlock_51 ?_
      refine ux_sub [1, 2, 3, 4, 0] rfl ?_
      exact ih _ _ h
set_option maxRecDepth 100000 in
set_option maxHeartbeats 4000000 in
theorem wX8_takesBlock_148 {M : uM} {V : uV} (W0 : uWM (mL M) V) (C : uCx M V cX8_takesBlock 9 RX8 2 43 0 0) (hr : (mT M).sig.returnType = none) {l2 : Int32} {l3 : Int32} {l4 : Int64} {l6 : Int32} {s9 : uSt} {ke : uSt → Option (Unit × uSt)} (K : ∀ (st : uSt), ke st = some ((), s9) → uW M V (uEnd M V 0 0 none s9) 9 0 0 284 [(0, .ref (vA V 0)), (2, .int l2), (3, .int l3), (4, .long l4), (6, .int l6)] [] st) : ∀ (n : Nat) (st : uSt) (l7 : Int32), fX8_takesBlock_148 l2 l3 l4 l6 ke n st l7 = some ((), s9) → uW M V (uEnd M V 0 0 none s9) 9 0 0 148 [(0, .ref (vA V 0)), (2, .int l2), (3, .int l3), (4, .long l4), (6, .int l6), (7, .int l7)] [] st := by
  intro n
  induction n with
  | zero =>
    intro st l7 h
    rw [fX8_takesBlock_148] at h
    cases h
  | succ n ih =>
    intro st l7 h
    rw [fX8_takesBlock_148] at h
    refine ux_iload C dX8_takesBlock_148 5 rfl ?_
    refine ux_iconst (v := 3) C dX8_takesBlock_150 (by decide) ?_
    refine ux_icmp_ge C dX8_takesBlock_151 h (fun h => ?_) (fun h => ?_)
    · refine ux_sub [0, 1, 2, 3, 4] rfl ?_
      exact K st h
    · refine ux_iload C dX8_takesBlock_154 4 rfl ?_
      refine ux_aload_n C dX8_takesBlock_156 0 rfl ?_
      refine ux_get C fl_X8_7 dX8_takesBlock_157 (oM W0) rfl ?_
      refine ux_iload_n C dX8_takesBlock_160 2 rfl ?_
      refine ux_iconst (v := 2) C dX8_takesBlock_161 (by decide) ?_
      refine ux_iadd C dX8_takesBlock_162 ?_
      refine ux_iald C (aM_a W0) dX8_takesBlock_163 h (fun h => ?_)
      refine ux_iadd C dX8_takesBlock_164 ?_
      refine ux_iload C dX8_takesBlock_165 5 rfl ?_
      refine ux_iconst (v := 2) C dX8_takesBlock_167 (by decide) ?_
      obtain ⟨j_16, hK_16, h⟩ := oj1_some h
      have hJ_16 : ∀ (v_17 : Int32), j_16 v_17 = some ((), s9) → uW M V (uEnd M V 0 0 none s9) 9 0 0 187 [(0, .ref (vA V 0)), (2, .int l2), (3, .int l3), (4, .long l4), (6, .int l6), (7, .int l7)] [.int v_17, .int (l6 + (st.1 1 (l3 + (2 : Int32)).toNatClampNeg))] st := by
        intro v_17 h
        replace h := hK_16 v_17 h
        refine ux_iadd C dX8_takesBlock_187 ?_
        refine ux_iload C dX8_takesBlock_188 5 rfl ?_
        obtain ⟨j_18, hK_18, h⟩ := oj1_some h
        have hJ_18 : ∀ (v_19 : Int32), j_18 v_19 = some ((), s9) → uW M V (uEnd M V 0 0 none s9) 9 0 0 205 [(0, .ref (vA V 0)), (2, .int l2), (3, .int l3), (4, .long l4), (6, .int l6), (7, .int l7)] [.int v_19, .int ((l6 + (st.1 1 (l3 + (2 : Int32)).toNatClampNeg)) + v_17)] st := by
          intro v_19 h
          replace h := hK_18 v_19 h
          refine ux_iadd C dX8_takesBlock_205 ?_
          refine ux_istore C dX8_takesBlock_206 (fun z => [(8, .int z), (0, .ref (vA V 0)), (2, .int l2), (3, .int l3), (4, .long l4), (6, .int l6), (7, .int l7)]) (fun _ => rfl) (by decide) h (fun l8_20 h => ?_)
          refine ux_aload_n C dX8_takesBlock_208 1 rfl ?_
          refine ux_get C fl_X8_33 dX8_takesBlock_209 (oM W0) rfl ?_
          refine ux_iconst (v := 3) C dX8_takesBlock_212 (by decide) ?_
          refine ux_iload C dX8_takesBlock_213 5 rfl ?_
          refine ux_imul C dX8_takesBlock_215 ?_
          refine ux_iload C dX8_takesBlock_216 6 rfl ?_
          refine ux_iadd C dX8_takesBlock_218 ?_
          refine ux_lald C (aM_now W0) dX8_takesBlock_219 h (fun h => ?_)
          refine ux_ldc2 C ckl_X8_237 dX8_takesBlock_220 ?_
          refine ux_lcmp C dX8_takesBlock_223 ?_
          refine ux_if_eq C dX8_takesBlock_224 h (fun h => ?_) (fun h => ?_)
          · refine ux_iincK C dX8_takesBlock_278 (by decide) 6 rfl (fun z => [(7, .int z), (8, .int l8_20), (0, .ref (vA V 0)), (2, .int l2), (3, .int l3), (4, .long l4), (6, .int l6)]) (fun _ => rfl) (by decide) h (fun l7_21 h => ?_)
            refine ux_goto C dX8_takesBlock_281 ?_
            refine ux_sub [2, 3, 4, 5, 6, 0] rfl ?_
            exact ih _ _ h
          · refine ux_iload C dX8_takesBlock_227 0 rfl ?_
            refine ux_sipush (v := 500) C dX8_takesBlock_229 (by decide) ?_
            refine ux_icmp_le C dX8_takesBlock_232 h (fun h => ?_) (fun h => ?_)
            · refine ux_aload_n C dX8_takesBlock_238 1 rfl ?_
              refine ux_get C fl_X8_37 dX8_takesBlock_239 (oM W0) rfl ?_
              refine ux_iconst (v := 3) C dX8_takesBlock_242 (by decide) ?_
              refine ux_iload C dX8_takesBlock_243 0 rfl ?_
              refine ux_imul C dX8_takesBlock_245 ?_
              refine ux_iconst (v := 2) C dX8_takesBlock_246 (by decide) ?_
              refine ux_iadd C dX8_takesBlock_247 ?_
              refine ux_aload_n C dX8_takesBlock_248 1 rfl ?_
              refine ux_get C fl_X8_37 dX8_takesBlock_249 (oM W0) rfl ?_
              refine ux_iconst (v := 3) C dX8_takesBlock_252 (by decide) ?_
              refine ux_iload C dX8_takesBlock_253 0 rfl ?_
              refine ux_imul C dX8_takesBlock_255 ?_
              refine ux_iconst (v := 2) C dX8_takesBlock_256 (by decide) ?_
              refine ux_iadd C dX8_takesBlock_257 ?_
              refine ux_lald C (aM_then W0) dX8_takesBlock_258 h (fun h => ?_)
              refine ux_aload_n C dX8_takesBlock_259 1 rfl ?_
              refine ux_get C fl_X8_33 dX8_takesBlock_260 (oM W0) rfl ?_
              refine ux_iconst (v := 3) C dX8_takesBlock_263 (by decide) ?_
              refine ux_iload C dX8_takesBlock_264 5 rfl ?_
              refine ux_imul C dX8_takesBlock_266 ?_
              refine ux_iload C dX8_takesBlock_267 6 rfl ?_
              refine ux_iadd C dX8_takesBlock_269 ?_
              refine ux_lald C (aM_now W0) dX8_takesBlock_270 h (fun h => ?_)
              refine ux_lload C dX8_takesBlock_271 4 rfl ?_
              refine ux_ladd C dX8_takesBlock_273 ?_
              obtain ⟨x_22, h1, h⟩ := ob_some h
              refine ux_callSl C cs_X8_233 dX8_takesBlock_274 (kX8_greater W0 h1) rfl (Nat.le_of_ble_eq_true rfl) ⟨(Nat.le_of_ble_eq_true rfl), (Nat.le_of_ble_eq_true rfl)⟩ ⟨(Nat.le_of_ble_eq_true rfl), (Nat.le_of_ble_eq_true rfl)⟩ ?_ rfl
              refine ux_last C (aM_then W0) dX8_takesBlock_277 h (fun st_23 h => ?_)
              refine ux_iincK C dX8_takesBlock_278 (by decide) 6 rfl (fun z => [(7, .int z), (8, .int l8_20), (0, .ref (vA V 0)), (2, .int l2), (3, .int l3), (4, .long l4), (6, .int l6)]) (fun _ => rfl) (by decide) h (fun l7_24 h => ?_)
              refine ux_goto C dX8_takesBlock_281 ?_
              refine ux_sub [2, 3, 4, 5, 6, 0] rfl ?_
              exact ih _ _ h
            · refine ux_goto C dX8_takesBlock_235 ?_
              refine ux_iincK C dX8_takesBlock_278 (by decide) 6 rfl (fun z => [(7, .int z), (8, .int l8_20), (0, .ref (vA V 0)), (2, .int l2), (3, .int l3), (4, .long l4), (6, .int l6)]) (fun _ => rfl) (by decide) h (fun l7_25 h => ?_)
              refine ux_goto C dX8_takesBlock_281 ?_
              refine ux_sub [2, 3, 4, 5, 6, 0] rfl ?_
              exact ih _ _ h
        refine ux_if_ne C dX8_takesBlock_190 h (fun h => ?_) (fun h => ?_)
        · refine ux_aload_n C dX8_takesBlock_193 0 rfl ?_
          refine ux_get C fl_X8_7 dX8_takesBlock_194 (oM W0) rfl ?_
          refine ux_iload_n C dX8_takesBlock_197 2 rfl ?_
          refine ux_iconst (v := 0) C dX8_takesBlock_198 (by decide) ?_
          refine ux_iadd C dX8_takesBlock_199 ?_
          refine ux_iald C (aM_a W0) dX8_takesBlock_200 h (fun h => ?_)
          refine ux_goto C dX8_takesBlock_201 ?_
          exact hJ_18 (st.1 1 (l3 + (0 : Int32)).toNatClampNeg) h
        · refine ux_iconst (v := 0) C dX8_takesBlock_204 (by decide) ?_
          exact hJ_18 (0 : Int32) h
      obtain ⟨j_26, hK_26, h⟩ := oj0_some h
      have hJ_26 : j_26 = some ((), s9) → uW M V (uEnd M V 0 0 none s9) 9 0 0 179 [(0, .ref (vA V 0)), (2, .int l2), (3, .int l3), (4, .long l4), (6, .int l6), (7, .int l7)] [.int (l6 + (st.1 1 (l3 + (2 : Int32)).toNatClampNeg))] st := by
        intro h
        replace h := hK_26 h
        refine ux_aload_n C dX8_takesBlock_179 0 rfl ?_
        refine ux_get C fl_X8_7 dX8_takesBlock_180 (oM W0) rfl ?_
        refine ux_iload_n C dX8_takesBlock_183 2 rfl ?_
        refine ux_iconst (v := 1) C dX8_takesBlock_184 (by decide) ?_
        refine ux_iadd C dX8_takesBlock_185 ?_
        refine ux_iald C (aM_a W0) dX8_takesBlock_186 h (fun h => ?_)
        exact hJ_16 (st.1 1 (l3 + (1 : Int32)).toNatClampNeg) h
      refine ux_icmp_ne C dX8_takesBlock_168 h (fun h => ?_) (fun h => ?_)
      · refine ux_iload_n C dX8_takesBlock_171 1 rfl ?_
        refine ux_if_eq C dX8_takesBlock_172 h (fun h => ?_) (fun h => ?_)
        · exact hJ_26 h
        · refine ux_iconst (v := 0) C dX8_takesBlock_175 (by decide) ?_
          refine ux_goto C dX8_takesBlock_176 ?_
          exact hJ_16 (0 : Int32) h
      · exact hJ_26 h
set_option maxRecDepth 100000 in
set_option maxHeartbeats 4000000 in
theorem wX8_takesBlock_57 {M : uM} {V : uV} (W0 : uWM (mL M) V) (C : uCx M V cX8_takesBlock 9 RX8 2 43 0 0) (hr : (mT M).sig.returnType = none) {l2 : Int32} {l3 : Int32} {l4 : Int64} {s9 : uSt} {ke : uSt → Option (Unit × uSt)} (K : ∀ (st : uSt), ke st = some ((), s9) → uW M V (uEnd M V 0 0 none s9) 9 0 0 290 [(0, .ref (vA V 0))] [] st) : ∀ (n : Nat) (st : uSt) (l6 : Int32), fX8_takesBlock_57 l2 l3 l4 ke n st l6 = some ((), s9) → uW M V (uEnd M V 0 0 none s9) 9 0 0 57 [(0, .ref (vA V 0)), (2, .int l2), (3, .int l3), (4, .long l4), (6, .int l6)] [] st := by
  intro n
  induction n with
  | zero =>
    intro st l6 h
    rw [fX8_takesBlock_57] at h
    cases h
  | succ n ih =>
    intro st l6 h
    rw [fX8_takesBlock_57] at h
    refine ux_iload C dX8_takesBlock_57 4 rfl ?_
    refine ux_sipush (v := 500) C dX8_takesBlock_59 (by decide) ?_
    refine ux_icmp_gt C dX8_takesBlock_62 h (fun h => ?_) (fun h => ?_)
    · refine ux_sub [0] rfl ?_
      exact K st h
    · refine ux_aload_n C dX8_takesBlock_65 0 rfl ?_
      refine ux_get C fl_X8_37 dX8_takesBlock_66 (oM W0) rfl ?_
      refine ux_iconst (v := 3) C dX8_takesBlock_69 (by decide) ?_
      refine ux_iload C dX8_takesBlock_70 4 rfl ?_
      refine ux_imul C dX8_takesBlock_72 ?_
      refine ux_aload_n C dX8_takesBlock_73 0 rfl ?_
      refine ux_get C fl_X8_37 dX8_takesBlock_74 (oM W0) rfl ?_
      refine ux_iconst (v := 3) C dX8_takesBlock_77 (by decide) ?_
      refine ux_iload C dX8_takesBlock_78 4 rfl ?_
      refine ux_imul C dX8_takesBlock_80 ?_
      refine ux_lald C (aM_then W0) dX8_takesBlock_81 h (fun h => ?_)
      refine ux_aload_n C dX8_takesBlock_82 0 rfl ?_
      refine ux_get C fl_X8_33 dX8_takesBlock_83 (oM W0) rfl ?_
      refine ux_iconst (v := 3) C dX8_takesBlock_86 (by decide) ?_
      refine ux_iload C dX8_takesBlock_87 4 rfl ?_
      refine ux_imul C dX8_takesBlock_89 ?_
      refine ux_lald C (aM_now W0) dX8_takesBlock_90 h (fun h => ?_)
      obtain ⟨x_10, h1, h⟩ := ob_some h
      refine ux_callSl C cs_X8_233 dX8_takesBlock_91 (kX8_greater W0 h1) rfl (Nat.le_of_ble_eq_true rfl) ⟨(Nat.le_of_ble_eq_true rfl), (Nat.le_of_ble_eq_true rfl)⟩ ⟨(Nat.le_of_ble_eq_true rfl), (Nat.le_of_ble_eq_true rfl)⟩ ?_ rfl
      refine ux_last C (aM_then W0) dX8_takesBlock_94 h (fun st_11 h => ?_)
      refine ux_aload_n C dX8_takesBlock_95 0 rfl ?_
      refine ux_get C fl_X8_37 dX8_takesBlock_96 (oM W0) rfl ?_
      refine ux_iconst (v := 3) C dX8_takesBlock_99 (by decide) ?_
      refine ux_iload C dX8_takesBlock_100 4 rfl ?_
      refine ux_imul C dX8_takesBlock_102 ?_
      refine ux_iconst (v := 1) C dX8_takesBlock_103 (by decide) ?_
      refine ux_iadd C dX8_takesBlock_104 ?_
      refine ux_aload_n C dX8_takesBlock_105 0 rfl ?_
      refine ux_get C fl_X8_37 dX8_takesBlock_106 (oM W0) rfl ?_
      refine ux_iconst (v := 3) C dX8_takesBlock_109 (by decide) ?_
      refine ux_iload C dX8_takesBlock_110 4 rfl ?_
      refine ux_imul C dX8_takesBlock_112 ?_
      refine ux_iconst (v := 1) C dX8_takesBlock_113 (by decide) ?_
      refine ux_iadd C dX8_takesBlock_114 ?_
      refine ux_lald C (aM_then W0) dX8_takesBlock_115 h (fun h => ?_)
      refine ux_aload_n C dX8_takesBlock_116 0 rfl ?_
      refine ux_get C fl_X8_33 dX8_takesBlock_117 (oM W0) rfl ?_
      refine ux_iconst (v := 3) C dX8_takesBlock_120 (by decide) ?_
      refine ux_iload C dX8_takesBlock_121 4 rfl ?_
      refine ux_imul C dX8_takesBlock_123 ?_
      refine ux_iconst (v := 1) C dX8_takesBlock_124 (by decide) ?_
      refine ux_iadd C dX8_takesBlock_125 ?_
      refine ux_lald C (aM_now W0) dX8_takesBlock_126 h (fun h => ?_)
      refine ux_aload_n C dX8_takesBlock_127 0 rfl ?_
      refine ux_get C fl_X8_33 dX8_takesBlock_128 (oM W0) rfl ?_
      refine ux_iconst (v := 3) C dX8_takesBlock_131 (by decide) ?_
      refine ux_iload C dX8_takesBlock_132 4 rfl ?_
      refine ux_imul C dX8_takesBlock_134 ?_
      refine ux_iconst (v := 2) C dX8_takesBlock_135 (by decide) ?_
      refine ux_iadd C dX8_takesBlock_136 ?_
      refine ux_lald C (aM_now W0) dX8_takesBlock_137 h (fun h => ?_)
      obtain ⟨x_12, h1, h⟩ := ob_some h
      refine ux_callSl C cs_X8_233 dX8_takesBlock_138 (kX8_greater W0 h1) rfl (Nat.le_of_ble_eq_true rfl) ⟨(Nat.le_of_ble_eq_true rfl), (Nat.le_of_ble_eq_true rfl)⟩ ⟨(Nat.le_of_ble_eq_true rfl), (Nat.le_of_ble_eq_true rfl)⟩ ?_ rfl
      obtain ⟨x_13, h1, h⟩ := ob_some h
      refine ux_callSl C cs_X8_233 dX8_takesBlock_141 (kX8_greater W0 h1) rfl (Nat.le_of_ble_eq_true rfl) ⟨(Nat.le_of_ble_eq_true rfl), (Nat.le_of_ble_eq_true rfl)⟩ ⟨(Nat.le_of_ble_eq_true rfl), (Nat.le_of_ble_eq_true rfl)⟩ ?_ rfl
      refine ux_last C (aM_then W0) dX8_takesBlock_144 h (fun st_14 h => ?_)
      refine ux_iconst (v := 0) C dX8_takesBlock_145 (by decide) ?_
      refine ux_istoreK C dX8_takesBlock_146 rfl (by decide) ?_
      refine ux_sub [1, 2, 3, 4, 5, 0] rfl ?_
      refine wX8_takesBlock_148 W0 C hr (fun st_27 h => ?_) _ _ _ h
      refine ux_iincK C dX8_takesBlock_284 (by decide) 4 rfl (fun z => [(6, .int z), (0, .ref (vA V 0)), (2, .int l2), (3, .int l3), (4, .long l4)]) (fun _ => rfl) (by decide) h (fun l6_28 h => ?_)
      refine ux_goto C dX8_takesBlock_287 ?_
      refine ux_sub [1, 2, 3, 4, 0] rfl ?_
      exact ih _ _ h
set_option maxRecDepth 100000 in
set_option maxHeartbeats 4000000 in
theorem wX8_takesBlock_293 {M : uM} {V : uV} (W0 : uWM (mL M) V) (C : uCx M V cX8_takesBlock 9 RX8 2 43 0 0) (hr : (mT M).sig.returnType = none) {s9 : uSt} {ke : uSt → Option (Unit × uSt)} (K : ∀ (st : uSt), ke st = some ((), s9) → uW M V (uEnd M V 0 0 none s9) 9 0 0 321 [] [] st) : ∀ (n : Nat) (st : uSt) (l6 : Int32), fX8_takesBlock_293 ke n st l6 = some ((), s9) → uW M V (uEnd M V 0 0 none s9) 9 0 0 293 [(0, .ref (vA V 0)), (6, .int l6)] [] st := by
  intro n
  induction n with
  | zero =>
    intro st l6 h
    rw [fX8_takesBlock_293] at h
    cases h
  | succ n ih =>
    intro st l6 h
    rw [fX8_takesBlock_293] at h
    refine ux_iload C dX8_takesBlock_293 1 rfl ?_
    refine ux_sipush (v := 1503) C dX8_takesBlock_295 (by decide) ?_
    refine ux_icmp_ge C dX8_takesBlock_298 h (fun h => ?_) (fun h => ?_)
    · refine ux_sub [] rfl ?_
      exact K st h
    · refine ux_aload_n C dX8_takesBlock_301 0 rfl ?_
      refine ux_get C fl_X8_33 dX8_takesBlock_302 (oM W0) rfl ?_
      refine ux_iload C dX8_takesBlock_305 1 rfl ?_
      refine ux_aload_n C dX8_takesBlock_307 0 rfl ?_
      refine ux_get C fl_X8_37 dX8_takesBlock_308 (oM W0) rfl ?_
      refine ux_iload C dX8_takesBlock_311 1 rfl ?_
      refine ux_lald C (aM_then W0) dX8_takesBlock_313 h (fun h => ?_)
      refine ux_last C (aM_now W0) dX8_takesBlock_314 h (fun st_31 h => ?_)
      refine ux_iincK C dX8_takesBlock_315 (by decide) 1 rfl (fun z => [(6, .int z), (0, .ref (vA V 0))]) (fun _ => rfl) (by decide) h (fun l6_32 h => ?_)
      refine ux_goto C dX8_takesBlock_318 ?_
      refine ux_sub [1, 0] rfl ?_
      exact ih _ _ h
set_option maxRecDepth 100000 in
set_option maxHeartbeats 4000000 in
theorem kX8_takesBlock {l : Launch} {V : uV} (W0 : uWM l V) {p1 : Int32} {p2 : Int32} {st : uSt} {s9 : uSt} (h : fX8_takesBlock p1 p2 st = some ((), s9)) : uMet l V yX8_takesBlock cX8_takesBlock 9 none 2 43 0 0 [.ref (vA V 0), .int p1, .int p2] st none s9 := by
  refine ux_met W0.1 W0.2.1 (by decide) rfl (Nat.le_of_ble_eq_true rfl) (fun M hL hr C => ?_)
  subst hL
  have C : uCx M V cX8_takesBlock 9 RX8 2 43 0 0 := C
  unfold fX8_takesBlock at h
  refine ux_bipush (v := 10) C dX8_takesBlock_0 (by decide) ?_
  refine ux_iconst (v := 3) C dX8_takesBlock_2 (by decide) ?_
  refine ux_aload_n C dX8_takesBlock_3 0 rfl ?_
  refine ux_iload_n C dX8_takesBlock_4 1 rfl ?_
  obtain ⟨x_1, h1, h⟩ := ob_some h
  refine ux_callVi C cv_X8_166 dX8_takesBlock_5 (oM W0) rfl (kX8_deviceOf W0 h1) rfl (Nat.le_of_ble_eq_true rfl) ⟨(Nat.le_of_ble_eq_true rfl), (Nat.le_of_ble_eq_true rfl)⟩ ⟨(Nat.le_of_ble_eq_true rfl), (Nat.le_of_ble_eq_true rfl)⟩ ?_ rfl
  refine ux_imul C dX8_takesBlock_8 ?_
  refine ux_iadd C dX8_takesBlock_9 ?_
  refine ux_istore_n C dX8_takesBlock_10 (fun z => [(3, .int z), (0, .ref (vA V 0)), (1, .int p1), (2, .int p2)]) (fun _ => rfl) (by decide) h (fun l3_2 h => ?_)
  refine ux_aload_n C dX8_takesBlock_11 1 rfl ?_
  refine ux_iload_n C dX8_takesBlock_12 2 rfl ?_
  refine ux_iconst (v := 1) C dX8_takesBlock_13 (by decide) ?_
  obtain ⟨x_3, h1, h⟩ := ob_some h
  refine ux_callVi C cv_X8_160 dX8_takesBlock_14 (oM W0) rfl (kX8_of W0 h1) rfl (Nat.le_of_ble_eq_true rfl) ⟨(Nat.le_of_ble_eq_true rfl), (Nat.le_of_ble_eq_true rfl)⟩ ⟨(Nat.le_of_ble_eq_true rfl), (Nat.le_of_ble_eq_true rfl)⟩ ?_ rfl
  refine ux_i2l C dX8_takesBlock_17 ?_
  refine ux_bipush (v := 24) C dX8_takesBlock_18 (by decide) ?_
  refine ux_lshl C dX8_takesBlock_20 ?_
  refine ux_lconst (v := 1) C dX8_takesBlock_21 (by decide) ?_
  refine ux_iload_n C dX8_takesBlock_22 2 rfl ?_
  refine ux_lshl C dX8_takesBlock_23 ?_
  refine ux_lsub C dX8_takesBlock_24 ?_
  refine ux_lstore C dX8_takesBlock_25 (fun z => [(4, .long z), (3, .int l3_2), (0, .ref (vA V 0)), (1, .int p1), (2, .int p2)]) (fun _ => rfl) (by decide) h (fun l4_4 h => ?_)
  refine ux_iconst (v := 0) C dX8_takesBlock_27 (by decide) ?_
  refine ux_istoreK C dX8_takesBlock_28 rfl (by decide) ?_
  refine ux_sub [3, 5, 2, 1, 0] rfl ?_
  refine wX8_takesBlock_30 W0 C hr (fun st_8 h => ?_) _ _ _ h
  refine ux_iconst (v := 0) C dX8_takesBlock_54 (by decide) ?_
  refine ux_istoreK C dX8_takesBlock_55 rfl (by decide) ?_
  refine ux_sub [1, 2, 3, 4, 0] rfl ?_
  refine wX8_takesBlock_57 W0 C hr (fun st_29 h => ?_) _ _ _ h
  refine ux_iconst (v := 0) C dX8_takesBlock_290 (by decide) ?_
  refine ux_istoreK C dX8_takesBlock_291 rfl (by decide) ?_
  refine ux_sub [1, 0] rfl ?_
  refine wX8_takesBlock_293 W0 C hr (fun st_33 h => ?_) _ _ _ h
  exact ux_vret C hr dX8_takesBlock_321 h (Nat.le_of_ble_eq_true rfl) (Nat.le_of_ble_eq_true rfl)
set_option maxRecDepth 100000 in
set_option maxHeartbeats 4000000 in
theorem wX8_weighs_2 {M : uM} {V : uV} (W0 : uWM (mL M) V) (C : uCx M V cX8_weighs 4 RX8 3 71 0 0) (hr : (mT M).sig.returnType = none) {l1 : Int32} {s9 : uSt} {ke : uSt → Option (Unit × uSt)} (K : ∀ (st : uSt), ke st = some ((), s9) → uW M V (uEnd M V 0 0 none s9) 4 0 0 24 [(0, .ref (vA V 0)), (1, .int l1)] [] st) : ∀ (n : Nat) (st : uSt) (l2 : Int32), fX8_weighs_2 l1 ke n st l2 = some ((), s9) → uW M V (uEnd M V 0 0 none s9) 4 0 0 2 [(0, .ref (vA V 0)), (1, .int l1), (2, .int l2)] [] st := by
  intro n
  induction n with
  | zero =>
    intro st l2 h
    rw [fX8_weighs_2] at h
    cases h
  | succ n ih =>
    intro st l2 h
    rw [fX8_weighs_2] at h
    refine ux_iload_n C dX8_weighs_2 2 rfl ?_
    refine ux_sipush (v := 1503) C dX8_weighs_3 (by decide) ?_
    refine ux_icmp_ge C dX8_weighs_6 h (fun h => ?_) (fun h => ?_)
    · refine ux_sub [0, 1] rfl ?_
      exact K st h
    · refine ux_aload_n C dX8_weighs_9 0 rfl ?_
      refine ux_get C fl_X8_33 dX8_weighs_10 (oM W0) rfl ?_
      refine ux_iload_n C dX8_weighs_13 2 rfl ?_
      refine ux_ldc2 C ckl_X8_237 dX8_weighs_14 ?_
      refine ux_last C (aM_now W0) dX8_weighs_17 h (fun st_2 h => ?_)
      refine ux_iincK C dX8_weighs_18 (by decide) 2 rfl (fun z => [(2, .int z), (0, .ref (vA V 0)), (1, .int l1)]) (fun _ => rfl) (by decide) h (fun l2_3 h => ?_)
      refine ux_goto C dX8_weighs_21 ?_
      refine ux_sub [1, 2, 0] rfl ?_
      exact ih _ _ h
set_option maxRecDepth 100000 in
set_option maxHeartbeats 4000000 in
theorem wX8_weighs_33 {M : uM} {V : uV} (W0 : uWM (mL M) V) (C : uCx M V cX8_weighs 4 RX8 3 71 0 0) (hr : (mT M).sig.returnType = none) {l1 : Int32} {s9 : uSt} {ke : uSt → Option (Unit × uSt)} (K : ∀ (st : uSt), ke st = some ((), s9) → uW M V (uEnd M V 0 0 none s9) 4 0 0 128 [(0, .ref (vA V 0))] [] st) : ∀ (n : Nat) (st : uSt) (l2 : Int32), fX8_weighs_33 l1 ke n st l2 = some ((), s9) → uW M V (uEnd M V 0 0 none s9) 4 0 0 33 [(0, .ref (vA V 0)), (1, .int l1), (2, .int l2)] [] st := by
  intro n
  induction n with
  | zero =>
    intro st l2 h
    rw [fX8_weighs_33] at h
    cases h
  | succ n ih =>
    intro st l2 h
    rw [fX8_weighs_33] at h
    refine ux_iload_n C dX8_weighs_33 2 rfl ?_
    refine ux_aload_n C dX8_weighs_34 0 rfl ?_
    refine ux_get C fl_X8_7 dX8_weighs_35 (oM W0) rfl ?_
    refine ux_bipush (v := 36) C dX8_weighs_38 (by decide) ?_
    refine ux_ialdK (j := 36) C (aM_a W0) dX8_weighs_40 (by decide) (by decide) ?_
    refine ux_icmp_ge C dX8_weighs_41 h (fun h => ?_) (fun h => ?_)
    · refine ux_sub [0] rfl ?_
      exact K st h
    · refine ux_iload_n C dX8_weighs_44 2 rfl ?_
      obtain ⟨j_7, hK_7, h⟩ := oj1_some h
      have hJ_7 : ∀ (v_8 : Int32), j_7 v_8 = some ((), s9) → uW M V (uEnd M V 0 0 none s9) 4 0 0 68 [(0, .ref (vA V 0)), (1, .int l1), (2, .int l2)] [.int v_8] st := by
        intro v_8 h
        replace h := hK_7 v_8 h
        refine ux_istoreK_n C dX8_weighs_68 rfl (by decide) ?_
        refine ux_iload_n C dX8_weighs_69 0 rfl ?_
        obtain ⟨j_10, hK_10, h⟩ := oj1_some h
        have hJ_10 : ∀ (st_11 : uSt), j_10 st_11 = some ((), s9) → uW M V (uEnd M V 0 0 none s9) 4 0 0 77 [(0, .ref (vA V 0)), (1, .int l1), (2, .int l2), (3, .int v_8)] [] st_11 := by
          intro st_11 h
          replace h := hK_10 st_11 h
          refine ux_iload_n C dX8_weighs_77 1 rfl ?_
          refine ux_aload_n C dX8_weighs_78 0 rfl ?_
          refine ux_iload_n C dX8_weighs_79 2 rfl ?_
          obtain ⟨x_12, h1, h⟩ := ob_some h
          refine ux_callVi C cv_X8_166 dX8_weighs_80 (oM W0) rfl (kX8_deviceOf W0 h1) rfl (Nat.le_of_ble_eq_true rfl) ⟨(Nat.le_of_ble_eq_true rfl), (Nat.le_of_ble_eq_true rfl)⟩ ⟨(Nat.le_of_ble_eq_true rfl), (Nat.le_of_ble_eq_true rfl)⟩ ?_ rfl
          obtain ⟨x_13, h1, h⟩ := ob_some h
          refine ux_callSi C cs_X8_144 dX8_weighs_83 (kX8_has W0 h1) rfl (Nat.le_of_ble_eq_true rfl) ⟨(Nat.le_of_ble_eq_true rfl), (Nat.le_of_ble_eq_true rfl)⟩ ⟨(Nat.le_of_ble_eq_true rfl), (Nat.le_of_ble_eq_true rfl)⟩ ?_ rfl
          refine ux_if_ne C dX8_weighs_86 h (fun h => ?_) (fun h => ?_)
          · refine ux_aload_n C dX8_weighs_89 0 rfl ?_
            refine ux_iload_n C dX8_weighs_90 2 rfl ?_
            refine ux_iload_n C dX8_weighs_91 3 rfl ?_
            obtain ⟨j_14, hK_14, h⟩ := oj1_some h
            have hJ_14 : ∀ (v_15 : Int32), j_14 v_15 = some ((), s9) → uW M V (uEnd M V 0 0 none s9) 4 0 0 119 [(0, .ref (vA V 0)), (1, .int l1), (2, .int l2)] [.int v_15, .int l2, .ref (vA V 0)] st_11 := by
              intro v_15 h
              replace h := hK_14 v_15 h
              obtain ⟨st_16, h1, h⟩ := obV_some h
              refine ux_callVv C cv_X8_242 dX8_weighs_119 (oM W0) rfl (kX8_takesBlock W0 h1) rfl (Nat.le_of_ble_eq_true rfl) ⟨(Nat.le_of_ble_eq_true rfl), (Nat.le_of_ble_eq_true rfl)⟩ ⟨(Nat.le_of_ble_eq_true rfl), (Nat.le_of_ble_eq_true rfl)⟩ ?_ rfl
              refine ux_iincK C dX8_weighs_122 (by decide) 2 rfl (fun z => [(2, .int z), (0, .ref (vA V 0)), (1, .int l1)]) (fun _ => rfl) (by decide) h (fun l2_17 h => ?_)
              refine ux_goto C dX8_weighs_125 ?_
              refine ux_sub [1, 2, 0] rfl ?_
              exact ih _ _ h
            obtain ⟨j_18, hK_18, h⟩ := oj0_some h
            have hJ_18 : j_18 = some ((), s9) → uW M V (uEnd M V 0 0 none s9) 4 0 0 118 [(0, .ref (vA V 0)), (1, .int l1), (2, .int l2)] [.int l2, .ref (vA V 0)] st_11 := by
              intro h
              replace h := hK_18 h
              refine ux_iconst (v := 0) C dX8_weighs_118 (by decide) ?_
              exact hJ_14 (0 : Int32) h
            refine ux_if_eq C dX8_weighs_92 h (fun h => ?_) (fun h => ?_)
            · refine ux_sub [0, 1, 2] rfl ?_
              exact hJ_18 h
            · refine ux_aload_n C dX8_weighs_95 0 rfl ?_
              refine ux_iload_n C dX8_weighs_96 2 rfl ?_
              refine ux_iconst (v := 1) C dX8_weighs_97 (by decide) ?_
              refine ux_isub C dX8_weighs_98 ?_
              refine ux_iconst (v := 0) C dX8_weighs_99 (by decide) ?_
              obtain ⟨x_19, h1, h⟩ := ob_some h
              refine ux_callVi C cv_X8_160 dX8_weighs_100 (oM W0) rfl (kX8_of W0 h1) rfl (Nat.le_of_ble_eq_true rfl) ⟨(Nat.le_of_ble_eq_true rfl), (Nat.le_of_ble_eq_true rfl)⟩ ⟨(Nat.le_of_ble_eq_true rfl), (Nat.le_of_ble_eq_true rfl)⟩ ?_ rfl
              refine ux_iconst (v := 1) C dX8_weighs_103 (by decide) ?_
              refine ux_iadd C dX8_weighs_104 ?_
              refine ux_aload_n C dX8_weighs_105 0 rfl ?_
              refine ux_iload_n C dX8_weighs_106 2 rfl ?_
              refine ux_iconst (v := 0) C dX8_weighs_107 (by decide) ?_
              obtain ⟨x_20, h1, h⟩ := ob_some h
              refine ux_callVi C cv_X8_160 dX8_weighs_108 (oM W0) rfl (kX8_of W0 h1) rfl (Nat.le_of_ble_eq_true rfl) ⟨(Nat.le_of_ble_eq_true rfl), (Nat.le_of_ble_eq_true rfl)⟩ ⟨(Nat.le_of_ble_eq_true rfl), (Nat.le_of_ble_eq_true rfl)⟩ ?_ rfl
              refine ux_icmp_ne C dX8_weighs_111 h (fun h => ?_) (fun h => ?_)
              · refine ux_iconst (v := 1) C dX8_weighs_114 (by decide) ?_
                refine ux_goto C dX8_weighs_115 ?_
                refine ux_sub [0, 1, 2] rfl ?_
                exact hJ_14 (1 : Int32) h
              · refine ux_sub [0, 1, 2] rfl ?_
                exact hJ_18 h
          · refine ux_iincK C dX8_weighs_122 (by decide) 2 rfl (fun z => [(2, .int z), (0, .ref (vA V 0)), (1, .int l1), (3, .int v_8)]) (fun _ => rfl) (by decide) h (fun l2_21 h => ?_)
            refine ux_goto C dX8_weighs_125 ?_
            refine ux_sub [1, 2, 0] rfl ?_
            exact ih _ _ h
        refine ux_if_ne C dX8_weighs_70 h (fun h => ?_) (fun h => ?_)
        · refine ux_aload_n C dX8_weighs_73 1 rfl ?_
          obtain ⟨st_22, h1, h⟩ := obV_some h
          refine ux_callVv C cv_X8_239 dX8_weighs_74 (oM W0) rfl (kX8_merges W0 h1) rfl (Nat.le_of_ble_eq_true rfl) ⟨(Nat.le_of_ble_eq_true rfl), (Nat.le_of_ble_eq_true rfl)⟩ ⟨(Nat.le_of_ble_eq_true rfl), (Nat.le_of_ble_eq_true rfl)⟩ ?_ rfl
          refine ux_sub [1, 2, 3, 0] rfl ?_
          exact hJ_10 st_22 h
        · refine ux_sub [1, 2, 3, 0] rfl ?_
          exact hJ_10 st h
      obtain ⟨j_23, hK_23, h⟩ := oj0_some h
      have hJ_23 : j_23 = some ((), s9) → uW M V (uEnd M V 0 0 none s9) 4 0 0 67 [(0, .ref (vA V 0)), (1, .int l1), (2, .int l2)] [] st := by
        intro h
        replace h := hK_23 h
        refine ux_iconst (v := 0) C dX8_weighs_67 (by decide) ?_
        exact hJ_7 (0 : Int32) h
      refine ux_if_le C dX8_weighs_45 h (fun h => ?_) (fun h => ?_)
      · exact hJ_23 h
      · refine ux_aload_n C dX8_weighs_48 0 rfl ?_
        refine ux_iload_n C dX8_weighs_49 2 rfl ?_
        refine ux_iconst (v := 1) C dX8_weighs_50 (by decide) ?_
        refine ux_isub C dX8_weighs_51 ?_
        obtain ⟨x_24, h1, h⟩ := ob_some h
        refine ux_callVi C cv_X8_166 dX8_weighs_52 (oM W0) rfl (kX8_deviceOf W0 h1) rfl (Nat.le_of_ble_eq_true rfl) ⟨(Nat.le_of_ble_eq_true rfl), (Nat.le_of_ble_eq_true rfl)⟩ ⟨(Nat.le_of_ble_eq_true rfl), (Nat.le_of_ble_eq_true rfl)⟩ ?_ rfl
        refine ux_aload_n C dX8_weighs_55 0 rfl ?_
        refine ux_iload_n C dX8_weighs_56 2 rfl ?_
        obtain ⟨x_25, h1, h⟩ := ob_some h
        refine ux_callVi C cv_X8_166 dX8_weighs_57 (oM W0) rfl (kX8_deviceOf W0 h1) rfl (Nat.le_of_ble_eq_true rfl) ⟨(Nat.le_of_ble_eq_true rfl), (Nat.le_of_ble_eq_true rfl)⟩ ⟨(Nat.le_of_ble_eq_true rfl), (Nat.le_of_ble_eq_true rfl)⟩ ?_ rfl
        refine ux_icmp_ne C dX8_weighs_60 h (fun h => ?_) (fun h => ?_)
        · refine ux_iconst (v := 1) C dX8_weighs_63 (by decide) ?_
          refine ux_goto C dX8_weighs_64 ?_
          exact hJ_7 (1 : Int32) h
        · exact hJ_23 h
set_option maxRecDepth 100000 in
set_option maxHeartbeats 4000000 in
theorem wX8_weighs_134 {M : uM} {V : uV} (W0 : uWM (mL M) V) (C : uCx M V cX8_weighs 4 RX8 3 71 0 0) (hr : (mT M).sig.returnType = none) {s9 : uSt} {ke : uSt → Option (Unit × uSt)} (K : ∀ (st : uSt), ke st = some ((), s9) → uW M V (uEnd M V 0 0 none s9) 4 0 0 161 [] [] st) : ∀ (n : Nat) (st : uSt) (l2 : Int32), fX8_weighs_134 ke n st l2 = some ((), s9) → uW M V (uEnd M V 0 0 none s9) 4 0 0 134 [(0, .ref (vA V 0)), (2, .int l2)] [] st := by
  intro n
  induction n with
  | zero =>
    intro st l2 h
    rw [fX8_weighs_134] at h
    cases h
  | succ n ih =>
    intro st l2 h
    rw [fX8_weighs_134] at h
    refine ux_iload_n C dX8_weighs_134 1 rfl ?_
    refine ux_sipush (v := 500) C dX8_weighs_135 (by decide) ?_
    refine ux_icmp_gt C dX8_weighs_138 h (fun h => ?_) (fun h => ?_)
    · refine ux_sub [] rfl ?_
      exact K st h
    · refine ux_aload_n C dX8_weighs_141 0 rfl ?_
      refine ux_get C fl_X8_40 dX8_weighs_142 (oM W0) rfl ?_
      refine ux_iload_n C dX8_weighs_145 1 rfl ?_
      refine ux_aload_n C dX8_weighs_146 0 rfl ?_
      refine ux_get C fl_X8_33 dX8_weighs_147 (oM W0) rfl ?_
      refine ux_iconst (v := 3) C dX8_weighs_150 (by decide) ?_
      refine ux_iload_n C dX8_weighs_151 1 rfl ?_
      refine ux_imul C dX8_weighs_152 ?_
      refine ux_lald C (aM_now W0) dX8_weighs_153 h (fun h => ?_)
      refine ux_last C (aM_best W0) dX8_weighs_154 h (fun st_29 h => ?_)
      refine ux_iincK C dX8_weighs_155 (by decide) 1 rfl (fun z => [(2, .int z), (0, .ref (vA V 0))]) (fun _ => rfl) (by decide) h (fun l2_30 h => ?_)
      refine ux_goto C dX8_weighs_158 ?_
      refine ux_sub [1, 0] rfl ?_
      exact ih _ _ h
set_option maxRecDepth 100000 in
set_option maxHeartbeats 4000000 in
theorem kX8_weighs {l : Launch} {V : uV} (W0 : uWM l V) {p1 : Int32} {st : uSt} {s9 : uSt} (h : fX8_weighs p1 st = some ((), s9)) : uMet l V yX8_weighs cX8_weighs 4 none 3 71 0 0 [.ref (vA V 0), .int p1] st none s9 := by
  refine ux_met W0.1 W0.2.1 (by decide) rfl (Nat.le_of_ble_eq_true rfl) (fun M hL hr C => ?_)
  subst hL
  have C : uCx M V cX8_weighs 4 RX8 3 71 0 0 := C
  unfold fX8_weighs at h
  refine ux_iconst (v := 0) C dX8_weighs_0 (by decide) ?_
  refine ux_istoreK_n C dX8_weighs_1 rfl (by decide) ?_
  refine ux_sub [1, 2, 0] rfl ?_
  refine wX8_weighs_2 W0 C hr (fun st_4 h => ?_) _ _ _ h
  refine ux_aload_n C dX8_weighs_24 0 rfl ?_
  refine ux_get C fl_X8_33 dX8_weighs_25 (oM W0) rfl ?_
  refine ux_iconst (v := 0) C dX8_weighs_28 (by decide) ?_
  refine ux_lconst (v := 0) C dX8_weighs_29 (by decide) ?_
  refine ux_lastK (j := 0) C (aM_now W0) dX8_weighs_30 (by decide) (by decide) h (fun st_5 h => ?_)
  refine ux_iconst (v := 0) C dX8_weighs_31 (by decide) ?_
  refine ux_istoreK_n C dX8_weighs_32 rfl (by decide) ?_
  refine ux_sub [1, 2, 0] rfl ?_
  refine wX8_weighs_33 W0 C hr (fun st_26 h => ?_) _ _ _ h
  refine ux_aload_n C dX8_weighs_128 0 rfl ?_
  obtain ⟨st_27, h1, h⟩ := obV_some h
  refine ux_callVv C cv_X8_239 dX8_weighs_129 (oM W0) rfl (kX8_merges W0 h1) rfl (Nat.le_of_ble_eq_true rfl) ⟨(Nat.le_of_ble_eq_true rfl), (Nat.le_of_ble_eq_true rfl)⟩ ⟨(Nat.le_of_ble_eq_true rfl), (Nat.le_of_ble_eq_true rfl)⟩ ?_ rfl
  refine ux_iconst (v := 0) C dX8_weighs_132 (by decide) ?_
  refine ux_istoreK_n C dX8_weighs_133 rfl (by decide) ?_
  refine ux_sub [1, 0] rfl ?_
  refine wX8_weighs_134 W0 C hr (fun st_31 h => ?_) _ _ _ h
  exact ux_vret C hr dX8_weighs_161 h (Nat.le_of_ble_eq_true rfl) (Nat.le_of_ble_eq_true rfl)
set_option maxRecDepth 100000 in
set_option maxHeartbeats 4000000 in
theorem kX8_valueBy {l : Launch} {V : uV} (W0 : uWM l V) {p1 : Int32} {st : uSt} {r : Int32} (h : fX8_valueBy p1 st = some r) : uMet l V yX8_valueBy cX8_valueBy 2 (some .int) 0 0 0 0 [.ref (vA V 0), .int p1] st (some (.int r)) st := by
  refine ux_met W0.1 W0.2.1 (by decide) rfl (Nat.le_of_ble_eq_true rfl) (fun M hL hr C => ?_)
  subst hL
  have C : uCx M V cX8_valueBy 2 RX8 0 0 0 0 := C
  unfold fX8_valueBy at h
  refine ux_aload_n C dX8_valueBy_0 0 rfl ?_
  refine ux_get C fl_X8_40 dX8_valueBy_1 (oM W0) rfl ?_
  refine ux_iload_n C dX8_valueBy_4 1 rfl ?_
  refine ux_lald C (aM_best W0) dX8_valueBy_5 h (fun h => ?_)
  refine ux_ldc2 C ckl_X8_237 dX8_valueBy_6 ?_
  refine ux_lcmp C dX8_valueBy_9 ?_
  refine ux_if_ne C dX8_valueBy_10 h (fun h => ?_) (fun h => ?_)
  · refine ux_iconst (v := (-1)) C dX8_valueBy_13 (by decide) ?_
    refine ux_goto C dX8_valueBy_14 ?_
    exact ux_iret C hr dX8_valueBy_33 h (Nat.le_of_ble_eq_true rfl) (Nat.le_of_ble_eq_true rfl)
  · refine ux_aload_n C dX8_valueBy_17 0 rfl ?_
    refine ux_get C fl_X8_40 dX8_valueBy_18 (oM W0) rfl ?_
    refine ux_iload_n C dX8_valueBy_21 1 rfl ?_
    refine ux_lald C (aM_best W0) dX8_valueBy_22 h (fun h => ?_)
    refine ux_ldc2 C ckl_X8_246 dX8_valueBy_23 ?_
    refine ux_ladd C dX8_valueBy_26 ?_
    refine ux_lconst (v := 1) C dX8_valueBy_27 (by decide) ?_
    refine ux_lsub C dX8_valueBy_28 ?_
    refine ux_bipush (v := 24) C dX8_valueBy_29 (by decide) ?_
    refine ux_lshr C dX8_valueBy_31 ?_
    refine ux_l2i C dX8_valueBy_32 ?_
    exact ux_iret C hr dX8_valueBy_33 h (Nat.le_of_ble_eq_true rfl) (Nat.le_of_ble_eq_true rfl)
set_option maxRecDepth 100000 in
set_option maxHeartbeats 4000000 in
theorem wX8_leastOf_4 {M : uM} {V : uV} (W0 : uWM (mL M) V) (C : uCx M V cX8_leastOf 4 RX8 1 21 0 0) (hr : (mT M).sig.returnType = (some .int)) {l1 : Int32} {st : uSt} {r : Int32} {ke : Int32 → Option Int32} (K : ∀ (l2 : Int32), ke l2 = some r → uW M V (uEnd M V 0 0 (some (.int r)) st) 4 0 0 34 [(2, .int l2)] [] st) : ∀ (n : Nat) (l2 : Int32) (l3 : Int32), fX8_leastOf_4 l1 st ke n l2 l3 = some r → uW M V (uEnd M V 0 0 (some (.int r)) st) 4 0 0 4 [(0, .ref (vA V 0)), (1, .int l1), (2, .int l2), (3, .int l3)] [] st := by
  intro n
  induction n with
  | zero =>
    intro l2 l3 h
    rw [fX8_leastOf_4] at h
    cases h
  | succ n ih =>
    intro l2 l3 h
    rw [fX8_leastOf_4] at h
    refine ux_iload_n C dX8_leastOf_4 3 rfl ?_
    refine ux_iload_n C dX8_leastOf_5 1 rfl ?_
    refine ux_icmp_gt C dX8_leastOf_6 h (fun h => ?_) (fun h => ?_)
    · refine ux_sub [2] rfl ?_
      exact K l2 h
    · refine ux_aload_n C dX8_leastOf_9 0 rfl ?_
      refine ux_iload_n C dX8_leastOf_10 3 rfl ?_
      obtain ⟨x_3, h1, h⟩ := ob_some h
      refine ux_callVi C cv_X8_248 dX8_leastOf_11 (oM W0) rfl (kX8_valueBy W0 h1) rfl (Nat.le_of_ble_eq_true rfl) ⟨(Nat.le_of_ble_eq_true rfl), (Nat.le_of_ble_eq_true rfl)⟩ ⟨(Nat.le_of_ble_eq_true rfl), (Nat.le_of_ble_eq_true rfl)⟩ ?_ rfl
      refine ux_aload_n C dX8_leastOf_14 0 rfl ?_
      refine ux_iload_n C dX8_leastOf_15 2 rfl ?_
      obtain ⟨x_4, h1, h⟩ := ob_some h
      refine ux_callVi C cv_X8_248 dX8_leastOf_16 (oM W0) rfl (kX8_valueBy W0 h1) rfl (Nat.le_of_ble_eq_true rfl) ⟨(Nat.le_of_ble_eq_true rfl), (Nat.le_of_ble_eq_true rfl)⟩ ⟨(Nat.le_of_ble_eq_true rfl), (Nat.le_of_ble_eq_true rfl)⟩ ?_ rfl
      obtain ⟨j_5, hK_5, h⟩ := oj1_some h
      have hJ_5 : ∀ (v_6 : Int32), j_5 v_6 = some r → uW M V (uEnd M V 0 0 (some (.int r)) st) 4 0 0 27 [(0, .ref (vA V 0)), (1, .int l1), (3, .int l3)] [.int v_6] st := by
        intro v_6 h
        replace h := hK_5 v_6 h
        refine ux_istoreK_n C dX8_leastOf_27 rfl (by decide) ?_
        refine ux_iincK C dX8_leastOf_28 (by decide) 3 rfl (fun z => [(3, .int z), (2, .int v_6), (0, .ref (vA V 0)), (1, .int l1)]) (fun _ => rfl) (by decide) h (fun l3_8 h => ?_)
        refine ux_goto C dX8_leastOf_31 ?_
        refine ux_sub [2, 3, 1, 0] rfl ?_
        exact ih _ _ h
      refine ux_icmp_le C dX8_leastOf_19 h (fun h => ?_) (fun h => ?_)
      · refine ux_iload_n C dX8_leastOf_26 2 rfl ?_
        refine ux_sub [0, 1, 3] rfl ?_
        exact hJ_5 l2 h
      · refine ux_iload_n C dX8_leastOf_22 3 rfl ?_
        refine ux_goto C dX8_leastOf_23 ?_
        refine ux_sub [0, 1, 3] rfl ?_
        exact hJ_5 l3 h
set_option maxRecDepth 100000 in
set_option maxHeartbeats 4000000 in
theorem kX8_leastOf {l : Launch} {V : uV} (W0 : uWM l V) {p1 : Int32} {st : uSt} {r : Int32} (h : fX8_leastOf p1 st = some r) : uMet l V yX8_leastOf cX8_leastOf 4 (some .int) 1 21 0 0 [.ref (vA V 0), .int p1] st (some (.int r)) st := by
  refine ux_met W0.1 W0.2.1 (by decide) rfl (Nat.le_of_ble_eq_true rfl) (fun M hL hr C => ?_)
  subst hL
  have C : uCx M V cX8_leastOf 4 RX8 1 21 0 0 := C
  unfold fX8_leastOf at h
  refine ux_iconst (v := 0) C dX8_leastOf_0 (by decide) ?_
  refine ux_istoreK_n C dX8_leastOf_1 rfl (by decide) ?_
  refine ux_iconst (v := 1) C dX8_leastOf_2 (by decide) ?_
  refine ux_istoreK_n C dX8_leastOf_3 rfl (by decide) ?_
  refine ux_sub [2, 3, 1, 0] rfl ?_
  refine wX8_leastOf_4 W0 C hr (fun l2_9 h => ?_) _ _ _ h
  refine ux_iload_n C dX8_leastOf_34 0 rfl ?_
  exact ux_iret C hr dX8_leastOf_35 h (Nat.le_of_ble_eq_true rfl) (Nat.le_of_ble_eq_true rfl)
set_option maxRecDepth 100000 in
set_option maxHeartbeats 4000000 in
theorem kX8_bestOf {l : Launch} {V : uV} (W0 : uWM l V) {p1 : Int32} {st : uSt} {r : Int32} (h : fX8_bestOf p1 st = some r) : uMet l V yX8_bestOf cX8_bestOf 3 (some .int) 2 44 0 0 [.ref (vA V 0), .int p1] st (some (.int r)) st := by
  refine ux_met W0.1 W0.2.1 (by decide) rfl (Nat.le_of_ble_eq_true rfl) (fun M hL hr C => ?_)
  subst hL
  have C : uCx M V cX8_bestOf 3 RX8 2 44 0 0 := C
  unfold fX8_bestOf at h
  refine ux_aload_n C dX8_bestOf_0 0 rfl ?_
  refine ux_iload_n C dX8_bestOf_1 1 rfl ?_
  obtain ⟨x_1, h1, h⟩ := ob_some h
  refine ux_callVi C cv_X8_251 dX8_bestOf_2 (oM W0) rfl (kX8_leastOf W0 h1) rfl (Nat.le_of_ble_eq_true rfl) ⟨(Nat.le_of_ble_eq_true rfl), (Nat.le_of_ble_eq_true rfl)⟩ ⟨(Nat.le_of_ble_eq_true rfl), (Nat.le_of_ble_eq_true rfl)⟩ ?_ rfl
  refine ux_istoreK_n C dX8_bestOf_5 rfl (by decide) ?_
  refine ux_aload_n C dX8_bestOf_6 1 rfl ?_
  refine ux_iload_n C dX8_bestOf_7 0 rfl ?_
  obtain ⟨x_3, h1, h⟩ := ob_some h
  refine ux_callVi C cv_X8_248 dX8_bestOf_8 (oM W0) rfl (kX8_valueBy W0 h1) rfl (Nat.le_of_ble_eq_true rfl) ⟨(Nat.le_of_ble_eq_true rfl), (Nat.le_of_ble_eq_true rfl)⟩ ⟨(Nat.le_of_ble_eq_true rfl), (Nat.le_of_ble_eq_true rfl)⟩ ?_ rfl
  refine ux_i2l C dX8_bestOf_11 ?_
  refine ux_bipush (v := 24) C dX8_bestOf_12 (by decide) ?_
  refine ux_lshl C dX8_bestOf_14 ?_
  refine ux_aload_n C dX8_bestOf_15 1 rfl ?_
  refine ux_get C fl_X8_40 dX8_bestOf_16 (oM W0) rfl ?_
  refine ux_iload_n C dX8_bestOf_19 0 rfl ?_
  refine ux_lald C (aM_best W0) dX8_bestOf_20 h (fun h => ?_)
  refine ux_lsub C dX8_bestOf_21 ?_
  refine ux_l2i C dX8_bestOf_22 ?_
  exact ux_iret C hr dX8_bestOf_23 h (Nat.le_of_ble_eq_true rfl) (Nat.le_of_ble_eq_true rfl)
set_option maxRecDepth 100000 in
set_option maxHeartbeats 4000000 in
theorem kX8_flushes {l : Launch} {V : uV} (W0 : uWM l V) {p1 : Int32} {st : uSt} {r : Int32} {s9 : uSt} (h : fX8_flushes p1 st = some (r, s9)) : uMet l V yX8_flushes cX8_flushes 3 (some .int) 3 70 0 0 [.ref (vA V 0), .int p1] st (some (.int r)) s9 := by
  refine ux_met W0.1 W0.2.1 (by decide) rfl (Nat.le_of_ble_eq_true rfl) (fun M hL hr C => ?_)
  subst hL
  have C : uCx M V cX8_flushes 3 RX8 3 70 0 0 := C
  unfold fX8_flushes at h
  refine ux_aload_n C dX8_flushes_0 0 rfl ?_
  refine ux_iload_n C dX8_flushes_1 1 rfl ?_
  obtain ⟨x_1, h1, h⟩ := ob_some h
  refine ux_callVi C cv_X8_187 dX8_flushes_2 (oM W0) rfl (kX8_valueIn W0 h1) rfl (Nat.le_of_ble_eq_true rfl) ⟨(Nat.le_of_ble_eq_true rfl), (Nat.le_of_ble_eq_true rfl)⟩ ⟨(Nat.le_of_ble_eq_true rfl), (Nat.le_of_ble_eq_true rfl)⟩ ?_ rfl
  refine ux_istoreK_n C dX8_flushes_5 rfl (by decide) ?_
  refine ux_aload_n C dX8_flushes_6 1 rfl ?_
  refine ux_aload_n C dX8_flushes_7 1 rfl ?_
  refine ux_iload_n C dX8_flushes_8 2 rfl ?_
  obtain ⟨x_3, h1, h⟩ := ob_some h
  refine ux_callVi C cv_X8_175 dX8_flushes_9 (oM W0) rfl (kX8_energyIn W0 h1) rfl (Nat.le_of_ble_eq_true rfl) ⟨(Nat.le_of_ble_eq_true rfl), (Nat.le_of_ble_eq_true rfl)⟩ ⟨(Nat.le_of_ble_eq_true rfl), (Nat.le_of_ble_eq_true rfl)⟩ ?_ rfl
  obtain ⟨st_4, h1, h⟩ := obV_some h
  refine ux_callVv C cv_X8_215 dX8_flushes_12 (oM W0) rfl (kX8_drains W0 h1) rfl (Nat.le_of_ble_eq_true rfl) ⟨(Nat.le_of_ble_eq_true rfl), (Nat.le_of_ble_eq_true rfl)⟩ ⟨(Nat.le_of_ble_eq_true rfl), (Nat.le_of_ble_eq_true rfl)⟩ ?_ rfl
  refine ux_aload_n C dX8_flushes_15 1 rfl ?_
  refine ux_get C fl_X8_7 dX8_flushes_16 (oM W0) rfl ?_
  refine ux_bipush (v := 31) C dX8_flushes_19 (by decide) ?_
  refine ux_dup2 C dX8_flushes_21 rfl rfl ?_
  refine ux_ialdK (j := 31) C (aM_a W0) dX8_flushes_22 (by decide) (by decide) ?_
  refine ux_iload_n C dX8_flushes_23 2 rfl ?_
  obtain ⟨x_5, h1, h⟩ := ob_some h
  refine ux_callSi C cs_X8_184 dX8_flushes_24 (kX8_bits W0 h1) rfl (Nat.le_of_ble_eq_true rfl) ⟨(Nat.le_of_ble_eq_true rfl), (Nat.le_of_ble_eq_true rfl)⟩ ⟨(Nat.le_of_ble_eq_true rfl), (Nat.le_of_ble_eq_true rfl)⟩ ?_ rfl
  refine ux_iadd C dX8_flushes_27 ?_
  refine ux_iastK (j := 31) C (aM_a W0) dX8_flushes_28 (by decide) (by decide) h (fun st_6 h => ?_)
  refine ux_aload_n C dX8_flushes_29 1 rfl ?_
  refine ux_get C fl_X8_7 dX8_flushes_30 (oM W0) rfl ?_
  refine ux_bipush (v := 33) C dX8_flushes_33 (by decide) ?_
  refine ux_dup2 C dX8_flushes_35 rfl rfl ?_
  refine ux_ialdK (j := 33) C (aM_a W0) dX8_flushes_36 (by decide) (by decide) ?_
  refine ux_iload_n C dX8_flushes_37 0 rfl ?_
  refine ux_iadd C dX8_flushes_38 ?_
  refine ux_iastK (j := 33) C (aM_a W0) dX8_flushes_39 (by decide) (by decide) h (fun st_7 h => ?_)
  refine ux_aload_n C dX8_flushes_40 1 rfl ?_
  refine ux_iload_n C dX8_flushes_41 2 rfl ?_
  obtain ⟨st_8, h1, h⟩ := obV_some h
  refine ux_callVv C cv_X8_212 dX8_flushes_42 (oM W0) rfl (kX8_allGo W0 h1) rfl (Nat.le_of_ble_eq_true rfl) ⟨(Nat.le_of_ble_eq_true rfl), (Nat.le_of_ble_eq_true rfl)⟩ ⟨(Nat.le_of_ble_eq_true rfl), (Nat.le_of_ble_eq_true rfl)⟩ ?_ rfl
  refine ux_iload_n C dX8_flushes_45 0 rfl ?_
  exact ux_iretS C hr dX8_flushes_46 h (Nat.le_of_ble_eq_true rfl) (Nat.le_of_ble_eq_true rfl)
set_option maxRecDepth 100000 in
set_option maxHeartbeats 4000000 in
theorem kX8_flush {l : Launch} {V : uV} (W0 : uWM l V) {st : uSt} {r : Int32} {s9 : uSt} (h : fX8_flush st = some (r, s9)) : uMet l V yX8_flush cX8_flush 1 (some .int) 4 94 0 0 [.ref (vA V 0)] st (some (.int r)) s9 := by
  refine ux_met W0.1 W0.2.1 (by decide) rfl (Nat.le_of_ble_eq_true rfl) (fun M hL hr C => ?_)
  subst hL
  have C : uCx M V cX8_flush 1 RX8 4 94 0 0 := C
  unfold fX8_flush at h
  refine ux_aload_n C dX8_flush_0 0 rfl ?_
  refine ux_iconst (v := 0) C dX8_flush_1 (by decide) ?_
  refine ux_puti C fp_X8_49 dX8_flush_2 (oM W0) (Nat.le_of_ble_eq_true rfl) rfl h (fun st_1 h => ?_)
  refine ux_aload_n C dX8_flush_5 0 rfl ?_
  refine ux_aload_n C dX8_flush_6 0 rfl ?_
  refine ux_get C fl_X8_7 dX8_flush_7 (oM W0) rfl ?_
  refine ux_bipush (v := 27) C dX8_flush_10 (by decide) ?_
  refine ux_ialdK (j := 27) C (aM_a W0) dX8_flush_12 (by decide) (by decide) ?_
  obtain ⟨j_2, hK_2, h⟩ := oj1_some h
  have hJ_2 : ∀ (v_3 : Int32), j_2 v_3 = some (r, s9) → uW M V (uEnd M V 0 0 (some (.int r)) s9) 1 0 0 21 [(0, .ref (vA V 0))] [.int v_3, .ref (vA V 0)] st_1 := by
    intro v_3 h
    replace h := hK_2 v_3 h
    refine ux_iconst (v := 1) C dX8_flush_21 (by decide) ?_
    obtain ⟨x_5, st_4, h1, h⟩ := obS_some h
    refine ux_callVi C cv_X8_55 dX8_flush_22 (oM W0) rfl (kX8_may W0 h1) rfl (Nat.le_of_ble_eq_true rfl) ⟨(Nat.le_of_ble_eq_true rfl), (Nat.le_of_ble_eq_true rfl)⟩ ⟨(Nat.le_of_ble_eq_true rfl), (Nat.le_of_ble_eq_true rfl)⟩ ?_ rfl
    refine ux_if_ne C dX8_flush_25 h (fun h => ?_) (fun h => ?_)
    · refine ux_iconst (v := 0) C dX8_flush_28 (by decide) ?_
      exact ux_iretS C hr dX8_flush_29 h (Nat.le_of_ble_eq_true rfl) (Nat.le_of_ble_eq_true rfl)
    · refine ux_aload_n C dX8_flush_30 0 rfl ?_
      refine ux_aload_n C dX8_flush_31 0 rfl ?_
      refine ux_get C fl_X8_7 dX8_flush_32 (oM W0) rfl ?_
      refine ux_bipush (v := 25) C dX8_flush_35 (by decide) ?_
      refine ux_ialdK (j := 25) C (aM_a W0) dX8_flush_37 (by decide) (by decide) ?_
      obtain ⟨st_6, h1, h⟩ := obV_some h
      refine ux_callVv C cv_X8_224 dX8_flush_38 (oM W0) rfl (kX8_weighs W0 h1) rfl (Nat.le_of_ble_eq_true rfl) ⟨(Nat.le_of_ble_eq_true rfl), (Nat.le_of_ble_eq_true rfl)⟩ ⟨(Nat.le_of_ble_eq_true rfl), (Nat.le_of_ble_eq_true rfl)⟩ ?_ rfl
      refine ux_aload_n C dX8_flush_41 0 rfl ?_
      refine ux_aload_n C dX8_flush_42 0 rfl ?_
      refine ux_aload_n C dX8_flush_43 0 rfl ?_
      refine ux_get C fl_X8_7 dX8_flush_44 (oM W0) rfl ?_
      refine ux_iconst (v := 1) C dX8_flush_47 (by decide) ?_
      refine ux_ialdK (j := 1) C (aM_a W0) dX8_flush_48 (by decide) (by decide) ?_
      obtain ⟨x_7, h1, h⟩ := ob_some h
      refine ux_callVi C cv_X8_227 dX8_flush_49 (oM W0) rfl (kX8_bestOf W0 h1) rfl (Nat.le_of_ble_eq_true rfl) ⟨(Nat.le_of_ble_eq_true rfl), (Nat.le_of_ble_eq_true rfl)⟩ ⟨(Nat.le_of_ble_eq_true rfl), (Nat.le_of_ble_eq_true rfl)⟩ ?_ rfl
      obtain ⟨x_9, st_8, h1, h⟩ := obS_some h
      refine ux_callVi C cv_X8_230 dX8_flush_52 (oM W0) rfl (kX8_flushes W0 h1) rfl (Nat.le_of_ble_eq_true rfl) ⟨(Nat.le_of_ble_eq_true rfl), (Nat.le_of_ble_eq_true rfl)⟩ ⟨(Nat.le_of_ble_eq_true rfl), (Nat.le_of_ble_eq_true rfl)⟩ ?_ rfl
      exact ux_iretS C hr dX8_flush_55 h (Nat.le_of_ble_eq_true rfl) (Nat.le_of_ble_eq_true rfl)
  refine ux_if_ne C dX8_flush_13 h (fun h => ?_) (fun h => ?_)
  · refine ux_iconst (v := 1) C dX8_flush_16 (by decide) ?_
    refine ux_goto C dX8_flush_17 ?_
    exact hJ_2 (1 : Int32) h
  · refine ux_iconst (v := 0) C dX8_flush_20 (by decide) ?_
    exact hJ_2 (0 : Int32) h
set_option maxRecDepth 100000 in
set_option maxHeartbeats 4000000 in
theorem kX8_flushDevice {l : Launch} {V : uV} (W0 : uWM l V) {p1 : Int32} {st : uSt} {r : Int32} {s9 : uSt} (h : fX8_flushDevice p1 st = some (r, s9)) : uMet l V yX8_flushDevice cX8_flushDevice 2 (some .int) 4 92 0 0 [.ref (vA V 0), .int p1] st (some (.int r)) s9 := by
  refine ux_met W0.1 W0.2.1 (by decide) rfl (Nat.le_of_ble_eq_true rfl) (fun M hL hr C => ?_)
  subst hL
  have C : uCx M V cX8_flushDevice 2 RX8 4 92 0 0 := C
  unfold fX8_flushDevice at h
  refine ux_aload_n C dX8_flushDevice_0 0 rfl ?_
  refine ux_iconst (v := 0) C dX8_flushDevice_1 (by decide) ?_
  refine ux_puti C fp_X8_49 dX8_flushDevice_2 (oM W0) (Nat.le_of_ble_eq_true rfl) rfl h (fun st_1 h => ?_)
  refine ux_aload_n C dX8_flushDevice_5 0 rfl ?_
  refine ux_aload_n C dX8_flushDevice_6 0 rfl ?_
  refine ux_iload_n C dX8_flushDevice_7 1 rfl ?_
  obtain ⟨x_2, h1, h⟩ := ob_some h
  refine ux_callVi C cv_X8_178 dX8_flushDevice_8 (oM W0) rfl (kX8_isDevice W0 h1) rfl (Nat.le_of_ble_eq_true rfl) ⟨(Nat.le_of_ble_eq_true rfl), (Nat.le_of_ble_eq_true rfl)⟩ ⟨(Nat.le_of_ble_eq_true rfl), (Nat.le_of_ble_eq_true rfl)⟩ ?_ rfl
  refine ux_iconst (v := 1) C dX8_flushDevice_11 (by decide) ?_
  obtain ⟨x_4, st_3, h1, h⟩ := obS_some h
  refine ux_callVi C cv_X8_55 dX8_flushDevice_12 (oM W0) rfl (kX8_may W0 h1) rfl (Nat.le_of_ble_eq_true rfl) ⟨(Nat.le_of_ble_eq_true rfl), (Nat.le_of_ble_eq_true rfl)⟩ ⟨(Nat.le_of_ble_eq_true rfl), (Nat.le_of_ble_eq_true rfl)⟩ ?_ rfl
  refine ux_if_eq C dX8_flushDevice_15 h (fun h => ?_) (fun h => ?_)
  · refine ux_iconst (v := 0) C dX8_flushDevice_67 (by decide) ?_
    exact ux_iretS C hr dX8_flushDevice_68 h (Nat.le_of_ble_eq_true rfl) (Nat.le_of_ble_eq_true rfl)
  · refine ux_aload_n C dX8_flushDevice_18 0 rfl ?_
    refine ux_aload_n C dX8_flushDevice_19 0 rfl ?_
    refine ux_get C fl_X8_7 dX8_flushDevice_20 (oM W0) rfl ?_
    refine ux_bipush (v := 27) C dX8_flushDevice_23 (by decide) ?_
    refine ux_ialdK (j := 27) C (aM_a W0) dX8_flushDevice_25 (by decide) (by decide) ?_
    obtain ⟨j_5, hK_5, h⟩ := oj1_some h
    have hJ_5 : ∀ (v_6 : Int32), j_5 v_6 = some (r, s9) → uW M V (uEnd M V 0 0 (some (.int r)) s9) 2 0 0 60 [(0, .ref (vA V 0)), (1, .int p1)] [.int v_6, .ref (vA V 0)] st_3 := by
      intro v_6 h
      replace h := hK_5 v_6 h
      refine ux_iconst (v := 2) C dX8_flushDevice_60 (by decide) ?_
      obtain ⟨x_8, st_7, h1, h⟩ := obS_some h
      refine ux_callVi C cv_X8_55 dX8_flushDevice_61 (oM W0) rfl (kX8_may W0 h1) rfl (Nat.le_of_ble_eq_true rfl) ⟨(Nat.le_of_ble_eq_true rfl), (Nat.le_of_ble_eq_true rfl)⟩ ⟨(Nat.le_of_ble_eq_true rfl), (Nat.le_of_ble_eq_true rfl)⟩ ?_ rfl
      refine ux_if_ne C dX8_flushDevice_64 h (fun h => ?_) (fun h => ?_)
      · refine ux_iconst (v := 0) C dX8_flushDevice_67 (by decide) ?_
        exact ux_iretS C hr dX8_flushDevice_68 h (Nat.le_of_ble_eq_true rfl) (Nat.le_of_ble_eq_true rfl)
      · refine ux_aload_n C dX8_flushDevice_69 0 rfl ?_
        refine ux_aload_n C dX8_flushDevice_70 0 rfl ?_
        refine ux_iload_n C dX8_flushDevice_71 1 rfl ?_
        obtain ⟨x_9, h1, h⟩ := ob_some h
        refine ux_callVi C cv_X8_181 dX8_flushDevice_72 (oM W0) rfl (kX8_setOf W0 h1) rfl (Nat.le_of_ble_eq_true rfl) ⟨(Nat.le_of_ble_eq_true rfl), (Nat.le_of_ble_eq_true rfl)⟩ ⟨(Nat.le_of_ble_eq_true rfl), (Nat.le_of_ble_eq_true rfl)⟩ ?_ rfl
        obtain ⟨x_11, st_10, h1, h⟩ := obS_some h
        refine ux_callVi C cv_X8_230 dX8_flushDevice_75 (oM W0) rfl (kX8_flushes W0 h1) rfl (Nat.le_of_ble_eq_true rfl) ⟨(Nat.le_of_ble_eq_true rfl), (Nat.le_of_ble_eq_true rfl)⟩ ⟨(Nat.le_of_ble_eq_true rfl), (Nat.le_of_ble_eq_true rfl)⟩ ?_ rfl
        exact ux_iretS C hr dX8_flushDevice_78 h (Nat.le_of_ble_eq_true rfl) (Nat.le_of_ble_eq_true rfl)
    obtain ⟨j_12, hK_12, h⟩ := oj0_some h
    have hJ_12 : j_12 = some (r, s9) → uW M V (uEnd M V 0 0 (some (.int r)) s9) 2 0 0 59 [(0, .ref (vA V 0)), (1, .int p1)] [.ref (vA V 0)] st_3 := by
      intro h
      replace h := hK_12 h
      refine ux_iconst (v := 0) C dX8_flushDevice_59 (by decide) ?_
      exact hJ_5 (0 : Int32) h
    refine ux_if_ne C dX8_flushDevice_26 h (fun h => ?_) (fun h => ?_)
    · refine ux_aload_n C dX8_flushDevice_29 0 rfl ?_
      refine ux_iload_n C dX8_flushDevice_30 1 rfl ?_
      obtain ⟨x_13, h1, h⟩ := ob_some h
      refine ux_callVi C cv_X8_169 dX8_flushDevice_31 (oM W0) rfl (kX8_hasFailed W0 h1) rfl (Nat.le_of_ble_eq_true rfl) ⟨(Nat.le_of_ble_eq_true rfl), (Nat.le_of_ble_eq_true rfl)⟩ ⟨(Nat.le_of_ble_eq_true rfl), (Nat.le_of_ble_eq_true rfl)⟩ ?_ rfl
      refine ux_if_ne C dX8_flushDevice_34 h (fun h => ?_) (fun h => ?_)
      · refine ux_aload_n C dX8_flushDevice_37 0 rfl ?_
        refine ux_aload_n C dX8_flushDevice_38 0 rfl ?_
        refine ux_iload_n C dX8_flushDevice_39 1 rfl ?_
        obtain ⟨x_14, h1, h⟩ := ob_some h
        refine ux_callVi C cv_X8_181 dX8_flushDevice_40 (oM W0) rfl (kX8_setOf W0 h1) rfl (Nat.le_of_ble_eq_true rfl) ⟨(Nat.le_of_ble_eq_true rfl), (Nat.le_of_ble_eq_true rfl)⟩ ⟨(Nat.le_of_ble_eq_true rfl), (Nat.le_of_ble_eq_true rfl)⟩ ?_ rfl
        obtain ⟨x_15, h1, h⟩ := ob_some h
        refine ux_callVi C cv_X8_175 dX8_flushDevice_43 (oM W0) rfl (kX8_energyIn W0 h1) rfl (Nat.le_of_ble_eq_true rfl) ⟨(Nat.le_of_ble_eq_true rfl), (Nat.le_of_ble_eq_true rfl)⟩ ⟨(Nat.le_of_ble_eq_true rfl), (Nat.le_of_ble_eq_true rfl)⟩ ?_ rfl
        refine ux_aload_n C dX8_flushDevice_46 0 rfl ?_
        refine ux_get C fl_X8_7 dX8_flushDevice_47 (oM W0) rfl ?_
        refine ux_iconst (v := 1) C dX8_flushDevice_50 (by decide) ?_
        refine ux_ialdK (j := 1) C (aM_a W0) dX8_flushDevice_51 (by decide) (by decide) ?_
        refine ux_icmp_gt C dX8_flushDevice_52 h (fun h => ?_) (fun h => ?_)
        · exact hJ_12 h
        · refine ux_iconst (v := 1) C dX8_flushDevice_55 (by decide) ?_
          refine ux_goto C dX8_flushDevice_56 ?_
          exact hJ_5 (1 : Int32) h
      · exact hJ_12 h
    · exact hJ_12 h
set_option maxRecDepth 100000 in
set_option maxHeartbeats 4000000 in
theorem kX8_valueWithin {l : Launch} {V : uV} (W0 : uWM l V) {p1 : Int32} {p2 : Int32} {st : uSt} {r : Int32} {s9 : uSt} (h : fX8_valueWithin p1 p2 st = some (r, s9)) : uMet l V yX8_valueWithin cX8_valueWithin 3 (some .int) 4 94 0 0 [.ref (vA V 0), .int p1, .int p2] st (some (.int r)) s9 := by
  refine ux_met W0.1 W0.2.1 (by decide) rfl (Nat.le_of_ble_eq_true rfl) (fun M hL hr C => ?_)
  subst hL
  have C : uCx M V cX8_valueWithin 3 RX8 4 94 0 0 := C
  unfold fX8_valueWithin at h
  refine ux_aload_n C dX8_valueWithin_0 0 rfl ?_
  refine ux_iload_n C dX8_valueWithin_1 1 rfl ?_
  obtain ⟨st_1, h1, h⟩ := obV_some h
  refine ux_callVv C cv_X8_224 dX8_valueWithin_2 (oM W0) rfl (kX8_weighs W0 h1) rfl (Nat.le_of_ble_eq_true rfl) ⟨(Nat.le_of_ble_eq_true rfl), (Nat.le_of_ble_eq_true rfl)⟩ ⟨(Nat.le_of_ble_eq_true rfl), (Nat.le_of_ble_eq_true rfl)⟩ ?_ rfl
  refine ux_aload_n C dX8_valueWithin_5 0 rfl ?_
  refine ux_aload_n C dX8_valueWithin_6 0 rfl ?_
  refine ux_iload_n C dX8_valueWithin_7 2 rfl ?_
  obtain ⟨x_2, h1, h⟩ := ob_some h
  refine ux_callVi C cv_X8_251 dX8_valueWithin_8 (oM W0) rfl (kX8_leastOf W0 h1) rfl (Nat.le_of_ble_eq_true rfl) ⟨(Nat.le_of_ble_eq_true rfl), (Nat.le_of_ble_eq_true rfl)⟩ ⟨(Nat.le_of_ble_eq_true rfl), (Nat.le_of_ble_eq_true rfl)⟩ ?_ rfl
  obtain ⟨x_3, h1, h⟩ := ob_some h
  refine ux_callVi C cv_X8_248 dX8_valueWithin_11 (oM W0) rfl (kX8_valueBy W0 h1) rfl (Nat.le_of_ble_eq_true rfl) ⟨(Nat.le_of_ble_eq_true rfl), (Nat.le_of_ble_eq_true rfl)⟩ ⟨(Nat.le_of_ble_eq_true rfl), (Nat.le_of_ble_eq_true rfl)⟩ ?_ rfl
  exact ux_iretS C hr dX8_valueWithin_14 h (Nat.le_of_ble_eq_true rfl) (Nat.le_of_ble_eq_true rfl)
set_option maxRecDepth 100000 in
set_option maxHeartbeats 4000000 in
theorem kX8_need {l : Launch} {V : uV} (W0 : uWM l V) {st : uSt} {r : Int32} {s9 : uSt} (h : fX8_need st = some (r, s9)) : uMet l V yX8_need cX8_need 1 (some .int) 4 90 0 0 [.ref (vA V 0)] st (some (.int r)) s9 := by
  refine ux_met W0.1 W0.2.1 (by decide) rfl (Nat.le_of_ble_eq_true rfl) (fun M hL hr C => ?_)
  subst hL
  have C : uCx M V cX8_need 1 RX8 4 90 0 0 := C
  unfold fX8_need at h
  refine ux_aload_n C dX8_need_0 0 rfl ?_
  refine ux_iconst (v := 0) C dX8_need_1 (by decide) ?_
  refine ux_puti C fp_X8_49 dX8_need_2 (oM W0) (Nat.le_of_ble_eq_true rfl) rfl h (fun st_1 h => ?_)
  refine ux_aload_n C dX8_need_5 0 rfl ?_
  obtain ⟨x_2, h1, h⟩ := ob_some h
  refine ux_callVi C cv_X8_254 dX8_need_6 (oM W0) rfl (kX8_needed W0 h1) rfl (Nat.le_of_ble_eq_true rfl) ⟨(Nat.le_of_ble_eq_true rfl), (Nat.le_of_ble_eq_true rfl)⟩ ⟨(Nat.le_of_ble_eq_true rfl), (Nat.le_of_ble_eq_true rfl)⟩ ?_ rfl
  exact ux_iretS C hr dX8_need_9 h (Nat.le_of_ble_eq_true rfl) (Nat.le_of_ble_eq_true rfl)
set_option maxRecDepth 100000 in
set_option maxHeartbeats 4000000 in
theorem kX8_isSet {l : Launch} {V : uV} (W0 : uWM l V) {p1 : Int32} {st : uSt} {r : Int32} (h : fX8_isSet p1 st = some r) : uMet l V yX8_isSet cX8_isSet 2 (some .boolean) 1 20 0 0 [.ref (vA V 0), .int p1] st (some (.int r)) st := by
  refine ux_met W0.1 W0.2.1 (by decide) rfl (Nat.le_of_ble_eq_true rfl) (fun M hL hr C => ?_)
  subst hL
  have C : uCx M V cX8_isSet 2 RX8 1 20 0 0 := C
  unfold fX8_isSet at h
  refine ux_iload_n C dX8_isSet_0 1 rfl ?_
  refine ux_aload_n C dX8_isSet_1 0 rfl ?_
  obtain ⟨x_1, h1, h⟩ := ob_some h
  refine ux_callVi C cv_X8_221 dX8_isSet_2 (oM W0) rfl (kX8_all W0 h1) rfl (Nat.le_of_ble_eq_true rfl) ⟨(Nat.le_of_ble_eq_true rfl), (Nat.le_of_ble_eq_true rfl)⟩ ⟨(Nat.le_of_ble_eq_true rfl), (Nat.le_of_ble_eq_true rfl)⟩ ?_ rfl
  refine ux_iconst (v := (-1)) C dX8_isSet_5 (by decide) ?_
  refine ux_ixor C dX8_isSet_6 ?_
  refine ux_iand C dX8_isSet_7 ?_
  refine ux_if_ne C dX8_isSet_8 h (fun h => ?_) (fun h => ?_)
  · refine ux_iconst (v := 1) C dX8_isSet_11 (by decide) ?_
    refine ux_goto C dX8_isSet_12 ?_
    exact ux_zretK C hr dX8_isSet_16 (by decide) h (Nat.le_of_ble_eq_true rfl) (Nat.le_of_ble_eq_true rfl)
  · refine ux_iconst (v := 0) C dX8_isSet_15 (by decide) ?_
    exact ux_zretK C hr dX8_isSet_16 (by decide) h (Nat.le_of_ble_eq_true rfl) (Nat.le_of_ble_eq_true rfl)
set_option maxRecDepth 100000 in
set_option maxHeartbeats 4000000 in
theorem kX8_energyOf {l : Launch} {V : uV} (W0 : uWM l V) {p1 : Int32} {st : uSt} {r : Int32} {s9 : uSt} (h : fX8_energyOf p1 st = some (r, s9)) : uMet l V yX8_energyOf cX8_energyOf 2 (some .int) 3 70 0 0 [.ref (vA V 0), .int p1] st (some (.int r)) s9 := by
  refine ux_met W0.1 W0.2.1 (by decide) rfl (Nat.le_of_ble_eq_true rfl) (fun M hL hr C => ?_)
  subst hL
  have C : uCx M V cX8_energyOf 2 RX8 3 70 0 0 := C
  unfold fX8_energyOf at h
  refine ux_aload_n C dX8_energyOf_0 0 rfl ?_
  refine ux_iconst (v := 0) C dX8_energyOf_1 (by decide) ?_
  refine ux_puti C fp_X8_49 dX8_energyOf_2 (oM W0) (Nat.le_of_ble_eq_true rfl) rfl h (fun st_1 h => ?_)
  refine ux_aload_n C dX8_energyOf_5 0 rfl ?_
  refine ux_aload_n C dX8_energyOf_6 0 rfl ?_
  refine ux_iload_n C dX8_energyOf_7 1 rfl ?_
  obtain ⟨x_2, h1, h⟩ := ob_some h
  refine ux_callVi C cv_X8_257 dX8_energyOf_8 (oM W0) rfl (kX8_isSet W0 h1) rfl (Nat.le_of_ble_eq_true rfl) ⟨(Nat.le_of_ble_eq_true rfl), (Nat.le_of_ble_eq_true rfl)⟩ ⟨(Nat.le_of_ble_eq_true rfl), (Nat.le_of_ble_eq_true rfl)⟩ ?_ rfl
  refine ux_iconst (v := 1) C dX8_energyOf_11 (by decide) ?_
  obtain ⟨x_4, st_3, h1, h⟩ := obS_some h
  refine ux_callVi C cv_X8_55 dX8_energyOf_12 (oM W0) rfl (kX8_may W0 h1) rfl (Nat.le_of_ble_eq_true rfl) ⟨(Nat.le_of_ble_eq_true rfl), (Nat.le_of_ble_eq_true rfl)⟩ ⟨(Nat.le_of_ble_eq_true rfl), (Nat.le_of_ble_eq_true rfl)⟩ ?_ rfl
  refine ux_if_eq C dX8_energyOf_15 h (fun h => ?_) (fun h => ?_)
  · refine ux_iconst (v := 0) C dX8_energyOf_26 (by decide) ?_
    exact ux_iretS C hr dX8_energyOf_27 h (Nat.le_of_ble_eq_true rfl) (Nat.le_of_ble_eq_true rfl)
  · refine ux_aload_n C dX8_energyOf_18 0 rfl ?_
    refine ux_iload_n C dX8_energyOf_19 1 rfl ?_
    obtain ⟨x_5, h1, h⟩ := ob_some h
    refine ux_callVi C cv_X8_175 dX8_energyOf_20 (oM W0) rfl (kX8_energyIn W0 h1) rfl (Nat.le_of_ble_eq_true rfl) ⟨(Nat.le_of_ble_eq_true rfl), (Nat.le_of_ble_eq_true rfl)⟩ ⟨(Nat.le_of_ble_eq_true rfl), (Nat.le_of_ble_eq_true rfl)⟩ ?_ rfl
    refine ux_goto C dX8_energyOf_23 ?_
    exact ux_iretS C hr dX8_energyOf_27 h (Nat.le_of_ble_eq_true rfl) (Nat.le_of_ble_eq_true rfl)
set_option maxRecDepth 100000 in
set_option maxHeartbeats 4000000 in
theorem kX8_valueOf {l : Launch} {V : uV} (W0 : uWM l V) {p1 : Int32} {st : uSt} {r : Int32} {s9 : uSt} (h : fX8_valueOf p1 st = some (r, s9)) : uMet l V yX8_valueOf cX8_valueOf 2 (some .int) 2 45 0 0 [.ref (vA V 0), .int p1] st (some (.int r)) s9 := by
  refine ux_met W0.1 W0.2.1 (by decide) rfl (Nat.le_of_ble_eq_true rfl) (fun M hL hr C => ?_)
  subst hL
  have C : uCx M V cX8_valueOf 2 RX8 2 45 0 0 := C
  unfold fX8_valueOf at h
  refine ux_aload_n C dX8_valueOf_0 0 rfl ?_
  refine ux_iconst (v := 0) C dX8_valueOf_1 (by decide) ?_
  refine ux_puti C fp_X8_49 dX8_valueOf_2 (oM W0) (Nat.le_of_ble_eq_true rfl) rfl h (fun st_1 h => ?_)
  refine ux_aload_n C dX8_valueOf_5 0 rfl ?_
  refine ux_aload_n C dX8_valueOf_6 0 rfl ?_
  refine ux_iload_n C dX8_valueOf_7 1 rfl ?_
  obtain ⟨x_2, h1, h⟩ := ob_some h
  refine ux_callVi C cv_X8_257 dX8_valueOf_8 (oM W0) rfl (kX8_isSet W0 h1) rfl (Nat.le_of_ble_eq_true rfl) ⟨(Nat.le_of_ble_eq_true rfl), (Nat.le_of_ble_eq_true rfl)⟩ ⟨(Nat.le_of_ble_eq_true rfl), (Nat.le_of_ble_eq_true rfl)⟩ ?_ rfl
  refine ux_iconst (v := 1) C dX8_valueOf_11 (by decide) ?_
  obtain ⟨x_4, st_3, h1, h⟩ := obS_some h
  refine ux_callVi C cv_X8_55 dX8_valueOf_12 (oM W0) rfl (kX8_may W0 h1) rfl (Nat.le_of_ble_eq_true rfl) ⟨(Nat.le_of_ble_eq_true rfl), (Nat.le_of_ble_eq_true rfl)⟩ ⟨(Nat.le_of_ble_eq_true rfl), (Nat.le_of_ble_eq_true rfl)⟩ ?_ rfl
  refine ux_if_eq C dX8_valueOf_15 h (fun h => ?_) (fun h => ?_)
  · refine ux_iconst (v := 0) C dX8_valueOf_26 (by decide) ?_
    exact ux_iretS C hr dX8_valueOf_27 h (Nat.le_of_ble_eq_true rfl) (Nat.le_of_ble_eq_true rfl)
  · refine ux_aload_n C dX8_valueOf_18 0 rfl ?_
    refine ux_iload_n C dX8_valueOf_19 1 rfl ?_
    obtain ⟨x_5, h1, h⟩ := ob_some h
    refine ux_callVi C cv_X8_187 dX8_valueOf_20 (oM W0) rfl (kX8_valueIn W0 h1) rfl (Nat.le_of_ble_eq_true rfl) ⟨(Nat.le_of_ble_eq_true rfl), (Nat.le_of_ble_eq_true rfl)⟩ ⟨(Nat.le_of_ble_eq_true rfl), (Nat.le_of_ble_eq_true rfl)⟩ ?_ rfl
    refine ux_goto C dX8_valueOf_23 ?_
    exact ux_iretS C hr dX8_valueOf_27 h (Nat.le_of_ble_eq_true rfl) (Nat.le_of_ble_eq_true rfl)
set_option maxRecDepth 100000 in
set_option maxHeartbeats 4000000 in
theorem kX8_isEnergy {l : Launch} {V : uV} (W0 : uWM l V) {p1 : Int32} {st : uSt} {r : Int32} (h : fX8_isEnergy p1 = some r) : uMet l V yX8_isEnergy cX8_isEnergy 2 (some .boolean) 1 22 0 0 [.ref (vA V 0), .int p1] st (some (.int r)) st := by
  refine ux_met W0.1 W0.2.1 (by decide) rfl (Nat.le_of_ble_eq_true rfl) (fun M hL hr C => ?_)
  subst hL
  have C : uCx M V cX8_isEnergy 2 RX8 1 22 0 0 := C
  unfold fX8_isEnergy at h
  refine ux_iload_n C dX8_isEnergy_0 1 rfl ?_
  refine ux_iconst (v := 0) C dX8_isEnergy_1 (by decide) ?_
  refine ux_sipush (v := 500) C dX8_isEnergy_2 (by decide) ?_
  obtain ⟨x_1, h1, h⟩ := ob_some h
  refine ux_callSi C cs_X8_59 dX8_isEnergy_5 (kX8_isIn W0 h1) rfl (Nat.le_of_ble_eq_true rfl) ⟨(Nat.le_of_ble_eq_true rfl), (Nat.le_of_ble_eq_true rfl)⟩ ⟨(Nat.le_of_ble_eq_true rfl), (Nat.le_of_ble_eq_true rfl)⟩ ?_ rfl
  exact ux_zret C hr dX8_isEnergy_8 h (Nat.le_of_ble_eq_true rfl) (Nat.le_of_ble_eq_true rfl)
set_option maxRecDepth 100000 in
set_option maxHeartbeats 4000000 in
theorem kX8_bestSet {l : Launch} {V : uV} (W0 : uWM l V) {p1 : Int32} {st : uSt} {r : Int32} {s9 : uSt} (h : fX8_bestSet p1 st = some (r, s9)) : uMet l V yX8_bestSet cX8_bestSet 2 (some .int) 4 94 0 0 [.ref (vA V 0), .int p1] st (some (.int r)) s9 := by
  refine ux_met W0.1 W0.2.1 (by decide) rfl (Nat.le_of_ble_eq_true rfl) (fun M hL hr C => ?_)
  subst hL
  have C : uCx M V cX8_bestSet 2 RX8 4 94 0 0 := C
  unfold fX8_bestSet at h
  refine ux_aload_n C dX8_bestSet_0 0 rfl ?_
  refine ux_iconst (v := 0) C dX8_bestSet_1 (by decide) ?_
  refine ux_puti C fp_X8_49 dX8_bestSet_2 (oM W0) (Nat.le_of_ble_eq_true rfl) rfl h (fun st_1 h => ?_)
  refine ux_aload_n C dX8_bestSet_5 0 rfl ?_
  refine ux_aload_n C dX8_bestSet_6 0 rfl ?_
  refine ux_iload_n C dX8_bestSet_7 1 rfl ?_
  obtain ⟨x_2, h1, h⟩ := ob_some h
  refine ux_callVi C cv_X8_260 dX8_bestSet_8 (oM W0) rfl (kX8_isEnergy W0 h1) rfl (Nat.le_of_ble_eq_true rfl) ⟨(Nat.le_of_ble_eq_true rfl), (Nat.le_of_ble_eq_true rfl)⟩ ⟨(Nat.le_of_ble_eq_true rfl), (Nat.le_of_ble_eq_true rfl)⟩ ?_ rfl
  refine ux_iconst (v := 1) C dX8_bestSet_11 (by decide) ?_
  obtain ⟨x_4, st_3, h1, h⟩ := obS_some h
  refine ux_callVi C cv_X8_55 dX8_bestSet_12 (oM W0) rfl (kX8_may W0 h1) rfl (Nat.le_of_ble_eq_true rfl) ⟨(Nat.le_of_ble_eq_true rfl), (Nat.le_of_ble_eq_true rfl)⟩ ⟨(Nat.le_of_ble_eq_true rfl), (Nat.le_of_ble_eq_true rfl)⟩ ?_ rfl
  refine ux_if_ne C dX8_bestSet_15 h (fun h => ?_) (fun h => ?_)
  · refine ux_iconst (v := 0) C dX8_bestSet_18 (by decide) ?_
    exact ux_iretS C hr dX8_bestSet_19 h (Nat.le_of_ble_eq_true rfl) (Nat.le_of_ble_eq_true rfl)
  · refine ux_aload_n C dX8_bestSet_20 0 rfl ?_
    refine ux_aload_n C dX8_bestSet_21 0 rfl ?_
    refine ux_get C fl_X8_7 dX8_bestSet_22 (oM W0) rfl ?_
    refine ux_bipush (v := 25) C dX8_bestSet_25 (by decide) ?_
    refine ux_ialdK (j := 25) C (aM_a W0) dX8_bestSet_27 (by decide) (by decide) ?_
    obtain ⟨st_5, h1, h⟩ := obV_some h
    refine ux_callVv C cv_X8_224 dX8_bestSet_28 (oM W0) rfl (kX8_weighs W0 h1) rfl (Nat.le_of_ble_eq_true rfl) ⟨(Nat.le_of_ble_eq_true rfl), (Nat.le_of_ble_eq_true rfl)⟩ ⟨(Nat.le_of_ble_eq_true rfl), (Nat.le_of_ble_eq_true rfl)⟩ ?_ rfl
    refine ux_aload_n C dX8_bestSet_31 0 rfl ?_
    refine ux_iload_n C dX8_bestSet_32 1 rfl ?_
    obtain ⟨x_6, h1, h⟩ := ob_some h
    refine ux_callVi C cv_X8_227 dX8_bestSet_33 (oM W0) rfl (kX8_bestOf W0 h1) rfl (Nat.le_of_ble_eq_true rfl) ⟨(Nat.le_of_ble_eq_true rfl), (Nat.le_of_ble_eq_true rfl)⟩ ⟨(Nat.le_of_ble_eq_true rfl), (Nat.le_of_ble_eq_true rfl)⟩ ?_ rfl
    exact ux_iretS C hr dX8_bestSet_36 h (Nat.le_of_ble_eq_true rfl) (Nat.le_of_ble_eq_true rfl)
set_option maxRecDepth 100000 in
set_option maxHeartbeats 4000000 in
theorem kX8_bestValue {l : Launch} {V : uV} (W0 : uWM l V) {p1 : Int32} {st : uSt} {r : Int32} {s9 : uSt} (h : fX8_bestValue p1 st = some (r, s9)) : uMet l V yX8_bestValue cX8_bestValue 2 (some .int) 5 116 0 0 [.ref (vA V 0), .int p1] st (some (.int r)) s9 := by
  refine ux_met W0.1 W0.2.1 (by decide) rfl (Nat.le_of_ble_eq_true rfl) (fun M hL hr C => ?_)
  subst hL
  have C : uCx M V cX8_bestValue 2 RX8 5 116 0 0 := C
  unfold fX8_bestValue at h
  refine ux_aload_n C dX8_bestValue_0 0 rfl ?_
  refine ux_iconst (v := 0) C dX8_bestValue_1 (by decide) ?_
  refine ux_puti C fp_X8_49 dX8_bestValue_2 (oM W0) (Nat.le_of_ble_eq_true rfl) rfl h (fun st_1 h => ?_)
  refine ux_aload_n C dX8_bestValue_5 0 rfl ?_
  refine ux_aload_n C dX8_bestValue_6 0 rfl ?_
  refine ux_iload_n C dX8_bestValue_7 1 rfl ?_
  obtain ⟨x_2, h1, h⟩ := ob_some h
  refine ux_callVi C cv_X8_260 dX8_bestValue_8 (oM W0) rfl (kX8_isEnergy W0 h1) rfl (Nat.le_of_ble_eq_true rfl) ⟨(Nat.le_of_ble_eq_true rfl), (Nat.le_of_ble_eq_true rfl)⟩ ⟨(Nat.le_of_ble_eq_true rfl), (Nat.le_of_ble_eq_true rfl)⟩ ?_ rfl
  refine ux_iconst (v := 1) C dX8_bestValue_11 (by decide) ?_
  obtain ⟨x_4, st_3, h1, h⟩ := obS_some h
  refine ux_callVi C cv_X8_55 dX8_bestValue_12 (oM W0) rfl (kX8_may W0 h1) rfl (Nat.le_of_ble_eq_true rfl) ⟨(Nat.le_of_ble_eq_true rfl), (Nat.le_of_ble_eq_true rfl)⟩ ⟨(Nat.le_of_ble_eq_true rfl), (Nat.le_of_ble_eq_true rfl)⟩ ?_ rfl
  refine ux_if_eq C dX8_bestValue_15 h (fun h => ?_) (fun h => ?_)
  · refine ux_iconst (v := 0) C dX8_bestValue_33 (by decide) ?_
    exact ux_iretS C hr dX8_bestValue_34 h (Nat.le_of_ble_eq_true rfl) (Nat.le_of_ble_eq_true rfl)
  · refine ux_aload_n C dX8_bestValue_18 0 rfl ?_
    refine ux_aload_n C dX8_bestValue_19 0 rfl ?_
    refine ux_get C fl_X8_7 dX8_bestValue_20 (oM W0) rfl ?_
    refine ux_bipush (v := 25) C dX8_bestValue_23 (by decide) ?_
    refine ux_ialdK (j := 25) C (aM_a W0) dX8_bestValue_25 (by decide) (by decide) ?_
    refine ux_iload_n C dX8_bestValue_26 1 rfl ?_
    obtain ⟨x_6, st_5, h1, h⟩ := obS_some h
    refine ux_callVi C cv_X8_263 dX8_bestValue_27 (oM W0) rfl (kX8_valueWithin W0 h1) rfl (Nat.le_of_ble_eq_true rfl) ⟨(Nat.le_of_ble_eq_true rfl), (Nat.le_of_ble_eq_true rfl)⟩ ⟨(Nat.le_of_ble_eq_true rfl), (Nat.le_of_ble_eq_true rfl)⟩ ?_ rfl
    refine ux_goto C dX8_bestValue_30 ?_
    exact ux_iretS C hr dX8_bestValue_34 h (Nat.le_of_ble_eq_true rfl) (Nat.le_of_ble_eq_true rfl)
set_option maxRecDepth 100000 in
set_option maxHeartbeats 4000000 in
theorem wX8_greedyOf_17 {M : uM} {V : uV} (W0 : uWM (mL M) V) (C : uCx M V cX8_greedyOf 6 RX8 3 70 0 0) (hr : (mT M).sig.returnType = (some .int)) {l1 : Int32} {l2 : Int32} {l3 : Int32} {st : uSt} {r : Int32} {ke : Int32 → Option Int32} (K : ∀ (l4 : Int32), ke l4 = some r → uW M V (uEnd M V 0 0 (some (.int r)) st) 6 0 0 71 [(0, .ref (vA V 0)), (1, .int l1), (2, .int l2), (3, .int l3), (4, .int l4)] [] st) : ∀ (n : Nat) (l4 : Int32) (l5 : Int32), fX8_greedyOf_17 l1 l2 l3 st ke n l4 l5 = some r → uW M V (uEnd M V 0 0 (some (.int r)) st) 6 0 0 17 [(0, .ref (vA V 0)), (1, .int l1), (2, .int l2), (3, .int l3), (4, .int l4), (5, .int l5)] [] st := by
  intro n
  induction n with
  | zero =>
    intro l4 l5 h
    rw [fX8_greedyOf_17] at h
    cases h
  | succ n ih =>
    intro l4 l5 h
    rw [fX8_greedyOf_17] at h
    refine ux_iload C dX8_greedyOf_17 5 rfl ?_
    refine ux_aload_n C dX8_greedyOf_19 0 rfl ?_
    refine ux_get C fl_X8_7 dX8_greedyOf_20 (oM W0) rfl ?_
    refine ux_bipush (v := 36) C dX8_greedyOf_23 (by decide) ?_
    refine ux_ialdK (j := 36) C (aM_a W0) dX8_greedyOf_25 (by decide) (by decide) ?_
    refine ux_icmp_ge C dX8_greedyOf_26 h (fun h => ?_) (fun h => ?_)
    · refine ux_sub [0, 1, 2, 3, 4] rfl ?_
      exact K l4 h
    · refine ux_iload_n C dX8_greedyOf_29 3 rfl ?_
      refine ux_iload C dX8_greedyOf_30 5 rfl ?_
      obtain ⟨x_6, h1, h⟩ := ob_some h
      refine ux_callSi C cs_X8_144 dX8_greedyOf_32 (kX8_has W0 h1) rfl (Nat.le_of_ble_eq_true rfl) ⟨(Nat.le_of_ble_eq_true rfl), (Nat.le_of_ble_eq_true rfl)⟩ ⟨(Nat.le_of_ble_eq_true rfl), (Nat.le_of_ble_eq_true rfl)⟩ ?_ rfl
      refine ux_if_eq C dX8_greedyOf_35 h (fun h => ?_) (fun h => ?_)
      · refine ux_iincK C dX8_greedyOf_65 (by decide) 5 rfl (fun z => [(5, .int z), (0, .ref (vA V 0)), (1, .int l1), (2, .int l2), (3, .int l3), (4, .int l4)]) (fun _ => rfl) (by decide) h (fun l5_7 h => ?_)
        refine ux_goto C dX8_greedyOf_68 ?_
        refine ux_sub [1, 2, 3, 4, 5, 0] rfl ?_
        exact ih _ _ h
      · refine ux_iload C dX8_greedyOf_38 4 rfl ?_
        refine ux_iconst (v := (-1)) C dX8_greedyOf_40 (by decide) ?_
        obtain ⟨j_8, hK_8, h⟩ := oj0_some h
        have hJ_8 : j_8 = some r → uW M V (uEnd M V 0 0 (some (.int r)) st) 6 0 0 61 [(0, .ref (vA V 0)), (1, .int l1), (2, .int l2), (3, .int l3), (5, .int l5)] [] st := by
          intro h
          replace h := hK_8 h
          refine ux_iload C dX8_greedyOf_61 4 rfl ?_
          refine ux_istoreK C dX8_greedyOf_63 rfl (by decide) ?_
          refine ux_iincK C dX8_greedyOf_65 (by decide) 5 rfl (fun z => [(5, .int z), (4, .int l5), (0, .ref (vA V 0)), (1, .int l1), (2, .int l2), (3, .int l3)]) (fun _ => rfl) (by decide) h (fun l5_10 h => ?_)
          refine ux_goto C dX8_greedyOf_68 ?_
          refine ux_sub [2, 3, 4, 5, 1, 0] rfl ?_
          exact ih _ _ h
        refine ux_icmp_eq C dX8_greedyOf_41 h (fun h => ?_) (fun h => ?_)
        · refine ux_sub [0, 1, 2, 3, 5] rfl ?_
          exact hJ_8 h
        · refine ux_aload_n C dX8_greedyOf_44 0 rfl ?_
          refine ux_iload C dX8_greedyOf_45 5 rfl ?_
          refine ux_iconst (v := 1) C dX8_greedyOf_47 (by decide) ?_
          obtain ⟨x_11, h1, h⟩ := ob_some h
          refine ux_callVi C cv_X8_160 dX8_greedyOf_48 (oM W0) rfl (kX8_of W0 h1) rfl (Nat.le_of_ble_eq_true rfl) ⟨(Nat.le_of_ble_eq_true rfl), (Nat.le_of_ble_eq_true rfl)⟩ ⟨(Nat.le_of_ble_eq_true rfl), (Nat.le_of_ble_eq_true rfl)⟩ ?_ rfl
          refine ux_aload_n C dX8_greedyOf_51 0 rfl ?_
          refine ux_iload C dX8_greedyOf_52 4 rfl ?_
          refine ux_iconst (v := 1) C dX8_greedyOf_54 (by decide) ?_
          obtain ⟨x_12, h1, h⟩ := ob_some h
          refine ux_callVi C cv_X8_160 dX8_greedyOf_55 (oM W0) rfl (kX8_of W0 h1) rfl (Nat.le_of_ble_eq_true rfl) ⟨(Nat.le_of_ble_eq_true rfl), (Nat.le_of_ble_eq_true rfl)⟩ ⟨(Nat.le_of_ble_eq_true rfl), (Nat.le_of_ble_eq_true rfl)⟩ ?_ rfl
          refine ux_icmp_le C dX8_greedyOf_58 h (fun h => ?_) (fun h => ?_)
          · refine ux_iincK C dX8_greedyOf_65 (by decide) 5 rfl (fun z => [(5, .int z), (0, .ref (vA V 0)), (1, .int l1), (2, .int l2), (3, .int l3), (4, .int l4)]) (fun _ => rfl) (by decide) h (fun l5_13 h => ?_)
            refine ux_goto C dX8_greedyOf_68 ?_
            refine ux_sub [1, 2, 3, 4, 5, 0] rfl ?_
            exact ih _ _ h
          · refine ux_sub [0, 1, 2, 3, 5] rfl ?_
            exact hJ_8 h
set_option maxRecDepth 100000 in
set_option maxHeartbeats 4000000 in
theorem wX8_greedyOf_7 {M : uM} {V : uV} (W0 : uWM (mL M) V) (C : uCx M V cX8_greedyOf 6 RX8 3 70 0 0) (hr : (mT M).sig.returnType = (some .int)) {l1 : Int32} {st : uSt} {r : Int32} {ke : Int32 → Option Int32} (K : ∀ (l2 : Int32), ke l2 = some r → uW M V (uEnd M V 0 0 (some (.int r)) st) 6 0 0 108 [(2, .int l2)] [] st) : ∀ (n : Nat) (l2 : Int32) (l3 : Int32), fX8_greedyOf_7 l1 st ke n l2 l3 = some r → uW M V (uEnd M V 0 0 (some (.int r)) st) 6 0 0 7 [(0, .ref (vA V 0)), (1, .int l1), (2, .int l2), (3, .int l3)] [] st := by
  intro n
  induction n with
  | zero =>
    intro l2 l3 h
    rw [fX8_greedyOf_7] at h
    cases h
  | succ n ih =>
    intro l2 l3 h
    rw [fX8_greedyOf_7] at h
    refine ux_iload_n C dX8_greedyOf_7 3 rfl ?_
    refine ux_if_eq C dX8_greedyOf_8 h (fun h => ?_) (fun h => ?_)
    · refine ux_sub [2] rfl ?_
      exact K l2 h
    · refine ux_iconst (v := (-1)) C dX8_greedyOf_11 (by decide) ?_
      refine ux_istoreK C dX8_greedyOf_12 rfl (by decide) ?_
      refine ux_iconst (v := 0) C dX8_greedyOf_14 (by decide) ?_
      refine ux_istoreK C dX8_greedyOf_15 rfl (by decide) ?_
      refine ux_sub [2, 3, 4, 5, 1, 0] rfl ?_
      refine wX8_greedyOf_17 W0 C hr (fun l4_14 h => ?_) _ _ _ h
      refine ux_iload_n C dX8_greedyOf_71 3 rfl ?_
      refine ux_iconst (v := 1) C dX8_greedyOf_72 (by decide) ?_
      refine ux_iload C dX8_greedyOf_73 4 rfl ?_
      refine ux_ishl C dX8_greedyOf_75 ?_
      refine ux_iconst (v := (-1)) C dX8_greedyOf_76 (by decide) ?_
      refine ux_ixor C dX8_greedyOf_77 ?_
      refine ux_iand C dX8_greedyOf_78 ?_
      refine ux_istore_n C dX8_greedyOf_79 (fun z => [(3, .int z), (0, .ref (vA V 0)), (1, .int l1), (2, .int l2), (4, .int l4_14)]) (fun _ => rfl) (by decide) h (fun l3_15 h => ?_)
      refine ux_iload_n C dX8_greedyOf_80 3 rfl ?_
      refine ux_aload_n C dX8_greedyOf_81 1 rfl ?_
      refine ux_iload_n C dX8_greedyOf_82 3 rfl ?_
      refine ux_iconst (v := 1) C dX8_greedyOf_83 (by decide) ?_
      refine ux_iload C dX8_greedyOf_84 4 rfl ?_
      refine ux_ishl C dX8_greedyOf_86 ?_
      refine ux_ior C dX8_greedyOf_87 ?_
      obtain ⟨x_16, h1, h⟩ := ob_some h
      refine ux_callVi C cv_X8_175 dX8_greedyOf_88 (oM W0) rfl (kX8_energyIn W0 h1) rfl (Nat.le_of_ble_eq_true rfl) ⟨(Nat.le_of_ble_eq_true rfl), (Nat.le_of_ble_eq_true rfl)⟩ ⟨(Nat.le_of_ble_eq_true rfl), (Nat.le_of_ble_eq_true rfl)⟩ ?_ rfl
      refine ux_iload_n C dX8_greedyOf_91 2 rfl ?_
      obtain ⟨j_17, hK_17, h⟩ := oj1_some h
      have hJ_17 : ∀ (v_18 : Int32), j_17 v_18 = some r → uW M V (uEnd M V 0 0 (some (.int r)) st) 6 0 0 103 [(0, .ref (vA V 0)), (1, .int l1), (3, .int l3_15)] [.int v_18, .int l2] st := by
        intro v_18 h
        replace h := hK_17 v_18 h
        refine ux_ior C dX8_greedyOf_103 ?_
        refine ux_istore_n C dX8_greedyOf_104 (fun z => [(2, .int z), (0, .ref (vA V 0)), (1, .int l1), (3, .int l3_15)]) (fun _ => rfl) (by decide) h (fun l2_19 h => ?_)
        refine ux_goto C dX8_greedyOf_105 ?_
        refine ux_sub [1, 2, 0, 3] rfl ?_
        exact ih _ _ h
      refine ux_icmp_gt C dX8_greedyOf_92 h (fun h => ?_) (fun h => ?_)
      · refine ux_iconst (v := 0) C dX8_greedyOf_102 (by decide) ?_
        refine ux_sub [1, 2, 0] rfl ?_
        exact hJ_17 (0 : Int32) h
      · refine ux_iconst (v := 1) C dX8_greedyOf_95 (by decide) ?_
        refine ux_iload C dX8_greedyOf_96 4 rfl ?_
        refine ux_ishl C dX8_greedyOf_98 ?_
        refine ux_goto C dX8_greedyOf_99 ?_
        refine ux_sub [1, 2, 0] rfl ?_
        exact hJ_17 ((1 : Int32) <<< (l4_14 &&& 31)) h
set_option maxRecDepth 100000 in
set_option maxHeartbeats 4000000 in
theorem kX8_greedyOf {l : Launch} {V : uV} (W0 : uWM l V) {p1 : Int32} {st : uSt} {r : Int32} (h : fX8_greedyOf p1 st = some r) : uMet l V yX8_greedyOf cX8_greedyOf 6 (some .int) 3 70 0 0 [.ref (vA V 0), .int p1] st (some (.int r)) st := by
  refine ux_met W0.1 W0.2.1 (by decide) rfl (Nat.le_of_ble_eq_true rfl) (fun M hL hr C => ?_)
  subst hL
  have C : uCx M V cX8_greedyOf 6 RX8 3 70 0 0 := C
  unfold fX8_greedyOf at h
  refine ux_iconst (v := 0) C dX8_greedyOf_0 (by decide) ?_
  refine ux_istoreK_n C dX8_greedyOf_1 rfl (by decide) ?_
  refine ux_aload_n C dX8_greedyOf_2 1 rfl ?_
  obtain ⟨x_2, h1, h⟩ := ob_some h
  refine ux_callVi C cv_X8_172 dX8_greedyOf_3 (oM W0) rfl (kX8_possible W0 h1) rfl (Nat.le_of_ble_eq_true rfl) ⟨(Nat.le_of_ble_eq_true rfl), (Nat.le_of_ble_eq_true rfl)⟩ ⟨(Nat.le_of_ble_eq_true rfl), (Nat.le_of_ble_eq_true rfl)⟩ ?_ rfl
  refine ux_istoreK_n C dX8_greedyOf_6 rfl (by decide) ?_
  refine ux_sub [2, 3, 1, 0] rfl ?_
  refine wX8_greedyOf_7 W0 C hr (fun l2_20 h => ?_) _ _ _ h
  refine ux_iload_n C dX8_greedyOf_108 0 rfl ?_
  exact ux_iret C hr dX8_greedyOf_109 h (Nat.le_of_ble_eq_true rfl) (Nat.le_of_ble_eq_true rfl)
set_option maxRecDepth 100000 in
set_option maxHeartbeats 4000000 in
theorem kX8_greedySet {l : Launch} {V : uV} (W0 : uWM l V) {p1 : Int32} {st : uSt} {r : Int32} {s9 : uSt} (h : fX8_greedySet p1 st = some (r, s9)) : uMet l V yX8_greedySet cX8_greedySet 2 (some .int) 4 95 0 0 [.ref (vA V 0), .int p1] st (some (.int r)) s9 := by
  refine ux_met W0.1 W0.2.1 (by decide) rfl (Nat.le_of_ble_eq_true rfl) (fun M hL hr C => ?_)
  subst hL
  have C : uCx M V cX8_greedySet 2 RX8 4 95 0 0 := C
  unfold fX8_greedySet at h
  refine ux_aload_n C dX8_greedySet_0 0 rfl ?_
  refine ux_iconst (v := 0) C dX8_greedySet_1 (by decide) ?_
  refine ux_puti C fp_X8_49 dX8_greedySet_2 (oM W0) (Nat.le_of_ble_eq_true rfl) rfl h (fun st_1 h => ?_)
  refine ux_aload_n C dX8_greedySet_5 0 rfl ?_
  refine ux_aload_n C dX8_greedySet_6 0 rfl ?_
  refine ux_iload_n C dX8_greedySet_7 1 rfl ?_
  obtain ⟨x_2, h1, h⟩ := ob_some h
  refine ux_callVi C cv_X8_260 dX8_greedySet_8 (oM W0) rfl (kX8_isEnergy W0 h1) rfl (Nat.le_of_ble_eq_true rfl) ⟨(Nat.le_of_ble_eq_true rfl), (Nat.le_of_ble_eq_true rfl)⟩ ⟨(Nat.le_of_ble_eq_true rfl), (Nat.le_of_ble_eq_true rfl)⟩ ?_ rfl
  refine ux_iconst (v := 1) C dX8_greedySet_11 (by decide) ?_
  obtain ⟨x_4, st_3, h1, h⟩ := obS_some h
  refine ux_callVi C cv_X8_55 dX8_greedySet_12 (oM W0) rfl (kX8_may W0 h1) rfl (Nat.le_of_ble_eq_true rfl) ⟨(Nat.le_of_ble_eq_true rfl), (Nat.le_of_ble_eq_true rfl)⟩ ⟨(Nat.le_of_ble_eq_true rfl), (Nat.le_of_ble_eq_true rfl)⟩ ?_ rfl
  refine ux_if_eq C dX8_greedySet_15 h (fun h => ?_) (fun h => ?_)
  · refine ux_iconst (v := 0) C dX8_greedySet_26 (by decide) ?_
    exact ux_iretS C hr dX8_greedySet_27 h (Nat.le_of_ble_eq_true rfl) (Nat.le_of_ble_eq_true rfl)
  · refine ux_aload_n C dX8_greedySet_18 0 rfl ?_
    refine ux_iload_n C dX8_greedySet_19 1 rfl ?_
    obtain ⟨x_5, h1, h⟩ := ob_some h
    refine ux_callVi C cv_X8_266 dX8_greedySet_20 (oM W0) rfl (kX8_greedyOf W0 h1) rfl (Nat.le_of_ble_eq_true rfl) ⟨(Nat.le_of_ble_eq_true rfl), (Nat.le_of_ble_eq_true rfl)⟩ ⟨(Nat.le_of_ble_eq_true rfl), (Nat.le_of_ble_eq_true rfl)⟩ ?_ rfl
    refine ux_goto C dX8_greedySet_23 ?_
    exact ux_iretS C hr dX8_greedySet_27 h (Nat.le_of_ble_eq_true rfl) (Nat.le_of_ble_eq_true rfl)
set_option maxRecDepth 100000 in
set_option maxHeartbeats 4000000 in
theorem wX8_energyFor_36 {M : uM} {V : uV} (W0 : uWM (mL M) V) (C : uCx M V cX8_energyFor 3 RX8 4 94 0 0) (hr : (mT M).sig.returnType = (some .int)) {l1 : Int32} {st : uSt} {r : Int32} {s9 : uSt} {ke : Option (Int32 × uSt)} (K : ke = some (r, s9) → uW M V (uEnd M V 0 0 (some (.int r)) s9) 3 0 0 60 [(0, .ref (vA V 0))] [] st) : ∀ (n : Nat) (l2 : Int32), fX8_energyFor_36 l1 st ke n l2 = some (r, s9) → uW M V (uEnd M V 0 0 (some (.int r)) s9) 3 0 0 36 [(0, .ref (vA V 0)), (1, .int l1), (2, .int l2)] [] st := by
  intro n
  induction n with
  | zero =>
    intro l2 h
    rw [fX8_energyFor_36] at h
    cases h
  | succ n ih =>
    intro l2 h
    rw [fX8_energyFor_36] at h
    refine ux_iload_n C dX8_energyFor_36 2 rfl ?_
    refine ux_sipush (v := 500) C dX8_energyFor_37 (by decide) ?_
    refine ux_icmp_gt C dX8_energyFor_40 h (fun h => ?_) (fun h => ?_)
    · refine ux_sub [0] rfl ?_
      exact K  h
    · refine ux_aload_n C dX8_energyFor_43 0 rfl ?_
      refine ux_iload_n C dX8_energyFor_44 2 rfl ?_
      obtain ⟨x_7, h1, h⟩ := ob_some h
      refine ux_callVi C cv_X8_248 dX8_energyFor_45 (oM W0) rfl (kX8_valueBy W0 h1) rfl (Nat.le_of_ble_eq_true rfl) ⟨(Nat.le_of_ble_eq_true rfl), (Nat.le_of_ble_eq_true rfl)⟩ ⟨(Nat.le_of_ble_eq_true rfl), (Nat.le_of_ble_eq_true rfl)⟩ ?_ rfl
      refine ux_iload_n C dX8_energyFor_48 1 rfl ?_
      refine ux_icmp_lt C dX8_energyFor_49 h (fun h => ?_) (fun h => ?_)
      · refine ux_iincK C dX8_energyFor_54 (by decide) 2 rfl (fun z => [(2, .int z), (0, .ref (vA V 0)), (1, .int l1)]) (fun _ => rfl) (by decide) h (fun l2_8 h => ?_)
        refine ux_goto C dX8_energyFor_57 ?_
        refine ux_sub [1, 2, 0] rfl ?_
        exact ih _ h
      · refine ux_iload_n C dX8_energyFor_52 2 rfl ?_
        exact ux_iretS C hr dX8_energyFor_53 h (Nat.le_of_ble_eq_true rfl) (Nat.le_of_ble_eq_true rfl)
set_option maxRecDepth 100000 in
set_option maxHeartbeats 4000000 in
theorem kX8_energyFor {l : Launch} {V : uV} (W0 : uWM l V) {p1 : Int32} {st : uSt} {r : Int32} {s9 : uSt} (h : fX8_energyFor p1 st = some (r, s9)) : uMet l V yX8_energyFor cX8_energyFor 3 (some .int) 4 94 0 0 [.ref (vA V 0), .int p1] st (some (.int r)) s9 := by
  refine ux_met W0.1 W0.2.1 (by decide) rfl (Nat.le_of_ble_eq_true rfl) (fun M hL hr C => ?_)
  subst hL
  have C : uCx M V cX8_energyFor 3 RX8 4 94 0 0 := C
  unfold fX8_energyFor at h
  refine ux_aload_n C dX8_energyFor_0 0 rfl ?_
  refine ux_iconst (v := 0) C dX8_energyFor_1 (by decide) ?_
  refine ux_puti C fp_X8_49 dX8_energyFor_2 (oM W0) (Nat.le_of_ble_eq_true rfl) rfl h (fun st_1 h => ?_)
  refine ux_aload_n C dX8_energyFor_5 0 rfl ?_
  refine ux_iload_n C dX8_energyFor_6 1 rfl ?_
  refine ux_iconst (v := 0) C dX8_energyFor_7 (by decide) ?_
  refine ux_sipush (v := 2376) C dX8_energyFor_8 (by decide) ?_
  obtain ⟨x_2, h1, h⟩ := ob_some h
  refine ux_callSi C cs_X8_59 dX8_energyFor_11 (kX8_isIn W0 h1) rfl (Nat.le_of_ble_eq_true rfl) ⟨(Nat.le_of_ble_eq_true rfl), (Nat.le_of_ble_eq_true rfl)⟩ ⟨(Nat.le_of_ble_eq_true rfl), (Nat.le_of_ble_eq_true rfl)⟩ ?_ rfl
  refine ux_iconst (v := 1) C dX8_energyFor_14 (by decide) ?_
  obtain ⟨x_4, st_3, h1, h⟩ := obS_some h
  refine ux_callVi C cv_X8_55 dX8_energyFor_15 (oM W0) rfl (kX8_may W0 h1) rfl (Nat.le_of_ble_eq_true rfl) ⟨(Nat.le_of_ble_eq_true rfl), (Nat.le_of_ble_eq_true rfl)⟩ ⟨(Nat.le_of_ble_eq_true rfl), (Nat.le_of_ble_eq_true rfl)⟩ ?_ rfl
  refine ux_if_ne C dX8_energyFor_18 h (fun h => ?_) (fun h => ?_)
  · refine ux_iconst (v := 0) C dX8_energyFor_21 (by decide) ?_
    exact ux_iretS C hr dX8_energyFor_22 h (Nat.le_of_ble_eq_true rfl) (Nat.le_of_ble_eq_true rfl)
  · refine ux_aload_n C dX8_energyFor_23 0 rfl ?_
    refine ux_aload_n C dX8_energyFor_24 0 rfl ?_
    refine ux_get C fl_X8_7 dX8_energyFor_25 (oM W0) rfl ?_
    refine ux_bipush (v := 25) C dX8_energyFor_28 (by decide) ?_
    refine ux_ialdK (j := 25) C (aM_a W0) dX8_energyFor_30 (by decide) (by decide) ?_
    obtain ⟨st_5, h1, h⟩ := obV_some h
    refine ux_callVv C cv_X8_224 dX8_energyFor_31 (oM W0) rfl (kX8_weighs W0 h1) rfl (Nat.le_of_ble_eq_true rfl) ⟨(Nat.le_of_ble_eq_true rfl), (Nat.le_of_ble_eq_true rfl)⟩ ⟨(Nat.le_of_ble_eq_true rfl), (Nat.le_of_ble_eq_true rfl)⟩ ?_ rfl
    refine ux_iconst (v := 0) C dX8_energyFor_34 (by decide) ?_
    refine ux_istoreK_n C dX8_energyFor_35 rfl (by decide) ?_
    refine ux_sub [1, 2, 0] rfl ?_
    refine wX8_energyFor_36 W0 C hr (fun h => ?_) _ _ h
    refine ux_aload_n C dX8_energyFor_60 0 rfl ?_
    refine ux_iconst (v := 2) C dX8_energyFor_61 (by decide) ?_
    refine ux_puti C fp_X8_49 dX8_energyFor_62 (oM W0) (Nat.le_of_ble_eq_true rfl) rfl h (fun st_9 h => ?_)
    refine ux_iconst (v := 0) C dX8_energyFor_65 (by decide) ?_
    exact ux_iretS C hr dX8_energyFor_66 h (Nat.le_of_ble_eq_true rfl) (Nat.le_of_ble_eq_true rfl)
set_option maxRecDepth 100000 in
set_option maxHeartbeats 4000000 in
theorem kX8_extra {l : Launch} {V : uV} (W0 : uWM l V) {p1 : Int32} {st : uSt} {r : Int32} {s9 : uSt} (h : fX8_extra p1 st = some (r, s9)) : uMet l V yX8_extra cX8_extra 3 (some .int) 4 94 0 0 [.ref (vA V 0), .int p1] st (some (.int r)) s9 := by
  refine ux_met W0.1 W0.2.1 (by decide) rfl (Nat.le_of_ble_eq_true rfl) (fun M hL hr C => ?_)
  subst hL
  have C : uCx M V cX8_extra 3 RX8 4 94 0 0 := C
  unfold fX8_extra at h
  refine ux_aload_n C dX8_extra_0 0 rfl ?_
  refine ux_iconst (v := 0) C dX8_extra_1 (by decide) ?_
  refine ux_puti C fp_X8_49 dX8_extra_2 (oM W0) (Nat.le_of_ble_eq_true rfl) rfl h (fun st_1 h => ?_)
  refine ux_aload_n C dX8_extra_5 0 rfl ?_
  refine ux_aload_n C dX8_extra_6 0 rfl ?_
  refine ux_iload_n C dX8_extra_7 1 rfl ?_
  obtain ⟨x_2, h1, h⟩ := ob_some h
  refine ux_callVi C cv_X8_190 dX8_extra_8 (oM W0) rfl (kX8_isBlock W0 h1) rfl (Nat.le_of_ble_eq_true rfl) ⟨(Nat.le_of_ble_eq_true rfl), (Nat.le_of_ble_eq_true rfl)⟩ ⟨(Nat.le_of_ble_eq_true rfl), (Nat.le_of_ble_eq_true rfl)⟩ ?_ rfl
  refine ux_iconst (v := 1) C dX8_extra_11 (by decide) ?_
  obtain ⟨x_4, st_3, h1, h⟩ := obS_some h
  refine ux_callVi C cv_X8_55 dX8_extra_12 (oM W0) rfl (kX8_may W0 h1) rfl (Nat.le_of_ble_eq_true rfl) ⟨(Nat.le_of_ble_eq_true rfl), (Nat.le_of_ble_eq_true rfl)⟩ ⟨(Nat.le_of_ble_eq_true rfl), (Nat.le_of_ble_eq_true rfl)⟩ ?_ rfl
  refine ux_if_eq C dX8_extra_15 h (fun h => ?_) (fun h => ?_)
  · refine ux_iconst (v := 0) C dX8_extra_43 (by decide) ?_
    exact ux_iretS C hr dX8_extra_44 h (Nat.le_of_ble_eq_true rfl) (Nat.le_of_ble_eq_true rfl)
  · refine ux_aload_n C dX8_extra_18 0 rfl ?_
    refine ux_aload_n C dX8_extra_19 0 rfl ?_
    refine ux_aload_n C dX8_extra_20 0 rfl ?_
    refine ux_iload_n C dX8_extra_21 1 rfl ?_
    obtain ⟨x_5, h1, h⟩ := ob_some h
    refine ux_callVi C cv_X8_166 dX8_extra_22 (oM W0) rfl (kX8_deviceOf W0 h1) rfl (Nat.le_of_ble_eq_true rfl) ⟨(Nat.le_of_ble_eq_true rfl), (Nat.le_of_ble_eq_true rfl)⟩ ⟨(Nat.le_of_ble_eq_true rfl), (Nat.le_of_ble_eq_true rfl)⟩ ?_ rfl
    obtain ⟨x_6, h1, h⟩ := ob_some h
    refine ux_callVi C cv_X8_169 dX8_extra_25 (oM W0) rfl (kX8_hasFailed W0 h1) rfl (Nat.le_of_ble_eq_true rfl) ⟨(Nat.le_of_ble_eq_true rfl), (Nat.le_of_ble_eq_true rfl)⟩ ⟨(Nat.le_of_ble_eq_true rfl), (Nat.le_of_ble_eq_true rfl)⟩ ?_ rfl
    obtain ⟨j_7, hK_7, h⟩ := oj1_some h
    have hJ_7 : ∀ (v_8 : Int32), j_7 v_8 = some (r, s9) → uW M V (uEnd M V 0 0 (some (.int r)) s9) 3 0 0 36 [(0, .ref (vA V 0)), (1, .int p1)] [.int v_8, .ref (vA V 0)] st_3 := by
      intro v_8 h
      replace h := hK_7 v_8 h
      refine ux_iconst (v := 2) C dX8_extra_36 (by decide) ?_
      obtain ⟨x_10, st_9, h1, h⟩ := obS_some h
      refine ux_callVi C cv_X8_55 dX8_extra_37 (oM W0) rfl (kX8_may W0 h1) rfl (Nat.le_of_ble_eq_true rfl) ⟨(Nat.le_of_ble_eq_true rfl), (Nat.le_of_ble_eq_true rfl)⟩ ⟨(Nat.le_of_ble_eq_true rfl), (Nat.le_of_ble_eq_true rfl)⟩ ?_ rfl
      refine ux_if_ne C dX8_extra_40 h (fun h => ?_) (fun h => ?_)
      · refine ux_iconst (v := 0) C dX8_extra_43 (by decide) ?_
        exact ux_iretS C hr dX8_extra_44 h (Nat.le_of_ble_eq_true rfl) (Nat.le_of_ble_eq_true rfl)
      · refine ux_aload_n C dX8_extra_45 0 rfl ?_
        refine ux_aload_n C dX8_extra_46 0 rfl ?_
        refine ux_get C fl_X8_7 dX8_extra_47 (oM W0) rfl ?_
        refine ux_bipush (v := 25) C dX8_extra_50 (by decide) ?_
        refine ux_ialdK (j := 25) C (aM_a W0) dX8_extra_52 (by decide) (by decide) ?_
        obtain ⟨st_11, h1, h⟩ := obV_some h
        refine ux_callVv C cv_X8_224 dX8_extra_53 (oM W0) rfl (kX8_weighs W0 h1) rfl (Nat.le_of_ble_eq_true rfl) ⟨(Nat.le_of_ble_eq_true rfl), (Nat.le_of_ble_eq_true rfl)⟩ ⟨(Nat.le_of_ble_eq_true rfl), (Nat.le_of_ble_eq_true rfl)⟩ ?_ rfl
        refine ux_aload_n C dX8_extra_56 0 rfl ?_
        refine ux_aload_n C dX8_extra_57 0 rfl ?_
        refine ux_get C fl_X8_7 dX8_extra_58 (oM W0) rfl ?_
        refine ux_iconst (v := 1) C dX8_extra_61 (by decide) ?_
        refine ux_ialdK (j := 1) C (aM_a W0) dX8_extra_62 (by decide) (by decide) ?_
        obtain ⟨x_12, h1, h⟩ := ob_some h
        refine ux_callVi C cv_X8_227 dX8_extra_63 (oM W0) rfl (kX8_bestOf W0 h1) rfl (Nat.le_of_ble_eq_true rfl) ⟨(Nat.le_of_ble_eq_true rfl), (Nat.le_of_ble_eq_true rfl)⟩ ⟨(Nat.le_of_ble_eq_true rfl), (Nat.le_of_ble_eq_true rfl)⟩ ?_ rfl
        refine ux_istoreK_n C dX8_extra_66 rfl (by decide) ?_
        refine ux_aload_n C dX8_extra_67 1 rfl ?_
        refine ux_iload_n C dX8_extra_68 0 rfl ?_
        refine ux_iconst (v := 1) C dX8_extra_69 (by decide) ?_
        refine ux_iload_n C dX8_extra_70 2 rfl ?_
        refine ux_ishl C dX8_extra_71 ?_
        refine ux_ior C dX8_extra_72 ?_
        obtain ⟨x_14, h1, h⟩ := ob_some h
        refine ux_callVi C cv_X8_175 dX8_extra_73 (oM W0) rfl (kX8_energyIn W0 h1) rfl (Nat.le_of_ble_eq_true rfl) ⟨(Nat.le_of_ble_eq_true rfl), (Nat.le_of_ble_eq_true rfl)⟩ ⟨(Nat.le_of_ble_eq_true rfl), (Nat.le_of_ble_eq_true rfl)⟩ ?_ rfl
        refine ux_aload_n C dX8_extra_76 1 rfl ?_
        refine ux_iload_n C dX8_extra_77 0 rfl ?_
        obtain ⟨x_15, h1, h⟩ := ob_some h
        refine ux_callVi C cv_X8_175 dX8_extra_78 (oM W0) rfl (kX8_energyIn W0 h1) rfl (Nat.le_of_ble_eq_true rfl) ⟨(Nat.le_of_ble_eq_true rfl), (Nat.le_of_ble_eq_true rfl)⟩ ⟨(Nat.le_of_ble_eq_true rfl), (Nat.le_of_ble_eq_true rfl)⟩ ?_ rfl
        refine ux_isub C dX8_extra_81 ?_
        exact ux_iretS C hr dX8_extra_82 h (Nat.le_of_ble_eq_true rfl) (Nat.le_of_ble_eq_true rfl)
    refine ux_if_ne C dX8_extra_28 h (fun h => ?_) (fun h => ?_)
    · refine ux_iconst (v := 1) C dX8_extra_31 (by decide) ?_
      refine ux_goto C dX8_extra_32 ?_
      exact hJ_7 (1 : Int32) h
    · refine ux_iconst (v := 0) C dX8_extra_35 (by decide) ?_
      exact hJ_7 (0 : Int32) h
set_option maxRecDepth 100000 in
set_option maxHeartbeats 4000000 in
theorem wX8_keeps_2 {M : uM} {V : uV} (W0 : uWM (mL M) V) (C : uCx M V cX8_keeps 2 RX8 0 0 0 0) (hr : (mT M).sig.returnType = none) {s9 : uSt} {ke : uSt → Option (Unit × uSt)} (K : ∀ (st : uSt), ke st = some ((), s9) → uW M V (uEnd M V 0 0 none s9) 2 0 0 26 [] [] st) : ∀ (n : Nat) (st : uSt) (l1 : Int32), fX8_keeps_2 ke n st l1 = some ((), s9) → uW M V (uEnd M V 0 0 none s9) 2 0 0 2 [(0, .ref (vA V 0)), (1, .int l1)] [] st := by
  intro n
  induction n with
  | zero =>
    intro st l1 h
    rw [fX8_keeps_2] at h
    cases h
  | succ n ih =>
    intro st l1 h
    rw [fX8_keeps_2] at h
    refine ux_iload_n C dX8_keeps_2 1 rfl ?_
    refine ux_bipush (v := 109) C dX8_keeps_3 (by decide) ?_
    refine ux_icmp_ge C dX8_keeps_5 h (fun h => ?_) (fun h => ?_)
    · refine ux_sub [] rfl ?_
      exact K st h
    · refine ux_aload_n C dX8_keeps_8 0 rfl ?_
      refine ux_get C fl_X8_19 dX8_keeps_9 (oM W0) rfl ?_
      refine ux_iload_n C dX8_keeps_12 1 rfl ?_
      refine ux_aload_n C dX8_keeps_13 0 rfl ?_
      refine ux_get C fl_X8_7 dX8_keeps_14 (oM W0) rfl ?_
      refine ux_iload_n C dX8_keeps_17 1 rfl ?_
      refine ux_iald C (aM_a W0) dX8_keeps_18 h (fun h => ?_)
      refine ux_iast C (aM_beside W0) dX8_keeps_19 h (fun st_2 h => ?_)
      refine ux_iincK C dX8_keeps_20 (by decide) 1 rfl (fun z => [(1, .int z), (0, .ref (vA V 0))]) (fun _ => rfl) (by decide) h (fun l1_3 h => ?_)
      refine ux_goto C dX8_keeps_23 ?_
      refine ux_sub [1, 0] rfl ?_
      exact ih _ _ h
set_option maxRecDepth 100000 in
set_option maxHeartbeats 4000000 in
theorem kX8_keeps {l : Launch} {V : uV} (W0 : uWM l V) {st : uSt} {s9 : uSt} (h : fX8_keeps st = some ((), s9)) : uMet l V yX8_keeps cX8_keeps 2 none 0 0 0 0 [.ref (vA V 0)] st none s9 := by
  refine ux_met W0.1 W0.2.1 (by decide) rfl (Nat.le_of_ble_eq_true rfl) (fun M hL hr C => ?_)
  subst hL
  have C : uCx M V cX8_keeps 2 RX8 0 0 0 0 := C
  unfold fX8_keeps at h
  refine ux_iconst (v := 0) C dX8_keeps_0 (by decide) ?_
  refine ux_istoreK_n C dX8_keeps_1 rfl (by decide) ?_
  refine ux_sub [1, 0] rfl ?_
  refine wX8_keeps_2 W0 C hr (fun st_4 h => ?_) _ _ _ h
  exact ux_vret C hr dX8_keeps_26 h (Nat.le_of_ble_eq_true rfl) (Nat.le_of_ble_eq_true rfl)
set_option maxRecDepth 100000 in
set_option maxHeartbeats 4000000 in
theorem wX8_comesBack_2 {M : uM} {V : uV} (W0 : uWM (mL M) V) (C : uCx M V cX8_comesBack 2 RX8 0 0 0 0) (hr : (mT M).sig.returnType = none) {s9 : uSt} {ke : uSt → Option (Unit × uSt)} (K : ∀ (st : uSt), ke st = some ((), s9) → uW M V (uEnd M V 0 0 none s9) 2 0 0 26 [] [] st) : ∀ (n : Nat) (st : uSt) (l1 : Int32), fX8_comesBack_2 ke n st l1 = some ((), s9) → uW M V (uEnd M V 0 0 none s9) 2 0 0 2 [(0, .ref (vA V 0)), (1, .int l1)] [] st := by
  intro n
  induction n with
  | zero =>
    intro st l1 h
    rw [fX8_comesBack_2] at h
    cases h
  | succ n ih =>
    intro st l1 h
    rw [fX8_comesBack_2] at h
    refine ux_iload_n C dX8_comesBack_2 1 rfl ?_
    refine ux_bipush (v := 109) C dX8_comesBack_3 (by decide) ?_
    refine ux_icmp_ge C dX8_comesBack_5 h (fun h => ?_) (fun h => ?_)
    · refine ux_sub [] rfl ?_
      exact K st h
    · refine ux_aload_n C dX8_comesBack_8 0 rfl ?_
      refine ux_get C fl_X8_7 dX8_comesBack_9 (oM W0) rfl ?_
      refine ux_iload_n C dX8_comesBack_12 1 rfl ?_
      refine ux_aload_n C dX8_comesBack_13 0 rfl ?_
      refine ux_get C fl_X8_19 dX8_comesBack_14 (oM W0) rfl ?_
      refine ux_iload_n C dX8_comesBack_17 1 rfl ?_
      refine ux_iald C (aM_beside W0) dX8_comesBack_18 h (fun h => ?_)
      refine ux_iast C (aM_a W0) dX8_comesBack_19 h (fun st_2 h => ?_)
      refine ux_iincK C dX8_comesBack_20 (by decide) 1 rfl (fun z => [(1, .int z), (0, .ref (vA V 0))]) (fun _ => rfl) (by decide) h (fun l1_3 h => ?_)
      refine ux_goto C dX8_comesBack_23 ?_
      refine ux_sub [1, 0] rfl ?_
      exact ih _ _ h
set_option maxRecDepth 100000 in
set_option maxHeartbeats 4000000 in
theorem kX8_comesBack {l : Launch} {V : uV} (W0 : uWM l V) {st : uSt} {s9 : uSt} (h : fX8_comesBack st = some ((), s9)) : uMet l V yX8_comesBack cX8_comesBack 2 none 0 0 0 0 [.ref (vA V 0)] st none s9 := by
  refine ux_met W0.1 W0.2.1 (by decide) rfl (Nat.le_of_ble_eq_true rfl) (fun M hL hr C => ?_)
  subst hL
  have C : uCx M V cX8_comesBack 2 RX8 0 0 0 0 := C
  unfold fX8_comesBack at h
  refine ux_iconst (v := 0) C dX8_comesBack_0 (by decide) ?_
  refine ux_istoreK_n C dX8_comesBack_1 rfl (by decide) ?_
  refine ux_sub [1, 0] rfl ?_
  refine wX8_comesBack_2 W0 C hr (fun st_4 h => ?_) _ _ _ h
  exact ux_vret C hr dX8_comesBack_26 h (Nat.le_of_ble_eq_true rfl) (Nat.le_of_ble_eq_true rfl)
set_option maxRecDepth 100000 in
set_option maxHeartbeats 4000000 in
theorem wX8_minutesLeft_32 {M : uM} {V : uV} (W0 : uWM (mL M) V) (C : uCx M V cX8_minutesLeft 3 RX8 4 90 0 0) (hr : (mT M).sig.returnType = (some .int)) {l1 : Int32} {r : Int32} {s9 : uSt} {ke : uSt → Int32 → Option (Int32 × uSt)} (K : ∀ (st : uSt) (l2 : Int32), ke st l2 = some (r, s9) → uW M V (uEnd M V 0 0 (some (.int r)) s9) 3 0 0 52 [(0, .ref (vA V 0)), (2, .int l2)] [] st) : ∀ (n : Nat) (st : uSt) (l2 : Int32), fX8_minutesLeft_32 l1 ke n st l2 = some (r, s9) → uW M V (uEnd M V 0 0 (some (.int r)) s9) 3 0 0 32 [(0, .ref (vA V 0)), (1, .int l1), (2, .int l2)] [] st := by
  intro n
  induction n with
  | zero =>
    intro st l2 h
    rw [fX8_minutesLeft_32] at h
    cases h
  | succ n ih =>
    intro st l2 h
    rw [fX8_minutesLeft_32] at h
    refine ux_aload_n C dX8_minutesLeft_32 0 rfl ?_
    refine ux_get C fl_X8_7 dX8_minutesLeft_33 (oM W0) rfl ?_
    refine ux_iconst (v := 1) C dX8_minutesLeft_36 (by decide) ?_
    refine ux_ialdK (j := 1) C (aM_a W0) dX8_minutesLeft_37 (by decide) (by decide) ?_
    refine ux_iload_n C dX8_minutesLeft_38 1 rfl ?_
    refine ux_icmp_lt C dX8_minutesLeft_39 h (fun h => ?_) (fun h => ?_)
    · refine ux_sub [0, 2] rfl ?_
      exact K st l2 h
    · refine ux_iincK C dX8_minutesLeft_42 (by decide) 2 rfl (fun z => [(2, .int z), (0, .ref (vA V 0)), (1, .int l1)]) (fun _ => rfl) (by decide) h (fun l2_6 h => ?_)
      refine ux_aload_n C dX8_minutesLeft_45 1 rfl ?_
      obtain ⟨st_7, h1, h⟩ := obV_some h
      refine ux_callVv C cv_X8_218 dX8_minutesLeft_46 (oM W0) rfl (kX8_minuteWithout W0 h1) rfl (Nat.le_of_ble_eq_true rfl) ⟨(Nat.le_of_ble_eq_true rfl), (Nat.le_of_ble_eq_true rfl)⟩ ⟨(Nat.le_of_ble_eq_true rfl), (Nat.le_of_ble_eq_true rfl)⟩ ?_ rfl
      refine ux_goto C dX8_minutesLeft_49 ?_
      refine ux_sub [1, 2, 0] rfl ?_
      exact ih _ _ h
set_option maxRecDepth 100000 in
set_option maxHeartbeats 4000000 in
theorem kX8_minutesLeft {l : Launch} {V : uV} (W0 : uWM l V) {st : uSt} {r : Int32} {s9 : uSt} (h : fX8_minutesLeft st = some (r, s9)) : uMet l V yX8_minutesLeft cX8_minutesLeft 3 (some .int) 4 90 0 0 [.ref (vA V 0)] st (some (.int r)) s9 := by
  refine ux_met W0.1 W0.2.1 (by decide) rfl (Nat.le_of_ble_eq_true rfl) (fun M hL hr C => ?_)
  subst hL
  have C : uCx M V cX8_minutesLeft 3 RX8 4 90 0 0 := C
  unfold fX8_minutesLeft at h
  refine ux_aload_n C dX8_minutesLeft_0 0 rfl ?_
  refine ux_iconst (v := 0) C dX8_minutesLeft_1 (by decide) ?_
  refine ux_puti C fp_X8_49 dX8_minutesLeft_2 (oM W0) (Nat.le_of_ble_eq_true rfl) rfl h (fun st_1 h => ?_)
  refine ux_aload_n C dX8_minutesLeft_5 0 rfl ?_
  obtain ⟨x_2, h1, h⟩ := ob_some h
  refine ux_callVi C cv_X8_254 dX8_minutesLeft_6 (oM W0) rfl (kX8_needed W0 h1) rfl (Nat.le_of_ble_eq_true rfl) ⟨(Nat.le_of_ble_eq_true rfl), (Nat.le_of_ble_eq_true rfl)⟩ ⟨(Nat.le_of_ble_eq_true rfl), (Nat.le_of_ble_eq_true rfl)⟩ ?_ rfl
  refine ux_istoreK_n C dX8_minutesLeft_9 rfl (by decide) ?_
  refine ux_iload_n C dX8_minutesLeft_10 0 rfl ?_
  refine ux_if_eq C dX8_minutesLeft_11 h (fun h => ?_) (fun h => ?_)
  · refine ux_iconst (v := (-1)) C dX8_minutesLeft_24 (by decide) ?_
    exact ux_iretS C hr dX8_minutesLeft_25 h (Nat.le_of_ble_eq_true rfl) (Nat.le_of_ble_eq_true rfl)
  · refine ux_iload_n C dX8_minutesLeft_14 0 rfl ?_
    refine ux_aload_n C dX8_minutesLeft_15 1 rfl ?_
    refine ux_get C fl_X8_7 dX8_minutesLeft_16 (oM W0) rfl ?_
    refine ux_iconst (v := 1) C dX8_minutesLeft_19 (by decide) ?_
    refine ux_ialdK (j := 1) C (aM_a W0) dX8_minutesLeft_20 (by decide) (by decide) ?_
    refine ux_icmp_le C dX8_minutesLeft_21 h (fun h => ?_) (fun h => ?_)
    · refine ux_aload_n C dX8_minutesLeft_26 1 rfl ?_
      obtain ⟨st_4, h1, h⟩ := obV_some h
      refine ux_callVv C cv_X8_269 dX8_minutesLeft_27 (oM W0) rfl (kX8_keeps W0 h1) rfl (Nat.le_of_ble_eq_true rfl) ⟨(Nat.le_of_ble_eq_true rfl), (Nat.le_of_ble_eq_true rfl)⟩ ⟨(Nat.le_of_ble_eq_true rfl), (Nat.le_of_ble_eq_true rfl)⟩ ?_ rfl
      refine ux_iconst (v := (-1)) C dX8_minutesLeft_30 (by decide) ?_
      refine ux_istoreK_n C dX8_minutesLeft_31 rfl (by decide) ?_
      refine ux_sub [2, 1, 0] rfl ?_
      refine wX8_minutesLeft_32 W0 C hr (fun st_9 l2_8 h => ?_) _ _ _ h
      refine ux_aload_n C dX8_minutesLeft_52 0 rfl ?_
      obtain ⟨st_10, h1, h⟩ := obV_some h
      refine ux_callVv C cv_X8_272 dX8_minutesLeft_53 (oM W0) rfl (kX8_comesBack W0 h1) rfl (Nat.le_of_ble_eq_true rfl) ⟨(Nat.le_of_ble_eq_true rfl), (Nat.le_of_ble_eq_true rfl)⟩ ⟨(Nat.le_of_ble_eq_true rfl), (Nat.le_of_ble_eq_true rfl)⟩ ?_ rfl
      refine ux_iload_n C dX8_minutesLeft_56 1 rfl ?_
      exact ux_iretS C hr dX8_minutesLeft_57 h (Nat.le_of_ble_eq_true rfl) (Nat.le_of_ble_eq_true rfl)
    · refine ux_iconst (v := (-1)) C dX8_minutesLeft_24 (by decide) ?_
      exact ux_iretS C hr dX8_minutesLeft_25 h (Nat.le_of_ble_eq_true rfl) (Nat.le_of_ble_eq_true rfl)
set_option maxRecDepth 100000 in
set_option maxHeartbeats 4000000 in
theorem wX8_valueAfter_29 {M : uM} {V : uV} (W0 : uWM (mL M) V) (C : uCx M V cX8_valueAfter 3 RX8 5 116 0 0) (hr : (mT M).sig.returnType = (some .int)) {l1 : Int32} {r : Int32} {s9 : uSt} {ke : uSt → Option (Int32 × uSt)} (K : ∀ (st : uSt), ke st = some (r, s9) → uW M V (uEnd M V 0 0 (some (.int r)) s9) 3 0 0 53 [(0, .ref (vA V 0))] [] st) : ∀ (n : Nat) (st : uSt) (l2 : Int32), fX8_valueAfter_29 l1 ke n st l2 = some (r, s9) → uW M V (uEnd M V 0 0 (some (.int r)) s9) 3 0 0 29 [(0, .ref (vA V 0)), (1, .int l1), (2, .int l2)] [] st := by
  intro n
  induction n with
  | zero =>
    intro st l2 h
    rw [fX8_valueAfter_29] at h
    cases h
  | succ n ih =>
    intro st l2 h
    rw [fX8_valueAfter_29] at h
    refine ux_iload_n C dX8_valueAfter_29 2 rfl ?_
    refine ux_iload_n C dX8_valueAfter_30 1 rfl ?_
    refine ux_icmp_ge C dX8_valueAfter_31 h (fun h => ?_) (fun h => ?_)
    · refine ux_sub [0] rfl ?_
      exact K st h
    · refine ux_aload_n C dX8_valueAfter_34 0 rfl ?_
      refine ux_get C fl_X8_7 dX8_valueAfter_35 (oM W0) rfl ?_
      refine ux_iconst (v := 1) C dX8_valueAfter_38 (by decide) ?_
      refine ux_ialdK (j := 1) C (aM_a W0) dX8_valueAfter_39 (by decide) (by decide) ?_
      refine ux_if_le C dX8_valueAfter_40 h (fun h => ?_) (fun h => ?_)
      · refine ux_sub [0] rfl ?_
        exact K st h
      · refine ux_aload_n C dX8_valueAfter_43 0 rfl ?_
        obtain ⟨st_7, h1, h⟩ := obV_some h
        refine ux_callVv C cv_X8_218 dX8_valueAfter_44 (oM W0) rfl (kX8_minuteWithout W0 h1) rfl (Nat.le_of_ble_eq_true rfl) ⟨(Nat.le_of_ble_eq_true rfl), (Nat.le_of_ble_eq_true rfl)⟩ ⟨(Nat.le_of_ble_eq_true rfl), (Nat.le_of_ble_eq_true rfl)⟩ ?_ rfl
        refine ux_iincK C dX8_valueAfter_47 (by decide) 2 rfl (fun z => [(2, .int z), (0, .ref (vA V 0)), (1, .int l1)]) (fun _ => rfl) (by decide) h (fun l2_8 h => ?_)
        refine ux_goto C dX8_valueAfter_50 ?_
        refine ux_sub [1, 2, 0] rfl ?_
        exact ih _ _ h
set_option maxRecDepth 100000 in
set_option maxHeartbeats 4000000 in
theorem kX8_valueAfter {l : Launch} {V : uV} (W0 : uWM l V) {p1 : Int32} {st : uSt} {r : Int32} {s9 : uSt} (h : fX8_valueAfter p1 st = some (r, s9)) : uMet l V yX8_valueAfter cX8_valueAfter 3 (some .int) 5 116 0 0 [.ref (vA V 0), .int p1] st (some (.int r)) s9 := by
  refine ux_met W0.1 W0.2.1 (by decide) rfl (Nat.le_of_ble_eq_true rfl) (fun M hL hr C => ?_)
  subst hL
  have C : uCx M V cX8_valueAfter 3 RX8 5 116 0 0 := C
  unfold fX8_valueAfter at h
  refine ux_aload_n C dX8_valueAfter_0 0 rfl ?_
  refine ux_iconst (v := 0) C dX8_valueAfter_1 (by decide) ?_
  refine ux_puti C fp_X8_49 dX8_valueAfter_2 (oM W0) (Nat.le_of_ble_eq_true rfl) rfl h (fun st_1 h => ?_)
  refine ux_aload_n C dX8_valueAfter_5 0 rfl ?_
  refine ux_iload_n C dX8_valueAfter_6 1 rfl ?_
  refine ux_iconst (v := 0) C dX8_valueAfter_7 (by decide) ?_
  refine ux_sipush (v := 1000) C dX8_valueAfter_8 (by decide) ?_
  obtain ⟨x_2, h1, h⟩ := ob_some h
  refine ux_callSi C cs_X8_59 dX8_valueAfter_11 (kX8_isIn W0 h1) rfl (Nat.le_of_ble_eq_true rfl) ⟨(Nat.le_of_ble_eq_true rfl), (Nat.le_of_ble_eq_true rfl)⟩ ⟨(Nat.le_of_ble_eq_true rfl), (Nat.le_of_ble_eq_true rfl)⟩ ?_ rfl
  refine ux_iconst (v := 1) C dX8_valueAfter_14 (by decide) ?_
  obtain ⟨x_4, st_3, h1, h⟩ := obS_some h
  refine ux_callVi C cv_X8_55 dX8_valueAfter_15 (oM W0) rfl (kX8_may W0 h1) rfl (Nat.le_of_ble_eq_true rfl) ⟨(Nat.le_of_ble_eq_true rfl), (Nat.le_of_ble_eq_true rfl)⟩ ⟨(Nat.le_of_ble_eq_true rfl), (Nat.le_of_ble_eq_true rfl)⟩ ?_ rfl
  refine ux_if_ne C dX8_valueAfter_18 h (fun h => ?_) (fun h => ?_)
  · refine ux_iconst (v := 0) C dX8_valueAfter_21 (by decide) ?_
    exact ux_iretS C hr dX8_valueAfter_22 h (Nat.le_of_ble_eq_true rfl) (Nat.le_of_ble_eq_true rfl)
  · refine ux_aload_n C dX8_valueAfter_23 0 rfl ?_
    obtain ⟨st_5, h1, h⟩ := obV_some h
    refine ux_callVv C cv_X8_269 dX8_valueAfter_24 (oM W0) rfl (kX8_keeps W0 h1) rfl (Nat.le_of_ble_eq_true rfl) ⟨(Nat.le_of_ble_eq_true rfl), (Nat.le_of_ble_eq_true rfl)⟩ ⟨(Nat.le_of_ble_eq_true rfl), (Nat.le_of_ble_eq_true rfl)⟩ ?_ rfl
    refine ux_iconst (v := 0) C dX8_valueAfter_27 (by decide) ?_
    refine ux_istoreK_n C dX8_valueAfter_28 rfl (by decide) ?_
    refine ux_sub [1, 2, 0] rfl ?_
    refine wX8_valueAfter_29 W0 C hr (fun st_9 h => ?_) _ _ _ h
    refine ux_aload_n C dX8_valueAfter_53 0 rfl ?_
    refine ux_get C fl_X8_7 dX8_valueAfter_54 (oM W0) rfl ?_
    refine ux_iconst (v := 1) C dX8_valueAfter_57 (by decide) ?_
    refine ux_ialdK (j := 1) C (aM_a W0) dX8_valueAfter_58 (by decide) (by decide) ?_
    obtain ⟨j_10, hK_10, h⟩ := oj2_some h
    have hJ_10 : ∀ (v_11 : Int32) (st_12 : uSt), j_10 v_11 st_12 = some (r, s9) → uW M V (uEnd M V 0 0 (some (.int r)) s9) 3 0 0 83 [(0, .ref (vA V 0))] [.int v_11] st_12 := by
      intro v_11 st_12 h
      replace h := hK_10 v_11 st_12 h
      refine ux_istoreK_n C dX8_valueAfter_83 rfl (by decide) ?_
      refine ux_aload_n C dX8_valueAfter_84 1 rfl ?_
      obtain ⟨st_14, h1, h⟩ := obV_some h
      refine ux_callVv C cv_X8_272 dX8_valueAfter_85 (oM W0) rfl (kX8_comesBack W0 h1) rfl (Nat.le_of_ble_eq_true rfl) ⟨(Nat.le_of_ble_eq_true rfl), (Nat.le_of_ble_eq_true rfl)⟩ ⟨(Nat.le_of_ble_eq_true rfl), (Nat.le_of_ble_eq_true rfl)⟩ ?_ rfl
      refine ux_iload_n C dX8_valueAfter_88 0 rfl ?_
      exact ux_iretS C hr dX8_valueAfter_89 h (Nat.le_of_ble_eq_true rfl) (Nat.le_of_ble_eq_true rfl)
    refine ux_if_ne C dX8_valueAfter_59 h (fun h => ?_) (fun h => ?_)
    · refine ux_iconst (v := 0) C dX8_valueAfter_62 (by decide) ?_
      refine ux_goto C dX8_valueAfter_63 ?_
      exact hJ_10 (0 : Int32) st_9 h
    · refine ux_aload_n C dX8_valueAfter_66 0 rfl ?_
      refine ux_aload_n C dX8_valueAfter_67 0 rfl ?_
      refine ux_get C fl_X8_7 dX8_valueAfter_68 (oM W0) rfl ?_
      refine ux_bipush (v := 25) C dX8_valueAfter_71 (by decide) ?_
      refine ux_ialdK (j := 25) C (aM_a W0) dX8_valueAfter_73 (by decide) (by decide) ?_
      refine ux_aload_n C dX8_valueAfter_74 0 rfl ?_
      refine ux_get C fl_X8_7 dX8_valueAfter_75 (oM W0) rfl ?_
      refine ux_iconst (v := 1) C dX8_valueAfter_78 (by decide) ?_
      refine ux_ialdK (j := 1) C (aM_a W0) dX8_valueAfter_79 (by decide) (by decide) ?_
      obtain ⟨x_16, st_15, h1, h⟩ := obS_some h
      refine ux_callVi C cv_X8_263 dX8_valueAfter_80 (oM W0) rfl (kX8_valueWithin W0 h1) rfl (Nat.le_of_ble_eq_true rfl) ⟨(Nat.le_of_ble_eq_true rfl), (Nat.le_of_ble_eq_true rfl)⟩ ⟨(Nat.le_of_ble_eq_true rfl), (Nat.le_of_ble_eq_true rfl)⟩ ?_ rfl
      exact hJ_10 x_16 st_15 h
set_option maxRecDepth 100000 in
set_option maxHeartbeats 4000000 in
theorem kX8_minutesToSafety {l : Launch} {V : uV} (W0 : uWM l V) {st : uSt} {r : Int32} {s9 : uSt} (h : fX8_minutesToSafety st = some (r, s9)) : uMet l V yX8_minutesToSafety cX8_minutesToSafety 2 (some .int) 4 90 0 0 [.ref (vA V 0)] st (some (.int r)) s9 := by
  refine ux_met W0.1 W0.2.1 (by decide) rfl (Nat.le_of_ble_eq_true rfl) (fun M hL hr C => ?_)
  subst hL
  have C : uCx M V cX8_minutesToSafety 2 RX8 4 90 0 0 := C
  unfold fX8_minutesToSafety at h
  refine ux_aload_n C dX8_minutesToSafety_0 0 rfl ?_
  refine ux_iconst (v := 0) C dX8_minutesToSafety_1 (by decide) ?_
  refine ux_puti C fp_X8_49 dX8_minutesToSafety_2 (oM W0) (Nat.le_of_ble_eq_true rfl) rfl h (fun st_1 h => ?_)
  refine ux_aload_n C dX8_minutesToSafety_5 0 rfl ?_
  obtain ⟨x_2, h1, h⟩ := ob_some h
  refine ux_callVi C cv_X8_254 dX8_minutesToSafety_6 (oM W0) rfl (kX8_needed W0 h1) rfl (Nat.le_of_ble_eq_true rfl) ⟨(Nat.le_of_ble_eq_true rfl), (Nat.le_of_ble_eq_true rfl)⟩ ⟨(Nat.le_of_ble_eq_true rfl), (Nat.le_of_ble_eq_true rfl)⟩ ?_ rfl
  refine ux_aload_n C dX8_minutesToSafety_9 0 rfl ?_
  refine ux_get C fl_X8_7 dX8_minutesToSafety_10 (oM W0) rfl ?_
  refine ux_iconst (v := 5) C dX8_minutesToSafety_13 (by decide) ?_
  refine ux_ialdK (j := 5) C (aM_a W0) dX8_minutesToSafety_14 (by decide) (by decide) ?_
  refine ux_iadd C dX8_minutesToSafety_15 ?_
  refine ux_istore_n C dX8_minutesToSafety_16 (fun z => [(1, .int z), (0, .ref (vA V 0))]) (fun _ => rfl) (by decide) h (fun l1_3 h => ?_)
  refine ux_aload_n C dX8_minutesToSafety_17 1 rfl ?_
  refine ux_get C fl_X8_7 dX8_minutesToSafety_18 (oM W0) rfl ?_
  refine ux_iconst (v := 1) C dX8_minutesToSafety_21 (by decide) ?_
  refine ux_ialdK (j := 1) C (aM_a W0) dX8_minutesToSafety_22 (by decide) (by decide) ?_
  refine ux_iload_n C dX8_minutesToSafety_23 0 rfl ?_
  refine ux_icmp_lt C dX8_minutesToSafety_24 h (fun h => ?_) (fun h => ?_)
  · refine ux_iload_n C dX8_minutesToSafety_29 0 rfl ?_
    refine ux_aload_n C dX8_minutesToSafety_30 1 rfl ?_
    refine ux_get C fl_X8_7 dX8_minutesToSafety_31 (oM W0) rfl ?_
    refine ux_iconst (v := 0) C dX8_minutesToSafety_34 (by decide) ?_
    refine ux_ialdK (j := 0) C (aM_a W0) dX8_minutesToSafety_35 (by decide) (by decide) ?_
    refine ux_icmp_gt C dX8_minutesToSafety_36 h (fun h => ?_) (fun h => ?_)
    · refine ux_iconst (v := (-1)) C dX8_minutesToSafety_48 (by decide) ?_
      exact ux_iretS C hr dX8_minutesToSafety_49 h (Nat.le_of_ble_eq_true rfl) (Nat.le_of_ble_eq_true rfl)
    · refine ux_aload_n C dX8_minutesToSafety_39 1 rfl ?_
      refine ux_get C fl_X8_7 dX8_minutesToSafety_40 (oM W0) rfl ?_
      refine ux_iconst (v := 2) C dX8_minutesToSafety_43 (by decide) ?_
      refine ux_ialdK (j := 2) C (aM_a W0) dX8_minutesToSafety_44 (by decide) (by decide) ?_
      refine ux_if_ne C dX8_minutesToSafety_45 h (fun h => ?_) (fun h => ?_)
      · refine ux_iconst (v := (-1)) C dX8_minutesToSafety_48 (by decide) ?_
        exact ux_iretS C hr dX8_minutesToSafety_49 h (Nat.le_of_ble_eq_true rfl) (Nat.le_of_ble_eq_true rfl)
      · refine ux_iload_n C dX8_minutesToSafety_50 0 rfl ?_
        refine ux_aload_n C dX8_minutesToSafety_51 1 rfl ?_
        refine ux_get C fl_X8_7 dX8_minutesToSafety_52 (oM W0) rfl ?_
        refine ux_iconst (v := 1) C dX8_minutesToSafety_55 (by decide) ?_
        refine ux_ialdK (j := 1) C (aM_a W0) dX8_minutesToSafety_56 (by decide) (by decide) ?_
        refine ux_isub C dX8_minutesToSafety_57 ?_
        refine ux_aload_n C dX8_minutesToSafety_58 1 rfl ?_
        refine ux_get C fl_X8_7 dX8_minutesToSafety_59 (oM W0) rfl ?_
        refine ux_iconst (v := 2) C dX8_minutesToSafety_62 (by decide) ?_
        refine ux_ialdK (j := 2) C (aM_a W0) dX8_minutesToSafety_63 (by decide) (by decide) ?_
        refine ux_iadd C dX8_minutesToSafety_64 ?_
        refine ux_iconst (v := 1) C dX8_minutesToSafety_65 (by decide) ?_
        refine ux_isub C dX8_minutesToSafety_66 ?_
        refine ux_aload_n C dX8_minutesToSafety_67 1 rfl ?_
        refine ux_get C fl_X8_7 dX8_minutesToSafety_68 (oM W0) rfl ?_
        refine ux_iconst (v := 2) C dX8_minutesToSafety_71 (by decide) ?_
        refine ux_ialdK (j := 2) C (aM_a W0) dX8_minutesToSafety_72 (by decide) (by decide) ?_
        refine ux_idiv C dX8_minutesToSafety_73 h (fun h => ?_)
        exact ux_iretS C hr dX8_minutesToSafety_74 h (Nat.le_of_ble_eq_true rfl) (Nat.le_of_ble_eq_true rfl)
  · refine ux_iconst (v := 0) C dX8_minutesToSafety_27 (by decide) ?_
    exact ux_iretS C hr dX8_minutesToSafety_28 h (Nat.le_of_ble_eq_true rfl) (Nat.le_of_ble_eq_true rfl)
set_option maxRecDepth 100000 in
set_option maxHeartbeats 4000000 in
theorem kX8_gainOfRepair {l : Launch} {V : uV} (W0 : uWM l V) {p1 : Int32} {st : uSt} {r : Int32} {s9 : uSt} (h : fX8_gainOfRepair p1 st = some (r, s9)) : uMet l V yX8_gainOfRepair cX8_gainOfRepair 3 (some .int) 5 116 0 0 [.ref (vA V 0), .int p1] st (some (.int r)) s9 := by
  refine ux_met W0.1 W0.2.1 (by decide) rfl (Nat.le_of_ble_eq_true rfl) (fun M hL hr C => ?_)
  subst hL
  have C : uCx M V cX8_gainOfRepair 3 RX8 5 116 0 0 := C
  unfold fX8_gainOfRepair at h
  refine ux_aload_n C dX8_gainOfRepair_0 0 rfl ?_
  refine ux_iconst (v := 0) C dX8_gainOfRepair_1 (by decide) ?_
  refine ux_puti C fp_X8_49 dX8_gainOfRepair_2 (oM W0) (Nat.le_of_ble_eq_true rfl) rfl h (fun st_1 h => ?_)
  refine ux_aload_n C dX8_gainOfRepair_5 0 rfl ?_
  refine ux_aload_n C dX8_gainOfRepair_6 0 rfl ?_
  refine ux_iload_n C dX8_gainOfRepair_7 1 rfl ?_
  obtain ⟨x_2, h1, h⟩ := ob_some h
  refine ux_callVi C cv_X8_178 dX8_gainOfRepair_8 (oM W0) rfl (kX8_isDevice W0 h1) rfl (Nat.le_of_ble_eq_true rfl) ⟨(Nat.le_of_ble_eq_true rfl), (Nat.le_of_ble_eq_true rfl)⟩ ⟨(Nat.le_of_ble_eq_true rfl), (Nat.le_of_ble_eq_true rfl)⟩ ?_ rfl
  refine ux_iconst (v := 1) C dX8_gainOfRepair_11 (by decide) ?_
  obtain ⟨x_4, st_3, h1, h⟩ := obS_some h
  refine ux_callVi C cv_X8_55 dX8_gainOfRepair_12 (oM W0) rfl (kX8_may W0 h1) rfl (Nat.le_of_ble_eq_true rfl) ⟨(Nat.le_of_ble_eq_true rfl), (Nat.le_of_ble_eq_true rfl)⟩ ⟨(Nat.le_of_ble_eq_true rfl), (Nat.le_of_ble_eq_true rfl)⟩ ?_ rfl
  refine ux_if_ne C dX8_gainOfRepair_15 h (fun h => ?_) (fun h => ?_)
  · refine ux_iconst (v := 0) C dX8_gainOfRepair_18 (by decide) ?_
    exact ux_iretS C hr dX8_gainOfRepair_19 h (Nat.le_of_ble_eq_true rfl) (Nat.le_of_ble_eq_true rfl)
  · refine ux_aload_n C dX8_gainOfRepair_20 0 rfl ?_
    refine ux_aload_n C dX8_gainOfRepair_21 0 rfl ?_
    refine ux_get C fl_X8_7 dX8_gainOfRepair_22 (oM W0) rfl ?_
    refine ux_bipush (v := 25) C dX8_gainOfRepair_25 (by decide) ?_
    refine ux_ialdK (j := 25) C (aM_a W0) dX8_gainOfRepair_27 (by decide) (by decide) ?_
    refine ux_aload_n C dX8_gainOfRepair_28 0 rfl ?_
    refine ux_get C fl_X8_7 dX8_gainOfRepair_29 (oM W0) rfl ?_
    refine ux_iconst (v := 1) C dX8_gainOfRepair_32 (by decide) ?_
    refine ux_ialdK (j := 1) C (aM_a W0) dX8_gainOfRepair_33 (by decide) (by decide) ?_
    obtain ⟨x_6, st_5, h1, h⟩ := obS_some h
    refine ux_callVi C cv_X8_263 dX8_gainOfRepair_34 (oM W0) rfl (kX8_valueWithin W0 h1) rfl (Nat.le_of_ble_eq_true rfl) ⟨(Nat.le_of_ble_eq_true rfl), (Nat.le_of_ble_eq_true rfl)⟩ ⟨(Nat.le_of_ble_eq_true rfl), (Nat.le_of_ble_eq_true rfl)⟩ ?_ rfl
    refine ux_istoreK_n C dX8_gainOfRepair_37 rfl (by decide) ?_
    refine ux_aload_n C dX8_gainOfRepair_38 1 rfl ?_
    refine ux_aload_n C dX8_gainOfRepair_39 1 rfl ?_
    refine ux_get C fl_X8_7 dX8_gainOfRepair_40 (oM W0) rfl ?_
    refine ux_bipush (v := 25) C dX8_gainOfRepair_43 (by decide) ?_
    refine ux_ialdK (j := 25) C (aM_a W0) dX8_gainOfRepair_45 (by decide) (by decide) ?_
    refine ux_iconst (v := 1) C dX8_gainOfRepair_46 (by decide) ?_
    refine ux_iload_n C dX8_gainOfRepair_47 2 rfl ?_
    refine ux_ishl C dX8_gainOfRepair_48 ?_
    refine ux_iconst (v := (-1)) C dX8_gainOfRepair_49 (by decide) ?_
    refine ux_ixor C dX8_gainOfRepair_50 ?_
    refine ux_iand C dX8_gainOfRepair_51 ?_
    refine ux_aload_n C dX8_gainOfRepair_52 1 rfl ?_
    refine ux_get C fl_X8_7 dX8_gainOfRepair_53 (oM W0) rfl ?_
    refine ux_iconst (v := 1) C dX8_gainOfRepair_56 (by decide) ?_
    refine ux_ialdK (j := 1) C (aM_a W0) dX8_gainOfRepair_57 (by decide) (by decide) ?_
    obtain ⟨x_9, st_8, h1, h⟩ := obS_some h
    refine ux_callVi C cv_X8_263 dX8_gainOfRepair_58 (oM W0) rfl (kX8_valueWithin W0 h1) rfl (Nat.le_of_ble_eq_true rfl) ⟨(Nat.le_of_ble_eq_true rfl), (Nat.le_of_ble_eq_true rfl)⟩ ⟨(Nat.le_of_ble_eq_true rfl), (Nat.le_of_ble_eq_true rfl)⟩ ?_ rfl
    refine ux_iload_n C dX8_gainOfRepair_61 0 rfl ?_
    refine ux_isub C dX8_gainOfRepair_62 ?_
    exact ux_iretS C hr dX8_gainOfRepair_63 h (Nat.le_of_ble_eq_true rfl) (Nat.le_of_ble_eq_true rfl)
set_option maxRecDepth 100000 in
set_option maxHeartbeats 4000000 in
theorem wX8_costliest_9 {M : uM} {V : uV} (W0 : uWM (mL M) V) (C : uCx M V cX8_costliest 5 RX8 3 70 0 0) (hr : (mT M).sig.returnType = (some .int)) {st : uSt} {r : Int32} {s9 : uSt} {ke : Int32 → Option (Int32 × uSt)} (K : ∀ (l1 : Int32), ke l1 = some (r, s9) → uW M V (uEnd M V 0 0 (some (.int r)) s9) 5 0 0 97 [(0, .ref (vA V 0)), (1, .int l1)] [] st) : ∀ (n : Nat) (l1 : Int32) (l2 : Int32), fX8_costliest_9 st ke n l1 l2 = some (r, s9) → uW M V (uEnd M V 0 0 (some (.int r)) s9) 5 0 0 9 [(0, .ref (vA V 0)), (1, .int l1), (2, .int l2)] [] st := by
  intro n
  induction n with
  | zero =>
    intro l1 l2 h
    rw [fX8_costliest_9] at h
    cases h
  | succ n ih =>
    intro l1 l2 h
    rw [fX8_costliest_9] at h
    refine ux_iload_n C dX8_costliest_9 2 rfl ?_
    refine ux_aload_n C dX8_costliest_10 0 rfl ?_
    refine ux_get C fl_X8_7 dX8_costliest_11 (oM W0) rfl ?_
    refine ux_bipush (v := 9) C dX8_costliest_14 (by decide) ?_
    refine ux_ialdK (j := 9) C (aM_a W0) dX8_costliest_16 (by decide) (by decide) ?_
    refine ux_icmp_ge C dX8_costliest_17 h (fun h => ?_) (fun h => ?_)
    · refine ux_sub [0, 1] rfl ?_
      exact K l1 h
    · refine ux_aload_n C dX8_costliest_20 0 rfl ?_
      refine ux_iload_n C dX8_costliest_21 2 rfl ?_
      obtain ⟨x_4, h1, h⟩ := ob_some h
      refine ux_callVi C cv_X8_181 dX8_costliest_22 (oM W0) rfl (kX8_setOf W0 h1) rfl (Nat.le_of_ble_eq_true rfl) ⟨(Nat.le_of_ble_eq_true rfl), (Nat.le_of_ble_eq_true rfl)⟩ ⟨(Nat.le_of_ble_eq_true rfl), (Nat.le_of_ble_eq_true rfl)⟩ ?_ rfl
      refine ux_istoreK_n C dX8_costliest_25 rfl (by decide) ?_
      refine ux_iload_n C dX8_costliest_26 0 rfl ?_
      refine ux_if_eq C dX8_costliest_27 h (fun h => ?_) (fun h => ?_)
      · refine ux_iincK C dX8_costliest_91 (by decide) 3 rfl (fun z => [(2, .int z), (3, .int x_4), (0, .ref (vA V 0)), (1, .int l1)]) (fun _ => rfl) (by decide) h (fun l2_6 h => ?_)
        refine ux_goto C dX8_costliest_94 ?_
        refine ux_sub [2, 3, 0] rfl ?_
        exact ih _ _ h
      · refine ux_aload_n C dX8_costliest_30 1 rfl ?_
        refine ux_iload_n C dX8_costliest_31 3 rfl ?_
        obtain ⟨x_7, h1, h⟩ := ob_some h
        refine ux_callVi C cv_X8_169 dX8_costliest_32 (oM W0) rfl (kX8_hasFailed W0 h1) rfl (Nat.le_of_ble_eq_true rfl) ⟨(Nat.le_of_ble_eq_true rfl), (Nat.le_of_ble_eq_true rfl)⟩ ⟨(Nat.le_of_ble_eq_true rfl), (Nat.le_of_ble_eq_true rfl)⟩ ?_ rfl
        refine ux_if_eq C dX8_costliest_35 h (fun h => ?_) (fun h => ?_)
        · refine ux_iload_n C dX8_costliest_41 2 rfl ?_
          refine ux_iconst (v := (-1)) C dX8_costliest_42 (by decide) ?_
          obtain ⟨j_8, hK_8, h⟩ := oj1_some h
          have hJ_8 : ∀ (v_9 : Int32), j_8 v_9 = some (r, s9) → uW M V (uEnd M V 0 0 (some (.int r)) s9) 5 0 0 55 [(0, .ref (vA V 0)), (1, .int l1), (2, .int l2), (3, .int x_4)] [.int v_9] st := by
            intro v_9 h
            replace h := hK_8 v_9 h
            refine ux_istoreK C dX8_costliest_55 rfl (by decide) ?_
            refine ux_iload_n C dX8_costliest_57 2 rfl ?_
            refine ux_iconst (v := (-1)) C dX8_costliest_58 (by decide) ?_
            obtain ⟨j_11, hK_11, h⟩ := oj0_some h
            have hJ_11 : j_11 = some (r, s9) → uW M V (uEnd M V 0 0 (some (.int r)) s9) 5 0 0 89 [(0, .ref (vA V 0)), (2, .int l2)] [] st := by
              intro h
              replace h := hK_11 h
              refine ux_iload_n C dX8_costliest_89 1 rfl ?_
              refine ux_istoreK_n C dX8_costliest_90 rfl (by decide) ?_
              refine ux_iincK C dX8_costliest_91 (by decide) 2 rfl (fun z => [(2, .int z), (1, .int l2), (0, .ref (vA V 0))]) (fun _ => rfl) (by decide) h (fun l2_13 h => ?_)
              refine ux_goto C dX8_costliest_94 ?_
              refine ux_sub [2, 1, 0] rfl ?_
              exact ih _ _ h
            refine ux_icmp_eq C dX8_costliest_59 h (fun h => ?_) (fun h => ?_)
            · refine ux_sub [1, 3] rfl ?_
              exact hJ_11 h
            · refine ux_aload_n C dX8_costliest_62 1 rfl ?_
              refine ux_iload_n C dX8_costliest_63 4 rfl ?_
              obtain ⟨x_14, h1, h⟩ := ob_some h
              refine ux_callVi C cv_X8_175 dX8_costliest_64 (oM W0) rfl (kX8_energyIn W0 h1) rfl (Nat.le_of_ble_eq_true rfl) ⟨(Nat.le_of_ble_eq_true rfl), (Nat.le_of_ble_eq_true rfl)⟩ ⟨(Nat.le_of_ble_eq_true rfl), (Nat.le_of_ble_eq_true rfl)⟩ ?_ rfl
              refine ux_aload_n C dX8_costliest_67 1 rfl ?_
              refine ux_iload C dX8_costliest_68 0 rfl ?_
              obtain ⟨x_15, h1, h⟩ := ob_some h
              refine ux_callVi C cv_X8_187 dX8_costliest_70 (oM W0) rfl (kX8_valueIn W0 h1) rfl (Nat.le_of_ble_eq_true rfl) ⟨(Nat.le_of_ble_eq_true rfl), (Nat.le_of_ble_eq_true rfl)⟩ ⟨(Nat.le_of_ble_eq_true rfl), (Nat.le_of_ble_eq_true rfl)⟩ ?_ rfl
              refine ux_imul C dX8_costliest_73 ?_
              refine ux_aload_n C dX8_costliest_74 1 rfl ?_
              refine ux_iload C dX8_costliest_75 0 rfl ?_
              obtain ⟨x_16, h1, h⟩ := ob_some h
              refine ux_callVi C cv_X8_175 dX8_costliest_77 (oM W0) rfl (kX8_energyIn W0 h1) rfl (Nat.le_of_ble_eq_true rfl) ⟨(Nat.le_of_ble_eq_true rfl), (Nat.le_of_ble_eq_true rfl)⟩ ⟨(Nat.le_of_ble_eq_true rfl), (Nat.le_of_ble_eq_true rfl)⟩ ?_ rfl
              refine ux_aload_n C dX8_costliest_80 1 rfl ?_
              refine ux_iload_n C dX8_costliest_81 4 rfl ?_
              obtain ⟨x_17, h1, h⟩ := ob_some h
              refine ux_callVi C cv_X8_187 dX8_costliest_82 (oM W0) rfl (kX8_valueIn W0 h1) rfl (Nat.le_of_ble_eq_true rfl) ⟨(Nat.le_of_ble_eq_true rfl), (Nat.le_of_ble_eq_true rfl)⟩ ⟨(Nat.le_of_ble_eq_true rfl), (Nat.le_of_ble_eq_true rfl)⟩ ?_ rfl
              refine ux_imul C dX8_costliest_85 ?_
              refine ux_icmp_le C dX8_costliest_86 h (fun h => ?_) (fun h => ?_)
              · refine ux_iincK C dX8_costliest_91 (by decide) 3 rfl (fun z => [(2, .int z), (4, .int v_9), (0, .ref (vA V 0)), (1, .int l1), (3, .int x_4)]) (fun _ => rfl) (by decide) h (fun l2_18 h => ?_)
                refine ux_goto C dX8_costliest_94 ?_
                refine ux_sub [2, 3, 0] rfl ?_
                exact ih _ _ h
              · refine ux_sub [1, 3] rfl ?_
                exact hJ_11 h
          refine ux_icmp_ne C dX8_costliest_43 h (fun h => ?_) (fun h => ?_)
          · refine ux_iconst (v := 0) C dX8_costliest_46 (by decide) ?_
            refine ux_goto C dX8_costliest_47 ?_
            refine ux_sub [1, 2, 3, 0] rfl ?_
            exact hJ_8 (0 : Int32) h
          · refine ux_aload_n C dX8_costliest_50 1 rfl ?_
            refine ux_iload_n C dX8_costliest_51 2 rfl ?_
            obtain ⟨x_19, h1, h⟩ := ob_some h
            refine ux_callVi C cv_X8_181 dX8_costliest_52 (oM W0) rfl (kX8_setOf W0 h1) rfl (Nat.le_of_ble_eq_true rfl) ⟨(Nat.le_of_ble_eq_true rfl), (Nat.le_of_ble_eq_true rfl)⟩ ⟨(Nat.le_of_ble_eq_true rfl), (Nat.le_of_ble_eq_true rfl)⟩ ?_ rfl
            refine ux_sub [1, 2, 3, 0] rfl ?_
            exact hJ_8 x_19 h
        · refine ux_goto C dX8_costliest_38 ?_
          refine ux_iincK C dX8_costliest_91 (by decide) 3 rfl (fun z => [(2, .int z), (3, .int x_4), (0, .ref (vA V 0)), (1, .int l1)]) (fun _ => rfl) (by decide) h (fun l2_20 h => ?_)
          refine ux_goto C dX8_costliest_94 ?_
          refine ux_sub [2, 3, 0] rfl ?_
          exact ih _ _ h
set_option maxRecDepth 100000 in
set_option maxHeartbeats 4000000 in
theorem kX8_costliest {l : Launch} {V : uV} (W0 : uWM l V) {st : uSt} {r : Int32} {s9 : uSt} (h : fX8_costliest st = some (r, s9)) : uMet l V yX8_costliest cX8_costliest 5 (some .int) 3 70 0 0 [.ref (vA V 0)] st (some (.int r)) s9 := by
  refine ux_met W0.1 W0.2.1 (by decide) rfl (Nat.le_of_ble_eq_true rfl) (fun M hL hr C => ?_)
  subst hL
  have C : uCx M V cX8_costliest 5 RX8 3 70 0 0 := C
  unfold fX8_costliest at h
  refine ux_aload_n C dX8_costliest_0 0 rfl ?_
  refine ux_iconst (v := 0) C dX8_costliest_1 (by decide) ?_
  refine ux_puti C fp_X8_49 dX8_costliest_2 (oM W0) (Nat.le_of_ble_eq_true rfl) rfl h (fun st_1 h => ?_)
  refine ux_iconst (v := (-1)) C dX8_costliest_5 (by decide) ?_
  refine ux_istoreK_n C dX8_costliest_6 rfl (by decide) ?_
  refine ux_iconst (v := 0) C dX8_costliest_7 (by decide) ?_
  refine ux_istoreK_n C dX8_costliest_8 rfl (by decide) ?_
  refine ux_sub [2, 1, 0] rfl ?_
  refine wX8_costliest_9 W0 C hr (fun l1_21 h => ?_) _ _ _ h
  refine ux_aload_n C dX8_costliest_97 0 rfl ?_
  refine ux_iload_n C dX8_costliest_98 1 rfl ?_
  refine ux_iconst (v := (-1)) C dX8_costliest_99 (by decide) ?_
  obtain ⟨j_22, hK_22, h⟩ := oj1_some h
  have hJ_22 : ∀ (v_23 : Int32), j_22 v_23 = some (r, s9) → uW M V (uEnd M V 0 0 (some (.int r)) s9) 5 0 0 108 [(1, .int l1_21)] [.int v_23, .ref (vA V 0)] st_1 := by
    intro v_23 h
    replace h := hK_22 v_23 h
    refine ux_iconst (v := 1) C dX8_costliest_108 (by decide) ?_
    obtain ⟨x_25, st_24, h1, h⟩ := obS_some h
    refine ux_callVi C cv_X8_55 dX8_costliest_109 (oM W0) rfl (kX8_may W0 h1) rfl (Nat.le_of_ble_eq_true rfl) ⟨(Nat.le_of_ble_eq_true rfl), (Nat.le_of_ble_eq_true rfl)⟩ ⟨(Nat.le_of_ble_eq_true rfl), (Nat.le_of_ble_eq_true rfl)⟩ ?_ rfl
    refine ux_if_eq C dX8_costliest_112 h (fun h => ?_) (fun h => ?_)
    · refine ux_iconst (v := 0) C dX8_costliest_119 (by decide) ?_
      exact ux_iretS C hr dX8_costliest_120 h (Nat.le_of_ble_eq_true rfl) (Nat.le_of_ble_eq_true rfl)
    · refine ux_iload_n C dX8_costliest_115 0 rfl ?_
      refine ux_goto C dX8_costliest_116 ?_
      exact ux_iretS C hr dX8_costliest_120 h (Nat.le_of_ble_eq_true rfl) (Nat.le_of_ble_eq_true rfl)
  refine ux_icmp_eq C dX8_costliest_100 h (fun h => ?_) (fun h => ?_)
  · refine ux_iconst (v := 0) C dX8_costliest_107 (by decide) ?_
    refine ux_sub [1] rfl ?_
    exact hJ_22 (0 : Int32) h
  · refine ux_iconst (v := 1) C dX8_costliest_103 (by decide) ?_
    refine ux_goto C dX8_costliest_104 ?_
    refine ux_sub [1] rfl ?_
    exact hJ_22 (1 : Int32) h
set_option maxRecDepth 100000 in
set_option maxHeartbeats 4000000 in
theorem wX8_save_29 {M : uM} {V : uV} (W0 : uWM (mL M) V) (C : uCx M V cX8_save 3 RX8 1 22 0 0) (hr : (mT M).sig.returnType = none) {l1 : Int32} {s9 : uSt} {ke : uSt → Option (Unit × uSt)} (K : ∀ (st : uSt), ke st = some ((), s9) → uW M V (uEnd M V 0 0 none s9) 3 0 0 58 [] [] st) : ∀ (n : Nat) (st : uSt) (l2 : Int32), fX8_save_29 l1 ke n st l2 = some ((), s9) → uW M V (uEnd M V 0 0 none s9) 3 0 0 29 [(0, .ref (vA V 0)), (1, .int l1), (2, .int l2)] [] st := by
  intro n
  induction n with
  | zero =>
    intro st l2 h
    rw [fX8_save_29] at h
    cases h
  | succ n ih =>
    intro st l2 h
    rw [fX8_save_29] at h
    refine ux_iload_n C dX8_save_29 2 rfl ?_
    refine ux_bipush (v := 109) C dX8_save_30 (by decide) ?_
    refine ux_icmp_ge C dX8_save_32 h (fun h => ?_) (fun h => ?_)
    · refine ux_sub [] rfl ?_
      exact K st h
    · refine ux_aload_n C dX8_save_35 0 rfl ?_
      refine ux_get C fl_X8_16 dX8_save_36 (oM W0) rfl ?_
      refine ux_bipush (v := 109) C dX8_save_39 (by decide) ?_
      refine ux_iload_n C dX8_save_41 1 rfl ?_
      refine ux_imul C dX8_save_42 ?_
      refine ux_iload_n C dX8_save_43 2 rfl ?_
      refine ux_iadd C dX8_save_44 ?_
      refine ux_aload_n C dX8_save_45 0 rfl ?_
      refine ux_get C fl_X8_7 dX8_save_46 (oM W0) rfl ?_
      refine ux_iload_n C dX8_save_49 2 rfl ?_
      refine ux_iald C (aM_a W0) dX8_save_50 h (fun h => ?_)
      refine ux_iast C (aM_saved W0) dX8_save_51 h (fun st_7 h => ?_)
      refine ux_iincK C dX8_save_52 (by decide) 2 rfl (fun z => [(2, .int z), (0, .ref (vA V 0)), (1, .int l1)]) (fun _ => rfl) (by decide) h (fun l2_8 h => ?_)
      refine ux_goto C dX8_save_55 ?_
      refine ux_sub [1, 2, 0] rfl ?_
      exact ih _ _ h
set_option maxRecDepth 100000 in
set_option maxHeartbeats 4000000 in
theorem kX8_save {l : Launch} {V : uV} (W0 : uWM l V) {p1 : Int32} {st : uSt} {s9 : uSt} (h : fX8_save p1 st = some ((), s9)) : uMet l V yX8_save cX8_save 3 none 1 22 0 0 [.ref (vA V 0), .int p1] st none s9 := by
  refine ux_met W0.1 W0.2.1 (by decide) rfl (Nat.le_of_ble_eq_true rfl) (fun M hL hr C => ?_)
  subst hL
  have C : uCx M V cX8_save 3 RX8 1 22 0 0 := C
  unfold fX8_save at h
  refine ux_aload_n C dX8_save_0 0 rfl ?_
  refine ux_iconst (v := 0) C dX8_save_1 (by decide) ?_
  refine ux_puti C fp_X8_49 dX8_save_2 (oM W0) (Nat.le_of_ble_eq_true rfl) rfl h (fun st_1 h => ?_)
  refine ux_aload_n C dX8_save_5 0 rfl ?_
  refine ux_iload_n C dX8_save_6 1 rfl ?_
  refine ux_iconst (v := 0) C dX8_save_7 (by decide) ?_
  refine ux_iconst (v := 1) C dX8_save_8 (by decide) ?_
  obtain ⟨x_2, h1, h⟩ := ob_some h
  refine ux_callSi C cs_X8_59 dX8_save_9 (kX8_isIn W0 h1) rfl (Nat.le_of_ble_eq_true rfl) ⟨(Nat.le_of_ble_eq_true rfl), (Nat.le_of_ble_eq_true rfl)⟩ ⟨(Nat.le_of_ble_eq_true rfl), (Nat.le_of_ble_eq_true rfl)⟩ ?_ rfl
  refine ux_iconst (v := 1) C dX8_save_12 (by decide) ?_
  obtain ⟨x_4, st_3, h1, h⟩ := obS_some h
  refine ux_callVi C cv_X8_55 dX8_save_13 (oM W0) rfl (kX8_may W0 h1) rfl (Nat.le_of_ble_eq_true rfl) ⟨(Nat.le_of_ble_eq_true rfl), (Nat.le_of_ble_eq_true rfl)⟩ ⟨(Nat.le_of_ble_eq_true rfl), (Nat.le_of_ble_eq_true rfl)⟩ ?_ rfl
  refine ux_if_ne C dX8_save_16 h (fun h => ?_) (fun h => ?_)
  · exact ux_vret C hr dX8_save_19 h (Nat.le_of_ble_eq_true rfl) (Nat.le_of_ble_eq_true rfl)
  · refine ux_aload_n C dX8_save_20 0 rfl ?_
    refine ux_get C fl_X8_22 dX8_save_21 (oM W0) rfl ?_
    refine ux_iload_n C dX8_save_24 1 rfl ?_
    refine ux_iconst (v := 1) C dX8_save_25 (by decide) ?_
    refine ux_zastB C (aM_isSaved W0) dX8_save_26 (by decide) h (fun st_5 h => ?_)
    refine ux_iconst (v := 0) C dX8_save_27 (by decide) ?_
    refine ux_istoreK_n C dX8_save_28 rfl (by decide) ?_
    refine ux_sub [1, 2, 0] rfl ?_
    refine wX8_save_29 W0 C hr (fun st_9 h => ?_) _ _ _ h
    exact ux_vret C hr dX8_save_58 h (Nat.le_of_ble_eq_true rfl) (Nat.le_of_ble_eq_true rfl)
set_option maxRecDepth 100000 in
set_option maxHeartbeats 4000000 in
theorem wX8_restore_36 {M : uM} {V : uV} (W0 : uWM (mL M) V) (C : uCx M V cX8_restore 3 RX8 1 22 0 0) (hr : (mT M).sig.returnType = none) {l1 : Int32} {s9 : uSt} {ke : uSt → Option (Unit × uSt)} (K : ∀ (st : uSt), ke st = some ((), s9) → uW M V (uEnd M V 0 0 none s9) 3 0 0 65 [] [] st) : ∀ (n : Nat) (st : uSt) (l2 : Int32), fX8_restore_36 l1 ke n st l2 = some ((), s9) → uW M V (uEnd M V 0 0 none s9) 3 0 0 36 [(0, .ref (vA V 0)), (1, .int l1), (2, .int l2)] [] st := by
  intro n
  induction n with
  | zero =>
    intro st l2 h
    rw [fX8_restore_36] at h
    cases h
  | succ n ih =>
    intro st l2 h
    rw [fX8_restore_36] at h
    refine ux_iload_n C dX8_restore_36 2 rfl ?_
    refine ux_bipush (v := 109) C dX8_restore_37 (by decide) ?_
    refine ux_icmp_ge C dX8_restore_39 h (fun h => ?_) (fun h => ?_)
    · refine ux_sub [] rfl ?_
      exact K st h
    · refine ux_aload_n C dX8_restore_42 0 rfl ?_
      refine ux_get C fl_X8_7 dX8_restore_43 (oM W0) rfl ?_
      refine ux_iload_n C dX8_restore_46 2 rfl ?_
      refine ux_aload_n C dX8_restore_47 0 rfl ?_
      refine ux_get C fl_X8_16 dX8_restore_48 (oM W0) rfl ?_
      refine ux_bipush (v := 109) C dX8_restore_51 (by decide) ?_
      refine ux_iload_n C dX8_restore_53 1 rfl ?_
      refine ux_imul C dX8_restore_54 ?_
      refine ux_iload_n C dX8_restore_55 2 rfl ?_
      refine ux_iadd C dX8_restore_56 ?_
      refine ux_iald C (aM_saved W0) dX8_restore_57 h (fun h => ?_)
      refine ux_iast C (aM_a W0) dX8_restore_58 h (fun st_8 h => ?_)
      refine ux_iincK C dX8_restore_59 (by decide) 2 rfl (fun z => [(2, .int z), (0, .ref (vA V 0)), (1, .int l1)]) (fun _ => rfl) (by decide) h (fun l2_9 h => ?_)
      refine ux_goto C dX8_restore_62 ?_
      refine ux_sub [1, 2, 0] rfl ?_
      exact ih _ _ h
set_option maxRecDepth 100000 in
set_option maxHeartbeats 4000000 in
theorem kX8_restore {l : Launch} {V : uV} (W0 : uWM l V) {p1 : Int32} {st : uSt} {s9 : uSt} (h : fX8_restore p1 st = some ((), s9)) : uMet l V yX8_restore cX8_restore 3 none 1 22 0 0 [.ref (vA V 0), .int p1] st none s9 := by
  refine ux_met W0.1 W0.2.1 (by decide) rfl (Nat.le_of_ble_eq_true rfl) (fun M hL hr C => ?_)
  subst hL
  have C : uCx M V cX8_restore 3 RX8 1 22 0 0 := C
  unfold fX8_restore at h
  refine ux_aload_n C dX8_restore_0 0 rfl ?_
  refine ux_iconst (v := 0) C dX8_restore_1 (by decide) ?_
  refine ux_puti C fp_X8_49 dX8_restore_2 (oM W0) (Nat.le_of_ble_eq_true rfl) rfl h (fun st_1 h => ?_)
  refine ux_aload_n C dX8_restore_5 0 rfl ?_
  refine ux_iload_n C dX8_restore_6 1 rfl ?_
  refine ux_iconst (v := 0) C dX8_restore_7 (by decide) ?_
  refine ux_iconst (v := 1) C dX8_restore_8 (by decide) ?_
  obtain ⟨x_2, h1, h⟩ := ob_some h
  refine ux_callSi C cs_X8_59 dX8_restore_9 (kX8_isIn W0 h1) rfl (Nat.le_of_ble_eq_true rfl) ⟨(Nat.le_of_ble_eq_true rfl), (Nat.le_of_ble_eq_true rfl)⟩ ⟨(Nat.le_of_ble_eq_true rfl), (Nat.le_of_ble_eq_true rfl)⟩ ?_ rfl
  refine ux_iconst (v := 1) C dX8_restore_12 (by decide) ?_
  obtain ⟨x_4, st_3, h1, h⟩ := obS_some h
  refine ux_callVi C cv_X8_55 dX8_restore_13 (oM W0) rfl (kX8_may W0 h1) rfl (Nat.le_of_ble_eq_true rfl) ⟨(Nat.le_of_ble_eq_true rfl), (Nat.le_of_ble_eq_true rfl)⟩ ⟨(Nat.le_of_ble_eq_true rfl), (Nat.le_of_ble_eq_true rfl)⟩ ?_ rfl
  refine ux_if_eq C dX8_restore_16 h (fun h => ?_) (fun h => ?_)
  · exact ux_vret C hr dX8_restore_33 h (Nat.le_of_ble_eq_true rfl) (Nat.le_of_ble_eq_true rfl)
  · refine ux_aload_n C dX8_restore_19 0 rfl ?_
    refine ux_aload_n C dX8_restore_20 0 rfl ?_
    refine ux_get C fl_X8_22 dX8_restore_21 (oM W0) rfl ?_
    refine ux_iload_n C dX8_restore_24 1 rfl ?_
    refine ux_zald C (aM_isSaved W0) dX8_restore_25 h (fun h => ?_)
    refine ux_iconst (v := 2) C dX8_restore_26 (by decide) ?_
    obtain ⟨x_6, st_5, h1, h⟩ := obS_some h
    refine ux_callVi C cv_X8_55 dX8_restore_27 (oM W0) rfl (kX8_may W0 h1) rfl (Nat.le_of_ble_eq_true rfl) ⟨(Nat.le_of_ble_eq_true rfl), (Nat.le_of_ble_eq_true rfl)⟩ ⟨(Nat.le_of_ble_eq_true rfl), (Nat.le_of_ble_eq_true rfl)⟩ ?_ rfl
    refine ux_if_ne C dX8_restore_30 h (fun h => ?_) (fun h => ?_)
    · exact ux_vret C hr dX8_restore_33 h (Nat.le_of_ble_eq_true rfl) (Nat.le_of_ble_eq_true rfl)
    · refine ux_iconst (v := 0) C dX8_restore_34 (by decide) ?_
      refine ux_istoreK_n C dX8_restore_35 rfl (by decide) ?_
      refine ux_sub [1, 2, 0] rfl ?_
      refine wX8_restore_36 W0 C hr (fun st_10 h => ?_) _ _ _ h
      exact ux_vret C hr dX8_restore_65 h (Nat.le_of_ble_eq_true rfl) (Nat.le_of_ble_eq_true rfl)
set_option maxRecDepth 100000 in
set_option maxHeartbeats 4000000 in
theorem kX8_thrown {l : Launch} {V : uV} (W0 : uWM l V) {st : uSt} {r : Int32} (h : fX8_thrown st = some r) : uMet l V yX8_thrown cX8_thrown 1 (some .int) 0 0 0 0 [.ref (vA V 0)] st (some (.int r)) st := by
  refine ux_met W0.1 W0.2.1 (by decide) rfl (Nat.le_of_ble_eq_true rfl) (fun M hL hr C => ?_)
  subst hL
  have C : uCx M V cX8_thrown 1 RX8 0 0 0 0 := C
  unfold fX8_thrown at h
  refine ux_aload_n C dX8_thrown_0 0 rfl ?_
  refine ux_get C fl_X8_49 dX8_thrown_1 (oM W0) rfl ?_
  exact ux_iret C hr dX8_thrown_4 h (Nat.le_of_ble_eq_true rfl) (Nat.le_of_ble_eq_true rfl)
