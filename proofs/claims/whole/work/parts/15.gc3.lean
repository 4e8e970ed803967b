def fX5_isBlank  (p0 : Int32) : Option Int32 :=
  (if p0 = (10 : Int32) then some (1 : Int32) else (if p0 = (32 : Int32) then some (1 : Int32) else some (0 : Int32)))
def fX5_isLetter  (p0 : Int32) : Option Int32 :=
  (if p0 < (97 : Int32) then some (0 : Int32) else (if (122 : Int32) < p0 then some (0 : Int32) else some (1 : Int32)))
def fX5_isDigit  (p0 : Int32) : Option Int32 :=
  (if p0 < (48 : Int32) then some (0 : Int32) else (if (57 : Int32) < p0 then some (0 : Int32) else some (1 : Int32)))
def fX5_addBytesOf_3  (l1 : Int32) (ke : uSt → Option (Unit × uSt)) : Nat → uSt → Int32 → Option (Unit × uSt)
  | 0, _, _ => none
  | n + 1, st, l2 =>
    (if l2 < 0 then (ke st) else (if (400 : Int32) ≤ (st.1 1 1) then (ke st) else og (inB (st.1 1 1) 400) (ol (sI st 2 (st.1 1 1).toNatClampNeg (vp_nar .byte ((l1 >>> (l2 &&& 31)).toInt8.toInt32))) (fun st_2 => ol (sI st_2 1 1 ((st_2.1 1 1) + (1 : Int32))) (fun st_3 => ol (l2 + (-8)) (fun l2_4 => fX5_addBytesOf_3 l1 ke n st_3 l2_4))))))
def fX5_addBytesOf  (p1 : Int32) (st : uSt) : Option (Unit × uSt) :=
  fX5_addBytesOf_3 p1 (fun st_5 => some ((), st_5)) FU st (24 : Int32)
def fX5_readToken_8   (ke : uSt → Option (Unit × uSt)) : Nat → uSt → Option (Unit × uSt)
  | 0, _ => none
  | n + 1, st =>
    (if (st.1 1 1) ≤ (st.1 1 5) then (ke st) else og (inB (st.1 1 5) 400) (ob (fX5_isBlank (st.1 2 (st.1 1 5).toNatClampNeg)) (fun x_2 => (if x_2 = 0 then (ke st) else ol (sI st 1 5 ((st.1 1 5) + (1 : Int32))) (fun st_3 => fX5_readToken_8 ke n st_3)))))
def fX5_readToken_148   (ke : uSt → Option (Unit × uSt)) : Nat → uSt → Option (Unit × uSt)
  | 0, _ => none
  | n + 1, st =>
    (if (st.1 1 1) ≤ (st.1 1 6) then (ke st) else og (inB (st.1 1 6) 400) (ob (fX5_isDigit (st.1 2 (st.1 1 6).toNatClampNeg)) (fun x_12 => (if x_12 = 0 then (ke st) else ol (sI st 1 6 ((st.1 1 6) + (1 : Int32))) (fun st_13 => fX5_readToken_148 ke n st_13)))))
def fX5_readToken_94   (ke : uSt → Option (Unit × uSt)) : Nat → uSt → Option (Unit × uSt)
  | 0, _ => none
  | n + 1, st =>
    (if (st.1 1 1) ≤ (st.1 1 6) then (ke st) else og (inB (st.1 1 6) 400) (ob (fX5_isLetter (st.1 2 (st.1 1 6).toNatClampNeg)) (fun x_19 => (if x_19 = 0 then (ke st) else ol (sI st 1 6 ((st.1 1 6) + (1 : Int32))) (fun st_20 => fX5_readToken_94 ke n st_20)))))
def fX5_readToken   (st : uSt) : Option (Unit × uSt) :=
  ol (sI st 1 5 (st.1 1 6)) (fun st_1 => fX5_readToken_8 (fun st_4 => ol (sI st_4 1 6 (st_4.1 1 5)) (fun st_5 => (if (st_5.1 1 5) < (st_5.1 1 1) then og (inB (st_5.1 1 5) 400) (ob (fX5_isLetter (st_5.1 2 (st_5.1 1 5).toNatClampNeg)) (fun x_6 => (if x_6 = 0 then og (inB (st_5.1 1 5) 400) (ob (fX5_isDigit (st_5.1 2 (st_5.1 1 5).toNatClampNeg)) (fun x_7 => (if x_7 = 0 then og (inB (st_5.1 1 5) 400) (oj1 (fun (v_9 : Int32) => ol (sI st_5 1 4 v_9) (fun st_10 => ol (sI st_10 1 6 ((st_10.1 1 6) + (1 : Int32))) (fun st_11 => some ((), st_11)))) (fun j_8 => (if (st_5.1 2 (st_5.1 1 5).toNatClampNeg) = (59 : Int32) then (j_8 (3 : Int32)) else (j_8 (4 : Int32))))) else fX5_readToken_148 (fun st_14 => oj1 (fun (v_16 : Int32) => ol (sI st_14 1 4 v_16) (fun st_17 => some ((), st_17))) (fun j_15 => (if (4 : Int32) < ((st_14.1 1 6) - (st_14.1 1 5)) then (j_15 (4 : Int32)) else (j_15 (2 : Int32))))) FU st_5))) else ol (sI st_5 1 4 (1 : Int32)) (fun st_18 => fX5_readToken_94 (fun st_21 => some ((), st_21)) FU st_18)))) else ol (sI st_5 1 4 (0 : Int32)) (fun st_22 => some ((), st_22))))) FU st_1)
def fX5_refuse  (p1 : Int32) (st : uSt) : Option (Unit × uSt) :=
  oj1 (fun (st_2 : uSt) => ol (sI st_2 1 4 (4 : Int32)) (fun st_3 => some ((), st_3))) (fun j_1 => (if (st.1 1 2) = 0 then ol (sI st 1 2 p1) (fun st_4 => ol (sI st_4 1 3 (st_4.1 1 5)) (fun st_5 => (j_1 st_5))) else (j_1 st)))
def fX5_isWord_28  (w : Nat)  (st : uSt) (ke : Option Int32) : Nat → Int32 → Option Int32
  | 0, _ => none
  | n + 1, l2 =>
    ob (fJ0_length_8abf5 w) (fun x_3 => (if x_3 ≤ l2 then ke else (if (st.1 1 1) ≤ ((st.1 1 5) + l2) then ke else og (inB ((st.1 1 5) + l2) 400) (ob (fJ0_charAt_5068e w l2) (fun x_4 => (if (st.1 2 ((st.1 1 5) + l2).toNatClampNeg) = x_4 then ol (l2 + 1) (fun l2_5 => fX5_isWord_28 w st ke n l2_5) else some (0 : Int32)))))))
def fX5_isWord  (w : Nat)  (st : uSt) : Option Int32 :=
  (if (st.1 1 4) = (1 : Int32) then ob (fJ0_length_8abf5 w) (fun x_1 => (if ((st.1 1 6) - (st.1 1 5)) = x_1 then fX5_isWord_28 w st (some (1 : Int32)) FU (0 : Int32) else some (0 : Int32))) else some (0 : Int32))
def fX5_takeWord  (w : Nat)  (st : uSt) : Option (Unit × uSt) :=
  ob (fX5_isWord w st) (fun x_1 => (if x_1 = 0 then obV (fX5_refuse (1 : Int32) st) (fun st_2 => some ((), st_2)) else obV (fX5_readToken st) (fun st_3 => some ((), st_3))))
def fX5_takeSemicolon   (st : uSt) : Option (Unit × uSt) :=
  (if (st.1 1 4) = (3 : Int32) then obV (fX5_readToken st) (fun st_1 => some ((), st_1)) else obV (fX5_refuse (1 : Int32) st) (fun st_2 => some ((), st_2)))
def fX5_takeNumber_23  (l1 : Int32) (l2 : Int32) (st : uSt) (ke : Int32 → Option (Int32 × uSt)) : Nat → Int32 → Int32 → Option (Int32 × uSt)
  | 0, _, _ => none
  | n + 1, l3, l4 =>
    (if (st.1 1 6) ≤ l4 then (ke l3) else (if (st.1 1 1) ≤ l4 then (ke l3) else og (inB l4 400) (ol (((l3 * (10 : Int32)) + (st.1 2 l4.toNatClampNeg)) - (48 : Int32)) (fun l3_3 => ol (l4 + 1) (fun l4_4 => fX5_takeNumber_23 l1 l2 st ke n l3_3 l4_4)))))
def fX5_takeNumber  (p1 : Int32) (p2 : Int32) (st : uSt) : Option (Int32 × uSt) :=
  (if (st.1 1 4) = (2 : Int32) then ol (st.1 1 5) (fun l4_2 => fX5_takeNumber_23 p1 p2 st (fun l3_5 => oj0 (obV (fX5_refuse (2 : Int32) st) (fun st_7 => some (p1, st_7))) (fun j_6 => (if l3_5 < p1 then j_6 else (if l3_5 ≤ p2 then obV (fX5_readToken st) (fun st_8 => some (l3_5, st_8)) else j_6)))) FU (0 : Int32) l4_2) else obV (fX5_refuse (1 : Int32) st) (fun st_9 => some (p1, st_9)))
def fX5_readBattery (b : Nat)  (st : uSt) : Option (Unit × uSt) :=
  obV (fX5_takeWord 0 st) (fun st_1 => obS (fX5_takeNumber (1 : Int32) (500 : Int32) st_1) (fun x_3 st_2 => ol (sI st_2 b 0 x_3) (fun st_4 => obS (fX5_takeNumber (0 : Int32) (st_4.1 b 0) st_4) (fun x_6 st_5 => ol (sI st_5 b 1 x_6) (fun st_7 => obS (fX5_takeNumber (0 : Int32) (50 : Int32) st_7) (fun x_9 st_8 => ol (sI st_8 b 2 x_9) (fun st_10 => obS (fX5_takeNumber (1 : Int32) (50 : Int32) st_10) (fun x_12 st_11 => ol (sI st_11 b 3 x_12) (fun st_13 => obS (fX5_takeNumber (1 : Int32) (1000 : Int32) st_13) (fun x_15 st_14 => ol (sI st_14 b 4 x_15) (fun st_16 => obV (fX5_takeSemicolon st_16) (fun st_17 => some ((), st_17)))))))))))))
def fX5_readMode (q : Nat)  (st : uSt) : Option (Unit × uSt) :=
  ob (fX5_isWord 5 st) (fun x_1 => (if x_1 = 0 then ob (fX5_isWord 6 st) (fun x_2 => (if x_2 = 0 then obV (fX5_takeWord 7 st) (fun st_3 => ol (sI st_3 q 2 (0 : Int32)) (fun st_4 => some ((), st_4))) else obV (fX5_readToken st) (fun st_5 => ol (sI st_5 q 2 (2 : Int32)) (fun st_6 => some ((), st_6))))) else obV (fX5_readToken st) (fun st_7 => ol (sI st_7 q 2 (1 : Int32)) (fun st_8 => obS (fX5_takeNumber (1 : Int32) (99 : Int32) st_8) (fun x_10 st_9 => ol (sI st_9 q 3 x_10) (fun st_11 => some ((), st_11)))))))
def fX5_readSetting (q : Nat) (p2 : Int32) (st : uSt) : Option (Unit × uSt) :=
  (if p2 = (1 : Int32) then obS (fX5_takeNumber (0 : Int32) (200 : Int32) st) (fun x_2 st_1 => ol (sI st_1 q 0 x_2) (fun st_3 => some ((), st_3))) else (if p2 = (2 : Int32) then obS (fX5_takeNumber (1 : Int32) (24 : Int32) st) (fun x_5 st_4 => ol (sI st_4 q 1 x_5) (fun st_6 => some ((), st_6))) else obV (fX5_readMode q st) (fun st_7 => some ((), st_7))))
def fX5_settingAtToken   (st : uSt) : Option Int32 :=
  ob (fX5_isWord 2 st) (fun x_1 => (if x_1 = 0 then ob (fX5_isWord 3 st) (fun x_2 => (if x_2 = 0 then ob (fX5_isWord 4 st) (fun x_3 => (if x_3 = 0 then some (0 : Int32) else some (4 : Int32))) else some (2 : Int32))) else some (1 : Int32)))
def fX5_readSettings_4 (q : Nat)  (ke : uSt → Option (Unit × uSt)) : Nat → uSt → Int32 → Int32 → Option (Unit × uSt)
  | 0, _, _, _ => none
  | n + 1, st, l2, l3 =>
    (if (3 : Int32) < l3 then (ke st) else ob (fX5_settingAtToken st) (fun x_3 => (if x_3 = 0 then some ((), st) else (if (l2 &&& x_3) = 0 then ol (l2 ||| x_3) (fun l2_5 => obV (fX5_readToken st) (fun st_6 => obV (fX5_readSetting q x_3 st_6) (fun st_7 => obV (fX5_takeSemicolon st_7) (fun st_8 => ol (l3 + 1) (fun l3_9 => fX5_readSettings_4 q ke n st_8 l2_5 l3_9))))) else obV (fX5_refuse (3 : Int32) st) (fun st_10 => some ((), st_10))))))
def fX5_readSettings (q : Nat)  (st : uSt) : Option (Unit × uSt) :=
  fX5_readSettings_4 q (fun st_11 => some ((), st_11)) FU st (0 : Int32) (0 : Int32)
def fX5_readDevices_2 (d : Nat)  (ke : uSt → Option (Unit × uSt)) : Nat → uSt → Int32 → Option (Unit × uSt)
  | 0, _, _ => none
  | n + 1, st, l2 =>
    (if (5 : Int32) < l2 then (ke st) else ob (fX5_isWord 1 st) (fun x_2 => (if x_2 = 0 then (ke st) else (if l2 = (5 : Int32) then obV (fX5_refuse (4 : Int32) st) (fun st_3 => some ((), st_3)) else obV (fX5_readToken st) (fun st_4 => obS (fX5_takeNumber (0 : Int32) (200 : Int32) st_4) (fun x_6 st_5 => og (inB l2 5) (ol (sI st_5 (d + 1) l2.toNatClampNeg x_6) (fun st_7 => obS (fX5_takeNumber (0 : Int32) (50 : Int32) st_7) (fun x_9 st_8 => og (inB l2 5) (ol (sI st_8 (d + 2) l2.toNatClampNeg x_9) (fun st_10 => obS (fX5_takeNumber (1 : Int32) (50 : Int32) st_10) (fun x_12 st_11 => og (inB l2 5) (ol (sI st_11 (d + 3) l2.toNatClampNeg x_12) (fun st_13 => obV (fX5_takeSemicolon st_13) (fun st_14 => ol (sI st_14 d 0 (l2 + (1 : Int32))) (fun st_15 => ol (l2 + 1) (fun l2_16 => fX5_readDevices_2 d ke n st_15 l2_16)))))))))))))))))
def fX5_readDevices (d : Nat)  (st : uSt) : Option (Unit × uSt) :=
  fX5_readDevices_2 d (fun st_17 => some ((), st_17)) FU st (0 : Int32)
def fX5_readInto (sb : Nat)  (st : uSt) : Option (Unit × uSt) :=
  ol (sI st 1 2 (0 : Int32)) (fun st_1 => ol (sI st_1 1 3 (-1 : Int32)) (fun st_2 => ol (sI st_2 1 6 (0 : Int32)) (fun st_3 => obV (fX3_setDefaults (sb + 2) st_3) (fun st_4 => ol (sI st_4 (sb + 3) 0 (0 : Int32)) (fun st_5 => obV (fX5_readToken st_5) (fun st_6 => obV (fX5_readBattery (sb + 1) st_6) (fun st_7 => obV (fX5_readSettings (sb + 2) st_7) (fun st_8 => obV (fX5_readDevices (sb + 3) st_8) (fun st_9 => (if (st_9.1 1 4) = 0 then some ((), st_9) else obV (fX5_refuse (1 : Int32) st_9) (fun st_10 => some ((), st_10))))))))))))
set_option maxRecDepth 100000 in
set_option maxHeartbeats 4000000 in
theorem kX5_isBlank {l : Launch} {V : uV} (W0 : uWC l V) {p0 : Int32} {st : uSt} {r : Int32} (h : fX5_isBlank p0 = some r) : uMet l V yX5_isBlank cX5_isBlank 1 (some .boolean) 0 0 0 0 [.int p0] st (some (.int r)) st := by
  refine ux_met W0.1 W0.2.1 (by decide) rfl (Nat.le_of_ble_eq_true rfl) (fun M hL hr C => ?_)
  subst hL
  have C : uCx M V cX5_isBlank 1 RX5 0 0 0 0 := C
  unfold fX5_isBlank at h
  refine ux_iload_n C dX5_isBlank_0 0 rfl ?_
  refine ux_bipush (v := 10) C dX5_isBlank_1 (by decide) ?_
  refine ux_icmp_eq C dX5_isBlank_3 h (fun h => ?_) (fun h => ?_)
  · refine ux_iconst (v := 1) C dX5_isBlank_12 (by decide) ?_
    refine ux_goto C dX5_isBlank_13 ?_
    exact ux_zretK C hr dX5_isBlank_17 (by decide) h (Nat.le_of_ble_eq_true rfl) (Nat.le_of_ble_eq_true rfl)
  · refine ux_iload_n C dX5_isBlank_6 0 rfl ?_
    refine ux_bipush (v := 32) C dX5_isBlank_7 (by decide) ?_
    refine ux_icmp_ne C dX5_isBlank_9 h (fun h => ?_) (fun h => ?_)
    · refine ux_iconst (v := 1) C dX5_isBlank_12 (by decide) ?_
      refine ux_goto C dX5_isBlank_13 ?_
      exact ux_zretK C hr dX5_isBlank_17 (by decide) h (Nat.le_of_ble_eq_true rfl) (Nat.le_of_ble_eq_true rfl)
    · refine ux_iconst (v := 0) C dX5_isBlank_16 (by decide) ?_
      exact ux_zretK C hr dX5_isBlank_17 (by decide) h (Nat.le_of_ble_eq_true rfl) (Nat.le_of_ble_eq_true rfl)
set_option maxRecDepth 100000 in
set_option maxHeartbeats 4000000 in
theorem kX5_isLetter {l : Launch} {V : uV} (W0 : uWC l V) {p0 : Int32} {st : uSt} {r : Int32} (h : fX5_isLetter p0 = some r) : uMet l V yX5_isLetter cX5_isLetter 1 (some .boolean) 0 0 0 0 [.int p0] st (some (.int r)) st := by
  refine ux_met W0.1 W0.2.1 (by decide) rfl (Nat.le_of_ble_eq_true rfl) (fun M hL hr C => ?_)
  subst hL
  have C : uCx M V cX5_isLetter 1 RX5 0 0 0 0 := C
  unfold fX5_isLetter at h
  refine ux_iload_n C dX5_isLetter_0 0 rfl ?_
  refine ux_bipush (v := 97) C dX5_isLetter_1 (by decide) ?_
  refine ux_icmp_lt C dX5_isLetter_3 h (fun h => ?_) (fun h => ?_)
  · refine ux_iconst (v := 0) C dX5_isLetter_16 (by decide) ?_
    exact ux_zretK C hr dX5_isLetter_17 (by decide) h (Nat.le_of_ble_eq_true rfl) (Nat.le_of_ble_eq_true rfl)
  · refine ux_iload_n C dX5_isLetter_6 0 rfl ?_
    refine ux_bipush (v := 122) C dX5_isLetter_7 (by decide) ?_
    refine ux_icmp_gt C dX5_isLetter_9 h (fun h => ?_) (fun h => ?_)
    · refine ux_iconst (v := 0) C dX5_isLetter_16 (by decide) ?_
      exact ux_zretK C hr dX5_isLetter_17 (by decide) h (Nat.le_of_ble_eq_true rfl) (Nat.le_of_ble_eq_true rfl)
    · refine ux_iconst (v := 1) C dX5_isLetter_12 (by decide) ?_
      refine ux_goto C dX5_isLetter_13 ?_
      exact ux_zretK C hr dX5_isLetter_17 (by decide) h (Nat.le_of_ble_eq_true rfl) (Nat.le_of_ble_eq_true rfl)
set_option maxRecDepth 100000 in
set_option maxHeartbeats 4000000 in
theorem kX5_isDigit {l : Launch} {V : uV} (W0 : uWC l V) {p0 : Int32} {st : uSt} {r : Int32} (h : fX5_isDigit p0 = some r) : uMet l V yX5_isDigit cX5_isDigit 1 (some .boolean) 0 0 0 0 [.int p0] st (some (.int r)) st := by
  refine ux_met W0.1 W0.2.1 (by decide) rfl (Nat.le_of_ble_eq_true rfl) (fun M hL hr C => ?_)
  subst hL
  have C : uCx M V cX5_isDigit 1 RX5 0 0 0 0 := C
  unfold fX5_isDigit at h
  refine ux_iload_n C dX5_isDigit_0 0 rfl ?_
  refine ux_bipush (v := 48) C dX5_isDigit_1 (by decide) ?_
  refine ux_icmp_lt C dX5_isDigit_3 h (fun h => ?_) (fun h => ?_)
  · refine ux_iconst (v := 0) C dX5_isDigit_16 (by decide) ?_
    exact ux_zretK C hr dX5_isDigit_17 (by decide) h (Nat.le_of_ble_eq_true rfl) (Nat.le_of_ble_eq_true rfl)
  · refine ux_iload_n C dX5_isDigit_6 0 rfl ?_
    refine ux_bipush (v := 57) C dX5_isDigit_7 (by decide) ?_
    refine ux_icmp_gt C dX5_isDigit_9 h (fun h => ?_) (fun h => ?_)
    · refine ux_iconst (v := 0) C dX5_isDigit_16 (by decide) ?_
      exact ux_zretK C hr dX5_isDigit_17 (by decide) h (Nat.le_of_ble_eq_true rfl) (Nat.le_of_ble_eq_true rfl)
    · refine ux_iconst (v := 1) C dX5_isDigit_12 (by decide) ?_
      refine ux_goto C dX5_isDigit_13 ?_
      exact ux_zretK C hr dX5_isDigit_17 (by decide) h (Nat.le_of_ble_eq_true rfl) (Nat.le_of_ble_eq_true rfl)
set_option maxRecDepth 100000 in
set_option maxHeartbeats 4000000 in
theorem wX5_addBytesOf_3 {M : uM} {V : uV} (W0 : uWC (mL M) V) (C : uCx M V cX5_addBytesOf 3 RX5 0 0 0 0) (hr : (mT M).sig.returnType = none) {l1 : Int32} {s9 : uSt} {ke : uSt → Option (Unit × uSt)} (K : ∀ (st : uSt), ke st = some ((), s9) → uW M V (uEnd M V 0 0 none s9) 3 0 0 46 [] [] st) : ∀ (n : Nat) (st : uSt) (l2 : Int32), fX5_addBytesOf_3 l1 ke n st l2 = some ((), s9) → uW M V (uEnd M V 0 0 none s9) 3 0 0 3 [(0, .ref (vA V 1)), (1, .int l1), (2, .int l2)] [] st := by
  intro n
  induction n with
  | zero =>
    intro st l2 h
    rw [fX5_addBytesOf_3] at h
    cases h
  | succ n ih =>
    intro st l2 h
    rw [fX5_addBytesOf_3] at h
    refine ux_iload_n C dX5_addBytesOf_3 2 rfl ?_
    refine ux_if_lt C dX5_addBytesOf_4 h (fun h => ?_) (fun h => ?_)
    · refine ux_sub [] rfl ?_
      exact K st h
    · refine ux_aload_n C dX5_addBytesOf_7 0 rfl ?_
      refine ux_get C fl_X5_15 dX5_addBytesOf_8 (oST W0) rfl ?_
      refine ux_sipush (v := 400) C dX5_addBytesOf_11 (by decide) ?_
      refine ux_icmp_ge C dX5_addBytesOf_14 h (fun h => ?_) (fun h => ?_)
      · refine ux_sub [] rfl ?_
        exact K st h
      · refine ux_aload_n C dX5_addBytesOf_17 0 rfl ?_
        refine ux_get C fl_X5_9 dX5_addBytesOf_18 (oST W0) rfl ?_
        refine ux_aload_n C dX5_addBytesOf_21 0 rfl ?_
        refine ux_get C fl_X5_15 dX5_addBytesOf_22 (oST W0) rfl ?_
        refine ux_iload_n C dX5_addBytesOf_25 1 rfl ?_
        refine ux_iload_n C dX5_addBytesOf_26 2 rfl ?_
        refine ux_ishr C dX5_addBytesOf_27 ?_
        refine ux_i2b C dX5_addBytesOf_28 ?_
        refine ux_bast C (aBytes W0) dX5_addBytesOf_29 h (fun st_2 h => ?_)
        refine ux_aload_n C dX5_addBytesOf_30 0 rfl ?_
        refine ux_dup C dX5_addBytesOf_31 rfl ?_
        refine ux_get C fl_X5_15 dX5_addBytesOf_32 (oST W0) rfl ?_
        refine ux_iconst (v := 1) C dX5_addBytesOf_35 (by decide) ?_
        refine ux_iadd C dX5_addBytesOf_36 ?_
        refine ux_puti C fp_X5_15 dX5_addBytesOf_37 (oST W0) (Nat.le_of_ble_eq_true rfl) rfl h (fun st_3 h => ?_)
        refine ux_iincK C dX5_addBytesOf_40 (by decide) 2 rfl (fun z => [(2, .int z), (0, .ref (vA V 1)), (1, .int l1)]) (fun _ => rfl) (by decide) h (fun l2_4 h => ?_)
        refine ux_goto C dX5_addBytesOf_43 ?_
        refine ux_sub [1, 2, 0] rfl ?_
        exact ih _ _ h
set_option maxRecDepth 100000 in
set_option maxHeartbeats 4000000 in
theorem kX5_addBytesOf {l : Launch} {V : uV} (W0 : uWC l V) {p1 : Int32} {st : uSt} {s9 : uSt} (h : fX5_addBytesOf p1 st = some ((), s9)) : uMet l V yX5_addBytesOf cX5_addBytesOf 3 none 0 0 0 0 [.ref (vA V 1), .int p1] st none s9 := by
  refine ux_met W0.1 W0.2.1 (by decide) rfl (Nat.le_of_ble_eq_true rfl) (fun M hL hr C => ?_)
  subst hL
  have C : uCx M V cX5_addBytesOf 3 RX5 0 0 0 0 := C
  unfold fX5_addBytesOf at h
  refine ux_bipush (v := 24) C dX5_addBytesOf_0 (by decide) ?_
  refine ux_istoreK_n C dX5_addBytesOf_2 rfl (by decide) ?_
  refine ux_sub [1, 2, 0] rfl ?_
  refine wX5_addBytesOf_3 W0 C hr (fun st_5 h => ?_) _ _ _ h
  exact ux_vret C hr dX5_addBytesOf_46 h (Nat.le_of_ble_eq_true rfl) (Nat.le_of_ble_eq_true rfl)
set_option maxRecDepth 100000 in
set_option maxHeartbeats 4000000 in
theorem wX5_readToken_8 {M : uM} {V : uV} (W0 : uWC (mL M) V) (C : uCx M V cX5_readToken 1 RX5 1 20 0 0) (hr : (mT M).sig.returnType = none) {s9 : uSt} {ke : uSt → Option (Unit × uSt)} (K : ∀ (st : uSt), ke st = some ((), s9) → uW M V (uEnd M V 0 0 none s9) 1 0 0 47 [(0, .ref (vA V 1))] [] st) : ∀ (n : Nat) (st : uSt), fX5_readToken_8 ke n st = some ((), s9) → uW M V (uEnd M V 0 0 none s9) 1 0 0 8 [(0, .ref (vA V 1))] [] st := by
  intro n
  induction n with
  | zero =>
    intro st h
    rw [fX5_readToken_8] at h
    cases h
  | succ n ih =>
    intro st h
    rw [fX5_readToken_8] at h
    refine ux_aload_n C dX5_readToken_8 0 rfl ?_
    refine ux_get C fl_X5_28 dX5_readToken_9 (oST W0) rfl ?_
    refine ux_aload_n C dX5_readToken_12 0 rfl ?_
    refine ux_get C fl_X5_15 dX5_readToken_13 (oST W0) rfl ?_
    refine ux_icmp_ge C dX5_readToken_16 h (fun h => ?_) (fun h => ?_)
    · exact K st h
    · refine ux_aload_n C dX5_readToken_19 0 rfl ?_
      refine ux_get C fl_X5_9 dX5_readToken_20 (oST W0) rfl ?_
      refine ux_aload_n C dX5_readToken_23 0 rfl ?_
      refine ux_get C fl_X5_28 dX5_readToken_24 (oST W0) rfl ?_
      refine ux_bald C (aBytes W0) dX5_readToken_27 h (fun h => ?_)
      obtain ⟨x_2, h1, h⟩ := ob_some h
      refine ux_callSi C cs_X5_162 dX5_readToken_28 (kX5_isBlank W0 h1) rfl (Nat.le_of_ble_eq_true rfl) ⟨(Nat.le_of_ble_eq_true rfl), (Nat.le_of_ble_eq_true rfl)⟩ ⟨(Nat.le_of_ble_eq_true rfl), (Nat.le_of_ble_eq_true rfl)⟩ ?_ rfl
      refine ux_if_eq C dX5_readToken_31 h (fun h => ?_) (fun h => ?_)
      · exact K st h
      · refine ux_aload_n C dX5_readToken_34 0 rfl ?_
        refine ux_dup C dX5_readToken_35 rfl ?_
        refine ux_get C fl_X5_28 dX5_readToken_36 (oST W0) rfl ?_
        refine ux_iconst (v := 1) C dX5_readToken_39 (by decide) ?_
        refine ux_iadd C dX5_readToken_40 ?_
        refine ux_puti C fp_X5_28 dX5_readToken_41 (oST W0) (Nat.le_of_ble_eq_true rfl) rfl h (fun st_3 h => ?_)
        refine ux_goto C dX5_readToken_44 ?_
        exact ih _ h
set_option maxRecDepth 100000 in
set_option maxHeartbeats 4000000 in
theorem wX5_readToken_148 {M : uM} {V : uV} (W0 : uWC (mL M) V) (C : uCx M V cX5_readToken 1 RX5 1 20 0 0) (hr : (mT M).sig.returnType = none) {s9 : uSt} {ke : uSt → Option (Unit × uSt)} (K : ∀ (st : uSt), ke st = some ((), s9) → uW M V (uEnd M V 0 0 none s9) 1 0 0 187 [(0, .ref (vA V 1))] [] st) : ∀ (n : Nat) (st : uSt), fX5_readToken_148 ke n st = some ((), s9) → uW M V (uEnd M V 0 0 none s9) 1 0 0 148 [(0, .ref (vA V 1))] [] st := by
  intro n
  induction n with
  | zero =>
    intro st h
    rw [fX5_readToken_148] at h
    cases h
  | succ n ih =>
    intro st h
    rw [fX5_readToken_148] at h
    refine ux_aload_n C dX5_readToken_148 0 rfl ?_
    refine ux_get C fl_X5_31 dX5_readToken_149 (oST W0) rfl ?_
    refine ux_aload_n C dX5_readToken_152 0 rfl ?_
    refine ux_get C fl_X5_15 dX5_readToken_153 (oST W0) rfl ?_
    refine ux_icmp_ge C dX5_readToken_156 h (fun h => ?_) (fun h => ?_)
    · exact K st h
    · refine ux_aload_n C dX5_readToken_159 0 rfl ?_
      refine ux_get C fl_X5_9 dX5_readToken_160 (oST W0) rfl ?_
      refine ux_aload_n C dX5_readToken_163 0 rfl ?_
      refine ux_get C fl_X5_31 dX5_readToken_164 (oST W0) rfl ?_
      refine ux_bald C (aBytes W0) dX5_readToken_167 h (fun h => ?_)
      obtain ⟨x_12, h1, h⟩ := ob_some h
      refine ux_callSi C cs_X5_169 dX5_readToken_168 (kX5_isDigit W0 h1) rfl (Nat.le_of_ble_eq_true rfl) ⟨(Nat.le_of_ble_eq_true rfl), (Nat.le_of_ble_eq_true rfl)⟩ ⟨(Nat.le_of_ble_eq_true rfl), (Nat.le_of_ble_eq_true rfl)⟩ ?_ rfl
      refine ux_if_eq C dX5_readToken_171 h (fun h => ?_) (fun h => ?_)
      · exact K st h
      · refine ux_aload_n C dX5_readToken_174 0 rfl ?_
        refine ux_dup C dX5_readToken_175 rfl ?_
        refine ux_get C fl_X5_31 dX5_readToken_176 (oST W0) rfl ?_
        refine ux_iconst (v := 1) C dX5_readToken_179 (by decide) ?_
        refine ux_iadd C dX5_readToken_180 ?_
        refine ux_puti C fp_X5_31 dX5_readToken_181 (oST W0) (Nat.le_of_ble_eq_true rfl) rfl h (fun st_13 h => ?_)
        refine ux_goto C dX5_readToken_184 ?_
        exact ih _ h
set_option maxRecDepth 100000 in
set_option maxHeartbeats 4000000 in
theorem wX5_readToken_94 {M : uM} {V : uV} (W0 : uWC (mL M) V) (C : uCx M V cX5_readToken 1 RX5 1 20 0 0) (hr : (mT M).sig.returnType = none) {s9 : uSt} {ke : uSt → Option (Unit × uSt)} (K : ∀ (st : uSt), ke st = some ((), s9) → uW M V (uEnd M V 0 0 none s9) 1 0 0 245 [] [] st) : ∀ (n : Nat) (st : uSt), fX5_readToken_94 ke n st = some ((), s9) → uW M V (uEnd M V 0 0 none s9) 1 0 0 94 [(0, .ref (vA V 1))] [] st := by
  intro n
  induction n with
  | zero =>
    intro st h
    rw [fX5_readToken_94] at h
    cases h
  | succ n ih =>
    intro st h
    rw [fX5_readToken_94] at h
    refine ux_aload_n C dX5_readToken_94 0 rfl ?_
    refine ux_get C fl_X5_31 dX5_readToken_95 (oST W0) rfl ?_
    refine ux_aload_n C dX5_readToken_98 0 rfl ?_
    refine ux_get C fl_X5_15 dX5_readToken_99 (oST W0) rfl ?_
    refine ux_icmp_ge C dX5_readToken_102 h (fun h => ?_) (fun h => ?_)
    · refine ux_sub [] rfl ?_
      exact K st h
    · refine ux_aload_n C dX5_readToken_105 0 rfl ?_
      refine ux_get C fl_X5_9 dX5_readToken_106 (oST W0) rfl ?_
      refine ux_aload_n C dX5_readToken_109 0 rfl ?_
      refine ux_get C fl_X5_31 dX5_readToken_110 (oST W0) rfl ?_
      refine ux_bald C (aBytes W0) dX5_readToken_113 h (fun h => ?_)
      obtain ⟨x_19, h1, h⟩ := ob_some h
      refine ux_callSi C cs_X5_166 dX5_readToken_114 (kX5_isLetter W0 h1) rfl (Nat.le_of_ble_eq_true rfl) ⟨(Nat.le_of_ble_eq_true rfl), (Nat.le_of_ble_eq_true rfl)⟩ ⟨(Nat.le_of_ble_eq_true rfl), (Nat.le_of_ble_eq_true rfl)⟩ ?_ rfl
      refine ux_if_eq C dX5_readToken_117 h (fun h => ?_) (fun h => ?_)
      · refine ux_sub [] rfl ?_
        exact K st h
      · refine ux_aload_n C dX5_readToken_120 0 rfl ?_
        refine ux_dup C dX5_readToken_121 rfl ?_
        refine ux_get C fl_X5_31 dX5_readToken_122 (oST W0) rfl ?_
        refine ux_iconst (v := 1) C dX5_readToken_125 (by decide) ?_
        refine ux_iadd C dX5_readToken_126 ?_
        refine ux_puti C fp_X5_31 dX5_readToken_127 (oST W0) (Nat.le_of_ble_eq_true rfl) rfl h (fun st_20 h => ?_)
        refine ux_goto C dX5_readToken_130 ?_
        exact ih _ h
set_option maxRecDepth 100000 in
set_option maxHeartbeats 4000000 in
theorem kX5_readToken {l : Launch} {V : uV} (W0 : uWC l V) {st : uSt} {s9 : uSt} (h : fX5_readToken st = some ((), s9)) : uMet l V yX5_readToken cX5_readToken 1 none 1 20 0 0 [.ref (vA V 1)] st none s9 := by
  refine ux_met W0.1 W0.2.1 (by decide) rfl (Nat.le_of_ble_eq_true rfl) (fun M hL hr C => ?_)
  subst hL
  have C : uCx M V cX5_readToken 1 RX5 1 20 0 0 := C
  unfold fX5_readToken at h
  refine ux_aload_n C dX5_readToken_0 0 rfl ?_
  refine ux_aload_n C dX5_readToken_1 0 rfl ?_
  refine ux_get C fl_X5_31 dX5_readToken_2 (oST W0) rfl ?_
  refine ux_puti C fp_X5_28 dX5_readToken_5 (oST W0) (Nat.le_of_ble_eq_true rfl) rfl h (fun st_1 h => ?_)
  refine wX5_readToken_8 W0 C hr (fun st_4 h => ?_) _ _ h
  refine ux_aload_n C dX5_readToken_47 0 rfl ?_
  refine ux_aload_n C dX5_readToken_48 0 rfl ?_
  refine ux_get C fl_X5_28 dX5_readToken_49 (oST W0) rfl ?_
  refine ux_puti C fp_X5_31 dX5_readToken_52 (oST W0) (Nat.le_of_ble_eq_true rfl) rfl h (fun st_5 h => ?_)
  refine ux_aload_n C dX5_readToken_55 0 rfl ?_
  refine ux_get C fl_X5_28 dX5_readToken_56 (oST W0) rfl ?_
  refine ux_aload_n C dX5_readToken_59 0 rfl ?_
  refine ux_get C fl_X5_15 dX5_readToken_60 (oST W0) rfl ?_
  refine ux_icmp_lt C dX5_readToken_63 h (fun h => ?_) (fun h => ?_)
  · refine ux_aload_n C dX5_readToken_74 0 rfl ?_
    refine ux_get C fl_X5_9 dX5_readToken_75 (oST W0) rfl ?_
    refine ux_aload_n C dX5_readToken_78 0 rfl ?_
    refine ux_get C fl_X5_28 dX5_readToken_79 (oST W0) rfl ?_
    refine ux_bald C (aBytes W0) dX5_readToken_82 h (fun h => ?_)
    obtain ⟨x_6, h1, h⟩ := ob_some h
    refine ux_callSi C cs_X5_166 dX5_readToken_83 (kX5_isLetter W0 h1) rfl (Nat.le_of_ble_eq_true rfl) ⟨(Nat.le_of_ble_eq_true rfl), (Nat.le_of_ble_eq_true rfl)⟩ ⟨(Nat.le_of_ble_eq_true rfl), (Nat.le_of_ble_eq_true rfl)⟩ ?_ rfl
    refine ux_if_eq C dX5_readToken_86 h (fun h => ?_) (fun h => ?_)
    · refine ux_aload_n C dX5_readToken_133 0 rfl ?_
      refine ux_get C fl_X5_9 dX5_readToken_134 (oST W0) rfl ?_
      refine ux_aload_n C dX5_readToken_137 0 rfl ?_
      refine ux_get C fl_X5_28 dX5_readToken_138 (oST W0) rfl ?_
      refine ux_bald C (aBytes W0) dX5_readToken_141 h (fun h => ?_)
      obtain ⟨x_7, h1, h⟩ := ob_some h
      refine ux_callSi C cs_X5_169 dX5_readToken_142 (kX5_isDigit W0 h1) rfl (Nat.le_of_ble_eq_true rfl) ⟨(Nat.le_of_ble_eq_true rfl), (Nat.le_of_ble_eq_true rfl)⟩ ⟨(Nat.le_of_ble_eq_true rfl), (Nat.le_of_ble_eq_true rfl)⟩ ?_ rfl
      refine ux_if_eq C dX5_readToken_145 h (fun h => ?_) (fun h => ?_)
      · refine ux_aload_n C dX5_readToken_212 0 rfl ?_
        refine ux_aload_n C dX5_readToken_213 0 rfl ?_
        refine ux_get C fl_X5_9 dX5_readToken_214 (oST W0) rfl ?_
        refine ux_aload_n C dX5_readToken_217 0 rfl ?_
        refine ux_get C fl_X5_28 dX5_readToken_218 (oST W0) rfl ?_
        refine ux_bald C (aBytes W0) dX5_readToken_221 h (fun h => ?_)
        refine ux_bipush (v := 59) C dX5_readToken_222 (by decide) ?_
        obtain ⟨j_8, hK_8, h⟩ := oj1_some h
        have hJ_8 : ∀ (v_9 : Int32), j_8 v_9 = some ((), s9) → uW M V (uEnd M V 0 0 none s9) 1 0 0 232 [(0, .ref (vA V 1))] [.int v_9, .ref (vA V 1)] st_5 := by
          intro v_9 h
          replace h := hK_8 v_9 h
          refine ux_puti C fp_X5_25 dX5_readToken_232 (oST W0) (Nat.le_of_ble_eq_true rfl) rfl h (fun st_10 h => ?_)
          refine ux_aload_n C dX5_readToken_235 0 rfl ?_
          refine ux_dup C dX5_readToken_236 rfl ?_
          refine ux_get C fl_X5_31 dX5_readToken_237 (oST W0) rfl ?_
          refine ux_iconst (v := 1) C dX5_readToken_240 (by decide) ?_
          refine ux_iadd C dX5_readToken_241 ?_
          refine ux_puti C fp_X5_31 dX5_readToken_242 (oST W0) (Nat.le_of_ble_eq_true rfl) rfl h (fun st_11 h => ?_)
          exact ux_vret C hr dX5_readToken_245 h (Nat.le_of_ble_eq_true rfl) (Nat.le_of_ble_eq_true rfl)
        refine ux_icmp_ne C dX5_readToken_224 h (fun h => ?_) (fun h => ?_)
        · refine ux_iconst (v := 3) C dX5_readToken_227 (by decide) ?_
          refine ux_goto C dX5_readToken_228 ?_
          exact hJ_8 (3 : Int32) h
        · refine ux_iconst (v := 4) C dX5_readToken_231 (by decide) ?_
          exact hJ_8 (4 : Int32) h
      · refine wX5_readToken_148 W0 C hr (fun st_14 h => ?_) _ _ h
        refine ux_aload_n C dX5_readToken_187 0 rfl ?_
        refine ux_aload_n C dX5_readToken_188 0 rfl ?_
        refine ux_get C fl_X5_31 dX5_readToken_189 (oST W0) rfl ?_
        refine ux_aload_n C dX5_readToken_192 0 rfl ?_
        refine ux_get C fl_X5_28 dX5_readToken_193 (oST W0) rfl ?_
        refine ux_isub C dX5_readToken_196 ?_
        refine ux_iconst (v := 4) C dX5_readToken_197 (by decide) ?_
        obtain ⟨j_15, hK_15, h⟩ := oj1_some h
        have hJ_15 : ∀ (v_16 : Int32), j_15 v_16 = some ((), s9) → uW M V (uEnd M V 0 0 none s9) 1 0 0 206 [] [.int v_16, .ref (vA V 1)] st_14 := by
          intro v_16 h
          replace h := hK_15 v_16 h
          refine ux_puti C fp_X5_25 dX5_readToken_206 (oST W0) (Nat.le_of_ble_eq_true rfl) rfl h (fun st_17 h => ?_)
          refine ux_goto C dX5_readToken_209 ?_
          exact ux_vret C hr dX5_readToken_245 h (Nat.le_of_ble_eq_true rfl) (Nat.le_of_ble_eq_true rfl)
        refine ux_icmp_gt C dX5_readToken_198 h (fun h => ?_) (fun h => ?_)
        · refine ux_iconst (v := 4) C dX5_readToken_205 (by decide) ?_
          refine ux_sub [] rfl ?_
          exact hJ_15 (4 : Int32) h
        · refine ux_iconst (v := 2) C dX5_readToken_201 (by decide) ?_
          refine ux_goto C dX5_readToken_202 ?_
          refine ux_sub [] rfl ?_
          exact hJ_15 (2 : Int32) h
    · refine ux_aload_n C dX5_readToken_89 0 rfl ?_
      refine ux_iconst (v := 1) C dX5_readToken_90 (by decide) ?_
      refine ux_puti C fp_X5_25 dX5_readToken_91 (oST W0) (Nat.le_of_ble_eq_true rfl) rfl h (fun st_18 h => ?_)
      refine wX5_readToken_94 W0 C hr (fun st_21 h => ?_) _ _ h
      exact ux_vret C hr dX5_readToken_245 h (Nat.le_of_ble_eq_true rfl) (Nat.le_of_ble_eq_true rfl)
  · refine ux_aload_n C dX5_readToken_66 0 rfl ?_
    refine ux_iconst (v := 0) C dX5_readToken_67 (by decide) ?_
    refine ux_puti C fp_X5_25 dX5_readToken_68 (oST W0) (Nat.le_of_ble_eq_true rfl) rfl h (fun st_22 h => ?_)
    refine ux_goto C dX5_readToken_71 ?_
    exact ux_vret C hr dX5_readToken_245 h (Nat.le_of_ble_eq_true rfl) (Nat.le_of_ble_eq_true rfl)
set_option maxRecDepth 100000 in
set_option maxHeartbeats 4000000 in
theorem kX5_refuse {l : Launch} {V : uV} (W0 : uWC l V) {p1 : Int32} {st : uSt} {s9 : uSt} (h : fX5_refuse p1 st = some ((), s9)) : uMet l V yX5_refuse cX5_refuse 2 none 0 0 0 0 [.ref (vA V 1), .int p1] st none s9 := by
  refine ux_met W0.1 W0.2.1 (by decide) rfl (Nat.le_of_ble_eq_true rfl) (fun M hL hr C => ?_)
  subst hL
  have C : uCx M V cX5_refuse 2 RX5 0 0 0 0 := C
  unfold fX5_refuse at h
  refine ux_aload_n C dX5_refuse_0 0 rfl ?_
  refine ux_get C fl_X5_19 dX5_refuse_1 (oST W0) rfl ?_
  obtain ⟨j_1, hK_1, h⟩ := oj1_some h
  have hJ_1 : ∀ (st_2 : uSt), j_1 st_2 = some ((), s9) → uW M V (uEnd M V 0 0 none s9) 2 0 0 20 [(0, .ref (vA V 1))] [] st_2 := by
    intro st_2 h
    replace h := hK_1 st_2 h
    refine ux_aload_n C dX5_refuse_20 0 rfl ?_
    refine ux_iconst (v := 4) C dX5_refuse_21 (by decide) ?_
    refine ux_puti C fp_X5_25 dX5_refuse_22 (oST W0) (Nat.le_of_ble_eq_true rfl) rfl h (fun st_3 h => ?_)
    exact ux_vret C hr dX5_refuse_25 h (Nat.le_of_ble_eq_true rfl) (Nat.le_of_ble_eq_true rfl)
  refine ux_if_ne C dX5_refuse_4 h (fun h => ?_) (fun h => ?_)
  · refine ux_aload_n C dX5_refuse_7 0 rfl ?_
    refine ux_iload_n C dX5_refuse_8 1 rfl ?_
    refine ux_puti C fp_X5_19 dX5_refuse_9 (oST W0) (Nat.le_of_ble_eq_true rfl) rfl h (fun st_4 h => ?_)
    refine ux_aload_n C dX5_refuse_12 0 rfl ?_
    refine ux_aload_n C dX5_refuse_13 0 rfl ?_
    refine ux_get C fl_X5_28 dX5_refuse_14 (oST W0) rfl ?_
    refine ux_puti C fp_X5_22 dX5_refuse_17 (oST W0) (Nat.le_of_ble_eq_true rfl) rfl h (fun st_5 h => ?_)
    refine ux_sub [0] rfl ?_
    exact hJ_1 st_5 h
  · refine ux_sub [0] rfl ?_
    exact hJ_1 st h
set_option maxRecDepth 100000 in
set_option maxHeartbeats 4000000 in
theorem wX5_isWord_28 {M : uM} {V : uV} (W0 : uWC (mL M) V) (C : uCx M V cX5_isWord 3 RX5 4 85 0 0) (hr : (mT M).sig.returnType = (some .boolean)) {w : Nat} (hw : w < 16) {st : uSt} {r : Int32} {ke : Option Int32} (K : ke = some r → uW M V (uEnd M V 0 0 (some (.int r)) st) 3 0 0 76 [] [] st) : ∀ (n : Nat) (l2 : Int32), fX5_isWord_28 w st ke n l2 = some r → uW M V (uEnd M V 0 0 (some (.int r)) st) 3 0 0 28 [(0, .ref (vA V 1)), (1, .ref (vK V w)), (2, .int l2)] [] st := by
  intro n
  induction n with
  | zero =>
    intro l2 h
    rw [fX5_isWord_28] at h
    cases h
  | succ n ih =>
    intro l2 h
    rw [fX5_isWord_28] at h
    refine ux_iload_n C dX5_isWord_28 2 rfl ?_
    refine ux_aload_n C dX5_isWord_29 1 rfl ?_
    obtain ⟨x_3, h1, h⟩ := ob_some h
    refine ux_callTi C cv_X5_154 dX5_isWord_30 hw (kJ0_length_8abf5 ⟨W0.1, W0.2.1⟩ hw h1) rfl (Nat.le_of_ble_eq_true rfl) ⟨(Nat.le_of_ble_eq_true rfl), (Nat.le_of_ble_eq_true rfl)⟩ ⟨(Nat.le_of_ble_eq_true rfl), (Nat.le_of_ble_eq_true rfl)⟩ ?_ rfl
    refine ux_icmp_ge C dX5_isWord_33 h (fun h => ?_) (fun h => ?_)
    · refine ux_sub [] rfl ?_
      exact K  h
    · refine ux_aload_n C dX5_isWord_36 0 rfl ?_
      refine ux_get C fl_X5_28 dX5_isWord_37 (oST W0) rfl ?_
      refine ux_iload_n C dX5_isWord_40 2 rfl ?_
      refine ux_iadd C dX5_isWord_41 ?_
      refine ux_aload_n C dX5_isWord_42 0 rfl ?_
      refine ux_get C fl_X5_15 dX5_isWord_43 (oST W0) rfl ?_
      refine ux_icmp_ge C dX5_isWord_46 h (fun h => ?_) (fun h => ?_)
      · refine ux_sub [] rfl ?_
        exact K  h
      · refine ux_aload_n C dX5_isWord_49 0 rfl ?_
        refine ux_get C fl_X5_9 dX5_isWord_50 (oST W0) rfl ?_
        refine ux_aload_n C dX5_isWord_53 0 rfl ?_
        refine ux_get C fl_X5_28 dX5_isWord_54 (oST W0) rfl ?_
        refine ux_iload_n C dX5_isWord_57 2 rfl ?_
        refine ux_iadd C dX5_isWord_58 ?_
        refine ux_bald C (aBytes W0) dX5_isWord_59 h (fun h => ?_)
        refine ux_aload_n C dX5_isWord_60 1 rfl ?_
        refine ux_iload_n C dX5_isWord_61 2 rfl ?_
        obtain ⟨x_4, h1, h⟩ := ob_some h
        refine ux_callTi C cv_X5_158 dX5_isWord_62 hw (kJ0_charAt_5068e ⟨W0.1, W0.2.1⟩ hw h1) rfl (Nat.le_of_ble_eq_true rfl) ⟨(Nat.le_of_ble_eq_true rfl), (Nat.le_of_ble_eq_true rfl)⟩ ⟨(Nat.le_of_ble_eq_true rfl), (Nat.le_of_ble_eq_true rfl)⟩ ?_ rfl
        refine ux_icmp_eq C dX5_isWord_65 h (fun h => ?_) (fun h => ?_)
        · refine ux_iincK C dX5_isWord_70 (by decide) 2 rfl (fun z => [(2, .int z), (0, .ref (vA V 1)), (1, .ref (vK V w))]) (fun _ => rfl) (by decide) h (fun l2_5 h => ?_)
          refine ux_goto C dX5_isWord_73 ?_
          refine ux_sub [1, 2, 0] rfl ?_
          exact ih _ h
        · refine ux_iconst (v := 0) C dX5_isWord_68 (by decide) ?_
          exact ux_zretK C hr dX5_isWord_69 (by decide) h (Nat.le_of_ble_eq_true rfl) (Nat.le_of_ble_eq_true rfl)
set_option maxRecDepth 100000 in
set_option maxHeartbeats 4000000 in
theorem kX5_isWord {l : Launch} {V : uV} (W0 : uWC l V) {w : Nat} (hw : w < 16) {st : uSt} {r : Int32} (h : fX5_isWord w st = some r) : uMet l V yX5_isWord cX5_isWord 3 (some .boolean) 4 85 0 0 [.ref (vA V 1), .ref (vK V w)] st (some (.int r)) st := by
  refine ux_met W0.1 W0.2.1 (by decide) rfl (Nat.le_of_ble_eq_true rfl) (fun M hL hr C => ?_)
  subst hL
  have C : uCx M V cX5_isWord 3 RX5 4 85 0 0 := C
  unfold fX5_isWord at h
  refine ux_aload_n C dX5_isWord_0 0 rfl ?_
  refine ux_get C fl_X5_25 dX5_isWord_1 (oST W0) rfl ?_
  refine ux_iconst (v := 1) C dX5_isWord_4 (by decide) ?_
  refine ux_icmp_ne C dX5_isWord_5 h (fun h => ?_) (fun h => ?_)
  · refine ux_aload_n C dX5_isWord_8 0 rfl ?_
    refine ux_get C fl_X5_31 dX5_isWord_9 (oST W0) rfl ?_
    refine ux_aload_n C dX5_isWord_12 0 rfl ?_
    refine ux_get C fl_X5_28 dX5_isWord_13 (oST W0) rfl ?_
    refine ux_isub C dX5_isWord_16 ?_
    refine ux_aload_n C dX5_isWord_17 1 rfl ?_
    obtain ⟨x_1, h1, h⟩ := ob_some h
    refine ux_callTi C cv_X5_154 dX5_isWord_18 hw (kJ0_length_8abf5 ⟨W0.1, W0.2.1⟩ hw h1) rfl (Nat.le_of_ble_eq_true rfl) ⟨(Nat.le_of_ble_eq_true rfl), (Nat.le_of_ble_eq_true rfl)⟩ ⟨(Nat.le_of_ble_eq_true rfl), (Nat.le_of_ble_eq_true rfl)⟩ ?_ rfl
    refine ux_icmp_eq C dX5_isWord_21 h (fun h => ?_) (fun h => ?_)
    · refine ux_iconst (v := 0) C dX5_isWord_26 (by decide) ?_
      refine ux_istoreK_n C dX5_isWord_27 rfl (by decide) ?_
      refine ux_sub [1, 2, 0] rfl ?_
      refine wX5_isWord_28 W0 C hr hw (fun h => ?_) _ _ h
      refine ux_iconst (v := 1) C dX5_isWord_76 (by decide) ?_
      exact ux_zretK C hr dX5_isWord_77 (by decide) h (Nat.le_of_ble_eq_true rfl) (Nat.le_of_ble_eq_true rfl)
    · refine ux_iconst (v := 0) C dX5_isWord_24 (by decide) ?_
      exact ux_zretK C hr dX5_isWord_25 (by decide) h (Nat.le_of_ble_eq_true rfl) (Nat.le_of_ble_eq_true rfl)
  · refine ux_iconst (v := 0) C dX5_isWord_24 (by decide) ?_
    exact ux_zretK C hr dX5_isWord_25 (by decide) h (Nat.le_of_ble_eq_true rfl) (Nat.le_of_ble_eq_true rfl)
set_option maxRecDepth 100000 in
set_option maxHeartbeats 4000000 in
theorem kX5_takeWord {l : Launch} {V : uV} (W0 : uWC l V) {w : Nat} (hw : w < 16) {st : uSt} {s9 : uSt} (h : fX5_takeWord w st = some ((), s9)) : uMet l V yX5_takeWord cX5_takeWord 2 none 5 107 0 0 [.ref (vA V 1), .ref (vK V w)] st none s9 := by
  refine ux_met W0.1 W0.2.1 (by decide) rfl (Nat.le_of_ble_eq_true rfl) (fun M hL hr C => ?_)
  subst hL
  have C : uCx M V cX5_takeWord 2 RX5 5 107 0 0 := C
  unfold fX5_takeWord at h
  refine ux_aload_n C dX5_takeWord_0 0 rfl ?_
  refine ux_aload_n C dX5_takeWord_1 1 rfl ?_
  obtain ⟨x_1, h1, h⟩ := ob_some h
  refine ux_callVi C cv_X5_116 dX5_takeWord_2 (oST W0) rfl (kX5_isWord W0 hw h1) rfl (Nat.le_of_ble_eq_true rfl) ⟨(Nat.le_of_ble_eq_true rfl), (Nat.le_of_ble_eq_true rfl)⟩ ⟨(Nat.le_of_ble_eq_true rfl), (Nat.le_of_ble_eq_true rfl)⟩ ?_ rfl
  refine ux_if_eq C dX5_takeWord_5 h (fun h => ?_) (fun h => ?_)
  · refine ux_aload_n C dX5_takeWord_15 0 rfl ?_
    refine ux_iconst (v := 1) C dX5_takeWord_16 (by decide) ?_
    obtain ⟨st_2, h1, h⟩ := obV_some h
    refine ux_callVv C cv_X5_73 dX5_takeWord_17 (oST W0) rfl (kX5_refuse W0 h1) rfl (Nat.le_of_ble_eq_true rfl) ⟨(Nat.le_of_ble_eq_true rfl), (Nat.le_of_ble_eq_true rfl)⟩ ⟨(Nat.le_of_ble_eq_true rfl), (Nat.le_of_ble_eq_true rfl)⟩ ?_ rfl
    exact ux_vret C hr dX5_takeWord_20 h (Nat.le_of_ble_eq_true rfl) (Nat.le_of_ble_eq_true rfl)
  · refine ux_aload_n C dX5_takeWord_8 0 rfl ?_
    obtain ⟨st_3, h1, h⟩ := obV_some h
    refine ux_callVv C cv_X5_54 dX5_takeWord_9 (oST W0) rfl (kX5_readToken W0 h1) rfl (Nat.le_of_ble_eq_true rfl) ⟨(Nat.le_of_ble_eq_true rfl), (Nat.le_of_ble_eq_true rfl)⟩ ⟨(Nat.le_of_ble_eq_true rfl), (Nat.le_of_ble_eq_true rfl)⟩ ?_ rfl
    refine ux_goto C dX5_takeWord_12 ?_
    exact ux_vret C hr dX5_takeWord_20 h (Nat.le_of_ble_eq_true rfl) (Nat.le_of_ble_eq_true rfl)
set_option maxRecDepth 100000 in
set_option maxHeartbeats 4000000 in
theorem kX5_takeSemicolon {l : Launch} {V : uV} (W0 : uWC l V) {st : uSt} {s9 : uSt} (h : fX5_takeSemicolon st = some ((), s9)) : uMet l V yX5_takeSemicolon cX5_takeSemicolon 1 none 2 40 0 0 [.ref (vA V 1)] st none s9 := by
  refine ux_met W0.1 W0.2.1 (by decide) rfl (Nat.le_of_ble_eq_true rfl) (fun M hL hr C => ?_)
  subst hL
  have C : uCx M V cX5_takeSemicolon 1 RX5 2 40 0 0 := C
  unfold fX5_takeSemicolon at h
  refine ux_aload_n C dX5_takeSemicolon_0 0 rfl ?_
  refine ux_get C fl_X5_25 dX5_takeSemicolon_1 (oST W0) rfl ?_
  refine ux_iconst (v := 3) C dX5_takeSemicolon_4 (by decide) ?_
  refine ux_icmp_ne C dX5_takeSemicolon_5 h (fun h => ?_) (fun h => ?_)
  · refine ux_aload_n C dX5_takeSemicolon_8 0 rfl ?_
    obtain ⟨st_1, h1, h⟩ := obV_some h
    refine ux_callVv C cv_X5_54 dX5_takeSemicolon_9 (oST W0) rfl (kX5_readToken W0 h1) rfl (Nat.le_of_ble_eq_true rfl) ⟨(Nat.le_of_ble_eq_true rfl), (Nat.le_of_ble_eq_true rfl)⟩ ⟨(Nat.le_of_ble_eq_true rfl), (Nat.le_of_ble_eq_true rfl)⟩ ?_ rfl
    refine ux_goto C dX5_takeSemicolon_12 ?_
    exact ux_vret C hr dX5_takeSemicolon_20 h (Nat.le_of_ble_eq_true rfl) (Nat.le_of_ble_eq_true rfl)
  · refine ux_aload_n C dX5_takeSemicolon_15 0 rfl ?_
    refine ux_iconst (v := 1) C dX5_takeSemicolon_16 (by decide) ?_
    obtain ⟨st_2, h1, h⟩ := obV_some h
    refine ux_callVv C cv_X5_73 dX5_takeSemicolon_17 (oST W0) rfl (kX5_refuse W0 h1) rfl (Nat.le_of_ble_eq_true rfl) ⟨(Nat.le_of_ble_eq_true rfl), (Nat.le_of_ble_eq_true rfl)⟩ ⟨(Nat.le_of_ble_eq_true rfl), (Nat.le_of_ble_eq_true rfl)⟩ ?_ rfl
    exact ux_vret C hr dX5_takeSemicolon_20 h (Nat.le_of_ble_eq_true rfl) (Nat.le_of_ble_eq_true rfl)
set_option maxRecDepth 100000 in
set_option maxHeartbeats 4000000 in
theorem wX5_takeNumber_23 {M : uM} {V : uV} (W0 : uWC (mL M) V) (C : uCx M V cX5_takeNumber 5 RX5 2 40 0 0) (hr : (mT M).sig.returnType = (some .int)) {l1 : Int32} {l2 : Int32} {st : uSt} {r : Int32} {s9 : uSt} {ke : Int32 → Option (Int32 × uSt)} (K : ∀ (l3 : Int32), ke l3 = some (r, s9) → uW M V (uEnd M V 0 0 (some (.int r)) s9) 5 0 0 63 [(0, .ref (vA V 1)), (1, .int l1), (2, .int l2), (3, .int l3)] [] st) : ∀ (n : Nat) (l3 : Int32) (l4 : Int32), fX5_takeNumber_23 l1 l2 st ke n l3 l4 = some (r, s9) → uW M V (uEnd M V 0 0 (some (.int r)) s9) 5 0 0 23 [(0, .ref (vA V 1)), (1, .int l1), (2, .int l2), (3, .int l3), (4, .int l4)] [] st := by
  intro n
  induction n with
  | zero =>
    intro l3 l4 h
    rw [fX5_takeNumber_23] at h
    cases h
  | succ n ih =>
    intro l3 l4 h
    rw [fX5_takeNumber_23] at h
    refine ux_iload C dX5_takeNumber_23 4 rfl ?_
    refine ux_aload_n C dX5_takeNumber_25 0 rfl ?_
    refine ux_get C fl_X5_31 dX5_takeNumber_26 (oST W0) rfl ?_
    refine ux_icmp_ge C dX5_takeNumber_29 h (fun h => ?_) (fun h => ?_)
    · refine ux_sub [0, 1, 2, 3] rfl ?_
      exact K l3 h
    · refine ux_iload C dX5_takeNumber_32 4 rfl ?_
      refine ux_aload_n C dX5_takeNumber_34 0 rfl ?_
      refine ux_get C fl_X5_15 dX5_takeNumber_35 (oST W0) rfl ?_
      refine ux_icmp_ge C dX5_takeNumber_38 h (fun h => ?_) (fun h => ?_)
      · refine ux_sub [0, 1, 2, 3] rfl ?_
        exact K l3 h
      · refine ux_iload_n C dX5_takeNumber_41 3 rfl ?_
        refine ux_bipush (v := 10) C dX5_takeNumber_42 (by decide) ?_
        refine ux_imul C dX5_takeNumber_44 ?_
        refine ux_aload_n C dX5_takeNumber_45 0 rfl ?_
        refine ux_get C fl_X5_9 dX5_takeNumber_46 (oST W0) rfl ?_
        refine ux_iload C dX5_takeNumber_49 4 rfl ?_
        refine ux_bald C (aBytes W0) dX5_takeNumber_51 h (fun h => ?_)
        refine ux_iadd C dX5_takeNumber_52 ?_
        refine ux_bipush (v := 48) C dX5_takeNumber_53 (by decide) ?_
        refine ux_isub C dX5_takeNumber_55 ?_
        refine ux_istore_n C dX5_takeNumber_56 (fun z => [(3, .int z), (0, .ref (vA V 1)), (1, .int l1), (2, .int l2), (4, .int l4)]) (fun _ => rfl) (by decide) h (fun l3_3 h => ?_)
        refine ux_iincK C dX5_takeNumber_57 (by decide) 4 rfl (fun z => [(4, .int z), (3, .int l3_3), (0, .ref (vA V 1)), (1, .int l1), (2, .int l2)]) (fun _ => rfl) (by decide) h (fun l4_4 h => ?_)
        refine ux_goto C dX5_takeNumber_60 ?_
        refine ux_sub [2, 3, 4, 1, 0] rfl ?_
        exact ih _ _ h
set_option maxRecDepth 100000 in
set_option maxHeartbeats 4000000 in
theorem kX5_takeNumber {l : Launch} {V : uV} (W0 : uWC l V) {p1 : Int32} {p2 : Int32} {st : uSt} {r : Int32} {s9 : uSt} (h : fX5_takeNumber p1 p2 st = some (r, s9)) : uMet l V yX5_takeNumber cX5_takeNumber 5 (some .int) 2 40 0 0 [.ref (vA V 1), .int p1, .int p2] st (some (.int r)) s9 := by
  refine ux_met W0.1 W0.2.1 (by decide) rfl (Nat.le_of_ble_eq_true rfl) (fun M hL hr C => ?_)
  subst hL
  have C : uCx M V cX5_takeNumber 5 RX5 2 40 0 0 := C
  unfold fX5_takeNumber at h
  refine ux_aload_n C dX5_takeNumber_0 0 rfl ?_
  refine ux_get C fl_X5_25 dX5_takeNumber_1 (oST W0) rfl ?_
  refine ux_iconst (v := 2) C dX5_takeNumber_4 (by decide) ?_
  refine ux_icmp_eq C dX5_takeNumber_5 h (fun h => ?_) (fun h => ?_)
  · refine ux_iconst (v := 0) C dX5_takeNumber_15 (by decide) ?_
    refine ux_istoreK_n C dX5_takeNumber_16 rfl (by decide) ?_
    refine ux_aload_n C dX5_takeNumber_17 1 rfl ?_
    refine ux_get C fl_X5_28 dX5_takeNumber_18 (oST W0) rfl ?_
    refine ux_istore C dX5_takeNumber_21 (fun z => [(4, .int z), (3, .int (0 : Int32)), (0, .ref (vA V 1)), (1, .int p1), (2, .int p2)]) (fun _ => rfl) (by decide) h (fun l4_2 h => ?_)
    refine ux_sub [2, 3, 4, 1, 0] rfl ?_
    refine wX5_takeNumber_23 W0 C hr (fun l3_5 h => ?_) _ _ _ h
    refine ux_iload_n C dX5_takeNumber_63 3 rfl ?_
    refine ux_iload_n C dX5_takeNumber_64 1 rfl ?_
    obtain ⟨j_6, hK_6, h⟩ := oj0_some h
    have hJ_6 : j_6 = some (r, s9) → uW M V (uEnd M V 0 0 (some (.int r)) s9) 5 0 0 73 [(0, .ref (vA V 1)), (1, .int p1)] [] st := by
      intro h
      replace h := hK_6 h
      refine ux_aload_n C dX5_takeNumber_73 0 rfl ?_
      refine ux_iconst (v := 2) C dX5_takeNumber_74 (by decide) ?_
      obtain ⟨st_7, h1, h⟩ := obV_some h
      refine ux_callVv C cv_X5_73 dX5_takeNumber_75 (oST W0) rfl (kX5_refuse W0 h1) rfl (Nat.le_of_ble_eq_true rfl) ⟨(Nat.le_of_ble_eq_true rfl), (Nat.le_of_ble_eq_true rfl)⟩ ⟨(Nat.le_of_ble_eq_true rfl), (Nat.le_of_ble_eq_true rfl)⟩ ?_ rfl
      refine ux_iload_n C dX5_takeNumber_78 1 rfl ?_
      exact ux_iretS C hr dX5_takeNumber_79 h (Nat.le_of_ble_eq_true rfl) (Nat.le_of_ble_eq_true rfl)
    refine ux_icmp_lt C dX5_takeNumber_65 h (fun h => ?_) (fun h => ?_)
    · refine ux_sub [0, 1] rfl ?_
      exact hJ_6 h
    · refine ux_iload_n C dX5_takeNumber_68 3 rfl ?_
      refine ux_iload_n C dX5_takeNumber_69 2 rfl ?_
      refine ux_icmp_le C dX5_takeNumber_70 h (fun h => ?_) (fun h => ?_)
      · refine ux_aload_n C dX5_takeNumber_80 0 rfl ?_
        obtain ⟨st_8, h1, h⟩ := obV_some h
        refine ux_callVv C cv_X5_54 dX5_takeNumber_81 (oST W0) rfl (kX5_readToken W0 h1) rfl (Nat.le_of_ble_eq_true rfl) ⟨(Nat.le_of_ble_eq_true rfl), (Nat.le_of_ble_eq_true rfl)⟩ ⟨(Nat.le_of_ble_eq_true rfl), (Nat.le_of_ble_eq_true rfl)⟩ ?_ rfl
        refine ux_iload_n C dX5_takeNumber_84 3 rfl ?_
        exact ux_iretS C hr dX5_takeNumber_85 h (Nat.le_of_ble_eq_true rfl) (Nat.le_of_ble_eq_true rfl)
      · refine ux_sub [0, 1] rfl ?_
        exact hJ_6 h
  · refine ux_aload_n C dX5_takeNumber_8 0 rfl ?_
    refine ux_iconst (v := 1) C dX5_takeNumber_9 (by decide) ?_
    obtain ⟨st_9, h1, h⟩ := obV_some h
    refine ux_callVv C cv_X5_73 dX5_takeNumber_10 (oST W0) rfl (kX5_refuse W0 h1) rfl (Nat.le_of_ble_eq_true rfl) ⟨(Nat.le_of_ble_eq_true rfl), (Nat.le_of_ble_eq_true rfl)⟩ ⟨(Nat.le_of_ble_eq_true rfl), (Nat.le_of_ble_eq_true rfl)⟩ ?_ rfl
    refine ux_iload_n C dX5_takeNumber_13 1 rfl ?_
    exact ux_iretS C hr dX5_takeNumber_14 h (Nat.le_of_ble_eq_true rfl) (Nat.le_of_ble_eq_true rfl)
set_option maxRecDepth 100000 in
set_option maxHeartbeats 4000000 in
theorem kX5_readBattery {l : Launch} {V : uV} (W0 : uWC l V) {b : Nat} (hb : kBat b) {st : uSt} {s9 : uSt} (h : fX5_readBattery b st = some ((), s9)) : uMet l V yX5_readBattery cX5_readBattery 2 none 6 128 0 0 [.ref (vA V 1), .ref (vA V b)] st none s9 := by
  refine ux_met W0.1 W0.2.1 (by decide) rfl (Nat.le_of_ble_eq_true rfl) (fun M hL hr C => ?_)
  subst hL
  have C : uCx M V cX5_readBattery 2 RX5 6 128 0 0 := C
  unfold fX5_readBattery at h
  refine ux_aload_n C dX5_readBattery_0 0 rfl ?_
  refine ux_ldcS (i := 0) C rfl dX5_readBattery_1 ?_
  obtain ⟨st_1, h1, h⟩ := obV_some h
  refine ux_callVv C cv_X5_78 dX5_readBattery_3 (oST W0) rfl (kX5_takeWord W0 (by decide) h1) rfl (Nat.le_of_ble_eq_true rfl) ⟨(Nat.le_of_ble_eq_true rfl), (Nat.le_of_ble_eq_true rfl)⟩ ⟨(Nat.le_of_ble_eq_true rfl), (Nat.le_of_ble_eq_true rfl)⟩ ?_ rfl
  refine ux_aload_n C dX5_readBattery_6 1 rfl ?_
  refine ux_aload_n C dX5_readBattery_7 0 rfl ?_
  refine ux_iconst (v := 1) C dX5_readBattery_8 (by decide) ?_
  refine ux_sipush (v := 500) C dX5_readBattery_9 (by decide) ?_
  obtain ⟨x_3, st_2, h1, h⟩ := obS_some h
  refine ux_callVi C cv_X5_82 dX5_readBattery_12 (oST W0) rfl (kX5_takeNumber W0 h1) rfl (Nat.le_of_ble_eq_true rfl) ⟨(Nat.le_of_ble_eq_true rfl), (Nat.le_of_ble_eq_true rfl)⟩ ⟨(Nat.le_of_ble_eq_true rfl), (Nat.le_of_ble_eq_true rfl)⟩ ?_ rfl
  refine ux_puti C fp_X5_86 dX5_readBattery_15 (oBat W0 hb) (Nat.le_of_ble_eq_true rfl) rfl h (fun st_4 h => ?_)
  refine ux_aload_n C dX5_readBattery_18 1 rfl ?_
  refine ux_aload_n C dX5_readBattery_19 0 rfl ?_
  refine ux_iconst (v := 0) C dX5_readBattery_20 (by decide) ?_
  refine ux_aload_n C dX5_readBattery_21 1 rfl ?_
  refine ux_get C fl_X5_86 dX5_readBattery_22 (oBat W0 hb) rfl ?_
  obtain ⟨x_6, st_5, h1, h⟩ := obS_some h
  refine ux_callVi C cv_X5_82 dX5_readBattery_25 (oST W0) rfl (kX5_takeNumber W0 h1) rfl (Nat.le_of_ble_eq_true rfl) ⟨(Nat.le_of_ble_eq_true rfl), (Nat.le_of_ble_eq_true rfl)⟩ ⟨(Nat.le_of_ble_eq_true rfl), (Nat.le_of_ble_eq_true rfl)⟩ ?_ rfl
  refine ux_puti C fp_X5_91 dX5_readBattery_28 (oBat W0 hb) (Nat.le_of_ble_eq_true rfl) rfl h (fun st_7 h => ?_)
  refine ux_aload_n C dX5_readBattery_31 1 rfl ?_
  refine ux_aload_n C dX5_readBattery_32 0 rfl ?_
  refine ux_iconst (v := 0) C dX5_readBattery_33 (by decide) ?_
  refine ux_bipush (v := 50) C dX5_readBattery_34 (by decide) ?_
  obtain ⟨x_9, st_8, h1, h⟩ := obS_some h
  refine ux_callVi C cv_X5_82 dX5_readBattery_36 (oST W0) rfl (kX5_takeNumber W0 h1) rfl (Nat.le_of_ble_eq_true rfl) ⟨(Nat.le_of_ble_eq_true rfl), (Nat.le_of_ble_eq_true rfl)⟩ ⟨(Nat.le_of_ble_eq_true rfl), (Nat.le_of_ble_eq_true rfl)⟩ ?_ rfl
  refine ux_puti C fp_X5_94 dX5_readBattery_39 (oBat W0 hb) (Nat.le_of_ble_eq_true rfl) rfl h (fun st_10 h => ?_)
  refine ux_aload_n C dX5_readBattery_42 1 rfl ?_
  refine ux_aload_n C dX5_readBattery_43 0 rfl ?_
  refine ux_iconst (v := 1) C dX5_readBattery_44 (by decide) ?_
  refine ux_bipush (v := 50) C dX5_readBattery_45 (by decide) ?_
  obtain ⟨x_12, st_11, h1, h⟩ := obS_some h
  refine ux_callVi C cv_X5_82 dX5_readBattery_47 (oST W0) rfl (kX5_takeNumber W0 h1) rfl (Nat.le_of_ble_eq_true rfl) ⟨(Nat.le_of_ble_eq_true rfl), (Nat.le_of_ble_eq_true rfl)⟩ ⟨(Nat.le_of_ble_eq_true rfl), (Nat.le_of_ble_eq_true rfl)⟩ ?_ rfl
  refine ux_puti C fp_X5_97 dX5_readBattery_50 (oBat W0 hb) (Nat.le_of_ble_eq_true rfl) rfl h (fun st_13 h => ?_)
  refine ux_aload_n C dX5_readBattery_53 1 rfl ?_
  refine ux_aload_n C dX5_readBattery_54 0 rfl ?_
  refine ux_iconst (v := 1) C dX5_readBattery_55 (by decide) ?_
  refine ux_sipush (v := 1000) C dX5_readBattery_56 (by decide) ?_
  obtain ⟨x_15, st_14, h1, h⟩ := obS_some h
  refine ux_callVi C cv_X5_82 dX5_readBattery_59 (oST W0) rfl (kX5_takeNumber W0 h1) rfl (Nat.le_of_ble_eq_true rfl) ⟨(Nat.le_of_ble_eq_true rfl), (Nat.le_of_ble_eq_true rfl)⟩ ⟨(Nat.le_of_ble_eq_true rfl), (Nat.le_of_ble_eq_true rfl)⟩ ?_ rfl
  refine ux_puti C fp_X5_100 dX5_readBattery_62 (oBat W0 hb) (Nat.le_of_ble_eq_true rfl) rfl h (fun st_16 h => ?_)
  refine ux_aload_n C dX5_readBattery_65 0 rfl ?_
  obtain ⟨st_17, h1, h⟩ := obV_some h
  refine ux_callVv C cv_X5_103 dX5_readBattery_66 (oST W0) rfl (kX5_takeSemicolon W0 h1) rfl (Nat.le_of_ble_eq_true rfl) ⟨(Nat.le_of_ble_eq_true rfl), (Nat.le_of_ble_eq_true rfl)⟩ ⟨(Nat.le_of_ble_eq_true rfl), (Nat.le_of_ble_eq_true rfl)⟩ ?_ rfl
  exact ux_vret C hr dX5_readBattery_69 h (Nat.le_of_ble_eq_true rfl) (Nat.le_of_ble_eq_true rfl)
set_option maxRecDepth 100000 in
set_option maxHeartbeats 4000000 in
theorem kX5_readMode {l : Launch} {V : uV} (W0 : uWC l V) {q : Nat} (hq : kRules q) {st : uSt} {s9 : uSt} (h : fX5_readMode q st = some ((), s9)) : uMet l V yX5_readMode cX5_readMode 2 none 6 128 0 0 [.ref (vA V 1), .ref (vA V q)] st none s9 := by
  refine ux_met W0.1 W0.2.1 (by decide) rfl (Nat.le_of_ble_eq_true rfl) (fun M hL hr C => ?_)
  subst hL
  have C : uCx M V cX5_readMode 2 RX5 6 128 0 0 := C
  unfold fX5_readMode at h
  refine ux_aload_n C dX5_readMode_0 0 rfl ?_
  refine ux_ldcS (i := 5) C rfl dX5_readMode_1 ?_
  obtain ⟨x_1, h1, h⟩ := ob_some h
  refine ux_callVi C cv_X5_116 dX5_readMode_3 (oST W0) rfl (kX5_isWord W0 (by decide) h1) rfl (Nat.le_of_ble_eq_true rfl) ⟨(Nat.le_of_ble_eq_true rfl), (Nat.le_of_ble_eq_true rfl)⟩ ⟨(Nat.le_of_ble_eq_true rfl), (Nat.le_of_ble_eq_true rfl)⟩ ?_ rfl
  refine ux_if_eq C dX5_readMode_6 h (fun h => ?_) (fun h => ?_)
  · refine ux_aload_n C dX5_readMode_32 0 rfl ?_
    refine ux_ldcS (i := 6) C rfl dX5_readMode_33 ?_
    obtain ⟨x_2, h1, h⟩ := ob_some h
    refine ux_callVi C cv_X5_116 dX5_readMode_35 (oST W0) rfl (kX5_isWord W0 (by decide) h1) rfl (Nat.le_of_ble_eq_true rfl) ⟨(Nat.le_of_ble_eq_true rfl), (Nat.le_of_ble_eq_true rfl)⟩ ⟨(Nat.le_of_ble_eq_true rfl), (Nat.le_of_ble_eq_true rfl)⟩ ?_ rfl
    refine ux_if_eq C dX5_readMode_38 h (fun h => ?_) (fun h => ?_)
    · refine ux_aload_n C dX5_readMode_53 0 rfl ?_
      refine ux_ldcS (i := 7) C rfl dX5_readMode_54 ?_
      obtain ⟨st_3, h1, h⟩ := obV_some h
      refine ux_callVv C cv_X5_78 dX5_readMode_56 (oST W0) rfl (kX5_takeWord W0 (by decide) h1) rfl (Nat.le_of_ble_eq_true rfl) ⟨(Nat.le_of_ble_eq_true rfl), (Nat.le_of_ble_eq_true rfl)⟩ ⟨(Nat.le_of_ble_eq_true rfl), (Nat.le_of_ble_eq_true rfl)⟩ ?_ rfl
      refine ux_aload_n C dX5_readMode_59 1 rfl ?_
      refine ux_iconst (v := 0) C dX5_readMode_60 (by decide) ?_
      refine ux_puti C fp_X5_133 dX5_readMode_61 (oRules W0 hq) (Nat.le_of_ble_eq_true rfl) rfl h (fun st_4 h => ?_)
      exact ux_vret C hr dX5_readMode_64 h (Nat.le_of_ble_eq_true rfl) (Nat.le_of_ble_eq_true rfl)
    · refine ux_aload_n C dX5_readMode_41 0 rfl ?_
      obtain ⟨st_5, h1, h⟩ := obV_some h
      refine ux_callVv C cv_X5_54 dX5_readMode_42 (oST W0) rfl (kX5_readToken W0 h1) rfl (Nat.le_of_ble_eq_true rfl) ⟨(Nat.le_of_ble_eq_true rfl), (Nat.le_of_ble_eq_true rfl)⟩ ⟨(Nat.le_of_ble_eq_true rfl), (Nat.le_of_ble_eq_true rfl)⟩ ?_ rfl
      refine ux_aload_n C dX5_readMode_45 1 rfl ?_
      refine ux_iconst (v := 2) C dX5_readMode_46 (by decide) ?_
      refine ux_puti C fp_X5_133 dX5_readMode_47 (oRules W0 hq) (Nat.le_of_ble_eq_true rfl) rfl h (fun st_6 h => ?_)
      refine ux_goto C dX5_readMode_50 ?_
      exact ux_vret C hr dX5_readMode_64 h (Nat.le_of_ble_eq_true rfl) (Nat.le_of_ble_eq_true rfl)
  · refine ux_aload_n C dX5_readMode_9 0 rfl ?_
    obtain ⟨st_7, h1, h⟩ := obV_some h
    refine ux_callVv C cv_X5_54 dX5_readMode_10 (oST W0) rfl (kX5_readToken W0 h1) rfl (Nat.le_of_ble_eq_true rfl) ⟨(Nat.le_of_ble_eq_true rfl), (Nat.le_of_ble_eq_true rfl)⟩ ⟨(Nat.le_of_ble_eq_true rfl), (Nat.le_of_ble_eq_true rfl)⟩ ?_ rfl
    refine ux_aload_n C dX5_readMode_13 1 rfl ?_
    refine ux_iconst (v := 1) C dX5_readMode_14 (by decide) ?_
    refine ux_puti C fp_X5_133 dX5_readMode_15 (oRules W0 hq) (Nat.le_of_ble_eq_true rfl) rfl h (fun st_8 h => ?_)
    refine ux_aload_n C dX5_readMode_18 1 rfl ?_
    refine ux_aload_n C dX5_readMode_19 0 rfl ?_
    refine ux_iconst (v := 1) C dX5_readMode_20 (by decide) ?_
    refine ux_bipush (v := 99) C dX5_readMode_21 (by decide) ?_
    obtain ⟨x_10, st_9, h1, h⟩ := obS_some h
    refine ux_callVi C cv_X5_82 dX5_readMode_23 (oST W0) rfl (kX5_takeNumber W0 h1) rfl (Nat.le_of_ble_eq_true rfl) ⟨(Nat.le_of_ble_eq_true rfl), (Nat.le_of_ble_eq_true rfl)⟩ ⟨(Nat.le_of_ble_eq_true rfl), (Nat.le_of_ble_eq_true rfl)⟩ ?_ rfl
    refine ux_puti C fp_X5_135 dX5_readMode_26 (oRules W0 hq) (Nat.le_of_ble_eq_true rfl) rfl h (fun st_11 h => ?_)
    refine ux_goto C dX5_readMode_29 ?_
    exact ux_vret C hr dX5_readMode_64 h (Nat.le_of_ble_eq_true rfl) (Nat.le_of_ble_eq_true rfl)
set_option maxRecDepth 100000 in
set_option maxHeartbeats 4000000 in
theorem kX5_readSetting {l : Launch} {V : uV} (W0 : uWC l V) {q : Nat} (hq : kRules q) {p2 : Int32} {st : uSt} {s9 : uSt} (h : fX5_readSetting q p2 st = some ((), s9)) : uMet l V yX5_readSetting cX5_readSetting 3 none 7 149 0 0 [.ref (vA V 1), .ref (vA V q), .int p2] st none s9 := by
  refine ux_met W0.1 W0.2.1 (by decide) rfl (Nat.le_of_ble_eq_true rfl) (fun M hL hr C => ?_)
  subst hL
  have C : uCx M V cX5_readSetting 3 RX5 7 149 0 0 := C
  unfold fX5_readSetting at h
  refine ux_iload_n C dX5_readSetting_0 2 rfl ?_
  refine ux_iconst (v := 1) C dX5_readSetting_1 (by decide) ?_
  refine ux_icmp_ne C dX5_readSetting_2 h (fun h => ?_) (fun h => ?_)
  · refine ux_aload_n C dX5_readSetting_5 1 rfl ?_
    refine ux_aload_n C dX5_readSetting_6 0 rfl ?_
    refine ux_iconst (v := 0) C dX5_readSetting_7 (by decide) ?_
    refine ux_sipush (v := 200) C dX5_readSetting_8 (by decide) ?_
    obtain ⟨x_2, st_1, h1, h⟩ := obS_some h
    refine ux_callVi C cv_X5_82 dX5_readSetting_11 (oST W0) rfl (kX5_takeNumber W0 h1) rfl (Nat.le_of_ble_eq_true rfl) ⟨(Nat.le_of_ble_eq_true rfl), (Nat.le_of_ble_eq_true rfl)⟩ ⟨(Nat.le_of_ble_eq_true rfl), (Nat.le_of_ble_eq_true rfl)⟩ ?_ rfl
    refine ux_puti C fp_X5_124 dX5_readSetting_14 (oRules W0 hq) (Nat.le_of_ble_eq_true rfl) rfl h (fun st_3 h => ?_)
    refine ux_goto C dX5_readSetting_17 ?_
    exact ux_vret C hr dX5_readSetting_44 h (Nat.le_of_ble_eq_true rfl) (Nat.le_of_ble_eq_true rfl)
  · refine ux_iload_n C dX5_readSetting_20 2 rfl ?_
    refine ux_iconst (v := 2) C dX5_readSetting_21 (by decide) ?_
    refine ux_icmp_ne C dX5_readSetting_22 h (fun h => ?_) (fun h => ?_)
    · refine ux_aload_n C dX5_readSetting_25 1 rfl ?_
      refine ux_aload_n C dX5_readSetting_26 0 rfl ?_
      refine ux_iconst (v := 1) C dX5_readSetting_27 (by decide) ?_
      refine ux_bipush (v := 24) C dX5_readSetting_28 (by decide) ?_
      obtain ⟨x_5, st_4, h1, h⟩ := obS_some h
      refine ux_callVi C cv_X5_82 dX5_readSetting_30 (oST W0) rfl (kX5_takeNumber W0 h1) rfl (Nat.le_of_ble_eq_true rfl) ⟨(Nat.le_of_ble_eq_true rfl), (Nat.le_of_ble_eq_true rfl)⟩ ⟨(Nat.le_of_ble_eq_true rfl), (Nat.le_of_ble_eq_true rfl)⟩ ?_ rfl
      refine ux_puti C fp_X5_126 dX5_readSetting_33 (oRules W0 hq) (Nat.le_of_ble_eq_true rfl) rfl h (fun st_6 h => ?_)
      refine ux_goto C dX5_readSetting_36 ?_
      exact ux_vret C hr dX5_readSetting_44 h (Nat.le_of_ble_eq_true rfl) (Nat.le_of_ble_eq_true rfl)
    · refine ux_aload_n C dX5_readSetting_39 0 rfl ?_
      refine ux_aload_n C dX5_readSetting_40 1 rfl ?_
      obtain ⟨st_7, h1, h⟩ := obV_some h
      refine ux_callVv C cv_X5_128 dX5_readSetting_41 (oST W0) rfl (kX5_readMode W0 hq h1) rfl (Nat.le_of_ble_eq_true rfl) ⟨(Nat.le_of_ble_eq_true rfl), (Nat.le_of_ble_eq_true rfl)⟩ ⟨(Nat.le_of_ble_eq_true rfl), (Nat.le_of_ble_eq_true rfl)⟩ ?_ rfl
      exact ux_vret C hr dX5_readSetting_44 h (Nat.le_of_ble_eq_true rfl) (Nat.le_of_ble_eq_true rfl)
set_option maxRecDepth 100000 in
set_option maxHeartbeats 4000000 in
theorem kX5_settingAtToken {l : Launch} {V : uV} (W0 : uWC l V) {st : uSt} {r : Int32} (h : fX5_settingAtToken st = some r) : uMet l V yX5_settingAtToken cX5_settingAtToken 1 (some .int) 5 107 0 0 [.ref (vA V 1)] st (some (.int r)) st := by
  refine ux_met W0.1 W0.2.1 (by decide) rfl (Nat.le_of_ble_eq_true rfl) (fun M hL hr C => ?_)
  subst hL
  have C : uCx M V cX5_settingAtToken 1 RX5 5 107 0 0 := C
  unfold fX5_settingAtToken at h
  refine ux_aload_n C dX5_settingAtToken_0 0 rfl ?_
  refine ux_ldcS (i := 2) C rfl dX5_settingAtToken_1 ?_
  obtain ⟨x_1, h1, h⟩ := ob_some h
  refine ux_callVi C cv_X5_116 dX5_settingAtToken_3 (oST W0) rfl (kX5_isWord W0 (by decide) h1) rfl (Nat.le_of_ble_eq_true rfl) ⟨(Nat.le_of_ble_eq_true rfl), (Nat.le_of_ble_eq_true rfl)⟩ ⟨(Nat.le_of_ble_eq_true rfl), (Nat.le_of_ble_eq_true rfl)⟩ ?_ rfl
  refine ux_if_eq C dX5_settingAtToken_6 h (fun h => ?_) (fun h => ?_)
  · refine ux_aload_n C dX5_settingAtToken_11 0 rfl ?_
    refine ux_ldcS (i := 3) C rfl dX5_settingAtToken_12 ?_
    obtain ⟨x_2, h1, h⟩ := ob_some h
    refine ux_callVi C cv_X5_116 dX5_settingAtToken_14 (oST W0) rfl (kX5_isWord W0 (by decide) h1) rfl (Nat.le_of_ble_eq_true rfl) ⟨(Nat.le_of_ble_eq_true rfl), (Nat.le_of_ble_eq_true rfl)⟩ ⟨(Nat.le_of_ble_eq_true rfl), (Nat.le_of_ble_eq_true rfl)⟩ ?_ rfl
    refine ux_if_eq C dX5_settingAtToken_17 h (fun h => ?_) (fun h => ?_)
    · refine ux_aload_n C dX5_settingAtToken_22 0 rfl ?_
      refine ux_ldcS (i := 4) C rfl dX5_settingAtToken_23 ?_
      obtain ⟨x_3, h1, h⟩ := ob_some h
      refine ux_callVi C cv_X5_116 dX5_settingAtToken_25 (oST W0) rfl (kX5_isWord W0 (by decide) h1) rfl (Nat.le_of_ble_eq_true rfl) ⟨(Nat.le_of_ble_eq_true rfl), (Nat.le_of_ble_eq_true rfl)⟩ ⟨(Nat.le_of_ble_eq_true rfl), (Nat.le_of_ble_eq_true rfl)⟩ ?_ rfl
      refine ux_if_eq C dX5_settingAtToken_28 h (fun h => ?_) (fun h => ?_)
      · refine ux_iconst (v := 0) C dX5_settingAtToken_35 (by decide) ?_
        exact ux_iret C hr dX5_settingAtToken_36 h (Nat.le_of_ble_eq_true rfl) (Nat.le_of_ble_eq_true rfl)
      · refine ux_iconst (v := 4) C dX5_settingAtToken_31 (by decide) ?_
        refine ux_goto C dX5_settingAtToken_32 ?_
        exact ux_iret C hr dX5_settingAtToken_36 h (Nat.le_of_ble_eq_true rfl) (Nat.le_of_ble_eq_true rfl)
    · refine ux_iconst (v := 2) C dX5_settingAtToken_20 (by decide) ?_
      exact ux_iret C hr dX5_settingAtToken_21 h (Nat.le_of_ble_eq_true rfl) (Nat.le_of_ble_eq_true rfl)
  · refine ux_iconst (v := 1) C dX5_settingAtToken_9 (by decide) ?_
    exact ux_iret C hr dX5_settingAtToken_10 h (Nat.le_of_ble_eq_true rfl) (Nat.le_of_ble_eq_true rfl)
set_option maxRecDepth 100000 in
set_option maxHeartbeats 4000000 in
theorem wX5_readSettings_4 {M : uM} {V : uV} (W0 : uWC (mL M) V) (C : uCx M V cX5_readSettings 5 RX5 8 171 0 0) (hr : (mT M).sig.returnType = none) {q : Nat} (hq : kRules q) {s9 : uSt} {ke : uSt → Option (Unit × uSt)} (K : ∀ (st : uSt), ke st = some ((), s9) → uW M V (uEnd M V 0 0 none s9) 5 0 0 60 [] [] st) : ∀ (n : Nat) (st : uSt) (l2 : Int32) (l3 : Int32), fX5_readSettings_4 q ke n st l2 l3 = some ((), s9) → uW M V (uEnd M V 0 0 none s9) 5 0 0 4 [(0, .ref (vA V 1)), (1, .ref (vA V q)), (2, .int l2), (3, .int l3)] [] st := by
  intro n
  induction n with
  | zero =>
    intro st l2 l3 h
    rw [fX5_readSettings_4] at h
    cases h
  | succ n ih =>
    intro st l2 l3 h
    rw [fX5_readSettings_4] at h
    refine ux_iload_n C dX5_readSettings_4 3 rfl ?_
    refine ux_iconst (v := 3) C dX5_readSettings_5 (by decide) ?_
    refine ux_icmp_gt C dX5_readSettings_6 h (fun h => ?_) (fun h => ?_)
    · refine ux_sub [] rfl ?_
      exact K st h
    · refine ux_aload_n C dX5_readSettings_9 0 rfl ?_
      obtain ⟨x_3, h1, h⟩ := ob_some h
      refine ux_callVi C cv_X5_106 dX5_readSettings_10 (oST W0) rfl (kX5_settingAtToken W0 h1) rfl (Nat.le_of_ble_eq_true rfl) ⟨(Nat.le_of_ble_eq_true rfl), (Nat.le_of_ble_eq_true rfl)⟩ ⟨(Nat.le_of_ble_eq_true rfl), (Nat.le_of_ble_eq_true rfl)⟩ ?_ rfl
      refine ux_istoreK C dX5_readSettings_13 rfl (by decide) ?_
      refine ux_iload C dX5_readSettings_15 0 rfl ?_
      refine ux_if_ne C dX5_readSettings_17 h (fun h => ?_) (fun h => ?_)
      · exact ux_vret C hr dX5_readSettings_20 h (Nat.le_of_ble_eq_true rfl) (Nat.le_of_ble_eq_true rfl)
      · refine ux_iload_n C dX5_readSettings_21 3 rfl ?_
        refine ux_iload C dX5_readSettings_22 0 rfl ?_
        refine ux_iand C dX5_readSettings_24 ?_
        refine ux_if_eq C dX5_readSettings_25 h (fun h => ?_) (fun h => ?_)
        · refine ux_iload_n C dX5_readSettings_34 3 rfl ?_
          refine ux_iload C dX5_readSettings_35 0 rfl ?_
          refine ux_ior C dX5_readSettings_37 ?_
          refine ux_istore_n C dX5_readSettings_38 (fun z => [(2, .int z), (4, .int x_3), (0, .ref (vA V 1)), (1, .ref (vA V q)), (3, .int l3)]) (fun _ => rfl) (by decide) h (fun l2_5 h => ?_)
          refine ux_aload_n C dX5_readSettings_39 2 rfl ?_
          obtain ⟨st_6, h1, h⟩ := obV_some h
          refine ux_callVv C cv_X5_54 dX5_readSettings_40 (oST W0) rfl (kX5_readToken W0 h1) rfl (Nat.le_of_ble_eq_true rfl) ⟨(Nat.le_of_ble_eq_true rfl), (Nat.le_of_ble_eq_true rfl)⟩ ⟨(Nat.le_of_ble_eq_true rfl), (Nat.le_of_ble_eq_true rfl)⟩ ?_ rfl
          refine ux_aload_n C dX5_readSettings_43 2 rfl ?_
          refine ux_aload_n C dX5_readSettings_44 3 rfl ?_
          refine ux_iload C dX5_readSettings_45 1 rfl ?_
          obtain ⟨st_7, h1, h⟩ := obV_some h
          refine ux_callVv C cv_X5_110 dX5_readSettings_47 (oST W0) rfl (kX5_readSetting W0 hq h1) rfl (Nat.le_of_ble_eq_true rfl) ⟨(Nat.le_of_ble_eq_true rfl), (Nat.le_of_ble_eq_true rfl)⟩ ⟨(Nat.le_of_ble_eq_true rfl), (Nat.le_of_ble_eq_true rfl)⟩ ?_ rfl
          refine ux_aload_n C dX5_readSettings_50 2 rfl ?_
          obtain ⟨st_8, h1, h⟩ := obV_some h
          refine ux_callVv C cv_X5_103 dX5_readSettings_51 (oST W0) rfl (kX5_takeSemicolon W0 h1) rfl (Nat.le_of_ble_eq_true rfl) ⟨(Nat.le_of_ble_eq_true rfl), (Nat.le_of_ble_eq_true rfl)⟩ ⟨(Nat.le_of_ble_eq_true rfl), (Nat.le_of_ble_eq_true rfl)⟩ ?_ rfl
          refine ux_iincK C dX5_readSettings_54 (by decide) 4 rfl (fun z => [(3, .int z), (2, .int l2_5), (4, .int x_3), (0, .ref (vA V 1)), (1, .ref (vA V q))]) (fun _ => rfl) (by decide) h (fun l3_9 h => ?_)
          refine ux_goto C dX5_readSettings_57 ?_
          refine ux_sub [3, 4, 1, 0] rfl ?_
          exact ih _ _ _ h
        · refine ux_aload_n C dX5_readSettings_28 1 rfl ?_
          refine ux_iconst (v := 3) C dX5_readSettings_29 (by decide) ?_
          obtain ⟨st_10, h1, h⟩ := obV_some h
          refine ux_callVv C cv_X5_73 dX5_readSettings_30 (oST W0) rfl (kX5_refuse W0 h1) rfl (Nat.le_of_ble_eq_true rfl) ⟨(Nat.le_of_ble_eq_true rfl), (Nat.le_of_ble_eq_true rfl)⟩ ⟨(Nat.le_of_ble_eq_true rfl), (Nat.le_of_ble_eq_true rfl)⟩ ?_ rfl
          exact ux_vret C hr dX5_readSettings_33 h (Nat.le_of_ble_eq_true rfl) (Nat.le_of_ble_eq_true rfl)
set_option maxRecDepth 100000 in
set_option maxHeartbeats 4000000 in
theorem kX5_readSettings {l : Launch} {V : uV} (W0 : uWC l V) {q : Nat} (hq : kRules q) {st : uSt} {s9 : uSt} (h : fX5_readSettings q st = some ((), s9)) : uMet l V yX5_readSettings cX5_readSettings 5 none 8 171 0 0 [.ref (vA V 1), .ref (vA V q)] st none s9 := by
  refine ux_met W0.1 W0.2.1 (by decide) rfl (Nat.le_of_ble_eq_true rfl) (fun M hL hr C => ?_)
  subst hL
  have C : uCx M V cX5_readSettings 5 RX5 8 171 0 0 := C
  unfold fX5_readSettings at h
  refine ux_iconst (v := 0) C dX5_readSettings_0 (by decide) ?_
  refine ux_istoreK_n C dX5_readSettings_1 rfl (by decide) ?_
  refine ux_iconst (v := 0) C dX5_readSettings_2 (by decide) ?_
  refine ux_istoreK_n C dX5_readSettings_3 rfl (by decide) ?_
  refine ux_sub [2, 3, 1, 0] rfl ?_
  refine wX5_readSettings_4 W0 C hr hq (fun st_11 h => ?_) _ _ _ _ h
  exact ux_vret C hr dX5_readSettings_60 h (Nat.le_of_ble_eq_true rfl) (Nat.le_of_ble_eq_true rfl)
set_option maxRecDepth 100000 in
set_option maxHeartbeats 4000000 in
theorem wX5_readDevices_2 {M : uM} {V : uV} (W0 : uWC (mL M) V) (C : uCx M V cX5_readDevices 3 RX5 5 107 0 0) (hr : (mT M).sig.returnType = none) {d : Nat} (hd : kDev d) {s9 : uSt} {ke : uSt → Option (Unit × uSt)} (K : ∀ (st : uSt), ke st = some ((), s9) → uW M V (uEnd M V 0 0 none s9) 3 0 0 88 [] [] st) : ∀ (n : Nat) (st : uSt) (l2 : Int32), fX5_readDevices_2 d ke n st l2 = some ((), s9) → uW M V (uEnd M V 0 0 none s9) 3 0 0 2 [(0, .ref (vA V 1)), (1, .ref (vA V d)), (2, .int l2)] [] st := by
  intro n
  induction n with
  | zero =>
    intro st l2 h
    rw [fX5_readDevices_2] at h
    cases h
  | succ n ih =>
    intro st l2 h
    rw [fX5_readDevices_2] at h
    refine ux_iload_n C dX5_readDevices_2 2 rfl ?_
    refine ux_iconst (v := 5) C dX5_readDevices_3 (by decide) ?_
    refine ux_icmp_gt C dX5_readDevices_4 h (fun h => ?_) (fun h => ?_)
    · refine ux_sub [] rfl ?_
      exact K st h
    · refine ux_aload_n C dX5_readDevices_7 0 rfl ?_
      refine ux_ldcS (i := 1) C rfl dX5_readDevices_8 ?_
      obtain ⟨x_2, h1, h⟩ := ob_some h
      refine ux_callVi C cv_X5_116 dX5_readDevices_10 (oST W0) rfl (kX5_isWord W0 (by decide) h1) rfl (Nat.le_of_ble_eq_true rfl) ⟨(Nat.le_of_ble_eq_true rfl), (Nat.le_of_ble_eq_true rfl)⟩ ⟨(Nat.le_of_ble_eq_true rfl), (Nat.le_of_ble_eq_true rfl)⟩ ?_ rfl
      refine ux_if_eq C dX5_readDevices_13 h (fun h => ?_) (fun h => ?_)
      · refine ux_sub [] rfl ?_
        exact K st h
      · refine ux_iload_n C dX5_readDevices_16 2 rfl ?_
        refine ux_iconst (v := 5) C dX5_readDevices_17 (by decide) ?_
        refine ux_icmp_ne C dX5_readDevices_18 h (fun h => ?_) (fun h => ?_)
        · refine ux_aload_n C dX5_readDevices_21 0 rfl ?_
          refine ux_iconst (v := 4) C dX5_readDevices_22 (by decide) ?_
          obtain ⟨st_3, h1, h⟩ := obV_some h
          refine ux_callVv C cv_X5_73 dX5_readDevices_23 (oST W0) rfl (kX5_refuse W0 h1) rfl (Nat.le_of_ble_eq_true rfl) ⟨(Nat.le_of_ble_eq_true rfl), (Nat.le_of_ble_eq_true rfl)⟩ ⟨(Nat.le_of_ble_eq_true rfl), (Nat.le_of_ble_eq_true rfl)⟩ ?_ rfl
          exact ux_vret C hr dX5_readDevices_26 h (Nat.le_of_ble_eq_true rfl) (Nat.le_of_ble_eq_true rfl)
        · refine ux_aload_n C dX5_readDevices_27 0 rfl ?_
          obtain ⟨st_4, h1, h⟩ := obV_some h
          refine ux_callVv C cv_X5_54 dX5_readDevices_28 (oST W0) rfl (kX5_readToken W0 h1) rfl (Nat.le_of_ble_eq_true rfl) ⟨(Nat.le_of_ble_eq_true rfl), (Nat.le_of_ble_eq_true rfl)⟩ ⟨(Nat.le_of_ble_eq_true rfl), (Nat.le_of_ble_eq_true rfl)⟩ ?_ rfl
          refine ux_aload_n C dX5_readDevices_31 1 rfl ?_
          refine ux_get C fl_X5_144 dX5_readDevices_32 (oDev W0 hd) rfl ?_
          refine ux_iload_n C dX5_readDevices_35 2 rfl ?_
          refine ux_aload_n C dX5_readDevices_36 0 rfl ?_
          refine ux_iconst (v := 0) C dX5_readDevices_37 (by decide) ?_
          refine ux_sipush (v := 200) C dX5_readDevices_38 (by decide) ?_
          obtain ⟨x_6, st_5, h1, h⟩ := obS_some h
          refine ux_callVi C cv_X5_82 dX5_readDevices_41 (oST W0) rfl (kX5_takeNumber W0 h1) rfl (Nat.le_of_ble_eq_true rfl) ⟨(Nat.le_of_ble_eq_true rfl), (Nat.le_of_ble_eq_true rfl)⟩ ⟨(Nat.le_of_ble_eq_true rfl), (Nat.le_of_ble_eq_true rfl)⟩ ?_ rfl
          refine ux_iast C (aDev1 W0 hd) dX5_readDevices_44 h (fun st_7 h => ?_)
          refine ux_aload_n C dX5_readDevices_45 1 rfl ?_
          refine ux_get C fl_X5_148 dX5_readDevices_46 (oDev W0 hd) rfl ?_
          refine ux_iload_n C dX5_readDevices_49 2 rfl ?_
          refine ux_aload_n C dX5_readDevices_50 0 rfl ?_
          refine ux_iconst (v := 0) C dX5_readDevices_51 (by decide) ?_
          refine ux_bipush (v := 50) C dX5_readDevices_52 (by decide) ?_
          obtain ⟨x_9, st_8, h1, h⟩ := obS_some h
          refine ux_callVi C cv_X5_82 dX5_readDevices_54 (oST W0) rfl (kX5_takeNumber W0 h1) rfl (Nat.le_of_ble_eq_true rfl) ⟨(Nat.le_of_ble_eq_true rfl), (Nat.le_of_ble_eq_true rfl)⟩ ⟨(Nat.le_of_ble_eq_true rfl), (Nat.le_of_ble_eq_true rfl)⟩ ?_ rfl
          refine ux_iast C (aDev2 W0 hd) dX5_readDevices_57 h (fun st_10 h => ?_)
          refine ux_aload_n C dX5_readDevices_58 1 rfl ?_
          refine ux_get C fl_X5_151 dX5_readDevices_59 (oDev W0 hd) rfl ?_
          refine ux_iload_n C dX5_readDevices_62 2 rfl ?_
          refine ux_aload_n C dX5_readDevices_63 0 rfl ?_
          refine ux_iconst (v := 1) C dX5_readDevices_64 (by decide) ?_
          refine ux_bipush (v := 50) C dX5_readDevices_65 (by decide) ?_
          obtain ⟨x_12, st_11, h1, h⟩ := obS_some h
          refine ux_callVi C cv_X5_82 dX5_readDevices_67 (oST W0) rfl (kX5_takeNumber W0 h1) rfl (Nat.le_of_ble_eq_true rfl) ⟨(Nat.le_of_ble_eq_true rfl), (Nat.le_of_ble_eq_true rfl)⟩ ⟨(Nat.le_of_ble_eq_true rfl), (Nat.le_of_ble_eq_true rfl)⟩ ?_ rfl
          refine ux_iast C (aDev3 W0 hd) dX5_readDevices_70 h (fun st_13 h => ?_)
          refine ux_aload_n C dX5_readDevices_71 0 rfl ?_
          obtain ⟨st_14, h1, h⟩ := obV_some h
          refine ux_callVv C cv_X5_103 dX5_readDevices_72 (oST W0) rfl (kX5_takeSemicolon W0 h1) rfl (Nat.le_of_ble_eq_true rfl) ⟨(Nat.le_of_ble_eq_true rfl), (Nat.le_of_ble_eq_true rfl)⟩ ⟨(Nat.le_of_ble_eq_true rfl), (Nat.le_of_ble_eq_true rfl)⟩ ?_ rfl
          refine ux_aload_n C dX5_readDevices_75 1 rfl ?_
          refine ux_iload_n C dX5_readDevices_76 2 rfl ?_
          refine ux_iconst (v := 1) C dX5_readDevices_77 (by decide) ?_
          refine ux_iadd C dX5_readDevices_78 ?_
          refine ux_puti C fp_X5_49 dX5_readDevices_79 (oDev W0 hd) (Nat.le_of_ble_eq_true rfl) rfl h (fun st_15 h => ?_)
          refine ux_iincK C dX5_readDevices_82 (by decide) 2 rfl (fun z => [(2, .int z), (0, .ref (vA V 1)), (1, .ref (vA V d))]) (fun _ => rfl) (by decide) h (fun l2_16 h => ?_)
          refine ux_goto C dX5_readDevices_85 ?_
          refine ux_sub [1, 2, 0] rfl ?_
          exact ih _ _ h
set_option maxRecDepth 100000 in
set_option maxHeartbeats 4000000 in
theorem kX5_readDevices {l : Launch} {V : uV} (W0 : uWC l V) {d : Nat} (hd : kDev d) {st : uSt} {s9 : uSt} (h : fX5_readDevices d st = some ((), s9)) : uMet l V yX5_readDevices cX5_readDevices 3 none 5 107 0 0 [.ref (vA V 1), .ref (vA V d)] st none s9 := by
  refine ux_met W0.1 W0.2.1 (by decide) rfl (Nat.le_of_ble_eq_true rfl) (fun M hL hr C => ?_)
  subst hL
  have C : uCx M V cX5_readDevices 3 RX5 5 107 0 0 := C
  unfold fX5_readDevices at h
  refine ux_iconst (v := 0) C dX5_readDevices_0 (by decide) ?_
  refine ux_istoreK_n C dX5_readDevices_1 rfl (by decide) ?_
  refine ux_sub [1, 2, 0] rfl ?_
  refine wX5_readDevices_2 W0 C hr hd (fun st_17 h => ?_) _ _ _ h
  exact ux_vret C hr dX5_readDevices_88 h (Nat.le_of_ble_eq_true rfl) (Nat.le_of_ble_eq_true rfl)
set_option maxRecDepth 100000 in
set_option maxHeartbeats 4000000 in
theorem kX5_readInto {l : Launch} {V : uV} (W0 : uWC l V) {sb : Nat} (hsb : kState sb) {st : uSt} {s9 : uSt} (h : fX5_readInto sb st = some ((), s9)) : uMet l V yX5_readInto cX5_readInto 2 none 9 195 0 0 [.ref (vA V 1), .ref (vA V sb)] st none s9 := by
  refine ux_met W0.1 W0.2.1 (by decide) rfl (Nat.le_of_ble_eq_true rfl) (fun M hL hr C => ?_)
  subst hL
  have C : uCx M V cX5_readInto 2 RX5 9 195 0 0 := C
  unfold fX5_readInto at h
  refine ux_aload_n C dX5_readInto_0 0 rfl ?_
  refine ux_iconst (v := 0) C dX5_readInto_1 (by decide) ?_
  refine ux_puti C fp_X5_19 dX5_readInto_2 (oST W0) (Nat.le_of_ble_eq_true rfl) rfl h (fun st_1 h => ?_)
  refine ux_aload_n C dX5_readInto_5 0 rfl ?_
  refine ux_iconst (v := (-1)) C dX5_readInto_6 (by decide) ?_
  refine ux_puti C fp_X5_22 dX5_readInto_7 (oST W0) (Nat.le_of_ble_eq_true rfl) rfl h (fun st_2 h => ?_)
  refine ux_aload_n C dX5_readInto_10 0 rfl ?_
  refine ux_iconst (v := 0) C dX5_readInto_11 (by decide) ?_
  refine ux_puti C fp_X5_31 dX5_readInto_12 (oST W0) (Nat.le_of_ble_eq_true rfl) rfl h (fun st_3 h => ?_)
  refine ux_aload_n C dX5_readInto_15 1 rfl ?_
  refine ux_get C fl_X5_34 dX5_readInto_16 (oState W0 hsb) rfl ?_
  obtain ⟨st_4, h1, h⟩ := obV_some h
  refine ux_callVv C cv_X5_40 dX5_readInto_19 (oRules W0 (kS_rules hsb)) rfl (kX3_setDefaults W0 (kS_rules hsb) h1) rfl (Nat.le_of_ble_eq_true rfl) ⟨(Nat.le_of_ble_eq_true rfl), (Nat.le_of_ble_eq_true rfl)⟩ ⟨(Nat.le_of_ble_eq_true rfl), (Nat.le_of_ble_eq_true rfl)⟩ ?_ rfl
  refine ux_aload_n C dX5_readInto_22 1 rfl ?_
  refine ux_get C fl_X5_45 dX5_readInto_23 (oState W0 hsb) rfl ?_
  refine ux_iconst (v := 0) C dX5_readInto_26 (by decide) ?_
  refine ux_puti C fp_X5_49 dX5_readInto_27 (oDev W0 (kS_dev hsb)) (Nat.le_of_ble_eq_true rfl) rfl h (fun st_5 h => ?_)
  refine ux_aload_n C dX5_readInto_30 0 rfl ?_
  obtain ⟨st_6, h1, h⟩ := obV_some h
  refine ux_callVv C cv_X5_54 dX5_readInto_31 (oST W0) rfl (kX5_readToken W0 h1) rfl (Nat.le_of_ble_eq_true rfl) ⟨(Nat.le_of_ble_eq_true rfl), (Nat.le_of_ble_eq_true rfl)⟩ ⟨(Nat.le_of_ble_eq_true rfl), (Nat.le_of_ble_eq_true rfl)⟩ ?_ rfl
  refine ux_aload_n C dX5_readInto_34 0 rfl ?_
  refine ux_aload_n C dX5_readInto_35 1 rfl ?_
  refine ux_get C fl_X5_57 dX5_readInto_36 (oState W0 hsb) rfl ?_
  obtain ⟨st_7, h1, h⟩ := obV_some h
  refine ux_callVv C cv_X5_61 dX5_readInto_39 (oST W0) rfl (kX5_readBattery W0 (kS_bat hsb) h1) rfl (Nat.le_of_ble_eq_true rfl) ⟨(Nat.le_of_ble_eq_true rfl), (Nat.le_of_ble_eq_true rfl)⟩ ⟨(Nat.le_of_ble_eq_true rfl), (Nat.le_of_ble_eq_true rfl)⟩ ?_ rfl
  refine ux_aload_n C dX5_readInto_42 0 rfl ?_
  refine ux_aload_n C dX5_readInto_43 1 rfl ?_
  refine ux_get C fl_X5_34 dX5_readInto_44 (oState W0 hsb) rfl ?_
  obtain ⟨st_8, h1, h⟩ := obV_some h
  refine ux_callVv C cv_X5_65 dX5_readInto_47 (oST W0) rfl (kX5_readSettings W0 (kS_rules hsb) h1) rfl (Nat.le_of_ble_eq_true rfl) ⟨(Nat.le_of_ble_eq_true rfl), (Nat.le_of_ble_eq_true rfl)⟩ ⟨(Nat.le_of_ble_eq_true rfl), (Nat.le_of_ble_eq_true rfl)⟩ ?_ rfl
  refine ux_aload_n C dX5_readInto_50 0 rfl ?_
  refine ux_aload_n C dX5_readInto_51 1 rfl ?_
  refine ux_get C fl_X5_45 dX5_readInto_52 (oState W0 hsb) rfl ?_
  obtain ⟨st_9, h1, h⟩ := obV_some h
  refine ux_callVv C cv_X5_69 dX5_readInto_55 (oST W0) rfl (kX5_readDevices W0 (kS_dev hsb) h1) rfl (Nat.le_of_ble_eq_true rfl) ⟨(Nat.le_of_ble_eq_true rfl), (Nat.le_of_ble_eq_true rfl)⟩ ⟨(Nat.le_of_ble_eq_true rfl), (Nat.le_of_ble_eq_true rfl)⟩ ?_ rfl
  refine ux_aload_n C dX5_readInto_58 0 rfl ?_
  refine ux_get C fl_X5_25 dX5_readInto_59 (oST W0) rfl ?_
  refine ux_if_eq C dX5_readInto_62 h (fun h => ?_) (fun h => ?_)
  · exact ux_vret C hr dX5_readInto_70 h (Nat.le_of_ble_eq_true rfl) (Nat.le_of_ble_eq_true rfl)
  · refine ux_aload_n C dX5_readInto_65 0 rfl ?_
    refine ux_iconst (v := 1) C dX5_readInto_66 (by decide) ?_
    obtain ⟨st_10, h1, h⟩ := obV_some h
    refine ux_callVv C cv_X5_73 dX5_readInto_67 (oST W0) rfl (kX5_refuse W0 h1) rfl (Nat.le_of_ble_eq_true rfl) ⟨(Nat.le_of_ble_eq_true rfl), (Nat.le_of_ble_eq_true rfl)⟩ ⟨(Nat.le_of_ble_eq_true rfl), (Nat.le_of_ble_eq_true rfl)⟩ ?_ rfl
    exact ux_vret C hr dX5_readInto_70 h (Nat.le_of_ble_eq_true rfl) (Nat.le_of_ble_eq_true rfl)
