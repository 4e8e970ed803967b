def fX8_isIn  (p0 : Int32) (p1 : Int32) (p2 : Int32) : Option Int32 :=
  (if p0 < p1 then some (0 : Int32) else (if p2 < p0 then some (0 : Int32) else some (1 : Int32)))
def fX8_may  (p1 : Int32) (p2 : Int32) (st : uSt) : Option (Int32 × uSt) :=
  oj1 (fun (st_2 : uSt) => (if (st_2.1 0 0) = 0 then some ((1 : Int32), st_2) else some ((0 : Int32), st_2))) (fun j_1 => (if p1 = 0 then (if (st.1 0 0) = 0 then ol (sI st 0 0 p2) (fun st_3 => (j_1 st_3)) else (j_1 st)) else (j_1 st)))
def fX8_has  (p0 : Int32) (p1 : Int32) : Option Int32 :=
  (if ((p0 >>> (p1 &&& 31)) &&& (1 : Int32)) = (1 : Int32) then some (1 : Int32) else some (0 : Int32))
def fX8_plain_2   (ke : uSt → Option (Unit × uSt)) : Nat → uSt → Int32 → Option (Unit × uSt)
  | 0, _, _ => none
  | n + 1, st, l1 =>
    (if (109 : Int32) ≤ l1 then (ke st) else og (inB l1 109) (ol (sI st 2 l1.toNatClampNeg (0 : Int32)) (fun st_2 => ol (l1 + 1) (fun l1_3 => fX8_plain_2 ke n st_2 l1_3))))
def fX8_plain   (st : uSt) : Option (Unit × uSt) :=
  fX8_plain_2 (fun st_4 => ol (sI st_4 2 6 (24 : Int32)) (fun st_5 => ol (sI st_5 2 27 (1 : Int32)) (fun st_6 => some ((), st_6)))) FU st (0 : Int32)
def fX8_takes_2   (ke : uSt → Option (Unit × uSt)) : Nat → uSt → Int32 → Option (Unit × uSt)
  | 0, _, _ => none
  | n + 1, st, l1 =>
    (if (109 : Int32) ≤ l1 then (ke st) else og (inB l1 109) (og (inB l1 109) (ol (sI st 1 l1.toNatClampNeg (st.1 2 l1.toNatClampNeg)) (fun st_2 => ol (l1 + 1) (fun l1_3 => fX8_takes_2 ke n st_2 l1_3)))))
def fX8_takes   (st : uSt) : Option (Unit × uSt) :=
  fX8_takes_2 (fun st_4 => ol (sI st_4 5 0 (0 : Int32)) (fun st_5 => ol (sI st_5 5 1 (0 : Int32)) (fun st_6 => some ((), st_6)))) FU st (0 : Int32)
def fX8_append_36  (l1 : Int32) (l2 : Int32) (l3 : Int32) (l4 : Int32) (l5 : Int32) (ke : uSt → Option (Int32 × uSt)) : Nat → uSt → Int32 → Option (Int32 × uSt)
  | 0, _, _ => none
  | n + 1, st, l6 =>
    (if (20 : Int32) ≤ l6 then (ke st) else oj1 (fun (v_8 : Int32) => og (inB ((st.1 0 7) + l6) 400) (ol (sI st 6 ((st.1 0 7) + l6).toNatClampNeg ((v_8 >>> (((24 : Int32) - ((8 : Int32) * (l6 - l6 / (4 : Int32) * (4 : Int32)))) &&& 31)) &&& (255 : Int32))) (fun st_10 => ol (l6 + 1) (fun l6_11 => fX8_append_36 l1 l2 l3 l4 l5 ke n st_10 l6_11)))) (fun j_7 => (if (4 : Int32) ≤ l6 then (if (8 : Int32) ≤ l6 then (if (12 : Int32) ≤ l6 then (if (16 : Int32) ≤ l6 then (j_7 l5) else (j_7 l4)) else (j_7 l3)) else (j_7 l2)) else (j_7 l1))))
def fX8_append  (p1 : Int32) (p2 : Int32) (p3 : Int32) (p4 : Int32) (p5 : Int32) (st : uSt) : Option (Int32 × uSt) :=
  ol (sI st 0 0 (0 : Int32)) (fun st_1 => oj1 (fun (v_3 : Int32) => obS (fX8_may v_3 (1 : Int32) st_1) (fun x_5 st_4 => (if x_5 = 0 then some ((0 : Int32), st_4) else fX8_append_36 p1 p2 p3 p4 p5 (fun st_12 => ol (sI st_12 0 7 ((st_12.1 0 7) + (20 : Int32))) (fun st_13 => some (st_13.1 0 7, st_13))) FU st_4 (0 : Int32)))) (fun j_2 => (if (400 : Int32) < ((st_1.1 0 7) + (20 : Int32)) then (j_2 (0 : Int32)) else (j_2 (1 : Int32)))))
def fX8_truncate  (p1 : Int32) (st : uSt) : Option (Int32 × uSt) :=
  ol (sI st 0 0 (0 : Int32)) (fun st_1 => ob (fX8_isIn p1 (0 : Int32) (st_1.1 0 7)) (fun x_2 => obS (fX8_may x_2 (1 : Int32) st_1) (fun x_4 st_3 => (if x_4 = 0 then some ((0 : Int32), st_3) else ol (sI st_3 0 7 p1) (fun st_5 => some (p1, st_5))))))
def fX8_at  (p1 : Int32) (st : uSt) : Option Int32 :=
  (if (st.1 0 8) ≤ p1 then some (-1 : Int32) else og (inB p1 400) (some (st.1 6 p1.toNatClampNeg)))
def fX8_isLetter  (p0 : Int32) : Option Int32 :=
  (if p0 < (97 : Int32) then some (0 : Int32) else (if (122 : Int32) < p0 then some (0 : Int32) else some (1 : Int32)))
def fX8_isDigit  (p0 : Int32) : Option Int32 :=
  (if p0 < (48 : Int32) then some (0 : Int32) else (if (57 : Int32) < p0 then some (0 : Int32) else some (1 : Int32)))
def fX8_token_0   (ke : uSt → Option (Unit × uSt)) : Nat → uSt → Option (Unit × uSt)
  | 0, _ => none
  | n + 1, st =>
    ob (fX8_at (st.1 0 9) st) (fun x_1 => oj0 (ol (sI st 0 9 ((st.1 0 9) + (1 : Int32))) (fun st_3 => fX8_token_0 ke n st_3)) (fun j_2 => (if x_1 = (10 : Int32) then j_2 else ob (fX8_at (st.1 0 9) st) (fun x_4 => (if x_4 = (32 : Int32) then j_2 else (ke st))))))
def fX8_token_123   (ke : uSt → Option (Unit × uSt)) : Nat → uSt → Option (Unit × uSt)
  | 0, _ => none
  | n + 1, st =>
    ob (fX8_at (st.1 0 9) st) (fun x_17 => ob (fX8_isDigit x_17) (fun x_18 => (if x_18 = 0 then (ke st) else oj1 (fun (st_20 : uSt) => ol (sI st_20 0 9 ((st_20.1 0 9) + (1 : Int32))) (fun st_21 => fX8_token_123 ke n st_21)) (fun j_19 => (if (4 : Int32) ≤ ((st.1 0 9) - (st.1 0 10)) then (j_19 st) else ob (fX8_at (st.1 0 9) st) (fun x_22 => ol (sI st 0 12 ((((10 : Int32) * (st.1 0 12)) + x_22) - (48 : Int32))) (fun st_23 => (j_19 st_23))))))))
def fX8_token_76   (ke : uSt → Option (Unit × uSt)) : Nat → uSt → Option (Unit × uSt)
  | 0, _ => none
  | n + 1, st =>
    ob (fX8_at (st.1 0 9) st) (fun x_28 => ob (fX8_isLetter x_28) (fun x_29 => (if x_29 = 0 then (ke st) else ol (sI st 0 9 ((st.1 0 9) + (1 : Int32))) (fun st_30 => fX8_token_76 ke n st_30))))
def fX8_token   (st : uSt) : Option (Unit × uSt) :=
  fX8_token_0 (fun st_5 => ol (sI st_5 0 10 (st_5.1 0 9)) (fun st_6 => ob (fX8_at (st_6.1 0 9) st_6) (fun x_7 => (if x_7 = (-1 : Int32) then ol (sI st_6 0 11 (0 : Int32)) (fun st_9 => some ((), st_9)) else ob (fX8_isLetter x_7) (fun x_10 => (if x_10 = 0 then ob (fX8_isDigit x_7) (fun x_11 => (if x_11 = 0 then ol (sI st_6 0 9 ((st_6.1 0 9) + (1 : Int32))) (fun st_12 => oj1 (fun (v_14 : Int32) => ol (sI st_12 0 11 v_14) (fun st_15 => some ((), st_15))) (fun j_13 => (if x_7 = (59 : Int32) then (j_13 (3 : Int32)) else (j_13 (4 : Int32))))) else ol (sI st_6 0 12 (0 : Int32)) (fun st_16 => fX8_token_123 (fun st_24 => oj1 (fun (v_26 : Int32) => ol (sI st_24 0 11 v_26) (fun st_27 => some ((), st_27))) (fun j_25 => (if ((st_24.1 0 9) - (st_24.1 0 10)) ≤ (4 : Int32) then (j_25 (2 : Int32)) else (j_25 (4 : Int32))))) FU st_16))) else fX8_token_76 (fun st_31 => ol (sI st_31 0 11 (1 : Int32)) (fun st_32 => some ((), st_32))) FU st_6)))))) FU st
def fX8_isWrong   (st : uSt) : Option Int32 :=
  (if (st.1 0 13) = 0 then some (0 : Int32) else some (1 : Int32))
def fX8_fails  (p1 : Int32) (st : uSt) : Option (Unit × uSt) :=
  ob (fX8_isWrong st) (fun x_1 => (if x_1 = 0 then ol (sI st 0 13 p1) (fun st_2 => ol (sI st_2 0 14 (st_2.1 0 10)) (fun st_3 => some ((), st_3))) else some ((), st)))
def fX8_isWord_35  (w : Nat)  (st : uSt) (ke : Option Int32) : Nat → Int32 → Option Int32
  | 0, _ => none
  | n + 1, l2 =>
    ob (fJ0_length_8abf5 w) (fun x_4 => (if x_4 ≤ l2 then ke else ob (fX8_at ((st.1 0 10) + l2) st) (fun x_5 => ob (fJ0_charAt_5068e w l2) (fun x_6 => (if x_5 = x_6 then ol (l2 + 1) (fun l2_7 => fX8_isWord_35 w st ke n l2_7) else some (0 : Int32))))))
def fX8_isWord  (w : Nat)  (st : uSt) : Option Int32 :=
  ob (fX8_isWrong st) (fun x_1 => (if x_1 = 0 then (if (st.1 0 11) = (1 : Int32) then ob (fJ0_length_8abf5 w) (fun x_2 => (if ((st.1 0 9) - (st.1 0 10)) = x_2 then fX8_isWord_35 w st (some (1 : Int32)) FU (0 : Int32) else some (0 : Int32))) else some (0 : Int32)) else some (0 : Int32)))
def fX8_takesWord  (w : Nat)  (st : uSt) : Option (Int32 × uSt) :=
  ob (fX8_isWord w st) (fun x_1 => (if x_1 = 0 then og (isB x_1) (some (x_1, st)) else obV (fX8_token st) (fun st_3 => og (isB x_1) (some (x_1, st_3)))))
def fX8_figure  (p1 : Int32) (p2 : Int32) (st : uSt) : Option (Int32 × uSt) :=
  ob (fX8_isWrong st) (fun x_1 => (if x_1 = 0 then oj1 (fun (st_3 : uSt) => ol (st_3.1 0 12) (fun l3_4 => ob (fX8_isWrong st_3) (fun x_5 => (if x_5 = 0 then obV (fX8_token st_3) (fun st_6 => some (l3_4, st_6)) else some (l3_4, st_3))))) (fun j_2 => (if (st.1 0 11) = (2 : Int32) then ob (fX8_isIn (st.1 0 12) p1 p2) (fun x_7 => (if x_7 = 0 then obV (fX8_fails (2 : Int32) st) (fun st_8 => (j_2 st_8)) else (j_2 st))) else obV (fX8_fails (1 : Int32) st) (fun st_9 => (j_2 st_9)))) else some (p1, st)))
def fX8_ends   (st : uSt) : Option (Unit × uSt) :=
  oj1 (fun (st_2 : uSt) => ob (fX8_isWrong st_2) (fun x_3 => (if x_3 = 0 then obV (fX8_token st_2) (fun st_4 => some ((), st_4)) else some ((), st_2)))) (fun j_1 => (if (st.1 0 11) = (3 : Int32) then (j_1 st) else obV (fX8_fails (1 : Int32) st) (fun st_5 => (j_1 st_5))))
def fX8_battery   (st : uSt) : Option (Unit × uSt) :=
  obS (fX8_takesWord 8 st) (fun x_2 st_1 => oj1 (fun (st_4 : uSt) => obS (fX8_figure (1 : Int32) (500 : Int32) st_4) (fun x_6 st_5 => ol (sI st_5 2 0 x_6) (fun st_7 => obS (fX8_figure (0 : Int32) (st_7.1 2 0) st_7) (fun x_9 st_8 => ol (sI st_8 2 1 x_9) (fun st_10 => obS (fX8_figure (0 : Int32) (50 : Int32) st_10) (fun x_12 st_11 => ol (sI st_11 2 2 x_12) (fun st_13 => obS (fX8_figure (1 : Int32) (50 : Int32) st_13) (fun x_15 st_14 => ol (sI st_14 2 3 x_15) (fun st_16 => obS (fX8_figure (1 : Int32) (1000 : Int32) st_16) (fun x_18 st_17 => ol (sI st_17 2 4 x_18) (fun st_19 => obV (fX8_ends st_19) (fun st_20 => some ((), st_20))))))))))))) (fun j_3 => (if x_2 = 0 then obV (fX8_fails (1 : Int32) st_1) (fun st_21 => (j_3 st_21)) else (j_3 st_1))))
def fX8_mode   (st : uSt) : Option (Unit × uSt) :=
  obS (fX8_takesWord 15 st) (fun x_2 st_1 => (if x_2 = 0 then obS (fX8_takesWord 14 st_1) (fun x_4 st_3 => (if x_4 = 0 then obS (fX8_takesWord 13 st_3) (fun x_6 st_5 => oj1 (fun (st_8 : uSt) => ol (sI st_8 2 7 (1 : Int32)) (fun st_9 => obS (fX8_figure (1 : Int32) (99 : Int32) st_9) (fun x_11 st_10 => ol (sI st_10 2 8 x_11) (fun st_12 => some ((), st_12))))) (fun j_7 => (if x_6 = 0 then obV (fX8_fails (1 : Int32) st_5) (fun st_13 => (j_7 st_13)) else (j_7 st_5)))) else ol (sI st_3 2 7 (2 : Int32)) (fun st_14 => some ((), st_14)))) else some ((), st_1)))
def fX8_setting   (st : uSt) : Option Int32 :=
  ob (fX8_isWord 10 st) (fun x_1 => (if x_1 = 0 then ob (fX8_isWord 11 st) (fun x_2 => (if x_2 = 0 then ob (fX8_isWord 12 st) (fun x_3 => (if x_3 = 0 then some (-1 : Int32) else some (2 : Int32))) else some (1 : Int32))) else some (0 : Int32)))
def fX8_settings_7   (ke : uSt → Option (Unit × uSt)) : Nat → uSt → Int32 → Int32 → Option (Unit × uSt)
  | 0, _, _, _ => none
  | n + 1, st, l1, l2 =>
    (if l2 = (-1 : Int32) then (ke st) else ob (fX8_has l1 l2) (fun x_4 => oj1 (fun (st_6 : uSt) => ol (l1 ||| ((1 : Int32) <<< (l2 &&& 31))) (fun l1_7 => ob (fX8_isWrong st_6) (fun x_8 => (if x_8 = 0 then obV (fX8_token st_6) (fun st_9 => oj1 (fun (st_11 : uSt) => oj1 (fun (st_13 : uSt) => oj1 (fun (st_15 : uSt) => obV (fX8_ends st_15) (fun st_16 => ob (fX8_setting st_16) (fun x_17 => fX8_settings_7 ke n st_16 l1_7 x_17))) (fun j_14 => (if l2 = (2 : Int32) then obV (fX8_mode st_13) (fun st_19 => (j_14 st_19)) else (j_14 st_13)))) (fun j_12 => (if l2 = (1 : Int32) then obS (fX8_figure (1 : Int32) (24 : Int32) st_11) (fun x_21 st_20 => ol (sI st_20 2 6 x_21) (fun st_22 => (j_12 st_22))) else (j_12 st_11)))) (fun j_10 => (if l2 = 0 then obS (fX8_figure (0 : Int32) (200 : Int32) st_9) (fun x_24 st_23 => ol (sI st_23 2 5 x_24) (fun st_25 => (j_10 st_25))) else (j_10 st_9)))) else some ((), st_6))))) (fun j_5 => (if x_4 = 0 then (j_5 st) else obV (fX8_fails (3 : Int32) st) (fun st_26 => (j_5 st_26))))))
def fX8_settings   (st : uSt) : Option (Unit × uSt) :=
  ob (fX8_setting st) (fun x_2 => fX8_settings_7 (fun st_27 => some ((), st_27)) FU st (0 : Int32) x_2)
def fX8_oneDevice   (st : uSt) : Option (Unit × uSt) :=
  oj1 (fun (st_2 : uSt) => ob (fX8_isWrong st_2) (fun x_3 => (if x_3 = 0 then obV (fX8_token st_2) (fun st_4 => ol ((10 : Int32) + ((3 : Int32) * (st_4.1 2 9))) (fun l1_5 => obS (fX8_figure (0 : Int32) (200 : Int32) st_4) (fun x_7 st_6 => og (inB (l1_5 + (0 : Int32)) 109) (ol (sI st_6 2 (l1_5 + (0 : Int32)).toNatClampNeg x_7) (fun st_8 => obS (fX8_figure (0 : Int32) (50 : Int32) st_8) (fun x_10 st_9 => og (inB (l1_5 + (1 : Int32)) 109) (ol (sI st_9 2 (l1_5 + (1 : Int32)).toNatClampNeg x_10) (fun st_11 => obS (fX8_figure (1 : Int32) (50 : Int32) st_11) (fun x_13 st_12 => og (inB (l1_5 + (2 : Int32)) 109) (ol (sI st_12 2 (l1_5 + (2 : Int32)).toNatClampNeg x_13) (fun st_14 => ol (sI st_14 2 9 ((st_14.1 2 9) + (1 : Int32))) (fun st_15 => obV (fX8_ends st_15) (fun st_16 => some ((), st_16)))))))))))))) else some ((), st_2)))) (fun j_1 => (if (st.1 2 9) = (5 : Int32) then obV (fX8_fails (4 : Int32) st) (fun st_17 => (j_1 st_17)) else (j_1 st)))
def fX8_load_49   (ke : uSt → Option (Int32 × uSt)) : Nat → uSt → Option (Int32 × uSt)
  | 0, _ => none
  | n + 1, st =>
    ob (fX8_isWord 9 st) (fun x_11 => (if x_11 = 0 then (ke st) else obV (fX8_oneDevice st) (fun st_12 => fX8_load_49 ke n st_12)))
def fX8_load   (st : uSt) : Option (Int32 × uSt) :=
  ol (sI st 0 0 (0 : Int32)) (fun st_1 => ol (sI st_1 0 8 (st_1.1 0 7)) (fun st_2 => ol (sI st_2 0 7 (0 : Int32)) (fun st_3 => ol (sI st_3 0 9 (0 : Int32)) (fun st_4 => ol (sI st_4 0 13 (0 : Int32)) (fun st_5 => ol (sI st_5 0 14 (-1 : Int32)) (fun st_6 => obV (fX8_plain st_6) (fun st_7 => obV (fX8_token st_7) (fun st_8 => obV (fX8_battery st_8) (fun st_9 => obV (fX8_settings st_9) (fun st_10 => fX8_load_49 (fun st_13 => ob (fX8_isWrong st_13) (fun x_14 => oj1 (fun (st_16 : uSt) => ob (fX8_isWrong st_16) (fun x_17 => oj1 (fun (v_19 : Int32) => obS (fX8_may v_19 (1 : Int32) st_16) (fun x_21 st_20 => (if x_21 = 0 then some ((0 : Int32), st_20) else obV (fX8_takes st_20) (fun st_22 => some (st_22.1 1 9, st_22))))) (fun j_18 => (if x_17 = 0 then (j_18 (1 : Int32)) else (j_18 (0 : Int32)))))) (fun j_15 => (if x_14 = 0 then (if (st_13.1 0 11) = 0 then (j_15 st_13) else obV (fX8_fails (1 : Int32) st_13) (fun st_23 => (j_15 st_23))) else (j_15 st_13))))) FU st_10))))))))))
def fX8_errorCode   (st : uSt) : Option (Int32 × uSt) :=
  ol (sI st 0 0 (0 : Int32)) (fun st_1 => some (st_1.1 0 13, st_1))
def fX8_errorPosition   (st : uSt) : Option (Int32 × uSt) :=
  ol (sI st 0 0 (0 : Int32)) (fun st_1 => some (st_1.1 0 14, st_1))
def fX8_isDevice  (p1 : Int32) (st : uSt) : Option Int32 :=
  ob (fX8_isIn p1 (0 : Int32) ((st.1 1 9) - (1 : Int32))) (fun x_1 => og (isB x_1) (some x_1))
def fX8_isBlock  (p1 : Int32) (st : uSt) : Option Int32 :=
  ob (fX8_isIn p1 (0 : Int32) ((st.1 1 36) - (1 : Int32))) (fun x_1 => og (isB x_1) (some x_1))
def fX8_of  (p1 : Int32) (p2 : Int32) (st : uSt) : Option Int32 :=
  og (inB (((37 : Int32) + ((3 : Int32) * p1)) + p2) 109) (some (st.1 1 (((37 : Int32) + ((3 : Int32) * p1)) + p2).toNatClampNeg))
def fX8_deviceOf  (p1 : Int32) (st : uSt) : Option Int32 :=
  ob (fX8_of p1 (0 : Int32) st) (fun x_1 => some (x_1 / (100 : Int32)))
def fX8_hasFailed  (p1 : Int32) (st : uSt) : Option Int32 :=
  ob (fX8_has (st.1 1 25) p1) (fun x_1 => og (isB x_1) (some x_1))
def fX8_blockAt_2  (l1 : Int32) (l2 : Int32) (st : uSt) (ke : Option Int32) : Nat → Int32 → Option Int32
  | 0, _ => none
  | n + 1, l3 =>
    (if (st.1 1 36) ≤ l3 then ke else ob (fX8_of l3 (0 : Int32) st) (fun x_2 => (if x_2 = (((100 : Int32) * l1) + l2) then some l3 else ol (l3 + 1) (fun l3_3 => fX8_blockAt_2 l1 l2 st ke n l3_3))))
def fX8_blockAt  (p1 : Int32) (p2 : Int32) (st : uSt) : Option Int32 :=
  fX8_blockAt_2 p1 p2 st (some (-1 : Int32)) FU (0 : Int32)
def fX8_comes_39  (l3 : Int32) (l4 : Int32) (l5 : Int32) (ke : uSt → Option (Unit × uSt)) : Nat → uSt → Int32 → Option (Unit × uSt)
  | 0, _, _ => none
  | n + 1, st, l6 =>
    (if (3 : Int32) ≤ l6 then (ke st) else ob (fX8_of (l5 - (1 : Int32)) l6 st) (fun x_5 => og (inB (((37 : Int32) + ((3 : Int32) * l5)) + l6) 109) (ol (sI st 1 (((37 : Int32) + ((3 : Int32) * l5)) + l6).toNatClampNeg x_5) (fun st_6 => ol (l6 + 1) (fun l6_7 => fX8_comes_39 l3 l4 l5 ke n st_6 l6_7)))))
def fX8_comes_17  (l3 : Int32) (l4 : Int32) (ke : uSt → Int32 → Option (Unit × uSt)) : Nat → uSt → Int32 → Option (Unit × uSt)
  | 0, _, _ => none
  | n + 1, st, l5 =>
    (if l5 ≤ 0 then (ke st l5) else ob (fX8_of (l5 - (1 : Int32)) (0 : Int32) st) (fun x_3 => (if x_3 ≤ l4 then (ke st l5) else fX8_comes_39 l3 l4 l5 (fun st_8 => ol (l5 + (-1)) (fun l5_9 => fX8_comes_17 l3 l4 ke n st_8 l5_9)) FU st (0 : Int32))))
def fX8_comes  (p1 : Int32) (p2 : Int32) (p3 : Int32) (st : uSt) : Option (Unit × uSt) :=
  ol (((100 : Int32) * p1) + p2) (fun l4_1 => ol (st.1 1 36) (fun l5_2 => fX8_comes_17 p3 l4_1 (fun st_11 l5_10 => og (inB ((37 : Int32) + ((3 : Int32) * l5_10)) 109) (ol (sI st_11 1 ((37 : Int32) + ((3 : Int32) * l5_10)).toNatClampNeg l4_1) (fun st_12 => og (inB (((37 : Int32) + ((3 : Int32) * l5_10)) + (1 : Int32)) 109) (ol (sI st_12 1 (((37 : Int32) + ((3 : Int32) * l5_10)) + (1 : Int32)).toNatClampNeg p3) (fun st_13 => og (inB (((37 : Int32) + ((3 : Int32) * l5_10)) + (2 : Int32)) 109) (ol (sI st_13 1 (((37 : Int32) + ((3 : Int32) * l5_10)) + (2 : Int32)).toNatClampNeg (st_13.1 1 26)) (fun st_14 => ol (sI st_14 1 36 ((st_14.1 1 36) + (1 : Int32))) (fun st_15 => some ((), st_15))))))))) FU st l5_2))
def fX8_goes_18   (ke : uSt → Option (Unit × uSt)) : Nat → uSt → Int32 → Option (Unit × uSt)
  | 0, _, _ => none
  | n + 1, st, l2 =>
    (if ((37 : Int32) + ((3 : Int32) * (st.1 1 36))) ≤ l2 then (ke st) else og (inB (l2 + (3 : Int32)) 109) (og (inB l2 109) (ol (sI st 1 l2.toNatClampNeg (st.1 1 (l2 + (3 : Int32)).toNatClampNeg)) (fun st_3 => ol (l2 + 1) (fun l2_4 => fX8_goes_18 ke n st_3 l2_4)))))
def fX8_goes  (p1 : Int32) (st : uSt) : Option (Unit × uSt) :=
  ol (sI st 1 36 ((st.1 1 36) - (1 : Int32))) (fun st_1 => ol ((37 : Int32) + ((3 : Int32) * p1)) (fun l2_2 => fX8_goes_18 (fun st_5 => some ((), st_5)) FU st_1 l2_2))
def fX8_allGo_10  (l1 : Int32) (ke : uSt → Option (Unit × uSt)) : Nat → uSt → Int32 → Option (Unit × uSt)
  | 0, _, _ => none
  | n + 1, st, l2 =>
    (if l2 < 0 then (ke st) else ob (fX8_has l1 l2) (fun x_2 => (if x_2 = 0 then ol (l2 + (-1)) (fun l2_3 => fX8_allGo_10 l1 ke n st l2_3) else obV (fX8_goes l2 st) (fun st_4 => ol (l2 + (-1)) (fun l2_5 => fX8_allGo_10 l1 ke n st_4 l2_5)))))
def fX8_allGo  (p1 : Int32) (st : uSt) : Option (Unit × uSt) :=
  ol ((st.1 1 36) - (1 : Int32)) (fun l2_1 => fX8_allGo_10 p1 (fun st_6 => some ((), st_6)) FU st l2_1)
def fX8_all   (st : uSt) : Option Int32 :=
  some (((1 : Int32) <<< ((st.1 1 36) &&& 31)) - (1 : Int32))
def fX8_setOf_4  (l1 : Int32) (st : uSt) (ke : Int32 → Option Int32) : Nat → Int32 → Int32 → Option Int32
  | 0, _, _ => none
  | n + 1, l2, l3 =>
    (if (st.1 1 36) ≤ l3 then (ke l2) else ob (fX8_deviceOf l3 st) (fun x_3 => oj1 (fun (v_5 : Int32) => ol (l2 ||| v_5) (fun l2_6 => ol (l3 + 1) (fun l3_7 => fX8_setOf_4 l1 st ke n l2_6 l3_7))) (fun j_4 => (if x_3 = l1 then (j_4 ((1 : Int32) <<< (l3 &&& 31))) else (j_4 (0 : Int32))))))
def fX8_setOf  (p1 : Int32) (st : uSt) : Option Int32 :=
  fX8_setOf_4 p1 st (fun l2_8 => some l2_8) FU (0 : Int32) (0 : Int32)
def fX8_possible_4   (st : uSt) (ke : Int32 → Option Int32) : Nat → Int32 → Int32 → Option Int32
  | 0, _, _ => none
  | n + 1, l1, l2 =>
    (if (st.1 1 36) ≤ l2 then (ke l1) else ob (fX8_deviceOf l2 st) (fun x_3 => ob (fX8_hasFailed x_3 st) (fun x_4 => oj1 (fun (v_6 : Int32) => ol (l1 ||| v_6) (fun l1_7 => ol (l2 + 1) (fun l2_8 => fX8_possible_4 st ke n l1_7 l2_8))) (fun j_5 => (if x_4 = 0 then (j_5 ((1 : Int32) <<< (l2 &&& 31))) else (j_5 (0 : Int32)))))))
def fX8_possible   (st : uSt) : Option Int32 :=
  fX8_possible_4 st (fun l1_9 => some l1_9) FU (0 : Int32) (0 : Int32)
def fX8_bits_4  (l0 : Int32) (ke : Int32 → Option Int32) : Nat → Int32 → Int32 → Option Int32
  | 0, _, _ => none
  | n + 1, l1, l2 =>
    (if (24 : Int32) ≤ l2 then (ke l1) else ol (l1 + ((l0 >>> (l2 &&& 31)) &&& (1 : Int32))) (fun l1_3 => ol (l2 + 1) (fun l2_4 => fX8_bits_4 l0 ke n l1_3 l2_4)))
def fX8_bits  (p0 : Int32) : Option Int32 :=
  fX8_bits_4 p0 (fun l1_5 => some l1_5) FU (0 : Int32) (0 : Int32)
def fX8_valueIn_4  (l1 : Int32) (st : uSt) (ke : Int32 → Option Int32) : Nat → Int32 → Int32 → Option Int32
  | 0, _, _ => none
  | n + 1, l2, l3 =>
    (if (st.1 1 36) ≤ l3 then (ke l2) else ob (fX8_has l1 l3) (fun x_3 => oj1 (fun (v_5 : Int32) => ol (l2 + v_5) (fun l2_6 => ol (l3 + 1) (fun l3_7 => fX8_valueIn_4 l1 st ke n l2_6 l3_7))) (fun j_4 => (if x_3 = 0 then (j_4 (0 : Int32)) else ob (fX8_of l3 (1 : Int32) st) (fun x_8 => (j_4 x_8))))))
def fX8_valueIn  (p1 : Int32) (st : uSt) : Option Int32 :=
  fX8_valueIn_4 p1 st (fun l2_9 => some l2_9) FU (0 : Int32) (0 : Int32)
def fX8_energyIn_7  (l1 : Int32) (st : uSt) (ke : Int32 → Option Int32) : Nat → Int32 → Int32 → Int32 → Option Int32
  | 0, _, _, _ => none
  | n + 1, l2, l3, l4 =>
    (if (st.1 1 36) ≤ l4 then (ke l2) else ob (fX8_has l1 l4) (fun x_4 => (if x_4 = 0 then ol (l4 + 1) (fun l4_5 => fX8_energyIn_7 l1 st ke n l2 l3 l4_5) else ob (fX8_deviceOf l4 st) (fun x_6 => ol ((10 : Int32) + ((3 : Int32) * x_6)) (fun l5_7 => oj1 (fun (v_9 : Int32) => oj1 (fun (v_12 : Int32) => oj1 (fun (v_15 : Int32) => oj1 (fun (v_17 : Int32) => og (inB (l5_7 + (2 : Int32)) 109) (ol (l2 + ((v_15 + v_17) + (st.1 1 (l5_7 + (2 : Int32)).toNatClampNeg))) (fun l2_18 => ol (l4 + 1) (fun l4_20 => fX8_energyIn_7 l1 st ke n l2_18 l4 l4_20)))) (fun j_16 => (if v_12 = 0 then og (inB (l5_7 + (1 : Int32)) 109) ((j_16 (st.1 1 (l5_7 + (1 : Int32)).toNatClampNeg))) else (j_16 (0 : Int32))))) (fun j_14 => (if v_9 = 0 then (j_14 (0 : Int32)) else og (inB (l5_7 + (0 : Int32)) 109) ((j_14 (st.1 1 (l5_7 + (0 : Int32)).toNatClampNeg)))))) (fun j_11 => oj0 ((j_11 (0 : Int32))) (fun j_21 => (if v_9 = 0 then ob (fX8_of l3 (0 : Int32) st) (fun x_22 => ob (fX8_of l4 (0 : Int32) st) (fun x_23 => (if (x_22 + (1 : Int32)) = x_23 then (j_11 (1 : Int32)) else j_21))) else j_21)))) (fun j_8 => (if l3 = (-1 : Int32) then (j_8 (1 : Int32)) else ob (fX8_deviceOf l3 st) (fun x_24 => ob (fX8_deviceOf l4 st) (fun x_25 => (if x_24 = x_25 then (j_8 (0 : Int32)) else (j_8 (1 : Int32))))))))))))
def fX8_energyIn  (p1 : Int32) (st : uSt) : Option Int32 :=
  fX8_energyIn_7 p1 st (fun l2_26 => some l2_26) FU (0 : Int32) (-1 : Int32) (0 : Int32)
def fX8_needed   (st : uSt) : Option Int32 :=
  ob (fX8_possible st) (fun x_1 => ob (fX8_energyIn x_1 st) (fun x_2 => some x_2))
def fX8_report  (p1 : Int32) (st : uSt) : Option (Int32 × uSt) :=
  ol (sI st 0 0 (0 : Int32)) (fun st_1 => ob (fX8_isIn p1 (0 : Int32) (8 : Int32)) (fun x_2 => obS (fX8_may x_2 (1 : Int32) st_1) (fun x_4 st_3 => (if x_4 = 0 then some ((0 : Int32), st_3) else (if p1.toInt < 0 ∨ 7 < p1.toInt then some (st_3.1 1 28, st_3) else if p1 = 0 then some (st_3.1 1 0, st_3) else if p1 = 1 then some (st_3.1 1 1, st_3) else if p1 = 2 then some (st_3.1 1 26, st_3) else if p1 = 3 then some (st_3.1 1 27, st_3) else if p1 = 4 then some (st_3.1 1 36, st_3) else if p1 = 5 then some (st_3.1 1 9, st_3) else if p1 = 6 then some (st_3.1 1 7, st_3) else if p1 = 7 then some (st_3.1 1 8, st_3) else none)))))
def fX8_device  (p1 : Int32) (p2 : Int32) (st : uSt) : Option (Int32 × uSt) :=
  ol (sI st 0 0 (0 : Int32)) (fun st_1 => ob (fX8_isDevice p1 st_1) (fun x_2 => obS (fX8_may x_2 (1 : Int32) st_1) (fun x_4 st_3 => (if x_4 = 0 then some ((0 : Int32), st_3) else ob (fX8_isIn p2 (0 : Int32) (6 : Int32)) (fun x_5 => obS (fX8_may x_5 (2 : Int32) st_3) (fun x_7 st_6 => (if x_7 = 0 then some ((0 : Int32), st_6) else (if (3 : Int32) ≤ p2 then (if p2 = (3 : Int32) then ob (fX8_hasFailed p1 st_6) (fun x_8 => (if x_8 = 0 then some ((0 : Int32), st_6) else some ((1 : Int32), st_6))) else ob (fX8_setOf p1 st_6) (fun x_9 => (if p2 = (4 : Int32) then ob (fX8_bits x_9) (fun x_11 => some (x_11, st_6)) else (if p2 = (5 : Int32) then ob (fX8_valueIn x_9 st_6) (fun x_12 => some (x_12, st_6)) else ob (fX8_energyIn x_9 st_6) (fun x_13 => some (x_13, st_6)))))) else og (inB (((10 : Int32) + ((3 : Int32) * p1)) + p2) 109) (some (st_6.1 1 (((10 : Int32) + ((3 : Int32) * p1)) + p2).toNatClampNeg, st_6))))))))))
def fX8_block  (p1 : Int32) (p2 : Int32) (st : uSt) : Option (Int32 × uSt) :=
  ol (sI st 0 0 (0 : Int32)) (fun st_1 => ob (fX8_isBlock p1 st_1) (fun x_2 => obS (fX8_may x_2 (1 : Int32) st_1) (fun x_4 st_3 => (if x_4 = 0 then some ((0 : Int32), st_3) else ob (fX8_isIn p2 (0 : Int32) (3 : Int32)) (fun x_5 => obS (fX8_may x_5 (2 : Int32) st_3) (fun x_7 st_6 => (if x_7 = 0 then some ((0 : Int32), st_6) else (if p2 = 0 then ob (fX8_deviceOf p1 st_6) (fun x_8 => some (x_8, st_6)) else (if p2 = (1 : Int32) then ob (fX8_of p1 (0 : Int32) st_6) (fun x_9 => some (x_9 - x_9 / (100 : Int32) * (100 : Int32), st_6)) else (if p2 = (2 : Int32) then ob (fX8_of p1 (1 : Int32) st_6) (fun x_10 => some (x_10, st_6)) else ob (fX8_of p1 (2 : Int32) st_6) (fun x_11 => some ((st_6.1 1 26) - x_11, st_6))))))))))))
def fX8_isPlace  (p1 : Int32) (p2 : Int32) (st : uSt) : Option Int32 :=
  ob (fX8_isDevice p1 st) (fun x_1 => (if x_1 = 0 then some (0 : Int32) else ob (fX8_isIn p2 (0 : Int32) (99 : Int32)) (fun x_2 => (if x_2 = 0 then some (0 : Int32) else some (1 : Int32)))))
def fX8_find  (p1 : Int32) (p2 : Int32) (st : uSt) : Option (Int32 × uSt) :=
  ol (sI st 0 0 (0 : Int32)) (fun st_1 => ob (fX8_isPlace p1 p2 st_1) (fun x_2 => obS (fX8_may x_2 (1 : Int32) st_1) (fun x_4 st_3 => (if x_4 = 0 then some ((0 : Int32), st_3) else ob (fX8_blockAt p1 p2 st_3) (fun x_5 => oj1 (fun (v_8 : Int32) => obS (fX8_may v_8 (2 : Int32) st_3) (fun x_10 st_9 => (if x_10 = 0 then some ((0 : Int32), st_9) else some (x_5, st_9)))) (fun j_7 => (if x_5 = (-1 : Int32) then (j_7 (0 : Int32)) else (j_7 (1 : Int32)))))))))
def fX8_oldest_34   (st : uSt) (ke : Int32 → Option (Int32 × uSt)) : Nat → Int32 → Int32 → Option (Int32 × uSt)
  | 0, _, _ => none
  | n + 1, l1, l2 =>
    (if (st.1 1 36) ≤ l2 then (ke l1) else ob (fX8_of l2 (2 : Int32) st) (fun x_8 => ob (fX8_of l1 (2 : Int32) st) (fun x_9 => oj1 (fun (v_11 : Int32) => ol (l2 + 1) (fun l2_13 => fX8_oldest_34 st ke n v_11 l2_13)) (fun j_10 => (if x_9 ≤ x_8 then (j_10 l1) else (j_10 l2))))))
def fX8_oldest   (st : uSt) : Option (Int32 × uSt) :=
  ol (sI st 0 0 (0 : Int32)) (fun st_1 => oj1 (fun (v_3 : Int32) => obS (fX8_may v_3 (1 : Int32) st_1) (fun x_5 st_4 => (if x_5 = 0 then some ((0 : Int32), st_4) else fX8_oldest_34 st_4 (fun l1_14 => some (l1_14, st_4)) FU (0 : Int32) (1 : Int32)))) (fun j_2 => (if (st_1.1 1 36) ≤ 0 then (j_2 (0 : Int32)) else (j_2 (1 : Int32)))))
def fX8_total  (p1 : Int32) (st : uSt) : Option (Int32 × uSt) :=
  ol (sI st 0 0 (0 : Int32)) (fun st_1 => ob (fX8_isIn p1 (0 : Int32) (6 : Int32)) (fun x_2 => obS (fX8_may x_2 (1 : Int32) st_1) (fun x_4 st_3 => (if x_4 = 0 then some ((0 : Int32), st_3) else og (inB ((29 : Int32) + p1) 109) (some (st_3.1 1 ((29 : Int32) + p1).toNatClampNeg, st_3))))))
def fX8_isGuarded_4   (st : uSt) (ke : Int32 → Option Int32) : Nat → Int32 → Int32 → Option Int32
  | 0, _, _ => none
  | n + 1, l1, l2 =>
    (if (st.1 1 36) ≤ l2 then (ke l1) else ob (fX8_deviceOf l2 st) (fun x_3 => ob (fX8_hasFailed x_3 st) (fun x_4 => oj1 (fun (v_6 : Int32) => oj1 (fun (v_9 : Int32) => ol (l1 ||| v_9) (fun l1_10 => ol (l2 + 1) (fun l2_11 => fX8_isGuarded_4 st ke n l1_10 l2_11))) (fun j_8 => (if v_6 = 0 then (j_8 (0 : Int32)) else (j_8 ((1 : Int32) <<< (l2 &&& 31)))))) (fun j_5 => oj0 ((j_5 (0 : Int32))) (fun j_12 => (if x_4 = 0 then (if (st.1 1 7) = (1 : Int32) then ob (fX8_of l2 (1 : Int32) st) (fun x_13 => (if x_13 < (st.1 1 8) then j_12 else (j_5 (1 : Int32)))) else (j_5 (1 : Int32))) else j_12))))))
def fX8_isGuarded   (st : uSt) : Option Int32 :=
  fX8_isGuarded_4 st (fun l1_14 => ob (fX8_energyIn l1_14 st) (fun x_15 => (if ((st.1 1 1) - (st.1 1 5)) < x_15 then some (0 : Int32) else some (1 : Int32)))) FU (0 : Int32) (0 : Int32)
def fX8_lays  (p1 : Int32) (p2 : Int32) (p3 : Int32) (st : uSt) : Option (Int32 × uSt) :=
  ob (fX8_blockAt p1 p2 st) (fun x_1 => (if (st.1 1 7) = (2 : Int32) then some ((0 : Int32), st) else oj0 (oj1 (fun (v_5 : Int32) => oj1 (fun (st_8 : uSt) => ob (fX8_isGuarded st_8) (fun x_9 => (if x_9 = 0 then (if x_1 = (-1 : Int32) then ob (fX8_blockAt p1 p2 st_8) (fun x_10 => obV (fX8_goes x_10 st_8) (fun st_11 => some ((0 : Int32), st_11))) else og (inB (((37 : Int32) + ((3 : Int32) * x_1)) + (1 : Int32)) 109) (ol (sI st_8 1 (((37 : Int32) + ((3 : Int32) * x_1)) + (1 : Int32)).toNatClampNeg v_5) (fun st_12 => some ((0 : Int32), st_12)))) else some ((1 : Int32), st_8)))) (fun j_7 => (if x_1 = (-1 : Int32) then obV (fX8_comes p1 p2 p3 st) (fun st_13 => (j_7 st_13)) else og (inB (((37 : Int32) + ((3 : Int32) * x_1)) + (1 : Int32)) 109) (ol (sI st 1 (((37 : Int32) + ((3 : Int32) * x_1)) + (1 : Int32)).toNatClampNeg p3) (fun st_14 => (j_7 st_14)))))) (fun j_4 => (if x_1 = (-1 : Int32) then (j_4 (0 : Int32)) else ob (fX8_of x_1 (1 : Int32) st) (fun x_15 => (j_4 x_15))))) (fun j_3 => (if x_1 = (-1 : Int32) then (if (st.1 1 36) < (st.1 1 6) then j_3 else some ((0 : Int32), st)) else j_3))))
def fX8_mayWrite  (p1 : Int32) (p2 : Int32) (p3 : Int32) (st : uSt) : Option (Int32 × uSt) :=
  ob (fX8_isPlace p1 p2 st) (fun x_1 => obS (fX8_may x_1 (1 : Int32) st) (fun x_3 st_2 => (if x_3 = 0 then some ((0 : Int32), st_2) else ob (fX8_isIn p3 (1 : Int32) (99 : Int32)) (fun x_4 => obS (fX8_may x_4 (2 : Int32) st_2) (fun x_6 st_5 => (if x_6 = 0 then some ((0 : Int32), st_5) else oj1 (fun (v_8 : Int32) => obS (fX8_may v_8 (3 : Int32) st_5) (fun x_10 st_9 => (if x_10 = 0 then some ((0 : Int32), st_9) else some ((1 : Int32), st_9)))) (fun j_7 => oj0 ((j_7 (0 : Int32))) (fun j_11 => (if (st_5.1 1 27) = (1 : Int32) then ob (fX8_hasFailed p1 st_5) (fun x_12 => (if x_12 = 0 then (j_7 (1 : Int32)) else j_11)) else j_11)))))))))
def fX8_write  (p1 : Int32) (p2 : Int32) (p3 : Int32) (st : uSt) : Option (Int32 × uSt) :=
  ol (sI st 0 0 (0 : Int32)) (fun st_1 => obS (fX8_mayWrite p1 p2 p3 st_1) (fun x_3 st_2 => (if x_3 = 0 then some ((0 : Int32), st_2) else obS (fX8_lays p1 p2 p3 st_2) (fun x_5 st_4 => ob (fX8_blockAt p1 p2 st_4) (fun x_7 => oj1 (fun (st_10 : uSt) => oj1 (fun (v_12 : Int32) => og (inB ((29 : Int32) + v_12) 109) (og (inB ((29 : Int32) + v_12) 109) (ol (sI st_10 1 ((29 : Int32) + v_12).toNatClampNeg ((st_10.1 1 ((29 : Int32) + v_12).toNatClampNeg) + (1 : Int32))) (fun st_13 => og (isB x_5) (some (x_5, st_13)))))) (fun j_11 => (if x_5 = 0 then (j_11 (1 : Int32)) else (j_11 (0 : Int32))))) (fun j_9 => (if x_5 = 0 then (if x_7 = (-1 : Int32) then (j_9 st_4) else obV (fX8_goes x_7 st_4) (fun st_14 => (j_9 st_14))) else (j_9 st_4))))))))
def fX8_wouldCache_20  (l1 : Int32) (l2 : Int32) (l3 : Int32) (ke : uSt → Option (Int32 × uSt)) : Nat → uSt → Int32 → Option (Int32 × uSt)
  | 0, _, _ => none
  | n + 1, st, l4 =>
    (if (109 : Int32) ≤ l4 then (ke st) else og (inB l4 109) (og (inB l4 109) (ol (sI st 4 l4.toNatClampNeg (st.1 1 l4.toNatClampNeg)) (fun st_5 => ol (l4 + 1) (fun l4_6 => fX8_wouldCache_20 l1 l2 l3 ke n st_5 l4_6)))))
def fX8_wouldCache_59  (l4 : Int32) (ke : uSt → Option (Int32 × uSt)) : Nat → uSt → Int32 → Option (Int32 × uSt)
  | 0, _, _ => none
  | n + 1, st, l5 =>
    (if (109 : Int32) ≤ l5 then (ke st) else og (inB l5 109) (og (inB l5 109) (ol (sI st 1 l5.toNatClampNeg (st.1 4 l5.toNatClampNeg)) (fun st_12 => ol (l5 + 1) (fun l5_13 => fX8_wouldCache_59 l4 ke n st_12 l5_13)))))
def fX8_wouldCache  (p1 : Int32) (p2 : Int32) (p3 : Int32) (st : uSt) : Option (Int32 × uSt) :=
  ol (sI st 0 0 (0 : Int32)) (fun st_1 => obS (fX8_mayWrite p1 p2 p3 st_1) (fun x_3 st_2 => (if x_3 = 0 then some ((0 : Int32), st_2) else fX8_wouldCache_20 p1 p2 p3 (fun st_7 => obS (fX8_lays p1 p2 p3 st_7) (fun x_9 st_8 => fX8_wouldCache_59 x_9 (fun st_14 => og (isB x_9) (some (x_9, st_14))) FU st_8 (0 : Int32))) FU st_2 (0 : Int32))))
def fX8_clean  (p1 : Int32) (st : uSt) : Option (Int32 × uSt) :=
  ol (sI st 0 0 (0 : Int32)) (fun st_1 => ob (fX8_isDevice p1 st_1) (fun x_2 => obS (fX8_may x_2 (1 : Int32) st_1) (fun x_4 st_3 => (if x_4 = 0 then some ((0 : Int32), st_3) else oj1 (fun (v_6 : Int32) => obS (fX8_may v_6 (2 : Int32) st_3) (fun x_8 st_7 => (if x_8 = 0 then some ((0 : Int32), st_7) else ob (fX8_setOf p1 st_7) (fun x_9 => obV (fX8_allGo x_9 st_7) (fun st_11 => ob (fX8_bits x_9) (fun x_12 => ol (sI st_11 1 35 ((st_11.1 1 35) + x_12)) (fun st_13 => ob (fX8_bits x_9) (fun x_14 => some (x_14, st_13))))))))) (fun j_5 => oj0 ((j_5 (0 : Int32))) (fun j_15 => (if (st_3.1 1 27) = (1 : Int32) then ob (fX8_hasFailed p1 st_3) (fun x_16 => (if x_16 = 0 then (j_5 (1 : Int32)) else j_15)) else j_15)))))))
def fX8_setFailed  (p1 : Int32) (p2 : Int32) (st : uSt) : Option (Int32 × uSt) :=
  ol (sI st 0 0 (0 : Int32)) (fun st_1 => ob (fX8_isDevice p1 st_1) (fun x_2 => obS (fX8_may x_2 (1 : Int32) st_1) (fun x_4 st_3 => (if x_4 = 0 then some ((0 : Int32), st_3) else ob (fX8_hasFailed p1 st_3) (fun x_5 => oj1 (fun (v_8 : Int32) => ol (sI st_3 1 25 v_8) (fun st_9 => og (isB x_5) (some (x_5, st_9)))) (fun j_7 => (if p2 = 0 then (j_7 ((st_3.1 1 25) &&& (((1 : Int32) <<< (p1 &&& 31)) ^^^ (-1 : Int32)))) else (j_7 ((st_3.1 1 25) ||| ((1 : Int32) <<< (p1 &&& 31)))))))))))
def fX8_setMode  (p1 : Int32) (p2 : Int32) (st : uSt) : Option (Int32 × uSt) :=
  ol (sI st 0 0 (0 : Int32)) (fun st_1 => ob (fX8_isIn p1 (0 : Int32) (2 : Int32)) (fun x_2 => oj1 (fun (v_4 : Int32) => obS (fX8_may v_4 (1 : Int32) st_1) (fun x_7 st_6 => (if x_7 = 0 then some ((0 : Int32), st_6) else ol (st_6.1 1 7) (fun l4_8 => ol (sI st_6 1 7 p1) (fun st_9 => ol (sI st_9 1 8 p2) (fun st_10 => some (l4_8, st_10))))))) (fun j_3 => oj0 ((j_3 (0 : Int32))) (fun j_11 => (if x_2 = 0 then j_11 else (if p1 = (1 : Int32) then ob (fX8_isIn p2 (1 : Int32) (99 : Int32)) (fun x_12 => (if x_12 = 0 then j_11 else (j_3 (1 : Int32)))) else (if p2 = 0 then (j_3 (1 : Int32)) else j_11)))))))
def fX8_setPower  (p1 : Int32) (st : uSt) : Option (Int32 × uSt) :=
  ol (sI st 0 0 (0 : Int32)) (fun st_1 => oj1 (fun (v_3 : Int32) => oj1 (fun (v_6 : Int32) => ol (sI st_1 1 27 v_6) (fun st_7 => og (isB v_3) (some (v_3, st_7)))) (fun j_5 => (if p1 = 0 then (j_5 (0 : Int32)) else (j_5 (1 : Int32))))) (fun j_2 => (if (st_1.1 1 27) = (1 : Int32) then (j_2 (1 : Int32)) else (j_2 (0 : Int32)))))
def fX8_drains  (p1 : Int32) (st : uSt) : Option (Unit × uSt) :=
  og (nzB (st.1 1 4)) (ol ((st.1 1 28) / (st.1 1 4)) (fun l2_1 => ol (sI st 1 1 ((st.1 1 1) - p1)) (fun st_2 => ol (sI st_2 1 28 ((st_2.1 1 28) + p1)) (fun st_3 => og (nzB (st_3.1 1 4)) (ol (sI st_3 1 0 ((st_3.1 1 0) - (((st_3.1 1 28) / (st_3.1 1 4)) - l2_1))) (fun st_4 => oj1 (fun (st_6 : uSt) => (if (st_6.1 1 1) ≤ (st_6.1 1 0) then some ((), st_6) else ol (sI st_6 1 1 (st_6.1 1 0)) (fun st_7 => some ((), st_7)))) (fun j_5 => (if (1 : Int32) ≤ (st_4.1 1 0) then (j_5 st_4) else ol (sI st_4 1 0 (1 : Int32)) (fun st_8 => (j_5 st_8))))))))))
def fX8_minuteWithout   (st : uSt) : Option (Unit × uSt) :=
  oj1 (fun (v_2 : Int32) => obV (fX8_drains v_2 st) (fun st_3 => some ((), st_3))) (fun j_1 => (if (st.1 1 1) ≤ (st.1 1 3) then (j_1 (st.1 1 1)) else (j_1 (st.1 1 3))))
def fX8_advance_27  (l1 : Int32) (ke : uSt → Int32 → Option (Int32 × uSt)) : Nat → uSt → Int32 → Int32 → Option (Int32 × uSt)
  | 0, _, _, _ => none
  | n + 1, st, l2, l3 =>
    (if l1 ≤ l3 then (ke st l2) else ol (sI st 1 26 ((st.1 1 26) + (1 : Int32))) (fun st_7 => oj1 (fun (st_9 : uSt) => (if (st_9.1 1 27) = (1 : Int32) then ol (l3 + 1) (fun l3_10 => fX8_advance_27 l1 ke n st_9 l2 l3_10) else (if (st_9.1 1 1) ≤ 0 then ob (fX8_all st_9) (fun x_11 => ob (fX8_valueIn x_11 st_9) (fun x_12 => ol (l2 + x_12) (fun l2_13 => ol (sI st_9 1 32 ((st_9.1 1 32) + (st_9.1 1 36))) (fun st_14 => ol (sI st_14 1 36 (0 : Int32)) (fun st_15 => ol (l3 + 1) (fun l3_16 => fX8_advance_27 l1 ke n st_15 l2_13 l3_16)))))) else ol (l3 + 1) (fun l3_17 => fX8_advance_27 l1 ke n st_9 l2 l3_17)))) (fun j_8 => (if (st_7.1 1 27) = (1 : Int32) then oj1 (fun (v_19 : Int32) => ol (sI st_7 1 1 v_19) (fun st_20 => (j_8 st_20))) (fun j_18 => (if (st_7.1 1 0) ≤ ((st_7.1 1 1) + (st_7.1 1 2)) then (j_18 (st_7.1 1 0)) else (j_18 ((st_7.1 1 1) + (st_7.1 1 2))))) else obV (fX8_minuteWithout st_7) (fun st_21 => (j_8 st_21))))))
def fX8_advance  (p1 : Int32) (st : uSt) : Option (Int32 × uSt) :=
  ol (sI st 0 0 (0 : Int32)) (fun st_1 => ob (fX8_isIn p1 (1 : Int32) (1000 : Int32)) (fun x_2 => obS (fX8_may x_2 (1 : Int32) st_1) (fun x_4 st_3 => (if x_4 = 0 then some ((0 : Int32), st_3) else fX8_advance_27 p1 (fun st_23 l2_22 => ol (sI st_23 1 34 ((st_23.1 1 34) + l2_22)) (fun st_24 => some (l2_22, st_24))) FU st_3 (0 : Int32) (0 : Int32)))))
set_option maxRecDepth 100000 in
set_option maxHeartbeats 4000000 in
theorem kX8_isIn {l : Launch} {V : uV} (W0 : uWM l V) {p0 : Int32} {p1 : Int32} {p2 : Int32} {st : uSt} {r : Int32} (h : fX8_isIn p0 p1 p2 = some r) : uMet l V yX8_isIn cX8_isIn 3 (some .boolean) 0 0 0 0 [.int p0, .int p1, .int p2] st (some (.int r)) st := by
  refine ux_met W0.1 W0.2.1 (by decide) rfl (Nat.le_of_ble_eq_true rfl) (fun M hL hr C => ?_)
  subst hL
  have C : uCx M V cX8_isIn 3 RX8 0 0 0 0 := C
  unfold fX8_isIn at h
  refine ux_iload_n C dX8_isIn_0 0 rfl ?_
  refine ux_iload_n C dX8_isIn_1 1 rfl ?_
  refine ux_icmp_lt C dX8_isIn_2 h (fun h => ?_) (fun h => ?_)
  · refine ux_iconst (v := 0) C dX8_isIn_14 (by decide) ?_
    exact ux_zretK C hr dX8_isIn_15 (by decide) h (Nat.le_of_ble_eq_true rfl) (Nat.le_of_ble_eq_true rfl)
  · refine ux_iload_n C dX8_isIn_5 0 rfl ?_
    refine ux_iload_n C dX8_isIn_6 2 rfl ?_
    refine ux_icmp_gt C dX8_isIn_7 h (fun h => ?_) (fun h => ?_)
    · refine ux_iconst (v := 0) C dX8_isIn_14 (by decide) ?_
      exact ux_zretK C hr dX8_isIn_15 (by decide) h (Nat.le_of_ble_eq_true rfl) (Nat.le_of_ble_eq_true rfl)
    · refine ux_iconst (v := 1) C dX8_isIn_10 (by decide) ?_
      refine ux_goto C dX8_isIn_11 ?_
      exact ux_zretK C hr dX8_isIn_15 (by decide) h (Nat.le_of_ble_eq_true rfl) (Nat.le_of_ble_eq_true rfl)
set_option maxRecDepth 100000 in
set_option maxHeartbeats 4000000 in
theorem kX8_may {l : Launch} {V : uV} (W0 : uWM l V) {p1 : Int32} {p2 : Int32} {st : uSt} {r : Int32} {s9 : uSt} (h : fX8_may p1 p2 st = some (r, s9)) : uMet l V yX8_may cX8_may 3 (some .boolean) 0 0 0 0 [.ref (vA V 0), .int p1, .int p2] st (some (.int r)) s9 := by
  refine ux_met W0.1 W0.2.1 (by decide) rfl (Nat.le_of_ble_eq_true rfl) (fun M hL hr C => ?_)
  subst hL
  have C : uCx M V cX8_may 3 RX8 0 0 0 0 := C
  unfold fX8_may at h
  refine ux_iload_n C dX8_may_0 1 rfl ?_
  obtain ⟨j_1, hK_1, h⟩ := oj1_some h
  have hJ_1 : ∀ (st_2 : uSt), j_1 st_2 = some (r, s9) → uW M V (uEnd M V 0 0 (some (.int r)) s9) 3 0 0 16 [(0, .ref (vA V 0))] [] st_2 := by
    intro st_2 h
    replace h := hK_1 st_2 h
    refine ux_aload_n C dX8_may_16 0 rfl ?_
    refine ux_get C fl_X8_49 dX8_may_17 (oM W0) rfl ?_
    refine ux_if_ne C dX8_may_20 h (fun h => ?_) (fun h => ?_)
    · refine ux_iconst (v := 1) C dX8_may_23 (by decide) ?_
      refine ux_goto C dX8_may_24 ?_
      exact ux_zretSK C hr dX8_may_28 (by decide) h (Nat.le_of_ble_eq_true rfl) (Nat.le_of_ble_eq_true rfl)
    · refine ux_iconst (v := 0) C dX8_may_27 (by decide) ?_
      exact ux_zretSK C hr dX8_may_28 (by decide) h (Nat.le_of_ble_eq_true rfl) (Nat.le_of_ble_eq_true rfl)
  refine ux_if_ne C dX8_may_1 h (fun h => ?_) (fun h => ?_)
  · refine ux_aload_n C dX8_may_4 0 rfl ?_
    refine ux_get C fl_X8_49 dX8_may_5 (oM W0) rfl ?_
    refine ux_if_ne C dX8_may_8 h (fun h => ?_) (fun h => ?_)
    · refine ux_aload_n C dX8_may_11 0 rfl ?_
      refine ux_iload_n C dX8_may_12 2 rfl ?_
      refine ux_puti C fp_X8_49 dX8_may_13 (oM W0) (Nat.le_of_ble_eq_true rfl) rfl h (fun st_3 h => ?_)
      refine ux_sub [0] rfl ?_
      exact hJ_1 st_3 h
    · refine ux_sub [0] rfl ?_
      exact hJ_1 st h
  · refine ux_sub [0] rfl ?_
    exact hJ_1 st h
set_option maxRecDepth 100000 in
set_option maxHeartbeats 4000000 in
theorem kX8_has {l : Launch} {V : uV} (W0 : uWM l V) {p0 : Int32} {p1 : Int32} {st : uSt} {r : Int32} (h : fX8_has p0 p1 = some r) : uMet l V yX8_has cX8_has 2 (some .boolean) 0 0 0 0 [.int p0, .int p1] st (some (.int r)) st := by
  refine ux_met W0.1 W0.2.1 (by decide) rfl (Nat.le_of_ble_eq_true rfl) (fun M hL hr C => ?_)
  subst hL
  have C : uCx M V cX8_has 2 RX8 0 0 0 0 := C
  unfold fX8_has at h
  refine ux_iload_n C dX8_has_0 0 rfl ?_
  refine ux_iload_n C dX8_has_1 1 rfl ?_
  refine ux_ishr C dX8_has_2 ?_
  refine ux_iconst (v := 1) C dX8_has_3 (by decide) ?_
  refine ux_iand C dX8_has_4 ?_
  refine ux_iconst (v := 1) C dX8_has_5 (by decide) ?_
  refine ux_icmp_ne C dX8_has_6 h (fun h => ?_) (fun h => ?_)
  · refine ux_iconst (v := 1) C dX8_has_9 (by decide) ?_
    refine ux_goto C dX8_has_10 ?_
    exact ux_zretK C hr dX8_has_14 (by decide) h (Nat.le_of_ble_eq_true rfl) (Nat.le_of_ble_eq_true rfl)
  · refine ux_iconst (v := 0) C dX8_has_13 (by decide) ?_
    exact ux_zretK C hr dX8_has_14 (by decide) h (Nat.le_of_ble_eq_true rfl) (Nat.le_of_ble_eq_true rfl)
set_option maxRecDepth 100000 in
set_option maxHeartbeats 4000000 in
theorem wX8_plain_2 {M : uM} {V : uV} (W0 : uWM (mL M) V) (C : uCx M V cX8_plain 2 RX8 0 0 0 0) (hr : (mT M).sig.returnType = none) {s9 : uSt} {ke : uSt → Option (Unit × uSt)} (K : ∀ (st : uSt), ke st = some ((), s9) → uW M V (uEnd M V 0 0 none s9) 2 0 0 21 [(0, .ref (vA V 0))] [] st) : ∀ (n : Nat) (st : uSt) (l1 : Int32), fX8_plain_2 ke n st l1 = some ((), s9) → uW M V (uEnd M V 0 0 none s9) 2 0 0 2 [(0, .ref (vA V 0)), (1, .int l1)] [] st := by
  intro n
  induction n with
  | zero =>
    intro st l1 h
    rw [fX8_plain_2] at h
    cases h
  | succ n ih =>
    intro st l1 h
    rw [fX8_plain_2] at h
    refine ux_iload_n C dX8_plain_2 1 rfl ?_
    refine ux_bipush (v := 109) C dX8_plain_3 (by decide) ?_
    refine ux_icmp_ge C dX8_plain_5 h (fun h => ?_) (fun h => ?_)
    · refine ux_sub [0] rfl ?_
      exact K st h
    · refine ux_aload_n C dX8_plain_8 0 rfl ?_
      refine ux_get C fl_X8_13 dX8_plain_9 (oM W0) rfl ?_
      refine ux_iload_n C dX8_plain_12 1 rfl ?_
      refine ux_iconst (v := 0) C dX8_plain_13 (by decide) ?_
      refine ux_iast C (aM_told W0) dX8_plain_14 h (fun st_2 h => ?_)
      refine ux_iincK C dX8_plain_15 (by decide) 1 rfl (fun z => [(1, .int z), (0, .ref (vA V 0))]) (fun _ => rfl) (by decide) h (fun l1_3 h => ?_)
      refine ux_goto C dX8_plain_18 ?_
      refine ux_sub [1, 0] rfl ?_
      exact ih _ _ h
set_option maxRecDepth 100000 in
set_option maxHeartbeats 4000000 in
theorem kX8_plain {l : Launch} {V : uV} (W0 : uWM l V) {st : uSt} {s9 : uSt} (h : fX8_plain st = some ((), s9)) : uMet l V yX8_plain cX8_plain 2 none 0 0 0 0 [.ref (vA V 0)] st none s9 := by
  refine ux_met W0.1 W0.2.1 (by decide) rfl (Nat.le_of_ble_eq_true rfl) (fun M hL hr C => ?_)
  subst hL
  have C : uCx M V cX8_plain 2 RX8 0 0 0 0 := C
  unfold fX8_plain at h
  refine ux_iconst (v := 0) C dX8_plain_0 (by decide) ?_
  refine ux_istoreK_n C dX8_plain_1 rfl (by decide) ?_
  refine ux_sub [1, 0] rfl ?_
  refine wX8_plain_2 W0 C hr (fun st_4 h => ?_) _ _ _ h
  refine ux_aload_n C dX8_plain_21 0 rfl ?_
  refine ux_get C fl_X8_13 dX8_plain_22 (oM W0) rfl ?_
  refine ux_bipush (v := 6) C dX8_plain_25 (by decide) ?_
  refine ux_bipush (v := 24) C dX8_plain_27 (by decide) ?_
  refine ux_iastK (j := 6) C (aM_told W0) dX8_plain_29 (by decide) (by decide) h (fun st_5 h => ?_)
  refine ux_aload_n C dX8_plain_30 0 rfl ?_
  refine ux_get C fl_X8_13 dX8_plain_31 (oM W0) rfl ?_
  refine ux_bipush (v := 27) C dX8_plain_34 (by decide) ?_
  refine ux_iconst (v := 1) C dX8_plain_36 (by decide) ?_
  refine ux_iastK (j := 27) C (aM_told W0) dX8_plain_37 (by decide) (by decide) h (fun st_6 h => ?_)
  exact ux_vret C hr dX8_plain_38 h (Nat.le_of_ble_eq_true rfl) (Nat.le_of_ble_eq_true rfl)
set_option maxRecDepth 100000 in
set_option maxHeartbeats 4000000 in
theorem wX8_takes_2 {M : uM} {V : uV} (W0 : uWM (mL M) V) (C : uCx M V cX8_takes 2 RX8 0 0 0 0) (hr : (mT M).sig.returnType = none) {s9 : uSt} {ke : uSt → Option (Unit × uSt)} (K : ∀ (st : uSt), ke st = some ((), s9) → uW M V (uEnd M V 0 0 none s9) 2 0 0 26 [(0, .ref (vA V 0))] [] st) : ∀ (n : Nat) (st : uSt) (l1 : Int32), fX8_takes_2 ke n st l1 = some ((), s9) → uW M V (uEnd M V 0 0 none s9) 2 0 0 2 [(0, .ref (vA V 0)), (1, .int l1)] [] st := by
  intro n
  induction n with
  | zero =>
    intro st l1 h
    rw [fX8_takes_2] at h
    cases h
  | succ n ih =>
    intro st l1 h
    rw [fX8_takes_2] at h
    refine ux_iload_n C dX8_takes_2 1 rfl ?_
    refine ux_bipush (v := 109) C dX8_takes_3 (by decide) ?_
    refine ux_icmp_ge C dX8_takes_5 h (fun h => ?_) (fun h => ?_)
    · refine ux_sub [0] rfl ?_
      exact K st h
    · refine ux_aload_n C dX8_takes_8 0 rfl ?_
      refine ux_get C fl_X8_7 dX8_takes_9 (oM W0) rfl ?_
      refine ux_iload_n C dX8_takes_12 1 rfl ?_
      refine ux_aload_n C dX8_takes_13 0 rfl ?_
      refine ux_get C fl_X8_13 dX8_takes_14 (oM W0) rfl ?_
      refine ux_iload_n C dX8_takes_17 1 rfl ?_
      refine ux_iald C (aM_told W0) dX8_takes_18 h (fun h => ?_)
      refine ux_iast C (aM_a W0) dX8_takes_19 h (fun st_2 h => ?_)
      refine ux_iincK C dX8_takes_20 (by decide) 1 rfl (fun z => [(1, .int z), (0, .ref (vA V 0))]) (fun _ => rfl) (by decide) h (fun l1_3 h => ?_)
      refine ux_goto C dX8_takes_23 ?_
      refine ux_sub [1, 0] rfl ?_
      exact ih _ _ h
set_option maxRecDepth 100000 in
set_option maxHeartbeats 4000000 in
theorem kX8_takes {l : Launch} {V : uV} (W0 : uWM l V) {st : uSt} {s9 : uSt} (h : fX8_takes st = some ((), s9)) : uMet l V yX8_takes cX8_takes 2 none 0 0 0 0 [.ref (vA V 0)] st none s9 := by
  refine ux_met W0.1 W0.2.1 (by decide) rfl (Nat.le_of_ble_eq_true rfl) (fun M hL hr C => ?_)
  subst hL
  have C : uCx M V cX8_takes 2 RX8 0 0 0 0 := C
  unfold fX8_takes at h
  refine ux_iconst (v := 0) C dX8_takes_0 (by decide) ?_
  refine ux_istoreK_n C dX8_takes_1 rfl (by decide) ?_
  refine ux_sub [1, 0] rfl ?_
  refine wX8_takes_2 W0 C hr (fun st_4 h => ?_) _ _ _ h
  refine ux_aload_n C dX8_takes_26 0 rfl ?_
  refine ux_get C fl_X8_22 dX8_takes_27 (oM W0) rfl ?_
  refine ux_iconst (v := 0) C dX8_takes_30 (by decide) ?_
  refine ux_iconst (v := 0) C dX8_takes_31 (by decide) ?_
  refine ux_zastK (j := 0) C (aM_isSaved W0) dX8_takes_32 (by decide) (by decide) (by decide) h (fun st_5 h => ?_)
  refine ux_aload_n C dX8_takes_33 0 rfl ?_
  refine ux_get C fl_X8_22 dX8_takes_34 (oM W0) rfl ?_
  refine ux_iconst (v := 1) C dX8_takes_37 (by decide) ?_
  refine ux_iconst (v := 0) C dX8_takes_38 (by decide) ?_
  refine ux_zastK (j := 1) C (aM_isSaved W0) dX8_takes_39 (by decide) (by decide) (by decide) h (fun st_6 h => ?_)
  exact ux_vret C hr dX8_takes_40 h (Nat.le_of_ble_eq_true rfl) (Nat.le_of_ble_eq_true rfl)
set_option maxRecDepth 100000 in
set_option maxHeartbeats 4000000 in
theorem wX8_append_36 {M : uM} {V : uV} (W0 : uWM (mL M) V) (C : uCx M V cX8_append 8 RX8 1 22 0 0) (hr : (mT M).sig.returnType = (some .int)) {l1 : Int32} {l2 : Int32} {l3 : Int32} {l4 : Int32} {l5 : Int32} {r : Int32} {s9 : uSt} {ke : uSt → Option (Int32 × uSt)} (K : ∀ (st : uSt), ke st = some (r, s9) → uW M V (uEnd M V 0 0 (some (.int r)) s9) 8 0 0 126 [(0, .ref (vA V 0))] [] st) : ∀ (n : Nat) (st : uSt) (l6 : Int32), fX8_append_36 l1 l2 l3 l4 l5 ke n st l6 = some (r, s9) → uW M V (uEnd M V 0 0 (some (.int r)) s9) 8 0 0 36 [(0, .ref (vA V 0)), (1, .int l1), (2, .int l2), (3, .int l3), (4, .int l4), (5, .int l5), (6, .int l6)] [] st := by
  intro n
  induction n with
  | zero =>
    intro st l6 h
    rw [fX8_append_36] at h
    cases h
  | succ n ih =>
    intro st l6 h
    rw [fX8_append_36] at h
    refine ux_iload C dX8_append_36 6 rfl ?_
    refine ux_bipush (v := 20) C dX8_append_38 (by decide) ?_
    refine ux_icmp_ge C dX8_append_40 h (fun h => ?_) (fun h => ?_)
    · refine ux_sub [0] rfl ?_
      exact K st h
    · refine ux_iload C dX8_append_43 6 rfl ?_
      refine ux_iconst (v := 4) C dX8_append_45 (by decide) ?_
      obtain ⟨j_7, hK_7, h⟩ := oj1_some h
      have hJ_7 : ∀ (v_8 : Int32), j_7 v_8 = some (r, s9) → uW M V (uEnd M V 0 0 (some (.int r)) s9) 8 0 0 89 [(0, .ref (vA V 0)), (1, .int l1), (2, .int l2), (3, .int l3), (4, .int l4), (5, .int l5), (6, .int l6)] [.int v_8] st := by
        intro v_8 h
        replace h := hK_7 v_8 h
        refine ux_istoreK C dX8_append_89 rfl (by decide) ?_
        refine ux_aload_n C dX8_append_91 1 rfl ?_
        refine ux_get C fl_X8_26 dX8_append_92 (oM W0) rfl ?_
        refine ux_aload_n C dX8_append_95 1 rfl ?_
        refine ux_get C fl_X8_52 dX8_append_96 (oM W0) rfl ?_
        refine ux_iload C dX8_append_99 7 rfl ?_
        refine ux_iadd C dX8_append_101 ?_
        refine ux_iload C dX8_append_102 0 rfl ?_
        refine ux_bipush (v := 24) C dX8_append_104 (by decide) ?_
        refine ux_bipush (v := 8) C dX8_append_106 (by decide) ?_
        refine ux_iload C dX8_append_108 7 rfl ?_
        refine ux_iconst (v := 4) C dX8_append_110 (by decide) ?_
        refine ux_iremK C dX8_append_111 (by decide) ?_
        refine ux_imul C dX8_append_112 ?_
        refine ux_isub C dX8_append_113 ?_
        refine ux_ishr C dX8_append_114 ?_
        refine ux_sipush (v := 255) C dX8_append_115 (by decide) ?_
        refine ux_iand C dX8_append_118 ?_
        refine ux_iast C (aM_text W0) dX8_append_119 h (fun st_10 h => ?_)
        refine ux_iincK C dX8_append_120 (by decide) 7 rfl (fun z => [(6, .int z), (7, .int v_8), (0, .ref (vA V 0)), (1, .int l1), (2, .int l2), (3, .int l3), (4, .int l4), (5, .int l5)]) (fun _ => rfl) (by decide) h (fun l6_11 h => ?_)
        refine ux_goto C dX8_append_123 ?_
        refine ux_sub [2, 3, 4, 5, 6, 7, 0] rfl ?_
        exact ih _ _ h
      refine ux_icmp_ge C dX8_append_46 h (fun h => ?_) (fun h => ?_)
      · refine ux_iload C dX8_append_53 6 rfl ?_
        refine ux_bipush (v := 8) C dX8_append_55 (by decide) ?_
        refine ux_icmp_ge C dX8_append_57 h (fun h => ?_) (fun h => ?_)
        · refine ux_iload C dX8_append_64 6 rfl ?_
          refine ux_bipush (v := 12) C dX8_append_66 (by decide) ?_
          refine ux_icmp_ge C dX8_append_68 h (fun h => ?_) (fun h => ?_)
          · refine ux_iload C dX8_append_75 6 rfl ?_
            refine ux_bipush (v := 16) C dX8_append_77 (by decide) ?_
            refine ux_icmp_ge C dX8_append_79 h (fun h => ?_) (fun h => ?_)
            · refine ux_iload C dX8_append_87 5 rfl ?_
              exact hJ_7 l5 h
            · refine ux_iload C dX8_append_82 4 rfl ?_
              refine ux_goto C dX8_append_84 ?_
              exact hJ_7 l4 h
          · refine ux_iload_n C dX8_append_71 3 rfl ?_
            refine ux_goto C dX8_append_72 ?_
            exact hJ_7 l3 h
        · refine ux_iload_n C dX8_append_60 2 rfl ?_
          refine ux_goto C dX8_append_61 ?_
          exact hJ_7 l2 h
      · refine ux_iload_n C dX8_append_49 1 rfl ?_
        refine ux_goto C dX8_append_50 ?_
        exact hJ_7 l1 h
set_option maxRecDepth 100000 in
set_option maxHeartbeats 4000000 in
theorem kX8_append {l : Launch} {V : uV} (W0 : uWM l V) {p1 : Int32} {p2 : Int32} {p3 : Int32} {p4 : Int32} {p5 : Int32} {st : uSt} {r : Int32} {s9 : uSt} (h : fX8_append p1 p2 p3 p4 p5 st = some (r, s9)) : uMet l V yX8_append cX8_append 8 (some .int) 1 22 0 0 [.ref (vA V 0), .int p1, .int p2, .int p3, .int p4, .int p5] st (some (.int r)) s9 := by
  refine ux_met W0.1 W0.2.1 (by decide) rfl (Nat.le_of_ble_eq_true rfl) (fun M hL hr C => ?_)
  subst hL
  have C : uCx M V cX8_append 8 RX8 1 22 0 0 := C
  unfold fX8_append at h
  refine ux_aload_n C dX8_append_0 0 rfl ?_
  refine ux_iconst (v := 0) C dX8_append_1 (by decide) ?_
  refine ux_puti C fp_X8_49 dX8_append_2 (oM W0) (Nat.le_of_ble_eq_true rfl) rfl h (fun st_1 h => ?_)
  refine ux_aload_n C dX8_append_5 0 rfl ?_
  refine ux_aload_n C dX8_append_6 0 rfl ?_
  refine ux_get C fl_X8_52 dX8_append_7 (oM W0) rfl ?_
  refine ux_bipush (v := 20) C dX8_append_10 (by decide) ?_
  refine ux_iadd C dX8_append_12 ?_
  refine ux_sipush (v := 400) C dX8_append_13 (by decide) ?_
  obtain ⟨j_2, hK_2, h⟩ := oj1_some h
  have hJ_2 : ∀ (v_3 : Int32), j_2 v_3 = some (r, s9) → uW M V (uEnd M V 0 0 (some (.int r)) s9) 8 0 0 24 [(0, .ref (vA V 0)), (1, .int p1), (2, .int p2), (3, .int p3), (4, .int p4), (5, .int p5)] [.int v_3, .ref (vA V 0)] st_1 := by
    intro v_3 h
    replace h := hK_2 v_3 h
    refine ux_iconst (v := 1) C dX8_append_24 (by decide) ?_
    obtain ⟨x_5, st_4, h1, h⟩ := obS_some h
    refine ux_callVi C cv_X8_55 dX8_append_25 (oM W0) rfl (kX8_may W0 h1) rfl (Nat.le_of_ble_eq_true rfl) ⟨(Nat.le_of_ble_eq_true rfl), (Nat.le_of_ble_eq_true rfl)⟩ ⟨(Nat.le_of_ble_eq_true rfl), (Nat.le_of_ble_eq_true rfl)⟩ ?_ rfl
    refine ux_if_ne C dX8_append_28 h (fun h => ?_) (fun h => ?_)
    · refine ux_iconst (v := 0) C dX8_append_31 (by decide) ?_
      exact ux_iretS C hr dX8_append_32 h (Nat.le_of_ble_eq_true rfl) (Nat.le_of_ble_eq_true rfl)
    · refine ux_iconst (v := 0) C dX8_append_33 (by decide) ?_
      refine ux_istoreK C dX8_append_34 rfl (by decide) ?_
      refine ux_sub [1, 2, 3, 4, 5, 6, 0] rfl ?_
      refine wX8_append_36 W0 C hr (fun st_12 h => ?_) _ _ _ h
      refine ux_aload_n C dX8_append_126 0 rfl ?_
      refine ux_dup C dX8_append_127 rfl ?_
      refine ux_get C fl_X8_52 dX8_append_128 (oM W0) rfl ?_
      refine ux_bipush (v := 20) C dX8_append_131 (by decide) ?_
      refine ux_iadd C dX8_append_133 ?_
      refine ux_puti C fp_X8_52 dX8_append_134 (oM W0) (Nat.le_of_ble_eq_true rfl) rfl h (fun st_13 h => ?_)
      refine ux_aload_n C dX8_append_137 0 rfl ?_
      refine ux_get C fl_X8_52 dX8_append_138 (oM W0) rfl ?_
      exact ux_iretS C hr dX8_append_141 h (Nat.le_of_ble_eq_true rfl) (Nat.le_of_ble_eq_true rfl)
  refine ux_icmp_gt C dX8_append_16 h (fun h => ?_) (fun h => ?_)
  · refine ux_iconst (v := 0) C dX8_append_23 (by decide) ?_
    exact hJ_2 (0 : Int32) h
  · refine ux_iconst (v := 1) C dX8_append_19 (by decide) ?_
    refine ux_goto C dX8_append_20 ?_
    exact hJ_2 (1 : Int32) h
set_option maxRecDepth 100000 in
set_option maxHeartbeats 4000000 in
theorem kX8_truncate {l : Launch} {V : uV} (W0 : uWM l V) {p1 : Int32} {st : uSt} {r : Int32} {s9 : uSt} (h : fX8_truncate p1 st = some (r, s9)) : uMet l V yX8_truncate cX8_truncate 2 (some .int) 1 22 0 0 [.ref (vA V 0), .int p1] st (some (.int r)) s9 := by
  refine ux_met W0.1 W0.2.1 (by decide) rfl (Nat.le_of_ble_eq_true rfl) (fun M hL hr C => ?_)
  subst hL
  have C : uCx M V cX8_truncate 2 RX8 1 22 0 0 := C
  unfold fX8_truncate at h
  refine ux_aload_n C dX8_truncate_0 0 rfl ?_
  refine ux_iconst (v := 0) C dX8_truncate_1 (by decide) ?_
  refine ux_puti C fp_X8_49 dX8_truncate_2 (oM W0) (Nat.le_of_ble_eq_true rfl) rfl h (fun st_1 h => ?_)
  refine ux_aload_n C dX8_truncate_5 0 rfl ?_
  refine ux_iload_n C dX8_truncate_6 1 rfl ?_
  refine ux_iconst (v := 0) C dX8_truncate_7 (by decide) ?_
  refine ux_aload_n C dX8_truncate_8 0 rfl ?_
  refine ux_get C fl_X8_52 dX8_truncate_9 (oM W0) rfl ?_
  obtain ⟨x_2, h1, h⟩ := ob_some h
  refine ux_callSi C cs_X8_59 dX8_truncate_12 (kX8_isIn W0 h1) rfl (Nat.le_of_ble_eq_true rfl) ⟨(Nat.le_of_ble_eq_true rfl), (Nat.le_of_ble_eq_true rfl)⟩ ⟨(Nat.le_of_ble_eq_true rfl), (Nat.le_of_ble_eq_true rfl)⟩ ?_ rfl
  refine ux_iconst (v := 1) C dX8_truncate_15 (by decide) ?_
  obtain ⟨x_4, st_3, h1, h⟩ := obS_some h
  refine ux_callVi C cv_X8_55 dX8_truncate_16 (oM W0) rfl (kX8_may W0 h1) rfl (Nat.le_of_ble_eq_true rfl) ⟨(Nat.le_of_ble_eq_true rfl), (Nat.le_of_ble_eq_true rfl)⟩ ⟨(Nat.le_of_ble_eq_true rfl), (Nat.le_of_ble_eq_true rfl)⟩ ?_ rfl
  refine ux_if_ne C dX8_truncate_19 h (fun h => ?_) (fun h => ?_)
  · refine ux_iconst (v := 0) C dX8_truncate_22 (by decide) ?_
    exact ux_iretS C hr dX8_truncate_23 h (Nat.le_of_ble_eq_true rfl) (Nat.le_of_ble_eq_true rfl)
  · refine ux_aload_n C dX8_truncate_24 0 rfl ?_
    refine ux_iload_n C dX8_truncate_25 1 rfl ?_
    refine ux_puti C fp_X8_52 dX8_truncate_26 (oM W0) (Nat.le_of_ble_eq_true rfl) rfl h (fun st_5 h => ?_)
    refine ux_iload_n C dX8_truncate_29 1 rfl ?_
    exact ux_iretS C hr dX8_truncate_30 h (Nat.le_of_ble_eq_true rfl) (Nat.le_of_ble_eq_true rfl)
set_option maxRecDepth 100000 in
set_option maxHeartbeats 4000000 in
theorem kX8_at {l : Launch} {V : uV} (W0 : uWM l V) {p1 : Int32} {st : uSt} {r : Int32} (h : fX8_at p1 st = some r) : uMet l V yX8_at cX8_at 2 (some .int) 0 0 0 0 [.ref (vA V 0), .int p1] st (some (.int r)) st := by
  refine ux_met W0.1 W0.2.1 (by decide) rfl (Nat.le_of_ble_eq_true rfl) (fun M hL hr C => ?_)
  subst hL
  have C : uCx M V cX8_at 2 RX8 0 0 0 0 := C
  unfold fX8_at at h
  refine ux_iload_n C dX8_at_0 1 rfl ?_
  refine ux_aload_n C dX8_at_1 0 rfl ?_
  refine ux_get C fl_X8_63 dX8_at_2 (oM W0) rfl ?_
  refine ux_icmp_ge C dX8_at_5 h (fun h => ?_) (fun h => ?_)
  · refine ux_iconst (v := (-1)) C dX8_at_17 (by decide) ?_
    exact ux_iret C hr dX8_at_18 h (Nat.le_of_ble_eq_true rfl) (Nat.le_of_ble_eq_true rfl)
  · refine ux_aload_n C dX8_at_8 0 rfl ?_
    refine ux_get C fl_X8_26 dX8_at_9 (oM W0) rfl ?_
    refine ux_iload_n C dX8_at_12 1 rfl ?_
    refine ux_iald C (aM_text W0) dX8_at_13 h (fun h => ?_)
    refine ux_goto C dX8_at_14 ?_
    exact ux_iret C hr dX8_at_18 h (Nat.le_of_ble_eq_true rfl) (Nat.le_of_ble_eq_true rfl)
set_option maxRecDepth 100000 in
set_option maxHeartbeats 4000000 in
theorem kX8_isLetter {l : Launch} {V : uV} (W0 : uWM l V) {p0 : Int32} {st : uSt} {r : Int32} (h : fX8_isLetter p0 = some r) : uMet l V yX8_isLetter cX8_isLetter 1 (some .boolean) 0 0 0 0 [.int p0] st (some (.int r)) st := by
  refine ux_met W0.1 W0.2.1 (by decide) rfl (Nat.le_of_ble_eq_true rfl) (fun M hL hr C => ?_)
  subst hL
  have C : uCx M V cX8_isLetter 1 RX8 0 0 0 0 := C
  unfold fX8_isLetter at h
  refine ux_iload_n C dX8_isLetter_0 0 rfl ?_
  refine ux_bipush (v := 97) C dX8_isLetter_1 (by decide) ?_
  refine ux_icmp_lt C dX8_isLetter_3 h (fun h => ?_) (fun h => ?_)
  · refine ux_iconst (v := 0) C dX8_isLetter_16 (by decide) ?_
    exact ux_zretK C hr dX8_isLetter_17 (by decide) h (Nat.le_of_ble_eq_true rfl) (Nat.le_of_ble_eq_true rfl)
  · refine ux_iload_n C dX8_isLetter_6 0 rfl ?_
    refine ux_bipush (v := 122) C dX8_isLetter_7 (by decide) ?_
    refine ux_icmp_gt C dX8_isLetter_9 h (fun h => ?_) (fun h => ?_)
    · refine ux_iconst (v := 0) C dX8_isLetter_16 (by decide) ?_
      exact ux_zretK C hr dX8_isLetter_17 (by decide) h (Nat.le_of_ble_eq_true rfl) (Nat.le_of_ble_eq_true rfl)
    · refine ux_iconst (v := 1) C dX8_isLetter_12 (by decide) ?_
      refine ux_goto C dX8_isLetter_13 ?_
      exact ux_zretK C hr dX8_isLetter_17 (by decide) h (Nat.le_of_ble_eq_true rfl) (Nat.le_of_ble_eq_true rfl)
set_option maxRecDepth 100000 in
set_option maxHeartbeats 4000000 in
theorem kX8_isDigit {l : Launch} {V : uV} (W0 : uWM l V) {p0 : Int32} {st : uSt} {r : Int32} (h : fX8_isDigit p0 = some r) : uMet l V yX8_isDigit cX8_isDigit 1 (some .boolean) 0 0 0 0 [.int p0] st (some (.int r)) st := by
  refine ux_met W0.1 W0.2.1 (by decide) rfl (Nat.le_of_ble_eq_true rfl) (fun M hL hr C => ?_)
  subst hL
  have C : uCx M V cX8_isDigit 1 RX8 0 0 0 0 := C
  unfold fX8_isDigit at h
  refine ux_iload_n C dX8_isDigit_0 0 rfl ?_
  refine ux_bipush (v := 48) C dX8_isDigit_1 (by decide) ?_
  refine ux_icmp_lt C dX8_isDigit_3 h (fun h => ?_) (fun h => ?_)
  · refine ux_iconst (v := 0) C dX8_isDigit_16 (by decide) ?_
    exact ux_zretK C hr dX8_isDigit_17 (by decide) h (Nat.le_of_ble_eq_true rfl) (Nat.le_of_ble_eq_true rfl)
  · refine ux_iload_n C dX8_isDigit_6 0 rfl ?_
    refine ux_bipush (v := 57) C dX8_isDigit_7 (by decide) ?_
    refine ux_icmp_gt C dX8_isDigit_9 h (fun h => ?_) (fun h => ?_)
    · refine ux_iconst (v := 0) C dX8_isDigit_16 (by decide) ?_
      exact ux_zretK C hr dX8_isDigit_17 (by decide) h (Nat.le_of_ble_eq_true rfl) (Nat.le_of_ble_eq_true rfl)
    · refine ux_iconst (v := 1) C dX8_isDigit_12 (by decide) ?_
      refine ux_goto C dX8_isDigit_13 ?_
      exact ux_zretK C hr dX8_isDigit_17 (by decide) h (Nat.le_of_ble_eq_true rfl) (Nat.le_of_ble_eq_true rfl)
set_option maxRecDepth 100000 in
set_option maxHeartbeats 4000000 in
theorem wX8_token_0 {M : uM} {V : uV} (W0 : uWM (mL M) V) (C : uCx M V cX8_token 2 RX8 1 21 0 0) (hr : (mT M).sig.returnType = none) {s9 : uSt} {ke : uSt → Option (Unit × uSt)} (K : ∀ (st : uSt), ke st = some ((), s9) → uW M V (uEnd M V 0 0 none s9) 2 0 0 39 [(0, .ref (vA V 0))] [] st) : ∀ (n : Nat) (st : uSt), fX8_token_0 ke n st = some ((), s9) → uW M V (uEnd M V 0 0 none s9) 2 0 0 0 [(0, .ref (vA V 0))] [] st := by
  intro n
  induction n with
  | zero =>
    intro st h
    rw [fX8_token_0] at h
    cases h
  | succ n ih =>
    intro st h
    rw [fX8_token_0] at h
    refine ux_aload_n C dX8_token_0 0 rfl ?_
    refine ux_aload_n C dX8_token_1 0 rfl ?_
    refine ux_get C fl_X8_66 dX8_token_2 (oM W0) rfl ?_
    obtain ⟨x_1, h1, h⟩ := ob_some h
    refine ux_callVi C cv_X8_69 dX8_token_5 (oM W0) rfl (kX8_at W0 h1) rfl (Nat.le_of_ble_eq_true rfl) ⟨(Nat.le_of_ble_eq_true rfl), (Nat.le_of_ble_eq_true rfl)⟩ ⟨(Nat.le_of_ble_eq_true rfl), (Nat.le_of_ble_eq_true rfl)⟩ ?_ rfl
    refine ux_bipush (v := 10) C dX8_token_8 (by decide) ?_
    obtain ⟨j_2, hK_2, h⟩ := oj0_some h
    have hJ_2 : j_2 = some ((), s9) → uW M V (uEnd M V 0 0 none s9) 2 0 0 26 [(0, .ref (vA V 0))] [] st := by
      intro h
      replace h := hK_2 h
      refine ux_aload_n C dX8_token_26 0 rfl ?_
      refine ux_dup C dX8_token_27 rfl ?_
      refine ux_get C fl_X8_66 dX8_token_28 (oM W0) rfl ?_
      refine ux_iconst (v := 1) C dX8_token_31 (by decide) ?_
      refine ux_iadd C dX8_token_32 ?_
      refine ux_puti C fp_X8_66 dX8_token_33 (oM W0) (Nat.le_of_ble_eq_true rfl) rfl h (fun st_3 h => ?_)
      refine ux_goto C dX8_token_36 ?_
      exact ih _ h
    refine ux_icmp_eq C dX8_token_10 h (fun h => ?_) (fun h => ?_)
    · exact hJ_2 h
    · refine ux_aload_n C dX8_token_13 0 rfl ?_
      refine ux_aload_n C dX8_token_14 0 rfl ?_
      refine ux_get C fl_X8_66 dX8_token_15 (oM W0) rfl ?_
      obtain ⟨x_4, h1, h⟩ := ob_some h
      refine ux_callVi C cv_X8_69 dX8_token_18 (oM W0) rfl (kX8_at W0 h1) rfl (Nat.le_of_ble_eq_true rfl) ⟨(Nat.le_of_ble_eq_true rfl), (Nat.le_of_ble_eq_true rfl)⟩ ⟨(Nat.le_of_ble_eq_true rfl), (Nat.le_of_ble_eq_true rfl)⟩ ?_ rfl
      refine ux_bipush (v := 32) C dX8_token_21 (by decide) ?_
      refine ux_icmp_ne C dX8_token_23 h (fun h => ?_) (fun h => ?_)
      · exact hJ_2 h
      · exact K st h
set_option maxRecDepth 100000 in
set_option maxHeartbeats 4000000 in
theorem wX8_token_123 {M : uM} {V : uV} (W0 : uWM (mL M) V) (C : uCx M V cX8_token 2 RX8 1 21 0 0) (hr : (mT M).sig.returnType = none) {s9 : uSt} {ke : uSt → Option (Unit × uSt)} (K : ∀ (st : uSt), ke st = some ((), s9) → uW M V (uEnd M V 0 0 none s9) 2 0 0 186 [(0, .ref (vA V 0))] [] st) : ∀ (n : Nat) (st : uSt), fX8_token_123 ke n st = some ((), s9) → uW M V (uEnd M V 0 0 none s9) 2 0 0 123 [(0, .ref (vA V 0))] [] st := by
  intro n
  induction n with
  | zero =>
    intro st h
    rw [fX8_token_123] at h
    cases h
  | succ n ih =>
    intro st h
    rw [fX8_token_123] at h
    refine ux_aload_n C dX8_token_123 0 rfl ?_
    refine ux_aload_n C dX8_token_124 0 rfl ?_
    refine ux_get C fl_X8_66 dX8_token_125 (oM W0) rfl ?_
    obtain ⟨x_17, h1, h⟩ := ob_some h
    refine ux_callVi C cv_X8_69 dX8_token_128 (oM W0) rfl (kX8_at W0 h1) rfl (Nat.le_of_ble_eq_true rfl) ⟨(Nat.le_of_ble_eq_true rfl), (Nat.le_of_ble_eq_true rfl)⟩ ⟨(Nat.le_of_ble_eq_true rfl), (Nat.le_of_ble_eq_true rfl)⟩ ?_ rfl
    obtain ⟨x_18, h1, h⟩ := ob_some h
    refine ux_callSi C cs_X8_83 dX8_token_131 (kX8_isDigit W0 h1) rfl (Nat.le_of_ble_eq_true rfl) ⟨(Nat.le_of_ble_eq_true rfl), (Nat.le_of_ble_eq_true rfl)⟩ ⟨(Nat.le_of_ble_eq_true rfl), (Nat.le_of_ble_eq_true rfl)⟩ ?_ rfl
    refine ux_if_eq C dX8_token_134 h (fun h => ?_) (fun h => ?_)
    · exact K st h
    · refine ux_aload_n C dX8_token_137 0 rfl ?_
      refine ux_get C fl_X8_66 dX8_token_138 (oM W0) rfl ?_
      refine ux_aload_n C dX8_token_141 0 rfl ?_
      refine ux_get C fl_X8_73 dX8_token_142 (oM W0) rfl ?_
      refine ux_isub C dX8_token_145 ?_
      refine ux_iconst (v := 4) C dX8_token_146 (by decide) ?_
      obtain ⟨j_19, hK_19, h⟩ := oj1_some h
      have hJ_19 : ∀ (st_20 : uSt), j_19 st_20 = some ((), s9) → uW M V (uEnd M V 0 0 none s9) 2 0 0 173 [(0, .ref (vA V 0))] [] st_20 := by
        intro st_20 h
        replace h := hK_19 st_20 h
        refine ux_aload_n C dX8_token_173 0 rfl ?_
        refine ux_dup C dX8_token_174 rfl ?_
        refine ux_get C fl_X8_66 dX8_token_175 (oM W0) rfl ?_
        refine ux_iconst (v := 1) C dX8_token_178 (by decide) ?_
        refine ux_iadd C dX8_token_179 ?_
        refine ux_puti C fp_X8_66 dX8_token_180 (oM W0) (Nat.le_of_ble_eq_true rfl) rfl h (fun st_21 h => ?_)
        refine ux_goto C dX8_token_183 ?_
        exact ih _ h
      refine ux_icmp_ge C dX8_token_147 h (fun h => ?_) (fun h => ?_)
      · exact hJ_19 st h
      · refine ux_aload_n C dX8_token_150 0 rfl ?_
        refine ux_bipush (v := 10) C dX8_token_151 (by decide) ?_
        refine ux_aload_n C dX8_token_153 0 rfl ?_
        refine ux_get C fl_X8_86 dX8_token_154 (oM W0) rfl ?_
        refine ux_imul C dX8_token_157 ?_
        refine ux_aload_n C dX8_token_158 0 rfl ?_
        refine ux_aload_n C dX8_token_159 0 rfl ?_
        refine ux_get C fl_X8_66 dX8_token_160 (oM W0) rfl ?_
        obtain ⟨x_22, h1, h⟩ := ob_some h
        refine ux_callVi C cv_X8_69 dX8_token_163 (oM W0) rfl (kX8_at W0 h1) rfl (Nat.le_of_ble_eq_true rfl) ⟨(Nat.le_of_ble_eq_true rfl), (Nat.le_of_ble_eq_true rfl)⟩ ⟨(Nat.le_of_ble_eq_true rfl), (Nat.le_of_ble_eq_true rfl)⟩ ?_ rfl
        refine ux_iadd C dX8_token_166 ?_
        refine ux_bipush (v := 48) C dX8_token_167 (by decide) ?_
        refine ux_isub C dX8_token_169 ?_
        refine ux_puti C fp_X8_86 dX8_token_170 (oM W0) (Nat.le_of_ble_eq_true rfl) rfl h (fun st_23 h => ?_)
        exact hJ_19 st_23 h
set_option maxRecDepth 100000 in
set_option maxHeartbeats 4000000 in
theorem wX8_token_76 {M : uM} {V : uV} (W0 : uWM (mL M) V) (C : uCx M V cX8_token 2 RX8 1 21 0 0) (hr : (mT M).sig.returnType = none) {s9 : uSt} {ke : uSt → Option (Unit × uSt)} (K : ∀ (st : uSt), ke st = some ((), s9) → uW M V (uEnd M V 0 0 none s9) 2 0 0 103 [(0, .ref (vA V 0))] [] st) : ∀ (n : Nat) (st : uSt), fX8_token_76 ke n st = some ((), s9) → uW M V (uEnd M V 0 0 none s9) 2 0 0 76 [(0, .ref (vA V 0))] [] st := by
  intro n
  induction n with
  | zero =>
    intro st h
    rw [fX8_token_76] at h
    cases h
  | succ n ih =>
    intro st h
    rw [fX8_token_76] at h
    refine ux_aload_n C dX8_token_76 0 rfl ?_
    refine ux_aload_n C dX8_token_77 0 rfl ?_
    refine ux_get C fl_X8_66 dX8_token_78 (oM W0) rfl ?_
    obtain ⟨x_28, h1, h⟩ := ob_some h
    refine ux_callVi C cv_X8_69 dX8_token_81 (oM W0) rfl (kX8_at W0 h1) rfl (Nat.le_of_ble_eq_true rfl) ⟨(Nat.le_of_ble_eq_true rfl), (Nat.le_of_ble_eq_true rfl)⟩ ⟨(Nat.le_of_ble_eq_true rfl), (Nat.le_of_ble_eq_true rfl)⟩ ?_ rfl
    obtain ⟨x_29, h1, h⟩ := ob_some h
    refine ux_callSi C cs_X8_79 dX8_token_84 (kX8_isLetter W0 h1) rfl (Nat.le_of_ble_eq_true rfl) ⟨(Nat.le_of_ble_eq_true rfl), (Nat.le_of_ble_eq_true rfl)⟩ ⟨(Nat.le_of_ble_eq_true rfl), (Nat.le_of_ble_eq_true rfl)⟩ ?_ rfl
    refine ux_if_eq C dX8_token_87 h (fun h => ?_) (fun h => ?_)
    · exact K st h
    · refine ux_aload_n C dX8_token_90 0 rfl ?_
      refine ux_dup C dX8_token_91 rfl ?_
      refine ux_get C fl_X8_66 dX8_token_92 (oM W0) rfl ?_
      refine ux_iconst (v := 1) C dX8_token_95 (by decide) ?_
      refine ux_iadd C dX8_token_96 ?_
      refine ux_puti C fp_X8_66 dX8_token_97 (oM W0) (Nat.le_of_ble_eq_true rfl) rfl h (fun st_30 h => ?_)
      refine ux_goto C dX8_token_100 ?_
      exact ih _ h
set_option maxRecDepth 100000 in
set_option maxHeartbeats 4000000 in
theorem kX8_token {l : Launch} {V : uV} (W0 : uWM l V) {st : uSt} {s9 : uSt} (h : fX8_token st = some ((), s9)) : uMet l V yX8_token cX8_token 2 none 1 21 0 0 [.ref (vA V 0)] st none s9 := by
  refine ux_met W0.1 W0.2.1 (by decide) rfl (Nat.le_of_ble_eq_true rfl) (fun M hL hr C => ?_)
  subst hL
  have C : uCx M V cX8_token 2 RX8 1 21 0 0 := C
  unfold fX8_token at h
  refine wX8_token_0 W0 C hr (fun st_5 h => ?_) _ _ h
  refine ux_aload_n C dX8_token_39 0 rfl ?_
  refine ux_aload_n C dX8_token_40 0 rfl ?_
  refine ux_get C fl_X8_66 dX8_token_41 (oM W0) rfl ?_
  refine ux_puti C fp_X8_73 dX8_token_44 (oM W0) (Nat.le_of_ble_eq_true rfl) rfl h (fun st_6 h => ?_)
  refine ux_aload_n C dX8_token_47 0 rfl ?_
  refine ux_aload_n C dX8_token_48 0 rfl ?_
  refine ux_get C fl_X8_66 dX8_token_49 (oM W0) rfl ?_
  obtain ⟨x_7, h1, h⟩ := ob_some h
  refine ux_callVi C cv_X8_69 dX8_token_52 (oM W0) rfl (kX8_at W0 h1) rfl (Nat.le_of_ble_eq_true rfl) ⟨(Nat.le_of_ble_eq_true rfl), (Nat.le_of_ble_eq_true rfl)⟩ ⟨(Nat.le_of_ble_eq_true rfl), (Nat.le_of_ble_eq_true rfl)⟩ ?_ rfl
  refine ux_istoreK_n C dX8_token_55 rfl (by decide) ?_
  refine ux_iload_n C dX8_token_56 0 rfl ?_
  refine ux_iconst (v := (-1)) C dX8_token_57 (by decide) ?_
  refine ux_icmp_ne C dX8_token_58 h (fun h => ?_) (fun h => ?_)
  · refine ux_aload_n C dX8_token_61 1 rfl ?_
    refine ux_iconst (v := 0) C dX8_token_62 (by decide) ?_
    refine ux_puti C fp_X8_76 dX8_token_63 (oM W0) (Nat.le_of_ble_eq_true rfl) rfl h (fun st_9 h => ?_)
    refine ux_goto C dX8_token_66 ?_
    exact ux_vret C hr dX8_token_236 h (Nat.le_of_ble_eq_true rfl) (Nat.le_of_ble_eq_true rfl)
  · refine ux_iload_n C dX8_token_69 0 rfl ?_
    obtain ⟨x_10, h1, h⟩ := ob_some h
    refine ux_callSi C cs_X8_79 dX8_token_70 (kX8_isLetter W0 h1) rfl (Nat.le_of_ble_eq_true rfl) ⟨(Nat.le_of_ble_eq_true rfl), (Nat.le_of_ble_eq_true rfl)⟩ ⟨(Nat.le_of_ble_eq_true rfl), (Nat.le_of_ble_eq_true rfl)⟩ ?_ rfl
    refine ux_if_eq C dX8_token_73 h (fun h => ?_) (fun h => ?_)
    · refine ux_iload_n C dX8_token_111 0 rfl ?_
      obtain ⟨x_11, h1, h⟩ := ob_some h
      refine ux_callSi C cs_X8_83 dX8_token_112 (kX8_isDigit W0 h1) rfl (Nat.le_of_ble_eq_true rfl) ⟨(Nat.le_of_ble_eq_true rfl), (Nat.le_of_ble_eq_true rfl)⟩ ⟨(Nat.le_of_ble_eq_true rfl), (Nat.le_of_ble_eq_true rfl)⟩ ?_ rfl
      refine ux_if_eq C dX8_token_115 h (fun h => ?_) (fun h => ?_)
      · refine ux_aload_n C dX8_token_211 1 rfl ?_
        refine ux_dup C dX8_token_212 rfl ?_
        refine ux_get C fl_X8_66 dX8_token_213 (oM W0) rfl ?_
        refine ux_iconst (v := 1) C dX8_token_216 (by decide) ?_
        refine ux_iadd C dX8_token_217 ?_
        refine ux_puti C fp_X8_66 dX8_token_218 (oM W0) (Nat.le_of_ble_eq_true rfl) rfl h (fun st_12 h => ?_)
        refine ux_aload_n C dX8_token_221 1 rfl ?_
        refine ux_iload_n C dX8_token_222 0 rfl ?_
        refine ux_bipush (v := 59) C dX8_token_223 (by decide) ?_
        obtain ⟨j_13, hK_13, h⟩ := oj1_some h
        have hJ_13 : ∀ (v_14 : Int32), j_13 v_14 = some ((), s9) → uW M V (uEnd M V 0 0 none s9) 2 0 0 233 [] [.int v_14, .ref (vA V 0)] st_12 := by
          intro v_14 h
          replace h := hK_13 v_14 h
          refine ux_puti C fp_X8_76 dX8_token_233 (oM W0) (Nat.le_of_ble_eq_true rfl) rfl h (fun st_15 h => ?_)
          exact ux_vret C hr dX8_token_236 h (Nat.le_of_ble_eq_true rfl) (Nat.le_of_ble_eq_true rfl)
        refine ux_icmp_ne C dX8_token_225 h (fun h => ?_) (fun h => ?_)
        · refine ux_iconst (v := 3) C dX8_token_228 (by decide) ?_
          refine ux_goto C dX8_token_229 ?_
          refine ux_sub [] rfl ?_
          exact hJ_13 (3 : Int32) h
        · refine ux_iconst (v := 4) C dX8_token_232 (by decide) ?_
          refine ux_sub [] rfl ?_
          exact hJ_13 (4 : Int32) h
      · refine ux_aload_n C dX8_token_118 1 rfl ?_
        refine ux_iconst (v := 0) C dX8_token_119 (by decide) ?_
        refine ux_puti C fp_X8_86 dX8_token_120 (oM W0) (Nat.le_of_ble_eq_true rfl) rfl h (fun st_16 h => ?_)
        refine ux_sub [1] rfl ?_
        refine wX8_token_123 W0 C hr (fun st_24 h => ?_) _ _ h
        refine ux_aload_n C dX8_token_186 0 rfl ?_
        refine ux_aload_n C dX8_token_187 0 rfl ?_
        refine ux_get C fl_X8_66 dX8_token_188 (oM W0) rfl ?_
        refine ux_aload_n C dX8_token_191 0 rfl ?_
        refine ux_get C fl_X8_73 dX8_token_192 (oM W0) rfl ?_
        refine ux_isub C dX8_token_195 ?_
        refine ux_iconst (v := 4) C dX8_token_196 (by decide) ?_
        obtain ⟨j_25, hK_25, h⟩ := oj1_some h
        have hJ_25 : ∀ (v_26 : Int32), j_25 v_26 = some ((), s9) → uW M V (uEnd M V 0 0 none s9) 2 0 0 205 [] [.int v_26, .ref (vA V 0)] st_24 := by
          intro v_26 h
          replace h := hK_25 v_26 h
          refine ux_puti C fp_X8_76 dX8_token_205 (oM W0) (Nat.le_of_ble_eq_true rfl) rfl h (fun st_27 h => ?_)
          refine ux_goto C dX8_token_208 ?_
          exact ux_vret C hr dX8_token_236 h (Nat.le_of_ble_eq_true rfl) (Nat.le_of_ble_eq_true rfl)
        refine ux_icmp_le C dX8_token_197 h (fun h => ?_) (fun h => ?_)
        · refine ux_iconst (v := 2) C dX8_token_204 (by decide) ?_
          refine ux_sub [] rfl ?_
          exact hJ_25 (2 : Int32) h
        · refine ux_iconst (v := 4) C dX8_token_200 (by decide) ?_
          refine ux_goto C dX8_token_201 ?_
          refine ux_sub [] rfl ?_
          exact hJ_25 (4 : Int32) h
    · refine ux_sub [1] rfl ?_
      refine wX8_token_76 W0 C hr (fun st_31 h => ?_) _ _ h
      refine ux_aload_n C dX8_token_103 0 rfl ?_
      refine ux_iconst (v := 1) C dX8_token_104 (by decide) ?_
      refine ux_puti C fp_X8_76 dX8_token_105 (oM W0) (Nat.le_of_ble_eq_true rfl) rfl h (fun st_32 h => ?_)
      refine ux_goto C dX8_token_108 ?_
      exact ux_vret C hr dX8_token_236 h (Nat.le_of_ble_eq_true rfl) (Nat.le_of_ble_eq_true rfl)
set_option maxRecDepth 100000 in
set_option maxHeartbeats 4000000 in
theorem kX8_isWrong {l : Launch} {V : uV} (W0 : uWM l V) {st : uSt} {r : Int32} (h : fX8_isWrong st = some r) : uMet l V yX8_isWrong cX8_isWrong 1 (some .boolean) 0 0 0 0 [.ref (vA V 0)] st (some (.int r)) st := by
  refine ux_met W0.1 W0.2.1 (by decide) rfl (Nat.le_of_ble_eq_true rfl) (fun M hL hr C => ?_)
  subst hL
  have C : uCx M V cX8_isWrong 1 RX8 0 0 0 0 := C
  unfold fX8_isWrong at h
  refine ux_aload_n C dX8_isWrong_0 0 rfl ?_
  refine ux_get C fl_X8_89 dX8_isWrong_1 (oM W0) rfl ?_
  refine ux_if_eq C dX8_isWrong_4 h (fun h => ?_) (fun h => ?_)
  · refine ux_iconst (v := 0) C dX8_isWrong_11 (by decide) ?_
    exact ux_zretK C hr dX8_isWrong_12 (by decide) h (Nat.le_of_ble_eq_true rfl) (Nat.le_of_ble_eq_true rfl)
  · refine ux_iconst (v := 1) C dX8_isWrong_7 (by decide) ?_
    refine ux_goto C dX8_isWrong_8 ?_
    exact ux_zretK C hr dX8_isWrong_12 (by decide) h (Nat.le_of_ble_eq_true rfl) (Nat.le_of_ble_eq_true rfl)
set_option maxRecDepth 100000 in
set_option maxHeartbeats 4000000 in
theorem kX8_fails {l : Launch} {V : uV} (W0 : uWM l V) {p1 : Int32} {st : uSt} {s9 : uSt} (h : fX8_fails p1 st = some ((), s9)) : uMet l V yX8_fails cX8_fails 2 none 1 20 0 0 [.ref (vA V 0), .int p1] st none s9 := by
  refine ux_met W0.1 W0.2.1 (by decide) rfl (Nat.le_of_ble_eq_true rfl) (fun M hL hr C => ?_)
  subst hL
  have C : uCx M V cX8_fails 2 RX8 1 20 0 0 := C
  unfold fX8_fails at h
  refine ux_aload_n C dX8_fails_0 0 rfl ?_
  obtain ⟨x_1, h1, h⟩ := ob_some h
  refine ux_callVi C cv_X8_92 dX8_fails_1 (oM W0) rfl (kX8_isWrong W0 h1) rfl (Nat.le_of_ble_eq_true rfl) ⟨(Nat.le_of_ble_eq_true rfl), (Nat.le_of_ble_eq_true rfl)⟩ ⟨(Nat.le_of_ble_eq_true rfl), (Nat.le_of_ble_eq_true rfl)⟩ ?_ rfl
  refine ux_if_eq C dX8_fails_4 h (fun h => ?_) (fun h => ?_)
  · refine ux_aload_n C dX8_fails_8 0 rfl ?_
    refine ux_iload_n C dX8_fails_9 1 rfl ?_
    refine ux_puti C fp_X8_89 dX8_fails_10 (oM W0) (Nat.le_of_ble_eq_true rfl) rfl h (fun st_2 h => ?_)
    refine ux_aload_n C dX8_fails_13 0 rfl ?_
    refine ux_aload_n C dX8_fails_14 0 rfl ?_
    refine ux_get C fl_X8_73 dX8_fails_15 (oM W0) rfl ?_
    refine ux_puti C fp_X8_29 dX8_fails_18 (oM W0) (Nat.le_of_ble_eq_true rfl) rfl h (fun st_3 h => ?_)
    exact ux_vret C hr dX8_fails_21 h (Nat.le_of_ble_eq_true rfl) (Nat.le_of_ble_eq_true rfl)
  · exact ux_vret C hr dX8_fails_7 h (Nat.le_of_ble_eq_true rfl) (Nat.le_of_ble_eq_true rfl)
set_option maxRecDepth 100000 in
set_option maxHeartbeats 4000000 in
theorem wX8_isWord_35 {M : uM} {V : uV} (W0 : uWM (mL M) V) (C : uCx M V cX8_isWord 3 RX8 4 85 0 0) (hr : (mT M).sig.returnType = (some .boolean)) {w : Nat} (hw : w < 16) {st : uSt} {r : Int32} {ke : Option Int32} (K : ke = some r → uW M V (uEnd M V 0 0 (some (.int r)) st) 3 0 0 69 [] [] st) : ∀ (n : Nat) (l2 : Int32), fX8_isWord_35 w st ke n l2 = some r → uW M V (uEnd M V 0 0 (some (.int r)) st) 3 0 0 35 [(0, .ref (vA V 0)), (1, .ref (vK V w)), (2, .int l2)] [] st := by
  intro n
  induction n with
  | zero =>
    intro l2 h
    rw [fX8_isWord_35] at h
    cases h
  | succ n ih =>
    intro l2 h
    rw [fX8_isWord_35] at h
    refine ux_iload_n C dX8_isWord_35 2 rfl ?_
    refine ux_aload_n C dX8_isWord_36 1 rfl ?_
    obtain ⟨x_4, h1, h⟩ := ob_some h
    refine ux_callTi C cv_X8_96 dX8_isWord_37 hw (kJ0_length_8abf5 ⟨W0.1, W0.2.1⟩ hw h1) rfl (Nat.le_of_ble_eq_true rfl) ⟨(Nat.le_of_ble_eq_true rfl), (Nat.le_of_ble_eq_true rfl)⟩ ⟨(Nat.le_of_ble_eq_true rfl), (Nat.le_of_ble_eq_true rfl)⟩ ?_ rfl
    refine ux_icmp_ge C dX8_isWord_40 h (fun h => ?_) (fun h => ?_)
    · refine ux_sub [] rfl ?_
      exact K  h
    · refine ux_aload_n C dX8_isWord_43 0 rfl ?_
      refine ux_aload_n C dX8_isWord_44 0 rfl ?_
      refine ux_get C fl_X8_73 dX8_isWord_45 (oM W0) rfl ?_
      refine ux_iload_n C dX8_isWord_48 2 rfl ?_
      refine ux_iadd C dX8_isWord_49 ?_
      obtain ⟨x_5, h1, h⟩ := ob_some h
      refine ux_callVi C cv_X8_69 dX8_isWord_50 (oM W0) rfl (kX8_at W0 h1) rfl (Nat.le_of_ble_eq_true rfl) ⟨(Nat.le_of_ble_eq_true rfl), (Nat.le_of_ble_eq_true rfl)⟩ ⟨(Nat.le_of_ble_eq_true rfl), (Nat.le_of_ble_eq_true rfl)⟩ ?_ rfl
      refine ux_aload_n C dX8_isWord_53 1 rfl ?_
      refine ux_iload_n C dX8_isWord_54 2 rfl ?_
      obtain ⟨x_6, h1, h⟩ := ob_some h
      refine ux_callTi C cv_X8_102 dX8_isWord_55 hw (kJ0_charAt_5068e ⟨W0.1, W0.2.1⟩ hw h1) rfl (Nat.le_of_ble_eq_true rfl) ⟨(Nat.le_of_ble_eq_true rfl), (Nat.le_of_ble_eq_true rfl)⟩ ⟨(Nat.le_of_ble_eq_true rfl), (Nat.le_of_ble_eq_true rfl)⟩ ?_ rfl
      refine ux_icmp_eq C dX8_isWord_58 h (fun h => ?_) (fun h => ?_)
      · refine ux_iincK C dX8_isWord_63 (by decide) 2 rfl (fun z => [(2, .int z), (0, .ref (vA V 0)), (1, .ref (vK V w))]) (fun _ => rfl) (by decide) h (fun l2_7 h => ?_)
        refine ux_goto C dX8_isWord_66 ?_
        refine ux_sub [1, 2, 0] rfl ?_
        exact ih _ h
      · refine ux_iconst (v := 0) C dX8_isWord_61 (by decide) ?_
        exact ux_zretK C hr dX8_isWord_62 (by decide) h (Nat.le_of_ble_eq_true rfl) (Nat.le_of_ble_eq_true rfl)
set_option maxRecDepth 100000 in
set_option maxHeartbeats 4000000 in
theorem kX8_isWord {l : Launch} {V : uV} (W0 : uWM l V) {w : Nat} (hw : w < 16) {st : uSt} {r : Int32} (h : fX8_isWord w st = some r) : uMet l V yX8_isWord cX8_isWord 3 (some .boolean) 4 85 0 0 [.ref (vA V 0), .ref (vK V w)] st (some (.int r)) st := by
  refine ux_met W0.1 W0.2.1 (by decide) rfl (Nat.le_of_ble_eq_true rfl) (fun M hL hr C => ?_)
  subst hL
  have C : uCx M V cX8_isWord 3 RX8 4 85 0 0 := C
  unfold fX8_isWord at h
  refine ux_aload_n C dX8_isWord_0 0 rfl ?_
  obtain ⟨x_1, h1, h⟩ := ob_some h
  refine ux_callVi C cv_X8_92 dX8_isWord_1 (oM W0) rfl (kX8_isWrong W0 h1) rfl (Nat.le_of_ble_eq_true rfl) ⟨(Nat.le_of_ble_eq_true rfl), (Nat.le_of_ble_eq_true rfl)⟩ ⟨(Nat.le_of_ble_eq_true rfl), (Nat.le_of_ble_eq_true rfl)⟩ ?_ rfl
  refine ux_if_ne C dX8_isWord_4 h (fun h => ?_) (fun h => ?_)
  · refine ux_aload_n C dX8_isWord_7 0 rfl ?_
    refine ux_get C fl_X8_76 dX8_isWord_8 (oM W0) rfl ?_
    refine ux_iconst (v := 1) C dX8_isWord_11 (by decide) ?_
    refine ux_icmp_ne C dX8_isWord_12 h (fun h => ?_) (fun h => ?_)
    · refine ux_aload_n C dX8_isWord_15 0 rfl ?_
      refine ux_get C fl_X8_66 dX8_isWord_16 (oM W0) rfl ?_
      refine ux_aload_n C dX8_isWord_19 0 rfl ?_
      refine ux_get C fl_X8_73 dX8_isWord_20 (oM W0) rfl ?_
      refine ux_isub C dX8_isWord_23 ?_
      refine ux_aload_n C dX8_isWord_24 1 rfl ?_
      obtain ⟨x_2, h1, h⟩ := ob_some h
      refine ux_callTi C cv_X8_96 dX8_isWord_25 hw (kJ0_length_8abf5 ⟨W0.1, W0.2.1⟩ hw h1) rfl (Nat.le_of_ble_eq_true rfl) ⟨(Nat.le_of_ble_eq_true rfl), (Nat.le_of_ble_eq_true rfl)⟩ ⟨(Nat.le_of_ble_eq_true rfl), (Nat.le_of_ble_eq_true rfl)⟩ ?_ rfl
      refine ux_icmp_eq C dX8_isWord_28 h (fun h => ?_) (fun h => ?_)
      · refine ux_iconst (v := 0) C dX8_isWord_33 (by decide) ?_
        refine ux_istoreK_n C dX8_isWord_34 rfl (by decide) ?_
        refine ux_sub [1, 2, 0] rfl ?_
        refine wX8_isWord_35 W0 C hr hw (fun h => ?_) _ _ h
        refine ux_iconst (v := 1) C dX8_isWord_69 (by decide) ?_
        exact ux_zretK C hr dX8_isWord_70 (by decide) h (Nat.le_of_ble_eq_true rfl) (Nat.le_of_ble_eq_true rfl)
      · refine ux_iconst (v := 0) C dX8_isWord_31 (by decide) ?_
        exact ux_zretK C hr dX8_isWord_32 (by decide) h (Nat.le_of_ble_eq_true rfl) (Nat.le_of_ble_eq_true rfl)
    · refine ux_iconst (v := 0) C dX8_isWord_31 (by decide) ?_
      exact ux_zretK C hr dX8_isWord_32 (by decide) h (Nat.le_of_ble_eq_true rfl) (Nat.le_of_ble_eq_true rfl)
  · refine ux_iconst (v := 0) C dX8_isWord_31 (by decide) ?_
    exact ux_zretK C hr dX8_isWord_32 (by decide) h (Nat.le_of_ble_eq_true rfl) (Nat.le_of_ble_eq_true rfl)
set_option maxRecDepth 100000 in
set_option maxHeartbeats 4000000 in
theorem kX8_takesWord {l : Launch} {V : uV} (W0 : uWM l V) {w : Nat} (hw : w < 16) {st : uSt} {r : Int32} {s9 : uSt} (h : fX8_takesWord w st = some (r, s9)) : uMet l V yX8_takesWord cX8_takesWord 3 (some .boolean) 5 107 0 0 [.ref (vA V 0), .ref (vK V w)] st (some (.int r)) s9 := by
  refine ux_met W0.1 W0.2.1 (by decide) rfl (Nat.le_of_ble_eq_true rfl) (fun M hL hr C => ?_)
  subst hL
  have C : uCx M V cX8_takesWord 3 RX8 5 107 0 0 := C
  unfold fX8_takesWord at h
  refine ux_aload_n C dX8_takesWord_0 0 rfl ?_
  refine ux_aload_n C dX8_takesWord_1 1 rfl ?_
  obtain ⟨x_1, h1, h⟩ := ob_some h
  refine ux_callVi C cv_X8_106 dX8_takesWord_2 (oM W0) rfl (kX8_isWord W0 hw h1) rfl (Nat.le_of_ble_eq_true rfl) ⟨(Nat.le_of_ble_eq_true rfl), (Nat.le_of_ble_eq_true rfl)⟩ ⟨(Nat.le_of_ble_eq_true rfl), (Nat.le_of_ble_eq_true rfl)⟩ ?_ rfl
  refine ux_istoreK_n C dX8_takesWord_5 rfl (by decide) ?_
  refine ux_iload_n C dX8_takesWord_6 0 rfl ?_
  refine ux_if_eq C dX8_takesWord_7 h (fun h => ?_) (fun h => ?_)
  · refine ux_iload_n C dX8_takesWord_14 0 rfl ?_
    exact ux_zretS C hr dX8_takesWord_15 h (Nat.le_of_ble_eq_true rfl) (Nat.le_of_ble_eq_true rfl)
  · refine ux_aload_n C dX8_takesWord_10 1 rfl ?_
    obtain ⟨st_3, h1, h⟩ := obV_some h
    refine ux_callVv C cv_X8_110 dX8_takesWord_11 (oM W0) rfl (kX8_token W0 h1) rfl (Nat.le_of_ble_eq_true rfl) ⟨(Nat.le_of_ble_eq_true rfl), (Nat.le_of_ble_eq_true rfl)⟩ ⟨(Nat.le_of_ble_eq_true rfl), (Nat.le_of_ble_eq_true rfl)⟩ ?_ rfl
    refine ux_iload_n C dX8_takesWord_14 0 rfl ?_
    exact ux_zretS C hr dX8_takesWord_15 h (Nat.le_of_ble_eq_true rfl) (Nat.le_of_ble_eq_true rfl)
set_option maxRecDepth 100000 in
set_option maxHeartbeats 4000000 in
theorem kX8_figure {l : Launch} {V : uV} (W0 : uWM l V) {p1 : Int32} {p2 : Int32} {st : uSt} {r : Int32} {s9 : uSt} (h : fX8_figure p1 p2 st = some (r, s9)) : uMet l V yX8_figure cX8_figure 4 (some .int) 2 42 0 0 [.ref (vA V 0), .int p1, .int p2] st (some (.int r)) s9 := by
  refine ux_met W0.1 W0.2.1 (by decide) rfl (Nat.le_of_ble_eq_true rfl) (fun M hL hr C => ?_)
  subst hL
  have C : uCx M V cX8_figure 4 RX8 2 42 0 0 := C
  unfold fX8_figure at h
  refine ux_aload_n C dX8_figure_0 0 rfl ?_
  obtain ⟨x_1, h1, h⟩ := ob_some h
  refine ux_callVi C cv_X8_92 dX8_figure_1 (oM W0) rfl (kX8_isWrong W0 h1) rfl (Nat.le_of_ble_eq_true rfl) ⟨(Nat.le_of_ble_eq_true rfl), (Nat.le_of_ble_eq_true rfl)⟩ ⟨(Nat.le_of_ble_eq_true rfl), (Nat.le_of_ble_eq_true rfl)⟩ ?_ rfl
  refine ux_if_eq C dX8_figure_4 h (fun h => ?_) (fun h => ?_)
  · refine ux_aload_n C dX8_figure_9 0 rfl ?_
    refine ux_get C fl_X8_76 dX8_figure_10 (oM W0) rfl ?_
    refine ux_iconst (v := 2) C dX8_figure_13 (by decide) ?_
    obtain ⟨j_2, hK_2, h⟩ := oj1_some h
    have hJ_2 : ∀ (st_3 : uSt), j_2 st_3 = some (r, s9) → uW M V (uEnd M V 0 0 (some (.int r)) s9) 4 0 0 42 [(0, .ref (vA V 0))] [] st_3 := by
      intro st_3 h
      replace h := hK_2 st_3 h
      refine ux_aload_n C dX8_figure_42 0 rfl ?_
      refine ux_get C fl_X8_86 dX8_figure_43 (oM W0) rfl ?_
      refine ux_istore_n C dX8_figure_46 (fun z => [(3, .int z), (0, .ref (vA V 0))]) (fun _ => rfl) (by decide) h (fun l3_4 h => ?_)
      refine ux_aload_n C dX8_figure_47 1 rfl ?_
      obtain ⟨x_5, h1, h⟩ := ob_some h
      refine ux_callVi C cv_X8_92 dX8_figure_48 (oM W0) rfl (kX8_isWrong W0 h1) rfl (Nat.le_of_ble_eq_true rfl) ⟨(Nat.le_of_ble_eq_true rfl), (Nat.le_of_ble_eq_true rfl)⟩ ⟨(Nat.le_of_ble_eq_true rfl), (Nat.le_of_ble_eq_true rfl)⟩ ?_ rfl
      refine ux_if_ne C dX8_figure_51 h (fun h => ?_) (fun h => ?_)
      · refine ux_aload_n C dX8_figure_54 1 rfl ?_
        obtain ⟨st_6, h1, h⟩ := obV_some h
        refine ux_callVv C cv_X8_110 dX8_figure_55 (oM W0) rfl (kX8_token W0 h1) rfl (Nat.le_of_ble_eq_true rfl) ⟨(Nat.le_of_ble_eq_true rfl), (Nat.le_of_ble_eq_true rfl)⟩ ⟨(Nat.le_of_ble_eq_true rfl), (Nat.le_of_ble_eq_true rfl)⟩ ?_ rfl
        refine ux_iload_n C dX8_figure_58 0 rfl ?_
        exact ux_iretS C hr dX8_figure_59 h (Nat.le_of_ble_eq_true rfl) (Nat.le_of_ble_eq_true rfl)
      · refine ux_iload_n C dX8_figure_58 0 rfl ?_
        exact ux_iretS C hr dX8_figure_59 h (Nat.le_of_ble_eq_true rfl) (Nat.le_of_ble_eq_true rfl)
    refine ux_icmp_eq C dX8_figure_14 h (fun h => ?_) (fun h => ?_)
    · refine ux_aload_n C dX8_figure_25 0 rfl ?_
      refine ux_get C fl_X8_86 dX8_figure_26 (oM W0) rfl ?_
      refine ux_iload_n C dX8_figure_29 1 rfl ?_
      refine ux_iload_n C dX8_figure_30 2 rfl ?_
      obtain ⟨x_7, h1, h⟩ := ob_some h
      refine ux_callSi C cs_X8_59 dX8_figure_31 (kX8_isIn W0 h1) rfl (Nat.le_of_ble_eq_true rfl) ⟨(Nat.le_of_ble_eq_true rfl), (Nat.le_of_ble_eq_true rfl)⟩ ⟨(Nat.le_of_ble_eq_true rfl), (Nat.le_of_ble_eq_true rfl)⟩ ?_ rfl
      refine ux_if_ne C dX8_figure_34 h (fun h => ?_) (fun h => ?_)
      · refine ux_aload_n C dX8_figure_37 0 rfl ?_
        refine ux_iconst (v := 2) C dX8_figure_38 (by decide) ?_
        obtain ⟨st_8, h1, h⟩ := obV_some h
        refine ux_callVv C cv_X8_113 dX8_figure_39 (oM W0) rfl (kX8_fails W0 h1) rfl (Nat.le_of_ble_eq_true rfl) ⟨(Nat.le_of_ble_eq_true rfl), (Nat.le_of_ble_eq_true rfl)⟩ ⟨(Nat.le_of_ble_eq_true rfl), (Nat.le_of_ble_eq_true rfl)⟩ ?_ rfl
        refine ux_sub [0] rfl ?_
        exact hJ_2 st_8 h
      · refine ux_sub [0] rfl ?_
        exact hJ_2 st h
    · refine ux_aload_n C dX8_figure_17 0 rfl ?_
      refine ux_iconst (v := 1) C dX8_figure_18 (by decide) ?_
      obtain ⟨st_9, h1, h⟩ := obV_some h
      refine ux_callVv C cv_X8_113 dX8_figure_19 (oM W0) rfl (kX8_fails W0 h1) rfl (Nat.le_of_ble_eq_true rfl) ⟨(Nat.le_of_ble_eq_true rfl), (Nat.le_of_ble_eq_true rfl)⟩ ⟨(Nat.le_of_ble_eq_true rfl), (Nat.le_of_ble_eq_true rfl)⟩ ?_ rfl
      refine ux_goto C dX8_figure_22 ?_
      refine ux_sub [0] rfl ?_
      exact hJ_2 st_9 h
  · refine ux_iload_n C dX8_figure_7 1 rfl ?_
    exact ux_iretS C hr dX8_figure_8 h (Nat.le_of_ble_eq_true rfl) (Nat.le_of_ble_eq_true rfl)
set_option maxRecDepth 100000 in
set_option maxHeartbeats 4000000 in
theorem kX8_ends {l : Launch} {V : uV} (W0 : uWM l V) {st : uSt} {s9 : uSt} (h : fX8_ends st = some ((), s9)) : uMet l V yX8_ends cX8_ends 1 none 2 42 0 0 [.ref (vA V 0)] st none s9 := by
  refine ux_met W0.1 W0.2.1 (by decide) rfl (Nat.le_of_ble_eq_true rfl) (fun M hL hr C => ?_)
  subst hL
  have C : uCx M V cX8_ends 1 RX8 2 42 0 0 := C
  unfold fX8_ends at h
  refine ux_aload_n C dX8_ends_0 0 rfl ?_
  refine ux_get C fl_X8_76 dX8_ends_1 (oM W0) rfl ?_
  refine ux_iconst (v := 3) C dX8_ends_4 (by decide) ?_
  obtain ⟨j_1, hK_1, h⟩ := oj1_some h
  have hJ_1 : ∀ (st_2 : uSt), j_1 st_2 = some ((), s9) → uW M V (uEnd M V 0 0 none s9) 1 0 0 13 [(0, .ref (vA V 0))] [] st_2 := by
    intro st_2 h
    replace h := hK_1 st_2 h
    refine ux_aload_n C dX8_ends_13 0 rfl ?_
    obtain ⟨x_3, h1, h⟩ := ob_some h
    refine ux_callVi C cv_X8_92 dX8_ends_14 (oM W0) rfl (kX8_isWrong W0 h1) rfl (Nat.le_of_ble_eq_true rfl) ⟨(Nat.le_of_ble_eq_true rfl), (Nat.le_of_ble_eq_true rfl)⟩ ⟨(Nat.le_of_ble_eq_true rfl), (Nat.le_of_ble_eq_true rfl)⟩ ?_ rfl
    refine ux_if_ne C dX8_ends_17 h (fun h => ?_) (fun h => ?_)
    · refine ux_aload_n C dX8_ends_20 0 rfl ?_
      obtain ⟨st_4, h1, h⟩ := obV_some h
      refine ux_callVv C cv_X8_110 dX8_ends_21 (oM W0) rfl (kX8_token W0 h1) rfl (Nat.le_of_ble_eq_true rfl) ⟨(Nat.le_of_ble_eq_true rfl), (Nat.le_of_ble_eq_true rfl)⟩ ⟨(Nat.le_of_ble_eq_true rfl), (Nat.le_of_ble_eq_true rfl)⟩ ?_ rfl
      exact ux_vret C hr dX8_ends_24 h (Nat.le_of_ble_eq_true rfl) (Nat.le_of_ble_eq_true rfl)
    · exact ux_vret C hr dX8_ends_24 h (Nat.le_of_ble_eq_true rfl) (Nat.le_of_ble_eq_true rfl)
  refine ux_icmp_eq C dX8_ends_5 h (fun h => ?_) (fun h => ?_)
  · exact hJ_1 st h
  · refine ux_aload_n C dX8_ends_8 0 rfl ?_
    refine ux_iconst (v := 1) C dX8_ends_9 (by decide) ?_
    obtain ⟨st_5, h1, h⟩ := obV_some h
    refine ux_callVv C cv_X8_113 dX8_ends_10 (oM W0) rfl (kX8_fails W0 h1) rfl (Nat.le_of_ble_eq_true rfl) ⟨(Nat.le_of_ble_eq_true rfl), (Nat.le_of_ble_eq_true rfl)⟩ ⟨(Nat.le_of_ble_eq_true rfl), (Nat.le_of_ble_eq_true rfl)⟩ ?_ rfl
    exact hJ_1 st_5 h
set_option maxRecDepth 100000 in
set_option maxHeartbeats 4000000 in
theorem kX8_battery {l : Launch} {V : uV} (W0 : uWM l V) {st : uSt} {s9 : uSt} (h : fX8_battery st = some ((), s9)) : uMet l V yX8_battery cX8_battery 1 none 6 129 0 0 [.ref (vA V 0)] st none s9 := by
  refine ux_met W0.1 W0.2.1 (by decide) rfl (Nat.le_of_ble_eq_true rfl) (fun M hL hr C => ?_)
  subst hL
  have C : uCx M V cX8_battery 1 RX8 6 129 0 0 := C
  unfold fX8_battery at h
  refine ux_aload_n C dX8_battery_0 0 rfl ?_
  refine ux_ldcS (i := 8) C rfl dX8_battery_1 ?_
  obtain ⟨x_2, st_1, h1, h⟩ := obS_some h
  refine ux_callVi C cv_X8_119 dX8_battery_3 (oM W0) rfl (kX8_takesWord W0 (by decide) h1) rfl (Nat.le_of_ble_eq_true rfl) ⟨(Nat.le_of_ble_eq_true rfl), (Nat.le_of_ble_eq_true rfl)⟩ ⟨(Nat.le_of_ble_eq_true rfl), (Nat.le_of_ble_eq_true rfl)⟩ ?_ rfl
  obtain ⟨j_3, hK_3, h⟩ := oj1_some h
  have hJ_3 : ∀ (st_4 : uSt), j_3 st_4 = some ((), s9) → uW M V (uEnd M V 0 0 none s9) 1 0 0 14 [(0, .ref (vA V 0))] [] st_4 := by
    intro st_4 h
    replace h := hK_3 st_4 h
    refine ux_aload_n C dX8_battery_14 0 rfl ?_
    refine ux_get C fl_X8_13 dX8_battery_15 (oM W0) rfl ?_
    refine ux_iconst (v := 0) C dX8_battery_18 (by decide) ?_
    refine ux_aload_n C dX8_battery_19 0 rfl ?_
    refine ux_iconst (v := 1) C dX8_battery_20 (by decide) ?_
    refine ux_sipush (v := 500) C dX8_battery_21 (by decide) ?_
    obtain ⟨x_6, st_5, h1, h⟩ := obS_some h
    refine ux_callVi C cv_X8_122 dX8_battery_24 (oM W0) rfl (kX8_figure W0 h1) rfl (Nat.le_of_ble_eq_true rfl) ⟨(Nat.le_of_ble_eq_true rfl), (Nat.le_of_ble_eq_true rfl)⟩ ⟨(Nat.le_of_ble_eq_true rfl), (Nat.le_of_ble_eq_true rfl)⟩ ?_ rfl
    refine ux_iastK (j := 0) C (aM_told W0) dX8_battery_27 (by decide) (by decide) h (fun st_7 h => ?_)
    refine ux_aload_n C dX8_battery_28 0 rfl ?_
    refine ux_get C fl_X8_13 dX8_battery_29 (oM W0) rfl ?_
    refine ux_iconst (v := 1) C dX8_battery_32 (by decide) ?_
    refine ux_aload_n C dX8_battery_33 0 rfl ?_
    refine ux_iconst (v := 0) C dX8_battery_34 (by decide) ?_
    refine ux_aload_n C dX8_battery_35 0 rfl ?_
    refine ux_get C fl_X8_13 dX8_battery_36 (oM W0) rfl ?_
    refine ux_iconst (v := 0) C dX8_battery_39 (by decide) ?_
    refine ux_ialdK (j := 0) C (aM_told W0) dX8_battery_40 (by decide) (by decide) ?_
    obtain ⟨x_9, st_8, h1, h⟩ := obS_some h
    refine ux_callVi C cv_X8_122 dX8_battery_41 (oM W0) rfl (kX8_figure W0 h1) rfl (Nat.le_of_ble_eq_true rfl) ⟨(Nat.le_of_ble_eq_true rfl), (Nat.le_of_ble_eq_true rfl)⟩ ⟨(Nat.le_of_ble_eq_true rfl), (Nat.le_of_ble_eq_true rfl)⟩ ?_ rfl
    refine ux_iastK (j := 1) C (aM_told W0) dX8_battery_44 (by decide) (by decide) h (fun st_10 h => ?_)
    refine ux_aload_n C dX8_battery_45 0 rfl ?_
    refine ux_get C fl_X8_13 dX8_battery_46 (oM W0) rfl ?_
    refine ux_iconst (v := 2) C dX8_battery_49 (by decide) ?_
    refine ux_aload_n C dX8_battery_50 0 rfl ?_
    refine ux_iconst (v := 0) C dX8_battery_51 (by decide) ?_
    refine ux_bipush (v := 50) C dX8_battery_52 (by decide) ?_
    obtain ⟨x_12, st_11, h1, h⟩ := obS_some h
    refine ux_callVi C cv_X8_122 dX8_battery_54 (oM W0) rfl (kX8_figure W0 h1) rfl (Nat.le_of_ble_eq_true rfl) ⟨(Nat.le_of_ble_eq_true rfl), (Nat.le_of_ble_eq_true rfl)⟩ ⟨(Nat.le_of_ble_eq_true rfl), (Nat.le_of_ble_eq_true rfl)⟩ ?_ rfl
    refine ux_iastK (j := 2) C (aM_told W0) dX8_battery_57 (by decide) (by decide) h (fun st_13 h => ?_)
    refine ux_aload_n C dX8_battery_58 0 rfl ?_
    refine ux_get C fl_X8_13 dX8_battery_59 (oM W0) rfl ?_
    refine ux_iconst (v := 3) C dX8_battery_62 (by decide) ?_
    refine ux_aload_n C dX8_battery_63 0 rfl ?_
    refine ux_iconst (v := 1) C dX8_battery_64 (by decide) ?_
    refine ux_bipush (v := 50) C dX8_battery_65 (by decide) ?_
    obtain ⟨x_15, st_14, h1, h⟩ := obS_some h
    refine ux_callVi C cv_X8_122 dX8_battery_67 (oM W0) rfl (kX8_figure W0 h1) rfl (Nat.le_of_ble_eq_true rfl) ⟨(Nat.le_of_ble_eq_true rfl), (Nat.le_of_ble_eq_true rfl)⟩ ⟨(Nat.le_of_ble_eq_true rfl), (Nat.le_of_ble_eq_true rfl)⟩ ?_ rfl
    refine ux_iastK (j := 3) C (aM_told W0) dX8_battery_70 (by decide) (by decide) h (fun st_16 h => ?_)
    refine ux_aload_n C dX8_battery_71 0 rfl ?_
    refine ux_get C fl_X8_13 dX8_battery_72 (oM W0) rfl ?_
    refine ux_iconst (v := 4) C dX8_battery_75 (by decide) ?_
    refine ux_aload_n C dX8_battery_76 0 rfl ?_
    refine ux_iconst (v := 1) C dX8_battery_77 (by decide) ?_
    refine ux_sipush (v := 1000) C dX8_battery_78 (by decide) ?_
    obtain ⟨x_18, st_17, h1, h⟩ := obS_some h
    refine ux_callVi C cv_X8_122 dX8_battery_81 (oM W0) rfl (kX8_figure W0 h1) rfl (Nat.le_of_ble_eq_true rfl) ⟨(Nat.le_of_ble_eq_true rfl), (Nat.le_of_ble_eq_true rfl)⟩ ⟨(Nat.le_of_ble_eq_true rfl), (Nat.le_of_ble_eq_true rfl)⟩ ?_ rfl
    refine ux_iastK (j := 4) C (aM_told W0) dX8_battery_84 (by decide) (by decide) h (fun st_19 h => ?_)
    refine ux_aload_n C dX8_battery_85 0 rfl ?_
    obtain ⟨st_20, h1, h⟩ := obV_some h
    refine ux_callVv C cv_X8_126 dX8_battery_86 (oM W0) rfl (kX8_ends W0 h1) rfl (Nat.le_of_ble_eq_true rfl) ⟨(Nat.le_of_ble_eq_true rfl), (Nat.le_of_ble_eq_true rfl)⟩ ⟨(Nat.le_of_ble_eq_true rfl), (Nat.le_of_ble_eq_true rfl)⟩ ?_ rfl
    exact ux_vret C hr dX8_battery_89 h (Nat.le_of_ble_eq_true rfl) (Nat.le_of_ble_eq_true rfl)
  refine ux_if_ne C dX8_battery_6 h (fun h => ?_) (fun h => ?_)
  · refine ux_aload_n C dX8_battery_9 0 rfl ?_
    refine ux_iconst (v := 1) C dX8_battery_10 (by decide) ?_
    obtain ⟨st_21, h1, h⟩ := obV_some h
    refine ux_callVv C cv_X8_113 dX8_battery_11 (oM W0) rfl (kX8_fails W0 h1) rfl (Nat.le_of_ble_eq_true rfl) ⟨(Nat.le_of_ble_eq_true rfl), (Nat.le_of_ble_eq_true rfl)⟩ ⟨(Nat.le_of_ble_eq_true rfl), (Nat.le_of_ble_eq_true rfl)⟩ ?_ rfl
    exact hJ_3 st_21 h
  · exact hJ_3 st_1 h
set_option maxRecDepth 100000 in
set_option maxHeartbeats 4000000 in
theorem kX8_mode {l : Launch} {V : uV} (W0 : uWM l V) {st : uSt} {s9 : uSt} (h : fX8_mode st = some ((), s9)) : uMet l V yX8_mode cX8_mode 1 none 6 129 0 0 [.ref (vA V 0)] st none s9 := by
  refine ux_met W0.1 W0.2.1 (by decide) rfl (Nat.le_of_ble_eq_true rfl) (fun M hL hr C => ?_)
  subst hL
  have C : uCx M V cX8_mode 1 RX8 6 129 0 0 := C
  unfold fX8_mode at h
  refine ux_aload_n C dX8_mode_0 0 rfl ?_
  refine ux_ldcS (i := 15) C rfl dX8_mode_1 ?_
  obtain ⟨x_2, st_1, h1, h⟩ := obS_some h
  refine ux_callVi C cv_X8_119 dX8_mode_3 (oM W0) rfl (kX8_takesWord W0 (by decide) h1) rfl (Nat.le_of_ble_eq_true rfl) ⟨(Nat.le_of_ble_eq_true rfl), (Nat.le_of_ble_eq_true rfl)⟩ ⟨(Nat.le_of_ble_eq_true rfl), (Nat.le_of_ble_eq_true rfl)⟩ ?_ rfl
  refine ux_if_eq C dX8_mode_6 h (fun h => ?_) (fun h => ?_)
  · refine ux_aload_n C dX8_mode_10 0 rfl ?_
    refine ux_ldcS (i := 14) C rfl dX8_mode_11 ?_
    obtain ⟨x_4, st_3, h1, h⟩ := obS_some h
    refine ux_callVi C cv_X8_119 dX8_mode_13 (oM W0) rfl (kX8_takesWord W0 (by decide) h1) rfl (Nat.le_of_ble_eq_true rfl) ⟨(Nat.le_of_ble_eq_true rfl), (Nat.le_of_ble_eq_true rfl)⟩ ⟨(Nat.le_of_ble_eq_true rfl), (Nat.le_of_ble_eq_true rfl)⟩ ?_ rfl
    refine ux_if_eq C dX8_mode_16 h (fun h => ?_) (fun h => ?_)
    · refine ux_aload_n C dX8_mode_30 0 rfl ?_
      refine ux_ldcS (i := 13) C rfl dX8_mode_31 ?_
      obtain ⟨x_6, st_5, h1, h⟩ := obS_some h
      refine ux_callVi C cv_X8_119 dX8_mode_33 (oM W0) rfl (kX8_takesWord W0 (by decide) h1) rfl (Nat.le_of_ble_eq_true rfl) ⟨(Nat.le_of_ble_eq_true rfl), (Nat.le_of_ble_eq_true rfl)⟩ ⟨(Nat.le_of_ble_eq_true rfl), (Nat.le_of_ble_eq_true rfl)⟩ ?_ rfl
      obtain ⟨j_7, hK_7, h⟩ := oj1_some h
      have hJ_7 : ∀ (st_8 : uSt), j_7 st_8 = some ((), s9) → uW M V (uEnd M V 0 0 none s9) 1 0 0 44 [(0, .ref (vA V 0))] [] st_8 := by
        intro st_8 h
        replace h := hK_7 st_8 h
        refine ux_aload_n C dX8_mode_44 0 rfl ?_
        refine ux_get C fl_X8_13 dX8_mode_45 (oM W0) rfl ?_
        refine ux_bipush (v := 7) C dX8_mode_48 (by decide) ?_
        refine ux_iconst (v := 1) C dX8_mode_50 (by decide) ?_
        refine ux_iastK (j := 7) C (aM_told W0) dX8_mode_51 (by decide) (by decide) h (fun st_9 h => ?_)
        refine ux_aload_n C dX8_mode_52 0 rfl ?_
        refine ux_get C fl_X8_13 dX8_mode_53 (oM W0) rfl ?_
        refine ux_bipush (v := 8) C dX8_mode_56 (by decide) ?_
        refine ux_aload_n C dX8_mode_58 0 rfl ?_
        refine ux_iconst (v := 1) C dX8_mode_59 (by decide) ?_
        refine ux_bipush (v := 99) C dX8_mode_60 (by decide) ?_
        obtain ⟨x_11, st_10, h1, h⟩ := obS_some h
        refine ux_callVi C cv_X8_122 dX8_mode_62 (oM W0) rfl (kX8_figure W0 h1) rfl (Nat.le_of_ble_eq_true rfl) ⟨(Nat.le_of_ble_eq_true rfl), (Nat.le_of_ble_eq_true rfl)⟩ ⟨(Nat.le_of_ble_eq_true rfl), (Nat.le_of_ble_eq_true rfl)⟩ ?_ rfl
        refine ux_iastK (j := 8) C (aM_told W0) dX8_mode_65 (by decide) (by decide) h (fun st_12 h => ?_)
        exact ux_vret C hr dX8_mode_66 h (Nat.le_of_ble_eq_true rfl) (Nat.le_of_ble_eq_true rfl)
      refine ux_if_ne C dX8_mode_36 h (fun h => ?_) (fun h => ?_)
      · refine ux_aload_n C dX8_mode_39 0 rfl ?_
        refine ux_iconst (v := 1) C dX8_mode_40 (by decide) ?_
        obtain ⟨st_13, h1, h⟩ := obV_some h
        refine ux_callVv C cv_X8_113 dX8_mode_41 (oM W0) rfl (kX8_fails W0 h1) rfl (Nat.le_of_ble_eq_true rfl) ⟨(Nat.le_of_ble_eq_true rfl), (Nat.le_of_ble_eq_true rfl)⟩ ⟨(Nat.le_of_ble_eq_true rfl), (Nat.le_of_ble_eq_true rfl)⟩ ?_ rfl
        exact hJ_7 st_13 h
      · exact hJ_7 st_5 h
    · refine ux_aload_n C dX8_mode_19 0 rfl ?_
      refine ux_get C fl_X8_13 dX8_mode_20 (oM W0) rfl ?_
      refine ux_bipush (v := 7) C dX8_mode_23 (by decide) ?_
      refine ux_iconst (v := 2) C dX8_mode_25 (by decide) ?_
      refine ux_iastK (j := 7) C (aM_told W0) dX8_mode_26 (by decide) (by decide) h (fun st_14 h => ?_)
      refine ux_goto C dX8_mode_27 ?_
      exact ux_vret C hr dX8_mode_66 h (Nat.le_of_ble_eq_true rfl) (Nat.le_of_ble_eq_true rfl)
  · exact ux_vret C hr dX8_mode_9 h (Nat.le_of_ble_eq_true rfl) (Nat.le_of_ble_eq_true rfl)
set_option maxRecDepth 100000 in
set_option maxHeartbeats 4000000 in
theorem kX8_setting {l : Launch} {V : uV} (W0 : uWM l V) {st : uSt} {r : Int32} (h : fX8_setting st = some r) : uMet l V yX8_setting cX8_setting 1 (some .int) 5 107 0 0 [.ref (vA V 0)] st (some (.int r)) st := by
  refine ux_met W0.1 W0.2.1 (by decide) rfl (Nat.le_of_ble_eq_true rfl) (fun M hL hr C => ?_)
  subst hL
  have C : uCx M V cX8_setting 1 RX8 5 107 0 0 := C
  unfold fX8_setting at h
  refine ux_aload_n C dX8_setting_0 0 rfl ?_
  refine ux_ldcS (i := 10) C rfl dX8_setting_1 ?_
  obtain ⟨x_1, h1, h⟩ := ob_some h
  refine ux_callVi C cv_X8_106 dX8_setting_3 (oM W0) rfl (kX8_isWord W0 (by decide) h1) rfl (Nat.le_of_ble_eq_true rfl) ⟨(Nat.le_of_ble_eq_true rfl), (Nat.le_of_ble_eq_true rfl)⟩ ⟨(Nat.le_of_ble_eq_true rfl), (Nat.le_of_ble_eq_true rfl)⟩ ?_ rfl
  refine ux_if_eq C dX8_setting_6 h (fun h => ?_) (fun h => ?_)
  · refine ux_aload_n C dX8_setting_13 0 rfl ?_
    refine ux_ldcS (i := 11) C rfl dX8_setting_14 ?_
    obtain ⟨x_2, h1, h⟩ := ob_some h
    refine ux_callVi C cv_X8_106 dX8_setting_16 (oM W0) rfl (kX8_isWord W0 (by decide) h1) rfl (Nat.le_of_ble_eq_true rfl) ⟨(Nat.le_of_ble_eq_true rfl), (Nat.le_of_ble_eq_true rfl)⟩ ⟨(Nat.le_of_ble_eq_true rfl), (Nat.le_of_ble_eq_true rfl)⟩ ?_ rfl
    refine ux_if_eq C dX8_setting_19 h (fun h => ?_) (fun h => ?_)
    · refine ux_aload_n C dX8_setting_26 0 rfl ?_
      refine ux_ldcS (i := 12) C rfl dX8_setting_27 ?_
      obtain ⟨x_3, h1, h⟩ := ob_some h
      refine ux_callVi C cv_X8_106 dX8_setting_29 (oM W0) rfl (kX8_isWord W0 (by decide) h1) rfl (Nat.le_of_ble_eq_true rfl) ⟨(Nat.le_of_ble_eq_true rfl), (Nat.le_of_ble_eq_true rfl)⟩ ⟨(Nat.le_of_ble_eq_true rfl), (Nat.le_of_ble_eq_true rfl)⟩ ?_ rfl
      refine ux_if_eq C dX8_setting_32 h (fun h => ?_) (fun h => ?_)
      · refine ux_iconst (v := (-1)) C dX8_setting_39 (by decide) ?_
        exact ux_iret C hr dX8_setting_40 h (Nat.le_of_ble_eq_true rfl) (Nat.le_of_ble_eq_true rfl)
      · refine ux_iconst (v := 2) C dX8_setting_35 (by decide) ?_
        refine ux_goto C dX8_setting_36 ?_
        exact ux_iret C hr dX8_setting_40 h (Nat.le_of_ble_eq_true rfl) (Nat.le_of_ble_eq_true rfl)
    · refine ux_iconst (v := 1) C dX8_setting_22 (by decide) ?_
      refine ux_goto C dX8_setting_23 ?_
      exact ux_iret C hr dX8_setting_40 h (Nat.le_of_ble_eq_true rfl) (Nat.le_of_ble_eq_true rfl)
  · refine ux_iconst (v := 0) C dX8_setting_9 (by decide) ?_
    refine ux_goto C dX8_setting_10 ?_
    exact ux_iret C hr dX8_setting_40 h (Nat.le_of_ble_eq_true rfl) (Nat.le_of_ble_eq_true rfl)
set_option maxRecDepth 100000 in
set_option maxHeartbeats 4000000 in
theorem wX8_settings_7 {M : uM} {V : uV} (W0 : uWM (mL M) V) (C : uCx M V cX8_settings 3 RX8 7 149 0 0) (hr : (mT M).sig.returnType = none) {s9 : uSt} {ke : uSt → Option (Unit × uSt)} (K : ∀ (st : uSt), ke st = some ((), s9) → uW M V (uEnd M V 0 0 none s9) 3 0 0 101 [] [] st) : ∀ (n : Nat) (st : uSt) (l1 : Int32) (l2 : Int32), fX8_settings_7 ke n st l1 l2 = some ((), s9) → uW M V (uEnd M V 0 0 none s9) 3 0 0 7 [(0, .ref (vA V 0)), (1, .int l1), (2, .int l2)] [] st := by
  intro n
  induction n with
  | zero =>
    intro st l1 l2 h
    rw [fX8_settings_7] at h
    cases h
  | succ n ih =>
    intro st l1 l2 h
    rw [fX8_settings_7] at h
    refine ux_iload_n C dX8_settings_7 2 rfl ?_
    refine ux_iconst (v := (-1)) C dX8_settings_8 (by decide) ?_
    refine ux_icmp_eq C dX8_settings_9 h (fun h => ?_) (fun h => ?_)
    · refine ux_sub [] rfl ?_
      exact K st h
    · refine ux_iload_n C dX8_settings_12 1 rfl ?_
      refine ux_iload_n C dX8_settings_13 2 rfl ?_
      obtain ⟨x_4, h1, h⟩ := ob_some h
      refine ux_callSi C cs_X8_144 dX8_settings_14 (kX8_has W0 h1) rfl (Nat.le_of_ble_eq_true rfl) ⟨(Nat.le_of_ble_eq_true rfl), (Nat.le_of_ble_eq_true rfl)⟩ ⟨(Nat.le_of_ble_eq_true rfl), (Nat.le_of_ble_eq_true rfl)⟩ ?_ rfl
      obtain ⟨j_5, hK_5, h⟩ := oj1_some h
      have hJ_5 : ∀ (st_6 : uSt), j_5 st_6 = some ((), s9) → uW M V (uEnd M V 0 0 none s9) 3 0 0 25 [(0, .ref (vA V 0)), (1, .int l1), (2, .int l2)] [] st_6 := by
        intro st_6 h
        replace h := hK_5 st_6 h
        refine ux_iload_n C dX8_settings_25 1 rfl ?_
        refine ux_iconst (v := 1) C dX8_settings_26 (by decide) ?_
        refine ux_iload_n C dX8_settings_27 2 rfl ?_
        refine ux_ishl C dX8_settings_28 ?_
        refine ux_ior C dX8_settings_29 ?_
        refine ux_istore_n C dX8_settings_30 (fun z => [(1, .int z), (0, .ref (vA V 0)), (2, .int l2)]) (fun _ => rfl) (by decide) h (fun l1_7 h => ?_)
        refine ux_aload_n C dX8_settings_31 1 rfl ?_
        obtain ⟨x_8, h1, h⟩ := ob_some h
        refine ux_callVi C cv_X8_92 dX8_settings_32 (oM W0) rfl (kX8_isWrong W0 h1) rfl (Nat.le_of_ble_eq_true rfl) ⟨(Nat.le_of_ble_eq_true rfl), (Nat.le_of_ble_eq_true rfl)⟩ ⟨(Nat.le_of_ble_eq_true rfl), (Nat.le_of_ble_eq_true rfl)⟩ ?_ rfl
        refine ux_if_eq C dX8_settings_35 h (fun h => ?_) (fun h => ?_)
        · refine ux_aload_n C dX8_settings_39 1 rfl ?_
          obtain ⟨st_9, h1, h⟩ := obV_some h
          refine ux_callVv C cv_X8_110 dX8_settings_40 (oM W0) rfl (kX8_token W0 h1) rfl (Nat.le_of_ble_eq_true rfl) ⟨(Nat.le_of_ble_eq_true rfl), (Nat.le_of_ble_eq_true rfl)⟩ ⟨(Nat.le_of_ble_eq_true rfl), (Nat.le_of_ble_eq_true rfl)⟩ ?_ rfl
          refine ux_iload_n C dX8_settings_43 2 rfl ?_
          obtain ⟨j_10, hK_10, h⟩ := oj1_some h
          have hJ_10 : ∀ (st_11 : uSt), j_10 st_11 = some ((), s9) → uW M V (uEnd M V 0 0 none s9) 3 0 0 61 [(0, .ref (vA V 0)), (1, .int l1_7), (2, .int l2)] [] st_11 := by
            intro st_11 h
            replace h := hK_10 st_11 h
            refine ux_iload_n C dX8_settings_61 2 rfl ?_
            refine ux_iconst (v := 1) C dX8_settings_62 (by decide) ?_
            obtain ⟨j_12, hK_12, h⟩ := oj1_some h
            have hJ_12 : ∀ (st_13 : uSt), j_12 st_13 = some ((), s9) → uW M V (uEnd M V 0 0 none s9) 3 0 0 80 [(0, .ref (vA V 0)), (1, .int l1_7), (2, .int l2)] [] st_13 := by
              intro st_13 h
              replace h := hK_12 st_13 h
              refine ux_iload_n C dX8_settings_80 2 rfl ?_
              refine ux_iconst (v := 2) C dX8_settings_81 (by decide) ?_
              obtain ⟨j_14, hK_14, h⟩ := oj1_some h
              have hJ_14 : ∀ (st_15 : uSt), j_14 st_15 = some ((), s9) → uW M V (uEnd M V 0 0 none s9) 3 0 0 89 [(0, .ref (vA V 0)), (1, .int l1_7)] [] st_15 := by
                intro st_15 h
                replace h := hK_14 st_15 h
                refine ux_aload_n C dX8_settings_89 0 rfl ?_
                obtain ⟨st_16, h1, h⟩ := obV_some h
                refine ux_callVv C cv_X8_126 dX8_settings_90 (oM W0) rfl (kX8_ends W0 h1) rfl (Nat.le_of_ble_eq_true rfl) ⟨(Nat.le_of_ble_eq_true rfl), (Nat.le_of_ble_eq_true rfl)⟩ ⟨(Nat.le_of_ble_eq_true rfl), (Nat.le_of_ble_eq_true rfl)⟩ ?_ rfl
                refine ux_aload_n C dX8_settings_93 0 rfl ?_
                obtain ⟨x_17, h1, h⟩ := ob_some h
                refine ux_callVi C cv_X8_141 dX8_settings_94 (oM W0) rfl (kX8_setting W0 h1) rfl (Nat.le_of_ble_eq_true rfl) ⟨(Nat.le_of_ble_eq_true rfl), (Nat.le_of_ble_eq_true rfl)⟩ ⟨(Nat.le_of_ble_eq_true rfl), (Nat.le_of_ble_eq_true rfl)⟩ ?_ rfl
                refine ux_istoreK_n C dX8_settings_97 rfl (by decide) ?_
                refine ux_goto C dX8_settings_98 ?_
                refine ux_sub [1, 2, 0] rfl ?_
                exact ih _ _ _ h
              refine ux_icmp_ne C dX8_settings_82 h (fun h => ?_) (fun h => ?_)
              · refine ux_aload_n C dX8_settings_85 0 rfl ?_
                obtain ⟨st_19, h1, h⟩ := obV_some h
                refine ux_callVv C cv_X8_148 dX8_settings_86 (oM W0) rfl (kX8_mode W0 h1) rfl (Nat.le_of_ble_eq_true rfl) ⟨(Nat.le_of_ble_eq_true rfl), (Nat.le_of_ble_eq_true rfl)⟩ ⟨(Nat.le_of_ble_eq_true rfl), (Nat.le_of_ble_eq_true rfl)⟩ ?_ rfl
                refine ux_sub [0, 1] rfl ?_
                exact hJ_14 st_19 h
              · refine ux_sub [0, 1] rfl ?_
                exact hJ_14 st_13 h
            refine ux_icmp_ne C dX8_settings_63 h (fun h => ?_) (fun h => ?_)
            · refine ux_aload_n C dX8_settings_66 0 rfl ?_
              refine ux_get C fl_X8_13 dX8_settings_67 (oM W0) rfl ?_
              refine ux_bipush (v := 6) C dX8_settings_70 (by decide) ?_
              refine ux_aload_n C dX8_settings_72 0 rfl ?_
              refine ux_iconst (v := 1) C dX8_settings_73 (by decide) ?_
              refine ux_bipush (v := 24) C dX8_settings_74 (by decide) ?_
              obtain ⟨x_21, st_20, h1, h⟩ := obS_some h
              refine ux_callVi C cv_X8_122 dX8_settings_76 (oM W0) rfl (kX8_figure W0 h1) rfl (Nat.le_of_ble_eq_true rfl) ⟨(Nat.le_of_ble_eq_true rfl), (Nat.le_of_ble_eq_true rfl)⟩ ⟨(Nat.le_of_ble_eq_true rfl), (Nat.le_of_ble_eq_true rfl)⟩ ?_ rfl
              refine ux_iastK (j := 6) C (aM_told W0) dX8_settings_79 (by decide) (by decide) h (fun st_22 h => ?_)
              exact hJ_12 st_22 h
            · exact hJ_12 st_11 h
          refine ux_if_ne C dX8_settings_44 h (fun h => ?_) (fun h => ?_)
          · refine ux_aload_n C dX8_settings_47 1 rfl ?_
            refine ux_get C fl_X8_13 dX8_settings_48 (oM W0) rfl ?_
            refine ux_iconst (v := 5) C dX8_settings_51 (by decide) ?_
            refine ux_aload_n C dX8_settings_52 1 rfl ?_
            refine ux_iconst (v := 0) C dX8_settings_53 (by decide) ?_
            refine ux_sipush (v := 200) C dX8_settings_54 (by decide) ?_
            obtain ⟨x_24, st_23, h1, h⟩ := obS_some h
            refine ux_callVi C cv_X8_122 dX8_settings_57 (oM W0) rfl (kX8_figure W0 h1) rfl (Nat.le_of_ble_eq_true rfl) ⟨(Nat.le_of_ble_eq_true rfl), (Nat.le_of_ble_eq_true rfl)⟩ ⟨(Nat.le_of_ble_eq_true rfl), (Nat.le_of_ble_eq_true rfl)⟩ ?_ rfl
            refine ux_iastK (j := 5) C (aM_told W0) dX8_settings_60 (by decide) (by decide) h (fun st_25 h => ?_)
            refine ux_sub [1, 0, 2] rfl ?_
            exact hJ_10 st_25 h
          · refine ux_sub [1, 0, 2] rfl ?_
            exact hJ_10 st_9 h
        · exact ux_vret C hr dX8_settings_38 h (Nat.le_of_ble_eq_true rfl) (Nat.le_of_ble_eq_true rfl)
      refine ux_if_eq C dX8_settings_17 h (fun h => ?_) (fun h => ?_)
      · exact hJ_5 st h
      · refine ux_aload_n C dX8_settings_20 0 rfl ?_
        refine ux_iconst (v := 3) C dX8_settings_21 (by decide) ?_
        obtain ⟨st_26, h1, h⟩ := obV_some h
        refine ux_callVv C cv_X8_113 dX8_settings_22 (oM W0) rfl (kX8_fails W0 h1) rfl (Nat.le_of_ble_eq_true rfl) ⟨(Nat.le_of_ble_eq_true rfl), (Nat.le_of_ble_eq_true rfl)⟩ ⟨(Nat.le_of_ble_eq_true rfl), (Nat.le_of_ble_eq_true rfl)⟩ ?_ rfl
        exact hJ_5 st_26 h
set_option maxRecDepth 100000 in
set_option maxHeartbeats 4000000 in
theorem kX8_settings {l : Launch} {V : uV} (W0 : uWM l V) {st : uSt} {s9 : uSt} (h : fX8_settings st = some ((), s9)) : uMet l V yX8_settings cX8_settings 3 none 7 149 0 0 [.ref (vA V 0)] st none s9 := by
  refine ux_met W0.1 W0.2.1 (by decide) rfl (Nat.le_of_ble_eq_true rfl) (fun M hL hr C => ?_)
  subst hL
  have C : uCx M V cX8_settings 3 RX8 7 149 0 0 := C
  unfold fX8_settings at h
  refine ux_iconst (v := 0) C dX8_settings_0 (by decide) ?_
  refine ux_istoreK_n C dX8_settings_1 rfl (by decide) ?_
  refine ux_aload_n C dX8_settings_2 1 rfl ?_
  obtain ⟨x_2, h1, h⟩ := ob_some h
  refine ux_callVi C cv_X8_141 dX8_settings_3 (oM W0) rfl (kX8_setting W0 h1) rfl (Nat.le_of_ble_eq_true rfl) ⟨(Nat.le_of_ble_eq_true rfl), (Nat.le_of_ble_eq_true rfl)⟩ ⟨(Nat.le_of_ble_eq_true rfl), (Nat.le_of_ble_eq_true rfl)⟩ ?_ rfl
  refine ux_istoreK_n C dX8_settings_6 rfl (by decide) ?_
  refine ux_sub [2, 1, 0] rfl ?_
  refine wX8_settings_7 W0 C hr (fun st_27 h => ?_) _ _ _ _ h
  exact ux_vret C hr dX8_settings_101 h (Nat.le_of_ble_eq_true rfl) (Nat.le_of_ble_eq_true rfl)
set_option maxRecDepth 100000 in
set_option maxHeartbeats 4000000 in
theorem kX8_oneDevice {l : Launch} {V : uV} (W0 : uWM l V) {st : uSt} {s9 : uSt} (h : fX8_oneDevice st = some ((), s9)) : uMet l V yX8_oneDevice cX8_oneDevice 2 none 3 65 0 0 [.ref (vA V 0)] st none s9 := by
  refine ux_met W0.1 W0.2.1 (by decide) rfl (Nat.le_of_ble_eq_true rfl) (fun M hL hr C => ?_)
  subst hL
  have C : uCx M V cX8_oneDevice 2 RX8 3 65 0 0 := C
  unfold fX8_oneDevice at h
  refine ux_aload_n C dX8_oneDevice_0 0 rfl ?_
  refine ux_get C fl_X8_13 dX8_oneDevice_1 (oM W0) rfl ?_
  refine ux_bipush (v := 9) C dX8_oneDevice_4 (by decide) ?_
  refine ux_ialdK (j := 9) C (aM_told W0) dX8_oneDevice_6 (by decide) (by decide) ?_
  refine ux_iconst (v := 5) C dX8_oneDevice_7 (by decide) ?_
  obtain ⟨j_1, hK_1, h⟩ := oj1_some h
  have hJ_1 : ∀ (st_2 : uSt), j_1 st_2 = some ((), s9) → uW M V (uEnd M V 0 0 none s9) 2 0 0 16 [(0, .ref (vA V 0))] [] st_2 := by
    intro st_2 h
    replace h := hK_1 st_2 h
    refine ux_aload_n C dX8_oneDevice_16 0 rfl ?_
    obtain ⟨x_3, h1, h⟩ := ob_some h
    refine ux_callVi C cv_X8_92 dX8_oneDevice_17 (oM W0) rfl (kX8_isWrong W0 h1) rfl (Nat.le_of_ble_eq_true rfl) ⟨(Nat.le_of_ble_eq_true rfl), (Nat.le_of_ble_eq_true rfl)⟩ ⟨(Nat.le_of_ble_eq_true rfl), (Nat.le_of_ble_eq_true rfl)⟩ ?_ rfl
    refine ux_if_eq C dX8_oneDevice_20 h (fun h => ?_) (fun h => ?_)
    · refine ux_aload_n C dX8_oneDevice_24 0 rfl ?_
      obtain ⟨st_4, h1, h⟩ := obV_some h
      refine ux_callVv C cv_X8_110 dX8_oneDevice_25 (oM W0) rfl (kX8_token W0 h1) rfl (Nat.le_of_ble_eq_true rfl) ⟨(Nat.le_of_ble_eq_true rfl), (Nat.le_of_ble_eq_true rfl)⟩ ⟨(Nat.le_of_ble_eq_true rfl), (Nat.le_of_ble_eq_true rfl)⟩ ?_ rfl
      refine ux_bipush (v := 10) C dX8_oneDevice_28 (by decide) ?_
      refine ux_iconst (v := 3) C dX8_oneDevice_30 (by decide) ?_
      refine ux_aload_n C dX8_oneDevice_31 0 rfl ?_
      refine ux_get C fl_X8_13 dX8_oneDevice_32 (oM W0) rfl ?_
      refine ux_bipush (v := 9) C dX8_oneDevice_35 (by decide) ?_
      refine ux_ialdK (j := 9) C (aM_told W0) dX8_oneDevice_37 (by decide) (by decide) ?_
      refine ux_imul C dX8_oneDevice_38 ?_
      refine ux_iadd C dX8_oneDevice_39 ?_
      refine ux_istore_n C dX8_oneDevice_40 (fun z => [(1, .int z), (0, .ref (vA V 0))]) (fun _ => rfl) (by decide) h (fun l1_5 h => ?_)
      refine ux_aload_n C dX8_oneDevice_41 1 rfl ?_
      refine ux_get C fl_X8_13 dX8_oneDevice_42 (oM W0) rfl ?_
      refine ux_iload_n C dX8_oneDevice_45 0 rfl ?_
      refine ux_iconst (v := 0) C dX8_oneDevice_46 (by decide) ?_
      refine ux_iadd C dX8_oneDevice_47 ?_
      refine ux_aload_n C dX8_oneDevice_48 1 rfl ?_
      refine ux_iconst (v := 0) C dX8_oneDevice_49 (by decide) ?_
      refine ux_sipush (v := 200) C dX8_oneDevice_50 (by decide) ?_
      obtain ⟨x_7, st_6, h1, h⟩ := obS_some h
      refine ux_callVi C cv_X8_122 dX8_oneDevice_53 (oM W0) rfl (kX8_figure W0 h1) rfl (Nat.le_of_ble_eq_true rfl) ⟨(Nat.le_of_ble_eq_true rfl), (Nat.le_of_ble_eq_true rfl)⟩ ⟨(Nat.le_of_ble_eq_true rfl), (Nat.le_of_ble_eq_true rfl)⟩ ?_ rfl
      refine ux_iast C (aM_told W0) dX8_oneDevice_56 h (fun st_8 h => ?_)
      refine ux_aload_n C dX8_oneDevice_57 1 rfl ?_
      refine ux_get C fl_X8_13 dX8_oneDevice_58 (oM W0) rfl ?_
      refine ux_iload_n C dX8_oneDevice_61 0 rfl ?_
      refine ux_iconst (v := 1) C dX8_oneDevice_62 (by decide) ?_
      refine ux_iadd C dX8_oneDevice_63 ?_
      refine ux_aload_n C dX8_oneDevice_64 1 rfl ?_
      refine ux_iconst (v := 0) C dX8_oneDevice_65 (by decide) ?_
      refine ux_bipush (v := 50) C dX8_oneDevice_66 (by decide) ?_
      obtain ⟨x_10, st_9, h1, h⟩ := obS_some h
      refine ux_callVi C cv_X8_122 dX8_oneDevice_68 (oM W0) rfl (kX8_figure W0 h1) rfl (Nat.le_of_ble_eq_true rfl) ⟨(Nat.le_of_ble_eq_true rfl), (Nat.le_of_ble_eq_true rfl)⟩ ⟨(Nat.le_of_ble_eq_true rfl), (Nat.le_of_ble_eq_true rfl)⟩ ?_ rfl
      refine ux_iast C (aM_told W0) dX8_oneDevice_71 h (fun st_11 h => ?_)
      refine ux_aload_n C dX8_oneDevice_72 1 rfl ?_
      refine ux_get C fl_X8_13 dX8_oneDevice_73 (oM W0) rfl ?_
      refine ux_iload_n C dX8_oneDevice_76 0 rfl ?_
      refine ux_iconst (v := 2) C dX8_oneDevice_77 (by decide) ?_
      refine ux_iadd C dX8_oneDevice_78 ?_
      refine ux_aload_n C dX8_oneDevice_79 1 rfl ?_
      refine ux_iconst (v := 1) C dX8_oneDevice_80 (by decide) ?_
      refine ux_bipush (v := 50) C dX8_oneDevice_81 (by decide) ?_
      obtain ⟨x_13, st_12, h1, h⟩ := obS_some h
      refine ux_callVi C cv_X8_122 dX8_oneDevice_83 (oM W0) rfl (kX8_figure W0 h1) rfl (Nat.le_of_ble_eq_true rfl) ⟨(Nat.le_of_ble_eq_true rfl), (Nat.le_of_ble_eq_true rfl)⟩ ⟨(Nat.le_of_ble_eq_true rfl), (Nat.le_of_ble_eq_true rfl)⟩ ?_ rfl
      refine ux_iast C (aM_told W0) dX8_oneDevice_86 h (fun st_14 h => ?_)
      refine ux_aload_n C dX8_oneDevice_87 1 rfl ?_
      refine ux_get C fl_X8_13 dX8_oneDevice_88 (oM W0) rfl ?_
      refine ux_bipush (v := 9) C dX8_oneDevice_91 (by decide) ?_
      refine ux_dup2 C dX8_oneDevice_93 rfl rfl ?_
      refine ux_ialdK (j := 9) C (aM_told W0) dX8_oneDevice_94 (by decide) (by decide) ?_
      refine ux_iconst (v := 1) C dX8_oneDevice_95 (by decide) ?_
      refine ux_iadd C dX8_oneDevice_96 ?_
      refine ux_iastK (j := 9) C (aM_told W0) dX8_oneDevice_97 (by decide) (by decide) h (fun st_15 h => ?_)
      refine ux_aload_n C dX8_oneDevice_98 1 rfl ?_
      obtain ⟨st_16, h1, h⟩ := obV_some h
      refine ux_callVv C cv_X8_126 dX8_oneDevice_99 (oM W0) rfl (kX8_ends W0 h1) rfl (Nat.le_of_ble_eq_true rfl) ⟨(Nat.le_of_ble_eq_true rfl), (Nat.le_of_ble_eq_true rfl)⟩ ⟨(Nat.le_of_ble_eq_true rfl), (Nat.le_of_ble_eq_true rfl)⟩ ?_ rfl
      exact ux_vret C hr dX8_oneDevice_102 h (Nat.le_of_ble_eq_true rfl) (Nat.le_of_ble_eq_true rfl)
    · exact ux_vret C hr dX8_oneDevice_23 h (Nat.le_of_ble_eq_true rfl) (Nat.le_of_ble_eq_true rfl)
  refine ux_icmp_ne C dX8_oneDevice_8 h (fun h => ?_) (fun h => ?_)
  · refine ux_aload_n C dX8_oneDevice_11 0 rfl ?_
    refine ux_iconst (v := 4) C dX8_oneDevice_12 (by decide) ?_
    obtain ⟨st_17, h1, h⟩ := obV_some h
    refine ux_callVv C cv_X8_113 dX8_oneDevice_13 (oM W0) rfl (kX8_fails W0 h1) rfl (Nat.le_of_ble_eq_true rfl) ⟨(Nat.le_of_ble_eq_true rfl), (Nat.le_of_ble_eq_true rfl)⟩ ⟨(Nat.le_of_ble_eq_true rfl), (Nat.le_of_ble_eq_true rfl)⟩ ?_ rfl
    exact hJ_1 st_17 h
  · exact hJ_1 st h
set_option maxRecDepth 100000 in
set_option maxHeartbeats 4000000 in
theorem wX8_load_49 {M : uM} {V : uV} (W0 : uWM (mL M) V) (C : uCx M V cX8_load 1 RX8 8 171 0 0) (hr : (mT M).sig.returnType = (some .int)) {r : Int32} {s9 : uSt} {ke : uSt → Option (Int32 × uSt)} (K : ∀ (st : uSt), ke st = some (r, s9) → uW M V (uEnd M V 0 0 (some (.int r)) s9) 1 0 0 65 [(0, .ref (vA V 0))] [] st) : ∀ (n : Nat) (st : uSt), fX8_load_49 ke n st = some (r, s9) → uW M V (uEnd M V 0 0 (some (.int r)) s9) 1 0 0 49 [(0, .ref (vA V 0))] [] st := by
  intro n
  induction n with
  | zero =>
    intro st h
    rw [fX8_load_49] at h
    cases h
  | succ n ih =>
    intro st h
    rw [fX8_load_49] at h
    refine ux_aload_n C dX8_load_49 0 rfl ?_
    refine ux_ldcS (i := 9) C rfl dX8_load_50 ?_
    obtain ⟨x_11, h1, h⟩ := ob_some h
    refine ux_callVi C cv_X8_106 dX8_load_52 (oM W0) rfl (kX8_isWord W0 (by decide) h1) rfl (Nat.le_of_ble_eq_true rfl) ⟨(Nat.le_of_ble_eq_true rfl), (Nat.le_of_ble_eq_true rfl)⟩ ⟨(Nat.le_of_ble_eq_true rfl), (Nat.le_of_ble_eq_true rfl)⟩ ?_ rfl
    refine ux_if_eq C dX8_load_55 h (fun h => ?_) (fun h => ?_)
    · exact K st h
    · refine ux_aload_n C dX8_load_58 0 rfl ?_
      obtain ⟨st_12, h1, h⟩ := obV_some h
      refine ux_callVv C cv_X8_157 dX8_load_59 (oM W0) rfl (kX8_oneDevice W0 h1) rfl (Nat.le_of_ble_eq_true rfl) ⟨(Nat.le_of_ble_eq_true rfl), (Nat.le_of_ble_eq_true rfl)⟩ ⟨(Nat.le_of_ble_eq_true rfl), (Nat.le_of_ble_eq_true rfl)⟩ ?_ rfl
      refine ux_goto C dX8_load_62 ?_
      exact ih _ h
set_option maxRecDepth 100000 in
set_option maxHeartbeats 4000000 in
theorem kX8_load {l : Launch} {V : uV} (W0 : uWM l V) {st : uSt} {r : Int32} {s9 : uSt} (h : fX8_load st = some (r, s9)) : uMet l V yX8_load cX8_load 1 (some .int) 8 171 0 0 [.ref (vA V 0)] st (some (.int r)) s9 := by
  refine ux_met W0.1 W0.2.1 (by decide) rfl (Nat.le_of_ble_eq_true rfl) (fun M hL hr C => ?_)
  subst hL
  have C : uCx M V cX8_load 1 RX8 8 171 0 0 := C
  unfold fX8_load at h
  refine ux_aload_n C dX8_load_0 0 rfl ?_
  refine ux_iconst (v := 0) C dX8_load_1 (by decide) ?_
  refine ux_puti C fp_X8_49 dX8_load_2 (oM W0) (Nat.le_of_ble_eq_true rfl) rfl h (fun st_1 h => ?_)
  refine ux_aload_n C dX8_load_5 0 rfl ?_
  refine ux_aload_n C dX8_load_6 0 rfl ?_
  refine ux_get C fl_X8_52 dX8_load_7 (oM W0) rfl ?_
  refine ux_puti C fp_X8_63 dX8_load_10 (oM W0) (Nat.le_of_ble_eq_true rfl) rfl h (fun st_2 h => ?_)
  refine ux_aload_n C dX8_load_13 0 rfl ?_
  refine ux_iconst (v := 0) C dX8_load_14 (by decide) ?_
  refine ux_puti C fp_X8_52 dX8_load_15 (oM W0) (Nat.le_of_ble_eq_true rfl) rfl h (fun st_3 h => ?_)
  refine ux_aload_n C dX8_load_18 0 rfl ?_
  refine ux_iconst (v := 0) C dX8_load_19 (by decide) ?_
  refine ux_puti C fp_X8_66 dX8_load_20 (oM W0) (Nat.le_of_ble_eq_true rfl) rfl h (fun st_4 h => ?_)
  refine ux_aload_n C dX8_load_23 0 rfl ?_
  refine ux_iconst (v := 0) C dX8_load_24 (by decide) ?_
  refine ux_puti C fp_X8_89 dX8_load_25 (oM W0) (Nat.le_of_ble_eq_true rfl) rfl h (fun st_5 h => ?_)
  refine ux_aload_n C dX8_load_28 0 rfl ?_
  refine ux_iconst (v := (-1)) C dX8_load_29 (by decide) ?_
  refine ux_puti C fp_X8_29 dX8_load_30 (oM W0) (Nat.le_of_ble_eq_true rfl) rfl h (fun st_6 h => ?_)
  refine ux_aload_n C dX8_load_33 0 rfl ?_
  obtain ⟨st_7, h1, h⟩ := obV_some h
  refine ux_callVv C cv_X8_43 dX8_load_34 (oM W0) rfl (kX8_plain W0 h1) rfl (Nat.le_of_ble_eq_true rfl) ⟨(Nat.le_of_ble_eq_true rfl), (Nat.le_of_ble_eq_true rfl)⟩ ⟨(Nat.le_of_ble_eq_true rfl), (Nat.le_of_ble_eq_true rfl)⟩ ?_ rfl
  refine ux_aload_n C dX8_load_37 0 rfl ?_
  obtain ⟨st_8, h1, h⟩ := obV_some h
  refine ux_callVv C cv_X8_110 dX8_load_38 (oM W0) rfl (kX8_token W0 h1) rfl (Nat.le_of_ble_eq_true rfl) ⟨(Nat.le_of_ble_eq_true rfl), (Nat.le_of_ble_eq_true rfl)⟩ ⟨(Nat.le_of_ble_eq_true rfl), (Nat.le_of_ble_eq_true rfl)⟩ ?_ rfl
  refine ux_aload_n C dX8_load_41 0 rfl ?_
  obtain ⟨st_9, h1, h⟩ := obV_some h
  refine ux_callVv C cv_X8_150 dX8_load_42 (oM W0) rfl (kX8_battery W0 h1) rfl (Nat.le_of_ble_eq_true rfl) ⟨(Nat.le_of_ble_eq_true rfl), (Nat.le_of_ble_eq_true rfl)⟩ ⟨(Nat.le_of_ble_eq_true rfl), (Nat.le_of_ble_eq_true rfl)⟩ ?_ rfl
  refine ux_aload_n C dX8_load_45 0 rfl ?_
  obtain ⟨st_10, h1, h⟩ := obV_some h
  refine ux_callVv C cv_X8_152 dX8_load_46 (oM W0) rfl (kX8_settings W0 h1) rfl (Nat.le_of_ble_eq_true rfl) ⟨(Nat.le_of_ble_eq_true rfl), (Nat.le_of_ble_eq_true rfl)⟩ ⟨(Nat.le_of_ble_eq_true rfl), (Nat.le_of_ble_eq_true rfl)⟩ ?_ rfl
  refine wX8_load_49 W0 C hr (fun st_13 h => ?_) _ _ h
  refine ux_aload_n C dX8_load_65 0 rfl ?_
  obtain ⟨x_14, h1, h⟩ := ob_some h
  refine ux_callVi C cv_X8_92 dX8_load_66 (oM W0) rfl (kX8_isWrong W0 h1) rfl (Nat.le_of_ble_eq_true rfl) ⟨(Nat.le_of_ble_eq_true rfl), (Nat.le_of_ble_eq_true rfl)⟩ ⟨(Nat.le_of_ble_eq_true rfl), (Nat.le_of_ble_eq_true rfl)⟩ ?_ rfl
  obtain ⟨j_15, hK_15, h⟩ := oj1_some h
  have hJ_15 : ∀ (st_16 : uSt), j_15 st_16 = some (r, s9) → uW M V (uEnd M V 0 0 (some (.int r)) s9) 1 0 0 84 [(0, .ref (vA V 0))] [] st_16 := by
    intro st_16 h
    replace h := hK_15 st_16 h
    refine ux_aload_n C dX8_load_84 0 rfl ?_
    refine ux_aload_n C dX8_load_85 0 rfl ?_
    obtain ⟨x_17, h1, h⟩ := ob_some h
    refine ux_callVi C cv_X8_92 dX8_load_86 (oM W0) rfl (kX8_isWrong W0 h1) rfl (Nat.le_of_ble_eq_true rfl) ⟨(Nat.le_of_ble_eq_true rfl), (Nat.le_of_ble_eq_true rfl)⟩ ⟨(Nat.le_of_ble_eq_true rfl), (Nat.le_of_ble_eq_true rfl)⟩ ?_ rfl
    obtain ⟨j_18, hK_18, h⟩ := oj1_some h
    have hJ_18 : ∀ (v_19 : Int32), j_18 v_19 = some (r, s9) → uW M V (uEnd M V 0 0 (some (.int r)) s9) 1 0 0 97 [(0, .ref (vA V 0))] [.int v_19, .ref (vA V 0)] st_16 := by
      intro v_19 h
      replace h := hK_18 v_19 h
      refine ux_iconst (v := 1) C dX8_load_97 (by decide) ?_
      obtain ⟨x_21, st_20, h1, h⟩ := obS_some h
      refine ux_callVi C cv_X8_55 dX8_load_98 (oM W0) rfl (kX8_may W0 h1) rfl (Nat.le_of_ble_eq_true rfl) ⟨(Nat.le_of_ble_eq_true rfl), (Nat.le_of_ble_eq_true rfl)⟩ ⟨(Nat.le_of_ble_eq_true rfl), (Nat.le_of_ble_eq_true rfl)⟩ ?_ rfl
      refine ux_if_ne C dX8_load_101 h (fun h => ?_) (fun h => ?_)
      · refine ux_iconst (v := 0) C dX8_load_104 (by decide) ?_
        exact ux_iretS C hr dX8_load_105 h (Nat.le_of_ble_eq_true rfl) (Nat.le_of_ble_eq_true rfl)
      · refine ux_aload_n C dX8_load_106 0 rfl ?_
        obtain ⟨st_22, h1, h⟩ := obV_some h
        refine ux_callVv C cv_X8_46 dX8_load_107 (oM W0) rfl (kX8_takes W0 h1) rfl (Nat.le_of_ble_eq_true rfl) ⟨(Nat.le_of_ble_eq_true rfl), (Nat.le_of_ble_eq_true rfl)⟩ ⟨(Nat.le_of_ble_eq_true rfl), (Nat.le_of_ble_eq_true rfl)⟩ ?_ rfl
        refine ux_aload_n C dX8_load_110 0 rfl ?_
        refine ux_get C fl_X8_7 dX8_load_111 (oM W0) rfl ?_
        refine ux_bipush (v := 9) C dX8_load_114 (by decide) ?_
        refine ux_ialdK (j := 9) C (aM_a W0) dX8_load_116 (by decide) (by decide) ?_
        exact ux_iretS C hr dX8_load_117 h (Nat.le_of_ble_eq_true rfl) (Nat.le_of_ble_eq_true rfl)
    refine ux_if_ne C dX8_load_89 h (fun h => ?_) (fun h => ?_)
    · refine ux_iconst (v := 1) C dX8_load_92 (by decide) ?_
      refine ux_goto C dX8_load_93 ?_
      exact hJ_18 (1 : Int32) h
    · refine ux_iconst (v := 0) C dX8_load_96 (by decide) ?_
      exact hJ_18 (0 : Int32) h
  refine ux_if_ne C dX8_load_69 h (fun h => ?_) (fun h => ?_)
  · refine ux_aload_n C dX8_load_72 0 rfl ?_
    refine ux_get C fl_X8_76 dX8_load_73 (oM W0) rfl ?_
    refine ux_if_eq C dX8_load_76 h (fun h => ?_) (fun h => ?_)
    · exact hJ_15 st_13 h
    · refine ux_aload_n C dX8_load_79 0 rfl ?_
      refine ux_iconst (v := 1) C dX8_load_80 (by decide) ?_
      obtain ⟨st_23, h1, h⟩ := obV_some h
      refine ux_callVv C cv_X8_113 dX8_load_81 (oM W0) rfl (kX8_fails W0 h1) rfl (Nat.le_of_ble_eq_true rfl) ⟨(Nat.le_of_ble_eq_true rfl), (Nat.le_of_ble_eq_true rfl)⟩ ⟨(Nat.le_of_ble_eq_true rfl), (Nat.le_of_ble_eq_true rfl)⟩ ?_ rfl
      exact hJ_15 st_23 h
  · exact hJ_15 st_13 h
set_option maxRecDepth 100000 in
set_option maxHeartbeats 4000000 in
theorem kX8_errorCode {l : Launch} {V : uV} (W0 : uWM l V) {st : uSt} {r : Int32} {s9 : uSt} (h : fX8_errorCode st = some (r, s9)) : uMet l V yX8_errorCode cX8_errorCode 1 (some .int) 0 0 0 0 [.ref (vA V 0)] st (some (.int r)) s9 := by
  refine ux_met W0.1 W0.2.1 (by decide) rfl (Nat.le_of_ble_eq_true rfl) (fun M hL hr C => ?_)
  subst hL
  have C : uCx M V cX8_errorCode 1 RX8 0 0 0 0 := C
  unfold fX8_errorCode at h
  refine ux_aload_n C dX8_errorCode_0 0 rfl ?_
  refine ux_iconst (v := 0) C dX8_errorCode_1 (by decide) ?_
  refine ux_puti C fp_X8_49 dX8_errorCode_2 (oM W0) (Nat.le_of_ble_eq_true rfl) rfl h (fun st_1 h => ?_)
  refine ux_aload_n C dX8_errorCode_5 0 rfl ?_
  refine ux_get C fl_X8_89 dX8_errorCode_6 (oM W0) rfl ?_
  exact ux_iretS C hr dX8_errorCode_9 h (Nat.le_of_ble_eq_true rfl) (Nat.le_of_ble_eq_true rfl)
set_option maxRecDepth 100000 in
set_option maxHeartbeats 4000000 in
theorem kX8_errorPosition {l : Launch} {V : uV} (W0 : uWM l V) {st : uSt} {r : Int32} {s9 : uSt} (h : fX8_errorPosition st = some (r, s9)) : uMet l V yX8_errorPosition cX8_errorPosition 1 (some .int) 0 0 0 0 [.ref (vA V 0)] st (some (.int r)) s9 := by
  refine ux_met W0.1 W0.2.1 (by decide) rfl (Nat.le_of_ble_eq_true rfl) (fun M hL hr C => ?_)
  subst hL
  have C : uCx M V cX8_errorPosition 1 RX8 0 0 0 0 := C
  unfold fX8_errorPosition at h
  refine ux_aload_n C dX8_errorPosition_0 0 rfl ?_
  refine ux_iconst (v := 0) C dX8_errorPosition_1 (by decide) ?_
  refine ux_puti C fp_X8_49 dX8_errorPosition_2 (oM W0) (Nat.le_of_ble_eq_true rfl) rfl h (fun st_1 h => ?_)
  refine ux_aload_n C dX8_errorPosition_5 0 rfl ?_
  refine ux_get C fl_X8_29 dX8_errorPosition_6 (oM W0) rfl ?_
  exact ux_iretS C hr dX8_errorPosition_9 h (Nat.le_of_ble_eq_true rfl) (Nat.le_of_ble_eq_true rfl)
set_option maxRecDepth 100000 in
set_option maxHeartbeats 4000000 in
theorem kX8_isDevice {l : Launch} {V : uV} (W0 : uWM l V) {p1 : Int32} {st : uSt} {r : Int32} (h : fX8_isDevice p1 st = some r) : uMet l V yX8_isDevice cX8_isDevice 2 (some .boolean) 1 22 0 0 [.ref (vA V 0), .int p1] st (some (.int r)) st := by
  refine ux_met W0.1 W0.2.1 (by decide) rfl (Nat.le_of_ble_eq_true rfl) (fun M hL hr C => ?_)
  subst hL
  have C : uCx M V cX8_isDevice 2 RX8 1 22 0 0 := C
  unfold fX8_isDevice at h
  refine ux_iload_n C dX8_isDevice_0 1 rfl ?_
  refine ux_iconst (v := 0) C dX8_isDevice_1 (by decide) ?_
  refine ux_aload_n C dX8_isDevice_2 0 rfl ?_
  refine ux_get C fl_X8_7 dX8_isDevice_3 (oM W0) rfl ?_
  refine ux_bipush (v := 9) C dX8_isDevice_6 (by decide) ?_
  refine ux_ialdK (j := 9) C (aM_a W0) dX8_isDevice_8 (by decide) (by decide) ?_
  refine ux_iconst (v := 1) C dX8_isDevice_9 (by decide) ?_
  refine ux_isub C dX8_isDevice_10 ?_
  obtain ⟨x_1, h1, h⟩ := ob_some h
  refine ux_callSi C cs_X8_59 dX8_isDevice_11 (kX8_isIn W0 h1) rfl (Nat.le_of_ble_eq_true rfl) ⟨(Nat.le_of_ble_eq_true rfl), (Nat.le_of_ble_eq_true rfl)⟩ ⟨(Nat.le_of_ble_eq_true rfl), (Nat.le_of_ble_eq_true rfl)⟩ ?_ rfl
  exact ux_zret C hr dX8_isDevice_14 h (Nat.le_of_ble_eq_true rfl) (Nat.le_of_ble_eq_true rfl)
set_option maxRecDepth 100000 in
set_option maxHeartbeats 4000000 in
theorem kX8_isBlock {l : Launch} {V : uV} (W0 : uWM l V) {p1 : Int32} {st : uSt} {r : Int32} (h : fX8_isBlock p1 st = some r) : uMet l V yX8_isBlock cX8_isBlock 2 (some .boolean) 1 22 0 0 [.ref (vA V 0), .int p1] st (some (.int r)) st := by
  refine ux_met W0.1 W0.2.1 (by decide) rfl (Nat.le_of_ble_eq_true rfl) (fun M hL hr C => ?_)
  subst hL
  have C : uCx M V cX8_isBlock 2 RX8 1 22 0 0 := C
  unfold fX8_isBlock at h
  refine ux_iload_n C dX8_isBlock_0 1 rfl ?_
  refine ux_iconst (v := 0) C dX8_isBlock_1 (by decide) ?_
  refine ux_aload_n C dX8_isBlock_2 0 rfl ?_
  refine ux_get C fl_X8_7 dX8_isBlock_3 (oM W0) rfl ?_
  refine ux_bipush (v := 36) C dX8_isBlock_6 (by decide) ?_
  refine ux_ialdK (j := 36) C (aM_a W0) dX8_isBlock_8 (by decide) (by decide) ?_
  refine ux_iconst (v := 1) C dX8_isBlock_9 (by decide) ?_
  refine ux_isub C dX8_isBlock_10 ?_
  obtain ⟨x_1, h1, h⟩ := ob_some h
  refine ux_callSi C cs_X8_59 dX8_isBlock_11 (kX8_isIn W0 h1) rfl (Nat.le_of_ble_eq_true rfl) ⟨(Nat.le_of_ble_eq_true rfl), (Nat.le_of_ble_eq_true rfl)⟩ ⟨(Nat.le_of_ble_eq_true rfl), (Nat.le_of_ble_eq_true rfl)⟩ ?_ rfl
  exact ux_zret C hr dX8_isBlock_14 h (Nat.le_of_ble_eq_true rfl) (Nat.le_of_ble_eq_true rfl)
set_option maxRecDepth 100000 in
set_option maxHeartbeats 4000000 in
theorem kX8_of {l : Launch} {V : uV} (W0 : uWM l V) {p1 : Int32} {p2 : Int32} {st : uSt} {r : Int32} (h : fX8_of p1 p2 st = some r) : uMet l V yX8_of cX8_of 3 (some .int) 0 0 0 0 [.ref (vA V 0), .int p1, .int p2] st (some (.int r)) st := by
  refine ux_met W0.1 W0.2.1 (by decide) rfl (Nat.le_of_ble_eq_true rfl) (fun M hL hr C => ?_)
  subst hL
  have C : uCx M V cX8_of 3 RX8 0 0 0 0 := C
  unfold fX8_of at h
  refine ux_aload_n C dX8_of_0 0 rfl ?_
  refine ux_get C fl_X8_7 dX8_of_1 (oM W0) rfl ?_
  refine ux_bipush (v := 37) C dX8_of_4 (by decide) ?_
  refine ux_iconst (v := 3) C dX8_of_6 (by decide) ?_
  refine ux_iload_n C dX8_of_7 1 rfl ?_
  refine ux_imul C dX8_of_8 ?_
  refine ux_iadd C dX8_of_9 ?_
  refine ux_iload_n C dX8_of_10 2 rfl ?_
  refine ux_iadd C dX8_of_11 ?_
  refine ux_iald C (aM_a W0) dX8_of_12 h (fun h => ?_)
  exact ux_iret C hr dX8_of_13 h (Nat.le_of_ble_eq_true rfl) (Nat.le_of_ble_eq_true rfl)
set_option maxRecDepth 100000 in
set_option maxHeartbeats 4000000 in
theorem kX8_deviceOf {l : Launch} {V : uV} (W0 : uWM l V) {p1 : Int32} {st : uSt} {r : Int32} (h : fX8_deviceOf p1 st = some r) : uMet l V yX8_deviceOf cX8_deviceOf 2 (some .int) 1 22 0 0 [.ref (vA V 0), .int p1] st (some (.int r)) st := by
  refine ux_met W0.1 W0.2.1 (by decide) rfl (Nat.le_of_ble_eq_true rfl) (fun M hL hr C => ?_)
  subst hL
  have C : uCx M V cX8_deviceOf 2 RX8 1 22 0 0 := C
  unfold fX8_deviceOf at h
  refine ux_aload_n C dX8_deviceOf_0 0 rfl ?_
  refine ux_iload_n C dX8_deviceOf_1 1 rfl ?_
  refine ux_iconst (v := 0) C dX8_deviceOf_2 (by decide) ?_
  obtain ⟨x_1, h1, h⟩ := ob_some h
  refine ux_callVi C cv_X8_160 dX8_deviceOf_3 (oM W0) rfl (kX8_of W0 h1) rfl (Nat.le_of_ble_eq_true rfl) ⟨(Nat.le_of_ble_eq_true rfl), (Nat.le_of_ble_eq_true rfl)⟩ ⟨(Nat.le_of_ble_eq_true rfl), (Nat.le_of_ble_eq_true rfl)⟩ ?_ rfl
  refine ux_bipush (v := 100) C dX8_deviceOf_6 (by decide) ?_
  refine ux_idivK C dX8_deviceOf_8 (by decide) ?_
  exact ux_iret C hr dX8_deviceOf_9 h (Nat.le_of_ble_eq_true rfl) (Nat.le_of_ble_eq_true rfl)
set_option maxRecDepth 100000 in
set_option maxHeartbeats 4000000 in
theorem kX8_hasFailed {l : Launch} {V : uV} (W0 : uWM l V) {p1 : Int32} {st : uSt} {r : Int32} (h : fX8_hasFailed p1 st = some r) : uMet l V yX8_hasFailed cX8_hasFailed 2 (some .boolean) 1 21 0 0 [.ref (vA V 0), .int p1] st (some (.int r)) st := by
  refine ux_met W0.1 W0.2.1 (by decide) rfl (Nat.le_of_ble_eq_true rfl) (fun M hL hr C => ?_)
  subst hL
  have C : uCx M V cX8_hasFailed 2 RX8 1 21 0 0 := C
  unfold fX8_hasFailed at h
  refine ux_aload_n C dX8_hasFailed_0 0 rfl ?_
  refine ux_get C fl_X8_7 dX8_hasFailed_1 (oM W0) rfl ?_
  refine ux_bipush (v := 25) C dX8_hasFailed_4 (by decide) ?_
  refine ux_ialdK (j := 25) C (aM_a W0) dX8_hasFailed_6 (by decide) (by decide) ?_
  refine ux_iload_n C dX8_hasFailed_7 1 rfl ?_
  obtain ⟨x_1, h1, h⟩ := ob_some h
  refine ux_callSi C cs_X8_144 dX8_hasFailed_8 (kX8_has W0 h1) rfl (Nat.le_of_ble_eq_true rfl) ⟨(Nat.le_of_ble_eq_true rfl), (Nat.le_of_ble_eq_true rfl)⟩ ⟨(Nat.le_of_ble_eq_true rfl), (Nat.le_of_ble_eq_true rfl)⟩ ?_ rfl
  exact ux_zret C hr dX8_hasFailed_11 h (Nat.le_of_ble_eq_true rfl) (Nat.le_of_ble_eq_true rfl)
set_option maxRecDepth 100000 in
set_option maxHeartbeats 4000000 in
theorem wX8_blockAt_2 {M : uM} {V : uV} (W0 : uWM (mL M) V) (C : uCx M V cX8_blockAt 4 RX8 1 22 0 0) (hr : (mT M).sig.returnType = (some .int)) {l1 : Int32} {l2 : Int32} {st : uSt} {r : Int32} {ke : Option Int32} (K : ke = some r → uW M V (uEnd M V 0 0 (some (.int r)) st) 4 0 0 36 [] [] st) : ∀ (n : Nat) (l3 : Int32), fX8_blockAt_2 l1 l2 st ke n l3 = some r → uW M V (uEnd M V 0 0 (some (.int r)) st) 4 0 0 2 [(0, .ref (vA V 0)), (1, .int l1), (2, .int l2), (3, .int l3)] [] st := by
  intro n
  induction n with
  | zero =>
    intro l3 h
    rw [fX8_blockAt_2] at h
    cases h
  | succ n ih =>
    intro l3 h
    rw [fX8_blockAt_2] at h
    refine ux_iload_n C dX8_blockAt_2 3 rfl ?_
    refine ux_aload_n C dX8_blockAt_3 0 rfl ?_
    refine ux_get C fl_X8_7 dX8_blockAt_4 (oM W0) rfl ?_
    refine ux_bipush (v := 36) C dX8_blockAt_7 (by decide) ?_
    refine ux_ialdK (j := 36) C (aM_a W0) dX8_blockAt_9 (by decide) (by decide) ?_
    refine ux_icmp_ge C dX8_blockAt_10 h (fun h => ?_) (fun h => ?_)
    · refine ux_sub [] rfl ?_
      exact K  h
    · refine ux_aload_n C dX8_blockAt_13 0 rfl ?_
      refine ux_iload_n C dX8_blockAt_14 3 rfl ?_
      refine ux_iconst (v := 0) C dX8_blockAt_15 (by decide) ?_
      obtain ⟨x_2, h1, h⟩ := ob_some h
      refine ux_callVi C cv_X8_160 dX8_blockAt_16 (oM W0) rfl (kX8_of W0 h1) rfl (Nat.le_of_ble_eq_true rfl) ⟨(Nat.le_of_ble_eq_true rfl), (Nat.le_of_ble_eq_true rfl)⟩ ⟨(Nat.le_of_ble_eq_true rfl), (Nat.le_of_ble_eq_true rfl)⟩ ?_ rfl
      refine ux_bipush (v := 100) C dX8_blockAt_19 (by decide) ?_
      refine ux_iload_n C dX8_blockAt_21 1 rfl ?_
      refine ux_imul C dX8_blockAt_22 ?_
      refine ux_iload_n C dX8_blockAt_23 2 rfl ?_
      refine ux_iadd C dX8_blockAt_24 ?_
      refine ux_icmp_ne C dX8_blockAt_25 h (fun h => ?_) (fun h => ?_)
      · refine ux_iload_n C dX8_blockAt_28 3 rfl ?_
        exact ux_iret C hr dX8_blockAt_29 h (Nat.le_of_ble_eq_true rfl) (Nat.le_of_ble_eq_true rfl)
      · refine ux_iincK C dX8_blockAt_30 (by decide) 3 rfl (fun z => [(3, .int z), (0, .ref (vA V 0)), (1, .int l1), (2, .int l2)]) (fun _ => rfl) (by decide) h (fun l3_3 h => ?_)
        refine ux_goto C dX8_blockAt_33 ?_
        refine ux_sub [1, 2, 3, 0] rfl ?_
        exact ih _ h
set_option maxRecDepth 100000 in
set_option maxHeartbeats 4000000 in
theorem kX8_blockAt {l : Launch} {V : uV} (W0 : uWM l V) {p1 : Int32} {p2 : Int32} {st : uSt} {r : Int32} (h : fX8_blockAt p1 p2 st = some r) : uMet l V yX8_blockAt cX8_blockAt 4 (some .int) 1 22 0 0 [.ref (vA V 0), .int p1, .int p2] st (some (.int r)) st := by
  refine ux_met W0.1 W0.2.1 (by decide) rfl (Nat.le_of_ble_eq_true rfl) (fun M hL hr C => ?_)
  subst hL
  have C : uCx M V cX8_blockAt 4 RX8 1 22 0 0 := C
  unfold fX8_blockAt at h
  refine ux_iconst (v := 0) C dX8_blockAt_0 (by decide) ?_
  refine ux_istoreK_n C dX8_blockAt_1 rfl (by decide) ?_
  refine ux_sub [1, 2, 3, 0] rfl ?_
  refine wX8_blockAt_2 W0 C hr (fun h => ?_) _ _ h
  refine ux_iconst (v := (-1)) C dX8_blockAt_36 (by decide) ?_
  exact ux_iret C hr dX8_blockAt_37 h (Nat.le_of_ble_eq_true rfl) (Nat.le_of_ble_eq_true rfl)
set_option maxRecDepth 100000 in
set_option maxHeartbeats 4000000 in
theorem wX8_comes_39 {M : uM} {V : uV} (W0 : uWM (mL M) V) (C : uCx M V cX8_comes 7 RX8 1 22 0 0) (hr : (mT M).sig.returnType = none) {l3 : Int32} {l4 : Int32} {l5 : Int32} {s9 : uSt} {ke : uSt → Option (Unit × uSt)} (K : ∀ (st : uSt), ke st = some ((), s9) → uW M V (uEnd M V 0 0 none s9) 7 0 0 76 [(0, .ref (vA V 0)), (3, .int l3), (4, .int l4), (5, .int l5)] [] st) : ∀ (n : Nat) (st : uSt) (l6 : Int32), fX8_comes_39 l3 l4 l5 ke n st l6 = some ((), s9) → uW M V (uEnd M V 0 0 none s9) 7 0 0 39 [(0, .ref (vA V 0)), (3, .int l3), (4, .int l4), (5, .int l5), (6, .int l6)] [] st := by
  intro n
  induction n with
  | zero =>
    intro st l6 h
    rw [fX8_comes_39] at h
    cases h
  | succ n ih =>
    intro st l6 h
    rw [fX8_comes_39] at h
    refine ux_iload C dX8_comes_39 4 rfl ?_
    refine ux_iconst (v := 3) C dX8_comes_41 (by decide) ?_
    refine ux_icmp_ge C dX8_comes_42 h (fun h => ?_) (fun h => ?_)
    · refine ux_sub [0, 1, 2, 3] rfl ?_
      exact K st h
    · refine ux_aload_n C dX8_comes_45 0 rfl ?_
      refine ux_get C fl_X8_7 dX8_comes_46 (oM W0) rfl ?_
      refine ux_bipush (v := 37) C dX8_comes_49 (by decide) ?_
      refine ux_iconst (v := 3) C dX8_comes_51 (by decide) ?_
      refine ux_iload C dX8_comes_52 3 rfl ?_
      refine ux_imul C dX8_comes_54 ?_
      refine ux_iadd C dX8_comes_55 ?_
      refine ux_iload C dX8_comes_56 4 rfl ?_
      refine ux_iadd C dX8_comes_58 ?_
      refine ux_aload_n C dX8_comes_59 0 rfl ?_
      refine ux_iload C dX8_comes_60 3 rfl ?_
      refine ux_iconst (v := 1) C dX8_comes_62 (by decide) ?_
      refine ux_isub C dX8_comes_63 ?_
      refine ux_iload C dX8_comes_64 4 rfl ?_
      obtain ⟨x_5, h1, h⟩ := ob_some h
      refine ux_callVi C cv_X8_160 dX8_comes_66 (oM W0) rfl (kX8_of W0 h1) rfl (Nat.le_of_ble_eq_true rfl) ⟨(Nat.le_of_ble_eq_true rfl), (Nat.le_of_ble_eq_true rfl)⟩ ⟨(Nat.le_of_ble_eq_true rfl), (Nat.le_of_ble_eq_true rfl)⟩ ?_ rfl
      refine ux_iast C (aM_a W0) dX8_comes_69 h (fun st_6 h => ?_)
      refine ux_iincK C dX8_comes_70 (by decide) 4 rfl (fun z => [(6, .int z), (0, .ref (vA V 0)), (3, .int l3), (4, .int l4), (5, .int l5)]) (fun _ => rfl) (by decide) h (fun l6_7 h => ?_)
      refine ux_goto C dX8_comes_73 ?_
      refine ux_sub [1, 2, 3, 4, 0] rfl ?_
      exact ih _ _ h
set_option maxRecDepth 100000 in
set_option maxHeartbeats 4000000 in
theorem wX8_comes_17 {M : uM} {V : uV} (W0 : uWM (mL M) V) (C : uCx M V cX8_comes 7 RX8 1 22 0 0) (hr : (mT M).sig.returnType = none) {l3 : Int32} {l4 : Int32} {s9 : uSt} {ke : uSt → Int32 → Option (Unit × uSt)} (K : ∀ (st : uSt) (l5 : Int32), ke st l5 = some ((), s9) → uW M V (uEnd M V 0 0 none s9) 7 0 0 82 [(0, .ref (vA V 0)), (3, .int l3), (4, .int l4), (5, .int l5)] [] st) : ∀ (n : Nat) (st : uSt) (l5 : Int32), fX8_comes_17 l3 l4 ke n st l5 = some ((), s9) → uW M V (uEnd M V 0 0 none s9) 7 0 0 17 [(0, .ref (vA V 0)), (3, .int l3), (4, .int l4), (5, .int l5)] [] st := by
  intro n
  induction n with
  | zero =>
    intro st l5 h
    rw [fX8_comes_17] at h
    cases h
  | succ n ih =>
    intro st l5 h
    rw [fX8_comes_17] at h
    refine ux_iload C dX8_comes_17 3 rfl ?_
    refine ux_if_le C dX8_comes_19 h (fun h => ?_) (fun h => ?_)
    · exact K st l5 h
    · refine ux_aload_n C dX8_comes_22 0 rfl ?_
      refine ux_iload C dX8_comes_23 3 rfl ?_
      refine ux_iconst (v := 1) C dX8_comes_25 (by decide) ?_
      refine ux_isub C dX8_comes_26 ?_
      refine ux_iconst (v := 0) C dX8_comes_27 (by decide) ?_
      obtain ⟨x_3, h1, h⟩ := ob_some h
      refine ux_callVi C cv_X8_160 dX8_comes_28 (oM W0) rfl (kX8_of W0 h1) rfl (Nat.le_of_ble_eq_true rfl) ⟨(Nat.le_of_ble_eq_true rfl), (Nat.le_of_ble_eq_true rfl)⟩ ⟨(Nat.le_of_ble_eq_true rfl), (Nat.le_of_ble_eq_true rfl)⟩ ?_ rfl
      refine ux_iload C dX8_comes_31 2 rfl ?_
      refine ux_icmp_le C dX8_comes_33 h (fun h => ?_) (fun h => ?_)
      · exact K st l5 h
      · refine ux_iconst (v := 0) C dX8_comes_36 (by decide) ?_
        refine ux_istoreK C dX8_comes_37 rfl (by decide) ?_
        refine ux_sub [1, 2, 3, 4, 0] rfl ?_
        refine wX8_comes_39 W0 C hr (fun st_8 h => ?_) _ _ _ h
        refine ux_iincK C dX8_comes_76 (by decide) 3 rfl (fun z => [(5, .int z), (0, .ref (vA V 0)), (3, .int l3), (4, .int l4)]) (fun _ => rfl) (by decide) h (fun l5_9 h => ?_)
        refine ux_goto C dX8_comes_79 ?_
        refine ux_sub [1, 2, 3, 0] rfl ?_
        exact ih _ _ h
set_option maxRecDepth 100000 in
set_option maxHeartbeats 4000000 in
theorem kX8_comes {l : Launch} {V : uV} (W0 : uWM l V) {p1 : Int32} {p2 : Int32} {p3 : Int32} {st : uSt} {s9 : uSt} (h : fX8_comes p1 p2 p3 st = some ((), s9)) : uMet l V yX8_comes cX8_comes 7 none 1 22 0 0 [.ref (vA V 0), .int p1, .int p2, .int p3] st none s9 := by
  refine ux_met W0.1 W0.2.1 (by decide) rfl (Nat.le_of_ble_eq_true rfl) (fun M hL hr C => ?_)
  subst hL
  have C : uCx M V cX8_comes 7 RX8 1 22 0 0 := C
  unfold fX8_comes at h
  refine ux_bipush (v := 100) C dX8_comes_0 (by decide) ?_
  refine ux_iload_n C dX8_comes_2 1 rfl ?_
  refine ux_imul C dX8_comes_3 ?_
  refine ux_iload_n C dX8_comes_4 2 rfl ?_
  refine ux_iadd C dX8_comes_5 ?_
  refine ux_istore C dX8_comes_6 (fun z => [(4, .int z), (0, .ref (vA V 0)), (1, .int p1), (2, .int p2), (3, .int p3)]) (fun _ => rfl) (by decide) h (fun l4_1 h => ?_)
  refine ux_aload_n C dX8_comes_8 1 rfl ?_
  refine ux_get C fl_X8_7 dX8_comes_9 (oM W0) rfl ?_
  refine ux_bipush (v := 36) C dX8_comes_12 (by decide) ?_
  refine ux_ialdK (j := 36) C (aM_a W0) dX8_comes_14 (by decide) (by decide) ?_
  refine ux_istore C dX8_comes_15 (fun z => [(5, .int z), (4, .int l4_1), (0, .ref (vA V 0)), (1, .int p1), (2, .int p2), (3, .int p3)]) (fun _ => rfl) (by decide) h (fun l5_2 h => ?_)
  refine ux_sub [2, 5, 1, 0] rfl ?_
  refine wX8_comes_17 W0 C hr (fun st_11 l5_10 h => ?_) _ _ _ h
  refine ux_aload_n C dX8_comes_82 0 rfl ?_
  refine ux_get C fl_X8_7 dX8_comes_83 (oM W0) rfl ?_
  refine ux_bipush (v := 37) C dX8_comes_86 (by decide) ?_
  refine ux_iconst (v := 3) C dX8_comes_88 (by decide) ?_
  refine ux_iload C dX8_comes_89 3 rfl ?_
  refine ux_imul C dX8_comes_91 ?_
  refine ux_iadd C dX8_comes_92 ?_
  refine ux_iload C dX8_comes_93 2 rfl ?_
  refine ux_iast C (aM_a W0) dX8_comes_95 h (fun st_12 h => ?_)
  refine ux_aload_n C dX8_comes_96 0 rfl ?_
  refine ux_get C fl_X8_7 dX8_comes_97 (oM W0) rfl ?_
  refine ux_bipush (v := 37) C dX8_comes_100 (by decide) ?_
  refine ux_iconst (v := 3) C dX8_comes_102 (by decide) ?_
  refine ux_iload C dX8_comes_103 3 rfl ?_
  refine ux_imul C dX8_comes_105 ?_
  refine ux_iadd C dX8_comes_106 ?_
  refine ux_iconst (v := 1) C dX8_comes_107 (by decide) ?_
  refine ux_iadd C dX8_comes_108 ?_
  refine ux_iload_n C dX8_comes_109 1 rfl ?_
  refine ux_iast C (aM_a W0) dX8_comes_110 h (fun st_13 h => ?_)
  refine ux_aload_n C dX8_comes_111 0 rfl ?_
  refine ux_get C fl_X8_7 dX8_comes_112 (oM W0) rfl ?_
  refine ux_bipush (v := 37) C dX8_comes_115 (by decide) ?_
  refine ux_iconst (v := 3) C dX8_comes_117 (by decide) ?_
  refine ux_iload C dX8_comes_118 3 rfl ?_
  refine ux_imul C dX8_comes_120 ?_
  refine ux_iadd C dX8_comes_121 ?_
  refine ux_iconst (v := 2) C dX8_comes_122 (by decide) ?_
  refine ux_iadd C dX8_comes_123 ?_
  refine ux_aload_n C dX8_comes_124 0 rfl ?_
  refine ux_get C fl_X8_7 dX8_comes_125 (oM W0) rfl ?_
  refine ux_bipush (v := 26) C dX8_comes_128 (by decide) ?_
  refine ux_ialdK (j := 26) C (aM_a W0) dX8_comes_130 (by decide) (by decide) ?_
  refine ux_iast C (aM_a W0) dX8_comes_131 h (fun st_14 h => ?_)
  refine ux_aload_n C dX8_comes_132 0 rfl ?_
  refine ux_get C fl_X8_7 dX8_comes_133 (oM W0) rfl ?_
  refine ux_bipush (v := 36) C dX8_comes_136 (by decide) ?_
  refine ux_dup2 C dX8_comes_138 rfl rfl ?_
  refine ux_ialdK (j := 36) C (aM_a W0) dX8_comes_139 (by decide) (by decide) ?_
  refine ux_iconst (v := 1) C dX8_comes_140 (by decide) ?_
  refine ux_iadd C dX8_comes_141 ?_
  refine ux_iastK (j := 36) C (aM_a W0) dX8_comes_142 (by decide) (by decide) h (fun st_15 h => ?_)
  exact ux_vret C hr dX8_comes_143 h (Nat.le_of_ble_eq_true rfl) (Nat.le_of_ble_eq_true rfl)
set_option maxRecDepth 100000 in
set_option maxHeartbeats 4000000 in
theorem wX8_goes_18 {M : uM} {V : uV} (W0 : uWM (mL M) V) (C : uCx M V cX8_goes 3 RX8 0 0 0 0) (hr : (mT M).sig.returnType = none) {s9 : uSt} {ke : uSt → Option (Unit × uSt)} (K : ∀ (st : uSt), ke st = some ((), s9) → uW M V (uEnd M V 0 0 none s9) 3 0 0 54 [] [] st) : ∀ (n : Nat) (st : uSt) (l2 : Int32), fX8_goes_18 ke n st l2 = some ((), s9) → uW M V (uEnd M V 0 0 none s9) 3 0 0 18 [(0, .ref (vA V 0)), (2, .int l2)] [] st := by
  intro n
  induction n with
  | zero =>
    intro st l2 h
    rw [fX8_goes_18] at h
    cases h
  | succ n ih =>
    intro st l2 h
    rw [fX8_goes_18] at h
    refine ux_iload_n C dX8_goes_18 1 rfl ?_
    refine ux_bipush (v := 37) C dX8_goes_19 (by decide) ?_
    refine ux_iconst (v := 3) C dX8_goes_21 (by decide) ?_
    refine ux_aload_n C dX8_goes_22 0 rfl ?_
    refine ux_get C fl_X8_7 dX8_goes_23 (oM W0) rfl ?_
    refine ux_bipush (v := 36) C dX8_goes_26 (by decide) ?_
    refine ux_ialdK (j := 36) C (aM_a W0) dX8_goes_28 (by decide) (by decide) ?_
    refine ux_imul C dX8_goes_29 ?_
    refine ux_iadd C dX8_goes_30 ?_
    refine ux_icmp_ge C dX8_goes_31 h (fun h => ?_) (fun h => ?_)
    · refine ux_sub [] rfl ?_
      exact K st h
    · refine ux_aload_n C dX8_goes_34 0 rfl ?_
      refine ux_get C fl_X8_7 dX8_goes_35 (oM W0) rfl ?_
      refine ux_iload_n C dX8_goes_38 1 rfl ?_
      refine ux_aload_n C dX8_goes_39 0 rfl ?_
      refine ux_get C fl_X8_7 dX8_goes_40 (oM W0) rfl ?_
      refine ux_iload_n C dX8_goes_43 1 rfl ?_
      refine ux_iconst (v := 3) C dX8_goes_44 (by decide) ?_
      refine ux_iadd C dX8_goes_45 ?_
      refine ux_iald C (aM_a W0) dX8_goes_46 h (fun h => ?_)
      refine ux_iast C (aM_a W0) dX8_goes_47 h (fun st_3 h => ?_)
      refine ux_iincK C dX8_goes_48 (by decide) 1 rfl (fun z => [(2, .int z), (0, .ref (vA V 0))]) (fun _ => rfl) (by decide) h (fun l2_4 h => ?_)
      refine ux_goto C dX8_goes_51 ?_
      refine ux_sub [1, 0] rfl ?_
      exact ih _ _ h
set_option maxRecDepth 100000 in
set_option maxHeartbeats 4000000 in
theorem kX8_goes {l : Launch} {V : uV} (W0 : uWM l V) {p1 : Int32} {st : uSt} {s9 : uSt} (h : fX8_goes p1 st = some ((), s9)) : uMet l V yX8_goes cX8_goes 3 none 0 0 0 0 [.ref (vA V 0), .int p1] st none s9 := by
  refine ux_met W0.1 W0.2.1 (by decide) rfl (Nat.le_of_ble_eq_true rfl) (fun M hL hr C => ?_)
  subst hL
  have C : uCx M V cX8_goes 3 RX8 0 0 0 0 := C
  unfold fX8_goes at h
  refine ux_aload_n C dX8_goes_0 0 rfl ?_
  refine ux_get C fl_X8_7 dX8_goes_1 (oM W0) rfl ?_
  refine ux_bipush (v := 36) C dX8_goes_4 (by decide) ?_
  refine ux_dup2 C dX8_goes_6 rfl rfl ?_
  refine ux_ialdK (j := 36) C (aM_a W0) dX8_goes_7 (by decide) (by decide) ?_
  refine ux_iconst (v := 1) C dX8_goes_8 (by decide) ?_
  refine ux_isub C dX8_goes_9 ?_
  refine ux_iastK (j := 36) C (aM_a W0) dX8_goes_10 (by decide) (by decide) h (fun st_1 h => ?_)
  refine ux_bipush (v := 37) C dX8_goes_11 (by decide) ?_
  refine ux_iconst (v := 3) C dX8_goes_13 (by decide) ?_
  refine ux_iload_n C dX8_goes_14 1 rfl ?_
  refine ux_imul C dX8_goes_15 ?_
  refine ux_iadd C dX8_goes_16 ?_
  refine ux_istore_n C dX8_goes_17 (fun z => [(2, .int z), (0, .ref (vA V 0)), (1, .int p1)]) (fun _ => rfl) (by decide) h (fun l2_2 h => ?_)
  refine ux_sub [1, 0] rfl ?_
  refine wX8_goes_18 W0 C hr (fun st_5 h => ?_) _ _ _ h
  exact ux_vret C hr dX8_goes_54 h (Nat.le_of_ble_eq_true rfl) (Nat.le_of_ble_eq_true rfl)
set_option maxRecDepth 100000 in
set_option maxHeartbeats 4000000 in
theorem wX8_allGo_10 {M : uM} {V : uV} (W0 : uWM (mL M) V) (C : uCx M V cX8_allGo 3 RX8 1 22 0 0) (hr : (mT M).sig.returnType = none) {l1 : Int32} {s9 : uSt} {ke : uSt → Option (Unit × uSt)} (K : ∀ (st : uSt), ke st = some ((), s9) → uW M V (uEnd M V 0 0 none s9) 3 0 0 33 [] [] st) : ∀ (n : Nat) (st : uSt) (l2 : Int32), fX8_allGo_10 l1 ke n st l2 = some ((), s9) → uW M V (uEnd M V 0 0 none s9) 3 0 0 10 [(0, .ref (vA V 0)), (1, .int l1), (2, .int l2)] [] st := by
  intro n
  induction n with
  | zero =>
    intro st l2 h
    rw [fX8_allGo_10] at h
    cases h
  | succ n ih =>
    intro st l2 h
    rw [fX8_allGo_10] at h
    refine ux_iload_n C dX8_allGo_10 2 rfl ?_
    refine ux_if_lt C dX8_allGo_11 h (fun h => ?_) (fun h => ?_)
    · refine ux_sub [] rfl ?_
      exact K st h
    · refine ux_iload_n C dX8_allGo_14 1 rfl ?_
      refine ux_iload_n C dX8_allGo_15 2 rfl ?_
      obtain ⟨x_2, h1, h⟩ := ob_some h
      refine ux_callSi C cs_X8_144 dX8_allGo_16 (kX8_has W0 h1) rfl (Nat.le_of_ble_eq_true rfl) ⟨(Nat.le_of_ble_eq_true rfl), (Nat.le_of_ble_eq_true rfl)⟩ ⟨(Nat.le_of_ble_eq_true rfl), (Nat.le_of_ble_eq_true rfl)⟩ ?_ rfl
      refine ux_if_eq C dX8_allGo_19 h (fun h => ?_) (fun h => ?_)
      · refine ux_iincK C dX8_allGo_27 (by decide) 2 rfl (fun z => [(2, .int z), (0, .ref (vA V 0)), (1, .int l1)]) (fun _ => rfl) (by decide) h (fun l2_3 h => ?_)
        refine ux_goto C dX8_allGo_30 ?_
        refine ux_sub [1, 2, 0] rfl ?_
        exact ih _ _ h
      · refine ux_aload_n C dX8_allGo_22 0 rfl ?_
        refine ux_iload_n C dX8_allGo_23 2 rfl ?_
        obtain ⟨st_4, h1, h⟩ := obV_some h
        refine ux_callVv C cv_X8_163 dX8_allGo_24 (oM W0) rfl (kX8_goes W0 h1) rfl (Nat.le_of_ble_eq_true rfl) ⟨(Nat.le_of_ble_eq_true rfl), (Nat.le_of_ble_eq_true rfl)⟩ ⟨(Nat.le_of_ble_eq_true rfl), (Nat.le_of_ble_eq_true rfl)⟩ ?_ rfl
        refine ux_iincK C dX8_allGo_27 (by decide) 2 rfl (fun z => [(2, .int z), (0, .ref (vA V 0)), (1, .int l1)]) (fun _ => rfl) (by decide) h (fun l2_5 h => ?_)
        refine ux_goto C dX8_allGo_30 ?_
        refine ux_sub [1, 2, 0] rfl ?_
        exact ih _ _ h
set_option maxRecDepth 100000 in
set_option maxHeartbeats 4000000 in
theorem kX8_allGo {l : Launch} {V : uV} (W0 : uWM l V) {p1 : Int32} {st : uSt} {s9 : uSt} (h : fX8_allGo p1 st = some ((), s9)) : uMet l V yX8_allGo cX8_allGo 3 none 1 22 0 0 [.ref (vA V 0), .int p1] st none s9 := by
  refine ux_met W0.1 W0.2.1 (by decide) rfl (Nat.le_of_ble_eq_true rfl) (fun M hL hr C => ?_)
  subst hL
  have C : uCx M V cX8_allGo 3 RX8 1 22 0 0 := C
  unfold fX8_allGo at h
  refine ux_aload_n C dX8_allGo_0 0 rfl ?_
  refine ux_get C fl_X8_7 dX8_allGo_1 (oM W0) rfl ?_
  refine ux_bipush (v := 36) C dX8_allGo_4 (by decide) ?_
  refine ux_ialdK (j := 36) C (aM_a W0) dX8_allGo_6 (by decide) (by decide) ?_
  refine ux_iconst (v := 1) C dX8_allGo_7 (by decide) ?_
  refine ux_isub C dX8_allGo_8 ?_
  refine ux_istore_n C dX8_allGo_9 (fun z => [(2, .int z), (0, .ref (vA V 0)), (1, .int p1)]) (fun _ => rfl) (by decide) h (fun l2_1 h => ?_)
  refine ux_sub [1, 2, 0] rfl ?_
  refine wX8_allGo_10 W0 C hr (fun st_6 h => ?_) _ _ _ h
  exact ux_vret C hr dX8_allGo_33 h (Nat.le_of_ble_eq_true rfl) (Nat.le_of_ble_eq_true rfl)
set_option maxRecDepth 100000 in
set_option maxHeartbeats 4000000 in
theorem kX8_all {l : Launch} {V : uV} (W0 : uWM l V) {st : uSt} {r : Int32} (h : fX8_all st = some r) : uMet l V yX8_all cX8_all 1 (some .int) 0 0 0 0 [.ref (vA V 0)] st (some (.int r)) st := by
  refine ux_met W0.1 W0.2.1 (by decide) rfl (Nat.le_of_ble_eq_true rfl) (fun M hL hr C => ?_)
  subst hL
  have C : uCx M V cX8_all 1 RX8 0 0 0 0 := C
  unfold fX8_all at h
  refine ux_iconst (v := 1) C dX8_all_0 (by decide) ?_
  refine ux_aload_n C dX8_all_1 0 rfl ?_
  refine ux_get C fl_X8_7 dX8_all_2 (oM W0) rfl ?_
  refine ux_bipush (v := 36) C dX8_all_5 (by decide) ?_
  refine ux_ialdK (j := 36) C (aM_a W0) dX8_all_7 (by decide) (by decide) ?_
  refine ux_ishl C dX8_all_8 ?_
  refine ux_iconst (v := 1) C dX8_all_9 (by decide) ?_
  refine ux_isub C dX8_all_10 ?_
  exact ux_iret C hr dX8_all_11 h (Nat.le_of_ble_eq_true rfl) (Nat.le_of_ble_eq_true rfl)
set_option maxRecDepth 100000 in
set_option maxHeartbeats 4000000 in
theorem wX8_setOf_4 {M : uM} {V : uV} (W0 : uWM (mL M) V) (C : uCx M V cX8_setOf 4 RX8 2 43 0 0) (hr : (mT M).sig.returnType = (some .int)) {l1 : Int32} {st : uSt} {r : Int32} {ke : Int32 → Option Int32} (K : ∀ (l2 : Int32), ke l2 = some r → uW M V (uEnd M V 0 0 (some (.int r)) st) 4 0 0 40 [(2, .int l2)] [] st) : ∀ (n : Nat) (l2 : Int32) (l3 : Int32), fX8_setOf_4 l1 st ke n l2 l3 = some r → uW M V (uEnd M V 0 0 (some (.int r)) st) 4 0 0 4 [(0, .ref (vA V 0)), (1, .int l1), (2, .int l2), (3, .int l3)] [] st := by
  intro n
  induction n with
  | zero =>
    intro l2 l3 h
    rw [fX8_setOf_4] at h
    cases h
  | succ n ih =>
    intro l2 l3 h
    rw [fX8_setOf_4] at h
    refine ux_iload_n C dX8_setOf_4 3 rfl ?_
    refine ux_aload_n C dX8_setOf_5 0 rfl ?_
    refine ux_get C fl_X8_7 dX8_setOf_6 (oM W0) rfl ?_
    refine ux_bipush (v := 36) C dX8_setOf_9 (by decide) ?_
    refine ux_ialdK (j := 36) C (aM_a W0) dX8_setOf_11 (by decide) (by decide) ?_
    refine ux_icmp_ge C dX8_setOf_12 h (fun h => ?_) (fun h => ?_)
    · refine ux_sub [2] rfl ?_
      exact K l2 h
    · refine ux_iload_n C dX8_setOf_15 2 rfl ?_
      refine ux_aload_n C dX8_setOf_16 0 rfl ?_
      refine ux_iload_n C dX8_setOf_17 3 rfl ?_
      obtain ⟨x_3, h1, h⟩ := ob_some h
      refine ux_callVi C cv_X8_166 dX8_setOf_18 (oM W0) rfl (kX8_deviceOf W0 h1) rfl (Nat.le_of_ble_eq_true rfl) ⟨(Nat.le_of_ble_eq_true rfl), (Nat.le_of_ble_eq_true rfl)⟩ ⟨(Nat.le_of_ble_eq_true rfl), (Nat.le_of_ble_eq_true rfl)⟩ ?_ rfl
      refine ux_iload_n C dX8_setOf_21 1 rfl ?_
      obtain ⟨j_4, hK_4, h⟩ := oj1_some h
      have hJ_4 : ∀ (v_5 : Int32), j_4 v_5 = some r → uW M V (uEnd M V 0 0 (some (.int r)) st) 4 0 0 32 [(0, .ref (vA V 0)), (1, .int l1), (3, .int l3)] [.int v_5, .int l2] st := by
        intro v_5 h
        replace h := hK_4 v_5 h
        refine ux_ior C dX8_setOf_32 ?_
        refine ux_istore_n C dX8_setOf_33 (fun z => [(2, .int z), (0, .ref (vA V 0)), (1, .int l1), (3, .int l3)]) (fun _ => rfl) (by decide) h (fun l2_6 h => ?_)
        refine ux_iincK C dX8_setOf_34 (by decide) 3 rfl (fun z => [(3, .int z), (2, .int l2_6), (0, .ref (vA V 0)), (1, .int l1)]) (fun _ => rfl) (by decide) h (fun l3_7 h => ?_)
        refine ux_goto C dX8_setOf_37 ?_
        refine ux_sub [2, 3, 1, 0] rfl ?_
        exact ih _ _ h
      refine ux_icmp_ne C dX8_setOf_22 h (fun h => ?_) (fun h => ?_)
      · refine ux_iconst (v := 1) C dX8_setOf_25 (by decide) ?_
        refine ux_iload_n C dX8_setOf_26 3 rfl ?_
        refine ux_ishl C dX8_setOf_27 ?_
        refine ux_goto C dX8_setOf_28 ?_
        refine ux_sub [0, 1, 3] rfl ?_
        exact hJ_4 ((1 : Int32) <<< (l3 &&& 31)) h
      · refine ux_iconst (v := 0) C dX8_setOf_31 (by decide) ?_
        refine ux_sub [0, 1, 3] rfl ?_
        exact hJ_4 (0 : Int32) h
set_option maxRecDepth 100000 in
set_option maxHeartbeats 4000000 in
theorem kX8_setOf {l : Launch} {V : uV} (W0 : uWM l V) {p1 : Int32} {st : uSt} {r : Int32} (h : fX8_setOf p1 st = some r) : uMet l V yX8_setOf cX8_setOf 4 (some .int) 2 43 0 0 [.ref (vA V 0), .int p1] st (some (.int r)) st := by
  refine ux_met W0.1 W0.2.1 (by decide) rfl (Nat.le_of_ble_eq_true rfl) (fun M hL hr C => ?_)
  subst hL
  have C : uCx M V cX8_setOf 4 RX8 2 43 0 0 := C
  unfold fX8_setOf at h
  refine ux_iconst (v := 0) C dX8_setOf_0 (by decide) ?_
  refine ux_istoreK_n C dX8_setOf_1 rfl (by decide) ?_
  refine ux_iconst (v := 0) C dX8_setOf_2 (by decide) ?_
  refine ux_istoreK_n C dX8_setOf_3 rfl (by decide) ?_
  refine ux_sub [2, 3, 1, 0] rfl ?_
  refine wX8_setOf_4 W0 C hr (fun l2_8 h => ?_) _ _ _ h
  refine ux_iload_n C dX8_setOf_40 0 rfl ?_
  exact ux_iret C hr dX8_setOf_41 h (Nat.le_of_ble_eq_true rfl) (Nat.le_of_ble_eq_true rfl)
set_option maxRecDepth 100000 in
set_option maxHeartbeats 4000000 in
theorem wX8_possible_4 {M : uM} {V : uV} (W0 : uWM (mL M) V) (C : uCx M V cX8_possible 3 RX8 2 43 0 0) (hr : (mT M).sig.returnType = (some .int)) {st : uSt} {r : Int32} {ke : Int32 → Option Int32} (K : ∀ (l1 : Int32), ke l1 = some r → uW M V (uEnd M V 0 0 (some (.int r)) st) 3 0 0 43 [(1, .int l1)] [] st) : ∀ (n : Nat) (l1 : Int32) (l2 : Int32), fX8_possible_4 st ke n l1 l2 = some r → uW M V (uEnd M V 0 0 (some (.int r)) st) 3 0 0 4 [(0, .ref (vA V 0)), (1, .int l1), (2, .int l2)] [] st := by
  intro n
  induction n with
  | zero =>
    intro l1 l2 h
    rw [fX8_possible_4] at h
    cases h
  | succ n ih =>
    intro l1 l2 h
    rw [fX8_possible_4] at h
    refine ux_iload_n C dX8_possible_4 2 rfl ?_
    refine ux_aload_n C dX8_possible_5 0 rfl ?_
    refine ux_get C fl_X8_7 dX8_possible_6 (oM W0) rfl ?_
    refine ux_bipush (v := 36) C dX8_possible_9 (by decide) ?_
    refine ux_ialdK (j := 36) C (aM_a W0) dX8_possible_11 (by decide) (by decide) ?_
    refine ux_icmp_ge C dX8_possible_12 h (fun h => ?_) (fun h => ?_)
    · refine ux_sub [1] rfl ?_
      exact K l1 h
    · refine ux_iload_n C dX8_possible_15 1 rfl ?_
      refine ux_aload_n C dX8_possible_16 0 rfl ?_
      refine ux_aload_n C dX8_possible_17 0 rfl ?_
      refine ux_iload_n C dX8_possible_18 2 rfl ?_
      obtain ⟨x_3, h1, h⟩ := ob_some h
      refine ux_callVi C cv_X8_166 dX8_possible_19 (oM W0) rfl (kX8_deviceOf W0 h1) rfl (Nat.le_of_ble_eq_true rfl) ⟨(Nat.le_of_ble_eq_true rfl), (Nat.le_of_ble_eq_true rfl)⟩ ⟨(Nat.le_of_ble_eq_true rfl), (Nat.le_of_ble_eq_true rfl)⟩ ?_ rfl
      obtain ⟨x_4, h1, h⟩ := ob_some h
      refine ux_callVi C cv_X8_169 dX8_possible_22 (oM W0) rfl (kX8_hasFailed W0 h1) rfl (Nat.le_of_ble_eq_true rfl) ⟨(Nat.le_of_ble_eq_true rfl), (Nat.le_of_ble_eq_true rfl)⟩ ⟨(Nat.le_of_ble_eq_true rfl), (Nat.le_of_ble_eq_true rfl)⟩ ?_ rfl
      obtain ⟨j_5, hK_5, h⟩ := oj1_some h
      have hJ_5 : ∀ (v_6 : Int32), j_5 v_6 = some r → uW M V (uEnd M V 0 0 (some (.int r)) st) 3 0 0 35 [(0, .ref (vA V 0)), (2, .int l2)] [.int v_6, .int l1] st := by
        intro v_6 h
        replace h := hK_5 v_6 h
        refine ux_ior C dX8_possible_35 ?_
        refine ux_istore_n C dX8_possible_36 (fun z => [(1, .int z), (0, .ref (vA V 0)), (2, .int l2)]) (fun _ => rfl) (by decide) h (fun l1_7 h => ?_)
        refine ux_iincK C dX8_possible_37 (by decide) 2 rfl (fun z => [(2, .int z), (1, .int l1_7), (0, .ref (vA V 0))]) (fun _ => rfl) (by decide) h (fun l2_8 h => ?_)
        refine ux_goto C dX8_possible_40 ?_
        refine ux_sub [2, 1, 0] rfl ?_
        exact ih _ _ h
      refine ux_if_eq C dX8_possible_25 h (fun h => ?_) (fun h => ?_)
      · refine ux_iconst (v := 1) C dX8_possible_32 (by decide) ?_
        refine ux_iload_n C dX8_possible_33 2 rfl ?_
        refine ux_ishl C dX8_possible_34 ?_
        refine ux_sub [0, 2] rfl ?_
        exact hJ_5 ((1 : Int32) <<< (l2 &&& 31)) h
      · refine ux_iconst (v := 0) C dX8_possible_28 (by decide) ?_
        refine ux_goto C dX8_possible_29 ?_
        refine ux_sub [0, 2] rfl ?_
        exact hJ_5 (0 : Int32) h
set_option maxRecDepth 100000 in
set_option maxHeartbeats 4000000 in
theorem kX8_possible {l : Launch} {V : uV} (W0 : uWM l V) {st : uSt} {r : Int32} (h : fX8_possible st = some r) : uMet l V yX8_possible cX8_possible 3 (some .int) 2 43 0 0 [.ref (vA V 0)] st (some (.int r)) st := by
  refine ux_met W0.1 W0.2.1 (by decide) rfl (Nat.le_of_ble_eq_true rfl) (fun M hL hr C => ?_)
  subst hL
  have C : uCx M V cX8_possible 3 RX8 2 43 0 0 := C
  unfold fX8_possible at h
  refine ux_iconst (v := 0) C dX8_possible_0 (by decide) ?_
  refine ux_istoreK_n C dX8_possible_1 rfl (by decide) ?_
  refine ux_iconst (v := 0) C dX8_possible_2 (by decide) ?_
  refine ux_istoreK_n C dX8_possible_3 rfl (by decide) ?_
  refine ux_sub [2, 1, 0] rfl ?_
  refine wX8_possible_4 W0 C hr (fun l1_9 h => ?_) _ _ _ h
  refine ux_iload_n C dX8_possible_43 0 rfl ?_
  exact ux_iret C hr dX8_possible_44 h (Nat.le_of_ble_eq_true rfl) (Nat.le_of_ble_eq_true rfl)
set_option maxRecDepth 100000 in
set_option maxHeartbeats 4000000 in
theorem wX8_bits_4 {M : uM} {V : uV} (W0 : uWM (mL M) V) (C : uCx M V cX8_bits 3 RX8 0 0 0 0) (hr : (mT M).sig.returnType = (some .int)) {l0 : Int32} {st : uSt} {r : Int32} {ke : Int32 → Option Int32} (K : ∀ (l1 : Int32), ke l1 = some r → uW M V (uEnd M V 0 0 (some (.int r)) st) 3 0 0 24 [(1, .int l1)] [] st) : ∀ (n : Nat) (l1 : Int32) (l2 : Int32), fX8_bits_4 l0 ke n l1 l2 = some r → uW M V (uEnd M V 0 0 (some (.int r)) st) 3 0 0 4 [(0, .int l0), (1, .int l1), (2, .int l2)] [] st := by
  intro n
  induction n with
  | zero =>
    intro l1 l2 h
    rw [fX8_bits_4] at h
    cases h
  | succ n ih =>
    intro l1 l2 h
    rw [fX8_bits_4] at h
    refine ux_iload_n C dX8_bits_4 2 rfl ?_
    refine ux_bipush (v := 24) C dX8_bits_5 (by decide) ?_
    refine ux_icmp_ge C dX8_bits_7 h (fun h => ?_) (fun h => ?_)
    · refine ux_sub [1] rfl ?_
      exact K l1 h
    · refine ux_iload_n C dX8_bits_10 1 rfl ?_
      refine ux_iload_n C dX8_bits_11 0 rfl ?_
      refine ux_iload_n C dX8_bits_12 2 rfl ?_
      refine ux_ishr C dX8_bits_13 ?_
      refine ux_iconst (v := 1) C dX8_bits_14 (by decide) ?_
      refine ux_iand C dX8_bits_15 ?_
      refine ux_iadd C dX8_bits_16 ?_
      refine ux_istore_n C dX8_bits_17 (fun z => [(1, .int z), (0, .int l0), (2, .int l2)]) (fun _ => rfl) (by decide) h (fun l1_3 h => ?_)
      refine ux_iincK C dX8_bits_18 (by decide) 2 rfl (fun z => [(2, .int z), (1, .int l1_3), (0, .int l0)]) (fun _ => rfl) (by decide) h (fun l2_4 h => ?_)
      refine ux_goto C dX8_bits_21 ?_
      refine ux_sub [2, 1, 0] rfl ?_
      exact ih _ _ h
set_option maxRecDepth 100000 in
set_option maxHeartbeats 4000000 in
theorem kX8_bits {l : Launch} {V : uV} (W0 : uWM l V) {p0 : Int32} {st : uSt} {r : Int32} (h : fX8_bits p0 = some r) : uMet l V yX8_bits cX8_bits 3 (some .int) 0 0 0 0 [.int p0] st (some (.int r)) st := by
  refine ux_met W0.1 W0.2.1 (by decide) rfl (Nat.le_of_ble_eq_true rfl) (fun M hL hr C => ?_)
  subst hL
  have C : uCx M V cX8_bits 3 RX8 0 0 0 0 := C
  unfold fX8_bits at h
  refine ux_iconst (v := 0) C dX8_bits_0 (by decide) ?_
  refine ux_istoreK_n C dX8_bits_1 rfl (by decide) ?_
  refine ux_iconst (v := 0) C dX8_bits_2 (by decide) ?_
  refine ux_istoreK_n C dX8_bits_3 rfl (by decide) ?_
  refine ux_sub [2, 1, 0] rfl ?_
  refine wX8_bits_4 W0 C hr (fun l1_5 h => ?_) _ _ _ h
  refine ux_iload_n C dX8_bits_24 0 rfl ?_
  exact ux_iret C hr dX8_bits_25 h (Nat.le_of_ble_eq_true rfl) (Nat.le_of_ble_eq_true rfl)
set_option maxRecDepth 100000 in
set_option maxHeartbeats 4000000 in
theorem wX8_valueIn_4 {M : uM} {V : uV} (W0 : uWM (mL M) V) (C : uCx M V cX8_valueIn 4 RX8 1 22 0 0) (hr : (mT M).sig.returnType = (some .int)) {l1 : Int32} {st : uSt} {r : Int32} {ke : Int32 → Option Int32} (K : ∀ (l2 : Int32), ke l2 = some r → uW M V (uEnd M V 0 0 (some (.int r)) st) 4 0 0 42 [(2, .int l2)] [] st) : ∀ (n : Nat) (l2 : Int32) (l3 : Int32), fX8_valueIn_4 l1 st ke n l2 l3 = some r → uW M V (uEnd M V 0 0 (some (.int r)) st) 4 0 0 4 [(0, .ref (vA V 0)), (1, .int l1), (2, .int l2), (3, .int l3)] [] st := by
  intro n
  induction n with
  | zero =>
    intro l2 l3 h
    rw [fX8_valueIn_4] at h
    cases h
  | succ n ih =>
    intro l2 l3 h
    rw [fX8_valueIn_4] at h
    refine ux_iload_n C dX8_valueIn_4 3 rfl ?_
    refine ux_aload_n C dX8_valueIn_5 0 rfl ?_
    refine ux_get C fl_X8_7 dX8_valueIn_6 (oM W0) rfl ?_
    refine ux_bipush (v := 36) C dX8_valueIn_9 (by decide) ?_
    refine ux_ialdK (j := 36) C (aM_a W0) dX8_valueIn_11 (by decide) (by decide) ?_
    refine ux_icmp_ge C dX8_valueIn_12 h (fun h => ?_) (fun h => ?_)
    · refine ux_sub [2] rfl ?_
      exact K l2 h
    · refine ux_iload_n C dX8_valueIn_15 2 rfl ?_
      refine ux_iload_n C dX8_valueIn_16 1 rfl ?_
      refine ux_iload_n C dX8_valueIn_17 3 rfl ?_
      obtain ⟨x_3, h1, h⟩ := ob_some h
      refine ux_callSi C cs_X8_144 dX8_valueIn_18 (kX8_has W0 h1) rfl (Nat.le_of_ble_eq_true rfl) ⟨(Nat.le_of_ble_eq_true rfl), (Nat.le_of_ble_eq_true rfl)⟩ ⟨(Nat.le_of_ble_eq_true rfl), (Nat.le_of_ble_eq_true rfl)⟩ ?_ rfl
      obtain ⟨j_4, hK_4, h⟩ := oj1_some h
      have hJ_4 : ∀ (v_5 : Int32), j_4 v_5 = some r → uW M V (uEnd M V 0 0 (some (.int r)) st) 4 0 0 34 [(0, .ref (vA V 0)), (1, .int l1), (3, .int l3)] [.int v_5, .int l2] st := by
        intro v_5 h
        replace h := hK_4 v_5 h
        refine ux_iadd C dX8_valueIn_34 ?_
        refine ux_istore_n C dX8_valueIn_35 (fun z => [(2, .int z), (0, .ref (vA V 0)), (1, .int l1), (3, .int l3)]) (fun _ => rfl) (by decide) h (fun l2_6 h => ?_)
        refine ux_iincK C dX8_valueIn_36 (by decide) 3 rfl (fun z => [(3, .int z), (2, .int l2_6), (0, .ref (vA V 0)), (1, .int l1)]) (fun _ => rfl) (by decide) h (fun l3_7 h => ?_)
        refine ux_goto C dX8_valueIn_39 ?_
        refine ux_sub [2, 3, 1, 0] rfl ?_
        exact ih _ _ h
      refine ux_if_eq C dX8_valueIn_21 h (fun h => ?_) (fun h => ?_)
      · refine ux_iconst (v := 0) C dX8_valueIn_33 (by decide) ?_
        refine ux_sub [0, 1, 3] rfl ?_
        exact hJ_4 (0 : Int32) h
      · refine ux_aload_n C dX8_valueIn_24 0 rfl ?_
        refine ux_iload_n C dX8_valueIn_25 3 rfl ?_
        refine ux_iconst (v := 1) C dX8_valueIn_26 (by decide) ?_
        obtain ⟨x_8, h1, h⟩ := ob_some h
        refine ux_callVi C cv_X8_160 dX8_valueIn_27 (oM W0) rfl (kX8_of W0 h1) rfl (Nat.le_of_ble_eq_true rfl) ⟨(Nat.le_of_ble_eq_true rfl), (Nat.le_of_ble_eq_true rfl)⟩ ⟨(Nat.le_of_ble_eq_true rfl), (Nat.le_of_ble_eq_true rfl)⟩ ?_ rfl
        refine ux_goto C dX8_valueIn_30 ?_
        refine ux_sub [0, 1, 3] rfl ?_
        exact hJ_4 x_8 h
set_option maxRecDepth 100000 in
set_option maxHeartbeats 4000000 in
theorem kX8_valueIn {l : Launch} {V : uV} (W0 : uWM l V) {p1 : Int32} {st : uSt} {r : Int32} (h : fX8_valueIn p1 st = some r) : uMet l V yX8_valueIn cX8_valueIn 4 (some .int) 1 22 0 0 [.ref (vA V 0), .int p1] st (some (.int r)) st := by
  refine ux_met W0.1 W0.2.1 (by decide) rfl (Nat.le_of_ble_eq_true rfl) (fun M hL hr C => ?_)
  subst hL
  have C : uCx M V cX8_valueIn 4 RX8 1 22 0 0 := C
  unfold fX8_valueIn at h
  refine ux_iconst (v := 0) C dX8_valueIn_0 (by decide) ?_
  refine ux_istoreK_n C dX8_valueIn_1 rfl (by decide) ?_
  refine ux_iconst (v := 0) C dX8_valueIn_2 (by decide) ?_
  refine ux_istoreK_n C dX8_valueIn_3 rfl (by decide) ?_
  refine ux_sub [2, 3, 1, 0] rfl ?_
  refine wX8_valueIn_4 W0 C hr (fun l2_9 h => ?_) _ _ _ h
  refine ux_iload_n C dX8_valueIn_42 0 rfl ?_
  exact ux_iret C hr dX8_valueIn_43 h (Nat.le_of_ble_eq_true rfl) (Nat.le_of_ble_eq_true rfl)
set_option maxRecDepth 100000 in
set_option maxHeartbeats 4000000 in
theorem wX8_energyIn_7 {M : uM} {V : uV} (W0 : uWM (mL M) V) (C : uCx M V cX8_energyIn 8 RX8 2 43 0 0) (hr : (mT M).sig.returnType = (some .int)) {l1 : Int32} {st : uSt} {r : Int32} {ke : Int32 → Option Int32} (K : ∀ (l2 : Int32), ke l2 = some r → uW M V (uEnd M V 0 0 (some (.int r)) st) 8 0 0 159 [(2, .int l2)] [] st) : ∀ (n : Nat) (l2 : Int32) (l3 : Int32) (l4 : Int32), fX8_energyIn_7 l1 st ke n l2 l3 l4 = some r → uW M V (uEnd M V 0 0 (some (.int r)) st) 8 0 0 7 [(0, .ref (vA V 0)), (1, .int l1), (2, .int l2), (3, .int l3), (4, .int l4)] [] st := by
  intro n
  induction n with
  | zero =>
    intro l2 l3 l4 h
    rw [fX8_energyIn_7] at h
    cases h
  | succ n ih =>
    intro l2 l3 l4 h
    rw [fX8_energyIn_7] at h
    refine ux_iload C dX8_energyIn_7 4 rfl ?_
    refine ux_aload_n C dX8_energyIn_9 0 rfl ?_
    refine ux_get C fl_X8_7 dX8_energyIn_10 (oM W0) rfl ?_
    refine ux_bipush (v := 36) C dX8_energyIn_13 (by decide) ?_
    refine ux_ialdK (j := 36) C (aM_a W0) dX8_energyIn_15 (by decide) (by decide) ?_
    refine ux_icmp_ge C dX8_energyIn_16 h (fun h => ?_) (fun h => ?_)
    · refine ux_sub [2] rfl ?_
      exact K l2 h
    · refine ux_iload_n C dX8_energyIn_19 1 rfl ?_
      refine ux_iload C dX8_energyIn_20 4 rfl ?_
      obtain ⟨x_4, h1, h⟩ := ob_some h
      refine ux_callSi C cs_X8_144 dX8_energyIn_22 (kX8_has W0 h1) rfl (Nat.le_of_ble_eq_true rfl) ⟨(Nat.le_of_ble_eq_true rfl), (Nat.le_of_ble_eq_true rfl)⟩ ⟨(Nat.le_of_ble_eq_true rfl), (Nat.le_of_ble_eq_true rfl)⟩ ?_ rfl
      refine ux_if_ne C dX8_energyIn_25 h (fun h => ?_) (fun h => ?_)
      · refine ux_goto C dX8_energyIn_28 ?_
        refine ux_iincK C dX8_energyIn_153 (by decide) 4 rfl (fun z => [(4, .int z), (0, .ref (vA V 0)), (1, .int l1), (2, .int l2), (3, .int l3)]) (fun _ => rfl) (by decide) h (fun l4_5 h => ?_)
        refine ux_goto C dX8_energyIn_156 ?_
        refine ux_sub [1, 2, 3, 4, 0] rfl ?_
        exact ih _ _ _ h
      · refine ux_bipush (v := 10) C dX8_energyIn_31 (by decide) ?_
        refine ux_iconst (v := 3) C dX8_energyIn_33 (by decide) ?_
        refine ux_aload_n C dX8_energyIn_34 0 rfl ?_
        refine ux_iload C dX8_energyIn_35 4 rfl ?_
        obtain ⟨x_6, h1, h⟩ := ob_some h
        refine ux_callVi C cv_X8_166 dX8_energyIn_37 (oM W0) rfl (kX8_deviceOf W0 h1) rfl (Nat.le_of_ble_eq_true rfl) ⟨(Nat.le_of_ble_eq_true rfl), (Nat.le_of_ble_eq_true rfl)⟩ ⟨(Nat.le_of_ble_eq_true rfl), (Nat.le_of_ble_eq_true rfl)⟩ ?_ rfl
        refine ux_imul C dX8_energyIn_40 ?_
        refine ux_iadd C dX8_energyIn_41 ?_
        refine ux_istore C dX8_energyIn_42 (fun z => [(5, .int z), (0, .ref (vA V 0)), (1, .int l1), (2, .int l2), (3, .int l3), (4, .int l4)]) (fun _ => rfl) (by decide) h (fun l5_7 h => ?_)
        refine ux_iload_n C dX8_energyIn_44 4 rfl ?_
        refine ux_iconst (v := (-1)) C dX8_energyIn_45 (by decide) ?_
        obtain ⟨j_8, hK_8, h⟩ := oj1_some h
        have hJ_8 : ∀ (v_9 : Int32), j_8 v_9 = some r → uW M V (uEnd M V 0 0 (some (.int r)) st) 8 0 0 68 [(0, .ref (vA V 0)), (1, .int l1), (2, .int l2), (3, .int l3), (4, .int l4), (5, .int l5_7)] [.int v_9] st := by
          intro v_9 h
          replace h := hK_8 v_9 h
          refine ux_istoreK C dX8_energyIn_68 rfl (by decide) ?_
          refine ux_iload C dX8_energyIn_70 0 rfl ?_
          obtain ⟨j_11, hK_11, h⟩ := oj1_some h
          have hJ_11 : ∀ (v_12 : Int32), j_11 v_12 = some r → uW M V (uEnd M V 0 0 (some (.int r)) st) 8 0 0 98 [(0, .ref (vA V 0)), (1, .int l1), (2, .int l2), (4, .int l4), (5, .int l5_7), (6, .int v_9)] [.int v_12] st := by
            intro v_12 h
            replace h := hK_11 v_12 h
            refine ux_istoreK C dX8_energyIn_98 rfl (by decide) ?_
            refine ux_iload_n C dX8_energyIn_100 3 rfl ?_
            refine ux_iload C dX8_energyIn_101 6 rfl ?_
            obtain ⟨j_14, hK_14, h⟩ := oj1_some h
            have hJ_14 : ∀ (v_15 : Int32), j_14 v_15 = some r → uW M V (uEnd M V 0 0 (some (.int r)) st) 8 0 0 119 [(0, .ref (vA V 0)), (1, .int l1), (4, .int l4), (5, .int l5_7), (7, .int v_12)] [.int v_15, .int l2] st := by
              intro v_15 h
              replace h := hK_14 v_15 h
              refine ux_iload C dX8_energyIn_119 4 rfl ?_
              obtain ⟨j_16, hK_16, h⟩ := oj1_some h
              have hJ_16 : ∀ (v_17 : Int32), j_16 v_17 = some r → uW M V (uEnd M V 0 0 (some (.int r)) st) 8 0 0 137 [(0, .ref (vA V 0)), (1, .int l1), (4, .int l4), (5, .int l5_7)] [.int v_17, .int v_15, .int l2] st := by
                intro v_17 h
                replace h := hK_16 v_17 h
                refine ux_iadd C dX8_energyIn_137 ?_
                refine ux_aload_n C dX8_energyIn_138 0 rfl ?_
                refine ux_get C fl_X8_7 dX8_energyIn_139 (oM W0) rfl ?_
                refine ux_iload C dX8_energyIn_142 3 rfl ?_
                refine ux_iconst (v := 2) C dX8_energyIn_144 (by decide) ?_
                refine ux_iadd C dX8_energyIn_145 ?_
                refine ux_iald C (aM_a W0) dX8_energyIn_146 h (fun h => ?_)
                refine ux_iadd C dX8_energyIn_147 ?_
                refine ux_iadd C dX8_energyIn_148 ?_
                refine ux_istore_n C dX8_energyIn_149 (fun z => [(2, .int z), (0, .ref (vA V 0)), (1, .int l1), (4, .int l4), (5, .int l5_7)]) (fun _ => rfl) (by decide) h (fun l2_18 h => ?_)
                refine ux_iload C dX8_energyIn_150 3 rfl ?_
                refine ux_istoreK_n C dX8_energyIn_152 rfl (by decide) ?_
                refine ux_iincK C dX8_energyIn_153 (by decide) 4 rfl (fun z => [(4, .int z), (3, .int l4), (2, .int l2_18), (0, .ref (vA V 0)), (1, .int l1), (5, .int l5_7)]) (fun _ => rfl) (by decide) h (fun l4_20 h => ?_)
                refine ux_goto C dX8_energyIn_156 ?_
                refine ux_sub [3, 4, 2, 1, 0] rfl ?_
                exact ih _ _ _ h
              refine ux_if_eq C dX8_energyIn_121 h (fun h => ?_) (fun h => ?_)
              · refine ux_aload_n C dX8_energyIn_128 0 rfl ?_
                refine ux_get C fl_X8_7 dX8_energyIn_129 (oM W0) rfl ?_
                refine ux_iload C dX8_energyIn_132 3 rfl ?_
                refine ux_iconst (v := 1) C dX8_energyIn_134 (by decide) ?_
                refine ux_iadd C dX8_energyIn_135 ?_
                refine ux_iald C (aM_a W0) dX8_energyIn_136 h (fun h => ?_)
                refine ux_sub [0, 1, 2, 3] rfl ?_
                exact hJ_16 (st.1 1 (l5_7 + (1 : Int32)).toNatClampNeg) h
              · refine ux_iconst (v := 0) C dX8_energyIn_124 (by decide) ?_
                refine ux_goto C dX8_energyIn_125 ?_
                refine ux_sub [0, 1, 2, 3] rfl ?_
                exact hJ_16 (0 : Int32) h
            refine ux_if_eq C dX8_energyIn_103 h (fun h => ?_) (fun h => ?_)
            · refine ux_iconst (v := 0) C dX8_energyIn_118 (by decide) ?_
              refine ux_sub [1, 2, 4, 5, 0] rfl ?_
              exact hJ_14 (0 : Int32) h
            · refine ux_aload_n C dX8_energyIn_106 1 rfl ?_
              refine ux_get C fl_X8_7 dX8_energyIn_107 (oM W0) rfl ?_
              refine ux_iload C dX8_energyIn_110 5 rfl ?_
              refine ux_iconst (v := 0) C dX8_energyIn_112 (by decide) ?_
              refine ux_iadd C dX8_energyIn_113 ?_
              refine ux_iald C (aM_a W0) dX8_energyIn_114 h (fun h => ?_)
              refine ux_goto C dX8_energyIn_115 ?_
              refine ux_sub [1, 2, 4, 5, 0] rfl ?_
              exact hJ_14 (st.1 1 (l5_7 + (0 : Int32)).toNatClampNeg) h
          obtain ⟨j_21, hK_21, h⟩ := oj0_some h
          have hJ_21 : j_21 = some r → uW M V (uEnd M V 0 0 (some (.int r)) st) 8 0 0 97 [(0, .ref (vA V 0)), (1, .int l1), (2, .int l2), (4, .int l4), (5, .int l5_7), (6, .int v_9)] [] st := by
            intro h
            replace h := hK_21 h
            refine ux_iconst (v := 0) C dX8_energyIn_97 (by decide) ?_
            exact hJ_11 (0 : Int32) h
          refine ux_if_ne C dX8_energyIn_72 h (fun h => ?_) (fun h => ?_)
          · refine ux_aload_n C dX8_energyIn_75 1 rfl ?_
            refine ux_iload_n C dX8_energyIn_76 4 rfl ?_
            refine ux_iconst (v := 0) C dX8_energyIn_77 (by decide) ?_
            obtain ⟨x_22, h1, h⟩ := ob_some h
            refine ux_callVi C cv_X8_160 dX8_energyIn_78 (oM W0) rfl (kX8_of W0 h1) rfl (Nat.le_of_ble_eq_true rfl) ⟨(Nat.le_of_ble_eq_true rfl), (Nat.le_of_ble_eq_true rfl)⟩ ⟨(Nat.le_of_ble_eq_true rfl), (Nat.le_of_ble_eq_true rfl)⟩ ?_ rfl
            refine ux_iconst (v := 1) C dX8_energyIn_81 (by decide) ?_
            refine ux_iadd C dX8_energyIn_82 ?_
            refine ux_aload_n C dX8_energyIn_83 1 rfl ?_
            refine ux_iload C dX8_energyIn_84 5 rfl ?_
            refine ux_iconst (v := 0) C dX8_energyIn_86 (by decide) ?_
            obtain ⟨x_23, h1, h⟩ := ob_some h
            refine ux_callVi C cv_X8_160 dX8_energyIn_87 (oM W0) rfl (kX8_of W0 h1) rfl (Nat.le_of_ble_eq_true rfl) ⟨(Nat.le_of_ble_eq_true rfl), (Nat.le_of_ble_eq_true rfl)⟩ ⟨(Nat.le_of_ble_eq_true rfl), (Nat.le_of_ble_eq_true rfl)⟩ ?_ rfl
            refine ux_icmp_ne C dX8_energyIn_90 h (fun h => ?_) (fun h => ?_)
            · refine ux_iconst (v := 1) C dX8_energyIn_93 (by decide) ?_
              refine ux_goto C dX8_energyIn_94 ?_
              refine ux_sub [1, 2, 3, 5, 6, 0] rfl ?_
              exact hJ_11 (1 : Int32) h
            · refine ux_sub [1, 2, 3, 5, 6, 0] rfl ?_
              exact hJ_21 h
          · refine ux_sub [1, 2, 3, 5, 6, 0] rfl ?_
            exact hJ_21 h
        refine ux_icmp_eq C dX8_energyIn_46 h (fun h => ?_) (fun h => ?_)
        · refine ux_iconst (v := 1) C dX8_energyIn_63 (by decide) ?_
          refine ux_goto C dX8_energyIn_64 ?_
          refine ux_sub [1, 2, 3, 4, 5, 0] rfl ?_
          exact hJ_8 (1 : Int32) h
        · refine ux_aload_n C dX8_energyIn_49 1 rfl ?_
          refine ux_iload_n C dX8_energyIn_50 4 rfl ?_
          obtain ⟨x_24, h1, h⟩ := ob_some h
          refine ux_callVi C cv_X8_166 dX8_energyIn_51 (oM W0) rfl (kX8_deviceOf W0 h1) rfl (Nat.le_of_ble_eq_true rfl) ⟨(Nat.le_of_ble_eq_true rfl), (Nat.le_of_ble_eq_true rfl)⟩ ⟨(Nat.le_of_ble_eq_true rfl), (Nat.le_of_ble_eq_true rfl)⟩ ?_ rfl
          refine ux_aload_n C dX8_energyIn_54 1 rfl ?_
          refine ux_iload C dX8_energyIn_55 5 rfl ?_
          obtain ⟨x_25, h1, h⟩ := ob_some h
          refine ux_callVi C cv_X8_166 dX8_energyIn_57 (oM W0) rfl (kX8_deviceOf W0 h1) rfl (Nat.le_of_ble_eq_true rfl) ⟨(Nat.le_of_ble_eq_true rfl), (Nat.le_of_ble_eq_true rfl)⟩ ⟨(Nat.le_of_ble_eq_true rfl), (Nat.le_of_ble_eq_true rfl)⟩ ?_ rfl
          refine ux_icmp_eq C dX8_energyIn_60 h (fun h => ?_) (fun h => ?_)
          · refine ux_iconst (v := 0) C dX8_energyIn_67 (by decide) ?_
            refine ux_sub [1, 2, 3, 4, 5, 0] rfl ?_
            exact hJ_8 (0 : Int32) h
          · refine ux_iconst (v := 1) C dX8_energyIn_63 (by decide) ?_
            refine ux_goto C dX8_energyIn_64 ?_
            refine ux_sub [1, 2, 3, 4, 5, 0] rfl ?_
            exact hJ_8 (1 : Int32) h
set_option maxRecDepth 100000 in
set_option maxHeartbeats 4000000 in
theorem kX8_energyIn {l : Launch} {V : uV} (W0 : uWM l V) {p1 : Int32} {st : uSt} {r : Int32} (h : fX8_energyIn p1 st = some r) : uMet l V yX8_energyIn cX8_energyIn 8 (some .int) 2 43 0 0 [.ref (vA V 0), .int p1] st (some (.int r)) st := by
  refine ux_met W0.1 W0.2.1 (by decide) rfl (Nat.le_of_ble_eq_true rfl) (fun M hL hr C => ?_)
  subst hL
  have C : uCx M V cX8_energyIn 8 RX8 2 43 0 0 := C
  unfold fX8_energyIn at h
  refine ux_iconst (v := 0) C dX8_energyIn_0 (by decide) ?_
  refine ux_istoreK_n C dX8_energyIn_1 rfl (by decide) ?_
  refine ux_iconst (v := (-1)) C dX8_energyIn_2 (by decide) ?_
  refine ux_istoreK_n C dX8_energyIn_3 rfl (by decide) ?_
  refine ux_iconst (v := 0) C dX8_energyIn_4 (by decide) ?_
  refine ux_istoreK C dX8_energyIn_5 rfl (by decide) ?_
  refine ux_sub [3, 4, 2, 1, 0] rfl ?_
  refine wX8_energyIn_7 W0 C hr (fun l2_26 h => ?_) _ _ _ _ h
  refine ux_iload_n C dX8_energyIn_159 0 rfl ?_
  exact ux_iret C hr dX8_energyIn_160 h (Nat.le_of_ble_eq_true rfl) (Nat.le_of_ble_eq_true rfl)
set_option maxRecDepth 100000 in
set_option maxHeartbeats 4000000 in
theorem kX8_needed {l : Launch} {V : uV} (W0 : uWM l V) {st : uSt} {r : Int32} (h : fX8_needed st = some r) : uMet l V yX8_needed cX8_needed 1 (some .int) 3 70 0 0 [.ref (vA V 0)] st (some (.int r)) st := by
  refine ux_met W0.1 W0.2.1 (by decide) rfl (Nat.le_of_ble_eq_true rfl) (fun M hL hr C => ?_)
  subst hL
  have C : uCx M V cX8_needed 1 RX8 3 70 0 0 := C
  unfold fX8_needed at h
  refine ux_aload_n C dX8_needed_0 0 rfl ?_
  refine ux_aload_n C dX8_needed_1 0 rfl ?_
  obtain ⟨x_1, h1, h⟩ := ob_some h
  refine ux_callVi C cv_X8_172 dX8_needed_2 (oM W0) rfl (kX8_possible W0 h1) rfl (Nat.le_of_ble_eq_true rfl) ⟨(Nat.le_of_ble_eq_true rfl), (Nat.le_of_ble_eq_true rfl)⟩ ⟨(Nat.le_of_ble_eq_true rfl), (Nat.le_of_ble_eq_true rfl)⟩ ?_ rfl
  obtain ⟨x_2, h1, h⟩ := ob_some h
  refine ux_callVi C cv_X8_175 dX8_needed_5 (oM W0) rfl (kX8_energyIn W0 h1) rfl (Nat.le_of_ble_eq_true rfl) ⟨(Nat.le_of_ble_eq_true rfl), (Nat.le_of_ble_eq_true rfl)⟩ ⟨(Nat.le_of_ble_eq_true rfl), (Nat.le_of_ble_eq_true rfl)⟩ ?_ rfl
  exact ux_iret C hr dX8_needed_8 h (Nat.le_of_ble_eq_true rfl) (Nat.le_of_ble_eq_true rfl)
set_option maxRecDepth 100000 in
set_option maxHeartbeats 4000000 in
theorem kX8_report {l : Launch} {V : uV} (W0 : uWM l V) {p1 : Int32} {st : uSt} {r : Int32} {s9 : uSt} (h : fX8_report p1 st = some (r, s9)) : uMet l V yX8_report cX8_report 2 (some .int) 1 22 0 0 [.ref (vA V 0), .int p1] st (some (.int r)) s9 := by
  refine ux_met W0.1 W0.2.1 (by decide) rfl (Nat.le_of_ble_eq_true rfl) (fun M hL hr C => ?_)
  subst hL
  have C : uCx M V cX8_report 2 RX8 1 22 0 0 := C
  unfold fX8_report at h
  refine ux_aload_n C dX8_report_0 0 rfl ?_
  refine ux_iconst (v := 0) C dX8_report_1 (by decide) ?_
  refine ux_puti C fp_X8_49 dX8_report_2 (oM W0) (Nat.le_of_ble_eq_true rfl) rfl h (fun st_1 h => ?_)
  refine ux_aload_n C dX8_report_5 0 rfl ?_
  refine ux_iload_n C dX8_report_6 1 rfl ?_
  refine ux_iconst (v := 0) C dX8_report_7 (by decide) ?_
  refine ux_bipush (v := 8) C dX8_report_8 (by decide) ?_
  obtain ⟨x_2, h1, h⟩ := ob_some h
  refine ux_callSi C cs_X8_59 dX8_report_10 (kX8_isIn W0 h1) rfl (Nat.le_of_ble_eq_true rfl) ⟨(Nat.le_of_ble_eq_true rfl), (Nat.le_of_ble_eq_true rfl)⟩ ⟨(Nat.le_of_ble_eq_true rfl), (Nat.le_of_ble_eq_true rfl)⟩ ?_ rfl
  refine ux_iconst (v := 1) C dX8_report_13 (by decide) ?_
  obtain ⟨x_4, st_3, h1, h⟩ := obS_some h
  refine ux_callVi C cv_X8_55 dX8_report_14 (oM W0) rfl (kX8_may W0 h1) rfl (Nat.le_of_ble_eq_true rfl) ⟨(Nat.le_of_ble_eq_true rfl), (Nat.le_of_ble_eq_true rfl)⟩ ⟨(Nat.le_of_ble_eq_true rfl), (Nat.le_of_ble_eq_true rfl)⟩ ?_ rfl
  refine ux_if_ne C dX8_report_17 h (fun h => ?_) (fun h => ?_)
  · refine ux_iconst (v := 0) C dX8_report_20 (by decide) ?_
    exact ux_iretS C hr dX8_report_21 h (Nat.le_of_ble_eq_true rfl) (Nat.le_of_ble_eq_true rfl)
  · refine ux_iload_n C dX8_report_22 1 rfl ?_
    by_cases c0 : p1.toInt < 0 ∨ 7 < p1.toInt
    · rw [if_pos c0] at h
      refine ux_tsOut (tgt := 130) C dX8_report_23 c0 (by decide) ?_
      refine ux_aload_n C dX8_report_130 0 rfl ?_
      refine ux_get C fl_X8_7 dX8_report_131 (oM W0) rfl ?_
      refine ux_bipush (v := 28) C dX8_report_134 (by decide) ?_
      refine ux_ialdK (j := 28) C (aM_a W0) dX8_report_136 (by decide) (by decide) ?_
      exact ux_iretS C hr dX8_report_137 h (Nat.le_of_ble_eq_true rfl) (Nat.le_of_ble_eq_true rfl)
    · rw [if_neg c0] at h
      by_cases c1 : p1 = 0
      · rw [if_pos c1] at h
        refine ux_tsIn (off := 45) (tgt := 68) C dX8_report_23 c1 (by decide) (by decide) (by decide) (by decide) ?_
        refine ux_aload_n C dX8_report_68 0 rfl ?_
        refine ux_get C fl_X8_7 dX8_report_69 (oM W0) rfl ?_
        refine ux_iconst (v := 0) C dX8_report_72 (by decide) ?_
        refine ux_ialdK (j := 0) C (aM_a W0) dX8_report_73 (by decide) (by decide) ?_
        exact ux_iretS C hr dX8_report_74 h (Nat.le_of_ble_eq_true rfl) (Nat.le_of_ble_eq_true rfl)
      rw [if_neg c1] at h
      by_cases c2 : p1 = 1
      · rw [if_pos c2] at h
        refine ux_tsIn (off := 52) (tgt := 75) C dX8_report_23 c2 (by decide) (by decide) (by decide) (by decide) ?_
        refine ux_aload_n C dX8_report_75 0 rfl ?_
        refine ux_get C fl_X8_7 dX8_report_76 (oM W0) rfl ?_
        refine ux_iconst (v := 1) C dX8_report_79 (by decide) ?_
        refine ux_ialdK (j := 1) C (aM_a W0) dX8_report_80 (by decide) (by decide) ?_
        exact ux_iretS C hr dX8_report_81 h (Nat.le_of_ble_eq_true rfl) (Nat.le_of_ble_eq_true rfl)
      rw [if_neg c2] at h
      by_cases c3 : p1 = 2
      · rw [if_pos c3] at h
        refine ux_tsIn (off := 59) (tgt := 82) C dX8_report_23 c3 (by decide) (by decide) (by decide) (by decide) ?_
        refine ux_aload_n C dX8_report_82 0 rfl ?_
        refine ux_get C fl_X8_7 dX8_report_83 (oM W0) rfl ?_
        refine ux_bipush (v := 26) C dX8_report_86 (by decide) ?_
        refine ux_ialdK (j := 26) C (aM_a W0) dX8_report_88 (by decide) (by decide) ?_
        exact ux_iretS C hr dX8_report_89 h (Nat.le_of_ble_eq_true rfl) (Nat.le_of_ble_eq_true rfl)
      rw [if_neg c3] at h
      by_cases c4 : p1 = 3
      · rw [if_pos c4] at h
        refine ux_tsIn (off := 67) (tgt := 90) C dX8_report_23 c4 (by decide) (by decide) (by decide) (by decide) ?_
        refine ux_aload_n C dX8_report_90 0 rfl ?_
        refine ux_get C fl_X8_7 dX8_report_91 (oM W0) rfl ?_
        refine ux_bipush (v := 27) C dX8_report_94 (by decide) ?_
        refine ux_ialdK (j := 27) C (aM_a W0) dX8_report_96 (by decide) (by decide) ?_
        exact ux_iretS C hr dX8_report_97 h (Nat.le_of_ble_eq_true rfl) (Nat.le_of_ble_eq_true rfl)
      rw [if_neg c4] at h
      by_cases c5 : p1 = 4
      · rw [if_pos c5] at h
        refine ux_tsIn (off := 75) (tgt := 98) C dX8_report_23 c5 (by decide) (by decide) (by decide) (by decide) ?_
        refine ux_aload_n C dX8_report_98 0 rfl ?_
        refine ux_get C fl_X8_7 dX8_report_99 (oM W0) rfl ?_
        refine ux_bipush (v := 36) C dX8_report_102 (by decide) ?_
        refine ux_ialdK (j := 36) C (aM_a W0) dX8_report_104 (by decide) (by decide) ?_
        exact ux_iretS C hr dX8_report_105 h (Nat.le_of_ble_eq_true rfl) (Nat.le_of_ble_eq_true rfl)
      rw [if_neg c5] at h
      by_cases c6 : p1 = 5
      · rw [if_pos c6] at h
        refine ux_tsIn (off := 83) (tgt := 106) C dX8_report_23 c6 (by decide) (by decide) (by decide) (by decide) ?_
        refine ux_aload_n C dX8_report_106 0 rfl ?_
        refine ux_get C fl_X8_7 dX8_report_107 (oM W0) rfl ?_
        refine ux_bipush (v := 9) C dX8_report_110 (by decide) ?_
        refine ux_ialdK (j := 9) C (aM_a W0) dX8_report_112 (by decide) (by decide) ?_
        exact ux_iretS C hr dX8_report_113 h (Nat.le_of_ble_eq_true rfl) (Nat.le_of_ble_eq_true rfl)
      rw [if_neg c6] at h
      by_cases c7 : p1 = 6
      · rw [if_pos c7] at h
        refine ux_tsIn (off := 91) (tgt := 114) C dX8_report_23 c7 (by decide) (by decide) (by decide) (by decide) ?_
        refine ux_aload_n C dX8_report_114 0 rfl ?_
        refine ux_get C fl_X8_7 dX8_report_115 (oM W0) rfl ?_
        refine ux_bipush (v := 7) C dX8_report_118 (by decide) ?_
        refine ux_ialdK (j := 7) C (aM_a W0) dX8_report_120 (by decide) (by decide) ?_
        exact ux_iretS C hr dX8_report_121 h (Nat.le_of_ble_eq_true rfl) (Nat.le_of_ble_eq_true rfl)
      rw [if_neg c7] at h
      by_cases c8 : p1 = 7
      · rw [if_pos c8] at h
        refine ux_tsIn (off := 99) (tgt := 122) C dX8_report_23 c8 (by decide) (by decide) (by decide) (by decide) ?_
        refine ux_aload_n C dX8_report_122 0 rfl ?_
        refine ux_get C fl_X8_7 dX8_report_123 (oM W0) rfl ?_
        refine ux_bipush (v := 8) C dX8_report_126 (by decide) ?_
        refine ux_ialdK (j := 8) C (aM_a W0) dX8_report_128 (by decide) (by decide) ?_
        exact ux_iretS C hr dX8_report_129 h (Nat.le_of_ble_eq_true rfl) (Nat.le_of_ble_eq_true rfl)
      rw [if_neg c8] at h
      cases h
set_option maxRecDepth 100000 in
set_option maxHeartbeats 4000000 in
theorem kX8_device {l : Launch} {V : uV} (W0 : uWM l V) {p1 : Int32} {p2 : Int32} {st : uSt} {r : Int32} {s9 : uSt} (h : fX8_device p1 p2 st = some (r, s9)) : uMet l V yX8_device cX8_device 4 (some .int) 3 70 0 0 [.ref (vA V 0), .int p1, .int p2] st (some (.int r)) s9 := by
  refine ux_met W0.1 W0.2.1 (by decide) rfl (Nat.le_of_ble_eq_true rfl) (fun M hL hr C => ?_)
  subst hL
  have C : uCx M V cX8_device 4 RX8 3 70 0 0 := C
  unfold fX8_device at h
  refine ux_aload_n C dX8_device_0 0 rfl ?_
  refine ux_iconst (v := 0) C dX8_device_1 (by decide) ?_
  refine ux_puti C fp_X8_49 dX8_device_2 (oM W0) (Nat.le_of_ble_eq_true rfl) rfl h (fun st_1 h => ?_)
  refine ux_aload_n C dX8_device_5 0 rfl ?_
  refine ux_aload_n C dX8_device_6 0 rfl ?_
  refine ux_iload_n C dX8_device_7 1 rfl ?_
  obtain ⟨x_2, h1, h⟩ := ob_some h
  refine ux_callVi C cv_X8_178 dX8_device_8 (oM W0) rfl (kX8_isDevice W0 h1) rfl (Nat.le_of_ble_eq_true rfl) ⟨(Nat.le_of_ble_eq_true rfl), (Nat.le_of_ble_eq_true rfl)⟩ ⟨(Nat.le_of_ble_eq_true rfl), (Nat.le_of_ble_eq_true rfl)⟩ ?_ rfl
  refine ux_iconst (v := 1) C dX8_device_11 (by decide) ?_
  obtain ⟨x_4, st_3, h1, h⟩ := obS_some h
  refine ux_callVi C cv_X8_55 dX8_device_12 (oM W0) rfl (kX8_may W0 h1) rfl (Nat.le_of_ble_eq_true rfl) ⟨(Nat.le_of_ble_eq_true rfl), (Nat.le_of_ble_eq_true rfl)⟩ ⟨(Nat.le_of_ble_eq_true rfl), (Nat.le_of_ble_eq_true rfl)⟩ ?_ rfl
  refine ux_if_eq C dX8_device_15 h (fun h => ?_) (fun h => ?_)
  · refine ux_iconst (v := 0) C dX8_device_33 (by decide) ?_
    exact ux_iretS C hr dX8_device_34 h (Nat.le_of_ble_eq_true rfl) (Nat.le_of_ble_eq_true rfl)
  · refine ux_aload_n C dX8_device_18 0 rfl ?_
    refine ux_iload_n C dX8_device_19 2 rfl ?_
    refine ux_iconst (v := 0) C dX8_device_20 (by decide) ?_
    refine ux_bipush (v := 6) C dX8_device_21 (by decide) ?_
    obtain ⟨x_5, h1, h⟩ := ob_some h
    refine ux_callSi C cs_X8_59 dX8_device_23 (kX8_isIn W0 h1) rfl (Nat.le_of_ble_eq_true rfl) ⟨(Nat.le_of_ble_eq_true rfl), (Nat.le_of_ble_eq_true rfl)⟩ ⟨(Nat.le_of_ble_eq_true rfl), (Nat.le_of_ble_eq_true rfl)⟩ ?_ rfl
    refine ux_iconst (v := 2) C dX8_device_26 (by decide) ?_
    obtain ⟨x_7, st_6, h1, h⟩ := obS_some h
    refine ux_callVi C cv_X8_55 dX8_device_27 (oM W0) rfl (kX8_may W0 h1) rfl (Nat.le_of_ble_eq_true rfl) ⟨(Nat.le_of_ble_eq_true rfl), (Nat.le_of_ble_eq_true rfl)⟩ ⟨(Nat.le_of_ble_eq_true rfl), (Nat.le_of_ble_eq_true rfl)⟩ ?_ rfl
    refine ux_if_ne C dX8_device_30 h (fun h => ?_) (fun h => ?_)
    · refine ux_iconst (v := 0) C dX8_device_33 (by decide) ?_
      exact ux_iretS C hr dX8_device_34 h (Nat.le_of_ble_eq_true rfl) (Nat.le_of_ble_eq_true rfl)
    · refine ux_iload_n C dX8_device_35 2 rfl ?_
      refine ux_iconst (v := 3) C dX8_device_36 (by decide) ?_
      refine ux_icmp_ge C dX8_device_37 h (fun h => ?_) (fun h => ?_)
      · refine ux_iload_n C dX8_device_54 2 rfl ?_
        refine ux_iconst (v := 3) C dX8_device_55 (by decide) ?_
        refine ux_icmp_ne C dX8_device_56 h (fun h => ?_) (fun h => ?_)
        · refine ux_aload_n C dX8_device_59 0 rfl ?_
          refine ux_iload_n C dX8_device_60 1 rfl ?_
          obtain ⟨x_8, h1, h⟩ := ob_some h
          refine ux_callVi C cv_X8_169 dX8_device_61 (oM W0) rfl (kX8_hasFailed W0 h1) rfl (Nat.le_of_ble_eq_true rfl) ⟨(Nat.le_of_ble_eq_true rfl), (Nat.le_of_ble_eq_true rfl)⟩ ⟨(Nat.le_of_ble_eq_true rfl), (Nat.le_of_ble_eq_true rfl)⟩ ?_ rfl
          refine ux_if_eq C dX8_device_64 h (fun h => ?_) (fun h => ?_)
          · refine ux_iconst (v := 0) C dX8_device_71 (by decide) ?_
            exact ux_iretS C hr dX8_device_72 h (Nat.le_of_ble_eq_true rfl) (Nat.le_of_ble_eq_true rfl)
          · refine ux_iconst (v := 1) C dX8_device_67 (by decide) ?_
            refine ux_goto C dX8_device_68 ?_
            exact ux_iretS C hr dX8_device_72 h (Nat.le_of_ble_eq_true rfl) (Nat.le_of_ble_eq_true rfl)
        · refine ux_aload_n C dX8_device_73 0 rfl ?_
          refine ux_iload_n C dX8_device_74 1 rfl ?_
          obtain ⟨x_9, h1, h⟩ := ob_some h
          refine ux_callVi C cv_X8_181 dX8_device_75 (oM W0) rfl (kX8_setOf W0 h1) rfl (Nat.le_of_ble_eq_true rfl) ⟨(Nat.le_of_ble_eq_true rfl), (Nat.le_of_ble_eq_true rfl)⟩ ⟨(Nat.le_of_ble_eq_true rfl), (Nat.le_of_ble_eq_true rfl)⟩ ?_ rfl
          refine ux_istoreK_n C dX8_device_78 rfl (by decide) ?_
          refine ux_iload_n C dX8_device_79 3 rfl ?_
          refine ux_iconst (v := 4) C dX8_device_80 (by decide) ?_
          refine ux_icmp_ne C dX8_device_81 h (fun h => ?_) (fun h => ?_)
          · refine ux_iload_n C dX8_device_84 0 rfl ?_
            obtain ⟨x_11, h1, h⟩ := ob_some h
            refine ux_callSi C cs_X8_184 dX8_device_85 (kX8_bits W0 h1) rfl (Nat.le_of_ble_eq_true rfl) ⟨(Nat.le_of_ble_eq_true rfl), (Nat.le_of_ble_eq_true rfl)⟩ ⟨(Nat.le_of_ble_eq_true rfl), (Nat.le_of_ble_eq_true rfl)⟩ ?_ rfl
            refine ux_goto C dX8_device_88 ?_
            exact ux_iretS C hr dX8_device_109 h (Nat.le_of_ble_eq_true rfl) (Nat.le_of_ble_eq_true rfl)
          · refine ux_iload_n C dX8_device_91 3 rfl ?_
            refine ux_iconst (v := 5) C dX8_device_92 (by decide) ?_
            refine ux_icmp_ne C dX8_device_93 h (fun h => ?_) (fun h => ?_)
            · refine ux_aload_n C dX8_device_96 1 rfl ?_
              refine ux_iload_n C dX8_device_97 0 rfl ?_
              obtain ⟨x_12, h1, h⟩ := ob_some h
              refine ux_callVi C cv_X8_187 dX8_device_98 (oM W0) rfl (kX8_valueIn W0 h1) rfl (Nat.le_of_ble_eq_true rfl) ⟨(Nat.le_of_ble_eq_true rfl), (Nat.le_of_ble_eq_true rfl)⟩ ⟨(Nat.le_of_ble_eq_true rfl), (Nat.le_of_ble_eq_true rfl)⟩ ?_ rfl
              refine ux_goto C dX8_device_101 ?_
              exact ux_iretS C hr dX8_device_109 h (Nat.le_of_ble_eq_true rfl) (Nat.le_of_ble_eq_true rfl)
            · refine ux_aload_n C dX8_device_104 1 rfl ?_
              refine ux_iload_n C dX8_device_105 0 rfl ?_
              obtain ⟨x_13, h1, h⟩ := ob_some h
              refine ux_callVi C cv_X8_175 dX8_device_106 (oM W0) rfl (kX8_energyIn W0 h1) rfl (Nat.le_of_ble_eq_true rfl) ⟨(Nat.le_of_ble_eq_true rfl), (Nat.le_of_ble_eq_true rfl)⟩ ⟨(Nat.le_of_ble_eq_true rfl), (Nat.le_of_ble_eq_true rfl)⟩ ?_ rfl
              exact ux_iretS C hr dX8_device_109 h (Nat.le_of_ble_eq_true rfl) (Nat.le_of_ble_eq_true rfl)
      · refine ux_aload_n C dX8_device_40 0 rfl ?_
        refine ux_get C fl_X8_7 dX8_device_41 (oM W0) rfl ?_
        refine ux_bipush (v := 10) C dX8_device_44 (by decide) ?_
        refine ux_iconst (v := 3) C dX8_device_46 (by decide) ?_
        refine ux_iload_n C dX8_device_47 1 rfl ?_
        refine ux_imul C dX8_device_48 ?_
        refine ux_iadd C dX8_device_49 ?_
        refine ux_iload_n C dX8_device_50 2 rfl ?_
        refine ux_iadd C dX8_device_51 ?_
        refine ux_iald C (aM_a W0) dX8_device_52 h (fun h => ?_)
        exact ux_iretS C hr dX8_device_53 h (Nat.le_of_ble_eq_true rfl) (Nat.le_of_ble_eq_true rfl)
set_option maxRecDepth 100000 in
set_option maxHeartbeats 4000000 in
theorem kX8_block {l : Launch} {V : uV} (W0 : uWM l V) {p1 : Int32} {p2 : Int32} {st : uSt} {r : Int32} {s9 : uSt} (h : fX8_block p1 p2 st = some (r, s9)) : uMet l V yX8_block cX8_block 3 (some .int) 2 43 0 0 [.ref (vA V 0), .int p1, .int p2] st (some (.int r)) s9 := by
  refine ux_met W0.1 W0.2.1 (by decide) rfl (Nat.le_of_ble_eq_true rfl) (fun M hL hr C => ?_)
  subst hL
  have C : uCx M V cX8_block 3 RX8 2 43 0 0 := C
  unfold fX8_block at h
  refine ux_aload_n C dX8_block_0 0 rfl ?_
  refine ux_iconst (v := 0) C dX8_block_1 (by decide) ?_
  refine ux_puti C fp_X8_49 dX8_block_2 (oM W0) (Nat.le_of_ble_eq_true rfl) rfl h (fun st_1 h => ?_)
  refine ux_aload_n C dX8_block_5 0 rfl ?_
  refine ux_aload_n C dX8_block_6 0 rfl ?_
  refine ux_iload_n C dX8_block_7 1 rfl ?_
  obtain ⟨x_2, h1, h⟩ := ob_some h
  refine ux_callVi C cv_X8_190 dX8_block_8 (oM W0) rfl (kX8_isBlock W0 h1) rfl (Nat.le_of_ble_eq_true rfl) ⟨(Nat.le_of_ble_eq_true rfl), (Nat.le_of_ble_eq_true rfl)⟩ ⟨(Nat.le_of_ble_eq_true rfl), (Nat.le_of_ble_eq_true rfl)⟩ ?_ rfl
  refine ux_iconst (v := 1) C dX8_block_11 (by decide) ?_
  obtain ⟨x_4, st_3, h1, h⟩ := obS_some h
  refine ux_callVi C cv_X8_55 dX8_block_12 (oM W0) rfl (kX8_may W0 h1) rfl (Nat.le_of_ble_eq_true rfl) ⟨(Nat.le_of_ble_eq_true rfl), (Nat.le_of_ble_eq_true rfl)⟩ ⟨(Nat.le_of_ble_eq_true rfl), (Nat.le_of_ble_eq_true rfl)⟩ ?_ rfl
  refine ux_if_eq C dX8_block_15 h (fun h => ?_) (fun h => ?_)
  · refine ux_iconst (v := 0) C dX8_block_32 (by decide) ?_
    exact ux_iretS C hr dX8_block_33 h (Nat.le_of_ble_eq_true rfl) (Nat.le_of_ble_eq_true rfl)
  · refine ux_aload_n C dX8_block_18 0 rfl ?_
    refine ux_iload_n C dX8_block_19 2 rfl ?_
    refine ux_iconst (v := 0) C dX8_block_20 (by decide) ?_
    refine ux_iconst (v := 3) C dX8_block_21 (by decide) ?_
    obtain ⟨x_5, h1, h⟩ := ob_some h
    refine ux_callSi C cs_X8_59 dX8_block_22 (kX8_isIn W0 h1) rfl (Nat.le_of_ble_eq_true rfl) ⟨(Nat.le_of_ble_eq_true rfl), (Nat.le_of_ble_eq_true rfl)⟩ ⟨(Nat.le_of_ble_eq_true rfl), (Nat.le_of_ble_eq_true rfl)⟩ ?_ rfl
    refine ux_iconst (v := 2) C dX8_block_25 (by decide) ?_
    obtain ⟨x_7, st_6, h1, h⟩ := obS_some h
    refine ux_callVi C cv_X8_55 dX8_block_26 (oM W0) rfl (kX8_may W0 h1) rfl (Nat.le_of_ble_eq_true rfl) ⟨(Nat.le_of_ble_eq_true rfl), (Nat.le_of_ble_eq_true rfl)⟩ ⟨(Nat.le_of_ble_eq_true rfl), (Nat.le_of_ble_eq_true rfl)⟩ ?_ rfl
    refine ux_if_ne C dX8_block_29 h (fun h => ?_) (fun h => ?_)
    · refine ux_iconst (v := 0) C dX8_block_32 (by decide) ?_
      exact ux_iretS C hr dX8_block_33 h (Nat.le_of_ble_eq_true rfl) (Nat.le_of_ble_eq_true rfl)
    · refine ux_iload_n C dX8_block_34 2 rfl ?_
      refine ux_if_ne C dX8_block_35 h (fun h => ?_) (fun h => ?_)
      · refine ux_aload_n C dX8_block_38 0 rfl ?_
        refine ux_iload_n C dX8_block_39 1 rfl ?_
        obtain ⟨x_8, h1, h⟩ := ob_some h
        refine ux_callVi C cv_X8_166 dX8_block_40 (oM W0) rfl (kX8_deviceOf W0 h1) rfl (Nat.le_of_ble_eq_true rfl) ⟨(Nat.le_of_ble_eq_true rfl), (Nat.le_of_ble_eq_true rfl)⟩ ⟨(Nat.le_of_ble_eq_true rfl), (Nat.le_of_ble_eq_true rfl)⟩ ?_ rfl
        refine ux_goto C dX8_block_43 ?_
        exact ux_iretS C hr dX8_block_91 h (Nat.le_of_ble_eq_true rfl) (Nat.le_of_ble_eq_true rfl)
      · refine ux_iload_n C dX8_block_46 2 rfl ?_
        refine ux_iconst (v := 1) C dX8_block_47 (by decide) ?_
        refine ux_icmp_ne C dX8_block_48 h (fun h => ?_) (fun h => ?_)
        · refine ux_aload_n C dX8_block_51 0 rfl ?_
          refine ux_iload_n C dX8_block_52 1 rfl ?_
          refine ux_iconst (v := 0) C dX8_block_53 (by decide) ?_
          obtain ⟨x_9, h1, h⟩ := ob_some h
          refine ux_callVi C cv_X8_160 dX8_block_54 (oM W0) rfl (kX8_of W0 h1) rfl (Nat.le_of_ble_eq_true rfl) ⟨(Nat.le_of_ble_eq_true rfl), (Nat.le_of_ble_eq_true rfl)⟩ ⟨(Nat.le_of_ble_eq_true rfl), (Nat.le_of_ble_eq_true rfl)⟩ ?_ rfl
          refine ux_bipush (v := 100) C dX8_block_57 (by decide) ?_
          refine ux_iremK C dX8_block_59 (by decide) ?_
          refine ux_goto C dX8_block_60 ?_
          exact ux_iretS C hr dX8_block_91 h (Nat.le_of_ble_eq_true rfl) (Nat.le_of_ble_eq_true rfl)
        · refine ux_iload_n C dX8_block_63 2 rfl ?_
          refine ux_iconst (v := 2) C dX8_block_64 (by decide) ?_
          refine ux_icmp_ne C dX8_block_65 h (fun h => ?_) (fun h => ?_)
          · refine ux_aload_n C dX8_block_68 0 rfl ?_
            refine ux_iload_n C dX8_block_69 1 rfl ?_
            refine ux_iconst (v := 1) C dX8_block_70 (by decide) ?_
            obtain ⟨x_10, h1, h⟩ := ob_some h
            refine ux_callVi C cv_X8_160 dX8_block_71 (oM W0) rfl (kX8_of W0 h1) rfl (Nat.le_of_ble_eq_true rfl) ⟨(Nat.le_of_ble_eq_true rfl), (Nat.le_of_ble_eq_true rfl)⟩ ⟨(Nat.le_of_ble_eq_true rfl), (Nat.le_of_ble_eq_true rfl)⟩ ?_ rfl
            refine ux_goto C dX8_block_74 ?_
            exact ux_iretS C hr dX8_block_91 h (Nat.le_of_ble_eq_true rfl) (Nat.le_of_ble_eq_true rfl)
          · refine ux_aload_n C dX8_block_77 0 rfl ?_
            refine ux_get C fl_X8_7 dX8_block_78 (oM W0) rfl ?_
            refine ux_bipush (v := 26) C dX8_block_81 (by decide) ?_
            refine ux_ialdK (j := 26) C (aM_a W0) dX8_block_83 (by decide) (by decide) ?_
            refine ux_aload_n C dX8_block_84 0 rfl ?_
            refine ux_iload_n C dX8_block_85 1 rfl ?_
            refine ux_iconst (v := 2) C dX8_block_86 (by decide) ?_
            obtain ⟨x_11, h1, h⟩ := ob_some h
            refine ux_callVi C cv_X8_160 dX8_block_87 (oM W0) rfl (kX8_of W0 h1) rfl (Nat.le_of_ble_eq_true rfl) ⟨(Nat.le_of_ble_eq_true rfl), (Nat.le_of_ble_eq_true rfl)⟩ ⟨(Nat.le_of_ble_eq_true rfl), (Nat.le_of_ble_eq_true rfl)⟩ ?_ rfl
            refine ux_isub C dX8_block_90 ?_
            exact ux_iretS C hr dX8_block_91 h (Nat.le_of_ble_eq_true rfl) (Nat.le_of_ble_eq_true rfl)
set_option maxRecDepth 100000 in
set_option maxHeartbeats 4000000 in
theorem kX8_isPlace {l : Launch} {V : uV} (W0 : uWM l V) {p1 : Int32} {p2 : Int32} {st : uSt} {r : Int32} (h : fX8_isPlace p1 p2 st = some r) : uMet l V yX8_isPlace cX8_isPlace 3 (some .boolean) 2 43 0 0 [.ref (vA V 0), .int p1, .int p2] st (some (.int r)) st := by
  refine ux_met W0.1 W0.2.1 (by decide) rfl (Nat.le_of_ble_eq_true rfl) (fun M hL hr C => ?_)
  subst hL
  have C : uCx M V cX8_isPlace 3 RX8 2 43 0 0 := C
  unfold fX8_isPlace at h
  refine ux_aload_n C dX8_isPlace_0 0 rfl ?_
  refine ux_iload_n C dX8_isPlace_1 1 rfl ?_
  obtain ⟨x_1, h1, h⟩ := ob_some h
  refine ux_callVi C cv_X8_178 dX8_isPlace_2 (oM W0) rfl (kX8_isDevice W0 h1) rfl (Nat.le_of_ble_eq_true rfl) ⟨(Nat.le_of_ble_eq_true rfl), (Nat.le_of_ble_eq_true rfl)⟩ ⟨(Nat.le_of_ble_eq_true rfl), (Nat.le_of_ble_eq_true rfl)⟩ ?_ rfl
  refine ux_if_eq C dX8_isPlace_5 h (fun h => ?_) (fun h => ?_)
  · refine ux_iconst (v := 0) C dX8_isPlace_22 (by decide) ?_
    exact ux_zretK C hr dX8_isPlace_23 (by decide) h (Nat.le_of_ble_eq_true rfl) (Nat.le_of_ble_eq_true rfl)
  · refine ux_iload_n C dX8_isPlace_8 2 rfl ?_
    refine ux_iconst (v := 0) C dX8_isPlace_9 (by decide) ?_
    refine ux_bipush (v := 99) C dX8_isPlace_10 (by decide) ?_
    obtain ⟨x_2, h1, h⟩ := ob_some h
    refine ux_callSi C cs_X8_59 dX8_isPlace_12 (kX8_isIn W0 h1) rfl (Nat.le_of_ble_eq_true rfl) ⟨(Nat.le_of_ble_eq_true rfl), (Nat.le_of_ble_eq_true rfl)⟩ ⟨(Nat.le_of_ble_eq_true rfl), (Nat.le_of_ble_eq_true rfl)⟩ ?_ rfl
    refine ux_if_eq C dX8_isPlace_15 h (fun h => ?_) (fun h => ?_)
    · refine ux_iconst (v := 0) C dX8_isPlace_22 (by decide) ?_
      exact ux_zretK C hr dX8_isPlace_23 (by decide) h (Nat.le_of_ble_eq_true rfl) (Nat.le_of_ble_eq_true rfl)
    · refine ux_iconst (v := 1) C dX8_isPlace_18 (by decide) ?_
      refine ux_goto C dX8_isPlace_19 ?_
      exact ux_zretK C hr dX8_isPlace_23 (by decide) h (Nat.le_of_ble_eq_true rfl) (Nat.le_of_ble_eq_true rfl)
set_option maxRecDepth 100000 in
set_option maxHeartbeats 4000000 in
theorem kX8_find {l : Launch} {V : uV} (W0 : uWM l V) {p1 : Int32} {p2 : Int32} {st : uSt} {r : Int32} {s9 : uSt} (h : fX8_find p1 p2 st = some (r, s9)) : uMet l V yX8_find cX8_find 4 (some .int) 3 65 0 0 [.ref (vA V 0), .int p1, .int p2] st (some (.int r)) s9 := by
  refine ux_met W0.1 W0.2.1 (by decide) rfl (Nat.le_of_ble_eq_true rfl) (fun M hL hr C => ?_)
  subst hL
  have C : uCx M V cX8_find 4 RX8 3 65 0 0 := C
  unfold fX8_find at h
  refine ux_aload_n C dX8_find_0 0 rfl ?_
  refine ux_iconst (v := 0) C dX8_find_1 (by decide) ?_
  refine ux_puti C fp_X8_49 dX8_find_2 (oM W0) (Nat.le_of_ble_eq_true rfl) rfl h (fun st_1 h => ?_)
  refine ux_aload_n C dX8_find_5 0 rfl ?_
  refine ux_aload_n C dX8_find_6 0 rfl ?_
  refine ux_iload_n C dX8_find_7 1 rfl ?_
  refine ux_iload_n C dX8_find_8 2 rfl ?_
  obtain ⟨x_2, h1, h⟩ := ob_some h
  refine ux_callVi C cv_X8_193 dX8_find_9 (oM W0) rfl (kX8_isPlace W0 h1) rfl (Nat.le_of_ble_eq_true rfl) ⟨(Nat.le_of_ble_eq_true rfl), (Nat.le_of_ble_eq_true rfl)⟩ ⟨(Nat.le_of_ble_eq_true rfl), (Nat.le_of_ble_eq_true rfl)⟩ ?_ rfl
  refine ux_iconst (v := 1) C dX8_find_12 (by decide) ?_
  obtain ⟨x_4, st_3, h1, h⟩ := obS_some h
  refine ux_callVi C cv_X8_55 dX8_find_13 (oM W0) rfl (kX8_may W0 h1) rfl (Nat.le_of_ble_eq_true rfl) ⟨(Nat.le_of_ble_eq_true rfl), (Nat.le_of_ble_eq_true rfl)⟩ ⟨(Nat.le_of_ble_eq_true rfl), (Nat.le_of_ble_eq_true rfl)⟩ ?_ rfl
  refine ux_if_ne C dX8_find_16 h (fun h => ?_) (fun h => ?_)
  · refine ux_iconst (v := 0) C dX8_find_19 (by decide) ?_
    exact ux_iretS C hr dX8_find_20 h (Nat.le_of_ble_eq_true rfl) (Nat.le_of_ble_eq_true rfl)
  · refine ux_aload_n C dX8_find_21 0 rfl ?_
    refine ux_iload_n C dX8_find_22 1 rfl ?_
    refine ux_iload_n C dX8_find_23 2 rfl ?_
    obtain ⟨x_5, h1, h⟩ := ob_some h
    refine ux_callVi C cv_X8_196 dX8_find_24 (oM W0) rfl (kX8_blockAt W0 h1) rfl (Nat.le_of_ble_eq_true rfl) ⟨(Nat.le_of_ble_eq_true rfl), (Nat.le_of_ble_eq_true rfl)⟩ ⟨(Nat.le_of_ble_eq_true rfl), (Nat.le_of_ble_eq_true rfl)⟩ ?_ rfl
    refine ux_istoreK_n C dX8_find_27 rfl (by decide) ?_
    refine ux_aload_n C dX8_find_28 1 rfl ?_
    refine ux_iload_n C dX8_find_29 0 rfl ?_
    refine ux_iconst (v := (-1)) C dX8_find_30 (by decide) ?_
    obtain ⟨j_7, hK_7, h⟩ := oj1_some h
    have hJ_7 : ∀ (v_8 : Int32), j_7 v_8 = some (r, s9) → uW M V (uEnd M V 0 0 (some (.int r)) s9) 4 0 0 39 [(3, .int x_5)] [.int v_8, .ref (vA V 0)] st_3 := by
      intro v_8 h
      replace h := hK_7 v_8 h
      refine ux_iconst (v := 2) C dX8_find_39 (by decide) ?_
      obtain ⟨x_10, st_9, h1, h⟩ := obS_some h
      refine ux_callVi C cv_X8_55 dX8_find_40 (oM W0) rfl (kX8_may W0 h1) rfl (Nat.le_of_ble_eq_true rfl) ⟨(Nat.le_of_ble_eq_true rfl), (Nat.le_of_ble_eq_true rfl)⟩ ⟨(Nat.le_of_ble_eq_true rfl), (Nat.le_of_ble_eq_true rfl)⟩ ?_ rfl
      refine ux_if_eq C dX8_find_43 h (fun h => ?_) (fun h => ?_)
      · refine ux_iconst (v := 0) C dX8_find_50 (by decide) ?_
        exact ux_iretS C hr dX8_find_51 h (Nat.le_of_ble_eq_true rfl) (Nat.le_of_ble_eq_true rfl)
      · refine ux_iload_n C dX8_find_46 0 rfl ?_
        refine ux_goto C dX8_find_47 ?_
        exact ux_iretS C hr dX8_find_51 h (Nat.le_of_ble_eq_true rfl) (Nat.le_of_ble_eq_true rfl)
    refine ux_icmp_eq C dX8_find_31 h (fun h => ?_) (fun h => ?_)
    · refine ux_iconst (v := 0) C dX8_find_38 (by decide) ?_
      refine ux_sub [0] rfl ?_
      exact hJ_7 (0 : Int32) h
    · refine ux_iconst (v := 1) C dX8_find_34 (by decide) ?_
      refine ux_goto C dX8_find_35 ?_
      refine ux_sub [0] rfl ?_
      exact hJ_7 (1 : Int32) h
set_option maxRecDepth 100000 in
set_option maxHeartbeats 4000000 in
theorem wX8_oldest_34 {M : uM} {V : uV} (W0 : uWM (mL M) V) (C : uCx M V cX8_oldest 3 RX8 1 22 0 0) (hr : (mT M).sig.returnType = (some .int)) {st : uSt} {r : Int32} {s9 : uSt} {ke : Int32 → Option (Int32 × uSt)} (K : ∀ (l1 : Int32), ke l1 = some (r, s9) → uW M V (uEnd M V 0 0 (some (.int r)) s9) 3 0 0 72 [(1, .int l1)] [] st) : ∀ (n : Nat) (l1 : Int32) (l2 : Int32), fX8_oldest_34 st ke n l1 l2 = some (r, s9) → uW M V (uEnd M V 0 0 (some (.int r)) s9) 3 0 0 34 [(0, .ref (vA V 0)), (1, .int l1), (2, .int l2)] [] st := by
  intro n
  induction n with
  | zero =>
    intro l1 l2 h
    rw [fX8_oldest_34] at h
    cases h
  | succ n ih =>
    intro l1 l2 h
    rw [fX8_oldest_34] at h
    refine ux_iload_n C dX8_oldest_34 2 rfl ?_
    refine ux_aload_n C dX8_oldest_35 0 rfl ?_
    refine ux_get C fl_X8_7 dX8_oldest_36 (oM W0) rfl ?_
    refine ux_bipush (v := 36) C dX8_oldest_39 (by decide) ?_
    refine ux_ialdK (j := 36) C (aM_a W0) dX8_oldest_41 (by decide) (by decide) ?_
    refine ux_icmp_ge C dX8_oldest_42 h (fun h => ?_) (fun h => ?_)
    · refine ux_sub [1] rfl ?_
      exact K l1 h
    · refine ux_aload_n C dX8_oldest_45 0 rfl ?_
      refine ux_iload_n C dX8_oldest_46 2 rfl ?_
      refine ux_iconst (v := 2) C dX8_oldest_47 (by decide) ?_
      obtain ⟨x_8, h1, h⟩ := ob_some h
      refine ux_callVi C cv_X8_160 dX8_oldest_48 (oM W0) rfl (kX8_of W0 h1) rfl (Nat.le_of_ble_eq_true rfl) ⟨(Nat.le_of_ble_eq_true rfl), (Nat.le_of_ble_eq_true rfl)⟩ ⟨(Nat.le_of_ble_eq_true rfl), (Nat.le_of_ble_eq_true rfl)⟩ ?_ rfl
      refine ux_aload_n C dX8_oldest_51 0 rfl ?_
      refine ux_iload_n C dX8_oldest_52 1 rfl ?_
      refine ux_iconst (v := 2) C dX8_oldest_53 (by decide) ?_
      obtain ⟨x_9, h1, h⟩ := ob_some h
      refine ux_callVi C cv_X8_160 dX8_oldest_54 (oM W0) rfl (kX8_of W0 h1) rfl (Nat.le_of_ble_eq_true rfl) ⟨(Nat.le_of_ble_eq_true rfl), (Nat.le_of_ble_eq_true rfl)⟩ ⟨(Nat.le_of_ble_eq_true rfl), (Nat.le_of_ble_eq_true rfl)⟩ ?_ rfl
      obtain ⟨j_10, hK_10, h⟩ := oj1_some h
      have hJ_10 : ∀ (v_11 : Int32), j_10 v_11 = some (r, s9) → uW M V (uEnd M V 0 0 (some (.int r)) s9) 3 0 0 65 [(0, .ref (vA V 0)), (2, .int l2)] [.int v_11] st := by
        intro v_11 h
        replace h := hK_10 v_11 h
        refine ux_istoreK_n C dX8_oldest_65 rfl (by decide) ?_
        refine ux_iincK C dX8_oldest_66 (by decide) 2 rfl (fun z => [(2, .int z), (1, .int v_11), (0, .ref (vA V 0))]) (fun _ => rfl) (by decide) h (fun l2_13 h => ?_)
        refine ux_goto C dX8_oldest_69 ?_
        refine ux_sub [2, 1, 0] rfl ?_
        exact ih _ _ h
      refine ux_icmp_ge C dX8_oldest_57 h (fun h => ?_) (fun h => ?_)
      · refine ux_iload_n C dX8_oldest_64 1 rfl ?_
        refine ux_sub [0, 2] rfl ?_
        exact hJ_10 l1 h
      · refine ux_iload_n C dX8_oldest_60 2 rfl ?_
        refine ux_goto C dX8_oldest_61 ?_
        refine ux_sub [0, 2] rfl ?_
        exact hJ_10 l2 h
set_option maxRecDepth 100000 in
set_option maxHeartbeats 4000000 in
theorem kX8_oldest {l : Launch} {V : uV} (W0 : uWM l V) {st : uSt} {r : Int32} {s9 : uSt} (h : fX8_oldest st = some (r, s9)) : uMet l V yX8_oldest cX8_oldest 3 (some .int) 1 22 0 0 [.ref (vA V 0)] st (some (.int r)) s9 := by
  refine ux_met W0.1 W0.2.1 (by decide) rfl (Nat.le_of_ble_eq_true rfl) (fun M hL hr C => ?_)
  subst hL
  have C : uCx M V cX8_oldest 3 RX8 1 22 0 0 := C
  unfold fX8_oldest at h
  refine ux_aload_n C dX8_oldest_0 0 rfl ?_
  refine ux_iconst (v := 0) C dX8_oldest_1 (by decide) ?_
  refine ux_puti C fp_X8_49 dX8_oldest_2 (oM W0) (Nat.le_of_ble_eq_true rfl) rfl h (fun st_1 h => ?_)
  refine ux_aload_n C dX8_oldest_5 0 rfl ?_
  refine ux_aload_n C dX8_oldest_6 0 rfl ?_
  refine ux_get C fl_X8_7 dX8_oldest_7 (oM W0) rfl ?_
  refine ux_bipush (v := 36) C dX8_oldest_10 (by decide) ?_
  refine ux_ialdK (j := 36) C (aM_a W0) dX8_oldest_12 (by decide) (by decide) ?_
  obtain ⟨j_2, hK_2, h⟩ := oj1_some h
  have hJ_2 : ∀ (v_3 : Int32), j_2 v_3 = some (r, s9) → uW M V (uEnd M V 0 0 (some (.int r)) s9) 3 0 0 21 [(0, .ref (vA V 0))] [.int v_3, .ref (vA V 0)] st_1 := by
    intro v_3 h
    replace h := hK_2 v_3 h
    refine ux_iconst (v := 1) C dX8_oldest_21 (by decide) ?_
    obtain ⟨x_5, st_4, h1, h⟩ := obS_some h
    refine ux_callVi C cv_X8_55 dX8_oldest_22 (oM W0) rfl (kX8_may W0 h1) rfl (Nat.le_of_ble_eq_true rfl) ⟨(Nat.le_of_ble_eq_true rfl), (Nat.le_of_ble_eq_true rfl)⟩ ⟨(Nat.le_of_ble_eq_true rfl), (Nat.le_of_ble_eq_true rfl)⟩ ?_ rfl
    refine ux_if_ne C dX8_oldest_25 h (fun h => ?_) (fun h => ?_)
    · refine ux_iconst (v := 0) C dX8_oldest_28 (by decide) ?_
      exact ux_iretS C hr dX8_oldest_29 h (Nat.le_of_ble_eq_true rfl) (Nat.le_of_ble_eq_true rfl)
    · refine ux_iconst (v := 0) C dX8_oldest_30 (by decide) ?_
      refine ux_istoreK_n C dX8_oldest_31 rfl (by decide) ?_
      refine ux_iconst (v := 1) C dX8_oldest_32 (by decide) ?_
      refine ux_istoreK_n C dX8_oldest_33 rfl (by decide) ?_
      refine ux_sub [2, 1, 0] rfl ?_
      refine wX8_oldest_34 W0 C hr (fun l1_14 h => ?_) _ _ _ h
      refine ux_iload_n C dX8_oldest_72 0 rfl ?_
      exact ux_iretS C hr dX8_oldest_73 h (Nat.le_of_ble_eq_true rfl) (Nat.le_of_ble_eq_true rfl)
  refine ux_if_le C dX8_oldest_13 h (fun h => ?_) (fun h => ?_)
  · refine ux_iconst (v := 0) C dX8_oldest_20 (by decide) ?_
    exact hJ_2 (0 : Int32) h
  · refine ux_iconst (v := 1) C dX8_oldest_16 (by decide) ?_
    refine ux_goto C dX8_oldest_17 ?_
    exact hJ_2 (1 : Int32) h
set_option maxRecDepth 100000 in
set_option maxHeartbeats 4000000 in
theorem kX8_total {l : Launch} {V : uV} (W0 : uWM l V) {p1 : Int32} {st : uSt} {r : Int32} {s9 : uSt} (h : fX8_total p1 st = some (r, s9)) : uMet l V yX8_total cX8_total 2 (some .int) 1 22 0 0 [.ref (vA V 0), .int p1] st (some (.int r)) s9 := by
  refine ux_met W0.1 W0.2.1 (by decide) rfl (Nat.le_of_ble_eq_true rfl) (fun M hL hr C => ?_)
  subst hL
  have C : uCx M V cX8_total 2 RX8 1 22 0 0 := C
  unfold fX8_total at h
  refine ux_aload_n C dX8_total_0 0 rfl ?_
  refine ux_iconst (v := 0) C dX8_total_1 (by decide) ?_
  refine ux_puti C fp_X8_49 dX8_total_2 (oM W0) (Nat.le_of_ble_eq_true rfl) rfl h (fun st_1 h => ?_)
  refine ux_aload_n C dX8_total_5 0 rfl ?_
  refine ux_iload_n C dX8_total_6 1 rfl ?_
  refine ux_iconst (v := 0) C dX8_total_7 (by decide) ?_
  refine ux_bipush (v := 6) C dX8_total_8 (by decide) ?_
  obtain ⟨x_2, h1, h⟩ := ob_some h
  refine ux_callSi C cs_X8_59 dX8_total_10 (kX8_isIn W0 h1) rfl (Nat.le_of_ble_eq_true rfl) ⟨(Nat.le_of_ble_eq_true rfl), (Nat.le_of_ble_eq_true rfl)⟩ ⟨(Nat.le_of_ble_eq_true rfl), (Nat.le_of_ble_eq_true rfl)⟩ ?_ rfl
  refine ux_iconst (v := 1) C dX8_total_13 (by decide) ?_
  obtain ⟨x_4, st_3, h1, h⟩ := obS_some h
  refine ux_callVi C cv_X8_55 dX8_total_14 (oM W0) rfl (kX8_may W0 h1) rfl (Nat.le_of_ble_eq_true rfl) ⟨(Nat.le_of_ble_eq_true rfl), (Nat.le_of_ble_eq_true rfl)⟩ ⟨(Nat.le_of_ble_eq_true rfl), (Nat.le_of_ble_eq_true rfl)⟩ ?_ rfl
  refine ux_if_eq C dX8_total_17 h (fun h => ?_) (fun h => ?_)
  · refine ux_iconst (v := 0) C dX8_total_32 (by decide) ?_
    exact ux_iretS C hr dX8_total_33 h (Nat.le_of_ble_eq_true rfl) (Nat.le_of_ble_eq_true rfl)
  · refine ux_aload_n C dX8_total_20 0 rfl ?_
    refine ux_get C fl_X8_7 dX8_total_21 (oM W0) rfl ?_
    refine ux_bipush (v := 29) C dX8_total_24 (by decide) ?_
    refine ux_iload_n C dX8_total_26 1 rfl ?_
    refine ux_iadd C dX8_total_27 ?_
    refine ux_iald C (aM_a W0) dX8_total_28 h (fun h => ?_)
    refine ux_goto C dX8_total_29 ?_
    exact ux_iretS C hr dX8_total_33 h (Nat.le_of_ble_eq_true rfl) (Nat.le_of_ble_eq_true rfl)
set_option maxRecDepth 100000 in
set_option maxHeartbeats 4000000 in
theorem wX8_isGuarded_4 {M : uM} {V : uV} (W0 : uWM (mL M) V) (C : uCx M V cX8_isGuarded 4 RX8 3 70 0 0) (hr : (mT M).sig.returnType = (some .boolean)) {st : uSt} {r : Int32} {ke : Int32 → Option Int32} (K : ∀ (l1 : Int32), ke l1 = some r → uW M V (uEnd M V 0 0 (some (.int r)) st) 4 0 0 80 [(0, .ref (vA V 0)), (1, .int l1)] [] st) : ∀ (n : Nat) (l1 : Int32) (l2 : Int32), fX8_isGuarded_4 st ke n l1 l2 = some r → uW M V (uEnd M V 0 0 (some (.int r)) st) 4 0 0 4 [(0, .ref (vA V 0)), (1, .int l1), (2, .int l2)] [] st := by
  intro n
  induction n with
  | zero =>
    intro l1 l2 h
    rw [fX8_isGuarded_4] at h
    cases h
  | succ n ih =>
    intro l1 l2 h
    rw [fX8_isGuarded_4] at h
    refine ux_iload_n C dX8_isGuarded_4 2 rfl ?_
    refine ux_aload_n C dX8_isGuarded_5 0 rfl ?_
    refine ux_get C fl_X8_7 dX8_isGuarded_6 (oM W0) rfl ?_
    refine ux_bipush (v := 36) C dX8_isGuarded_9 (by decide) ?_
    refine ux_ialdK (j := 36) C (aM_a W0) dX8_isGuarded_11 (by decide) (by decide) ?_
    refine ux_icmp_ge C dX8_isGuarded_12 h (fun h => ?_) (fun h => ?_)
    · refine ux_sub [0, 1] rfl ?_
      exact K l1 h
    · refine ux_aload_n C dX8_isGuarded_15 0 rfl ?_
      refine ux_aload_n C dX8_isGuarded_16 0 rfl ?_
      refine ux_iload_n C dX8_isGuarded_17 2 rfl ?_
      obtain ⟨x_3, h1, h⟩ := ob_some h
      refine ux_callVi C cv_X8_166 dX8_isGuarded_18 (oM W0) rfl (kX8_deviceOf W0 h1) rfl (Nat.le_of_ble_eq_true rfl) ⟨(Nat.le_of_ble_eq_true rfl), (Nat.le_of_ble_eq_true rfl)⟩ ⟨(Nat.le_of_ble_eq_true rfl), (Nat.le_of_ble_eq_true rfl)⟩ ?_ rfl
      obtain ⟨x_4, h1, h⟩ := ob_some h
      refine ux_callVi C cv_X8_169 dX8_isGuarded_21 (oM W0) rfl (kX8_hasFailed W0 h1) rfl (Nat.le_of_ble_eq_true rfl) ⟨(Nat.le_of_ble_eq_true rfl), (Nat.le_of_ble_eq_true rfl)⟩ ⟨(Nat.le_of_ble_eq_true rfl), (Nat.le_of_ble_eq_true rfl)⟩ ?_ rfl
      obtain ⟨j_5, hK_5, h⟩ := oj1_some h
      have hJ_5 : ∀ (v_6 : Int32), j_5 v_6 = some r → uW M V (uEnd M V 0 0 (some (.int r)) st) 4 0 0 59 [(0, .ref (vA V 0)), (1, .int l1), (2, .int l2)] [.int v_6] st := by
        intro v_6 h
        replace h := hK_5 v_6 h
        refine ux_istoreK_n C dX8_isGuarded_59 rfl (by decide) ?_
        refine ux_iload_n C dX8_isGuarded_60 2 rfl ?_
        refine ux_iload_n C dX8_isGuarded_61 0 rfl ?_
        obtain ⟨j_8, hK_8, h⟩ := oj1_some h
        have hJ_8 : ∀ (v_9 : Int32), j_8 v_9 = some r → uW M V (uEnd M V 0 0 (some (.int r)) st) 4 0 0 72 [(0, .ref (vA V 0)), (2, .int l2)] [.int v_9, .int l1] st := by
          intro v_9 h
          replace h := hK_8 v_9 h
          refine ux_ior C dX8_isGuarded_72 ?_
          refine ux_istore_n C dX8_isGuarded_73 (fun z => [(1, .int z), (0, .ref (vA V 0)), (2, .int l2)]) (fun _ => rfl) (by decide) h (fun l1_10 h => ?_)
          refine ux_iincK C dX8_isGuarded_74 (by decide) 2 rfl (fun z => [(2, .int z), (1, .int l1_10), (0, .ref (vA V 0))]) (fun _ => rfl) (by decide) h (fun l2_11 h => ?_)
          refine ux_goto C dX8_isGuarded_77 ?_
          refine ux_sub [2, 1, 0] rfl ?_
          exact ih _ _ h
        refine ux_if_eq C dX8_isGuarded_62 h (fun h => ?_) (fun h => ?_)
        · refine ux_iconst (v := 0) C dX8_isGuarded_71 (by decide) ?_
          refine ux_sub [1, 3] rfl ?_
          exact hJ_8 (0 : Int32) h
        · refine ux_iconst (v := 1) C dX8_isGuarded_65 (by decide) ?_
          refine ux_iload_n C dX8_isGuarded_66 3 rfl ?_
          refine ux_ishl C dX8_isGuarded_67 ?_
          refine ux_goto C dX8_isGuarded_68 ?_
          refine ux_sub [1, 3] rfl ?_
          exact hJ_8 ((1 : Int32) <<< (l2 &&& 31)) h
      obtain ⟨j_12, hK_12, h⟩ := oj0_some h
      have hJ_12 : j_12 = some r → uW M V (uEnd M V 0 0 (some (.int r)) st) 4 0 0 58 [(0, .ref (vA V 0)), (1, .int l1), (2, .int l2)] [] st := by
        intro h
        replace h := hK_12 h
        refine ux_iconst (v := 0) C dX8_isGuarded_58 (by decide) ?_
        exact hJ_5 (0 : Int32) h
      refine ux_if_ne C dX8_isGuarded_24 h (fun h => ?_) (fun h => ?_)
      · refine ux_aload_n C dX8_isGuarded_27 0 rfl ?_
        refine ux_get C fl_X8_7 dX8_isGuarded_28 (oM W0) rfl ?_
        refine ux_bipush (v := 7) C dX8_isGuarded_31 (by decide) ?_
        refine ux_ialdK (j := 7) C (aM_a W0) dX8_isGuarded_33 (by decide) (by decide) ?_
        refine ux_iconst (v := 1) C dX8_isGuarded_34 (by decide) ?_
        refine ux_icmp_ne C dX8_isGuarded_35 h (fun h => ?_) (fun h => ?_)
        · refine ux_aload_n C dX8_isGuarded_38 0 rfl ?_
          refine ux_iload_n C dX8_isGuarded_39 2 rfl ?_
          refine ux_iconst (v := 1) C dX8_isGuarded_40 (by decide) ?_
          obtain ⟨x_13, h1, h⟩ := ob_some h
          refine ux_callVi C cv_X8_160 dX8_isGuarded_41 (oM W0) rfl (kX8_of W0 h1) rfl (Nat.le_of_ble_eq_true rfl) ⟨(Nat.le_of_ble_eq_true rfl), (Nat.le_of_ble_eq_true rfl)⟩ ⟨(Nat.le_of_ble_eq_true rfl), (Nat.le_of_ble_eq_true rfl)⟩ ?_ rfl
          refine ux_aload_n C dX8_isGuarded_44 0 rfl ?_
          refine ux_get C fl_X8_7 dX8_isGuarded_45 (oM W0) rfl ?_
          refine ux_bipush (v := 8) C dX8_isGuarded_48 (by decide) ?_
          refine ux_ialdK (j := 8) C (aM_a W0) dX8_isGuarded_50 (by decide) (by decide) ?_
          refine ux_icmp_lt C dX8_isGuarded_51 h (fun h => ?_) (fun h => ?_)
          · exact hJ_12 h
          · refine ux_iconst (v := 1) C dX8_isGuarded_54 (by decide) ?_
            refine ux_goto C dX8_isGuarded_55 ?_
            exact hJ_5 (1 : Int32) h
        · refine ux_iconst (v := 1) C dX8_isGuarded_54 (by decide) ?_
          refine ux_goto C dX8_isGuarded_55 ?_
          exact hJ_5 (1 : Int32) h
      · exact hJ_12 h
set_option maxRecDepth 100000 in
set_option maxHeartbeats 4000000 in
theorem kX8_isGuarded {l : Launch} {V : uV} (W0 : uWM l V) {st : uSt} {r : Int32} (h : fX8_isGuarded st = some r) : uMet l V yX8_isGuarded cX8_isGuarded 4 (some .boolean) 3 70 0 0 [.ref (vA V 0)] st (some (.int r)) st := by
  refine ux_met W0.1 W0.2.1 (by decide) rfl (Nat.le_of_ble_eq_true rfl) (fun M hL hr C => ?_)
  subst hL
  have C : uCx M V cX8_isGuarded 4 RX8 3 70 0 0 := C
  unfold fX8_isGuarded at h
  refine ux_iconst (v := 0) C dX8_isGuarded_0 (by decide) ?_
  refine ux_istoreK_n C dX8_isGuarded_1 rfl (by decide) ?_
  refine ux_iconst (v := 0) C dX8_isGuarded_2 (by decide) ?_
  refine ux_istoreK_n C dX8_isGuarded_3 rfl (by decide) ?_
  refine ux_sub [2, 1, 0] rfl ?_
  refine wX8_isGuarded_4 W0 C hr (fun l1_14 h => ?_) _ _ _ h
  refine ux_aload_n C dX8_isGuarded_80 0 rfl ?_
  refine ux_iload_n C dX8_isGuarded_81 1 rfl ?_
  obtain ⟨x_15, h1, h⟩ := ob_some h
  refine ux_callVi C cv_X8_175 dX8_isGuarded_82 (oM W0) rfl (kX8_energyIn W0 h1) rfl (Nat.le_of_ble_eq_true rfl) ⟨(Nat.le_of_ble_eq_true rfl), (Nat.le_of_ble_eq_true rfl)⟩ ⟨(Nat.le_of_ble_eq_true rfl), (Nat.le_of_ble_eq_true rfl)⟩ ?_ rfl
  refine ux_aload_n C dX8_isGuarded_85 0 rfl ?_
  refine ux_get C fl_X8_7 dX8_isGuarded_86 (oM W0) rfl ?_
  refine ux_iconst (v := 1) C dX8_isGuarded_89 (by decide) ?_
  refine ux_ialdK (j := 1) C (aM_a W0) dX8_isGuarded_90 (by decide) (by decide) ?_
  refine ux_aload_n C dX8_isGuarded_91 0 rfl ?_
  refine ux_get C fl_X8_7 dX8_isGuarded_92 (oM W0) rfl ?_
  refine ux_iconst (v := 5) C dX8_isGuarded_95 (by decide) ?_
  refine ux_ialdK (j := 5) C (aM_a W0) dX8_isGuarded_96 (by decide) (by decide) ?_
  refine ux_isub C dX8_isGuarded_97 ?_
  refine ux_icmp_gt C dX8_isGuarded_98 h (fun h => ?_) (fun h => ?_)
  · refine ux_iconst (v := 0) C dX8_isGuarded_105 (by decide) ?_
    exact ux_zretK C hr dX8_isGuarded_106 (by decide) h (Nat.le_of_ble_eq_true rfl) (Nat.le_of_ble_eq_true rfl)
  · refine ux_iconst (v := 1) C dX8_isGuarded_101 (by decide) ?_
    refine ux_goto C dX8_isGuarded_102 ?_
    exact ux_zretK C hr dX8_isGuarded_106 (by decide) h (Nat.le_of_ble_eq_true rfl) (Nat.le_of_ble_eq_true rfl)
set_option maxRecDepth 100000 in
set_option maxHeartbeats 4000000 in
theorem kX8_lays {l : Launch} {V : uV} (W0 : uWM l V) {p1 : Int32} {p2 : Int32} {p3 : Int32} {st : uSt} {r : Int32} {s9 : uSt} (h : fX8_lays p1 p2 p3 st = some (r, s9)) : uMet l V yX8_lays cX8_lays 6 (some .boolean) 4 93 0 0 [.ref (vA V 0), .int p1, .int p2, .int p3] st (some (.int r)) s9 := by
  refine ux_met W0.1 W0.2.1 (by decide) rfl (Nat.le_of_ble_eq_true rfl) (fun M hL hr C => ?_)
  subst hL
  have C : uCx M V cX8_lays 6 RX8 4 93 0 0 := C
  unfold fX8_lays at h
  refine ux_aload_n C dX8_lays_0 0 rfl ?_
  refine ux_iload_n C dX8_lays_1 1 rfl ?_
  refine ux_iload_n C dX8_lays_2 2 rfl ?_
  obtain ⟨x_1, h1, h⟩ := ob_some h
  refine ux_callVi C cv_X8_196 dX8_lays_3 (oM W0) rfl (kX8_blockAt W0 h1) rfl (Nat.le_of_ble_eq_true rfl) ⟨(Nat.le_of_ble_eq_true rfl), (Nat.le_of_ble_eq_true rfl)⟩ ⟨(Nat.le_of_ble_eq_true rfl), (Nat.le_of_ble_eq_true rfl)⟩ ?_ rfl
  refine ux_istoreK C dX8_lays_6 rfl (by decide) ?_
  refine ux_aload_n C dX8_lays_8 1 rfl ?_
  refine ux_get C fl_X8_7 dX8_lays_9 (oM W0) rfl ?_
  refine ux_bipush (v := 7) C dX8_lays_12 (by decide) ?_
  refine ux_ialdK (j := 7) C (aM_a W0) dX8_lays_14 (by decide) (by decide) ?_
  refine ux_iconst (v := 2) C dX8_lays_15 (by decide) ?_
  refine ux_icmp_eq C dX8_lays_16 h (fun h => ?_) (fun h => ?_)
  · refine ux_iconst (v := 0) C dX8_lays_42 (by decide) ?_
    exact ux_zretSK C hr dX8_lays_43 (by decide) h (Nat.le_of_ble_eq_true rfl) (Nat.le_of_ble_eq_true rfl)
  · refine ux_iload C dX8_lays_19 0 rfl ?_
    refine ux_iconst (v := (-1)) C dX8_lays_21 (by decide) ?_
    obtain ⟨j_3, hK_3, h⟩ := oj0_some h
    have hJ_3 : j_3 = some (r, s9) → uW M V (uEnd M V 0 0 (some (.int r)) s9) 6 0 0 44 [(0, .ref (vA V 0)), (1, .int p1), (2, .int p2), (3, .int p3), (4, .int x_1)] [] st := by
      intro h
      replace h := hK_3 h
      refine ux_iload C dX8_lays_44 4 rfl ?_
      refine ux_iconst (v := (-1)) C dX8_lays_46 (by decide) ?_
      obtain ⟨j_4, hK_4, h⟩ := oj1_some h
      have hJ_4 : ∀ (v_5 : Int32), j_4 v_5 = some (r, s9) → uW M V (uEnd M V 0 0 (some (.int r)) s9) 6 0 0 61 [(0, .ref (vA V 0)), (1, .int p1), (2, .int p2), (3, .int p3), (4, .int x_1)] [.int v_5] st := by
        intro v_5 h
        replace h := hK_4 v_5 h
        refine ux_istoreK C dX8_lays_61 rfl (by decide) ?_
        refine ux_iload C dX8_lays_63 5 rfl ?_
        refine ux_iconst (v := (-1)) C dX8_lays_65 (by decide) ?_
        obtain ⟨j_7, hK_7, h⟩ := oj1_some h
        have hJ_7 : ∀ (st_8 : uSt), j_7 st_8 = some (r, s9) → uW M V (uEnd M V 0 0 (some (.int r)) s9) 6 0 0 94 [(0, .ref (vA V 0)), (1, .int p1), (2, .int p2), (4, .int x_1), (5, .int v_5)] [] st_8 := by
          intro st_8 h
          replace h := hK_7 st_8 h
          refine ux_aload_n C dX8_lays_94 0 rfl ?_
          obtain ⟨x_9, h1, h⟩ := ob_some h
          refine ux_callVi C cv_X8_203 dX8_lays_95 (oM W0) rfl (kX8_isGuarded W0 h1) rfl (Nat.le_of_ble_eq_true rfl) ⟨(Nat.le_of_ble_eq_true rfl), (Nat.le_of_ble_eq_true rfl)⟩ ⟨(Nat.le_of_ble_eq_true rfl), (Nat.le_of_ble_eq_true rfl)⟩ ?_ rfl
          refine ux_if_eq C dX8_lays_98 h (fun h => ?_) (fun h => ?_)
          · refine ux_iload C dX8_lays_103 3 rfl ?_
            refine ux_iconst (v := (-1)) C dX8_lays_105 (by decide) ?_
            refine ux_icmp_ne C dX8_lays_106 h (fun h => ?_) (fun h => ?_)
            · refine ux_aload_n C dX8_lays_109 0 rfl ?_
              refine ux_aload_n C dX8_lays_110 0 rfl ?_
              refine ux_iload_n C dX8_lays_111 1 rfl ?_
              refine ux_iload_n C dX8_lays_112 2 rfl ?_
              obtain ⟨x_10, h1, h⟩ := ob_some h
              refine ux_callVi C cv_X8_196 dX8_lays_113 (oM W0) rfl (kX8_blockAt W0 h1) rfl (Nat.le_of_ble_eq_true rfl) ⟨(Nat.le_of_ble_eq_true rfl), (Nat.le_of_ble_eq_true rfl)⟩ ⟨(Nat.le_of_ble_eq_true rfl), (Nat.le_of_ble_eq_true rfl)⟩ ?_ rfl
              obtain ⟨st_11, h1, h⟩ := obV_some h
              refine ux_callVv C cv_X8_163 dX8_lays_116 (oM W0) rfl (kX8_goes W0 h1) rfl (Nat.le_of_ble_eq_true rfl) ⟨(Nat.le_of_ble_eq_true rfl), (Nat.le_of_ble_eq_true rfl)⟩ ⟨(Nat.le_of_ble_eq_true rfl), (Nat.le_of_ble_eq_true rfl)⟩ ?_ rfl
              refine ux_goto C dX8_lays_119 ?_
              refine ux_iconst (v := 0) C dX8_lays_138 (by decide) ?_
              exact ux_zretSK C hr dX8_lays_139 (by decide) h (Nat.le_of_ble_eq_true rfl) (Nat.le_of_ble_eq_true rfl)
            · refine ux_aload_n C dX8_lays_122 0 rfl ?_
              refine ux_get C fl_X8_7 dX8_lays_123 (oM W0) rfl ?_
              refine ux_bipush (v := 37) C dX8_lays_126 (by decide) ?_
              refine ux_iconst (v := 3) C dX8_lays_128 (by decide) ?_
              refine ux_iload C dX8_lays_129 3 rfl ?_
              refine ux_imul C dX8_lays_131 ?_
              refine ux_iadd C dX8_lays_132 ?_
              refine ux_iconst (v := 1) C dX8_lays_133 (by decide) ?_
              refine ux_iadd C dX8_lays_134 ?_
              refine ux_iload C dX8_lays_135 4 rfl ?_
              refine ux_iast C (aM_a W0) dX8_lays_137 h (fun st_12 h => ?_)
              refine ux_iconst (v := 0) C dX8_lays_138 (by decide) ?_
              exact ux_zretSK C hr dX8_lays_139 (by decide) h (Nat.le_of_ble_eq_true rfl) (Nat.le_of_ble_eq_true rfl)
          · refine ux_iconst (v := 1) C dX8_lays_101 (by decide) ?_
            exact ux_zretSK C hr dX8_lays_102 (by decide) h (Nat.le_of_ble_eq_true rfl) (Nat.le_of_ble_eq_true rfl)
        refine ux_icmp_ne C dX8_lays_66 h (fun h => ?_) (fun h => ?_)
        · refine ux_aload_n C dX8_lays_69 1 rfl ?_
          refine ux_iload_n C dX8_lays_70 2 rfl ?_
          refine ux_iload_n C dX8_lays_71 3 rfl ?_
          refine ux_iload_n C dX8_lays_72 4 rfl ?_
          obtain ⟨st_13, h1, h⟩ := obV_some h
          refine ux_callVv C cv_X8_199 dX8_lays_73 (oM W0) rfl (kX8_comes W0 h1) rfl (Nat.le_of_ble_eq_true rfl) ⟨(Nat.le_of_ble_eq_true rfl), (Nat.le_of_ble_eq_true rfl)⟩ ⟨(Nat.le_of_ble_eq_true rfl), (Nat.le_of_ble_eq_true rfl)⟩ ?_ rfl
          refine ux_goto C dX8_lays_76 ?_
          refine ux_sub [1, 2, 3, 5, 0] rfl ?_
          exact hJ_7 st_13 h
        · refine ux_aload_n C dX8_lays_79 1 rfl ?_
          refine ux_get C fl_X8_7 dX8_lays_80 (oM W0) rfl ?_
          refine ux_bipush (v := 37) C dX8_lays_83 (by decide) ?_
          refine ux_iconst (v := 3) C dX8_lays_85 (by decide) ?_
          refine ux_iload C dX8_lays_86 5 rfl ?_
          refine ux_imul C dX8_lays_88 ?_
          refine ux_iadd C dX8_lays_89 ?_
          refine ux_iconst (v := 1) C dX8_lays_90 (by decide) ?_
          refine ux_iadd C dX8_lays_91 ?_
          refine ux_iload_n C dX8_lays_92 4 rfl ?_
          refine ux_iast C (aM_a W0) dX8_lays_93 h (fun st_14 h => ?_)
          refine ux_sub [1, 2, 3, 5, 0] rfl ?_
          exact hJ_7 st_14 h
      refine ux_icmp_ne C dX8_lays_47 h (fun h => ?_) (fun h => ?_)
      · refine ux_iconst (v := 0) C dX8_lays_50 (by decide) ?_
        refine ux_goto C dX8_lays_51 ?_
        exact hJ_4 (0 : Int32) h
      · refine ux_aload_n C dX8_lays_54 0 rfl ?_
        refine ux_iload C dX8_lays_55 4 rfl ?_
        refine ux_iconst (v := 1) C dX8_lays_57 (by decide) ?_
        obtain ⟨x_15, h1, h⟩ := ob_some h
        refine ux_callVi C cv_X8_160 dX8_lays_58 (oM W0) rfl (kX8_of W0 h1) rfl (Nat.le_of_ble_eq_true rfl) ⟨(Nat.le_of_ble_eq_true rfl), (Nat.le_of_ble_eq_true rfl)⟩ ⟨(Nat.le_of_ble_eq_true rfl), (Nat.le_of_ble_eq_true rfl)⟩ ?_ rfl
        exact hJ_4 x_15 h
    refine ux_icmp_ne C dX8_lays_22 h (fun h => ?_) (fun h => ?_)
    · refine ux_aload_n C dX8_lays_25 1 rfl ?_
      refine ux_get C fl_X8_7 dX8_lays_26 (oM W0) rfl ?_
      refine ux_bipush (v := 36) C dX8_lays_29 (by decide) ?_
      refine ux_ialdK (j := 36) C (aM_a W0) dX8_lays_31 (by decide) (by decide) ?_
      refine ux_aload_n C dX8_lays_32 1 rfl ?_
      refine ux_get C fl_X8_7 dX8_lays_33 (oM W0) rfl ?_
      refine ux_bipush (v := 6) C dX8_lays_36 (by decide) ?_
      refine ux_ialdK (j := 6) C (aM_a W0) dX8_lays_38 (by decide) (by decide) ?_
      refine ux_icmp_lt C dX8_lays_39 h (fun h => ?_) (fun h => ?_)
      · refine ux_sub [1, 2, 3, 4, 0] rfl ?_
        exact hJ_3 h
      · refine ux_iconst (v := 0) C dX8_lays_42 (by decide) ?_
        exact ux_zretSK C hr dX8_lays_43 (by decide) h (Nat.le_of_ble_eq_true rfl) (Nat.le_of_ble_eq_true rfl)
    · refine ux_sub [1, 2, 3, 4, 0] rfl ?_
      exact hJ_3 h
set_option maxRecDepth 100000 in
set_option maxHeartbeats 4000000 in
theorem kX8_mayWrite {l : Launch} {V : uV} (W0 : uWM l V) {p1 : Int32} {p2 : Int32} {p3 : Int32} {st : uSt} {r : Int32} {s9 : uSt} (h : fX8_mayWrite p1 p2 p3 st = some (r, s9)) : uMet l V yX8_mayWrite cX8_mayWrite 4 (some .boolean) 3 65 0 0 [.ref (vA V 0), .int p1, .int p2, .int p3] st (some (.int r)) s9 := by
  refine ux_met W0.1 W0.2.1 (by decide) rfl (Nat.le_of_ble_eq_true rfl) (fun M hL hr C => ?_)
  subst hL
  have C : uCx M V cX8_mayWrite 4 RX8 3 65 0 0 := C
  unfold fX8_mayWrite at h
  refine ux_aload_n C dX8_mayWrite_0 0 rfl ?_
  refine ux_aload_n C dX8_mayWrite_1 0 rfl ?_
  refine ux_iload_n C dX8_mayWrite_2 1 rfl ?_
  refine ux_iload_n C dX8_mayWrite_3 2 rfl ?_
  obtain ⟨x_1, h1, h⟩ := ob_some h
  refine ux_callVi C cv_X8_193 dX8_mayWrite_4 (oM W0) rfl (kX8_isPlace W0 h1) rfl (Nat.le_of_ble_eq_true rfl) ⟨(Nat.le_of_ble_eq_true rfl), (Nat.le_of_ble_eq_true rfl)⟩ ⟨(Nat.le_of_ble_eq_true rfl), (Nat.le_of_ble_eq_true rfl)⟩ ?_ rfl
  refine ux_iconst (v := 1) C dX8_mayWrite_7 (by decide) ?_
  obtain ⟨x_3, st_2, h1, h⟩ := obS_some h
  refine ux_callVi C cv_X8_55 dX8_mayWrite_8 (oM W0) rfl (kX8_may W0 h1) rfl (Nat.le_of_ble_eq_true rfl) ⟨(Nat.le_of_ble_eq_true rfl), (Nat.le_of_ble_eq_true rfl)⟩ ⟨(Nat.le_of_ble_eq_true rfl), (Nat.le_of_ble_eq_true rfl)⟩ ?_ rfl
  refine ux_if_eq C dX8_mayWrite_11 h (fun h => ?_) (fun h => ?_)
  · refine ux_iconst (v := 0) C dX8_mayWrite_65 (by decide) ?_
    exact ux_zretSK C hr dX8_mayWrite_66 (by decide) h (Nat.le_of_ble_eq_true rfl) (Nat.le_of_ble_eq_true rfl)
  · refine ux_aload_n C dX8_mayWrite_14 0 rfl ?_
    refine ux_iload_n C dX8_mayWrite_15 3 rfl ?_
    refine ux_iconst (v := 1) C dX8_mayWrite_16 (by decide) ?_
    refine ux_bipush (v := 99) C dX8_mayWrite_17 (by decide) ?_
    obtain ⟨x_4, h1, h⟩ := ob_some h
    refine ux_callSi C cs_X8_59 dX8_mayWrite_19 (kX8_isIn W0 h1) rfl (Nat.le_of_ble_eq_true rfl) ⟨(Nat.le_of_ble_eq_true rfl), (Nat.le_of_ble_eq_true rfl)⟩ ⟨(Nat.le_of_ble_eq_true rfl), (Nat.le_of_ble_eq_true rfl)⟩ ?_ rfl
    refine ux_iconst (v := 2) C dX8_mayWrite_22 (by decide) ?_
    obtain ⟨x_6, st_5, h1, h⟩ := obS_some h
    refine ux_callVi C cv_X8_55 dX8_mayWrite_23 (oM W0) rfl (kX8_may W0 h1) rfl (Nat.le_of_ble_eq_true rfl) ⟨(Nat.le_of_ble_eq_true rfl), (Nat.le_of_ble_eq_true rfl)⟩ ⟨(Nat.le_of_ble_eq_true rfl), (Nat.le_of_ble_eq_true rfl)⟩ ?_ rfl
    refine ux_if_eq C dX8_mayWrite_26 h (fun h => ?_) (fun h => ?_)
    · refine ux_iconst (v := 0) C dX8_mayWrite_65 (by decide) ?_
      exact ux_zretSK C hr dX8_mayWrite_66 (by decide) h (Nat.le_of_ble_eq_true rfl) (Nat.le_of_ble_eq_true rfl)
    · refine ux_aload_n C dX8_mayWrite_29 0 rfl ?_
      refine ux_aload_n C dX8_mayWrite_30 0 rfl ?_
      refine ux_get C fl_X8_7 dX8_mayWrite_31 (oM W0) rfl ?_
      refine ux_bipush (v := 27) C dX8_mayWrite_34 (by decide) ?_
      refine ux_ialdK (j := 27) C (aM_a W0) dX8_mayWrite_36 (by decide) (by decide) ?_
      refine ux_iconst (v := 1) C dX8_mayWrite_37 (by decide) ?_
      obtain ⟨j_7, hK_7, h⟩ := oj1_some h
      have hJ_7 : ∀ (v_8 : Int32), j_7 v_8 = some (r, s9) → uW M V (uEnd M V 0 0 (some (.int r)) s9) 4 0 0 54 [] [.int v_8, .ref (vA V 0)] st_5 := by
        intro v_8 h
        replace h := hK_7 v_8 h
        refine ux_iconst (v := 3) C dX8_mayWrite_54 (by decide) ?_
        obtain ⟨x_10, st_9, h1, h⟩ := obS_some h
        refine ux_callVi C cv_X8_55 dX8_mayWrite_55 (oM W0) rfl (kX8_may W0 h1) rfl (Nat.le_of_ble_eq_true rfl) ⟨(Nat.le_of_ble_eq_true rfl), (Nat.le_of_ble_eq_true rfl)⟩ ⟨(Nat.le_of_ble_eq_true rfl), (Nat.le_of_ble_eq_true rfl)⟩ ?_ rfl
        refine ux_if_eq C dX8_mayWrite_58 h (fun h => ?_) (fun h => ?_)
        · refine ux_iconst (v := 0) C dX8_mayWrite_65 (by decide) ?_
          exact ux_zretSK C hr dX8_mayWrite_66 (by decide) h (Nat.le_of_ble_eq_true rfl) (Nat.le_of_ble_eq_true rfl)
        · refine ux_iconst (v := 1) C dX8_mayWrite_61 (by decide) ?_
          refine ux_goto C dX8_mayWrite_62 ?_
          exact ux_zretSK C hr dX8_mayWrite_66 (by decide) h (Nat.le_of_ble_eq_true rfl) (Nat.le_of_ble_eq_true rfl)
      obtain ⟨j_11, hK_11, h⟩ := oj0_some h
      have hJ_11 : j_11 = some (r, s9) → uW M V (uEnd M V 0 0 (some (.int r)) s9) 4 0 0 53 [] [.ref (vA V 0)] st_5 := by
        intro h
        replace h := hK_11 h
        refine ux_iconst (v := 0) C dX8_mayWrite_53 (by decide) ?_
        exact hJ_7 (0 : Int32) h
      refine ux_icmp_ne C dX8_mayWrite_38 h (fun h => ?_) (fun h => ?_)
      · refine ux_aload_n C dX8_mayWrite_41 0 rfl ?_
        refine ux_iload_n C dX8_mayWrite_42 1 rfl ?_
        obtain ⟨x_12, h1, h⟩ := ob_some h
        refine ux_callVi C cv_X8_169 dX8_mayWrite_43 (oM W0) rfl (kX8_hasFailed W0 h1) rfl (Nat.le_of_ble_eq_true rfl) ⟨(Nat.le_of_ble_eq_true rfl), (Nat.le_of_ble_eq_true rfl)⟩ ⟨(Nat.le_of_ble_eq_true rfl), (Nat.le_of_ble_eq_true rfl)⟩ ?_ rfl
        refine ux_if_ne C dX8_mayWrite_46 h (fun h => ?_) (fun h => ?_)
        · refine ux_iconst (v := 1) C dX8_mayWrite_49 (by decide) ?_
          refine ux_goto C dX8_mayWrite_50 ?_
          refine ux_sub [] rfl ?_
          exact hJ_7 (1 : Int32) h
        · refine ux_sub [] rfl ?_
          exact hJ_11 h
      · refine ux_sub [] rfl ?_
        exact hJ_11 h
set_option maxRecDepth 100000 in
set_option maxHeartbeats 4000000 in
theorem kX8_write {l : Launch} {V : uV} (W0 : uWM l V) {p1 : Int32} {p2 : Int32} {p3 : Int32} {st : uSt} {r : Int32} {s9 : uSt} (h : fX8_write p1 p2 p3 st = some (r, s9)) : uMet l V yX8_write cX8_write 6 (some .boolean) 5 118 0 0 [.ref (vA V 0), .int p1, .int p2, .int p3] st (some (.int r)) s9 := by
  refine ux_met W0.1 W0.2.1 (by decide) rfl (Nat.le_of_ble_eq_true rfl) (fun M hL hr C => ?_)
  subst hL
  have C : uCx M V cX8_write 6 RX8 5 118 0 0 := C
  unfold fX8_write at h
  refine ux_aload_n C dX8_write_0 0 rfl ?_
  refine ux_iconst (v := 0) C dX8_write_1 (by decide) ?_
  refine ux_puti C fp_X8_49 dX8_write_2 (oM W0) (Nat.le_of_ble_eq_true rfl) rfl h (fun st_1 h => ?_)
  refine ux_aload_n C dX8_write_5 0 rfl ?_
  refine ux_iload_n C dX8_write_6 1 rfl ?_
  refine ux_iload_n C dX8_write_7 2 rfl ?_
  refine ux_iload_n C dX8_write_8 3 rfl ?_
  obtain ⟨x_3, st_2, h1, h⟩ := obS_some h
  refine ux_callVi C cv_X8_206 dX8_write_9 (oM W0) rfl (kX8_mayWrite W0 h1) rfl (Nat.le_of_ble_eq_true rfl) ⟨(Nat.le_of_ble_eq_true rfl), (Nat.le_of_ble_eq_true rfl)⟩ ⟨(Nat.le_of_ble_eq_true rfl), (Nat.le_of_ble_eq_true rfl)⟩ ?_ rfl
  refine ux_if_ne C dX8_write_12 h (fun h => ?_) (fun h => ?_)
  · refine ux_iconst (v := 0) C dX8_write_15 (by decide) ?_
    exact ux_zretSK C hr dX8_write_16 (by decide) h (Nat.le_of_ble_eq_true rfl) (Nat.le_of_ble_eq_true rfl)
  · refine ux_aload_n C dX8_write_17 0 rfl ?_
    refine ux_iload_n C dX8_write_18 1 rfl ?_
    refine ux_iload_n C dX8_write_19 2 rfl ?_
    refine ux_iload_n C dX8_write_20 3 rfl ?_
    obtain ⟨x_5, st_4, h1, h⟩ := obS_some h
    refine ux_callVi C cv_X8_209 dX8_write_21 (oM W0) rfl (kX8_lays W0 h1) rfl (Nat.le_of_ble_eq_true rfl) ⟨(Nat.le_of_ble_eq_true rfl), (Nat.le_of_ble_eq_true rfl)⟩ ⟨(Nat.le_of_ble_eq_true rfl), (Nat.le_of_ble_eq_true rfl)⟩ ?_ rfl
    refine ux_istoreK C dX8_write_24 rfl (by decide) ?_
    refine ux_aload_n C dX8_write_26 1 rfl ?_
    refine ux_iload_n C dX8_write_27 2 rfl ?_
    refine ux_iload_n C dX8_write_28 3 rfl ?_
    obtain ⟨x_7, h1, h⟩ := ob_some h
    refine ux_callVi C cv_X8_196 dX8_write_29 (oM W0) rfl (kX8_blockAt W0 h1) rfl (Nat.le_of_ble_eq_true rfl) ⟨(Nat.le_of_ble_eq_true rfl), (Nat.le_of_ble_eq_true rfl)⟩ ⟨(Nat.le_of_ble_eq_true rfl), (Nat.le_of_ble_eq_true rfl)⟩ ?_ rfl
    refine ux_istoreK C dX8_write_32 rfl (by decide) ?_
    refine ux_iload C dX8_write_34 1 rfl ?_
    obtain ⟨j_9, hK_9, h⟩ := oj1_some h
    have hJ_9 : ∀ (st_10 : uSt), j_9 st_10 = some (r, s9) → uW M V (uEnd M V 0 0 (some (.int r)) s9) 6 0 0 51 [(0, .ref (vA V 0)), (4, .int x_5)] [] st_10 := by
      intro st_10 h
      replace h := hK_9 st_10 h
      refine ux_aload_n C dX8_write_51 0 rfl ?_
      refine ux_get C fl_X8_7 dX8_write_52 (oM W0) rfl ?_
      refine ux_bipush (v := 29) C dX8_write_55 (by decide) ?_
      refine ux_iload C dX8_write_57 1 rfl ?_
      obtain ⟨j_11, hK_11, h⟩ := oj1_some h
      have hJ_11 : ∀ (v_12 : Int32), j_11 v_12 = some (r, s9) → uW M V (uEnd M V 0 0 (some (.int r)) s9) 6 0 0 67 [(4, .int x_5)] [.int v_12, .int (29 : Int32), .ref (vA V 1)] st_10 := by
        intro v_12 h
        replace h := hK_11 v_12 h
        refine ux_iadd C dX8_write_67 ?_
        refine ux_dup2 C dX8_write_68 rfl rfl ?_
        refine ux_iald C (aM_a W0) dX8_write_69 h (fun h => ?_)
        refine ux_iconst (v := 1) C dX8_write_70 (by decide) ?_
        refine ux_iadd C dX8_write_71 ?_
        refine ux_iast C (aM_a W0) dX8_write_72 h (fun st_13 h => ?_)
        refine ux_iload C dX8_write_73 0 rfl ?_
        exact ux_zretS C hr dX8_write_75 h (Nat.le_of_ble_eq_true rfl) (Nat.le_of_ble_eq_true rfl)
      refine ux_if_eq C dX8_write_59 h (fun h => ?_) (fun h => ?_)
      · refine ux_iconst (v := 1) C dX8_write_66 (by decide) ?_
        refine ux_sub [1] rfl ?_
        exact hJ_11 (1 : Int32) h
      · refine ux_iconst (v := 0) C dX8_write_62 (by decide) ?_
        refine ux_goto C dX8_write_63 ?_
        refine ux_sub [1] rfl ?_
        exact hJ_11 (0 : Int32) h
    refine ux_if_ne C dX8_write_36 h (fun h => ?_) (fun h => ?_)
    · refine ux_iload C dX8_write_39 0 rfl ?_
      refine ux_iconst (v := (-1)) C dX8_write_41 (by decide) ?_
      refine ux_icmp_eq C dX8_write_42 h (fun h => ?_) (fun h => ?_)
      · refine ux_sub [2, 1] rfl ?_
        exact hJ_9 st_4 h
      · refine ux_aload_n C dX8_write_45 2 rfl ?_
        refine ux_iload C dX8_write_46 0 rfl ?_
        obtain ⟨st_14, h1, h⟩ := obV_some h
        refine ux_callVv C cv_X8_163 dX8_write_48 (oM W0) rfl (kX8_goes W0 h1) rfl (Nat.le_of_ble_eq_true rfl) ⟨(Nat.le_of_ble_eq_true rfl), (Nat.le_of_ble_eq_true rfl)⟩ ⟨(Nat.le_of_ble_eq_true rfl), (Nat.le_of_ble_eq_true rfl)⟩ ?_ rfl
        refine ux_sub [2, 1] rfl ?_
        exact hJ_9 st_14 h
    · refine ux_sub [2, 1] rfl ?_
      exact hJ_9 st_4 h
set_option maxRecDepth 100000 in
set_option maxHeartbeats 4000000 in
theorem wX8_wouldCache_20 {M : uM} {V : uV} (W0 : uWM (mL M) V) (C : uCx M V cX8_wouldCache 6 RX8 5 118 0 0) (hr : (mT M).sig.returnType = (some .boolean)) {l1 : Int32} {l2 : Int32} {l3 : Int32} {r : Int32} {s9 : uSt} {ke : uSt → Option (Int32 × uSt)} (K : ∀ (st : uSt), ke st = some (r, s9) → uW M V (uEnd M V 0 0 (some (.int r)) s9) 6 0 0 47 [(0, .ref (vA V 0)), (1, .int l1), (2, .int l2), (3, .int l3)] [] st) : ∀ (n : Nat) (st : uSt) (l4 : Int32), fX8_wouldCache_20 l1 l2 l3 ke n st l4 = some (r, s9) → uW M V (uEnd M V 0 0 (some (.int r)) s9) 6 0 0 20 [(0, .ref (vA V 0)), (1, .int l1), (2, .int l2), (3, .int l3), (4, .int l4)] [] st := by
  intro n
  induction n with
  | zero =>
    intro st l4 h
    rw [fX8_wouldCache_20] at h
    cases h
  | succ n ih =>
    intro st l4 h
    rw [fX8_wouldCache_20] at h
    refine ux_iload C dX8_wouldCache_20 4 rfl ?_
    refine ux_bipush (v := 109) C dX8_wouldCache_22 (by decide) ?_
    refine ux_icmp_ge C dX8_wouldCache_24 h (fun h => ?_) (fun h => ?_)
    · refine ux_sub [0, 1, 2, 3] rfl ?_
      exact K st h
    · refine ux_aload_n C dX8_wouldCache_27 0 rfl ?_
      refine ux_get C fl_X8_19 dX8_wouldCache_28 (oM W0) rfl ?_
      refine ux_iload C dX8_wouldCache_31 4 rfl ?_
      refine ux_aload_n C dX8_wouldCache_33 0 rfl ?_
      refine ux_get C fl_X8_7 dX8_wouldCache_34 (oM W0) rfl ?_
      refine ux_iload C dX8_wouldCache_37 4 rfl ?_
      refine ux_iald C (aM_a W0) dX8_wouldCache_39 h (fun h => ?_)
      refine ux_iast C (aM_beside W0) dX8_wouldCache_40 h (fun st_5 h => ?_)
      refine ux_iincK C dX8_wouldCache_41 (by decide) 4 rfl (fun z => [(4, .int z), (0, .ref (vA V 0)), (1, .int l1), (2, .int l2), (3, .int l3)]) (fun _ => rfl) (by decide) h (fun l4_6 h => ?_)
      refine ux_goto C dX8_wouldCache_44 ?_
      refine ux_sub [1, 2, 3, 4, 0] rfl ?_
      exact ih _ _ h
set_option maxRecDepth 100000 in
set_option maxHeartbeats 4000000 in
theorem wX8_wouldCache_59 {M : uM} {V : uV} (W0 : uWM (mL M) V) (C : uCx M V cX8_wouldCache 6 RX8 5 118 0 0) (hr : (mT M).sig.returnType = (some .boolean)) {l4 : Int32} {r : Int32} {s9 : uSt} {ke : uSt → Option (Int32 × uSt)} (K : ∀ (st : uSt), ke st = some (r, s9) → uW M V (uEnd M V 0 0 (some (.int r)) s9) 6 0 0 86 [(4, .int l4)] [] st) : ∀ (n : Nat) (st : uSt) (l5 : Int32), fX8_wouldCache_59 l4 ke n st l5 = some (r, s9) → uW M V (uEnd M V 0 0 (some (.int r)) s9) 6 0 0 59 [(0, .ref (vA V 0)), (4, .int l4), (5, .int l5)] [] st := by
  intro n
  induction n with
  | zero =>
    intro st l5 h
    rw [fX8_wouldCache_59] at h
    cases h
  | succ n ih =>
    intro st l5 h
    rw [fX8_wouldCache_59] at h
    refine ux_iload C dX8_wouldCache_59 2 rfl ?_
    refine ux_bipush (v := 109) C dX8_wouldCache_61 (by decide) ?_
    refine ux_icmp_ge C dX8_wouldCache_63 h (fun h => ?_) (fun h => ?_)
    · refine ux_sub [1] rfl ?_
      exact K st h
    · refine ux_aload_n C dX8_wouldCache_66 0 rfl ?_
      refine ux_get C fl_X8_7 dX8_wouldCache_67 (oM W0) rfl ?_
      refine ux_iload C dX8_wouldCache_70 2 rfl ?_
      refine ux_aload_n C dX8_wouldCache_72 0 rfl ?_
      refine ux_get C fl_X8_19 dX8_wouldCache_73 (oM W0) rfl ?_
      refine ux_iload C dX8_wouldCache_76 2 rfl ?_
      refine ux_iald C (aM_beside W0) dX8_wouldCache_78 h (fun h => ?_)
      refine ux_iast C (aM_a W0) dX8_wouldCache_79 h (fun st_12 h => ?_)
      refine ux_iincK C dX8_wouldCache_80 (by decide) 2 rfl (fun z => [(5, .int z), (0, .ref (vA V 0)), (4, .int l4)]) (fun _ => rfl) (by decide) h (fun l5_13 h => ?_)
      refine ux_goto C dX8_wouldCache_83 ?_
      refine ux_sub [1, 2, 0] rfl ?_
      exact ih _ _ h
set_option maxRecDepth 100000 in
set_option maxHeartbeats 4000000 in
theorem kX8_wouldCache {l : Launch} {V : uV} (W0 : uWM l V) {p1 : Int32} {p2 : Int32} {p3 : Int32} {st : uSt} {r : Int32} {s9 : uSt} (h : fX8_wouldCache p1 p2 p3 st = some (r, s9)) : uMet l V yX8_wouldCache cX8_wouldCache 6 (some .boolean) 5 118 0 0 [.ref (vA V 0), .int p1, .int p2, .int p3] st (some (.int r)) s9 := by
  refine ux_met W0.1 W0.2.1 (by decide) rfl (Nat.le_of_ble_eq_true rfl) (fun M hL hr C => ?_)
  subst hL
  have C : uCx M V cX8_wouldCache 6 RX8 5 118 0 0 := C
  unfold fX8_wouldCache at h
  refine ux_aload_n C dX8_wouldCache_0 0 rfl ?_
  refine ux_iconst (v := 0) C dX8_wouldCache_1 (by decide) ?_
  refine ux_puti C fp_X8_49 dX8_wouldCache_2 (oM W0) (Nat.le_of_ble_eq_true rfl) rfl h (fun st_1 h => ?_)
  refine ux_aload_n C dX8_wouldCache_5 0 rfl ?_
  refine ux_iload_n C dX8_wouldCache_6 1 rfl ?_
  refine ux_iload_n C dX8_wouldCache_7 2 rfl ?_
  refine ux_iload_n C dX8_wouldCache_8 3 rfl ?_
  obtain ⟨x_3, st_2, h1, h⟩ := obS_some h
  refine ux_callVi C cv_X8_206 dX8_wouldCache_9 (oM W0) rfl (kX8_mayWrite W0 h1) rfl (Nat.le_of_ble_eq_true rfl) ⟨(Nat.le_of_ble_eq_true rfl), (Nat.le_of_ble_eq_true rfl)⟩ ⟨(Nat.le_of_ble_eq_true rfl), (Nat.le_of_ble_eq_true rfl)⟩ ?_ rfl
  refine ux_if_ne C dX8_wouldCache_12 h (fun h => ?_) (fun h => ?_)
  · refine ux_iconst (v := 0) C dX8_wouldCache_15 (by decide) ?_
    exact ux_zretSK C hr dX8_wouldCache_16 (by decide) h (Nat.le_of_ble_eq_true rfl) (Nat.le_of_ble_eq_true rfl)
  · refine ux_iconst (v := 0) C dX8_wouldCache_17 (by decide) ?_
    refine ux_istoreK C dX8_wouldCache_18 rfl (by decide) ?_
    refine ux_sub [1, 2, 3, 4, 0] rfl ?_
    refine wX8_wouldCache_20 W0 C hr (fun st_7 h => ?_) _ _ _ h
    refine ux_aload_n C dX8_wouldCache_47 0 rfl ?_
    refine ux_iload_n C dX8_wouldCache_48 1 rfl ?_
    refine ux_iload_n C dX8_wouldCache_49 2 rfl ?_
    refine ux_iload_n C dX8_wouldCache_50 3 rfl ?_
    obtain ⟨x_9, st_8, h1, h⟩ := obS_some h
    refine ux_callVi C cv_X8_209 dX8_wouldCache_51 (oM W0) rfl (kX8_lays W0 h1) rfl (Nat.le_of_ble_eq_true rfl) ⟨(Nat.le_of_ble_eq_true rfl), (Nat.le_of_ble_eq_true rfl)⟩ ⟨(Nat.le_of_ble_eq_true rfl), (Nat.le_of_ble_eq_true rfl)⟩ ?_ rfl
    refine ux_istoreK C dX8_wouldCache_54 rfl (by decide) ?_
    refine ux_iconst (v := 0) C dX8_wouldCache_56 (by decide) ?_
    refine ux_istoreK C dX8_wouldCache_57 rfl (by decide) ?_
    refine ux_sub [2, 1, 0] rfl ?_
    refine wX8_wouldCache_59 W0 C hr (fun st_14 h => ?_) _ _ _ h
    refine ux_iload C dX8_wouldCache_86 0 rfl ?_
    exact ux_zretS C hr dX8_wouldCache_88 h (Nat.le_of_ble_eq_true rfl) (Nat.le_of_ble_eq_true rfl)
set_option maxRecDepth 100000 in
set_option maxHeartbeats 4000000 in
theorem kX8_clean {l : Launch} {V : uV} (W0 : uWM l V) {p1 : Int32} {st : uSt} {r : Int32} {s9 : uSt} (h : fX8_clean p1 st = some (r, s9)) : uMet l V yX8_clean cX8_clean 3 (some .int) 3 66 0 0 [.ref (vA V 0), .int p1] st (some (.int r)) s9 := by
  refine ux_met W0.1 W0.2.1 (by decide) rfl (Nat.le_of_ble_eq_true rfl) (fun M hL hr C => ?_)
  subst hL
  have C : uCx M V cX8_clean 3 RX8 3 66 0 0 := C
  unfold fX8_clean at h
  refine ux_aload_n C dX8_clean_0 0 rfl ?_
  refine ux_iconst (v := 0) C dX8_clean_1 (by decide) ?_
  refine ux_puti C fp_X8_49 dX8_clean_2 (oM W0) (Nat.le_of_ble_eq_true rfl) rfl h (fun st_1 h => ?_)
  refine ux_aload_n C dX8_clean_5 0 rfl ?_
  refine ux_aload_n C dX8_clean_6 0 rfl ?_
  refine ux_iload_n C dX8_clean_7 1 rfl ?_
  obtain ⟨x_2, h1, h⟩ := ob_some h
  refine ux_callVi C cv_X8_178 dX8_clean_8 (oM W0) rfl (kX8_isDevice W0 h1) rfl (Nat.le_of_ble_eq_true rfl) ⟨(Nat.le_of_ble_eq_true rfl), (Nat.le_of_ble_eq_true rfl)⟩ ⟨(Nat.le_of_ble_eq_true rfl), (Nat.le_of_ble_eq_true rfl)⟩ ?_ rfl
  refine ux_iconst (v := 1) C dX8_clean_11 (by decide) ?_
  obtain ⟨x_4, st_3, h1, h⟩ := obS_some h
  refine ux_callVi C cv_X8_55 dX8_clean_12 (oM W0) rfl (kX8_may W0 h1) rfl (Nat.le_of_ble_eq_true rfl) ⟨(Nat.le_of_ble_eq_true rfl), (Nat.le_of_ble_eq_true rfl)⟩ ⟨(Nat.le_of_ble_eq_true rfl), (Nat.le_of_ble_eq_true rfl)⟩ ?_ rfl
  refine ux_if_eq C dX8_clean_15 h (fun h => ?_) (fun h => ?_)
  · refine ux_iconst (v := 0) C dX8_clean_50 (by decide) ?_
    exact ux_iretS C hr dX8_clean_51 h (Nat.le_of_ble_eq_true rfl) (Nat.le_of_ble_eq_true rfl)
  · refine ux_aload_n C dX8_clean_18 0 rfl ?_
    refine ux_aload_n C dX8_clean_19 0 rfl ?_
    refine ux_get C fl_X8_7 dX8_clean_20 (oM W0) rfl ?_
    refine ux_bipush (v := 27) C dX8_clean_23 (by decide) ?_
    refine ux_ialdK (j := 27) C (aM_a W0) dX8_clean_25 (by decide) (by decide) ?_
    refine ux_iconst (v := 1) C dX8_clean_26 (by decide) ?_
    obtain ⟨j_5, hK_5, h⟩ := oj1_some h
    have hJ_5 : ∀ (v_6 : Int32), j_5 v_6 = some (r, s9) → uW M V (uEnd M V 0 0 (some (.int r)) s9) 3 0 0 43 [(0, .ref (vA V 0)), (1, .int p1)] [.int v_6, .ref (vA V 0)] st_3 := by
      intro v_6 h
      replace h := hK_5 v_6 h
      refine ux_iconst (v := 2) C dX8_clean_43 (by decide) ?_
      obtain ⟨x_8, st_7, h1, h⟩ := obS_some h
      refine ux_callVi C cv_X8_55 dX8_clean_44 (oM W0) rfl (kX8_may W0 h1) rfl (Nat.le_of_ble_eq_true rfl) ⟨(Nat.le_of_ble_eq_true rfl), (Nat.le_of_ble_eq_true rfl)⟩ ⟨(Nat.le_of_ble_eq_true rfl), (Nat.le_of_ble_eq_true rfl)⟩ ?_ rfl
      refine ux_if_ne C dX8_clean_47 h (fun h => ?_) (fun h => ?_)
      · refine ux_iconst (v := 0) C dX8_clean_50 (by decide) ?_
        exact ux_iretS C hr dX8_clean_51 h (Nat.le_of_ble_eq_true rfl) (Nat.le_of_ble_eq_true rfl)
      · refine ux_aload_n C dX8_clean_52 0 rfl ?_
        refine ux_iload_n C dX8_clean_53 1 rfl ?_
        obtain ⟨x_9, h1, h⟩ := ob_some h
        refine ux_callVi C cv_X8_181 dX8_clean_54 (oM W0) rfl (kX8_setOf W0 h1) rfl (Nat.le_of_ble_eq_true rfl) ⟨(Nat.le_of_ble_eq_true rfl), (Nat.le_of_ble_eq_true rfl)⟩ ⟨(Nat.le_of_ble_eq_true rfl), (Nat.le_of_ble_eq_true rfl)⟩ ?_ rfl
        refine ux_istoreK_n C dX8_clean_57 rfl (by decide) ?_
        refine ux_aload_n C dX8_clean_58 1 rfl ?_
        refine ux_iload_n C dX8_clean_59 0 rfl ?_
        obtain ⟨st_11, h1, h⟩ := obV_some h
        refine ux_callVv C cv_X8_212 dX8_clean_60 (oM W0) rfl (kX8_allGo W0 h1) rfl (Nat.le_of_ble_eq_true rfl) ⟨(Nat.le_of_ble_eq_true rfl), (Nat.le_of_ble_eq_true rfl)⟩ ⟨(Nat.le_of_ble_eq_true rfl), (Nat.le_of_ble_eq_true rfl)⟩ ?_ rfl
        refine ux_aload_n C dX8_clean_63 1 rfl ?_
        refine ux_get C fl_X8_7 dX8_clean_64 (oM W0) rfl ?_
        refine ux_bipush (v := 35) C dX8_clean_67 (by decide) ?_
        refine ux_dup2 C dX8_clean_69 rfl rfl ?_
        refine ux_ialdK (j := 35) C (aM_a W0) dX8_clean_70 (by decide) (by decide) ?_
        refine ux_iload_n C dX8_clean_71 0 rfl ?_
        obtain ⟨x_12, h1, h⟩ := ob_some h
        refine ux_callSi C cs_X8_184 dX8_clean_72 (kX8_bits W0 h1) rfl (Nat.le_of_ble_eq_true rfl) ⟨(Nat.le_of_ble_eq_true rfl), (Nat.le_of_ble_eq_true rfl)⟩ ⟨(Nat.le_of_ble_eq_true rfl), (Nat.le_of_ble_eq_true rfl)⟩ ?_ rfl
        refine ux_iadd C dX8_clean_75 ?_
        refine ux_iastK (j := 35) C (aM_a W0) dX8_clean_76 (by decide) (by decide) h (fun st_13 h => ?_)
        refine ux_iload_n C dX8_clean_77 0 rfl ?_
        obtain ⟨x_14, h1, h⟩ := ob_some h
        refine ux_callSi C cs_X8_184 dX8_clean_78 (kX8_bits W0 h1) rfl (Nat.le_of_ble_eq_true rfl) ⟨(Nat.le_of_ble_eq_true rfl), (Nat.le_of_ble_eq_true rfl)⟩ ⟨(Nat.le_of_ble_eq_true rfl), (Nat.le_of_ble_eq_true rfl)⟩ ?_ rfl
        exact ux_iretS C hr dX8_clean_81 h (Nat.le_of_ble_eq_true rfl) (Nat.le_of_ble_eq_true rfl)
    obtain ⟨j_15, hK_15, h⟩ := oj0_some h
    have hJ_15 : j_15 = some (r, s9) → uW M V (uEnd M V 0 0 (some (.int r)) s9) 3 0 0 42 [(0, .ref (vA V 0)), (1, .int p1)] [.ref (vA V 0)] st_3 := by
      intro h
      replace h := hK_15 h
      refine ux_iconst (v := 0) C dX8_clean_42 (by decide) ?_
      exact hJ_5 (0 : Int32) h
    refine ux_icmp_ne C dX8_clean_27 h (fun h => ?_) (fun h => ?_)
    · refine ux_aload_n C dX8_clean_30 0 rfl ?_
      refine ux_iload_n C dX8_clean_31 1 rfl ?_
      obtain ⟨x_16, h1, h⟩ := ob_some h
      refine ux_callVi C cv_X8_169 dX8_clean_32 (oM W0) rfl (kX8_hasFailed W0 h1) rfl (Nat.le_of_ble_eq_true rfl) ⟨(Nat.le_of_ble_eq_true rfl), (Nat.le_of_ble_eq_true rfl)⟩ ⟨(Nat.le_of_ble_eq_true rfl), (Nat.le_of_ble_eq_true rfl)⟩ ?_ rfl
      refine ux_if_ne C dX8_clean_35 h (fun h => ?_) (fun h => ?_)
      · refine ux_iconst (v := 1) C dX8_clean_38 (by decide) ?_
        refine ux_goto C dX8_clean_39 ?_
        exact hJ_5 (1 : Int32) h
      · exact hJ_15 h
    · exact hJ_15 h
set_option maxRecDepth 100000 in
set_option maxHeartbeats 4000000 in
theorem kX8_setFailed {l : Launch} {V : uV} (W0 : uWM l V) {p1 : Int32} {p2 : Int32} {st : uSt} {r : Int32} {s9 : uSt} (h : fX8_setFailed p1 p2 st = some (r, s9)) : uMet l V yX8_setFailed cX8_setFailed 4 (some .boolean) 2 43 0 0 [.ref (vA V 0), .int p1, .int p2] st (some (.int r)) s9 := by
  refine ux_met W0.1 W0.2.1 (by decide) rfl (Nat.le_of_ble_eq_true rfl) (fun M hL hr C => ?_)
  subst hL
  have C : uCx M V cX8_setFailed 4 RX8 2 43 0 0 := C
  unfold fX8_setFailed at h
  refine ux_aload_n C dX8_setFailed_0 0 rfl ?_
  refine ux_iconst (v := 0) C dX8_setFailed_1 (by decide) ?_
  refine ux_puti C fp_X8_49 dX8_setFailed_2 (oM W0) (Nat.le_of_ble_eq_true rfl) rfl h (fun st_1 h => ?_)
  refine ux_aload_n C dX8_setFailed_5 0 rfl ?_
  refine ux_aload_n C dX8_setFailed_6 0 rfl ?_
  refine ux_iload_n C dX8_setFailed_7 1 rfl ?_
  obtain ⟨x_2, h1, h⟩ := ob_some h
  refine ux_callVi C cv_X8_178 dX8_setFailed_8 (oM W0) rfl (kX8_isDevice W0 h1) rfl (Nat.le_of_ble_eq_true rfl) ⟨(Nat.le_of_ble_eq_true rfl), (Nat.le_of_ble_eq_true rfl)⟩ ⟨(Nat.le_of_ble_eq_true rfl), (Nat.le_of_ble_eq_true rfl)⟩ ?_ rfl
  refine ux_iconst (v := 1) C dX8_setFailed_11 (by decide) ?_
  obtain ⟨x_4, st_3, h1, h⟩ := obS_some h
  refine ux_callVi C cv_X8_55 dX8_setFailed_12 (oM W0) rfl (kX8_may W0 h1) rfl (Nat.le_of_ble_eq_true rfl) ⟨(Nat.le_of_ble_eq_true rfl), (Nat.le_of_ble_eq_true rfl)⟩ ⟨(Nat.le_of_ble_eq_true rfl), (Nat.le_of_ble_eq_true rfl)⟩ ?_ rfl
  refine ux_if_ne C dX8_setFailed_15 h (fun h => ?_) (fun h => ?_)
  · refine ux_iconst (v := 0) C dX8_setFailed_18 (by decide) ?_
    exact ux_zretSK C hr dX8_setFailed_19 (by decide) h (Nat.le_of_ble_eq_true rfl) (Nat.le_of_ble_eq_true rfl)
  · refine ux_aload_n C dX8_setFailed_20 0 rfl ?_
    refine ux_iload_n C dX8_setFailed_21 1 rfl ?_
    obtain ⟨x_5, h1, h⟩ := ob_some h
    refine ux_callVi C cv_X8_169 dX8_setFailed_22 (oM W0) rfl (kX8_hasFailed W0 h1) rfl (Nat.le_of_ble_eq_true rfl) ⟨(Nat.le_of_ble_eq_true rfl), (Nat.le_of_ble_eq_true rfl)⟩ ⟨(Nat.le_of_ble_eq_true rfl), (Nat.le_of_ble_eq_true rfl)⟩ ?_ rfl
    refine ux_istoreK_n C dX8_setFailed_25 rfl (by decide) ?_
    refine ux_aload_n C dX8_setFailed_26 1 rfl ?_
    refine ux_get C fl_X8_7 dX8_setFailed_27 (oM W0) rfl ?_
    refine ux_bipush (v := 25) C dX8_setFailed_30 (by decide) ?_
    refine ux_iload_n C dX8_setFailed_32 3 rfl ?_
    obtain ⟨j_7, hK_7, h⟩ := oj1_some h
    have hJ_7 : ∀ (v_8 : Int32), j_7 v_8 = some (r, s9) → uW M V (uEnd M V 0 0 (some (.int r)) s9) 4 0 0 63 [(3, .int x_5)] [.int v_8, .int (25 : Int32), .ref (vA V 1)] st_3 := by
      intro v_8 h
      replace h := hK_7 v_8 h
      refine ux_iastK (j := 25) C (aM_a W0) dX8_setFailed_63 (by decide) (by decide) h (fun st_9 h => ?_)
      refine ux_iload_n C dX8_setFailed_64 0 rfl ?_
      exact ux_zretS C hr dX8_setFailed_65 h (Nat.le_of_ble_eq_true rfl) (Nat.le_of_ble_eq_true rfl)
    refine ux_if_eq C dX8_setFailed_33 h (fun h => ?_) (fun h => ?_)
    · refine ux_aload_n C dX8_setFailed_50 1 rfl ?_
      refine ux_get C fl_X8_7 dX8_setFailed_51 (oM W0) rfl ?_
      refine ux_bipush (v := 25) C dX8_setFailed_54 (by decide) ?_
      refine ux_ialdK (j := 25) C (aM_a W0) dX8_setFailed_56 (by decide) (by decide) ?_
      refine ux_iconst (v := 1) C dX8_setFailed_57 (by decide) ?_
      refine ux_iload_n C dX8_setFailed_58 2 rfl ?_
      refine ux_ishl C dX8_setFailed_59 ?_
      refine ux_iconst (v := (-1)) C dX8_setFailed_60 (by decide) ?_
      refine ux_ixor C dX8_setFailed_61 ?_
      refine ux_iand C dX8_setFailed_62 ?_
      refine ux_sub [0] rfl ?_
      exact hJ_7 ((st_3.1 1 25) &&& (((1 : Int32) <<< (p1 &&& 31)) ^^^ (-1 : Int32))) h
    · refine ux_aload_n C dX8_setFailed_36 1 rfl ?_
      refine ux_get C fl_X8_7 dX8_setFailed_37 (oM W0) rfl ?_
      refine ux_bipush (v := 25) C dX8_setFailed_40 (by decide) ?_
      refine ux_ialdK (j := 25) C (aM_a W0) dX8_setFailed_42 (by decide) (by decide) ?_
      refine ux_iconst (v := 1) C dX8_setFailed_43 (by decide) ?_
      refine ux_iload_n C dX8_setFailed_44 2 rfl ?_
      refine ux_ishl C dX8_setFailed_45 ?_
      refine ux_ior C dX8_setFailed_46 ?_
      refine ux_goto C dX8_setFailed_47 ?_
      refine ux_sub [0] rfl ?_
      exact hJ_7 ((st_3.1 1 25) ||| ((1 : Int32) <<< (p1 &&& 31))) h
set_option maxRecDepth 100000 in
set_option maxHeartbeats 4000000 in
theorem kX8_setMode {l : Launch} {V : uV} (W0 : uWM l V) {p1 : Int32} {p2 : Int32} {st : uSt} {r : Int32} {s9 : uSt} (h : fX8_setMode p1 p2 st = some (r, s9)) : uMet l V yX8_setMode cX8_setMode 5 (some .int) 1 22 0 0 [.ref (vA V 0), .int p1, .int p2] st (some (.int r)) s9 := by
  refine ux_met W0.1 W0.2.1 (by decide) rfl (Nat.le_of_ble_eq_true rfl) (fun M hL hr C => ?_)
  subst hL
  have C : uCx M V cX8_setMode 5 RX8 1 22 0 0 := C
  unfold fX8_setMode at h
  refine ux_aload_n C dX8_setMode_0 0 rfl ?_
  refine ux_iconst (v := 0) C dX8_setMode_1 (by decide) ?_
  refine ux_puti C fp_X8_49 dX8_setMode_2 (oM W0) (Nat.le_of_ble_eq_true rfl) rfl h (fun st_1 h => ?_)
  refine ux_iload_n C dX8_setMode_5 1 rfl ?_
  refine ux_iconst (v := 0) C dX8_setMode_6 (by decide) ?_
  refine ux_iconst (v := 2) C dX8_setMode_7 (by decide) ?_
  obtain ⟨x_2, h1, h⟩ := ob_some h
  refine ux_callSi C cs_X8_59 dX8_setMode_8 (kX8_isIn W0 h1) rfl (Nat.le_of_ble_eq_true rfl) ⟨(Nat.le_of_ble_eq_true rfl), (Nat.le_of_ble_eq_true rfl)⟩ ⟨(Nat.le_of_ble_eq_true rfl), (Nat.le_of_ble_eq_true rfl)⟩ ?_ rfl
  obtain ⟨j_3, hK_3, h⟩ := oj1_some h
  have hJ_3 : ∀ (v_4 : Int32), j_3 v_4 = some (r, s9) → uW M V (uEnd M V 0 0 (some (.int r)) s9) 5 0 0 41 [(0, .ref (vA V 0)), (1, .int p1), (2, .int p2)] [.int v_4] st_1 := by
    intro v_4 h
    replace h := hK_3 v_4 h
    refine ux_istoreK_n C dX8_setMode_41 rfl (by decide) ?_
    refine ux_aload_n C dX8_setMode_42 1 rfl ?_
    refine ux_iload_n C dX8_setMode_43 0 rfl ?_
    refine ux_iconst (v := 1) C dX8_setMode_44 (by decide) ?_
    obtain ⟨x_7, st_6, h1, h⟩ := obS_some h
    refine ux_callVi C cv_X8_55 dX8_setMode_45 (oM W0) rfl (kX8_may W0 h1) rfl (Nat.le_of_ble_eq_true rfl) ⟨(Nat.le_of_ble_eq_true rfl), (Nat.le_of_ble_eq_true rfl)⟩ ⟨(Nat.le_of_ble_eq_true rfl), (Nat.le_of_ble_eq_true rfl)⟩ ?_ rfl
    refine ux_if_ne C dX8_setMode_48 h (fun h => ?_) (fun h => ?_)
    · refine ux_iconst (v := 0) C dX8_setMode_51 (by decide) ?_
      exact ux_iretS C hr dX8_setMode_52 h (Nat.le_of_ble_eq_true rfl) (Nat.le_of_ble_eq_true rfl)
    · refine ux_aload_n C dX8_setMode_53 1 rfl ?_
      refine ux_get C fl_X8_7 dX8_setMode_54 (oM W0) rfl ?_
      refine ux_bipush (v := 7) C dX8_setMode_57 (by decide) ?_
      refine ux_ialdK (j := 7) C (aM_a W0) dX8_setMode_59 (by decide) (by decide) ?_
      refine ux_istore C dX8_setMode_60 (fun z => [(4, .int z), (3, .int v_4), (0, .ref (vA V 0)), (1, .int p1), (2, .int p2)]) (fun _ => rfl) (by decide) h (fun l4_8 h => ?_)
      refine ux_aload_n C dX8_setMode_62 2 rfl ?_
      refine ux_get C fl_X8_7 dX8_setMode_63 (oM W0) rfl ?_
      refine ux_bipush (v := 7) C dX8_setMode_66 (by decide) ?_
      refine ux_iload_n C dX8_setMode_68 3 rfl ?_
      refine ux_iastK (j := 7) C (aM_a W0) dX8_setMode_69 (by decide) (by decide) h (fun st_9 h => ?_)
      refine ux_aload_n C dX8_setMode_70 2 rfl ?_
      refine ux_get C fl_X8_7 dX8_setMode_71 (oM W0) rfl ?_
      refine ux_bipush (v := 8) C dX8_setMode_74 (by decide) ?_
      refine ux_iload_n C dX8_setMode_76 4 rfl ?_
      refine ux_iastK (j := 8) C (aM_a W0) dX8_setMode_77 (by decide) (by decide) h (fun st_10 h => ?_)
      refine ux_iload C dX8_setMode_78 0 rfl ?_
      exact ux_iretS C hr dX8_setMode_80 h (Nat.le_of_ble_eq_true rfl) (Nat.le_of_ble_eq_true rfl)
  obtain ⟨j_11, hK_11, h⟩ := oj0_some h
  have hJ_11 : j_11 = some (r, s9) → uW M V (uEnd M V 0 0 (some (.int r)) s9) 5 0 0 40 [(0, .ref (vA V 0)), (1, .int p1), (2, .int p2)] [] st_1 := by
    intro h
    replace h := hK_11 h
    refine ux_iconst (v := 0) C dX8_setMode_40 (by decide) ?_
    exact hJ_3 (0 : Int32) h
  refine ux_if_eq C dX8_setMode_11 h (fun h => ?_) (fun h => ?_)
  · exact hJ_11 h
  · refine ux_iload_n C dX8_setMode_14 1 rfl ?_
    refine ux_iconst (v := 1) C dX8_setMode_15 (by decide) ?_
    refine ux_icmp_ne C dX8_setMode_16 h (fun h => ?_) (fun h => ?_)
    · refine ux_iload_n C dX8_setMode_19 2 rfl ?_
      refine ux_iconst (v := 1) C dX8_setMode_20 (by decide) ?_
      refine ux_bipush (v := 99) C dX8_setMode_21 (by decide) ?_
      obtain ⟨x_12, h1, h⟩ := ob_some h
      refine ux_callSi C cs_X8_59 dX8_setMode_23 (kX8_isIn W0 h1) rfl (Nat.le_of_ble_eq_true rfl) ⟨(Nat.le_of_ble_eq_true rfl), (Nat.le_of_ble_eq_true rfl)⟩ ⟨(Nat.le_of_ble_eq_true rfl), (Nat.le_of_ble_eq_true rfl)⟩ ?_ rfl
      refine ux_if_eq C dX8_setMode_26 h (fun h => ?_) (fun h => ?_)
      · exact hJ_11 h
      · refine ux_goto C dX8_setMode_29 ?_
        refine ux_iconst (v := 1) C dX8_setMode_36 (by decide) ?_
        refine ux_goto C dX8_setMode_37 ?_
        exact hJ_3 (1 : Int32) h
    · refine ux_iload_n C dX8_setMode_32 2 rfl ?_
      refine ux_if_ne C dX8_setMode_33 h (fun h => ?_) (fun h => ?_)
      · refine ux_iconst (v := 1) C dX8_setMode_36 (by decide) ?_
        refine ux_goto C dX8_setMode_37 ?_
        exact hJ_3 (1 : Int32) h
      · exact hJ_11 h
set_option maxRecDepth 100000 in
set_option maxHeartbeats 4000000 in
theorem kX8_setPower {l : Launch} {V : uV} (W0 : uWM l V) {p1 : Int32} {st : uSt} {r : Int32} {s9 : uSt} (h : fX8_setPower p1 st = some (r, s9)) : uMet l V yX8_setPower cX8_setPower 3 (some .boolean) 0 0 0 0 [.ref (vA V 0), .int p1] st (some (.int r)) s9 := by
  refine ux_met W0.1 W0.2.1 (by decide) rfl (Nat.le_of_ble_eq_true rfl) (fun M hL hr C => ?_)
  subst hL
  have C : uCx M V cX8_setPower 3 RX8 0 0 0 0 := C
  unfold fX8_setPower at h
  refine ux_aload_n C dX8_setPower_0 0 rfl ?_
  refine ux_iconst (v := 0) C dX8_setPower_1 (by decide) ?_
  refine ux_puti C fp_X8_49 dX8_setPower_2 (oM W0) (Nat.le_of_ble_eq_true rfl) rfl h (fun st_1 h => ?_)
  refine ux_aload_n C dX8_setPower_5 0 rfl ?_
  refine ux_get C fl_X8_7 dX8_setPower_6 (oM W0) rfl ?_
  refine ux_bipush (v := 27) C dX8_setPower_9 (by decide) ?_
  refine ux_ialdK (j := 27) C (aM_a W0) dX8_setPower_11 (by decide) (by decide) ?_
  refine ux_iconst (v := 1) C dX8_setPower_12 (by decide) ?_
  obtain ⟨j_2, hK_2, h⟩ := oj1_some h
  have hJ_2 : ∀ (v_3 : Int32), j_2 v_3 = some (r, s9) → uW M V (uEnd M V 0 0 (some (.int r)) s9) 3 0 0 21 [(0, .ref (vA V 0)), (1, .int p1)] [.int v_3] st_1 := by
    intro v_3 h
    replace h := hK_2 v_3 h
    refine ux_istoreK_n C dX8_setPower_21 rfl (by decide) ?_
    refine ux_aload_n C dX8_setPower_22 1 rfl ?_
    refine ux_get C fl_X8_7 dX8_setPower_23 (oM W0) rfl ?_
    refine ux_bipush (v := 27) C dX8_setPower_26 (by decide) ?_
    refine ux_iload_n C dX8_setPower_28 2 rfl ?_
    obtain ⟨j_5, hK_5, h⟩ := oj1_some h
    have hJ_5 : ∀ (v_6 : Int32), j_5 v_6 = some (r, s9) → uW M V (uEnd M V 0 0 (some (.int r)) s9) 3 0 0 37 [(2, .int v_3)] [.int v_6, .int (27 : Int32), .ref (vA V 1)] st_1 := by
      intro v_6 h
      replace h := hK_5 v_6 h
      refine ux_iastK (j := 27) C (aM_a W0) dX8_setPower_37 (by decide) (by decide) h (fun st_7 h => ?_)
      refine ux_iload_n C dX8_setPower_38 0 rfl ?_
      exact ux_zretS C hr dX8_setPower_39 h (Nat.le_of_ble_eq_true rfl) (Nat.le_of_ble_eq_true rfl)
    refine ux_if_eq C dX8_setPower_29 h (fun h => ?_) (fun h => ?_)
    · refine ux_iconst (v := 0) C dX8_setPower_36 (by decide) ?_
      refine ux_sub [0] rfl ?_
      exact hJ_5 (0 : Int32) h
    · refine ux_iconst (v := 1) C dX8_setPower_32 (by decide) ?_
      refine ux_goto C dX8_setPower_33 ?_
      refine ux_sub [0] rfl ?_
      exact hJ_5 (1 : Int32) h
  refine ux_icmp_ne C dX8_setPower_13 h (fun h => ?_) (fun h => ?_)
  · refine ux_iconst (v := 1) C dX8_setPower_16 (by decide) ?_
    refine ux_goto C dX8_setPower_17 ?_
    exact hJ_2 (1 : Int32) h
  · refine ux_iconst (v := 0) C dX8_setPower_20 (by decide) ?_
    exact hJ_2 (0 : Int32) h
set_option maxRecDepth 100000 in
set_option maxHeartbeats 4000000 in
theorem kX8_drains {l : Launch} {V : uV} (W0 : uWM l V) {p1 : Int32} {st : uSt} {s9 : uSt} (h : fX8_drains p1 st = some ((), s9)) : uMet l V yX8_drains cX8_drains 3 none 0 0 0 0 [.ref (vA V 0), .int p1] st none s9 := by
  refine ux_met W0.1 W0.2.1 (by decide) rfl (Nat.le_of_ble_eq_true rfl) (fun M hL hr C => ?_)
  subst hL
  have C : uCx M V cX8_drains 3 RX8 0 0 0 0 := C
  unfold fX8_drains at h
  refine ux_aload_n C dX8_drains_0 0 rfl ?_
  refine ux_get C fl_X8_7 dX8_drains_1 (oM W0) rfl ?_
  refine ux_bipush (v := 28) C dX8_drains_4 (by decide) ?_
  refine ux_ialdK (j := 28) C (aM_a W0) dX8_drains_6 (by decide) (by decide) ?_
  refine ux_aload_n C dX8_drains_7 0 rfl ?_
  refine ux_get C fl_X8_7 dX8_drains_8 (oM W0) rfl ?_
  refine ux_iconst (v := 4) C dX8_drains_11 (by decide) ?_
  refine ux_ialdK (j := 4) C (aM_a W0) dX8_drains_12 (by decide) (by decide) ?_
  refine ux_idiv C dX8_drains_13 h (fun h => ?_)
  refine ux_istore_n C dX8_drains_14 (fun z => [(2, .int z), (0, .ref (vA V 0)), (1, .int p1)]) (fun _ => rfl) (by decide) h (fun l2_1 h => ?_)
  refine ux_aload_n C dX8_drains_15 1 rfl ?_
  refine ux_get C fl_X8_7 dX8_drains_16 (oM W0) rfl ?_
  refine ux_iconst (v := 1) C dX8_drains_19 (by decide) ?_
  refine ux_dup2 C dX8_drains_20 rfl rfl ?_
  refine ux_ialdK (j := 1) C (aM_a W0) dX8_drains_21 (by decide) (by decide) ?_
  refine ux_iload_n C dX8_drains_22 2 rfl ?_
  refine ux_isub C dX8_drains_23 ?_
  refine ux_iastK (j := 1) C (aM_a W0) dX8_drains_24 (by decide) (by decide) h (fun st_2 h => ?_)
  refine ux_aload_n C dX8_drains_25 1 rfl ?_
  refine ux_get C fl_X8_7 dX8_drains_26 (oM W0) rfl ?_
  refine ux_bipush (v := 28) C dX8_drains_29 (by decide) ?_
  refine ux_dup2 C dX8_drains_31 rfl rfl ?_
  refine ux_ialdK (j := 28) C (aM_a W0) dX8_drains_32 (by decide) (by decide) ?_
  refine ux_iload_n C dX8_drains_33 2 rfl ?_
  refine ux_iadd C dX8_drains_34 ?_
  refine ux_iastK (j := 28) C (aM_a W0) dX8_drains_35 (by decide) (by decide) h (fun st_3 h => ?_)
  refine ux_aload_n C dX8_drains_36 1 rfl ?_
  refine ux_get C fl_X8_7 dX8_drains_37 (oM W0) rfl ?_
  refine ux_iconst (v := 0) C dX8_drains_40 (by decide) ?_
  refine ux_dup2 C dX8_drains_41 rfl rfl ?_
  refine ux_ialdK (j := 0) C (aM_a W0) dX8_drains_42 (by decide) (by decide) ?_
  refine ux_aload_n C dX8_drains_43 1 rfl ?_
  refine ux_get C fl_X8_7 dX8_drains_44 (oM W0) rfl ?_
  refine ux_bipush (v := 28) C dX8_drains_47 (by decide) ?_
  refine ux_ialdK (j := 28) C (aM_a W0) dX8_drains_49 (by decide) (by decide) ?_
  refine ux_aload_n C dX8_drains_50 1 rfl ?_
  refine ux_get C fl_X8_7 dX8_drains_51 (oM W0) rfl ?_
  refine ux_iconst (v := 4) C dX8_drains_54 (by decide) ?_
  refine ux_ialdK (j := 4) C (aM_a W0) dX8_drains_55 (by decide) (by decide) ?_
  refine ux_idiv C dX8_drains_56 h (fun h => ?_)
  refine ux_iload_n C dX8_drains_57 0 rfl ?_
  refine ux_isub C dX8_drains_58 ?_
  refine ux_isub C dX8_drains_59 ?_
  refine ux_iastK (j := 0) C (aM_a W0) dX8_drains_60 (by decide) (by decide) h (fun st_4 h => ?_)
  refine ux_aload_n C dX8_drains_61 1 rfl ?_
  refine ux_get C fl_X8_7 dX8_drains_62 (oM W0) rfl ?_
  refine ux_iconst (v := 0) C dX8_drains_65 (by decide) ?_
  refine ux_ialdK (j := 0) C (aM_a W0) dX8_drains_66 (by decide) (by decide) ?_
  refine ux_iconst (v := 1) C dX8_drains_67 (by decide) ?_
  obtain ⟨j_5, hK_5, h⟩ := oj1_some h
  have hJ_5 : ∀ (st_6 : uSt), j_5 st_6 = some ((), s9) → uW M V (uEnd M V 0 0 none s9) 3 0 0 78 [(0, .ref (vA V 0))] [] st_6 := by
    intro st_6 h
    replace h := hK_5 st_6 h
    refine ux_aload_n C dX8_drains_78 0 rfl ?_
    refine ux_get C fl_X8_7 dX8_drains_79 (oM W0) rfl ?_
    refine ux_iconst (v := 1) C dX8_drains_82 (by decide) ?_
    refine ux_ialdK (j := 1) C (aM_a W0) dX8_drains_83 (by decide) (by decide) ?_
    refine ux_aload_n C dX8_drains_84 0 rfl ?_
    refine ux_get C fl_X8_7 dX8_drains_85 (oM W0) rfl ?_
    refine ux_iconst (v := 0) C dX8_drains_88 (by decide) ?_
    refine ux_ialdK (j := 0) C (aM_a W0) dX8_drains_89 (by decide) (by decide) ?_
    refine ux_icmp_le C dX8_drains_90 h (fun h => ?_) (fun h => ?_)
    · exact ux_vret C hr dX8_drains_105 h (Nat.le_of_ble_eq_true rfl) (Nat.le_of_ble_eq_true rfl)
    · refine ux_aload_n C dX8_drains_93 0 rfl ?_
      refine ux_get C fl_X8_7 dX8_drains_94 (oM W0) rfl ?_
      refine ux_iconst (v := 1) C dX8_drains_97 (by decide) ?_
      refine ux_aload_n C dX8_drains_98 0 rfl ?_
      refine ux_get C fl_X8_7 dX8_drains_99 (oM W0) rfl ?_
      refine ux_iconst (v := 0) C dX8_drains_102 (by decide) ?_
      refine ux_ialdK (j := 0) C (aM_a W0) dX8_drains_103 (by decide) (by decide) ?_
      refine ux_iastK (j := 1) C (aM_a W0) dX8_drains_104 (by decide) (by decide) h (fun st_7 h => ?_)
      exact ux_vret C hr dX8_drains_105 h (Nat.le_of_ble_eq_true rfl) (Nat.le_of_ble_eq_true rfl)
  refine ux_icmp_ge C dX8_drains_68 h (fun h => ?_) (fun h => ?_)
  · refine ux_sub [1] rfl ?_
    exact hJ_5 st_4 h
  · refine ux_aload_n C dX8_drains_71 1 rfl ?_
    refine ux_get C fl_X8_7 dX8_drains_72 (oM W0) rfl ?_
    refine ux_iconst (v := 0) C dX8_drains_75 (by decide) ?_
    refine ux_iconst (v := 1) C dX8_drains_76 (by decide) ?_
    refine ux_iastK (j := 0) C (aM_a W0) dX8_drains_77 (by decide) (by decide) h (fun st_8 h => ?_)
    refine ux_sub [1] rfl ?_
    exact hJ_5 st_8 h
set_option maxRecDepth 100000 in
set_option maxHeartbeats 4000000 in
theorem kX8_minuteWithout {l : Launch} {V : uV} (W0 : uWM l V) {st : uSt} {s9 : uSt} (h : fX8_minuteWithout st = some ((), s9)) : uMet l V yX8_minuteWithout cX8_minuteWithout 1 none 1 22 0 0 [.ref (vA V 0)] st none s9 := by
  refine ux_met W0.1 W0.2.1 (by decide) rfl (Nat.le_of_ble_eq_true rfl) (fun M hL hr C => ?_)
  subst hL
  have C : uCx M V cX8_minuteWithout 1 RX8 1 22 0 0 := C
  unfold fX8_minuteWithout at h
  refine ux_aload_n C dX8_minuteWithout_0 0 rfl ?_
  refine ux_aload_n C dX8_minuteWithout_1 0 rfl ?_
  refine ux_get C fl_X8_7 dX8_minuteWithout_2 (oM W0) rfl ?_
  refine ux_iconst (v := 3) C dX8_minuteWithout_5 (by decide) ?_
  refine ux_ialdK (j := 3) C (aM_a W0) dX8_minuteWithout_6 (by decide) (by decide) ?_
  refine ux_aload_n C dX8_minuteWithout_7 0 rfl ?_
  refine ux_get C fl_X8_7 dX8_minuteWithout_8 (oM W0) rfl ?_
  refine ux_iconst (v := 1) C dX8_minuteWithout_11 (by decide) ?_
  refine ux_ialdK (j := 1) C (aM_a W0) dX8_minuteWithout_12 (by decide) (by decide) ?_
  obtain ⟨j_1, hK_1, h⟩ := oj1_some h
  have hJ_1 : ∀ (v_2 : Int32), j_1 v_2 = some ((), s9) → uW M V (uEnd M V 0 0 none s9) 1 0 0 31 [] [.int v_2, .ref (vA V 0)] st := by
    intro v_2 h
    replace h := hK_1 v_2 h
    obtain ⟨st_3, h1, h⟩ := obV_some h
    refine ux_callVv C cv_X8_215 dX8_minuteWithout_31 (oM W0) rfl (kX8_drains W0 h1) rfl (Nat.le_of_ble_eq_true rfl) ⟨(Nat.le_of_ble_eq_true rfl), (Nat.le_of_ble_eq_true rfl)⟩ ⟨(Nat.le_of_ble_eq_true rfl), (Nat.le_of_ble_eq_true rfl)⟩ ?_ rfl
    exact ux_vret C hr dX8_minuteWithout_34 h (Nat.le_of_ble_eq_true rfl) (Nat.le_of_ble_eq_true rfl)
  refine ux_icmp_ge C dX8_minuteWithout_13 h (fun h => ?_) (fun h => ?_)
  · refine ux_aload_n C dX8_minuteWithout_25 0 rfl ?_
    refine ux_get C fl_X8_7 dX8_minuteWithout_26 (oM W0) rfl ?_
    refine ux_iconst (v := 1) C dX8_minuteWithout_29 (by decide) ?_
    refine ux_ialdK (j := 1) C (aM_a W0) dX8_minuteWithout_30 (by decide) (by decide) ?_
    refine ux_sub [] rfl ?_
    exact hJ_1 (st.1 1 1) h
  · refine ux_aload_n C dX8_minuteWithout_16 0 rfl ?_
    refine ux_get C fl_X8_7 dX8_minuteWithout_17 (oM W0) rfl ?_
    refine ux_iconst (v := 3) C dX8_minuteWithout_20 (by decide) ?_
    refine ux_ialdK (j := 3) C (aM_a W0) dX8_minuteWithout_21 (by decide) (by decide) ?_
    refine ux_goto C dX8_minuteWithout_22 ?_
    refine ux_sub [] rfl ?_
    exact hJ_1 (st.1 1 3) h
set_option maxRecDepth 100000 in
set_option maxHeartbeats 4000000 in
theorem wX8_advance_27 {M : uM} {V : uV} (W0 : uWM (mL M) V) (C : uCx M V cX8_advance 4 RX8 2 45 0 0) (hr : (mT M).sig.returnType = (some .int)) {l1 : Int32} {r : Int32} {s9 : uSt} {ke : uSt → Int32 → Option (Int32 × uSt)} (K : ∀ (st : uSt) (l2 : Int32), ke st l2 = some (r, s9) → uW M V (uEnd M V 0 0 (some (.int r)) s9) 4 0 0 176 [(0, .ref (vA V 0)), (2, .int l2)] [] st) : ∀ (n : Nat) (st : uSt) (l2 : Int32) (l3 : Int32), fX8_advance_27 l1 ke n st l2 l3 = some (r, s9) → uW M V (uEnd M V 0 0 (some (.int r)) s9) 4 0 0 27 [(0, .ref (vA V 0)), (1, .int l1), (2, .int l2), (3, .int l3)] [] st := by
  intro n
  induction n with
  | zero =>
    intro st l2 l3 h
    rw [fX8_advance_27] at h
    cases h
  | succ n ih =>
    intro st l2 l3 h
    rw [fX8_advance_27] at h
    refine ux_iload_n C dX8_advance_27 3 rfl ?_
    refine ux_iload_n C dX8_advance_28 1 rfl ?_
    refine ux_icmp_ge C dX8_advance_29 h (fun h => ?_) (fun h => ?_)
    · refine ux_sub [0, 2] rfl ?_
      exact K st l2 h
    · refine ux_aload_n C dX8_advance_32 0 rfl ?_
      refine ux_get C fl_X8_7 dX8_advance_33 (oM W0) rfl ?_
      refine ux_bipush (v := 26) C dX8_advance_36 (by decide) ?_
      refine ux_dup2 C dX8_advance_38 rfl rfl ?_
      refine ux_ialdK (j := 26) C (aM_a W0) dX8_advance_39 (by decide) (by decide) ?_
      refine ux_iconst (v := 1) C dX8_advance_40 (by decide) ?_
      refine ux_iadd C dX8_advance_41 ?_
      refine ux_iastK (j := 26) C (aM_a W0) dX8_advance_42 (by decide) (by decide) h (fun st_7 h => ?_)
      refine ux_aload_n C dX8_advance_43 0 rfl ?_
      refine ux_get C fl_X8_7 dX8_advance_44 (oM W0) rfl ?_
      refine ux_bipush (v := 27) C dX8_advance_47 (by decide) ?_
      refine ux_ialdK (j := 27) C (aM_a W0) dX8_advance_49 (by decide) (by decide) ?_
      refine ux_iconst (v := 1) C dX8_advance_50 (by decide) ?_
      obtain ⟨j_8, hK_8, h⟩ := oj1_some h
      have hJ_8 : ∀ (st_9 : uSt), j_8 st_9 = some (r, s9) → uW M V (uEnd M V 0 0 (some (.int r)) s9) 4 0 0 111 [(0, .ref (vA V 0)), (1, .int l1), (2, .int l2), (3, .int l3)] [] st_9 := by
        intro st_9 h
        replace h := hK_8 st_9 h
        refine ux_aload_n C dX8_advance_111 0 rfl ?_
        refine ux_get C fl_X8_7 dX8_advance_112 (oM W0) rfl ?_
        refine ux_bipush (v := 27) C dX8_advance_115 (by decide) ?_
        refine ux_ialdK (j := 27) C (aM_a W0) dX8_advance_117 (by decide) (by decide) ?_
        refine ux_iconst (v := 1) C dX8_advance_118 (by decide) ?_
        refine ux_icmp_eq C dX8_advance_119 h (fun h => ?_) (fun h => ?_)
        · refine ux_iincK C dX8_advance_170 (by decide) 3 rfl (fun z => [(3, .int z), (0, .ref (vA V 0)), (1, .int l1), (2, .int l2)]) (fun _ => rfl) (by decide) h (fun l3_10 h => ?_)
          refine ux_goto C dX8_advance_173 ?_
          refine ux_sub [1, 2, 3, 0] rfl ?_
          exact ih _ _ _ h
        · refine ux_aload_n C dX8_advance_122 0 rfl ?_
          refine ux_get C fl_X8_7 dX8_advance_123 (oM W0) rfl ?_
          refine ux_iconst (v := 1) C dX8_advance_126 (by decide) ?_
          refine ux_ialdK (j := 1) C (aM_a W0) dX8_advance_127 (by decide) (by decide) ?_
          refine ux_if_le C dX8_advance_128 h (fun h => ?_) (fun h => ?_)
          · refine ux_iload_n C dX8_advance_134 2 rfl ?_
            refine ux_aload_n C dX8_advance_135 0 rfl ?_
            refine ux_aload_n C dX8_advance_136 0 rfl ?_
            obtain ⟨x_11, h1, h⟩ := ob_some h
            refine ux_callVi C cv_X8_221 dX8_advance_137 (oM W0) rfl (kX8_all W0 h1) rfl (Nat.le_of_ble_eq_true rfl) ⟨(Nat.le_of_ble_eq_true rfl), (Nat.le_of_ble_eq_true rfl)⟩ ⟨(Nat.le_of_ble_eq_true rfl), (Nat.le_of_ble_eq_true rfl)⟩ ?_ rfl
            obtain ⟨x_12, h1, h⟩ := ob_some h
            refine ux_callVi C cv_X8_187 dX8_advance_140 (oM W0) rfl (kX8_valueIn W0 h1) rfl (Nat.le_of_ble_eq_true rfl) ⟨(Nat.le_of_ble_eq_true rfl), (Nat.le_of_ble_eq_true rfl)⟩ ⟨(Nat.le_of_ble_eq_true rfl), (Nat.le_of_ble_eq_true rfl)⟩ ?_ rfl
            refine ux_iadd C dX8_advance_143 ?_
            refine ux_istore_n C dX8_advance_144 (fun z => [(2, .int z), (0, .ref (vA V 0)), (1, .int l1), (3, .int l3)]) (fun _ => rfl) (by decide) h (fun l2_13 h => ?_)
            refine ux_aload_n C dX8_advance_145 1 rfl ?_
            refine ux_get C fl_X8_7 dX8_advance_146 (oM W0) rfl ?_
            refine ux_bipush (v := 32) C dX8_advance_149 (by decide) ?_
            refine ux_dup2 C dX8_advance_151 rfl rfl ?_
            refine ux_ialdK (j := 32) C (aM_a W0) dX8_advance_152 (by decide) (by decide) ?_
            refine ux_aload_n C dX8_advance_153 1 rfl ?_
            refine ux_get C fl_X8_7 dX8_advance_154 (oM W0) rfl ?_
            refine ux_bipush (v := 36) C dX8_advance_157 (by decide) ?_
            refine ux_ialdK (j := 36) C (aM_a W0) dX8_advance_159 (by decide) (by decide) ?_
            refine ux_iadd C dX8_advance_160 ?_
            refine ux_iastK (j := 32) C (aM_a W0) dX8_advance_161 (by decide) (by decide) h (fun st_14 h => ?_)
            refine ux_aload_n C dX8_advance_162 1 rfl ?_
            refine ux_get C fl_X8_7 dX8_advance_163 (oM W0) rfl ?_
            refine ux_bipush (v := 36) C dX8_advance_166 (by decide) ?_
            refine ux_iconst (v := 0) C dX8_advance_168 (by decide) ?_
            refine ux_iastK (j := 36) C (aM_a W0) dX8_advance_169 (by decide) (by decide) h (fun st_15 h => ?_)
            refine ux_iincK C dX8_advance_170 (by decide) 3 rfl (fun z => [(3, .int z), (2, .int l2_13), (0, .ref (vA V 0)), (1, .int l1)]) (fun _ => rfl) (by decide) h (fun l3_16 h => ?_)
            refine ux_goto C dX8_advance_173 ?_
            refine ux_sub [2, 3, 1, 0] rfl ?_
            exact ih _ _ _ h
          · refine ux_goto C dX8_advance_131 ?_
            refine ux_iincK C dX8_advance_170 (by decide) 3 rfl (fun z => [(3, .int z), (0, .ref (vA V 0)), (1, .int l1), (2, .int l2)]) (fun _ => rfl) (by decide) h (fun l3_17 h => ?_)
            refine ux_goto C dX8_advance_173 ?_
            refine ux_sub [1, 2, 3, 0] rfl ?_
            exact ih _ _ _ h
      refine ux_icmp_ne C dX8_advance_51 h (fun h => ?_) (fun h => ?_)
      · refine ux_aload_n C dX8_advance_54 0 rfl ?_
        refine ux_get C fl_X8_7 dX8_advance_55 (oM W0) rfl ?_
        refine ux_iconst (v := 1) C dX8_advance_58 (by decide) ?_
        refine ux_aload_n C dX8_advance_59 0 rfl ?_
        refine ux_get C fl_X8_7 dX8_advance_60 (oM W0) rfl ?_
        refine ux_iconst (v := 1) C dX8_advance_63 (by decide) ?_
        refine ux_ialdK (j := 1) C (aM_a W0) dX8_advance_64 (by decide) (by decide) ?_
        refine ux_aload_n C dX8_advance_65 0 rfl ?_
        refine ux_get C fl_X8_7 dX8_advance_66 (oM W0) rfl ?_
        refine ux_iconst (v := 2) C dX8_advance_69 (by decide) ?_
        refine ux_ialdK (j := 2) C (aM_a W0) dX8_advance_70 (by decide) (by decide) ?_
        refine ux_iadd C dX8_advance_71 ?_
        refine ux_aload_n C dX8_advance_72 0 rfl ?_
        refine ux_get C fl_X8_7 dX8_advance_73 (oM W0) rfl ?_
        refine ux_iconst (v := 0) C dX8_advance_76 (by decide) ?_
        refine ux_ialdK (j := 0) C (aM_a W0) dX8_advance_77 (by decide) (by decide) ?_
        obtain ⟨j_18, hK_18, h⟩ := oj1_some h
        have hJ_18 : ∀ (v_19 : Int32), j_18 v_19 = some (r, s9) → uW M V (uEnd M V 0 0 (some (.int r)) s9) 4 0 0 103 [(0, .ref (vA V 0)), (1, .int l1), (2, .int l2), (3, .int l3)] [.int v_19, .int (1 : Int32), .ref (vA V 1)] st_7 := by
          intro v_19 h
          replace h := hK_18 v_19 h
          refine ux_iastK (j := 1) C (aM_a W0) dX8_advance_103 (by decide) (by decide) h (fun st_20 h => ?_)
          refine ux_goto C dX8_advance_104 ?_
          exact hJ_8 st_20 h
        refine ux_icmp_ge C dX8_advance_78 h (fun h => ?_) (fun h => ?_)
        · refine ux_aload_n C dX8_advance_97 0 rfl ?_
          refine ux_get C fl_X8_7 dX8_advance_98 (oM W0) rfl ?_
          refine ux_iconst (v := 0) C dX8_advance_101 (by decide) ?_
          refine ux_ialdK (j := 0) C (aM_a W0) dX8_advance_102 (by decide) (by decide) ?_
          exact hJ_18 (st_7.1 1 0) h
        · refine ux_aload_n C dX8_advance_81 0 rfl ?_
          refine ux_get C fl_X8_7 dX8_advance_82 (oM W0) rfl ?_
          refine ux_iconst (v := 1) C dX8_advance_85 (by decide) ?_
          refine ux_ialdK (j := 1) C (aM_a W0) dX8_advance_86 (by decide) (by decide) ?_
          refine ux_aload_n C dX8_advance_87 0 rfl ?_
          refine ux_get C fl_X8_7 dX8_advance_88 (oM W0) rfl ?_
          refine ux_iconst (v := 2) C dX8_advance_91 (by decide) ?_
          refine ux_ialdK (j := 2) C (aM_a W0) dX8_advance_92 (by decide) (by decide) ?_
          refine ux_iadd C dX8_advance_93 ?_
          refine ux_goto C dX8_advance_94 ?_
          exact hJ_18 ((st_7.1 1 1) + (st_7.1 1 2)) h
      · refine ux_aload_n C dX8_advance_107 0 rfl ?_
        obtain ⟨st_21, h1, h⟩ := obV_some h
        refine ux_callVv C cv_X8_218 dX8_advance_108 (oM W0) rfl (kX8_minuteWithout W0 h1) rfl (Nat.le_of_ble_eq_true rfl) ⟨(Nat.le_of_ble_eq_true rfl), (Nat.le_of_ble_eq_true rfl)⟩ ⟨(Nat.le_of_ble_eq_true rfl), (Nat.le_of_ble_eq_true rfl)⟩ ?_ rfl
        exact hJ_8 st_21 h
set_option maxRecDepth 100000 in
set_option maxHeartbeats 4000000 in
theorem kX8_advance {l : Launch} {V : uV} (W0 : uWM l V) {p1 : Int32} {st : uSt} {r : Int32} {s9 : uSt} (h : fX8_advance p1 st = some (r, s9)) : uMet l V yX8_advance cX8_advance 4 (some .int) 2 45 0 0 [.ref (vA V 0), .int p1] st (some (.int r)) s9 := by
  refine ux_met W0.1 W0.2.1 (by decide) rfl (Nat.le_of_ble_eq_true rfl) (fun M hL hr C => ?_)
  subst hL
  have C : uCx M V cX8_advance 4 RX8 2 45 0 0 := C
  unfold fX8_advance at h
  refine ux_aload_n C dX8_advance_0 0 rfl ?_
  refine ux_iconst (v := 0) C dX8_advance_1 (by decide) ?_
  refine ux_puti C fp_X8_49 dX8_advance_2 (oM W0) (Nat.le_of_ble_eq_true rfl) rfl h (fun st_1 h => ?_)
  refine ux_aload_n C dX8_advance_5 0 rfl ?_
  refine ux_iload_n C dX8_advance_6 1 rfl ?_
  refine ux_iconst (v := 1) C dX8_advance_7 (by decide) ?_
  refine ux_sipush (v := 1000) C dX8_advance_8 (by decide) ?_
  obtain ⟨x_2, h1, h⟩ := ob_some h
  refine ux_callSi C cs_X8_59 dX8_advance_11 (kX8_isIn W0 h1) rfl (Nat.le_of_ble_eq_true rfl) ⟨(Nat.le_of_ble_eq_true rfl), (Nat.le_of_ble_eq_true rfl)⟩ ⟨(Nat.le_of_ble_eq_true rfl), (Nat.le_of_ble_eq_true rfl)⟩ ?_ rfl
  refine ux_iconst (v := 1) C dX8_advance_14 (by decide) ?_
  obtain ⟨x_4, st_3, h1, h⟩ := obS_some h
  refine ux_callVi C cv_X8_55 dX8_advance_15 (oM W0) rfl (kX8_may W0 h1) rfl (Nat.le_of_ble_eq_true rfl) ⟨(Nat.le_of_ble_eq_true rfl), (Nat.le_of_ble_eq_true rfl)⟩ ⟨(Nat.le_of_ble_eq_true rfl), (Nat.le_of_ble_eq_true rfl)⟩ ?_ rfl
  refine ux_if_ne C dX8_advance_18 h (fun h => ?_) (fun h => ?_)
  · refine ux_iconst (v := 0) C dX8_advance_21 (by decide) ?_
    exact ux_iretS C hr dX8_advance_22 h (Nat.le_of_ble_eq_true rfl) (Nat.le_of_ble_eq_true rfl)
  · refine ux_iconst (v := 0) C dX8_advance_23 (by decide) ?_
    refine ux_istoreK_n C dX8_advance_24 rfl (by decide) ?_
    refine ux_iconst (v := 0) C dX8_advance_25 (by decide) ?_
    refine ux_istoreK_n C dX8_advance_26 rfl (by decide) ?_
    refine ux_sub [2, 3, 1, 0] rfl ?_
    refine wX8_advance_27 W0 C hr (fun st_23 l2_22 h => ?_) _ _ _ _ h
    refine ux_aload_n C dX8_advance_176 0 rfl ?_
    refine ux_get C fl_X8_7 dX8_advance_177 (oM W0) rfl ?_
    refine ux_bipush (v := 34) C dX8_advance_180 (by decide) ?_
    refine ux_dup2 C dX8_advance_182 rfl rfl ?_
    refine ux_ialdK (j := 34) C (aM_a W0) dX8_advance_183 (by decide) (by decide) ?_
    refine ux_iload_n C dX8_advance_184 1 rfl ?_
    refine ux_iadd C dX8_advance_185 ?_
    refine ux_iastK (j := 34) C (aM_a W0) dX8_advance_186 (by decide) (by decide) h (fun st_24 h => ?_)
    refine ux_iload_n C dX8_advance_187 1 rfl ?_
    exact ux_iretS C hr dX8_advance_188 h (Nat.le_of_ble_eq_true rfl) (Nat.le_of_ble_eq_true rfl)
