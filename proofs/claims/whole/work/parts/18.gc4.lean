theorem at_ok {ws : List Cond} (h : ws.all (fun w => (goodWord w && decide (w ∈ lw_tbl)) || (decide (w ∈ uDecl.map Cond.declares) || decide (w ∈ uCast.map (fun q => Cond.castable q.1 q.2)))) = true) : ∀ w ∈ ws, w ∈ gw ∨ (∃ x ∈ uDecl, w = .declares x) ∨ ∃ q ∈ uCast, w = .castable q.1 q.2 := by
  intro w hw
  have h1 := List.all_eq_true.mp h w hw
  simp only [Bool.or_eq_true, Bool.and_eq_true, decide_eq_true_eq] at h1
  rcases h1 with ⟨a, b⟩ | h1 | h1
  · exact Or.inl (List.mem_filter.mpr ⟨b, a⟩)
  · obtain ⟨x, hx, e⟩ := List.mem_map.mp h1
    exact Or.inr (Or.inl ⟨x, hx, e.symm⟩)
  · obtain ⟨q, hq, e⟩ := List.mem_map.mp h1
    exact Or.inr (Or.inr ⟨q, hq, e.symm⟩)
theorem ta_X7_98 : (∀ w ∈ vx_atS RX7 98 "java/lang/IndexOutOfBoundsException" ["java/lang/RuntimeException", "java/lang/Exception"], w ∈ gw ∨ (∃ x ∈ uDecl, w = .declares x) ∨ ∃ q ∈ uCast, w = .castable q.1 q.2) ∧ ∀ w ∈ vx_atS RX7 98 "java/lang/IndexOutOfBoundsException" ["java/lang/RuntimeException", "java/lang/Exception"], vx_ot w = true := ⟨at_ok (by decide +kernel), by decide +kernel⟩
theorem th_X7_requireDevice_18 : uTh RX7 94 307 98 "java/lang/IndexOutOfBoundsException" := ⟨"no such device", ["java/lang/RuntimeException", "java/lang/Exception"], rfl, by decide, by decide, gw_at 525 (by decide +kernel) (by decide +kernel), gw_at 96 (by decide +kernel) (by decide +kernel), by decide +kernel, ta_X7_98.1, ta_X7_98.2⟩
theorem th_X7_requireAddress_10 : uTh RX7 94 309 98 "java/lang/IndexOutOfBoundsException" := ⟨"no such address", ["java/lang/RuntimeException", "java/lang/Exception"], rfl, by decide, by decide, gw_at 525 (by decide +kernel) (by decide +kernel), gw_at 96 (by decide +kernel) (by decide +kernel), by decide +kernel, ta_X7_98.1, ta_X7_98.2⟩
theorem th_X7_requireBlock_18 : uTh RX7 94 311 98 "java/lang/IndexOutOfBoundsException" := ⟨"no such dirty block", ["java/lang/RuntimeException", "java/lang/Exception"], rfl, by decide, by decide, gw_at 525 (by decide +kernel) (by decide +kernel), gw_at 96 (by decide +kernel) (by decide +kernel), by decide +kernel, ta_X7_98.1, ta_X7_98.2⟩
theorem th_X7_requireSlot_9 : uTh RX7 94 313 98 "java/lang/IndexOutOfBoundsException" := ⟨"no such slot", ["java/lang/RuntimeException", "java/lang/Exception"], rfl, by decide, by decide, gw_at 525 (by decide +kernel) (by decide +kernel), gw_at 96 (by decide +kernel) (by decide +kernel), by decide +kernel, ta_X7_98.1, ta_X7_98.2⟩
theorem ta_X7_113 : (∀ w ∈ vx_atS RX7 113 "java/lang/IllegalArgumentException" ["java/lang/RuntimeException", "java/lang/Exception"], w ∈ gw ∨ (∃ x ∈ uDecl, w = .declares x) ∨ ∃ q ∈ uCast, w = .castable q.1 q.2) ∧ ∀ w ∈ vx_atS RX7 113 "java/lang/IllegalArgumentException" ["java/lang/RuntimeException", "java/lang/Exception"], vx_ot w = true := ⟨at_ok (by decide +kernel), by decide +kernel⟩
theorem th_X7_requireSet_17 : uTh RX7 109 318 113 "java/lang/IllegalArgumentException" := ⟨"the set has other than dirty blocks", ["java/lang/RuntimeException", "java/lang/Exception"], rfl, by decide, by decide, gw_at 670 (by decide +kernel) (by decide +kernel), gw_at 101 (by decide +kernel) (by decide +kernel), by decide +kernel, ta_X7_113.1, ta_X7_113.2⟩
theorem th_X7_requireEnergy_11 : uTh RX7 109 320 113 "java/lang/IllegalArgumentException" := ⟨"energy out of range", ["java/lang/RuntimeException", "java/lang/Exception"], rfl, by decide, by decide, gw_at 670 (by decide +kernel) (by decide +kernel), gw_at 101 (by decide +kernel) (by decide +kernel), by decide +kernel, ta_X7_113.1, ta_X7_113.2⟩
theorem th_X7_requireWritable_21 : uTh RX7 109 282 113 "java/lang/IllegalArgumentException" := ⟨"value out of range", ["java/lang/RuntimeException", "java/lang/Exception"], rfl, by decide, by decide, gw_at 670 (by decide +kernel) (by decide +kernel), gw_at 101 (by decide +kernel) (by decide +kernel), by decide +kernel, ta_X7_113.1, ta_X7_113.2⟩
theorem ta_X7_87 : (∀ w ∈ vx_atS RX7 87 "java/lang/IllegalStateException" ["java/lang/RuntimeException", "java/lang/Exception"], w ∈ gw ∨ (∃ x ∈ uDecl, w = .declares x) ∨ ∃ q ∈ uCast, w = .castable q.1 q.2) ∧ ∀ w ∈ vx_atS RX7 87 "java/lang/IllegalStateException" ["java/lang/RuntimeException", "java/lang/Exception"], vx_ot w = true := ⟨at_ok (by decide +kernel), by decide +kernel⟩
theorem th_X7_requireWritable_57 : uTh RX7 83 322 87 "java/lang/IllegalStateException" := ⟨"the device cannot be written", ["java/lang/RuntimeException", "java/lang/Exception"], rfl, by decide, by decide, gw_at 445 (by decide +kernel) (by decide +kernel), gw_at 95 (by decide +kernel) (by decide +kernel), by decide +kernel, ta_X7_87.1, ta_X7_87.2⟩
theorem th_X7_append_13 : uTh RX7 83 85 87 "java/lang/IllegalStateException" := ⟨"the text would be too long", ["java/lang/RuntimeException", "java/lang/Exception"], rfl, by decide, by decide, gw_at 445 (by decide +kernel) (by decide +kernel), gw_at 95 (by decide +kernel) (by decide +kernel), by decide +kernel, ta_X7_87.1, ta_X7_87.2⟩
theorem th_X7_truncate_15 : uTh RX7 94 96 98 "java/lang/IndexOutOfBoundsException" := ⟨"no such length", ["java/lang/RuntimeException", "java/lang/Exception"], rfl, by decide, by decide, gw_at 525 (by decide +kernel) (by decide +kernel), gw_at 96 (by decide +kernel) (by decide +kernel), by decide +kernel, ta_X7_98.1, ta_X7_98.2⟩
theorem th_X7_load_48 : uTh RX7 109 111 113 "java/lang/IllegalArgumentException" := ⟨"the text has an error", ["java/lang/RuntimeException", "java/lang/Exception"], rfl, by decide, by decide, gw_at 670 (by decide +kernel) (by decide +kernel), gw_at 101 (by decide +kernel) (by decide +kernel), by decide +kernel, ta_X7_113.1, ta_X7_113.2⟩
theorem th_X7_report_153 : uTh RX7 109 152 113 "java/lang/IllegalArgumentException" := ⟨"no such report", ["java/lang/RuntimeException", "java/lang/Exception"], rfl, by decide, by decide, gw_at 670 (by decide +kernel) (by decide +kernel), gw_at 101 (by decide +kernel) (by decide +kernel), by decide +kernel, ta_X7_113.1, ta_X7_113.2⟩
theorem th_X7_device_156 : uTh RX7 109 152 113 "java/lang/IllegalArgumentException" := ⟨"no such report", ["java/lang/RuntimeException", "java/lang/Exception"], rfl, by decide, by decide, gw_at 670 (by decide +kernel) (by decide +kernel), gw_at 101 (by decide +kernel) (by decide +kernel), by decide +kernel, ta_X7_113.1, ta_X7_113.2⟩
theorem th_X7_block_96 : uTh RX7 109 152 113 "java/lang/IllegalArgumentException" := ⟨"no such report", ["java/lang/RuntimeException", "java/lang/Exception"], rfl, by decide, by decide, gw_at 670 (by decide +kernel) (by decide +kernel), gw_at 101 (by decide +kernel) (by decide +kernel), by decide +kernel, ta_X7_113.1, ta_X7_113.2⟩
theorem ta_X7_212 : (∀ w ∈ un_atS RX7 212 "java/util/NoSuchElementException" "java/lang/RuntimeException" ["java/lang/Exception"], w ∈ gw ∨ (∃ x ∈ uDecl, w = .declares x) ∨ ∃ q ∈ uCast, w = .castable q.1 q.2) ∧ ∀ w ∈ un_atS RX7 212 "java/util/NoSuchElementException" "java/lang/RuntimeException" ["java/lang/Exception"], vx_ot w = true := ⟨at_ok (by decide +kernel), by decide +kernel⟩
theorem th_X7_find_28 : uTn RX7 208 210 212 "java/util/NoSuchElementException" := ⟨"the block is not dirty", "java/lang/RuntimeException", "java/lang/Exception", by decide, by decide, gw_at 774 (by decide +kernel) (by decide +kernel), gw_at 104 (by decide +kernel) (by decide +kernel), by decide +kernel, ta_X7_212.1, ta_X7_212.2⟩
theorem th_X7_oldest_13 : uTn RX7 208 213 212 "java/util/NoSuchElementException" := ⟨"no block is dirty", "java/lang/RuntimeException", "java/lang/Exception", by decide, by decide, gw_at 774 (by decide +kernel) (by decide +kernel), gw_at 104 (by decide +kernel) (by decide +kernel), by decide +kernel, ta_X7_212.1, ta_X7_212.2⟩
theorem th_X7_total_10 : uTh RX7 109 215 113 "java/lang/IllegalArgumentException" := ⟨"no such total", ["java/lang/RuntimeException", "java/lang/Exception"], rfl, by decide, by decide, gw_at 670 (by decide +kernel) (by decide +kernel), gw_at 101 (by decide +kernel) (by decide +kernel), by decide +kernel, ta_X7_113.1, ta_X7_113.2⟩
theorem th_X7_clean_30 : uTh RX7 83 236 87 "java/lang/IllegalStateException" := ⟨"the device cannot be cleaned", ["java/lang/RuntimeException", "java/lang/Exception"], rfl, by decide, by decide, gw_at 445 (by decide +kernel) (by decide +kernel), gw_at 95 (by decide +kernel) (by decide +kernel), by decide +kernel, ta_X7_87.1, ta_X7_87.2⟩
theorem th_X7_setMode_9 : uTh RX7 109 241 113 "java/lang/IllegalArgumentException" := ⟨"no such mode", ["java/lang/RuntimeException", "java/lang/Exception"], rfl, by decide, by decide, gw_at 670 (by decide +kernel) (by decide +kernel), gw_at 101 (by decide +kernel) (by decide +kernel), by decide +kernel, ta_X7_113.1, ta_X7_113.2⟩
theorem th_X7_setMode_54 : uTh RX7 109 243 113 "java/lang/IllegalArgumentException" := ⟨"no such threshold", ["java/lang/RuntimeException", "java/lang/Exception"], rfl, by decide, by decide, gw_at 670 (by decide +kernel) (by decide +kernel), gw_at 101 (by decide +kernel) (by decide +kernel), by decide +kernel, ta_X7_113.1, ta_X7_113.2⟩
theorem th_X7_advance_12 : uTh RX7 109 245 113 "java/lang/IllegalArgumentException" := ⟨"minutes out of range", ["java/lang/RuntimeException", "java/lang/Exception"], rfl, by decide, by decide, gw_at 670 (by decide +kernel) (by decide +kernel), gw_at 101 (by decide +kernel) (by decide +kernel), by decide +kernel, ta_X7_113.1, ta_X7_113.2⟩
theorem th_X7_flush_10 : uTh RX7 83 251 87 "java/lang/IllegalStateException" := ⟨"the power is on", ["java/lang/RuntimeException", "java/lang/Exception"], rfl, by decide, by decide, gw_at 445 (by decide +kernel) (by decide +kernel), gw_at 95 (by decide +kernel) (by decide +kernel), by decide +kernel, ta_X7_87.1, ta_X7_87.2⟩
theorem th_X7_flushDevice_73 : uTh RX7 83 263 87 "java/lang/IllegalStateException" := ⟨"the device cannot be flushed", ["java/lang/RuntimeException", "java/lang/Exception"], rfl, by decide, by decide, gw_at 445 (by decide +kernel) (by decide +kernel), gw_at 95 (by decide +kernel) (by decide +kernel), by decide +kernel, ta_X7_87.1, ta_X7_87.2⟩
theorem th_X7_energyFor_11 : uTh RX7 109 282 113 "java/lang/IllegalArgumentException" := ⟨"value out of range", ["java/lang/RuntimeException", "java/lang/Exception"], rfl, by decide, by decide, gw_at 670 (by decide +kernel) (by decide +kernel), gw_at 101 (by decide +kernel) (by decide +kernel), by decide +kernel, ta_X7_113.1, ta_X7_113.2⟩
theorem th_X7_energyFor_47 : uTn RX7 208 287 212 "java/util/NoSuchElementException" := ⟨"no energy is enough", "java/lang/RuntimeException", "java/lang/Exception", by decide, by decide, gw_at 774 (by decide +kernel) (by decide +kernel), gw_at 104 (by decide +kernel) (by decide +kernel), by decide +kernel, ta_X7_212.1, ta_X7_212.2⟩
theorem th_X7_extra_21 : uTh RX7 83 289 87 "java/lang/IllegalStateException" := ⟨"the block is on a failed device", ["java/lang/RuntimeException", "java/lang/Exception"], rfl, by decide, by decide, gw_at 445 (by decide +kernel) (by decide +kernel), gw_at 95 (by decide +kernel) (by decide +kernel), by decide +kernel, ta_X7_87.1, ta_X7_87.2⟩
theorem th_X7_valueAfter_11 : uTh RX7 109 245 113 "java/lang/IllegalArgumentException" := ⟨"minutes out of range", ["java/lang/RuntimeException", "java/lang/Exception"], rfl, by decide, by decide, gw_at 670 (by decide +kernel) (by decide +kernel), gw_at 101 (by decide +kernel) (by decide +kernel), by decide +kernel, ta_X7_113.1, ta_X7_113.2⟩
theorem th_X7_costliest_128 : uTn RX7 208 300 212 "java/util/NoSuchElementException" := ⟨"there is no such device", "java/lang/RuntimeException", "java/lang/Exception", by decide, by decide, gw_at 774 (by decide +kernel) (by decide +kernel), gw_at 104 (by decide +kernel) (by decide +kernel), by decide +kernel, ta_X7_212.1, ta_X7_212.2⟩
theorem th_X7_restore_14 : uTn RX7 208 305 212 "java/util/NoSuchElementException" := ⟨"nothing is saved there", "java/lang/RuntimeException", "java/lang/Exception", by decide, by decide, gw_at 774 (by decide +kernel) (by decide +kernel), gw_at 104 (by decide +kernel) (by decide +kernel), by decide +kernel, ta_X7_212.1, ta_X7_212.2⟩
def fX7_requireDevice  (p1 : Int32) (st : uSt) : Option ((Unit ⊕ String) × uSt) :=
  oj0 (some (.inr "java/lang/IndexOutOfBoundsException", st)) (fun j_1 => (if p1 < 0 then j_1 else (if p1 < (st.1 (15 + 3) 0) then some (.inl (), st) else j_1)))
def fX7_requireAddress  (p1 : Int32) (st : uSt) : Option ((Unit ⊕ String) × uSt) :=
  oj0 (some (.inr "java/lang/IndexOutOfBoundsException", st)) (fun j_1 => (if p1 < 0 then j_1 else (if p1 < (100 : Int32) then some (.inl (), st) else j_1)))
def fX7_requireBlock  (p1 : Int32) (st : uSt) : Option ((Unit ⊕ String) × uSt) :=
  oj0 (some (.inr "java/lang/IndexOutOfBoundsException", st)) (fun j_1 => (if p1 < 0 then j_1 else (if p1 < (st.1 (15 + 8) 0) then some (.inl (), st) else j_1)))
def fX7_requireSlot  (p1 : Int32) (st : uSt) : Option ((Unit ⊕ String) × uSt) :=
  oj0 (some (.inr "java/lang/IndexOutOfBoundsException", st)) (fun j_1 => (if p1 < 0 then j_1 else (if p1 < (2 : Int32) then some (.inl (), st) else j_1)))
def fX7_requireSet  (p1 : Int32) (st : uSt) : Option ((Unit ⊕ String) × uSt) :=
  ob (fX1_allBlocks (15 + 8) st) (fun x_1 => (if (p1 &&& (x_1 ^^^ (-1 : Int32))) = 0 then some (.inl (), st) else some (.inr "java/lang/IllegalArgumentException", st)))
def fX7_requireEnergy  (p1 : Int32) (st : uSt) : Option ((Unit ⊕ String) × uSt) :=
  oj0 (some (.inr "java/lang/IllegalArgumentException", st)) (fun j_1 => (if p1 < 0 then j_1 else (if p1 ≤ (500 : Int32) then some (.inl (), st) else j_1)))
def fX7_requireWritable  (p1 : Int32) (p2 : Int32) (p3 : Int32) (st : uSt) : Option ((Unit ⊕ String) × uSt) :=
  ox (fX7_requireDevice p1 st) (fun _ st_2 => ox (fX7_requireAddress p2 st_2) (fun _ st_4 => oj0 (some (.inr "java/lang/IllegalArgumentException", st_4)) (fun j_5 => (if p3 < (1 : Int32) then j_5 else (if p3 ≤ (99 : Int32) then oj0 (some (.inr "java/lang/IllegalStateException", st_4)) (fun j_6 => (if (st_4.1 15 6) = 0 then j_6 else og (inB p1 5) ((if (st_4.1 ((15 + 3) + 4) p1.toNatClampNeg) = 0 then some (.inl (), st_4) else j_6)))) else j_5)))))
def fX7_isGuarded  (p1 : Int32) (p2 : Int32) (st : uSt) : Option Int32 :=
  og (inB p1 5) ((if (st.1 ((15 + 3) + 4) p1.toNatClampNeg) = 0 then (if (st.1 (15 + 2) 2) = (1 : Int32) then (if p2 < (st.1 (15 + 2) 3) then some (0 : Int32) else some (1 : Int32)) else some (1 : Int32)) else some (0 : Int32)))
def fX7_isAllowed_106   (st : uSt) (ke : Int32 → Option (Int32 × uSt)) : Nat → Int32 → Int32 → Option (Int32 × uSt)
  | 0, _, _ => none
  | n + 1, l5, l6 =>
    (if (st.1 10 0) ≤ l6 then (ke l5) else og (inB l6 24) (og (inB l6 24) (ob (fX7_isGuarded (st.1 (10 + 1) l6.toNatClampNeg) (st.1 (10 + 3) l6.toNatClampNeg) st) (fun x_10 => (if x_10 = 0 then ol (l6 + 1) (fun l6_11 => fX7_isAllowed_106 st ke n l5 l6_11) else ol (l5 ||| ((1 : Int32) <<< (l6 &&& 31))) (fun l5_12 => ol (l6 + 1) (fun l6_13 => fX7_isAllowed_106 st ke n l5_12 l6_13)))))))
def fX7_isAllowed  (p1 : Int32) (p2 : Int32) (p3 : Int32) (st : uSt) : Option (Int32 × uSt) :=
  (if (st.1 (15 + 2) 2) = (2 : Int32) then some ((0 : Int32), st) else ob (fX1_indexOf (15 + 8) p1 p2 st) (fun x_1 => oj1 (fun (v_3 : Int32) => oj0 (obV (fX1_copyFrom 10 (15 + 8) st) (fun st_6 => obV (fX1_put 10 p1 p2 p3 (st_6.1 15 5) st_6) (fun st_7 => fX7_isAllowed_106 st_7 (fun l5_14 => ob (fX2_energyIn (15 + 3) 10 l5_14 st_7) (fun x_15 => (if ((st_7.1 (15 + 1) 1) - (st_7.1 (15 + 2) 0)) < x_15 then some ((0 : Int32), st_7) else some ((1 : Int32), st_7)))) FU (0 : Int32) (0 : Int32)))) (fun j_5 => (if v_3 = 0 then (if (st.1 (15 + 8) 0) < (st.1 (15 + 2) 1) then j_5 else some ((0 : Int32), st)) else j_5))) (fun j_2 => (if x_1 = (-1 : Int32) then (j_2 (0 : Int32)) else (j_2 (1 : Int32))))))
def fX7_flushSet  (p1 : Int32) (st : uSt) : Option (Int32 × uSt) :=
  ob (fX1_valueIn (15 + 8) p1 st) (fun x_1 => ob (fX2_energyIn (15 + 3) (15 + 8) p1 st) (fun x_3 => obV (fX0_spend (15 + 1) x_3 st) (fun st_4 => obV (fX1_removeSet (15 + 8) p1 st_4) (fun st_5 => ob (fJ6_bitCount_0f7a4 p1) (fun x_6 => ol (sI st_5 (15 + 13) 2 ((st_5.1 (15 + 13) 2) + x_6)) (fun st_7 => ol (sI st_7 (15 + 13) 4 ((st_7.1 (15 + 13) 4) + x_1)) (fun st_8 => some (x_1, st_8))))))))
def fX7_valueFor  (p1 : Int32) (p2 : Int32) (st : uSt) : Option (Int32 × uSt) :=
  obS (fX4_best 15 p1 p2 st) (fun x_2 st_1 => ob (fX1_valueIn (15 + 8) x_2 st_1) (fun x_3 => some (x_3, st_1)))
def fX7_greedyBlocks_13  (l1 : Int32) (st : uSt) (ke : Int32 → Option Int32) : Nat → Int32 → Int32 → Int32 → Option Int32
  | 0, _, _, _ => none
  | n + 1, l2, l3, l4 =>
    (if (24 : Int32) ≤ l4 then (ke l3) else (if l2 = 0 then (ke l3) else ob (fX1_mostValuable (15 + 8) l2 st) (fun x_5 => ol ((1 : Int32) <<< (x_5 &&& 31)) (fun l5_6 => ol (l2 &&& (l5_6 ^^^ (-1 : Int32))) (fun l2_7 => ob (fX2_energyIn (15 + 3) (15 + 8) (l3 ||| l5_6) st) (fun x_8 => (if l1 < x_8 then ol (l4 + 1) (fun l4_9 => fX7_greedyBlocks_13 l1 st ke n l2_7 l3 l4_9) else ol (l3 ||| l5_6) (fun l3_10 => ol (l4 + 1) (fun l4_11 => fX7_greedyBlocks_13 l1 st ke n l2_7 l3_10 l4_11)))))))))
def fX7_greedyBlocks  (p1 : Int32) (st : uSt) : Option Int32 :=
  ob (fX6_usableBlocks 15 st) (fun x_1 => fX7_greedyBlocks_13 p1 st (fun l3_12 => some l3_12) FU x_1 (0 : Int32) (0 : Int32))
def fX7_append  (p1 : Int32) (p2 : Int32) (p3 : Int32) (p4 : Int32) (p5 : Int32) (st : uSt) : Option ((Int32 ⊕ String) × uSt) :=
  (if (st.1 1 1) ≤ (380 : Int32) then obV (fX5_addBytesOf p1 st) (fun st_1 => obV (fX5_addBytesOf p2 st_1) (fun st_2 => obV (fX5_addBytesOf p3 st_2) (fun st_3 => obV (fX5_addBytesOf p4 st_3) (fun st_4 => obV (fX5_addBytesOf p5 st_4) (fun st_5 => some (.inl (st_5.1 1 1), st_5)))))) else some (.inr "java/lang/IllegalStateException", st))
def fX7_truncate  (p1 : Int32) (st : uSt) : Option ((Int32 ⊕ String) × uSt) :=
  oj0 (some (.inr "java/lang/IndexOutOfBoundsException", st)) (fun j_1 => (if p1 < 0 then j_1 else (if p1 ≤ (st.1 1 1) then ol (sI st 1 1 p1) (fun st_2 => some (.inl p1, st_2)) else j_1)))
def fX7_load_71   (ke : uSt → Option ((Int32 ⊕ String) × uSt)) : Nat → uSt → Int32 → Option ((Int32 ⊕ String) × uSt)
  | 0, _, _ => none
  | n + 1, st, l1 =>
    (if (2 : Int32) ≤ l1 then (ke st) else og (inB l1 2) (ol (sI st 4 l1.toNatClampNeg (0 : Int32)) (fun st_7 => ol (l1 + 1) (fun l1_8 => fX7_load_71 ke n st_7 l1_8))))
def fX7_load   (st : uSt) : Option ((Int32 ⊕ String) × uSt) :=
  obV (fX5_readInto 29 st) (fun st_1 => ol (sI st_1 1 1 (0 : Int32)) (fun st_2 => ol (sI st_2 0 1 (st_2.1 1 2)) (fun st_3 => ol (sI st_3 0 2 (st_3.1 1 3)) (fun st_4 => (if (st_4.1 0 1) = 0 then obV (fX6_copyFrom 15 29 st_4) (fun st_5 => fX7_load_71 (fun st_9 => some (.inl (st_9.1 (15 + 3) 0), st_9)) FU st_5 (0 : Int32)) else some (.inr "java/lang/IllegalArgumentException", st_4))))))
def fX7_errorCode   (st : uSt) : Option Int32 :=
  some (st.1 0 1)
def fX7_errorPosition   (st : uSt) : Option Int32 :=
  some (st.1 0 2)
def fX7_report  (p1 : Int32) (st : uSt) : Option ((Int32 ⊕ String) × uSt) :=
  (if p1.toInt < 0 ∨ 8 < p1.toInt then some (.inr "java/lang/IllegalArgumentException", st) else if p1 = 0 then some (.inl (st.1 (15 + 1) 0), st) else if p1 = 1 then some (.inl (st.1 (15 + 1) 1), st) else if p1 = 2 then some (.inl (st.1 15 5), st) else if p1 = 3 then (if (st.1 15 6) = 0 then some (.inl (0 : Int32), st) else some (.inl (1 : Int32), st)) else if p1 = 4 then some (.inl (st.1 (15 + 8) 0), st) else if p1 = 5 then some (.inl (st.1 (15 + 3) 0), st) else if p1 = 6 then some (.inl (st.1 (15 + 2) 2), st) else if p1 = 7 then some (.inl (st.1 (15 + 2) 3), st) else if p1 = 8 then some (.inl (st.1 (15 + 1) 5), st) else none)
def fX7_device  (p1 : Int32) (p2 : Int32) (st : uSt) : Option ((Int32 ⊕ String) × uSt) :=
  ox (fX7_requireDevice p1 st) (fun _ st_2 => ob (fX1_blocksOn (15 + 8) p1 st_2) (fun x_3 => (if p2.toInt < 0 ∨ 6 < p2.toInt then some (.inr "java/lang/IllegalArgumentException", st_2) else if p2 = 0 then og (inB p1 5) (some (.inl (st_2.1 ((15 + 3) + 1) p1.toNatClampNeg), st_2)) else if p2 = 1 then og (inB p1 5) (some (.inl (st_2.1 ((15 + 3) + 2) p1.toNatClampNeg), st_2)) else if p2 = 2 then og (inB p1 5) (some (.inl (st_2.1 ((15 + 3) + 3) p1.toNatClampNeg), st_2)) else if p2 = 3 then og (inB p1 5) ((if (st_2.1 ((15 + 3) + 4) p1.toNatClampNeg) = 0 then some (.inl (0 : Int32), st_2) else some (.inl (1 : Int32), st_2))) else if p2 = 4 then ob (fJ6_bitCount_0f7a4 x_3) (fun x_5 => some (.inl x_5, st_2)) else if p2 = 5 then ob (fX1_valueIn (15 + 8) x_3 st_2) (fun x_6 => some (.inl x_6, st_2)) else if p2 = 6 then ob (fX2_energyIn (15 + 3) (15 + 8) x_3 st_2) (fun x_7 => some (.inl x_7, st_2)) else none)))
def fX7_block  (p1 : Int32) (p2 : Int32) (st : uSt) : Option ((Int32 ⊕ String) × uSt) :=
  ox (fX7_requireBlock p1 st) (fun _ st_2 => (if p2.toInt < 0 ∨ 3 < p2.toInt then some (.inr "java/lang/IllegalArgumentException", st_2) else if p2 = 0 then og (inB p1 24) (some (.inl (st_2.1 ((15 + 8) + 1) p1.toNatClampNeg), st_2)) else if p2 = 1 then og (inB p1 24) (some (.inl (st_2.1 ((15 + 8) + 2) p1.toNatClampNeg), st_2)) else if p2 = 2 then og (inB p1 24) (some (.inl (st_2.1 ((15 + 8) + 3) p1.toNatClampNeg), st_2)) else if p2 = 3 then og (inB p1 24) (some (.inl ((st_2.1 15 5) - (st_2.1 ((15 + 8) + 4) p1.toNatClampNeg)), st_2)) else none))
def fX7_find  (p1 : Int32) (p2 : Int32) (st : uSt) : Option ((Int32 ⊕ String) × uSt) :=
  ox (fX7_requireDevice p1 st) (fun _ st_2 => ox (fX7_requireAddress p2 st_2) (fun _ st_4 => ob (fX1_indexOf (15 + 8) p1 p2 st_4) (fun x_5 => (if x_5 = (-1 : Int32) then some (.inr "java/util/NoSuchElementException", st_4) else some (.inl x_5, st_4)))))
def fX7_oldest_27   (st : uSt) (ke : Int32 → Option ((Int32 ⊕ String) × uSt)) : Nat → Int32 → Int32 → Option ((Int32 ⊕ String) × uSt)
  | 0, _, _ => none
  | n + 1, l1, l2 =>
    (if (st.1 (15 + 8) 0) ≤ l2 then (ke l1) else og (inB l2 24) (og (inB l1 24) ((if (st.1 ((15 + 8) + 4) l1.toNatClampNeg) ≤ (st.1 ((15 + 8) + 4) l2.toNatClampNeg) then ol (l2 + 1) (fun l2_3 => fX7_oldest_27 st ke n l1 l2_3) else ol (l2 + 1) (fun l2_5 => fX7_oldest_27 st ke n l2 l2_5)))))
def fX7_oldest   (st : uSt) : Option ((Int32 ⊕ String) × uSt) :=
  (if (st.1 (15 + 8) 0) = 0 then some (.inr "java/util/NoSuchElementException", st) else fX7_oldest_27 st (fun l1_6 => some (.inl l1_6, st)) FU (0 : Int32) (1 : Int32))
def fX7_total  (p1 : Int32) (st : uSt) : Option ((Int32 ⊕ String) × uSt) :=
  oj0 (some (.inr "java/lang/IllegalArgumentException", st)) (fun j_1 => (if p1 < 0 then j_1 else (if p1 < (7 : Int32) then og (inB p1 7) (some (.inl (st.1 (15 + 13) p1.toNatClampNeg), st)) else j_1)))
def fX7_write  (p1 : Int32) (p2 : Int32) (p3 : Int32) (st : uSt) : Option ((Int32 ⊕ String) × uSt) :=
  ox (fX7_requireWritable p1 p2 p3 st) (fun _ st_2 => obS (fX7_isAllowed p1 p2 p3 st_2) (fun x_4 st_3 => (if x_4 = 0 then obV (fX1_drop (15 + 8) p1 p2 st_3) (fun st_6 => ol (sI st_6 (15 + 13) 1 ((st_6.1 (15 + 13) 1) + (1 : Int32))) (fun st_7 => og (isB x_4) (some (.inl x_4, st_7)))) else obV (fX1_put (15 + 8) p1 p2 p3 (st_3.1 15 5) st_3) (fun st_8 => ol (sI st_8 (15 + 13) 0 ((st_8.1 (15 + 13) 0) + (1 : Int32))) (fun st_9 => og (isB x_4) (some (.inl x_4, st_9)))))))
def fX7_wouldCache  (p1 : Int32) (p2 : Int32) (p3 : Int32) (st : uSt) : Option ((Int32 ⊕ String) × uSt) :=
  ox (fX7_requireWritable p1 p2 p3 st) (fun _ st_2 => obS (fX7_isAllowed p1 p2 p3 st_2) (fun x_4 st_3 => og (isB x_4) (some (.inl x_4, st_3))))
def fX7_clean  (p1 : Int32) (st : uSt) : Option ((Int32 ⊕ String) × uSt) :=
  ox (fX7_requireDevice p1 st) (fun _ st_2 => oj0 (some (.inr "java/lang/IllegalStateException", st_2)) (fun j_3 => (if (st_2.1 15 6) = 0 then j_3 else og (inB p1 5) ((if (st_2.1 ((15 + 3) + 4) p1.toNatClampNeg) = 0 then ob (fX1_blocksOn (15 + 8) p1 st_2) (fun x_4 => ob (fJ6_bitCount_0f7a4 x_4) (fun x_6 => obV (fX1_removeSet (15 + 8) x_4 st_2) (fun st_8 => ol (sI st_8 (15 + 13) 6 ((st_8.1 (15 + 13) 6) + x_6)) (fun st_9 => some (.inl x_6, st_9))))) else j_3)))))
def fX7_setFailed  (p1 : Int32) (p2 : Int32) (st : uSt) : Option ((Int32 ⊕ String) × uSt) :=
  ox (fX7_requireDevice p1 st) (fun _ st_2 => og (inB p1 5) (ol (st_2.1 ((15 + 3) + 4) p1.toNatClampNeg) (fun l3_3 => og (inB p1 5) (ol (sI st_2 ((15 + 3) + 4) p1.toNatClampNeg (vp_nar .boolean p2)) (fun st_4 => og (isB l3_3) (some (.inl l3_3, st_4)))))))
def fX7_setMode  (p1 : Int32) (p2 : Int32) (st : uSt) : Option ((Int32 ⊕ String) × uSt) :=
  oj0 (some (.inr "java/lang/IllegalArgumentException", st)) (fun j_1 => (if p1 < 0 then j_1 else (if p1 ≤ (2 : Int32) then oj1 (fun (v_3 : Int32) => oj1 (fun (v_6 : Int32) => oj0 (some (.inr "java/lang/IllegalArgumentException", st)) (fun j_8 => (if p2 < v_3 then j_8 else (if p2 ≤ v_6 then ol (st.1 (15 + 2) 2) (fun l5_9 => ol (sI st (15 + 2) 2 p1) (fun st_10 => ol (sI st_10 (15 + 2) 3 p2) (fun st_11 => some (.inl l5_9, st_11)))) else j_8)))) (fun j_5 => (if p1 = (1 : Int32) then (j_5 (99 : Int32)) else (j_5 (0 : Int32))))) (fun j_2 => (if p1 = (1 : Int32) then (j_2 (1 : Int32)) else (j_2 (0 : Int32)))) else j_1)))
def fX7_setPower  (p1 : Int32) (st : uSt) : Option (Int32 × uSt) :=
  ol (st.1 15 6) (fun l2_1 => og (isB p1) (ol (sI st 15 6 p1) (fun st_2 => og (isB l2_1) (some (l2_1, st_2)))))
def fX7_advance_26  (l1 : Int32) (ke : uSt → Int32 → Option ((Int32 ⊕ String) × uSt)) : Nat → uSt → Int32 → Int32 → Option ((Int32 ⊕ String) × uSt)
  | 0, _, _, _ => none
  | n + 1, st, l2, l3 =>
    (if l1 ≤ l3 then (ke st l2) else obS (fX6_passMinute 15 st) (fun x_5 st_4 => ol (l2 + x_5) (fun l2_6 => ol (l3 + 1) (fun l3_7 => fX7_advance_26 l1 ke n st_4 l2_6 l3_7))))
def fX7_advance  (p1 : Int32) (st : uSt) : Option ((Int32 ⊕ String) × uSt) :=
  oj0 (some (.inr "java/lang/IllegalArgumentException", st)) (fun j_1 => (if p1 < (1 : Int32) then j_1 else (if p1 ≤ (1000 : Int32) then fX7_advance_26 p1 (fun st_9 l2_8 => some (.inl l2_8, st_9)) FU st (0 : Int32) (0 : Int32) else j_1)))
def fX7_flush   (st : uSt) : Option ((Int32 ⊕ String) × uSt) :=
  (if (st.1 15 6) = 0 then ob (fX6_usableBlocks 15 st) (fun x_1 => obS (fX4_best 15 x_1 (st.1 (15 + 1) 1) st) (fun x_3 st_2 => obS (fX7_flushSet x_3 st_2) (fun x_5 st_4 => some (.inl x_5, st_4)))) else some (.inr "java/lang/IllegalStateException", st))
def fX7_flushDevice  (p1 : Int32) (st : uSt) : Option ((Int32 ⊕ String) × uSt) :=
  ox (fX7_requireDevice p1 st) (fun _ st_2 => ob (fX1_blocksOn (15 + 8) p1 st_2) (fun x_3 => oj0 (some (.inr "java/lang/IllegalStateException", st_2)) (fun j_5 => (if (st_2.1 15 6) = 0 then og (inB p1 5) ((if (st_2.1 ((15 + 3) + 4) p1.toNatClampNeg) = 0 then ob (fX2_energyIn (15 + 3) (15 + 8) x_3 st_2) (fun x_6 => (if x_6 ≤ (st_2.1 (15 + 1) 1) then obS (fX7_flushSet x_3 st_2) (fun x_8 st_7 => some (.inl x_8, st_7)) else j_5)) else j_5)) else j_5))))
def fX7_need   (st : uSt) : Option Int32 :=
  ob (fX6_neededEnergy 15 st) (fun x_1 => some x_1)
def fX7_energyOf  (p1 : Int32) (st : uSt) : Option ((Int32 ⊕ String) × uSt) :=
  ox (fX7_requireSet p1 st) (fun _ st_2 => ob (fX2_energyIn (15 + 3) (15 + 8) p1 st_2) (fun x_3 => some (.inl x_3, st_2)))
def fX7_valueOf  (p1 : Int32) (st : uSt) : Option ((Int32 ⊕ String) × uSt) :=
  ox (fX7_requireSet p1 st) (fun _ st_2 => ob (fX1_valueIn (15 + 8) p1 st_2) (fun x_3 => some (.inl x_3, st_2)))
def fX7_bestSet  (p1 : Int32) (st : uSt) : Option ((Int32 ⊕ String) × uSt) :=
  ox (fX7_requireEnergy p1 st) (fun _ st_2 => ob (fX6_usableBlocks 15 st_2) (fun x_3 => obS (fX4_best 15 x_3 p1 st_2) (fun x_5 st_4 => some (.inl x_5, st_4))))
def fX7_bestValue  (p1 : Int32) (st : uSt) : Option ((Int32 ⊕ String) × uSt) :=
  ox (fX7_requireEnergy p1 st) (fun _ st_2 => ob (fX6_usableBlocks 15 st_2) (fun x_3 => obS (fX7_valueFor x_3 p1 st_2) (fun x_5 st_4 => some (.inl x_5, st_4))))
def fX7_greedySet  (p1 : Int32) (st : uSt) : Option ((Int32 ⊕ String) × uSt) :=
  ox (fX7_requireEnergy p1 st) (fun _ st_2 => ob (fX7_greedyBlocks p1 st_2) (fun x_3 => some (.inl x_3, st_2)))
def fX7_energyFor  (p1 : Int32) (st : uSt) : Option ((Int32 ⊕ String) × uSt) :=
  oj0 (some (.inr "java/lang/IllegalArgumentException", st)) (fun j_1 => (if p1 < 0 then j_1 else (if p1 ≤ (2376 : Int32) then ob (fX6_usableBlocks 15 st) (fun x_2 => obS (fX4_leastEnergy 15 x_2 p1 st) (fun x_4 st_3 => (if x_4 = (-1 : Int32) then some (.inr "java/util/NoSuchElementException", st_3) else some (.inl x_4, st_3)))) else j_1)))
def fX7_extra  (p1 : Int32) (st : uSt) : Option ((Int32 ⊕ String) × uSt) :=
  ox (fX7_requireBlock p1 st) (fun _ st_2 => ob (fX6_usableBlocks 15 st_2) (fun x_3 => (if ((x_3 >>> (p1 &&& 31)) &&& (1 : Int32)) = 0 then some (.inr "java/lang/IllegalStateException", st_2) else obS (fX4_best 15 x_3 (st_2.1 (15 + 1) 1) st_2) (fun x_6 st_5 => ob (fX2_energyIn (15 + 3) (15 + 8) (x_6 ||| ((1 : Int32) <<< (p1 &&& 31))) st_5) (fun x_8 => ob (fX2_energyIn (15 + 3) (15 + 8) x_6 st_5) (fun x_9 => some (.inl (x_8 - x_9), st_5)))))))
def fX7_minutesLeft_44  (l1 : Int32) (ke : uSt → Int32 → Option (Int32 × uSt)) : Nat → uSt → Int32 → Option (Int32 × uSt)
  | 0, _, _ => none
  | n + 1, st, l2 =>
    (if (1000 : Int32) ≤ l2 then (ke st l2) else obV (fX0_drainForMinute 9 st) (fun st_5 => (if l1 ≤ (st_5.1 9 1) then ol (l2 + 1) (fun l2_6 => fX7_minutesLeft_44 l1 ke n st_5 l2_6) else some (l2, st_5))))
def fX7_minutesLeft   (st : uSt) : Option (Int32 × uSt) :=
  ob (fX6_neededEnergy 15 st) (fun x_1 => (if x_1 = 0 then some ((-1 : Int32), st) else (if x_1 ≤ (st.1 (15 + 1) 1) then obV (fX0_copyFrom 9 (15 + 1) st) (fun st_3 => fX7_minutesLeft_44 x_1 (fun st_8 l2_7 => some (l2_7, st_8)) FU st_3 (0 : Int32)) else some ((-1 : Int32), st))))
def fX7_valueAfter_37  (l1 : Int32) (ke : uSt → Option ((Int32 ⊕ String) × uSt)) : Nat → uSt → Int32 → Option ((Int32 ⊕ String) × uSt)
  | 0, _, _ => none
  | n + 1, st, l2 =>
    (if l1 ≤ l2 then (ke st) else obV (fX0_drainForMinute 9 st) (fun st_4 => ol (l2 + 1) (fun l2_5 => fX7_valueAfter_37 l1 ke n st_4 l2_5)))
def fX7_valueAfter  (p1 : Int32) (st : uSt) : Option ((Int32 ⊕ String) × uSt) :=
  oj0 (some (.inr "java/lang/IllegalArgumentException", st)) (fun j_1 => (if p1 < 0 then j_1 else (if p1 ≤ (1000 : Int32) then obV (fX0_copyFrom 9 (15 + 1) st) (fun st_2 => fX7_valueAfter_37 p1 (fun st_6 => ob (fX6_usableBlocks 15 st_6) (fun x_7 => obS (fX7_valueFor x_7 (st_6.1 9 1) st_6) (fun x_9 st_8 => some (.inl x_9, st_8)))) FU st_2 (0 : Int32)) else j_1)))
def fX7_minutesToSafety   (st : uSt) : Option Int32 :=
  ob (fX6_neededEnergy 15 st) (fun x_1 => ol (x_1 + (st.1 (15 + 2) 0)) (fun l1_2 => ol (l1_2 - (st.1 (15 + 1) 1)) (fun l2_3 => (if 0 < l2_3 then ol (st.1 (15 + 1) 2) (fun l3_4 => (if l3_4 ≤ 0 then some (-1 : Int32) else (if l1_2 ≤ (st.1 (15 + 1) 0) then og (nzB l3_4) (some (((l2_3 + l3_4) - (1 : Int32)) / l3_4)) else some (-1 : Int32)))) else some (0 : Int32)))))
def fX7_gainOfRepair  (p1 : Int32) (st : uSt) : Option ((Int32 ⊕ String) × uSt) :=
  ox (fX7_requireDevice p1 st) (fun _ st_2 => og (inB p1 5) ((if (st_2.1 ((15 + 3) + 4) p1.toNatClampNeg) = 0 then some (.inl (0 : Int32), st_2) else ob (fX6_usableBlocks 15 st_2) (fun x_3 => ob (fX1_blocksOn (15 + 8) p1 st_2) (fun x_5 => ol (x_3 ||| x_5) (fun l3_6 => obS (fX7_valueFor l3_6 (st_2.1 (15 + 1) 1) st_2) (fun x_8 st_7 => obS (fX7_valueFor x_3 (st_7.1 (15 + 1) 1) st_7) (fun x_10 st_9 => some (.inl (x_8 - x_10), st_9)))))))))
def fX7_costliest_9   (st : uSt) (ke : Int32 → Option ((Int32 ⊕ String) × uSt)) : Nat → Int32 → Int32 → Int32 → Int32 → Option ((Int32 ⊕ String) × uSt)
  | 0, _, _, _, _ => none
  | n + 1, l1, l2, l3, l4 =>
    (if (st.1 (15 + 3) 0) ≤ l4 then (ke l1) else ob (fX1_blocksOn (15 + 8) l4 st) (fun x_5 => (if x_5 = 0 then ol (l4 + 1) (fun l4_7 => fX7_costliest_9 st ke n l1 l2 l3 l4_7) else og (inB l4 5) ((if (st.1 ((15 + 3) + 4) l4.toNatClampNeg) = 0 then ob (fX2_energyIn (15 + 3) (15 + 8) x_5 st) (fun x_8 => ob (fX1_valueIn (15 + 8) x_5 st) (fun x_10 => (if (x_8 * l3) ≤ (l2 * x_10) then ol (l4 + 1) (fun l4_12 => fX7_costliest_9 st ke n l1 l2 l3 l4_12) else ol (l4 + 1) (fun l4_16 => fX7_costliest_9 st ke n l4 x_8 x_10 l4_16)))) else ol (l4 + 1) (fun l4_17 => fX7_costliest_9 st ke n l1 l2 l3 l4_17))))))
def fX7_costliest   (st : uSt) : Option ((Int32 ⊕ String) × uSt) :=
  fX7_costliest_9 st (fun l1_18 => (if l1_18 = (-1 : Int32) then some (.inr "java/util/NoSuchElementException", st) else some (.inl l1_18, st))) FU (-1 : Int32) (0 : Int32) (1 : Int32) (0 : Int32)
def fX7_save  (p1 : Int32) (st : uSt) : Option ((Unit ⊕ String) × uSt) :=
  ox (fX7_requireSlot p1 st) (fun _ st_2 => og (inB p1 2) (obV (fX6_copyFrom (43 + 14 * p1.toNatClampNeg) 15 st_2) (fun st_3 => og (inB p1 2) (ol (sI st_3 4 p1.toNatClampNeg (1 : Int32)) (fun st_4 => some (.inl (), st_4))))))
def fX7_restore  (p1 : Int32) (st : uSt) : Option ((Unit ⊕ String) × uSt) :=
  ox (fX7_requireSlot p1 st) (fun _ st_2 => og (inB p1 2) ((if (st_2.1 4 p1.toNatClampNeg) = 0 then some (.inr "java/util/NoSuchElementException", st_2) else og (inB p1 2) (obV (fX6_copyFrom 15 (43 + 14 * p1.toNatClampNeg) st_2) (fun st_3 => some (.inl (), st_3))))))
set_option maxRecDepth 100000 in
set_option maxHeartbeats 4000000 in
theorem kX7_requireDevice {l : Launch} {V : uV} (W0 : uWC l V) {p1 : Int32} {st : uSt} {r : Unit ⊕ String} {s9 : uSt} (h : fX7_requireDevice p1 st = some (r, s9)) : uMetX l V yX7_requireDevice cX7_requireDevice 2 none 6 90 1 6 [.ref (vA V 0), .int p1] st (xV r) s9 := by
  refine ux_metX W0.1 W0.2.1 (by decide) rfl (Nat.le_of_ble_eq_true rfl) (fun M hL hr C hT => ?_)
  subst hL
  have C : uCx M V cX7_requireDevice 2 RX7 6 90 1 6 := C
  unfold fX7_requireDevice at h
  refine ux_iload_n C dX7_requireDevice_0 1 rfl ?_
  obtain ⟨j_1, hK_1, h⟩ := oj0_some h
  have hJ_1 : j_1 = some (r, s9) → uW M V (uEndX M V 1 6 (xV r) s9) 2 0 0 18 [] [] st := by
    intro h
    replace h := hK_1 h
    exact ux_throwSW C th_X7_requireDevice_18 hT dX7_requireDevice_18 dX7_requireDevice_21 dX7_requireDevice_22 dX7_requireDevice_25 dX7_requireDevice_28 (fun _ => rfl) h (Nat.le_of_ble_eq_true rfl) ⟨(Nat.le_of_ble_eq_true rfl), (Nat.le_of_ble_eq_true rfl)⟩ ⟨(Nat.le_of_ble_eq_true rfl), (Nat.le_of_ble_eq_true rfl)⟩ ⟨(Nat.le_of_ble_eq_true rfl), (Nat.le_of_ble_eq_true rfl)⟩
  refine ux_if_lt C dX7_requireDevice_1 h (fun h => ?_) (fun h => ?_)
  · refine ux_sub [] rfl ?_
    exact hJ_1 h
  · refine ux_iload_n C dX7_requireDevice_4 1 rfl ?_
    refine ux_aload_n C dX7_requireDevice_5 0 rfl ?_
    refine ux_get C fl_X7_26 dX7_requireDevice_6 (oF W0) rfl ?_
    refine ux_get C fl_X7_117 dX7_requireDevice_9 (oState W0 kS_15) rfl ?_
    refine ux_get C fl_X7_121 dX7_requireDevice_12 (oDev W0 (kS_dev kS_15)) rfl ?_
    refine ux_icmp_lt C dX7_requireDevice_15 h (fun h => ?_) (fun h => ?_)
    · exact ux_vretX C hr dX7_requireDevice_29 h (Nat.le_of_ble_eq_true rfl) (Nat.le_of_ble_eq_true rfl)
    · refine ux_sub [] rfl ?_
      exact hJ_1 h
set_option maxRecDepth 100000 in
set_option maxHeartbeats 4000000 in
theorem kX7_requireAddress {l : Launch} {V : uV} (W0 : uWC l V) {p1 : Int32} {st : uSt} {r : Unit ⊕ String} {s9 : uSt} (h : fX7_requireAddress p1 st = some (r, s9)) : uMetX l V yX7_requireAddress cX7_requireAddress 2 none 6 90 1 6 [.ref (vA V 0), .int p1] st (xV r) s9 := by
  refine ux_metX W0.1 W0.2.1 (by decide) rfl (Nat.le_of_ble_eq_true rfl) (fun M hL hr C hT => ?_)
  subst hL
  have C : uCx M V cX7_requireAddress 2 RX7 6 90 1 6 := C
  unfold fX7_requireAddress at h
  refine ux_iload_n C dX7_requireAddress_0 1 rfl ?_
  obtain ⟨j_1, hK_1, h⟩ := oj0_some h
  have hJ_1 : j_1 = some (r, s9) → uW M V (uEndX M V 1 6 (xV r) s9) 2 0 0 10 [] [] st := by
    intro h
    replace h := hK_1 h
    exact ux_throwSW C th_X7_requireAddress_10 hT dX7_requireAddress_10 dX7_requireAddress_13 dX7_requireAddress_14 dX7_requireAddress_17 dX7_requireAddress_20 (fun _ => rfl) h (Nat.le_of_ble_eq_true rfl) ⟨(Nat.le_of_ble_eq_true rfl), (Nat.le_of_ble_eq_true rfl)⟩ ⟨(Nat.le_of_ble_eq_true rfl), (Nat.le_of_ble_eq_true rfl)⟩ ⟨(Nat.le_of_ble_eq_true rfl), (Nat.le_of_ble_eq_true rfl)⟩
  refine ux_if_lt C dX7_requireAddress_1 h (fun h => ?_) (fun h => ?_)
  · refine ux_sub [] rfl ?_
    exact hJ_1 h
  · refine ux_iload_n C dX7_requireAddress_4 1 rfl ?_
    refine ux_bipush (v := 100) C dX7_requireAddress_5 (by decide) ?_
    refine ux_icmp_lt C dX7_requireAddress_7 h (fun h => ?_) (fun h => ?_)
    · exact ux_vretX C hr dX7_requireAddress_21 h (Nat.le_of_ble_eq_true rfl) (Nat.le_of_ble_eq_true rfl)
    · refine ux_sub [] rfl ?_
      exact hJ_1 h
set_option maxRecDepth 100000 in
set_option maxHeartbeats 4000000 in
theorem kX7_requireBlock {l : Launch} {V : uV} (W0 : uWC l V) {p1 : Int32} {st : uSt} {r : Unit ⊕ String} {s9 : uSt} (h : fX7_requireBlock p1 st = some (r, s9)) : uMetX l V yX7_requireBlock cX7_requireBlock 2 none 6 90 1 6 [.ref (vA V 0), .int p1] st (xV r) s9 := by
  refine ux_metX W0.1 W0.2.1 (by decide) rfl (Nat.le_of_ble_eq_true rfl) (fun M hL hr C hT => ?_)
  subst hL
  have C : uCx M V cX7_requireBlock 2 RX7 6 90 1 6 := C
  unfold fX7_requireBlock at h
  refine ux_iload_n C dX7_requireBlock_0 1 rfl ?_
  obtain ⟨j_1, hK_1, h⟩ := oj0_some h
  have hJ_1 : j_1 = some (r, s9) → uW M V (uEndX M V 1 6 (xV r) s9) 2 0 0 18 [] [] st := by
    intro h
    replace h := hK_1 h
    exact ux_throwSW C th_X7_requireBlock_18 hT dX7_requireBlock_18 dX7_requireBlock_21 dX7_requireBlock_22 dX7_requireBlock_25 dX7_requireBlock_28 (fun _ => rfl) h (Nat.le_of_ble_eq_true rfl) ⟨(Nat.le_of_ble_eq_true rfl), (Nat.le_of_ble_eq_true rfl)⟩ ⟨(Nat.le_of_ble_eq_true rfl), (Nat.le_of_ble_eq_true rfl)⟩ ⟨(Nat.le_of_ble_eq_true rfl), (Nat.le_of_ble_eq_true rfl)⟩
  refine ux_if_lt C dX7_requireBlock_1 h (fun h => ?_) (fun h => ?_)
  · refine ux_sub [] rfl ?_
    exact hJ_1 h
  · refine ux_iload_n C dX7_requireBlock_4 1 rfl ?_
    refine ux_aload_n C dX7_requireBlock_5 0 rfl ?_
    refine ux_get C fl_X7_26 dX7_requireBlock_6 (oF W0) rfl ?_
    refine ux_get C fl_X7_133 dX7_requireBlock_9 (oState W0 kS_15) rfl ?_
    refine ux_get C fl_X7_136 dX7_requireBlock_12 (oCache W0 (kS_cache kS_15)) rfl ?_
    refine ux_icmp_lt C dX7_requireBlock_15 h (fun h => ?_) (fun h => ?_)
    · exact ux_vretX C hr dX7_requireBlock_29 h (Nat.le_of_ble_eq_true rfl) (Nat.le_of_ble_eq_true rfl)
    · refine ux_sub [] rfl ?_
      exact hJ_1 h
set_option maxRecDepth 100000 in
set_option maxHeartbeats 4000000 in
theorem kX7_requireSlot {l : Launch} {V : uV} (W0 : uWC l V) {p1 : Int32} {st : uSt} {r : Unit ⊕ String} {s9 : uSt} (h : fX7_requireSlot p1 st = some (r, s9)) : uMetX l V yX7_requireSlot cX7_requireSlot 2 none 6 90 1 6 [.ref (vA V 0), .int p1] st (xV r) s9 := by
  refine ux_metX W0.1 W0.2.1 (by decide) rfl (Nat.le_of_ble_eq_true rfl) (fun M hL hr C hT => ?_)
  subst hL
  have C : uCx M V cX7_requireSlot 2 RX7 6 90 1 6 := C
  unfold fX7_requireSlot at h
  refine ux_iload_n C dX7_requireSlot_0 1 rfl ?_
  obtain ⟨j_1, hK_1, h⟩ := oj0_some h
  have hJ_1 : j_1 = some (r, s9) → uW M V (uEndX M V 1 6 (xV r) s9) 2 0 0 9 [] [] st := by
    intro h
    replace h := hK_1 h
    exact ux_throwSW C th_X7_requireSlot_9 hT dX7_requireSlot_9 dX7_requireSlot_12 dX7_requireSlot_13 dX7_requireSlot_16 dX7_requireSlot_19 (fun _ => rfl) h (Nat.le_of_ble_eq_true rfl) ⟨(Nat.le_of_ble_eq_true rfl), (Nat.le_of_ble_eq_true rfl)⟩ ⟨(Nat.le_of_ble_eq_true rfl), (Nat.le_of_ble_eq_true rfl)⟩ ⟨(Nat.le_of_ble_eq_true rfl), (Nat.le_of_ble_eq_true rfl)⟩
  refine ux_if_lt C dX7_requireSlot_1 h (fun h => ?_) (fun h => ?_)
  · refine ux_sub [] rfl ?_
    exact hJ_1 h
  · refine ux_iload_n C dX7_requireSlot_4 1 rfl ?_
    refine ux_iconst (v := 2) C dX7_requireSlot_5 (by decide) ?_
    refine ux_icmp_lt C dX7_requireSlot_6 h (fun h => ?_) (fun h => ?_)
    · exact ux_vretX C hr dX7_requireSlot_20 h (Nat.le_of_ble_eq_true rfl) (Nat.le_of_ble_eq_true rfl)
    · refine ux_sub [] rfl ?_
      exact hJ_1 h
set_option maxRecDepth 100000 in
set_option maxHeartbeats 4000000 in
theorem kX7_requireSet {l : Launch} {V : uV} (W0 : uWC l V) {p1 : Int32} {st : uSt} {r : Unit ⊕ String} {s9 : uSt} (h : fX7_requireSet p1 st = some (r, s9)) : uMetX l V yX7_requireSet cX7_requireSet 2 none 6 90 1 6 [.ref (vA V 0), .int p1] st (xV r) s9 := by
  refine ux_metX W0.1 W0.2.1 (by decide) rfl (Nat.le_of_ble_eq_true rfl) (fun M hL hr C hT => ?_)
  subst hL
  have C : uCx M V cX7_requireSet 2 RX7 6 90 1 6 := C
  unfold fX7_requireSet at h
  refine ux_iload_n C dX7_requireSet_0 1 rfl ?_
  refine ux_aload_n C dX7_requireSet_1 0 rfl ?_
  refine ux_get C fl_X7_26 dX7_requireSet_2 (oF W0) rfl ?_
  refine ux_get C fl_X7_133 dX7_requireSet_5 (oState W0 kS_15) rfl ?_
  obtain ⟨x_1, h1, h⟩ := ob_some h
  refine ux_callVi C cv_X7_315 dX7_requireSet_8 (oCache W0 (kS_cache kS_15)) rfl (kX1_allBlocks W0 (kS_cache kS_15) h1) rfl (Nat.le_of_ble_eq_true rfl) ⟨(Nat.le_of_ble_eq_true rfl), (Nat.le_of_ble_eq_true rfl)⟩ ⟨(Nat.le_of_ble_eq_true rfl), (Nat.le_of_ble_eq_true rfl)⟩ ?_ rfl
  refine ux_iconst (v := (-1)) C dX7_requireSet_11 (by decide) ?_
  refine ux_ixor C dX7_requireSet_12 ?_
  refine ux_iand C dX7_requireSet_13 ?_
  refine ux_if_eq C dX7_requireSet_14 h (fun h => ?_) (fun h => ?_)
  · exact ux_vretX C hr dX7_requireSet_28 h (Nat.le_of_ble_eq_true rfl) (Nat.le_of_ble_eq_true rfl)
  · exact ux_throwSW C th_X7_requireSet_17 hT dX7_requireSet_17 dX7_requireSet_20 dX7_requireSet_21 dX7_requireSet_24 dX7_requireSet_27 (fun _ => rfl) h (Nat.le_of_ble_eq_true rfl) ⟨(Nat.le_of_ble_eq_true rfl), (Nat.le_of_ble_eq_true rfl)⟩ ⟨(Nat.le_of_ble_eq_true rfl), (Nat.le_of_ble_eq_true rfl)⟩ ⟨(Nat.le_of_ble_eq_true rfl), (Nat.le_of_ble_eq_true rfl)⟩
set_option maxRecDepth 100000 in
set_option maxHeartbeats 4000000 in
theorem kX7_requireEnergy {l : Launch} {V : uV} (W0 : uWC l V) {p1 : Int32} {st : uSt} {r : Unit ⊕ String} {s9 : uSt} (h : fX7_requireEnergy p1 st = some (r, s9)) : uMetX l V yX7_requireEnergy cX7_requireEnergy 2 none 6 90 1 6 [.ref (vA V 0), .int p1] st (xV r) s9 := by
  refine ux_metX W0.1 W0.2.1 (by decide) rfl (Nat.le_of_ble_eq_true rfl) (fun M hL hr C hT => ?_)
  subst hL
  have C : uCx M V cX7_requireEnergy 2 RX7 6 90 1 6 := C
  unfold fX7_requireEnergy at h
  refine ux_iload_n C dX7_requireEnergy_0 1 rfl ?_
  obtain ⟨j_1, hK_1, h⟩ := oj0_some h
  have hJ_1 : j_1 = some (r, s9) → uW M V (uEndX M V 1 6 (xV r) s9) 2 0 0 11 [] [] st := by
    intro h
    replace h := hK_1 h
    exact ux_throwSW C th_X7_requireEnergy_11 hT dX7_requireEnergy_11 dX7_requireEnergy_14 dX7_requireEnergy_15 dX7_requireEnergy_18 dX7_requireEnergy_21 (fun _ => rfl) h (Nat.le_of_ble_eq_true rfl) ⟨(Nat.le_of_ble_eq_true rfl), (Nat.le_of_ble_eq_true rfl)⟩ ⟨(Nat.le_of_ble_eq_true rfl), (Nat.le_of_ble_eq_true rfl)⟩ ⟨(Nat.le_of_ble_eq_true rfl), (Nat.le_of_ble_eq_true rfl)⟩
  refine ux_if_lt C dX7_requireEnergy_1 h (fun h => ?_) (fun h => ?_)
  · refine ux_sub [] rfl ?_
    exact hJ_1 h
  · refine ux_iload_n C dX7_requireEnergy_4 1 rfl ?_
    refine ux_sipush (v := 500) C dX7_requireEnergy_5 (by decide) ?_
    refine ux_icmp_le C dX7_requireEnergy_8 h (fun h => ?_) (fun h => ?_)
    · exact ux_vretX C hr dX7_requireEnergy_22 h (Nat.le_of_ble_eq_true rfl) (Nat.le_of_ble_eq_true rfl)
    · refine ux_sub [] rfl ?_
      exact hJ_1 h
set_option maxRecDepth 100000 in
set_option maxHeartbeats 4000000 in
theorem kX7_requireWritable {l : Launch} {V : uV} (W0 : uWC l V) {p1 : Int32} {p2 : Int32} {p3 : Int32} {st : uSt} {r : Unit ⊕ String} {s9 : uSt} (h : fX7_requireWritable p1 p2 p3 st = some (r, s9)) : uMetX l V yX7_requireWritable cX7_requireWritable 4 none 7 111 3 18 [.ref (vA V 0), .int p1, .int p2, .int p3] st (xV r) s9 := by
  refine ux_metX W0.1 W0.2.1 (by decide) rfl (Nat.le_of_ble_eq_true rfl) (fun M hL hr C hT => ?_)
  subst hL
  have C : uCx M V cX7_requireWritable 4 RX7 7 111 3 18 := C
  unfold fX7_requireWritable at h
  refine ux_aload_n C dX7_requireWritable_0 0 rfl ?_
  refine ux_iload_n C dX7_requireWritable_1 1 rfl ?_
  obtain ⟨x_1, st_2, h1, h⟩ := ox_some h
  refine ux_callVXv C cv_X7_154 dX7_requireWritable_2 (oF W0) rfl (kX7_requireDevice W0 h1) rfl (Nat.le_of_ble_eq_true rfl) ⟨(Nat.le_of_ble_eq_true rfl), (Nat.le_of_ble_eq_true rfl)⟩ ⟨(Nat.le_of_ble_eq_true rfl), (Nat.le_of_ble_eq_true rfl)⟩ ⟨(Nat.le_of_ble_eq_true rfl), (Nat.le_of_ble_eq_true rfl)⟩ (fun _ => rfl) hT h (fun x_1 h => ?_) rfl
  refine ux_aload_n C dX7_requireWritable_5 0 rfl ?_
  refine ux_iload_n C dX7_requireWritable_6 2 rfl ?_
  obtain ⟨x_3, st_4, h1, h⟩ := ox_some h
  refine ux_callVXv C cv_X7_201 dX7_requireWritable_7 (oF W0) rfl (kX7_requireAddress W0 h1) rfl (Nat.le_of_ble_eq_true rfl) ⟨(Nat.le_of_ble_eq_true rfl), (Nat.le_of_ble_eq_true rfl)⟩ ⟨(Nat.le_of_ble_eq_true rfl), (Nat.le_of_ble_eq_true rfl)⟩ ⟨(Nat.le_of_ble_eq_true rfl), (Nat.le_of_ble_eq_true rfl)⟩ (fun _ => rfl) hT h (fun x_3 h => ?_) rfl
  refine ux_iload_n C dX7_requireWritable_10 3 rfl ?_
  refine ux_iconst (v := 1) C dX7_requireWritable_11 (by decide) ?_
  obtain ⟨j_5, hK_5, h⟩ := oj0_some h
  have hJ_5 : j_5 = some (r, s9) → uW M V (uEndX M V 3 18 (xV r) s9) 4 2 12 21 [] [] st_4 := by
    intro h
    replace h := hK_5 h
    exact ux_throwSW C th_X7_requireWritable_21 hT dX7_requireWritable_21 dX7_requireWritable_24 dX7_requireWritable_25 dX7_requireWritable_28 dX7_requireWritable_31 (fun _ => rfl) h (Nat.le_of_ble_eq_true rfl) ⟨(Nat.le_of_ble_eq_true rfl), (Nat.le_of_ble_eq_true rfl)⟩ ⟨(Nat.le_of_ble_eq_true rfl), (Nat.le_of_ble_eq_true rfl)⟩ ⟨(Nat.le_of_ble_eq_true rfl), (Nat.le_of_ble_eq_true rfl)⟩
  refine ux_icmp_lt C dX7_requireWritable_12 h (fun h => ?_) (fun h => ?_)
  · refine ux_sub [] rfl ?_
    exact hJ_5 h
  · refine ux_iload_n C dX7_requireWritable_15 3 rfl ?_
    refine ux_bipush (v := 99) C dX7_requireWritable_16 (by decide) ?_
    refine ux_icmp_le C dX7_requireWritable_18 h (fun h => ?_) (fun h => ?_)
    · refine ux_aload_n C dX7_requireWritable_32 0 rfl ?_
      refine ux_get C fl_X7_26 dX7_requireWritable_33 (oF W0) rfl ?_
      refine ux_get C fl_X7_129 dX7_requireWritable_36 (oState W0 kS_15) rfl ?_
      obtain ⟨j_6, hK_6, h⟩ := oj0_some h
      have hJ_6 : j_6 = some (r, s9) → uW M V (uEndX M V 3 18 (xV r) s9) 4 2 12 57 [] [] st_4 := by
        intro h
        replace h := hK_6 h
        exact ux_throwSW C th_X7_requireWritable_57 hT dX7_requireWritable_57 dX7_requireWritable_60 dX7_requireWritable_61 dX7_requireWritable_64 dX7_requireWritable_67 (fun _ => rfl) h (Nat.le_of_ble_eq_true rfl) ⟨(Nat.le_of_ble_eq_true rfl), (Nat.le_of_ble_eq_true rfl)⟩ ⟨(Nat.le_of_ble_eq_true rfl), (Nat.le_of_ble_eq_true rfl)⟩ ⟨(Nat.le_of_ble_eq_true rfl), (Nat.le_of_ble_eq_true rfl)⟩
      refine ux_if_eq C dX7_requireWritable_39 h (fun h => ?_) (fun h => ?_)
      · refine ux_sub [] rfl ?_
        exact hJ_6 h
      · refine ux_aload_n C dX7_requireWritable_42 0 rfl ?_
        refine ux_get C fl_X7_26 dX7_requireWritable_43 (oF W0) rfl ?_
        refine ux_get C fl_X7_117 dX7_requireWritable_46 (oState W0 kS_15) rfl ?_
        refine ux_get C fl_X7_171 dX7_requireWritable_49 (oDev W0 (kS_dev kS_15)) rfl ?_
        refine ux_iload_n C dX7_requireWritable_52 1 rfl ?_
        refine ux_zald C (aDev4 W0 (kS_dev kS_15)) dX7_requireWritable_53 h (fun h => ?_)
        refine ux_if_eq C dX7_requireWritable_54 h (fun h => ?_) (fun h => ?_)
        · exact ux_vretX C hr dX7_requireWritable_68 h (Nat.le_of_ble_eq_true rfl) (Nat.le_of_ble_eq_true rfl)
        · refine ux_sub [] rfl ?_
          exact hJ_6 h
    · refine ux_sub [] rfl ?_
      exact hJ_5 h
set_option maxRecDepth 100000 in
set_option maxHeartbeats 4000000 in
theorem kX7_isGuarded {l : Launch} {V : uV} (W0 : uWC l V) {p1 : Int32} {p2 : Int32} {st : uSt} {r : Int32} (h : fX7_isGuarded p1 p2 st = some r) : uMet l V yX7_isGuarded cX7_isGuarded 3 (some .boolean) 0 0 0 0 [.ref (vA V 0), .int p1, .int p2] st (some (.int r)) st := by
  refine ux_met W0.1 W0.2.1 (by decide) rfl (Nat.le_of_ble_eq_true rfl) (fun M hL hr C => ?_)
  subst hL
  have C : uCx M V cX7_isGuarded 3 RX7 0 0 0 0 := C
  unfold fX7_isGuarded at h
  refine ux_aload_n C dX7_isGuarded_0 0 rfl ?_
  refine ux_get C fl_X7_26 dX7_isGuarded_1 (oF W0) rfl ?_
  refine ux_get C fl_X7_117 dX7_isGuarded_4 (oState W0 kS_15) rfl ?_
  refine ux_get C fl_X7_171 dX7_isGuarded_7 (oDev W0 (kS_dev kS_15)) rfl ?_
  refine ux_iload_n C dX7_isGuarded_10 1 rfl ?_
  refine ux_zald C (aDev4 W0 (kS_dev kS_15)) dX7_isGuarded_11 h (fun h => ?_)
  refine ux_if_ne C dX7_isGuarded_12 h (fun h => ?_) (fun h => ?_)
  · refine ux_aload_n C dX7_isGuarded_15 0 rfl ?_
    refine ux_get C fl_X7_26 dX7_isGuarded_16 (oF W0) rfl ?_
    refine ux_get C fl_X7_137 dX7_isGuarded_19 (oState W0 kS_15) rfl ?_
    refine ux_get C fl_X7_141 dX7_isGuarded_22 (oRules W0 (kS_rules kS_15)) rfl ?_
    refine ux_iconst (v := 1) C dX7_isGuarded_25 (by decide) ?_
    refine ux_icmp_ne C dX7_isGuarded_26 h (fun h => ?_) (fun h => ?_)
    · refine ux_iload_n C dX7_isGuarded_29 2 rfl ?_
      refine ux_aload_n C dX7_isGuarded_30 0 rfl ?_
      refine ux_get C fl_X7_26 dX7_isGuarded_31 (oF W0) rfl ?_
      refine ux_get C fl_X7_137 dX7_isGuarded_34 (oState W0 kS_15) rfl ?_
      refine ux_get C fl_X7_146 dX7_isGuarded_37 (oRules W0 (kS_rules kS_15)) rfl ?_
      refine ux_icmp_lt C dX7_isGuarded_40 h (fun h => ?_) (fun h => ?_)
      · refine ux_iconst (v := 0) C dX7_isGuarded_47 (by decide) ?_
        exact ux_zretK C hr dX7_isGuarded_48 (by decide) h (Nat.le_of_ble_eq_true rfl) (Nat.le_of_ble_eq_true rfl)
      · refine ux_iconst (v := 1) C dX7_isGuarded_43 (by decide) ?_
        refine ux_goto C dX7_isGuarded_44 ?_
        exact ux_zretK C hr dX7_isGuarded_48 (by decide) h (Nat.le_of_ble_eq_true rfl) (Nat.le_of_ble_eq_true rfl)
    · refine ux_iconst (v := 1) C dX7_isGuarded_43 (by decide) ?_
      refine ux_goto C dX7_isGuarded_44 ?_
      exact ux_zretK C hr dX7_isGuarded_48 (by decide) h (Nat.le_of_ble_eq_true rfl) (Nat.le_of_ble_eq_true rfl)
  · refine ux_iconst (v := 0) C dX7_isGuarded_47 (by decide) ?_
    exact ux_zretK C hr dX7_isGuarded_48 (by decide) h (Nat.le_of_ble_eq_true rfl) (Nat.le_of_ble_eq_true rfl)
set_option maxRecDepth 100000 in
set_option maxHeartbeats 4000000 in
theorem wX7_isAllowed_106 {M : uM} {V : uV} (W0 : uWC (mL M) V) (C : uCx M V cX7_isAllowed 7 RX7 2 49 0 0) (hr : (mT M).sig.returnType = (some .boolean)) {st : uSt} {r : Int32} {s9 : uSt} {ke : Int32 → Option (Int32 × uSt)} (K : ∀ (l5 : Int32), ke l5 = some (r, s9) → uW M V (uEnd M V 0 0 (some (.int r)) s9) 7 0 0 160 [(0, .ref (vA V 0)), (5, .int l5)] [] st) : ∀ (n : Nat) (l5 : Int32) (l6 : Int32), fX7_isAllowed_106 st ke n l5 l6 = some (r, s9) → uW M V (uEnd M V 0 0 (some (.int r)) s9) 7 0 0 106 [(0, .ref (vA V 0)), (5, .int l5), (6, .int l6)] [] st := by
  intro n
  induction n with
  | zero =>
    intro l5 l6 h
    rw [fX7_isAllowed_106] at h
    cases h
  | succ n ih =>
    intro l5 l6 h
    rw [fX7_isAllowed_106] at h
    refine ux_iload C dX7_isAllowed_106 2 rfl ?_
    refine ux_aload_n C dX7_isAllowed_108 0 rfl ?_
    refine ux_get C fl_X7_58 dX7_isAllowed_109 (oF W0) rfl ?_
    refine ux_get C fl_X7_136 dX7_isAllowed_112 (oCache W0 kC_10) rfl ?_
    refine ux_icmp_ge C dX7_isAllowed_115 h (fun h => ?_) (fun h => ?_)
    · refine ux_sub [0, 1] rfl ?_
      exact K l5 h
    · refine ux_aload_n C dX7_isAllowed_118 0 rfl ?_
      refine ux_aload_n C dX7_isAllowed_119 0 rfl ?_
      refine ux_get C fl_X7_58 dX7_isAllowed_120 (oF W0) rfl ?_
      refine ux_get C fl_X7_189 dX7_isAllowed_123 (oCache W0 kC_10) rfl ?_
      refine ux_iload C dX7_isAllowed_126 2 rfl ?_
      refine ux_iald C (aCache1 W0 kC_10) dX7_isAllowed_128 h (fun h => ?_)
      refine ux_aload_n C dX7_isAllowed_129 0 rfl ?_
      refine ux_get C fl_X7_58 dX7_isAllowed_130 (oF W0) rfl ?_
      refine ux_get C fl_X7_195 dX7_isAllowed_133 (oCache W0 kC_10) rfl ?_
      refine ux_iload C dX7_isAllowed_136 2 rfl ?_
      refine ux_iald C (aCache3 W0 kC_10) dX7_isAllowed_138 h (fun h => ?_)
      obtain ⟨x_10, h1, h⟩ := ob_some h
      refine ux_callVi C cv_X7_330 dX7_isAllowed_139 (oF W0) rfl (kX7_isGuarded W0 h1) rfl (Nat.le_of_ble_eq_true rfl) ⟨(Nat.le_of_ble_eq_true rfl), (Nat.le_of_ble_eq_true rfl)⟩ ⟨(Nat.le_of_ble_eq_true rfl), (Nat.le_of_ble_eq_true rfl)⟩ ?_ rfl
      refine ux_if_eq C dX7_isAllowed_142 h (fun h => ?_) (fun h => ?_)
      · refine ux_iincK C dX7_isAllowed_154 (by decide) 2 rfl (fun z => [(6, .int z), (0, .ref (vA V 0)), (5, .int l5)]) (fun _ => rfl) (by decide) h (fun l6_11 h => ?_)
        refine ux_goto C dX7_isAllowed_157 ?_
        refine ux_sub [1, 2, 0] rfl ?_
        exact ih _ _ h
      · refine ux_iload C dX7_isAllowed_145 1 rfl ?_
        refine ux_iconst (v := 1) C dX7_isAllowed_147 (by decide) ?_
        refine ux_iload C dX7_isAllowed_148 2 rfl ?_
        refine ux_ishl C dX7_isAllowed_150 ?_
        refine ux_ior C dX7_isAllowed_151 ?_
        refine ux_istore C dX7_isAllowed_152 (fun z => [(5, .int z), (0, .ref (vA V 0)), (6, .int l6)]) (fun _ => rfl) (by decide) h (fun l5_12 h => ?_)
        refine ux_iincK C dX7_isAllowed_154 (by decide) 2 rfl (fun z => [(6, .int z), (5, .int l5_12), (0, .ref (vA V 0))]) (fun _ => rfl) (by decide) h (fun l6_13 h => ?_)
        refine ux_goto C dX7_isAllowed_157 ?_
        refine ux_sub [2, 1, 0] rfl ?_
        exact ih _ _ h
set_option maxRecDepth 100000 in
set_option maxHeartbeats 4000000 in
theorem kX7_isAllowed {l : Launch} {V : uV} (W0 : uWC l V) {p1 : Int32} {p2 : Int32} {p3 : Int32} {st : uSt} {r : Int32} {s9 : uSt} (h : fX7_isAllowed p1 p2 p3 st = some (r, s9)) : uMet l V yX7_isAllowed cX7_isAllowed 7 (some .boolean) 2 49 0 0 [.ref (vA V 0), .int p1, .int p2, .int p3] st (some (.int r)) s9 := by
  refine ux_met W0.1 W0.2.1 (by decide) rfl (Nat.le_of_ble_eq_true rfl) (fun M hL hr C => ?_)
  subst hL
  have C : uCx M V cX7_isAllowed 7 RX7 2 49 0 0 := C
  unfold fX7_isAllowed at h
  refine ux_aload_n C dX7_isAllowed_0 0 rfl ?_
  refine ux_get C fl_X7_26 dX7_isAllowed_1 (oF W0) rfl ?_
  refine ux_get C fl_X7_137 dX7_isAllowed_4 (oState W0 kS_15) rfl ?_
  refine ux_get C fl_X7_141 dX7_isAllowed_7 (oRules W0 (kS_rules kS_15)) rfl ?_
  refine ux_iconst (v := 2) C dX7_isAllowed_10 (by decide) ?_
  refine ux_icmp_ne C dX7_isAllowed_11 h (fun h => ?_) (fun h => ?_)
  · refine ux_iconst (v := 0) C dX7_isAllowed_14 (by decide) ?_
    exact ux_zretSK C hr dX7_isAllowed_15 (by decide) h (Nat.le_of_ble_eq_true rfl) (Nat.le_of_ble_eq_true rfl)
  · refine ux_aload_n C dX7_isAllowed_16 0 rfl ?_
    refine ux_get C fl_X7_26 dX7_isAllowed_17 (oF W0) rfl ?_
    refine ux_get C fl_X7_133 dX7_isAllowed_20 (oState W0 kS_15) rfl ?_
    refine ux_iload_n C dX7_isAllowed_23 1 rfl ?_
    refine ux_iload_n C dX7_isAllowed_24 2 rfl ?_
    obtain ⟨x_1, h1, h⟩ := ob_some h
    refine ux_callVi C cv_X7_204 dX7_isAllowed_25 (oCache W0 (kS_cache kS_15)) rfl (kX1_indexOf W0 (kS_cache kS_15) h1) rfl (Nat.le_of_ble_eq_true rfl) ⟨(Nat.le_of_ble_eq_true rfl), (Nat.le_of_ble_eq_true rfl)⟩ ⟨(Nat.le_of_ble_eq_true rfl), (Nat.le_of_ble_eq_true rfl)⟩ ?_ rfl
    refine ux_iconst (v := (-1)) C dX7_isAllowed_28 (by decide) ?_
    obtain ⟨j_2, hK_2, h⟩ := oj1_some h
    have hJ_2 : ∀ (v_3 : Int32), j_2 v_3 = some (r, s9) → uW M V (uEnd M V 0 0 (some (.int r)) s9) 7 0 0 37 [(0, .ref (vA V 0)), (1, .int p1), (2, .int p2), (3, .int p3)] [.int v_3] st := by
      intro v_3 h
      replace h := hK_2 v_3 h
      refine ux_istoreK C dX7_isAllowed_37 rfl (by decide) ?_
      refine ux_iload C dX7_isAllowed_39 0 rfl ?_
      obtain ⟨j_5, hK_5, h⟩ := oj0_some h
      have hJ_5 : j_5 = some (r, s9) → uW M V (uEnd M V 0 0 (some (.int r)) s9) 7 0 0 69 [(0, .ref (vA V 0)), (1, .int p1), (2, .int p2), (3, .int p3)] [] st := by
        intro h
        replace h := hK_5 h
        refine ux_aload_n C dX7_isAllowed_69 0 rfl ?_
        refine ux_get C fl_X7_58 dX7_isAllowed_70 (oF W0) rfl ?_
        refine ux_aload_n C dX7_isAllowed_73 0 rfl ?_
        refine ux_get C fl_X7_26 dX7_isAllowed_74 (oF W0) rfl ?_
        refine ux_get C fl_X7_133 dX7_isAllowed_77 (oState W0 kS_15) rfl ?_
        obtain ⟨st_6, h1, h⟩ := obV_some h
        refine ux_callVv C cv_X7_327 dX7_isAllowed_80 (oCache W0 kC_10) rfl (kX1_copyFrom W0 kC_10 (kS_cache kS_15) h1) rfl (Nat.le_of_ble_eq_true rfl) ⟨(Nat.le_of_ble_eq_true rfl), (Nat.le_of_ble_eq_true rfl)⟩ ⟨(Nat.le_of_ble_eq_true rfl), (Nat.le_of_ble_eq_true rfl)⟩ ?_ rfl
        refine ux_aload_n C dX7_isAllowed_83 0 rfl ?_
        refine ux_get C fl_X7_58 dX7_isAllowed_84 (oF W0) rfl ?_
        refine ux_iload_n C dX7_isAllowed_87 1 rfl ?_
        refine ux_iload_n C dX7_isAllowed_88 2 rfl ?_
        refine ux_iload_n C dX7_isAllowed_89 3 rfl ?_
        refine ux_aload_n C dX7_isAllowed_90 0 rfl ?_
        refine ux_get C fl_X7_26 dX7_isAllowed_91 (oF W0) rfl ?_
        refine ux_get C fl_X7_126 dX7_isAllowed_94 (oState W0 kS_15) rfl ?_
        obtain ⟨st_7, h1, h⟩ := obV_some h
        refine ux_callVv C cv_X7_228 dX7_isAllowed_97 (oCache W0 kC_10) rfl (kX1_put W0 kC_10 h1) rfl (Nat.le_of_ble_eq_true rfl) ⟨(Nat.le_of_ble_eq_true rfl), (Nat.le_of_ble_eq_true rfl)⟩ ⟨(Nat.le_of_ble_eq_true rfl), (Nat.le_of_ble_eq_true rfl)⟩ ?_ rfl
        refine ux_iconst (v := 0) C dX7_isAllowed_100 (by decide) ?_
        refine ux_istoreK C dX7_isAllowed_101 rfl (by decide) ?_
        refine ux_iconst (v := 0) C dX7_isAllowed_103 (by decide) ?_
        refine ux_istoreK C dX7_isAllowed_104 rfl (by decide) ?_
        refine ux_sub [2, 1, 0] rfl ?_
        refine wX7_isAllowed_106 W0 C hr (fun l5_14 h => ?_) _ _ _ h
        refine ux_aload_n C dX7_isAllowed_160 0 rfl ?_
        refine ux_get C fl_X7_26 dX7_isAllowed_161 (oF W0) rfl ?_
        refine ux_get C fl_X7_117 dX7_isAllowed_164 (oState W0 kS_15) rfl ?_
        refine ux_aload_n C dX7_isAllowed_167 0 rfl ?_
        refine ux_get C fl_X7_58 dX7_isAllowed_168 (oF W0) rfl ?_
        refine ux_iload C dX7_isAllowed_171 1 rfl ?_
        obtain ⟨x_15, h1, h⟩ := ob_some h
        refine ux_callVi C cv_X7_182 dX7_isAllowed_173 (oDev W0 (kS_dev kS_15)) rfl (kX2_energyIn W0 (kS_dev kS_15) kC_10 h1) rfl (Nat.le_of_ble_eq_true rfl) ⟨(Nat.le_of_ble_eq_true rfl), (Nat.le_of_ble_eq_true rfl)⟩ ⟨(Nat.le_of_ble_eq_true rfl), (Nat.le_of_ble_eq_true rfl)⟩ ?_ rfl
        refine ux_aload_n C dX7_isAllowed_176 0 rfl ?_
        refine ux_get C fl_X7_26 dX7_isAllowed_177 (oF W0) rfl ?_
        refine ux_get C fl_X7_62 dX7_isAllowed_180 (oState W0 kS_15) rfl ?_
        refine ux_get C fl_X7_68 dX7_isAllowed_183 (oBat W0 (kS_bat kS_15)) rfl ?_
        refine ux_aload_n C dX7_isAllowed_186 0 rfl ?_
        refine ux_get C fl_X7_26 dX7_isAllowed_187 (oF W0) rfl ?_
        refine ux_get C fl_X7_137 dX7_isAllowed_190 (oState W0 kS_15) rfl ?_
        refine ux_get C fl_X7_297 dX7_isAllowed_193 (oRules W0 (kS_rules kS_15)) rfl ?_
        refine ux_isub C dX7_isAllowed_196 ?_
        refine ux_icmp_gt C dX7_isAllowed_197 h (fun h => ?_) (fun h => ?_)
        · refine ux_iconst (v := 0) C dX7_isAllowed_204 (by decide) ?_
          exact ux_zretSK C hr dX7_isAllowed_205 (by decide) h (Nat.le_of_ble_eq_true rfl) (Nat.le_of_ble_eq_true rfl)
        · refine ux_iconst (v := 1) C dX7_isAllowed_200 (by decide) ?_
          refine ux_goto C dX7_isAllowed_201 ?_
          exact ux_zretSK C hr dX7_isAllowed_205 (by decide) h (Nat.le_of_ble_eq_true rfl) (Nat.le_of_ble_eq_true rfl)
      refine ux_if_ne C dX7_isAllowed_41 h (fun h => ?_) (fun h => ?_)
      · refine ux_aload_n C dX7_isAllowed_44 1 rfl ?_
        refine ux_get C fl_X7_26 dX7_isAllowed_45 (oF W0) rfl ?_
        refine ux_get C fl_X7_133 dX7_isAllowed_48 (oState W0 kS_15) rfl ?_
        refine ux_get C fl_X7_136 dX7_isAllowed_51 (oCache W0 (kS_cache kS_15)) rfl ?_
        refine ux_aload_n C dX7_isAllowed_54 1 rfl ?_
        refine ux_get C fl_X7_26 dX7_isAllowed_55 (oF W0) rfl ?_
        refine ux_get C fl_X7_137 dX7_isAllowed_58 (oState W0 kS_15) rfl ?_
        refine ux_get C fl_X7_324 dX7_isAllowed_61 (oRules W0 (kS_rules kS_15)) rfl ?_
        refine ux_icmp_lt C dX7_isAllowed_64 h (fun h => ?_) (fun h => ?_)
        · refine ux_sub [1, 2, 3, 4] rfl ?_
          exact hJ_5 h
        · refine ux_iconst (v := 0) C dX7_isAllowed_67 (by decide) ?_
          exact ux_zretSK C hr dX7_isAllowed_68 (by decide) h (Nat.le_of_ble_eq_true rfl) (Nat.le_of_ble_eq_true rfl)
      · refine ux_sub [1, 2, 3, 4] rfl ?_
        exact hJ_5 h
    refine ux_icmp_eq C dX7_isAllowed_29 h (fun h => ?_) (fun h => ?_)
    · refine ux_iconst (v := 0) C dX7_isAllowed_36 (by decide) ?_
      exact hJ_2 (0 : Int32) h
    · refine ux_iconst (v := 1) C dX7_isAllowed_32 (by decide) ?_
      refine ux_goto C dX7_isAllowed_33 ?_
      exact hJ_2 (1 : Int32) h
set_option maxRecDepth 100000 in
set_option maxHeartbeats 4000000 in
theorem kX7_flushSet {l : Launch} {V : uV} (W0 : uWC l V) {p1 : Int32} {st : uSt} {r : Int32} {s9 : uSt} (h : fX7_flushSet p1 st = some (r, s9)) : uMet l V yX7_flushSet cX7_flushSet 3 (some .int) 2 48 0 0 [.ref (vA V 0), .int p1] st (some (.int r)) s9 := by
  refine ux_met W0.1 W0.2.1 (by decide) rfl (Nat.le_of_ble_eq_true rfl) (fun M hL hr C => ?_)
  subst hL
  have C : uCx M V cX7_flushSet 3 RX7 2 48 0 0 := C
  unfold fX7_flushSet at h
  refine ux_aload_n C dX7_flushSet_0 0 rfl ?_
  refine ux_get C fl_X7_26 dX7_flushSet_1 (oF W0) rfl ?_
  refine ux_get C fl_X7_133 dX7_flushSet_4 (oState W0 kS_15) rfl ?_
  refine ux_iload_n C dX7_flushSet_7 1 rfl ?_
  obtain ⟨x_1, h1, h⟩ := ob_some h
  refine ux_callVi C cv_X7_179 dX7_flushSet_8 (oCache W0 (kS_cache kS_15)) rfl (kX1_valueIn W0 (kS_cache kS_15) h1) rfl (Nat.le_of_ble_eq_true rfl) ⟨(Nat.le_of_ble_eq_true rfl), (Nat.le_of_ble_eq_true rfl)⟩ ⟨(Nat.le_of_ble_eq_true rfl), (Nat.le_of_ble_eq_true rfl)⟩ ?_ rfl
  refine ux_istoreK_n C dX7_flushSet_11 rfl (by decide) ?_
  refine ux_aload_n C dX7_flushSet_12 1 rfl ?_
  refine ux_get C fl_X7_26 dX7_flushSet_13 (oF W0) rfl ?_
  refine ux_get C fl_X7_62 dX7_flushSet_16 (oState W0 kS_15) rfl ?_
  refine ux_aload_n C dX7_flushSet_19 1 rfl ?_
  refine ux_get C fl_X7_26 dX7_flushSet_20 (oF W0) rfl ?_
  refine ux_get C fl_X7_117 dX7_flushSet_23 (oState W0 kS_15) rfl ?_
  refine ux_aload_n C dX7_flushSet_26 1 rfl ?_
  refine ux_get C fl_X7_26 dX7_flushSet_27 (oF W0) rfl ?_
  refine ux_get C fl_X7_133 dX7_flushSet_30 (oState W0 kS_15) rfl ?_
  refine ux_iload_n C dX7_flushSet_33 2 rfl ?_
  obtain ⟨x_3, h1, h⟩ := ob_some h
  refine ux_callVi C cv_X7_182 dX7_flushSet_34 (oDev W0 (kS_dev kS_15)) rfl (kX2_energyIn W0 (kS_dev kS_15) (kS_cache kS_15) h1) rfl (Nat.le_of_ble_eq_true rfl) ⟨(Nat.le_of_ble_eq_true rfl), (Nat.le_of_ble_eq_true rfl)⟩ ⟨(Nat.le_of_ble_eq_true rfl), (Nat.le_of_ble_eq_true rfl)⟩ ?_ rfl
  obtain ⟨st_4, h1, h⟩ := obV_some h
  refine ux_callVv C cv_X7_334 dX7_flushSet_37 (oBat W0 (kS_bat kS_15)) rfl (kX0_spend W0 (kS_bat kS_15) h1) rfl (Nat.le_of_ble_eq_true rfl) ⟨(Nat.le_of_ble_eq_true rfl), (Nat.le_of_ble_eq_true rfl)⟩ ⟨(Nat.le_of_ble_eq_true rfl), (Nat.le_of_ble_eq_true rfl)⟩ ?_ rfl
  refine ux_aload_n C dX7_flushSet_40 1 rfl ?_
  refine ux_get C fl_X7_26 dX7_flushSet_41 (oF W0) rfl ?_
  refine ux_get C fl_X7_133 dX7_flushSet_44 (oState W0 kS_15) rfl ?_
  refine ux_iload_n C dX7_flushSet_47 2 rfl ?_
  obtain ⟨st_5, h1, h⟩ := obV_some h
  refine ux_callVv C cv_X7_238 dX7_flushSet_48 (oCache W0 (kS_cache kS_15)) rfl (kX1_removeSet W0 (kS_cache kS_15) h1) rfl (Nat.le_of_ble_eq_true rfl) ⟨(Nat.le_of_ble_eq_true rfl), (Nat.le_of_ble_eq_true rfl)⟩ ⟨(Nat.le_of_ble_eq_true rfl), (Nat.le_of_ble_eq_true rfl)⟩ ?_ rfl
  refine ux_aload_n C dX7_flushSet_51 1 rfl ?_
  refine ux_get C fl_X7_26 dX7_flushSet_52 (oF W0) rfl ?_
  refine ux_get C fl_X7_217 dX7_flushSet_55 (oState W0 kS_15) rfl ?_
  refine ux_iconst (v := 2) C dX7_flushSet_58 (by decide) ?_
  refine ux_dup2 C dX7_flushSet_59 rfl rfl ?_
  refine ux_ialdK (j := 2) C (aTot W0 kS_15) dX7_flushSet_60 (by decide) (by decide) ?_
  refine ux_iload_n C dX7_flushSet_61 2 rfl ?_
  obtain ⟨x_6, h1, h⟩ := ob_some h
  refine ux_callSi C cs_X7_174 dX7_flushSet_62 (kJ6_bitCount_0f7a4 W0 h1) rfl (Nat.le_of_ble_eq_true rfl) ⟨(Nat.le_of_ble_eq_true rfl), (Nat.le_of_ble_eq_true rfl)⟩ ⟨(Nat.le_of_ble_eq_true rfl), (Nat.le_of_ble_eq_true rfl)⟩ ?_ rfl
  refine ux_iadd C dX7_flushSet_65 ?_
  refine ux_iastK (j := 2) C (aTot W0 kS_15) dX7_flushSet_66 (by decide) (by decide) h (fun st_7 h => ?_)
  refine ux_aload_n C dX7_flushSet_67 1 rfl ?_
  refine ux_get C fl_X7_26 dX7_flushSet_68 (oF W0) rfl ?_
  refine ux_get C fl_X7_217 dX7_flushSet_71 (oState W0 kS_15) rfl ?_
  refine ux_iconst (v := 4) C dX7_flushSet_74 (by decide) ?_
  refine ux_dup2 C dX7_flushSet_75 rfl rfl ?_
  refine ux_ialdK (j := 4) C (aTot W0 kS_15) dX7_flushSet_76 (by decide) (by decide) ?_
  refine ux_iload_n C dX7_flushSet_77 0 rfl ?_
  refine ux_iadd C dX7_flushSet_78 ?_
  refine ux_iastK (j := 4) C (aTot W0 kS_15) dX7_flushSet_79 (by decide) (by decide) h (fun st_8 h => ?_)
  refine ux_iload_n C dX7_flushSet_80 0 rfl ?_
  exact ux_iretS C hr dX7_flushSet_81 h (Nat.le_of_ble_eq_true rfl) (Nat.le_of_ble_eq_true rfl)
set_option maxRecDepth 100000 in
set_option maxHeartbeats 4000000 in
theorem kX7_valueFor {l : Launch} {V : uV} (W0 : uWC l V) {p1 : Int32} {p2 : Int32} {st : uSt} {r : Int32} {s9 : uSt} (h : fX7_valueFor p1 p2 st = some (r, s9)) : uMet l V yX7_valueFor cX7_valueFor 3 (some .int) 4 110 0 0 [.ref (vA V 0), .int p1, .int p2] st (some (.int r)) s9 := by
  refine ux_met W0.1 W0.2.1 (by decide) rfl (Nat.le_of_ble_eq_true rfl) (fun M hL hr C => ?_)
  subst hL
  have C : uCx M V cX7_valueFor 3 RX7 4 110 0 0 := C
  unfold fX7_valueFor at h
  refine ux_aload_n C dX7_valueFor_0 0 rfl ?_
  refine ux_get C fl_X7_26 dX7_valueFor_1 (oF W0) rfl ?_
  refine ux_get C fl_X7_133 dX7_valueFor_4 (oState W0 kS_15) rfl ?_
  refine ux_aload_n C dX7_valueFor_7 0 rfl ?_
  refine ux_get C fl_X7_44 dX7_valueFor_8 (oF W0) rfl ?_
  refine ux_aload_n C dX7_valueFor_11 0 rfl ?_
  refine ux_get C fl_X7_26 dX7_valueFor_12 (oF W0) rfl ?_
  refine ux_iload_n C dX7_valueFor_15 1 rfl ?_
  refine ux_iload_n C dX7_valueFor_16 2 rfl ?_
  obtain ⟨x_2, st_1, h1, h⟩ := obS_some h
  refine ux_callVi C cv_X7_256 dX7_valueFor_17 (oSearch W0) rfl (kX4_best W0 kS_15 h1) rfl (Nat.le_of_ble_eq_true rfl) ⟨(Nat.le_of_ble_eq_true rfl), (Nat.le_of_ble_eq_true rfl)⟩ ⟨(Nat.le_of_ble_eq_true rfl), (Nat.le_of_ble_eq_true rfl)⟩ ?_ rfl
  obtain ⟨x_3, h1, h⟩ := ob_some h
  refine ux_callVi C cv_X7_179 dX7_valueFor_20 (oCache W0 (kS_cache kS_15)) rfl (kX1_valueIn W0 (kS_cache kS_15) h1) rfl (Nat.le_of_ble_eq_true rfl) ⟨(Nat.le_of_ble_eq_true rfl), (Nat.le_of_ble_eq_true rfl)⟩ ⟨(Nat.le_of_ble_eq_true rfl), (Nat.le_of_ble_eq_true rfl)⟩ ?_ rfl
  exact ux_iretS C hr dX7_valueFor_23 h (Nat.le_of_ble_eq_true rfl) (Nat.le_of_ble_eq_true rfl)
set_option maxRecDepth 100000 in
set_option maxHeartbeats 4000000 in
theorem wX7_greedyBlocks_13 {M : uM} {V : uV} (W0 : uWC (mL M) V) (C : uCx M V cX7_greedyBlocks 6 RX7 2 48 0 0) (hr : (mT M).sig.returnType = (some .int)) {l1 : Int32} {st : uSt} {r : Int32} {ke : Int32 → Option Int32} (K : ∀ (l3 : Int32), ke l3 = some r → uW M V (uEnd M V 0 0 (some (.int r)) st) 6 0 0 82 [(3, .int l3)] [] st) : ∀ (n : Nat) (l2 : Int32) (l3 : Int32) (l4 : Int32), fX7_greedyBlocks_13 l1 st ke n l2 l3 l4 = some r → uW M V (uEnd M V 0 0 (some (.int r)) st) 6 0 0 13 [(0, .ref (vA V 0)), (1, .int l1), (2, .int l2), (3, .int l3), (4, .int l4)] [] st := by
  intro n
  induction n with
  | zero =>
    intro l2 l3 l4 h
    rw [fX7_greedyBlocks_13] at h
    cases h
  | succ n ih =>
    intro l2 l3 l4 h
    rw [fX7_greedyBlocks_13] at h
    refine ux_iload C dX7_greedyBlocks_13 4 rfl ?_
    refine ux_bipush (v := 24) C dX7_greedyBlocks_15 (by decide) ?_
    refine ux_icmp_ge C dX7_greedyBlocks_17 h (fun h => ?_) (fun h => ?_)
    · refine ux_sub [3] rfl ?_
      exact K l3 h
    · refine ux_iload_n C dX7_greedyBlocks_20 2 rfl ?_
      refine ux_if_eq C dX7_greedyBlocks_21 h (fun h => ?_) (fun h => ?_)
      · refine ux_sub [3] rfl ?_
        exact K l3 h
      · refine ux_iconst (v := 1) C dX7_greedyBlocks_24 (by decide) ?_
        refine ux_aload_n C dX7_greedyBlocks_25 0 rfl ?_
        refine ux_get C fl_X7_26 dX7_greedyBlocks_26 (oF W0) rfl ?_
        refine ux_get C fl_X7_133 dX7_greedyBlocks_29 (oState W0 kS_15) rfl ?_
        refine ux_iload_n C dX7_greedyBlocks_32 2 rfl ?_
        obtain ⟨x_5, h1, h⟩ := ob_some h
        refine ux_callVi C cv_X7_337 dX7_greedyBlocks_33 (oCache W0 (kS_cache kS_15)) rfl (kX1_mostValuable W0 (kS_cache kS_15) h1) rfl (Nat.le_of_ble_eq_true rfl) ⟨(Nat.le_of_ble_eq_true rfl), (Nat.le_of_ble_eq_true rfl)⟩ ⟨(Nat.le_of_ble_eq_true rfl), (Nat.le_of_ble_eq_true rfl)⟩ ?_ rfl
        refine ux_ishl C dX7_greedyBlocks_36 ?_
        refine ux_istore C dX7_greedyBlocks_37 (fun z => [(5, .int z), (0, .ref (vA V 0)), (1, .int l1), (2, .int l2), (3, .int l3), (4, .int l4)]) (fun _ => rfl) (by decide) h (fun l5_6 h => ?_)
        refine ux_iload_n C dX7_greedyBlocks_39 3 rfl ?_
        refine ux_iload C dX7_greedyBlocks_40 0 rfl ?_
        refine ux_iconst (v := (-1)) C dX7_greedyBlocks_42 (by decide) ?_
        refine ux_ixor C dX7_greedyBlocks_43 ?_
        refine ux_iand C dX7_greedyBlocks_44 ?_
        refine ux_istore_n C dX7_greedyBlocks_45 (fun z => [(2, .int z), (5, .int l5_6), (0, .ref (vA V 0)), (1, .int l1), (3, .int l3), (4, .int l4)]) (fun _ => rfl) (by decide) h (fun l2_7 h => ?_)
        refine ux_aload_n C dX7_greedyBlocks_46 2 rfl ?_
        refine ux_get C fl_X7_26 dX7_greedyBlocks_47 (oF W0) rfl ?_
        refine ux_get C fl_X7_117 dX7_greedyBlocks_50 (oState W0 kS_15) rfl ?_
        refine ux_aload_n C dX7_greedyBlocks_53 2 rfl ?_
        refine ux_get C fl_X7_26 dX7_greedyBlocks_54 (oF W0) rfl ?_
        refine ux_get C fl_X7_133 dX7_greedyBlocks_57 (oState W0 kS_15) rfl ?_
        refine ux_iload_n C dX7_greedyBlocks_60 4 rfl ?_
        refine ux_iload C dX7_greedyBlocks_61 1 rfl ?_
        refine ux_ior C dX7_greedyBlocks_63 ?_
        obtain ⟨x_8, h1, h⟩ := ob_some h
        refine ux_callVi C cv_X7_182 dX7_greedyBlocks_64 (oDev W0 (kS_dev kS_15)) rfl (kX2_energyIn W0 (kS_dev kS_15) (kS_cache kS_15) h1) rfl (Nat.le_of_ble_eq_true rfl) ⟨(Nat.le_of_ble_eq_true rfl), (Nat.le_of_ble_eq_true rfl)⟩ ⟨(Nat.le_of_ble_eq_true rfl), (Nat.le_of_ble_eq_true rfl)⟩ ?_ rfl
        refine ux_iload_n C dX7_greedyBlocks_67 3 rfl ?_
        refine ux_icmp_gt C dX7_greedyBlocks_68 h (fun h => ?_) (fun h => ?_)
        · refine ux_iincK C dX7_greedyBlocks_76 (by decide) 5 rfl (fun z => [(4, .int z), (2, .int l2_7), (5, .int l5_6), (0, .ref (vA V 0)), (1, .int l1), (3, .int l3)]) (fun _ => rfl) (by decide) h (fun l4_9 h => ?_)
          refine ux_goto C dX7_greedyBlocks_79 ?_
          refine ux_sub [3, 4, 1, 5, 0] rfl ?_
          exact ih _ _ _ h
        · refine ux_iload_n C dX7_greedyBlocks_71 4 rfl ?_
          refine ux_iload C dX7_greedyBlocks_72 1 rfl ?_
          refine ux_ior C dX7_greedyBlocks_74 ?_
          refine ux_istore_n C dX7_greedyBlocks_75 (fun z => [(3, .int z), (2, .int l2_7), (5, .int l5_6), (0, .ref (vA V 0)), (1, .int l1), (4, .int l4)]) (fun _ => rfl) (by decide) h (fun l3_10 h => ?_)
          refine ux_iincK C dX7_greedyBlocks_76 (by decide) 5 rfl (fun z => [(4, .int z), (3, .int l3_10), (2, .int l2_7), (5, .int l5_6), (0, .ref (vA V 0)), (1, .int l1)]) (fun _ => rfl) (by decide) h (fun l4_11 h => ?_)
          refine ux_goto C dX7_greedyBlocks_79 ?_
          refine ux_sub [4, 5, 2, 1, 0] rfl ?_
          exact ih _ _ _ h
set_option maxRecDepth 100000 in
set_option maxHeartbeats 4000000 in
theorem kX7_greedyBlocks {l : Launch} {V : uV} (W0 : uWC l V) {p1 : Int32} {st : uSt} {r : Int32} (h : fX7_greedyBlocks p1 st = some r) : uMet l V yX7_greedyBlocks cX7_greedyBlocks 6 (some .int) 2 48 0 0 [.ref (vA V 0), .int p1] st (some (.int r)) st := by
  refine ux_met W0.1 W0.2.1 (by decide) rfl (Nat.le_of_ble_eq_true rfl) (fun M hL hr C => ?_)
  subst hL
  have C : uCx M V cX7_greedyBlocks 6 RX7 2 48 0 0 := C
  unfold fX7_greedyBlocks at h
  refine ux_aload_n C dX7_greedyBlocks_0 0 rfl ?_
  refine ux_get C fl_X7_26 dX7_greedyBlocks_1 (oF W0) rfl ?_
  obtain ⟨x_1, h1, h⟩ := ob_some h
  refine ux_callVi C cv_X7_253 dX7_greedyBlocks_4 (oState W0 kS_15) rfl (kX6_usableBlocks W0 kS_15 h1) rfl (Nat.le_of_ble_eq_true rfl) ⟨(Nat.le_of_ble_eq_true rfl), (Nat.le_of_ble_eq_true rfl)⟩ ⟨(Nat.le_of_ble_eq_true rfl), (Nat.le_of_ble_eq_true rfl)⟩ ?_ rfl
  refine ux_istoreK_n C dX7_greedyBlocks_7 rfl (by decide) ?_
  refine ux_iconst (v := 0) C dX7_greedyBlocks_8 (by decide) ?_
  refine ux_istoreK_n C dX7_greedyBlocks_9 rfl (by decide) ?_
  refine ux_iconst (v := 0) C dX7_greedyBlocks_10 (by decide) ?_
  refine ux_istoreK C dX7_greedyBlocks_11 rfl (by decide) ?_
  refine ux_sub [3, 4, 2, 1, 0] rfl ?_
  refine wX7_greedyBlocks_13 W0 C hr (fun l3_12 h => ?_) _ _ _ _ h
  refine ux_iload_n C dX7_greedyBlocks_82 0 rfl ?_
  exact ux_iret C hr dX7_greedyBlocks_83 h (Nat.le_of_ble_eq_true rfl) (Nat.le_of_ble_eq_true rfl)
set_option maxRecDepth 100000 in
set_option maxHeartbeats 4000000 in
theorem kX7_append {l : Launch} {V : uV} (W0 : uWC l V) {p1 : Int32} {p2 : Int32} {p3 : Int32} {p4 : Int32} {p5 : Int32} {st : uSt} {r : Int32 ⊕ String} {s9 : uSt} (h : fX7_append p1 p2 p3 p4 p5 st = some (r, s9)) : uMetX l V yX7_append cX7_append 6 (some .int) 6 90 1 6 [.ref (vA V 0), .int p1, .int p2, .int p3, .int p4, .int p5] st (xI r) s9 := by
  refine ux_metX W0.1 W0.2.1 (by decide) rfl (Nat.le_of_ble_eq_true rfl) (fun M hL hr C hT => ?_)
  subst hL
  have C : uCx M V cX7_append 6 RX7 6 90 1 6 := C
  unfold fX7_append at h
  refine ux_aload_n C dX7_append_0 0 rfl ?_
  refine ux_get C fl_X7_10 dX7_append_1 (oF W0) rfl ?_
  refine ux_get C fl_X7_80 dX7_append_4 (oST W0) rfl ?_
  refine ux_sipush (v := 380) C dX7_append_7 (by decide) ?_
  refine ux_icmp_le C dX7_append_10 h (fun h => ?_) (fun h => ?_)
  · refine ux_aload_n C dX7_append_23 0 rfl ?_
    refine ux_get C fl_X7_10 dX7_append_24 (oF W0) rfl ?_
    refine ux_iload_n C dX7_append_27 1 rfl ?_
    obtain ⟨st_1, h1, h⟩ := obV_some h
    refine ux_callVv C cv_X7_90 dX7_append_28 (oST W0) rfl (kX5_addBytesOf W0 h1) rfl (Nat.le_of_ble_eq_true rfl) ⟨(Nat.le_of_ble_eq_true rfl), (Nat.le_of_ble_eq_true rfl)⟩ ⟨(Nat.le_of_ble_eq_true rfl), (Nat.le_of_ble_eq_true rfl)⟩ ?_ rfl
    refine ux_aload_n C dX7_append_31 0 rfl ?_
    refine ux_get C fl_X7_10 dX7_append_32 (oF W0) rfl ?_
    refine ux_iload_n C dX7_append_35 2 rfl ?_
    obtain ⟨st_2, h1, h⟩ := obV_some h
    refine ux_callVv C cv_X7_90 dX7_append_36 (oST W0) rfl (kX5_addBytesOf W0 h1) rfl (Nat.le_of_ble_eq_true rfl) ⟨(Nat.le_of_ble_eq_true rfl), (Nat.le_of_ble_eq_true rfl)⟩ ⟨(Nat.le_of_ble_eq_true rfl), (Nat.le_of_ble_eq_true rfl)⟩ ?_ rfl
    refine ux_aload_n C dX7_append_39 0 rfl ?_
    refine ux_get C fl_X7_10 dX7_append_40 (oF W0) rfl ?_
    refine ux_iload_n C dX7_append_43 3 rfl ?_
    obtain ⟨st_3, h1, h⟩ := obV_some h
    refine ux_callVv C cv_X7_90 dX7_append_44 (oST W0) rfl (kX5_addBytesOf W0 h1) rfl (Nat.le_of_ble_eq_true rfl) ⟨(Nat.le_of_ble_eq_true rfl), (Nat.le_of_ble_eq_true rfl)⟩ ⟨(Nat.le_of_ble_eq_true rfl), (Nat.le_of_ble_eq_true rfl)⟩ ?_ rfl
    refine ux_aload_n C dX7_append_47 0 rfl ?_
    refine ux_get C fl_X7_10 dX7_append_48 (oF W0) rfl ?_
    refine ux_iload C dX7_append_51 4 rfl ?_
    obtain ⟨st_4, h1, h⟩ := obV_some h
    refine ux_callVv C cv_X7_90 dX7_append_53 (oST W0) rfl (kX5_addBytesOf W0 h1) rfl (Nat.le_of_ble_eq_true rfl) ⟨(Nat.le_of_ble_eq_true rfl), (Nat.le_of_ble_eq_true rfl)⟩ ⟨(Nat.le_of_ble_eq_true rfl), (Nat.le_of_ble_eq_true rfl)⟩ ?_ rfl
    refine ux_aload_n C dX7_append_56 0 rfl ?_
    refine ux_get C fl_X7_10 dX7_append_57 (oF W0) rfl ?_
    refine ux_iload C dX7_append_60 5 rfl ?_
    obtain ⟨st_5, h1, h⟩ := obV_some h
    refine ux_callVv C cv_X7_90 dX7_append_62 (oST W0) rfl (kX5_addBytesOf W0 h1) rfl (Nat.le_of_ble_eq_true rfl) ⟨(Nat.le_of_ble_eq_true rfl), (Nat.le_of_ble_eq_true rfl)⟩ ⟨(Nat.le_of_ble_eq_true rfl), (Nat.le_of_ble_eq_true rfl)⟩ ?_ rfl
    refine ux_aload_n C dX7_append_65 0 rfl ?_
    refine ux_get C fl_X7_10 dX7_append_66 (oF W0) rfl ?_
    refine ux_get C fl_X7_80 dX7_append_69 (oST W0) rfl ?_
    exact ux_iretX C hr dX7_append_72 h (Nat.le_of_ble_eq_true rfl) (Nat.le_of_ble_eq_true rfl)
  · exact ux_throwS C th_X7_append_13 hT dX7_append_13 dX7_append_16 dX7_append_17 dX7_append_19 dX7_append_22 (fun _ => rfl) h (Nat.le_of_ble_eq_true rfl) ⟨(Nat.le_of_ble_eq_true rfl), (Nat.le_of_ble_eq_true rfl)⟩ ⟨(Nat.le_of_ble_eq_true rfl), (Nat.le_of_ble_eq_true rfl)⟩ ⟨(Nat.le_of_ble_eq_true rfl), (Nat.le_of_ble_eq_true rfl)⟩
set_option maxRecDepth 100000 in
set_option maxHeartbeats 4000000 in
theorem kX7_truncate {l : Launch} {V : uV} (W0 : uWC l V) {p1 : Int32} {st : uSt} {r : Int32 ⊕ String} {s9 : uSt} (h : fX7_truncate p1 st = some (r, s9)) : uMetX l V yX7_truncate cX7_truncate 2 (some .int) 6 90 1 6 [.ref (vA V 0), .int p1] st (xI r) s9 := by
  refine ux_metX W0.1 W0.2.1 (by decide) rfl (Nat.le_of_ble_eq_true rfl) (fun M hL hr C hT => ?_)
  subst hL
  have C : uCx M V cX7_truncate 2 RX7 6 90 1 6 := C
  unfold fX7_truncate at h
  refine ux_iload_n C dX7_truncate_0 1 rfl ?_
  obtain ⟨j_1, hK_1, h⟩ := oj0_some h
  have hJ_1 : j_1 = some (r, s9) → uW M V (uEndX M V 1 6 (xI r) s9) 2 0 0 15 [] [] st := by
    intro h
    replace h := hK_1 h
    exact ux_throwS C th_X7_truncate_15 hT dX7_truncate_15 dX7_truncate_18 dX7_truncate_19 dX7_truncate_21 dX7_truncate_24 (fun _ => rfl) h (Nat.le_of_ble_eq_true rfl) ⟨(Nat.le_of_ble_eq_true rfl), (Nat.le_of_ble_eq_true rfl)⟩ ⟨(Nat.le_of_ble_eq_true rfl), (Nat.le_of_ble_eq_true rfl)⟩ ⟨(Nat.le_of_ble_eq_true rfl), (Nat.le_of_ble_eq_true rfl)⟩
  refine ux_if_lt C dX7_truncate_1 h (fun h => ?_) (fun h => ?_)
  · refine ux_sub [] rfl ?_
    exact hJ_1 h
  · refine ux_iload_n C dX7_truncate_4 1 rfl ?_
    refine ux_aload_n C dX7_truncate_5 0 rfl ?_
    refine ux_get C fl_X7_10 dX7_truncate_6 (oF W0) rfl ?_
    refine ux_get C fl_X7_80 dX7_truncate_9 (oST W0) rfl ?_
    refine ux_icmp_le C dX7_truncate_12 h (fun h => ?_) (fun h => ?_)
    · refine ux_aload_n C dX7_truncate_25 0 rfl ?_
      refine ux_get C fl_X7_10 dX7_truncate_26 (oF W0) rfl ?_
      refine ux_iload_n C dX7_truncate_29 1 rfl ?_
      refine ux_puti C fp_X7_80 dX7_truncate_30 (oST W0) (Nat.le_of_ble_eq_true rfl) rfl h (fun st_2 h => ?_)
      refine ux_iload_n C dX7_truncate_33 1 rfl ?_
      exact ux_iretX C hr dX7_truncate_34 h (Nat.le_of_ble_eq_true rfl) (Nat.le_of_ble_eq_true rfl)
    · refine ux_sub [] rfl ?_
      exact hJ_1 h
set_option maxRecDepth 100000 in
set_option maxHeartbeats 4000000 in
theorem wX7_load_71 {M : uM} {V : uV} (W0 : uWC (mL M) V) (C : uCx M V cX7_load 2 RX7 10 216 1 6) (hr : (mT M).sig.returnType = (some .int)) (hT : ∀ x ∈ (mC M).exceptionTable.toList, False) {r : Int32 ⊕ String} {s9 : uSt} {ke : uSt → Option ((Int32 ⊕ String) × uSt)} (K : ∀ (st : uSt), ke st = some (r, s9) → uW M V (uEndX M V 1 6 (xI r) s9) 2 0 0 89 [(0, .ref (vA V 0))] [] st) : ∀ (n : Nat) (st : uSt) (l1 : Int32), fX7_load_71 ke n st l1 = some (r, s9) → uW M V (uEndX M V 1 6 (xI r) s9) 2 0 0 71 [(0, .ref (vA V 0)), (1, .int l1)] [] st := by
  intro n
  induction n with
  | zero =>
    intro st l1 h
    rw [fX7_load_71] at h
    cases h
  | succ n ih =>
    intro st l1 h
    rw [fX7_load_71] at h
    refine ux_iload_n C dX7_load_71 1 rfl ?_
    refine ux_iconst (v := 2) C dX7_load_72 (by decide) ?_
    refine ux_icmp_ge C dX7_load_73 h (fun h => ?_) (fun h => ?_)
    · refine ux_sub [0] rfl ?_
      exact K st h
    · refine ux_aload_n C dX7_load_76 0 rfl ?_
      refine ux_get C fl_X7_37 dX7_load_77 (oF W0) rfl ?_
      refine ux_iload_n C dX7_load_80 1 rfl ?_
      refine ux_iconst (v := 0) C dX7_load_81 (by decide) ?_
      refine ux_zastB C (aIsSaved W0) dX7_load_82 (by decide) h (fun st_7 h => ?_)
      refine ux_iincK C dX7_load_83 (by decide) 1 rfl (fun z => [(1, .int z), (0, .ref (vA V 0))]) (fun _ => rfl) (by decide) h (fun l1_8 h => ?_)
      refine ux_goto C dX7_load_86 ?_
      refine ux_sub [1, 0] rfl ?_
      exact ih _ _ h
set_option maxRecDepth 100000 in
set_option maxHeartbeats 4000000 in
theorem kX7_load {l : Launch} {V : uV} (W0 : uWC l V) {st : uSt} {r : Int32 ⊕ String} {s9 : uSt} (h : fX7_load st = some (r, s9)) : uMetX l V yX7_load cX7_load 2 (some .int) 10 216 1 6 [.ref (vA V 0)] st (xI r) s9 := by
  refine ux_metX W0.1 W0.2.1 (by decide) rfl (Nat.le_of_ble_eq_true rfl) (fun M hL hr C hT => ?_)
  subst hL
  have C : uCx M V cX7_load 2 RX7 10 216 1 6 := C
  unfold fX7_load at h
  refine ux_aload_n C dX7_load_0 0 rfl ?_
  refine ux_get C fl_X7_10 dX7_load_1 (oF W0) rfl ?_
  refine ux_aload_n C dX7_load_4 0 rfl ?_
  refine ux_get C fl_X7_30 dX7_load_5 (oF W0) rfl ?_
  obtain ⟨st_1, h1, h⟩ := obV_some h
  refine ux_callVv C cv_X7_99 dX7_load_8 (oST W0) rfl (kX5_readInto W0 kS_29 h1) rfl (Nat.le_of_ble_eq_true rfl) ⟨(Nat.le_of_ble_eq_true rfl), (Nat.le_of_ble_eq_true rfl)⟩ ⟨(Nat.le_of_ble_eq_true rfl), (Nat.le_of_ble_eq_true rfl)⟩ ?_ rfl
  refine ux_aload_n C dX7_load_11 0 rfl ?_
  refine ux_get C fl_X7_10 dX7_load_12 (oF W0) rfl ?_
  refine ux_iconst (v := 0) C dX7_load_15 (by decide) ?_
  refine ux_puti C fp_X7_80 dX7_load_16 (oST W0) (Nat.le_of_ble_eq_true rfl) rfl h (fun st_2 h => ?_)
  refine ux_aload_n C dX7_load_19 0 rfl ?_
  refine ux_aload_n C dX7_load_20 0 rfl ?_
  refine ux_get C fl_X7_10 dX7_load_21 (oF W0) rfl ?_
  refine ux_get C fl_X7_103 dX7_load_24 (oST W0) rfl ?_
  refine ux_puti C fp_X7_16 dX7_load_27 (oF W0) (Nat.le_of_ble_eq_true rfl) rfl h (fun st_3 h => ?_)
  refine ux_aload_n C dX7_load_30 0 rfl ?_
  refine ux_aload_n C dX7_load_31 0 rfl ?_
  refine ux_get C fl_X7_10 dX7_load_32 (oF W0) rfl ?_
  refine ux_get C fl_X7_106 dX7_load_35 (oST W0) rfl ?_
  refine ux_puti C fp_X7_20 dX7_load_38 (oF W0) (Nat.le_of_ble_eq_true rfl) rfl h (fun st_4 h => ?_)
  refine ux_aload_n C dX7_load_41 0 rfl ?_
  refine ux_get C fl_X7_16 dX7_load_42 (oF W0) rfl ?_
  refine ux_if_eq C dX7_load_45 h (fun h => ?_) (fun h => ?_)
  · refine ux_aload_n C dX7_load_58 0 rfl ?_
    refine ux_get C fl_X7_26 dX7_load_59 (oF W0) rfl ?_
    refine ux_aload_n C dX7_load_62 0 rfl ?_
    refine ux_get C fl_X7_30 dX7_load_63 (oF W0) rfl ?_
    obtain ⟨st_5, h1, h⟩ := obV_some h
    refine ux_callVv C cv_X7_114 dX7_load_66 (oState W0 kS_15) rfl (kX6_copyFrom W0 kS_15 kS_29 h1) rfl (Nat.le_of_ble_eq_true rfl) ⟨(Nat.le_of_ble_eq_true rfl), (Nat.le_of_ble_eq_true rfl)⟩ ⟨(Nat.le_of_ble_eq_true rfl), (Nat.le_of_ble_eq_true rfl)⟩ ?_ rfl
    refine ux_iconst (v := 0) C dX7_load_69 (by decide) ?_
    refine ux_istoreK_n C dX7_load_70 rfl (by decide) ?_
    refine ux_sub [1, 0] rfl ?_
    refine wX7_load_71 W0 C hr hT (fun st_9 h => ?_) _ _ _ h
    refine ux_aload_n C dX7_load_89 0 rfl ?_
    refine ux_get C fl_X7_26 dX7_load_90 (oF W0) rfl ?_
    refine ux_get C fl_X7_117 dX7_load_93 (oState W0 kS_15) rfl ?_
    refine ux_get C fl_X7_121 dX7_load_96 (oDev W0 (kS_dev kS_15)) rfl ?_
    exact ux_iretX C hr dX7_load_99 h (Nat.le_of_ble_eq_true rfl) (Nat.le_of_ble_eq_true rfl)
  · exact ux_throwS C th_X7_load_48 hT dX7_load_48 dX7_load_51 dX7_load_52 dX7_load_54 dX7_load_57 (fun _ => rfl) h (Nat.le_of_ble_eq_true rfl) ⟨(Nat.le_of_ble_eq_true rfl), (Nat.le_of_ble_eq_true rfl)⟩ ⟨(Nat.le_of_ble_eq_true rfl), (Nat.le_of_ble_eq_true rfl)⟩ ⟨(Nat.le_of_ble_eq_true rfl), (Nat.le_of_ble_eq_true rfl)⟩
set_option maxRecDepth 100000 in
set_option maxHeartbeats 4000000 in
theorem kX7_errorCode {l : Launch} {V : uV} (W0 : uWC l V) {st : uSt} {r : Int32} (h : fX7_errorCode st = some r) : uMet l V yX7_errorCode cX7_errorCode 1 (some .int) 0 0 0 0 [.ref (vA V 0)] st (some (.int r)) st := by
  refine ux_met W0.1 W0.2.1 (by decide) rfl (Nat.le_of_ble_eq_true rfl) (fun M hL hr C => ?_)
  subst hL
  have C : uCx M V cX7_errorCode 1 RX7 0 0 0 0 := C
  unfold fX7_errorCode at h
  refine ux_aload_n C dX7_errorCode_0 0 rfl ?_
  refine ux_get C fl_X7_16 dX7_errorCode_1 (oF W0) rfl ?_
  exact ux_iret C hr dX7_errorCode_4 h (Nat.le_of_ble_eq_true rfl) (Nat.le_of_ble_eq_true rfl)
set_option maxRecDepth 100000 in
set_option maxHeartbeats 4000000 in
theorem kX7_errorPosition {l : Launch} {V : uV} (W0 : uWC l V) {st : uSt} {r : Int32} (h : fX7_errorPosition st = some r) : uMet l V yX7_errorPosition cX7_errorPosition 1 (some .int) 0 0 0 0 [.ref (vA V 0)] st (some (.int r)) st := by
  refine ux_met W0.1 W0.2.1 (by decide) rfl (Nat.le_of_ble_eq_true rfl) (fun M hL hr C => ?_)
  subst hL
  have C : uCx M V cX7_errorPosition 1 RX7 0 0 0 0 := C
  unfold fX7_errorPosition at h
  refine ux_aload_n C dX7_errorPosition_0 0 rfl ?_
  refine ux_get C fl_X7_20 dX7_errorPosition_1 (oF W0) rfl ?_
  exact ux_iret C hr dX7_errorPosition_4 h (Nat.le_of_ble_eq_true rfl) (Nat.le_of_ble_eq_true rfl)
set_option maxRecDepth 100000 in
set_option maxHeartbeats 4000000 in
theorem kX7_report {l : Launch} {V : uV} (W0 : uWC l V) {p1 : Int32} {st : uSt} {r : Int32 ⊕ String} {s9 : uSt} (h : fX7_report p1 st = some (r, s9)) : uMetX l V yX7_report cX7_report 2 (some .int) 6 90 1 6 [.ref (vA V 0), .int p1] st (xI r) s9 := by
  refine ux_metX W0.1 W0.2.1 (by decide) rfl (Nat.le_of_ble_eq_true rfl) (fun M hL hr C hT => ?_)
  subst hL
  have C : uCx M V cX7_report 2 RX7 6 90 1 6 := C
  unfold fX7_report at h
  refine ux_iload_n C dX7_report_0 1 rfl ?_
  by_cases c0 : p1.toInt < 0 ∨ 8 < p1.toInt
  · rw [if_pos c0] at h
    refine ux_tsOut (tgt := 153) C dX7_report_1 c0 (by decide) ?_
    exact ux_throwS C th_X7_report_153 hT dX7_report_153 dX7_report_156 dX7_report_157 dX7_report_159 dX7_report_162 (fun _ => rfl) h (Nat.le_of_ble_eq_true rfl) ⟨(Nat.le_of_ble_eq_true rfl), (Nat.le_of_ble_eq_true rfl)⟩ ⟨(Nat.le_of_ble_eq_true rfl), (Nat.le_of_ble_eq_true rfl)⟩ ⟨(Nat.le_of_ble_eq_true rfl), (Nat.le_of_ble_eq_true rfl)⟩
  · rw [if_neg c0] at h
    by_cases c1 : p1 = 0
    · rw [if_pos c1] at h
      refine ux_tsIn (off := 51) (tgt := 52) C dX7_report_1 c1 (by decide) (by decide) (by decide) (by decide) ?_
      refine ux_aload_n C dX7_report_52 0 rfl ?_
      refine ux_get C fl_X7_26 dX7_report_53 (oF W0) rfl ?_
      refine ux_get C fl_X7_62 dX7_report_56 (oState W0 kS_15) rfl ?_
      refine ux_get C fl_X7_65 dX7_report_59 (oBat W0 (kS_bat kS_15)) rfl ?_
      exact ux_iretX C hr dX7_report_62 h (Nat.le_of_ble_eq_true rfl) (Nat.le_of_ble_eq_true rfl)
    rw [if_neg c1] at h
    by_cases c2 : p1 = 1
    · rw [if_pos c2] at h
      refine ux_tsIn (off := 62) (tgt := 63) C dX7_report_1 c2 (by decide) (by decide) (by decide) (by decide) ?_
      refine ux_aload_n C dX7_report_63 0 rfl ?_
      refine ux_get C fl_X7_26 dX7_report_64 (oF W0) rfl ?_
      refine ux_get C fl_X7_62 dX7_report_67 (oState W0 kS_15) rfl ?_
      refine ux_get C fl_X7_68 dX7_report_70 (oBat W0 (kS_bat kS_15)) rfl ?_
      exact ux_iretX C hr dX7_report_73 h (Nat.le_of_ble_eq_true rfl) (Nat.le_of_ble_eq_true rfl)
    rw [if_neg c2] at h
    by_cases c3 : p1 = 2
    · rw [if_pos c3] at h
      refine ux_tsIn (off := 73) (tgt := 74) C dX7_report_1 c3 (by decide) (by decide) (by decide) (by decide) ?_
      refine ux_aload_n C dX7_report_74 0 rfl ?_
      refine ux_get C fl_X7_26 dX7_report_75 (oF W0) rfl ?_
      refine ux_get C fl_X7_126 dX7_report_78 (oState W0 kS_15) rfl ?_
      exact ux_iretX C hr dX7_report_81 h (Nat.le_of_ble_eq_true rfl) (Nat.le_of_ble_eq_true rfl)
    rw [if_neg c3] at h
    by_cases c4 : p1 = 3
    · rw [if_pos c4] at h
      refine ux_tsIn (off := 81) (tgt := 82) C dX7_report_1 c4 (by decide) (by decide) (by decide) (by decide) ?_
      refine ux_aload_n C dX7_report_82 0 rfl ?_
      refine ux_get C fl_X7_26 dX7_report_83 (oF W0) rfl ?_
      refine ux_get C fl_X7_129 dX7_report_86 (oState W0 kS_15) rfl ?_
      refine ux_if_eq C dX7_report_89 h (fun h => ?_) (fun h => ?_)
      · refine ux_iconst (v := 0) C dX7_report_96 (by decide) ?_
        exact ux_iretX C hr dX7_report_97 h (Nat.le_of_ble_eq_true rfl) (Nat.le_of_ble_eq_true rfl)
      · refine ux_iconst (v := 1) C dX7_report_92 (by decide) ?_
        refine ux_goto C dX7_report_93 ?_
        exact ux_iretX C hr dX7_report_97 h (Nat.le_of_ble_eq_true rfl) (Nat.le_of_ble_eq_true rfl)
    rw [if_neg c4] at h
    by_cases c5 : p1 = 4
    · rw [if_pos c5] at h
      refine ux_tsIn (off := 97) (tgt := 98) C dX7_report_1 c5 (by decide) (by decide) (by decide) (by decide) ?_
      refine ux_aload_n C dX7_report_98 0 rfl ?_
      refine ux_get C fl_X7_26 dX7_report_99 (oF W0) rfl ?_
      refine ux_get C fl_X7_133 dX7_report_102 (oState W0 kS_15) rfl ?_
      refine ux_get C fl_X7_136 dX7_report_105 (oCache W0 (kS_cache kS_15)) rfl ?_
      exact ux_iretX C hr dX7_report_108 h (Nat.le_of_ble_eq_true rfl) (Nat.le_of_ble_eq_true rfl)
    rw [if_neg c5] at h
    by_cases c6 : p1 = 5
    · rw [if_pos c6] at h
      refine ux_tsIn (off := 108) (tgt := 109) C dX7_report_1 c6 (by decide) (by decide) (by decide) (by decide) ?_
      refine ux_aload_n C dX7_report_109 0 rfl ?_
      refine ux_get C fl_X7_26 dX7_report_110 (oF W0) rfl ?_
      refine ux_get C fl_X7_117 dX7_report_113 (oState W0 kS_15) rfl ?_
      refine ux_get C fl_X7_121 dX7_report_116 (oDev W0 (kS_dev kS_15)) rfl ?_
      exact ux_iretX C hr dX7_report_119 h (Nat.le_of_ble_eq_true rfl) (Nat.le_of_ble_eq_true rfl)
    rw [if_neg c6] at h
    by_cases c7 : p1 = 6
    · rw [if_pos c7] at h
      refine ux_tsIn (off := 119) (tgt := 120) C dX7_report_1 c7 (by decide) (by decide) (by decide) (by decide) ?_
      refine ux_aload_n C dX7_report_120 0 rfl ?_
      refine ux_get C fl_X7_26 dX7_report_121 (oF W0) rfl ?_
      refine ux_get C fl_X7_137 dX7_report_124 (oState W0 kS_15) rfl ?_
      refine ux_get C fl_X7_141 dX7_report_127 (oRules W0 (kS_rules kS_15)) rfl ?_
      exact ux_iretX C hr dX7_report_130 h (Nat.le_of_ble_eq_true rfl) (Nat.le_of_ble_eq_true rfl)
    rw [if_neg c7] at h
    by_cases c8 : p1 = 7
    · rw [if_pos c8] at h
      refine ux_tsIn (off := 130) (tgt := 131) C dX7_report_1 c8 (by decide) (by decide) (by decide) (by decide) ?_
      refine ux_aload_n C dX7_report_131 0 rfl ?_
      refine ux_get C fl_X7_26 dX7_report_132 (oF W0) rfl ?_
      refine ux_get C fl_X7_137 dX7_report_135 (oState W0 kS_15) rfl ?_
      refine ux_get C fl_X7_146 dX7_report_138 (oRules W0 (kS_rules kS_15)) rfl ?_
      exact ux_iretX C hr dX7_report_141 h (Nat.le_of_ble_eq_true rfl) (Nat.le_of_ble_eq_true rfl)
    rw [if_neg c8] at h
    by_cases c9 : p1 = 8
    · rw [if_pos c9] at h
      refine ux_tsIn (off := 141) (tgt := 142) C dX7_report_1 c9 (by decide) (by decide) (by decide) (by decide) ?_
      refine ux_aload_n C dX7_report_142 0 rfl ?_
      refine ux_get C fl_X7_26 dX7_report_143 (oF W0) rfl ?_
      refine ux_get C fl_X7_62 dX7_report_146 (oState W0 kS_15) rfl ?_
      refine ux_get C fl_X7_149 dX7_report_149 (oBat W0 (kS_bat kS_15)) rfl ?_
      exact ux_iretX C hr dX7_report_152 h (Nat.le_of_ble_eq_true rfl) (Nat.le_of_ble_eq_true rfl)
    rw [if_neg c9] at h
    cases h
set_option maxRecDepth 100000 in
set_option maxHeartbeats 4000000 in
theorem kX7_device {l : Launch} {V : uV} (W0 : uWC l V) {p1 : Int32} {p2 : Int32} {st : uSt} {r : Int32 ⊕ String} {s9 : uSt} (h : fX7_device p1 p2 st = some (r, s9)) : uMetX l V yX7_device cX7_device 4 (some .int) 7 111 2 12 [.ref (vA V 0), .int p1, .int p2] st (xI r) s9 := by
  refine ux_metX W0.1 W0.2.1 (by decide) rfl (Nat.le_of_ble_eq_true rfl) (fun M hL hr C hT => ?_)
  subst hL
  have C : uCx M V cX7_device 4 RX7 7 111 2 12 := C
  unfold fX7_device at h
  refine ux_aload_n C dX7_device_0 0 rfl ?_
  refine ux_iload_n C dX7_device_1 1 rfl ?_
  obtain ⟨x_1, st_2, h1, h⟩ := ox_some h
  refine ux_callVXv C cv_X7_154 dX7_device_2 (oF W0) rfl (kX7_requireDevice W0 h1) rfl (Nat.le_of_ble_eq_true rfl) ⟨(Nat.le_of_ble_eq_true rfl), (Nat.le_of_ble_eq_true rfl)⟩ ⟨(Nat.le_of_ble_eq_true rfl), (Nat.le_of_ble_eq_true rfl)⟩ ⟨(Nat.le_of_ble_eq_true rfl), (Nat.le_of_ble_eq_true rfl)⟩ (fun _ => rfl) hT h (fun x_1 h => ?_) rfl
  refine ux_aload_n C dX7_device_5 0 rfl ?_
  refine ux_get C fl_X7_26 dX7_device_6 (oF W0) rfl ?_
  refine ux_get C fl_X7_133 dX7_device_9 (oState W0 kS_15) rfl ?_
  refine ux_iload_n C dX7_device_12 1 rfl ?_
  obtain ⟨x_3, h1, h⟩ := ob_some h
  refine ux_callVi C cv_X7_157 dX7_device_13 (oCache W0 (kS_cache kS_15)) rfl (kX1_blocksOn W0 (kS_cache kS_15) h1) rfl (Nat.le_of_ble_eq_true rfl) ⟨(Nat.le_of_ble_eq_true rfl), (Nat.le_of_ble_eq_true rfl)⟩ ⟨(Nat.le_of_ble_eq_true rfl), (Nat.le_of_ble_eq_true rfl)⟩ ?_ rfl
  refine ux_istoreK_n C dX7_device_16 rfl (by decide) ?_
  refine ux_iload_n C dX7_device_17 3 rfl ?_
  by_cases c0 : p2.toInt < 0 ∨ 6 < p2.toInt
  · rw [if_pos c0] at h
    refine ux_tsOut (tgt := 156) C dX7_device_18 c0 (by decide) ?_
    exact ux_throwS C th_X7_device_156 hT dX7_device_156 dX7_device_159 dX7_device_160 dX7_device_162 dX7_device_165 (fun _ => rfl) h (Nat.le_of_ble_eq_true rfl) ⟨(Nat.le_of_ble_eq_true rfl), (Nat.le_of_ble_eq_true rfl)⟩ ⟨(Nat.le_of_ble_eq_true rfl), (Nat.le_of_ble_eq_true rfl)⟩ ⟨(Nat.le_of_ble_eq_true rfl), (Nat.le_of_ble_eq_true rfl)⟩
  · rw [if_neg c0] at h
    by_cases c1 : p2 = 0
    · rw [if_pos c1] at h
      refine ux_tsIn (off := 42) (tgt := 60) C dX7_device_18 c1 (by decide) (by decide) (by decide) (by decide) ?_
      refine ux_aload_n C dX7_device_60 1 rfl ?_
      refine ux_get C fl_X7_26 dX7_device_61 (oF W0) rfl ?_
      refine ux_get C fl_X7_117 dX7_device_64 (oState W0 kS_15) rfl ?_
      refine ux_get C fl_X7_161 dX7_device_67 (oDev W0 (kS_dev kS_15)) rfl ?_
      refine ux_iload_n C dX7_device_70 2 rfl ?_
      refine ux_iald C (aDev1 W0 (kS_dev kS_15)) dX7_device_71 h (fun h => ?_)
      exact ux_iretX C hr dX7_device_72 h (Nat.le_of_ble_eq_true rfl) (Nat.le_of_ble_eq_true rfl)
    rw [if_neg c1] at h
    by_cases c2 : p2 = 1
    · rw [if_pos c2] at h
      refine ux_tsIn (off := 55) (tgt := 73) C dX7_device_18 c2 (by decide) (by decide) (by decide) (by decide) ?_
      refine ux_aload_n C dX7_device_73 1 rfl ?_
      refine ux_get C fl_X7_26 dX7_device_74 (oF W0) rfl ?_
      refine ux_get C fl_X7_117 dX7_device_77 (oState W0 kS_15) rfl ?_
      refine ux_get C fl_X7_165 dX7_device_80 (oDev W0 (kS_dev kS_15)) rfl ?_
      refine ux_iload_n C dX7_device_83 2 rfl ?_
      refine ux_iald C (aDev2 W0 (kS_dev kS_15)) dX7_device_84 h (fun h => ?_)
      exact ux_iretX C hr dX7_device_85 h (Nat.le_of_ble_eq_true rfl) (Nat.le_of_ble_eq_true rfl)
    rw [if_neg c2] at h
    by_cases c3 : p2 = 2
    · rw [if_pos c3] at h
      refine ux_tsIn (off := 68) (tgt := 86) C dX7_device_18 c3 (by decide) (by decide) (by decide) (by decide) ?_
      refine ux_aload_n C dX7_device_86 1 rfl ?_
      refine ux_get C fl_X7_26 dX7_device_87 (oF W0) rfl ?_
      refine ux_get C fl_X7_117 dX7_device_90 (oState W0 kS_15) rfl ?_
      refine ux_get C fl_X7_168 dX7_device_93 (oDev W0 (kS_dev kS_15)) rfl ?_
      refine ux_iload_n C dX7_device_96 2 rfl ?_
      refine ux_iald C (aDev3 W0 (kS_dev kS_15)) dX7_device_97 h (fun h => ?_)
      exact ux_iretX C hr dX7_device_98 h (Nat.le_of_ble_eq_true rfl) (Nat.le_of_ble_eq_true rfl)
    rw [if_neg c3] at h
    by_cases c4 : p2 = 3
    · rw [if_pos c4] at h
      refine ux_tsIn (off := 81) (tgt := 99) C dX7_device_18 c4 (by decide) (by decide) (by decide) (by decide) ?_
      refine ux_aload_n C dX7_device_99 1 rfl ?_
      refine ux_get C fl_X7_26 dX7_device_100 (oF W0) rfl ?_
      refine ux_get C fl_X7_117 dX7_device_103 (oState W0 kS_15) rfl ?_
      refine ux_get C fl_X7_171 dX7_device_106 (oDev W0 (kS_dev kS_15)) rfl ?_
      refine ux_iload_n C dX7_device_109 2 rfl ?_
      refine ux_zald C (aDev4 W0 (kS_dev kS_15)) dX7_device_110 h (fun h => ?_)
      refine ux_if_eq C dX7_device_111 h (fun h => ?_) (fun h => ?_)
      · refine ux_iconst (v := 0) C dX7_device_118 (by decide) ?_
        exact ux_iretX C hr dX7_device_119 h (Nat.le_of_ble_eq_true rfl) (Nat.le_of_ble_eq_true rfl)
      · refine ux_iconst (v := 1) C dX7_device_114 (by decide) ?_
        refine ux_goto C dX7_device_115 ?_
        exact ux_iretX C hr dX7_device_119 h (Nat.le_of_ble_eq_true rfl) (Nat.le_of_ble_eq_true rfl)
    rw [if_neg c4] at h
    by_cases c5 : p2 = 4
    · rw [if_pos c5] at h
      refine ux_tsIn (off := 102) (tgt := 120) C dX7_device_18 c5 (by decide) (by decide) (by decide) (by decide) ?_
      refine ux_iload_n C dX7_device_120 0 rfl ?_
      obtain ⟨x_5, h1, h⟩ := ob_some h
      refine ux_callSi C cs_X7_174 dX7_device_121 (kJ6_bitCount_0f7a4 W0 h1) rfl (Nat.le_of_ble_eq_true rfl) ⟨(Nat.le_of_ble_eq_true rfl), (Nat.le_of_ble_eq_true rfl)⟩ ⟨(Nat.le_of_ble_eq_true rfl), (Nat.le_of_ble_eq_true rfl)⟩ ?_ rfl
      exact ux_iretX C hr dX7_device_124 h (Nat.le_of_ble_eq_true rfl) (Nat.le_of_ble_eq_true rfl)
    rw [if_neg c5] at h
    by_cases c6 : p2 = 5
    · rw [if_pos c6] at h
      refine ux_tsIn (off := 107) (tgt := 125) C dX7_device_18 c6 (by decide) (by decide) (by decide) (by decide) ?_
      refine ux_aload_n C dX7_device_125 1 rfl ?_
      refine ux_get C fl_X7_26 dX7_device_126 (oF W0) rfl ?_
      refine ux_get C fl_X7_133 dX7_device_129 (oState W0 kS_15) rfl ?_
      refine ux_iload_n C dX7_device_132 0 rfl ?_
      obtain ⟨x_6, h1, h⟩ := ob_some h
      refine ux_callVi C cv_X7_179 dX7_device_133 (oCache W0 (kS_cache kS_15)) rfl (kX1_valueIn W0 (kS_cache kS_15) h1) rfl (Nat.le_of_ble_eq_true rfl) ⟨(Nat.le_of_ble_eq_true rfl), (Nat.le_of_ble_eq_true rfl)⟩ ⟨(Nat.le_of_ble_eq_true rfl), (Nat.le_of_ble_eq_true rfl)⟩ ?_ rfl
      exact ux_iretX C hr dX7_device_136 h (Nat.le_of_ble_eq_true rfl) (Nat.le_of_ble_eq_true rfl)
    rw [if_neg c6] at h
    by_cases c7 : p2 = 6
    · rw [if_pos c7] at h
      refine ux_tsIn (off := 119) (tgt := 137) C dX7_device_18 c7 (by decide) (by decide) (by decide) (by decide) ?_
      refine ux_aload_n C dX7_device_137 1 rfl ?_
      refine ux_get C fl_X7_26 dX7_device_138 (oF W0) rfl ?_
      refine ux_get C fl_X7_117 dX7_device_141 (oState W0 kS_15) rfl ?_
      refine ux_aload_n C dX7_device_144 1 rfl ?_
      refine ux_get C fl_X7_26 dX7_device_145 (oF W0) rfl ?_
      refine ux_get C fl_X7_133 dX7_device_148 (oState W0 kS_15) rfl ?_
      refine ux_iload_n C dX7_device_151 0 rfl ?_
      obtain ⟨x_7, h1, h⟩ := ob_some h
      refine ux_callVi C cv_X7_182 dX7_device_152 (oDev W0 (kS_dev kS_15)) rfl (kX2_energyIn W0 (kS_dev kS_15) (kS_cache kS_15) h1) rfl (Nat.le_of_ble_eq_true rfl) ⟨(Nat.le_of_ble_eq_true rfl), (Nat.le_of_ble_eq_true rfl)⟩ ⟨(Nat.le_of_ble_eq_true rfl), (Nat.le_of_ble_eq_true rfl)⟩ ?_ rfl
      exact ux_iretX C hr dX7_device_155 h (Nat.le_of_ble_eq_true rfl) (Nat.le_of_ble_eq_true rfl)
    rw [if_neg c7] at h
    cases h
set_option maxRecDepth 100000 in
set_option maxHeartbeats 4000000 in
theorem kX7_block {l : Launch} {V : uV} (W0 : uWC l V) {p1 : Int32} {p2 : Int32} {st : uSt} {r : Int32 ⊕ String} {s9 : uSt} (h : fX7_block p1 p2 st = some (r, s9)) : uMetX l V yX7_block cX7_block 3 (some .int) 7 111 2 12 [.ref (vA V 0), .int p1, .int p2] st (xI r) s9 := by
  refine ux_metX W0.1 W0.2.1 (by decide) rfl (Nat.le_of_ble_eq_true rfl) (fun M hL hr C hT => ?_)
  subst hL
  have C : uCx M V cX7_block 3 RX7 7 111 2 12 := C
  unfold fX7_block at h
  refine ux_aload_n C dX7_block_0 0 rfl ?_
  refine ux_iload_n C dX7_block_1 1 rfl ?_
  obtain ⟨x_1, st_2, h1, h⟩ := ox_some h
  refine ux_callVXv C cv_X7_186 dX7_block_2 (oF W0) rfl (kX7_requireBlock W0 h1) rfl (Nat.le_of_ble_eq_true rfl) ⟨(Nat.le_of_ble_eq_true rfl), (Nat.le_of_ble_eq_true rfl)⟩ ⟨(Nat.le_of_ble_eq_true rfl), (Nat.le_of_ble_eq_true rfl)⟩ ⟨(Nat.le_of_ble_eq_true rfl), (Nat.le_of_ble_eq_true rfl)⟩ (fun _ => rfl) hT h (fun x_1 h => ?_) rfl
  refine ux_iload_n C dX7_block_5 2 rfl ?_
  by_cases c0 : p2.toInt < 0 ∨ 3 < p2.toInt
  · rw [if_pos c0] at h
    refine ux_tsOut (tgt := 96) C dX7_block_6 c0 (by decide) ?_
    exact ux_throwS C th_X7_block_96 hT dX7_block_96 dX7_block_99 dX7_block_100 dX7_block_102 dX7_block_105 (fun _ => rfl) h (Nat.le_of_ble_eq_true rfl) ⟨(Nat.le_of_ble_eq_true rfl), (Nat.le_of_ble_eq_true rfl)⟩ ⟨(Nat.le_of_ble_eq_true rfl), (Nat.le_of_ble_eq_true rfl)⟩ ⟨(Nat.le_of_ble_eq_true rfl), (Nat.le_of_ble_eq_true rfl)⟩
  · rw [if_neg c0] at h
    by_cases c1 : p2 = 0
    · rw [if_pos c1] at h
      refine ux_tsIn (off := 30) (tgt := 36) C dX7_block_6 c1 (by decide) (by decide) (by decide) (by decide) ?_
      refine ux_aload_n C dX7_block_36 0 rfl ?_
      refine ux_get C fl_X7_26 dX7_block_37 (oF W0) rfl ?_
      refine ux_get C fl_X7_133 dX7_block_40 (oState W0 kS_15) rfl ?_
      refine ux_get C fl_X7_189 dX7_block_43 (oCache W0 (kS_cache kS_15)) rfl ?_
      refine ux_iload_n C dX7_block_46 1 rfl ?_
      refine ux_iald C (aCache1 W0 (kS_cache kS_15)) dX7_block_47 h (fun h => ?_)
      exact ux_iretX C hr dX7_block_48 h (Nat.le_of_ble_eq_true rfl) (Nat.le_of_ble_eq_true rfl)
    rw [if_neg c1] at h
    by_cases c2 : p2 = 1
    · rw [if_pos c2] at h
      refine ux_tsIn (off := 43) (tgt := 49) C dX7_block_6 c2 (by decide) (by decide) (by decide) (by decide) ?_
      refine ux_aload_n C dX7_block_49 0 rfl ?_
      refine ux_get C fl_X7_26 dX7_block_50 (oF W0) rfl ?_
      refine ux_get C fl_X7_133 dX7_block_53 (oState W0 kS_15) rfl ?_
      refine ux_get C fl_X7_192 dX7_block_56 (oCache W0 (kS_cache kS_15)) rfl ?_
      refine ux_iload_n C dX7_block_59 1 rfl ?_
      refine ux_iald C (aCache2 W0 (kS_cache kS_15)) dX7_block_60 h (fun h => ?_)
      exact ux_iretX C hr dX7_block_61 h (Nat.le_of_ble_eq_true rfl) (Nat.le_of_ble_eq_true rfl)
    rw [if_neg c2] at h
    by_cases c3 : p2 = 2
    · rw [if_pos c3] at h
      refine ux_tsIn (off := 56) (tgt := 62) C dX7_block_6 c3 (by decide) (by decide) (by decide) (by decide) ?_
      refine ux_aload_n C dX7_block_62 0 rfl ?_
      refine ux_get C fl_X7_26 dX7_block_63 (oF W0) rfl ?_
      refine ux_get C fl_X7_133 dX7_block_66 (oState W0 kS_15) rfl ?_
      refine ux_get C fl_X7_195 dX7_block_69 (oCache W0 (kS_cache kS_15)) rfl ?_
      refine ux_iload_n C dX7_block_72 1 rfl ?_
      refine ux_iald C (aCache3 W0 (kS_cache kS_15)) dX7_block_73 h (fun h => ?_)
      exact ux_iretX C hr dX7_block_74 h (Nat.le_of_ble_eq_true rfl) (Nat.le_of_ble_eq_true rfl)
    rw [if_neg c3] at h
    by_cases c4 : p2 = 3
    · rw [if_pos c4] at h
      refine ux_tsIn (off := 69) (tgt := 75) C dX7_block_6 c4 (by decide) (by decide) (by decide) (by decide) ?_
      refine ux_aload_n C dX7_block_75 0 rfl ?_
      refine ux_get C fl_X7_26 dX7_block_76 (oF W0) rfl ?_
      refine ux_get C fl_X7_126 dX7_block_79 (oState W0 kS_15) rfl ?_
      refine ux_aload_n C dX7_block_82 0 rfl ?_
      refine ux_get C fl_X7_26 dX7_block_83 (oF W0) rfl ?_
      refine ux_get C fl_X7_133 dX7_block_86 (oState W0 kS_15) rfl ?_
      refine ux_get C fl_X7_198 dX7_block_89 (oCache W0 (kS_cache kS_15)) rfl ?_
      refine ux_iload_n C dX7_block_92 1 rfl ?_
      refine ux_iald C (aCache4 W0 (kS_cache kS_15)) dX7_block_93 h (fun h => ?_)
      refine ux_isub C dX7_block_94 ?_
      exact ux_iretX C hr dX7_block_95 h (Nat.le_of_ble_eq_true rfl) (Nat.le_of_ble_eq_true rfl)
    rw [if_neg c4] at h
    cases h
set_option maxRecDepth 100000 in
set_option maxHeartbeats 4000000 in
theorem kX7_find {l : Launch} {V : uV} (W0 : uWC l V) {p1 : Int32} {p2 : Int32} {st : uSt} {r : Int32 ⊕ String} {s9 : uSt} (h : fX7_find p1 p2 st = some (r, s9)) : uMetX l V yX7_find cX7_find 4 (some .int) 7 111 3 18 [.ref (vA V 0), .int p1, .int p2] st (xI r) s9 := by
  refine ux_metX W0.1 W0.2.1 (by decide) rfl (Nat.le_of_ble_eq_true rfl) (fun M hL hr C hT => ?_)
  subst hL
  have C : uCx M V cX7_find 4 RX7 7 111 3 18 := C
  unfold fX7_find at h
  refine ux_aload_n C dX7_find_0 0 rfl ?_
  refine ux_iload_n C dX7_find_1 1 rfl ?_
  obtain ⟨x_1, st_2, h1, h⟩ := ox_some h
  refine ux_callVXv C cv_X7_154 dX7_find_2 (oF W0) rfl (kX7_requireDevice W0 h1) rfl (Nat.le_of_ble_eq_true rfl) ⟨(Nat.le_of_ble_eq_true rfl), (Nat.le_of_ble_eq_true rfl)⟩ ⟨(Nat.le_of_ble_eq_true rfl), (Nat.le_of_ble_eq_true rfl)⟩ ⟨(Nat.le_of_ble_eq_true rfl), (Nat.le_of_ble_eq_true rfl)⟩ (fun _ => rfl) hT h (fun x_1 h => ?_) rfl
  refine ux_aload_n C dX7_find_5 0 rfl ?_
  refine ux_iload_n C dX7_find_6 2 rfl ?_
  obtain ⟨x_3, st_4, h1, h⟩ := ox_some h
  refine ux_callVXv C cv_X7_201 dX7_find_7 (oF W0) rfl (kX7_requireAddress W0 h1) rfl (Nat.le_of_ble_eq_true rfl) ⟨(Nat.le_of_ble_eq_true rfl), (Nat.le_of_ble_eq_true rfl)⟩ ⟨(Nat.le_of_ble_eq_true rfl), (Nat.le_of_ble_eq_true rfl)⟩ ⟨(Nat.le_of_ble_eq_true rfl), (Nat.le_of_ble_eq_true rfl)⟩ (fun _ => rfl) hT h (fun x_3 h => ?_) rfl
  refine ux_aload_n C dX7_find_10 0 rfl ?_
  refine ux_get C fl_X7_26 dX7_find_11 (oF W0) rfl ?_
  refine ux_get C fl_X7_133 dX7_find_14 (oState W0 kS_15) rfl ?_
  refine ux_iload_n C dX7_find_17 1 rfl ?_
  refine ux_iload_n C dX7_find_18 2 rfl ?_
  obtain ⟨x_5, h1, h⟩ := ob_some h
  refine ux_callVi C cv_X7_204 dX7_find_19 (oCache W0 (kS_cache kS_15)) rfl (kX1_indexOf W0 (kS_cache kS_15) h1) rfl (Nat.le_of_ble_eq_true rfl) ⟨(Nat.le_of_ble_eq_true rfl), (Nat.le_of_ble_eq_true rfl)⟩ ⟨(Nat.le_of_ble_eq_true rfl), (Nat.le_of_ble_eq_true rfl)⟩ ?_ rfl
  refine ux_istoreK_n C dX7_find_22 rfl (by decide) ?_
  refine ux_iload_n C dX7_find_23 0 rfl ?_
  refine ux_iconst (v := (-1)) C dX7_find_24 (by decide) ?_
  refine ux_icmp_ne C dX7_find_25 h (fun h => ?_) (fun h => ?_)
  · exact ux_throwN C th_X7_find_28 hT dX7_find_28 dX7_find_31 dX7_find_32 dX7_find_34 dX7_find_37 (fun _ => rfl) h (Nat.le_of_ble_eq_true rfl) ⟨(Nat.le_of_ble_eq_true rfl), (Nat.le_of_ble_eq_true rfl)⟩ ⟨(Nat.le_of_ble_eq_true rfl), (Nat.le_of_ble_eq_true rfl)⟩ ⟨(Nat.le_of_ble_eq_true rfl), (Nat.le_of_ble_eq_true rfl)⟩
  · refine ux_iload_n C dX7_find_38 0 rfl ?_
    exact ux_iretX C hr dX7_find_39 h (Nat.le_of_ble_eq_true rfl) (Nat.le_of_ble_eq_true rfl)
set_option maxRecDepth 100000 in
set_option maxHeartbeats 4000000 in
theorem wX7_oldest_27 {M : uM} {V : uV} (W0 : uWC (mL M) V) (C : uCx M V cX7_oldest 3 RX7 6 90 1 6) (hr : (mT M).sig.returnType = (some .int)) (hT : ∀ x ∈ (mC M).exceptionTable.toList, False) {st : uSt} {r : Int32 ⊕ String} {s9 : uSt} {ke : Int32 → Option ((Int32 ⊕ String) × uSt)} (K : ∀ (l1 : Int32), ke l1 = some (r, s9) → uW M V (uEndX M V 1 6 (xI r) s9) 3 0 0 76 [(1, .int l1)] [] st) : ∀ (n : Nat) (l1 : Int32) (l2 : Int32), fX7_oldest_27 st ke n l1 l2 = some (r, s9) → uW M V (uEndX M V 1 6 (xI r) s9) 3 0 0 27 [(0, .ref (vA V 0)), (1, .int l1), (2, .int l2)] [] st := by
  intro n
  induction n with
  | zero =>
    intro l1 l2 h
    rw [fX7_oldest_27] at h
    cases h
  | succ n ih =>
    intro l1 l2 h
    rw [fX7_oldest_27] at h
    refine ux_iload_n C dX7_oldest_27 2 rfl ?_
    refine ux_aload_n C dX7_oldest_28 0 rfl ?_
    refine ux_get C fl_X7_26 dX7_oldest_29 (oF W0) rfl ?_
    refine ux_get C fl_X7_133 dX7_oldest_32 (oState W0 kS_15) rfl ?_
    refine ux_get C fl_X7_136 dX7_oldest_35 (oCache W0 (kS_cache kS_15)) rfl ?_
    refine ux_icmp_ge C dX7_oldest_38 h (fun h => ?_) (fun h => ?_)
    · refine ux_sub [1] rfl ?_
      exact K l1 h
    · refine ux_aload_n C dX7_oldest_41 0 rfl ?_
      refine ux_get C fl_X7_26 dX7_oldest_42 (oF W0) rfl ?_
      refine ux_get C fl_X7_133 dX7_oldest_45 (oState W0 kS_15) rfl ?_
      refine ux_get C fl_X7_198 dX7_oldest_48 (oCache W0 (kS_cache kS_15)) rfl ?_
      refine ux_iload_n C dX7_oldest_51 2 rfl ?_
      refine ux_iald C (aCache4 W0 (kS_cache kS_15)) dX7_oldest_52 h (fun h => ?_)
      refine ux_aload_n C dX7_oldest_53 0 rfl ?_
      refine ux_get C fl_X7_26 dX7_oldest_54 (oF W0) rfl ?_
      refine ux_get C fl_X7_133 dX7_oldest_57 (oState W0 kS_15) rfl ?_
      refine ux_get C fl_X7_198 dX7_oldest_60 (oCache W0 (kS_cache kS_15)) rfl ?_
      refine ux_iload_n C dX7_oldest_63 1 rfl ?_
      refine ux_iald C (aCache4 W0 (kS_cache kS_15)) dX7_oldest_64 h (fun h => ?_)
      refine ux_icmp_ge C dX7_oldest_65 h (fun h => ?_) (fun h => ?_)
      · refine ux_iincK C dX7_oldest_70 (by decide) 2 rfl (fun z => [(2, .int z), (0, .ref (vA V 0)), (1, .int l1)]) (fun _ => rfl) (by decide) h (fun l2_3 h => ?_)
        refine ux_goto C dX7_oldest_73 ?_
        refine ux_sub [1, 2, 0] rfl ?_
        exact ih _ _ h
      · refine ux_iload_n C dX7_oldest_68 2 rfl ?_
        refine ux_istoreK_n C dX7_oldest_69 rfl (by decide) ?_
        refine ux_iincK C dX7_oldest_70 (by decide) 2 rfl (fun z => [(2, .int z), (1, .int l2), (0, .ref (vA V 0))]) (fun _ => rfl) (by decide) h (fun l2_5 h => ?_)
        refine ux_goto C dX7_oldest_73 ?_
        refine ux_sub [2, 1, 0] rfl ?_
        exact ih _ _ h
set_option maxRecDepth 100000 in
set_option maxHeartbeats 4000000 in
theorem kX7_oldest {l : Launch} {V : uV} (W0 : uWC l V) {st : uSt} {r : Int32 ⊕ String} {s9 : uSt} (h : fX7_oldest st = some (r, s9)) : uMetX l V yX7_oldest cX7_oldest 3 (some .int) 6 90 1 6 [.ref (vA V 0)] st (xI r) s9 := by
  refine ux_metX W0.1 W0.2.1 (by decide) rfl (Nat.le_of_ble_eq_true rfl) (fun M hL hr C hT => ?_)
  subst hL
  have C : uCx M V cX7_oldest 3 RX7 6 90 1 6 := C
  unfold fX7_oldest at h
  refine ux_aload_n C dX7_oldest_0 0 rfl ?_
  refine ux_get C fl_X7_26 dX7_oldest_1 (oF W0) rfl ?_
  refine ux_get C fl_X7_133 dX7_oldest_4 (oState W0 kS_15) rfl ?_
  refine ux_get C fl_X7_136 dX7_oldest_7 (oCache W0 (kS_cache kS_15)) rfl ?_
  refine ux_if_ne C dX7_oldest_10 h (fun h => ?_) (fun h => ?_)
  · exact ux_throwN C th_X7_oldest_13 hT dX7_oldest_13 dX7_oldest_16 dX7_oldest_17 dX7_oldest_19 dX7_oldest_22 (fun _ => rfl) h (Nat.le_of_ble_eq_true rfl) ⟨(Nat.le_of_ble_eq_true rfl), (Nat.le_of_ble_eq_true rfl)⟩ ⟨(Nat.le_of_ble_eq_true rfl), (Nat.le_of_ble_eq_true rfl)⟩ ⟨(Nat.le_of_ble_eq_true rfl), (Nat.le_of_ble_eq_true rfl)⟩
  · refine ux_iconst (v := 0) C dX7_oldest_23 (by decide) ?_
    refine ux_istoreK_n C dX7_oldest_24 rfl (by decide) ?_
    refine ux_iconst (v := 1) C dX7_oldest_25 (by decide) ?_
    refine ux_istoreK_n C dX7_oldest_26 rfl (by decide) ?_
    refine ux_sub [2, 1, 0] rfl ?_
    refine wX7_oldest_27 W0 C hr hT (fun l1_6 h => ?_) _ _ _ h
    refine ux_iload_n C dX7_oldest_76 0 rfl ?_
    exact ux_iretX C hr dX7_oldest_77 h (Nat.le_of_ble_eq_true rfl) (Nat.le_of_ble_eq_true rfl)
set_option maxRecDepth 100000 in
set_option maxHeartbeats 4000000 in
theorem kX7_total {l : Launch} {V : uV} (W0 : uWC l V) {p1 : Int32} {st : uSt} {r : Int32 ⊕ String} {s9 : uSt} (h : fX7_total p1 st = some (r, s9)) : uMetX l V yX7_total cX7_total 2 (some .int) 6 90 1 6 [.ref (vA V 0), .int p1] st (xI r) s9 := by
  refine ux_metX W0.1 W0.2.1 (by decide) rfl (Nat.le_of_ble_eq_true rfl) (fun M hL hr C hT => ?_)
  subst hL
  have C : uCx M V cX7_total 2 RX7 6 90 1 6 := C
  unfold fX7_total at h
  refine ux_iload_n C dX7_total_0 1 rfl ?_
  obtain ⟨j_1, hK_1, h⟩ := oj0_some h
  have hJ_1 : j_1 = some (r, s9) → uW M V (uEndX M V 1 6 (xI r) s9) 2 0 0 10 [] [] st := by
    intro h
    replace h := hK_1 h
    exact ux_throwS C th_X7_total_10 hT dX7_total_10 dX7_total_13 dX7_total_14 dX7_total_16 dX7_total_19 (fun _ => rfl) h (Nat.le_of_ble_eq_true rfl) ⟨(Nat.le_of_ble_eq_true rfl), (Nat.le_of_ble_eq_true rfl)⟩ ⟨(Nat.le_of_ble_eq_true rfl), (Nat.le_of_ble_eq_true rfl)⟩ ⟨(Nat.le_of_ble_eq_true rfl), (Nat.le_of_ble_eq_true rfl)⟩
  refine ux_if_lt C dX7_total_1 h (fun h => ?_) (fun h => ?_)
  · refine ux_sub [] rfl ?_
    exact hJ_1 h
  · refine ux_iload_n C dX7_total_4 1 rfl ?_
    refine ux_bipush (v := 7) C dX7_total_5 (by decide) ?_
    refine ux_icmp_lt C dX7_total_7 h (fun h => ?_) (fun h => ?_)
    · refine ux_aload_n C dX7_total_20 0 rfl ?_
      refine ux_get C fl_X7_26 dX7_total_21 (oF W0) rfl ?_
      refine ux_get C fl_X7_217 dX7_total_24 (oState W0 kS_15) rfl ?_
      refine ux_iload_n C dX7_total_27 1 rfl ?_
      refine ux_iald C (aTot W0 kS_15) dX7_total_28 h (fun h => ?_)
      exact ux_iretX C hr dX7_total_29 h (Nat.le_of_ble_eq_true rfl) (Nat.le_of_ble_eq_true rfl)
    · refine ux_sub [] rfl ?_
      exact hJ_1 h
set_option maxRecDepth 100000 in
set_option maxHeartbeats 4000000 in
theorem kX7_write {l : Launch} {V : uV} (W0 : uWC l V) {p1 : Int32} {p2 : Int32} {p3 : Int32} {st : uSt} {r : Int32 ⊕ String} {s9 : uSt} (h : fX7_write p1 p2 p3 st = some (r, s9)) : uMetX l V yX7_write cX7_write 5 (some .boolean) 8 134 3 18 [.ref (vA V 0), .int p1, .int p2, .int p3] st (xI r) s9 := by
  refine ux_metX W0.1 W0.2.1 (by decide) rfl (Nat.le_of_ble_eq_true rfl) (fun M hL hr C hT => ?_)
  subst hL
  have C : uCx M V cX7_write 5 RX7 8 134 3 18 := C
  unfold fX7_write at h
  refine ux_aload_n C dX7_write_0 0 rfl ?_
  refine ux_iload_n C dX7_write_1 1 rfl ?_
  refine ux_iload_n C dX7_write_2 2 rfl ?_
  refine ux_iload_n C dX7_write_3 3 rfl ?_
  obtain ⟨x_1, st_2, h1, h⟩ := ox_some h
  refine ux_callVXv C cv_X7_220 dX7_write_4 (oF W0) rfl (kX7_requireWritable W0 h1) rfl (Nat.le_of_ble_eq_true rfl) ⟨(Nat.le_of_ble_eq_true rfl), (Nat.le_of_ble_eq_true rfl)⟩ ⟨(Nat.le_of_ble_eq_true rfl), (Nat.le_of_ble_eq_true rfl)⟩ ⟨(Nat.le_of_ble_eq_true rfl), (Nat.le_of_ble_eq_true rfl)⟩ (fun _ => rfl) hT h (fun x_1 h => ?_) rfl
  refine ux_aload_n C dX7_write_7 0 rfl ?_
  refine ux_iload_n C dX7_write_8 1 rfl ?_
  refine ux_iload_n C dX7_write_9 2 rfl ?_
  refine ux_iload_n C dX7_write_10 3 rfl ?_
  obtain ⟨x_4, st_3, h1, h⟩ := obS_some h
  refine ux_callVi C cv_X7_224 dX7_write_11 (oF W0) rfl (kX7_isAllowed W0 h1) rfl (Nat.le_of_ble_eq_true rfl) ⟨(Nat.le_of_ble_eq_true rfl), (Nat.le_of_ble_eq_true rfl)⟩ ⟨(Nat.le_of_ble_eq_true rfl), (Nat.le_of_ble_eq_true rfl)⟩ ?_ rfl
  refine ux_istoreK C dX7_write_14 rfl (by decide) ?_
  refine ux_iload C dX7_write_16 0 rfl ?_
  refine ux_if_eq C dX7_write_18 h (fun h => ?_) (fun h => ?_)
  · refine ux_aload_n C dX7_write_57 1 rfl ?_
    refine ux_get C fl_X7_26 dX7_write_58 (oF W0) rfl ?_
    refine ux_get C fl_X7_133 dX7_write_61 (oState W0 kS_15) rfl ?_
    refine ux_iload_n C dX7_write_64 2 rfl ?_
    refine ux_iload_n C dX7_write_65 3 rfl ?_
    obtain ⟨st_6, h1, h⟩ := obV_some h
    refine ux_callVv C cv_X7_232 dX7_write_66 (oCache W0 (kS_cache kS_15)) rfl (kX1_drop W0 (kS_cache kS_15) h1) rfl (Nat.le_of_ble_eq_true rfl) ⟨(Nat.le_of_ble_eq_true rfl), (Nat.le_of_ble_eq_true rfl)⟩ ⟨(Nat.le_of_ble_eq_true rfl), (Nat.le_of_ble_eq_true rfl)⟩ ?_ rfl
    refine ux_aload_n C dX7_write_69 1 rfl ?_
    refine ux_get C fl_X7_26 dX7_write_70 (oF W0) rfl ?_
    refine ux_get C fl_X7_217 dX7_write_73 (oState W0 kS_15) rfl ?_
    refine ux_iconst (v := 1) C dX7_write_76 (by decide) ?_
    refine ux_dup2 C dX7_write_77 rfl rfl ?_
    refine ux_ialdK (j := 1) C (aTot W0 kS_15) dX7_write_78 (by decide) (by decide) ?_
    refine ux_iconst (v := 1) C dX7_write_79 (by decide) ?_
    refine ux_iadd C dX7_write_80 ?_
    refine ux_iastK (j := 1) C (aTot W0 kS_15) dX7_write_81 (by decide) (by decide) h (fun st_7 h => ?_)
    refine ux_iload C dX7_write_82 0 rfl ?_
    exact ux_zretX C hr dX7_write_84 h (Nat.le_of_ble_eq_true rfl) (Nat.le_of_ble_eq_true rfl)
  · refine ux_aload_n C dX7_write_21 1 rfl ?_
    refine ux_get C fl_X7_26 dX7_write_22 (oF W0) rfl ?_
    refine ux_get C fl_X7_133 dX7_write_25 (oState W0 kS_15) rfl ?_
    refine ux_iload_n C dX7_write_28 2 rfl ?_
    refine ux_iload_n C dX7_write_29 3 rfl ?_
    refine ux_iload_n C dX7_write_30 4 rfl ?_
    refine ux_aload_n C dX7_write_31 1 rfl ?_
    refine ux_get C fl_X7_26 dX7_write_32 (oF W0) rfl ?_
    refine ux_get C fl_X7_126 dX7_write_35 (oState W0 kS_15) rfl ?_
    obtain ⟨st_8, h1, h⟩ := obV_some h
    refine ux_callVv C cv_X7_228 dX7_write_38 (oCache W0 (kS_cache kS_15)) rfl (kX1_put W0 (kS_cache kS_15) h1) rfl (Nat.le_of_ble_eq_true rfl) ⟨(Nat.le_of_ble_eq_true rfl), (Nat.le_of_ble_eq_true rfl)⟩ ⟨(Nat.le_of_ble_eq_true rfl), (Nat.le_of_ble_eq_true rfl)⟩ ?_ rfl
    refine ux_aload_n C dX7_write_41 1 rfl ?_
    refine ux_get C fl_X7_26 dX7_write_42 (oF W0) rfl ?_
    refine ux_get C fl_X7_217 dX7_write_45 (oState W0 kS_15) rfl ?_
    refine ux_iconst (v := 0) C dX7_write_48 (by decide) ?_
    refine ux_dup2 C dX7_write_49 rfl rfl ?_
    refine ux_ialdK (j := 0) C (aTot W0 kS_15) dX7_write_50 (by decide) (by decide) ?_
    refine ux_iconst (v := 1) C dX7_write_51 (by decide) ?_
    refine ux_iadd C dX7_write_52 ?_
    refine ux_iastK (j := 0) C (aTot W0 kS_15) dX7_write_53 (by decide) (by decide) h (fun st_9 h => ?_)
    refine ux_goto C dX7_write_54 ?_
    refine ux_iload C dX7_write_82 0 rfl ?_
    exact ux_zretX C hr dX7_write_84 h (Nat.le_of_ble_eq_true rfl) (Nat.le_of_ble_eq_true rfl)
set_option maxRecDepth 100000 in
set_option maxHeartbeats 4000000 in
theorem kX7_wouldCache {l : Launch} {V : uV} (W0 : uWC l V) {p1 : Int32} {p2 : Int32} {p3 : Int32} {st : uSt} {r : Int32 ⊕ String} {s9 : uSt} (h : fX7_wouldCache p1 p2 p3 st = some (r, s9)) : uMetX l V yX7_wouldCache cX7_wouldCache 4 (some .boolean) 8 134 3 18 [.ref (vA V 0), .int p1, .int p2, .int p3] st (xI r) s9 := by
  refine ux_metX W0.1 W0.2.1 (by decide) rfl (Nat.le_of_ble_eq_true rfl) (fun M hL hr C hT => ?_)
  subst hL
  have C : uCx M V cX7_wouldCache 4 RX7 8 134 3 18 := C
  unfold fX7_wouldCache at h
  refine ux_aload_n C dX7_wouldCache_0 0 rfl ?_
  refine ux_iload_n C dX7_wouldCache_1 1 rfl ?_
  refine ux_iload_n C dX7_wouldCache_2 2 rfl ?_
  refine ux_iload_n C dX7_wouldCache_3 3 rfl ?_
  obtain ⟨x_1, st_2, h1, h⟩ := ox_some h
  refine ux_callVXv C cv_X7_220 dX7_wouldCache_4 (oF W0) rfl (kX7_requireWritable W0 h1) rfl (Nat.le_of_ble_eq_true rfl) ⟨(Nat.le_of_ble_eq_true rfl), (Nat.le_of_ble_eq_true rfl)⟩ ⟨(Nat.le_of_ble_eq_true rfl), (Nat.le_of_ble_eq_true rfl)⟩ ⟨(Nat.le_of_ble_eq_true rfl), (Nat.le_of_ble_eq_true rfl)⟩ (fun _ => rfl) hT h (fun x_1 h => ?_) rfl
  refine ux_aload_n C dX7_wouldCache_7 0 rfl ?_
  refine ux_iload_n C dX7_wouldCache_8 1 rfl ?_
  refine ux_iload_n C dX7_wouldCache_9 2 rfl ?_
  refine ux_iload_n C dX7_wouldCache_10 3 rfl ?_
  obtain ⟨x_4, st_3, h1, h⟩ := obS_some h
  refine ux_callVi C cv_X7_224 dX7_wouldCache_11 (oF W0) rfl (kX7_isAllowed W0 h1) rfl (Nat.le_of_ble_eq_true rfl) ⟨(Nat.le_of_ble_eq_true rfl), (Nat.le_of_ble_eq_true rfl)⟩ ⟨(Nat.le_of_ble_eq_true rfl), (Nat.le_of_ble_eq_true rfl)⟩ ?_ rfl
  exact ux_zretX C hr dX7_wouldCache_14 h (Nat.le_of_ble_eq_true rfl) (Nat.le_of_ble_eq_true rfl)
set_option maxRecDepth 100000 in
set_option maxHeartbeats 4000000 in
theorem kX7_clean {l : Launch} {V : uV} (W0 : uWC l V) {p1 : Int32} {st : uSt} {r : Int32 ⊕ String} {s9 : uSt} (h : fX7_clean p1 st = some (r, s9)) : uMetX l V yX7_clean cX7_clean 4 (some .int) 7 111 2 12 [.ref (vA V 0), .int p1] st (xI r) s9 := by
  refine ux_metX W0.1 W0.2.1 (by decide) rfl (Nat.le_of_ble_eq_true rfl) (fun M hL hr C hT => ?_)
  subst hL
  have C : uCx M V cX7_clean 4 RX7 7 111 2 12 := C
  unfold fX7_clean at h
  refine ux_aload_n C dX7_clean_0 0 rfl ?_
  refine ux_iload_n C dX7_clean_1 1 rfl ?_
  obtain ⟨x_1, st_2, h1, h⟩ := ox_some h
  refine ux_callVXv C cv_X7_154 dX7_clean_2 (oF W0) rfl (kX7_requireDevice W0 h1) rfl (Nat.le_of_ble_eq_true rfl) ⟨(Nat.le_of_ble_eq_true rfl), (Nat.le_of_ble_eq_true rfl)⟩ ⟨(Nat.le_of_ble_eq_true rfl), (Nat.le_of_ble_eq_true rfl)⟩ ⟨(Nat.le_of_ble_eq_true rfl), (Nat.le_of_ble_eq_true rfl)⟩ (fun _ => rfl) hT h (fun x_1 h => ?_) rfl
  refine ux_aload_n C dX7_clean_5 0 rfl ?_
  refine ux_get C fl_X7_26 dX7_clean_6 (oF W0) rfl ?_
  refine ux_get C fl_X7_129 dX7_clean_9 (oState W0 kS_15) rfl ?_
  obtain ⟨j_3, hK_3, h⟩ := oj0_some h
  have hJ_3 : j_3 = some (r, s9) → uW M V (uEndX M V 2 12 (xI r) s9) 4 1 6 30 [] [] st_2 := by
    intro h
    replace h := hK_3 h
    exact ux_throwS C th_X7_clean_30 hT dX7_clean_30 dX7_clean_33 dX7_clean_34 dX7_clean_36 dX7_clean_39 (fun _ => rfl) h (Nat.le_of_ble_eq_true rfl) ⟨(Nat.le_of_ble_eq_true rfl), (Nat.le_of_ble_eq_true rfl)⟩ ⟨(Nat.le_of_ble_eq_true rfl), (Nat.le_of_ble_eq_true rfl)⟩ ⟨(Nat.le_of_ble_eq_true rfl), (Nat.le_of_ble_eq_true rfl)⟩
  refine ux_if_eq C dX7_clean_12 h (fun h => ?_) (fun h => ?_)
  · refine ux_sub [] rfl ?_
    exact hJ_3 h
  · refine ux_aload_n C dX7_clean_15 0 rfl ?_
    refine ux_get C fl_X7_26 dX7_clean_16 (oF W0) rfl ?_
    refine ux_get C fl_X7_117 dX7_clean_19 (oState W0 kS_15) rfl ?_
    refine ux_get C fl_X7_171 dX7_clean_22 (oDev W0 (kS_dev kS_15)) rfl ?_
    refine ux_iload_n C dX7_clean_25 1 rfl ?_
    refine ux_zald C (aDev4 W0 (kS_dev kS_15)) dX7_clean_26 h (fun h => ?_)
    refine ux_if_eq C dX7_clean_27 h (fun h => ?_) (fun h => ?_)
    · refine ux_aload_n C dX7_clean_40 0 rfl ?_
      refine ux_get C fl_X7_26 dX7_clean_41 (oF W0) rfl ?_
      refine ux_get C fl_X7_133 dX7_clean_44 (oState W0 kS_15) rfl ?_
      refine ux_iload_n C dX7_clean_47 1 rfl ?_
      obtain ⟨x_4, h1, h⟩ := ob_some h
      refine ux_callVi C cv_X7_157 dX7_clean_48 (oCache W0 (kS_cache kS_15)) rfl (kX1_blocksOn W0 (kS_cache kS_15) h1) rfl (Nat.le_of_ble_eq_true rfl) ⟨(Nat.le_of_ble_eq_true rfl), (Nat.le_of_ble_eq_true rfl)⟩ ⟨(Nat.le_of_ble_eq_true rfl), (Nat.le_of_ble_eq_true rfl)⟩ ?_ rfl
      refine ux_istoreK_n C dX7_clean_51 rfl (by decide) ?_
      refine ux_iload_n C dX7_clean_52 0 rfl ?_
      obtain ⟨x_6, h1, h⟩ := ob_some h
      refine ux_callSi C cs_X7_174 dX7_clean_53 (kJ6_bitCount_0f7a4 W0 h1) rfl (Nat.le_of_ble_eq_true rfl) ⟨(Nat.le_of_ble_eq_true rfl), (Nat.le_of_ble_eq_true rfl)⟩ ⟨(Nat.le_of_ble_eq_true rfl), (Nat.le_of_ble_eq_true rfl)⟩ ?_ rfl
      refine ux_istoreK_n C dX7_clean_56 rfl (by decide) ?_
      refine ux_aload_n C dX7_clean_57 2 rfl ?_
      refine ux_get C fl_X7_26 dX7_clean_58 (oF W0) rfl ?_
      refine ux_get C fl_X7_133 dX7_clean_61 (oState W0 kS_15) rfl ?_
      refine ux_iload_n C dX7_clean_64 1 rfl ?_
      obtain ⟨st_8, h1, h⟩ := obV_some h
      refine ux_callVv C cv_X7_238 dX7_clean_65 (oCache W0 (kS_cache kS_15)) rfl (kX1_removeSet W0 (kS_cache kS_15) h1) rfl (Nat.le_of_ble_eq_true rfl) ⟨(Nat.le_of_ble_eq_true rfl), (Nat.le_of_ble_eq_true rfl)⟩ ⟨(Nat.le_of_ble_eq_true rfl), (Nat.le_of_ble_eq_true rfl)⟩ ?_ rfl
      refine ux_aload_n C dX7_clean_68 2 rfl ?_
      refine ux_get C fl_X7_26 dX7_clean_69 (oF W0) rfl ?_
      refine ux_get C fl_X7_217 dX7_clean_72 (oState W0 kS_15) rfl ?_
      refine ux_bipush (v := 6) C dX7_clean_75 (by decide) ?_
      refine ux_dup2 C dX7_clean_77 rfl rfl ?_
      refine ux_ialdK (j := 6) C (aTot W0 kS_15) dX7_clean_78 (by decide) (by decide) ?_
      refine ux_iload_n C dX7_clean_79 0 rfl ?_
      refine ux_iadd C dX7_clean_80 ?_
      refine ux_iastK (j := 6) C (aTot W0 kS_15) dX7_clean_81 (by decide) (by decide) h (fun st_9 h => ?_)
      refine ux_iload_n C dX7_clean_82 0 rfl ?_
      exact ux_iretX C hr dX7_clean_83 h (Nat.le_of_ble_eq_true rfl) (Nat.le_of_ble_eq_true rfl)
    · refine ux_sub [] rfl ?_
      exact hJ_3 h
set_option maxRecDepth 100000 in
set_option maxHeartbeats 4000000 in
theorem kX7_setFailed {l : Launch} {V : uV} (W0 : uWC l V) {p1 : Int32} {p2 : Int32} {st : uSt} {r : Int32 ⊕ String} {s9 : uSt} (h : fX7_setFailed p1 p2 st = some (r, s9)) : uMetX l V yX7_setFailed cX7_setFailed 4 (some .boolean) 7 111 1 6 [.ref (vA V 0), .int p1, .int p2] st (xI r) s9 := by
  refine ux_metX W0.1 W0.2.1 (by decide) rfl (Nat.le_of_ble_eq_true rfl) (fun M hL hr C hT => ?_)
  subst hL
  have C : uCx M V cX7_setFailed 4 RX7 7 111 1 6 := C
  unfold fX7_setFailed at h
  refine ux_aload_n C dX7_setFailed_0 0 rfl ?_
  refine ux_iload_n C dX7_setFailed_1 1 rfl ?_
  obtain ⟨x_1, st_2, h1, h⟩ := ox_some h
  refine ux_callVXv C cv_X7_154 dX7_setFailed_2 (oF W0) rfl (kX7_requireDevice W0 h1) rfl (Nat.le_of_ble_eq_true rfl) ⟨(Nat.le_of_ble_eq_true rfl), (Nat.le_of_ble_eq_true rfl)⟩ ⟨(Nat.le_of_ble_eq_true rfl), (Nat.le_of_ble_eq_true rfl)⟩ ⟨(Nat.le_of_ble_eq_true rfl), (Nat.le_of_ble_eq_true rfl)⟩ (fun _ => rfl) hT h (fun x_1 h => ?_) rfl
  refine ux_aload_n C dX7_setFailed_5 0 rfl ?_
  refine ux_get C fl_X7_26 dX7_setFailed_6 (oF W0) rfl ?_
  refine ux_get C fl_X7_117 dX7_setFailed_9 (oState W0 kS_15) rfl ?_
  refine ux_get C fl_X7_171 dX7_setFailed_12 (oDev W0 (kS_dev kS_15)) rfl ?_
  refine ux_iload_n C dX7_setFailed_15 1 rfl ?_
  refine ux_zald C (aDev4 W0 (kS_dev kS_15)) dX7_setFailed_16 h (fun h => ?_)
  refine ux_istore_n C dX7_setFailed_17 (fun z => [(3, .int z), (0, .ref (vA V 0)), (1, .int p1), (2, .int p2)]) (fun _ => rfl) (by decide) h (fun l3_3 h => ?_)
  refine ux_aload_n C dX7_setFailed_18 1 rfl ?_
  refine ux_get C fl_X7_26 dX7_setFailed_19 (oF W0) rfl ?_
  refine ux_get C fl_X7_117 dX7_setFailed_22 (oState W0 kS_15) rfl ?_
  refine ux_get C fl_X7_171 dX7_setFailed_25 (oDev W0 (kS_dev kS_15)) rfl ?_
  refine ux_iload_n C dX7_setFailed_28 2 rfl ?_
  refine ux_iload_n C dX7_setFailed_29 3 rfl ?_
  refine ux_zast C (aDev4 W0 (kS_dev kS_15)) dX7_setFailed_30 h (fun st_4 h => ?_)
  refine ux_iload_n C dX7_setFailed_31 0 rfl ?_
  exact ux_zretX C hr dX7_setFailed_32 h (Nat.le_of_ble_eq_true rfl) (Nat.le_of_ble_eq_true rfl)
set_option maxRecDepth 100000 in
set_option maxHeartbeats 4000000 in
theorem kX7_setMode {l : Launch} {V : uV} (W0 : uWC l V) {p1 : Int32} {p2 : Int32} {st : uSt} {r : Int32 ⊕ String} {s9 : uSt} (h : fX7_setMode p1 p2 st = some (r, s9)) : uMetX l V yX7_setMode cX7_setMode 6 (some .int) 6 90 1 6 [.ref (vA V 0), .int p1, .int p2] st (xI r) s9 := by
  refine ux_metX W0.1 W0.2.1 (by decide) rfl (Nat.le_of_ble_eq_true rfl) (fun M hL hr C hT => ?_)
  subst hL
  have C : uCx M V cX7_setMode 6 RX7 6 90 1 6 := C
  unfold fX7_setMode at h
  refine ux_iload_n C dX7_setMode_0 1 rfl ?_
  obtain ⟨j_1, hK_1, h⟩ := oj0_some h
  have hJ_1 : j_1 = some (r, s9) → uW M V (uEndX M V 1 6 (xI r) s9) 6 0 0 9 [] [] st := by
    intro h
    replace h := hK_1 h
    exact ux_throwS C th_X7_setMode_9 hT dX7_setMode_9 dX7_setMode_12 dX7_setMode_13 dX7_setMode_15 dX7_setMode_18 (fun _ => rfl) h (Nat.le_of_ble_eq_true rfl) ⟨(Nat.le_of_ble_eq_true rfl), (Nat.le_of_ble_eq_true rfl)⟩ ⟨(Nat.le_of_ble_eq_true rfl), (Nat.le_of_ble_eq_true rfl)⟩ ⟨(Nat.le_of_ble_eq_true rfl), (Nat.le_of_ble_eq_true rfl)⟩
  refine ux_if_lt C dX7_setMode_1 h (fun h => ?_) (fun h => ?_)
  · refine ux_sub [] rfl ?_
    exact hJ_1 h
  · refine ux_iload_n C dX7_setMode_4 1 rfl ?_
    refine ux_iconst (v := 2) C dX7_setMode_5 (by decide) ?_
    refine ux_icmp_le C dX7_setMode_6 h (fun h => ?_) (fun h => ?_)
    · refine ux_iload_n C dX7_setMode_19 1 rfl ?_
      refine ux_iconst (v := 1) C dX7_setMode_20 (by decide) ?_
      obtain ⟨j_2, hK_2, h⟩ := oj1_some h
      have hJ_2 : ∀ (v_3 : Int32), j_2 v_3 = some (r, s9) → uW M V (uEndX M V 1 6 (xI r) s9) 6 0 0 29 [(0, .ref (vA V 0)), (1, .int p1), (2, .int p2)] [.int v_3] st := by
        intro v_3 h
        replace h := hK_2 v_3 h
        refine ux_istoreK_n C dX7_setMode_29 rfl (by decide) ?_
        refine ux_iload_n C dX7_setMode_30 2 rfl ?_
        refine ux_iconst (v := 1) C dX7_setMode_31 (by decide) ?_
        obtain ⟨j_5, hK_5, h⟩ := oj1_some h
        have hJ_5 : ∀ (v_6 : Int32), j_5 v_6 = some (r, s9) → uW M V (uEndX M V 1 6 (xI r) s9) 6 0 0 41 [(0, .ref (vA V 0)), (1, .int p1), (2, .int p2), (3, .int v_3)] [.int v_6] st := by
          intro v_6 h
          replace h := hK_5 v_6 h
          refine ux_istoreK C dX7_setMode_41 rfl (by decide) ?_
          refine ux_iload_n C dX7_setMode_43 3 rfl ?_
          refine ux_iload_n C dX7_setMode_44 4 rfl ?_
          obtain ⟨j_8, hK_8, h⟩ := oj0_some h
          have hJ_8 : j_8 = some (r, s9) → uW M V (uEndX M V 1 6 (xI r) s9) 6 0 0 54 [] [] st := by
            intro h
            replace h := hK_8 h
            exact ux_throwS C th_X7_setMode_54 hT dX7_setMode_54 dX7_setMode_57 dX7_setMode_58 dX7_setMode_60 dX7_setMode_63 (fun _ => rfl) h (Nat.le_of_ble_eq_true rfl) ⟨(Nat.le_of_ble_eq_true rfl), (Nat.le_of_ble_eq_true rfl)⟩ ⟨(Nat.le_of_ble_eq_true rfl), (Nat.le_of_ble_eq_true rfl)⟩ ⟨(Nat.le_of_ble_eq_true rfl), (Nat.le_of_ble_eq_true rfl)⟩
          refine ux_icmp_lt C dX7_setMode_45 h (fun h => ?_) (fun h => ?_)
          · refine ux_sub [] rfl ?_
            exact hJ_8 h
          · refine ux_iload_n C dX7_setMode_48 3 rfl ?_
            refine ux_iload C dX7_setMode_49 0 rfl ?_
            refine ux_icmp_le C dX7_setMode_51 h (fun h => ?_) (fun h => ?_)
            · refine ux_aload_n C dX7_setMode_64 1 rfl ?_
              refine ux_get C fl_X7_26 dX7_setMode_65 (oF W0) rfl ?_
              refine ux_get C fl_X7_137 dX7_setMode_68 (oState W0 kS_15) rfl ?_
              refine ux_get C fl_X7_141 dX7_setMode_71 (oRules W0 (kS_rules kS_15)) rfl ?_
              refine ux_istore C dX7_setMode_74 (fun z => [(5, .int z), (4, .int v_6), (0, .ref (vA V 0)), (1, .int p1), (2, .int p2), (3, .int v_3)]) (fun _ => rfl) (by decide) h (fun l5_9 h => ?_)
              refine ux_aload_n C dX7_setMode_76 2 rfl ?_
              refine ux_get C fl_X7_26 dX7_setMode_77 (oF W0) rfl ?_
              refine ux_get C fl_X7_137 dX7_setMode_80 (oState W0 kS_15) rfl ?_
              refine ux_iload_n C dX7_setMode_83 3 rfl ?_
              refine ux_puti C fp_X7_141 dX7_setMode_84 (oRules W0 (kS_rules kS_15)) (Nat.le_of_ble_eq_true rfl) rfl h (fun st_10 h => ?_)
              refine ux_aload_n C dX7_setMode_87 2 rfl ?_
              refine ux_get C fl_X7_26 dX7_setMode_88 (oF W0) rfl ?_
              refine ux_get C fl_X7_137 dX7_setMode_91 (oState W0 kS_15) rfl ?_
              refine ux_iload_n C dX7_setMode_94 4 rfl ?_
              refine ux_puti C fp_X7_146 dX7_setMode_95 (oRules W0 (kS_rules kS_15)) (Nat.le_of_ble_eq_true rfl) rfl h (fun st_11 h => ?_)
              refine ux_iload C dX7_setMode_98 0 rfl ?_
              exact ux_iretX C hr dX7_setMode_100 h (Nat.le_of_ble_eq_true rfl) (Nat.le_of_ble_eq_true rfl)
            · refine ux_sub [] rfl ?_
              exact hJ_8 h
        refine ux_icmp_ne C dX7_setMode_32 h (fun h => ?_) (fun h => ?_)
        · refine ux_bipush (v := 99) C dX7_setMode_35 (by decide) ?_
          refine ux_goto C dX7_setMode_37 ?_
          refine ux_sub [1, 2, 3, 0] rfl ?_
          exact hJ_5 (99 : Int32) h
        · refine ux_iconst (v := 0) C dX7_setMode_40 (by decide) ?_
          refine ux_sub [1, 2, 3, 0] rfl ?_
          exact hJ_5 (0 : Int32) h
      refine ux_icmp_ne C dX7_setMode_21 h (fun h => ?_) (fun h => ?_)
      · refine ux_iconst (v := 1) C dX7_setMode_24 (by decide) ?_
        refine ux_goto C dX7_setMode_25 ?_
        exact hJ_2 (1 : Int32) h
      · refine ux_iconst (v := 0) C dX7_setMode_28 (by decide) ?_
        exact hJ_2 (0 : Int32) h
    · refine ux_sub [] rfl ?_
      exact hJ_1 h
set_option maxRecDepth 100000 in
set_option maxHeartbeats 4000000 in
theorem kX7_setPower {l : Launch} {V : uV} (W0 : uWC l V) {p1 : Int32} {st : uSt} {r : Int32} {s9 : uSt} (h : fX7_setPower p1 st = some (r, s9)) : uMet l V yX7_setPower cX7_setPower 3 (some .boolean) 0 0 0 0 [.ref (vA V 0), .int p1] st (some (.int r)) s9 := by
  refine ux_met W0.1 W0.2.1 (by decide) rfl (Nat.le_of_ble_eq_true rfl) (fun M hL hr C => ?_)
  subst hL
  have C : uCx M V cX7_setPower 3 RX7 0 0 0 0 := C
  unfold fX7_setPower at h
  refine ux_aload_n C dX7_setPower_0 0 rfl ?_
  refine ux_get C fl_X7_26 dX7_setPower_1 (oF W0) rfl ?_
  refine ux_get C fl_X7_129 dX7_setPower_4 (oState W0 kS_15) rfl ?_
  refine ux_istore_n C dX7_setPower_7 (fun z => [(2, .int z), (0, .ref (vA V 0)), (1, .int p1)]) (fun _ => rfl) (by decide) h (fun l2_1 h => ?_)
  refine ux_aload_n C dX7_setPower_8 1 rfl ?_
  refine ux_get C fl_X7_26 dX7_setPower_9 (oF W0) rfl ?_
  refine ux_iload_n C dX7_setPower_12 2 rfl ?_
  refine ux_putz C fp_X7_129 dX7_setPower_13 (oState W0 kS_15) (Nat.le_of_ble_eq_true rfl) rfl h (fun st_2 h => ?_)
  refine ux_iload_n C dX7_setPower_16 0 rfl ?_
  exact ux_zretS C hr dX7_setPower_17 h (Nat.le_of_ble_eq_true rfl) (Nat.le_of_ble_eq_true rfl)
set_option maxRecDepth 100000 in
set_option maxHeartbeats 4000000 in
theorem wX7_advance_26 {M : uM} {V : uV} (W0 : uWC (mL M) V) (C : uCx M V cX7_advance 4 RX7 6 90 1 6) (hr : (mT M).sig.returnType = (some .int)) (hT : ∀ x ∈ (mC M).exceptionTable.toList, False) {l1 : Int32} {r : Int32 ⊕ String} {s9 : uSt} {ke : uSt → Int32 → Option ((Int32 ⊕ String) × uSt)} (K : ∀ (st : uSt) (l2 : Int32), ke st l2 = some (r, s9) → uW M V (uEndX M V 1 6 (xI r) s9) 4 0 0 47 [(2, .int l2)] [] st) : ∀ (n : Nat) (st : uSt) (l2 : Int32) (l3 : Int32), fX7_advance_26 l1 ke n st l2 l3 = some (r, s9) → uW M V (uEndX M V 1 6 (xI r) s9) 4 0 0 26 [(0, .ref (vA V 0)), (1, .int l1), (2, .int l2), (3, .int l3)] [] st := by
  intro n
  induction n with
  | zero =>
    intro st l2 l3 h
    rw [fX7_advance_26] at h
    cases h
  | succ n ih =>
    intro st l2 l3 h
    rw [fX7_advance_26] at h
    refine ux_iload_n C dX7_advance_26 3 rfl ?_
    refine ux_iload_n C dX7_advance_27 1 rfl ?_
    refine ux_icmp_ge C dX7_advance_28 h (fun h => ?_) (fun h => ?_)
    · refine ux_sub [2] rfl ?_
      exact K st l2 h
    · refine ux_iload_n C dX7_advance_31 2 rfl ?_
      refine ux_aload_n C dX7_advance_32 0 rfl ?_
      refine ux_get C fl_X7_26 dX7_advance_33 (oF W0) rfl ?_
      obtain ⟨x_5, st_4, h1, h⟩ := obS_some h
      refine ux_callVi C cv_X7_247 dX7_advance_36 (oState W0 kS_15) rfl (kX6_passMinute W0 kS_15 h1) rfl (Nat.le_of_ble_eq_true rfl) ⟨(Nat.le_of_ble_eq_true rfl), (Nat.le_of_ble_eq_true rfl)⟩ ⟨(Nat.le_of_ble_eq_true rfl), (Nat.le_of_ble_eq_true rfl)⟩ ?_ rfl
      refine ux_iadd C dX7_advance_39 ?_
      refine ux_istore_n C dX7_advance_40 (fun z => [(2, .int z), (0, .ref (vA V 0)), (1, .int l1), (3, .int l3)]) (fun _ => rfl) (by decide) h (fun l2_6 h => ?_)
      refine ux_iincK C dX7_advance_41 (by decide) 3 rfl (fun z => [(3, .int z), (2, .int l2_6), (0, .ref (vA V 0)), (1, .int l1)]) (fun _ => rfl) (by decide) h (fun l3_7 h => ?_)
      refine ux_goto C dX7_advance_44 ?_
      refine ux_sub [2, 3, 1, 0] rfl ?_
      exact ih _ _ _ h
set_option maxRecDepth 100000 in
set_option maxHeartbeats 4000000 in
theorem kX7_advance {l : Launch} {V : uV} (W0 : uWC l V) {p1 : Int32} {st : uSt} {r : Int32 ⊕ String} {s9 : uSt} (h : fX7_advance p1 st = some (r, s9)) : uMetX l V yX7_advance cX7_advance 4 (some .int) 6 90 1 6 [.ref (vA V 0), .int p1] st (xI r) s9 := by
  refine ux_metX W0.1 W0.2.1 (by decide) rfl (Nat.le_of_ble_eq_true rfl) (fun M hL hr C hT => ?_)
  subst hL
  have C : uCx M V cX7_advance 4 RX7 6 90 1 6 := C
  unfold fX7_advance at h
  refine ux_iload_n C dX7_advance_0 1 rfl ?_
  refine ux_iconst (v := 1) C dX7_advance_1 (by decide) ?_
  obtain ⟨j_1, hK_1, h⟩ := oj0_some h
  have hJ_1 : j_1 = some (r, s9) → uW M V (uEndX M V 1 6 (xI r) s9) 4 0 0 12 [] [] st := by
    intro h
    replace h := hK_1 h
    exact ux_throwS C th_X7_advance_12 hT dX7_advance_12 dX7_advance_15 dX7_advance_16 dX7_advance_18 dX7_advance_21 (fun _ => rfl) h (Nat.le_of_ble_eq_true rfl) ⟨(Nat.le_of_ble_eq_true rfl), (Nat.le_of_ble_eq_true rfl)⟩ ⟨(Nat.le_of_ble_eq_true rfl), (Nat.le_of_ble_eq_true rfl)⟩ ⟨(Nat.le_of_ble_eq_true rfl), (Nat.le_of_ble_eq_true rfl)⟩
  refine ux_icmp_lt C dX7_advance_2 h (fun h => ?_) (fun h => ?_)
  · refine ux_sub [] rfl ?_
    exact hJ_1 h
  · refine ux_iload_n C dX7_advance_5 1 rfl ?_
    refine ux_sipush (v := 1000) C dX7_advance_6 (by decide) ?_
    refine ux_icmp_le C dX7_advance_9 h (fun h => ?_) (fun h => ?_)
    · refine ux_iconst (v := 0) C dX7_advance_22 (by decide) ?_
      refine ux_istoreK_n C dX7_advance_23 rfl (by decide) ?_
      refine ux_iconst (v := 0) C dX7_advance_24 (by decide) ?_
      refine ux_istoreK_n C dX7_advance_25 rfl (by decide) ?_
      refine ux_sub [2, 3, 1, 0] rfl ?_
      refine wX7_advance_26 W0 C hr hT (fun st_9 l2_8 h => ?_) _ _ _ _ h
      refine ux_iload_n C dX7_advance_47 0 rfl ?_
      exact ux_iretX C hr dX7_advance_48 h (Nat.le_of_ble_eq_true rfl) (Nat.le_of_ble_eq_true rfl)
    · refine ux_sub [] rfl ?_
      exact hJ_1 h
set_option maxRecDepth 100000 in
set_option maxHeartbeats 4000000 in
theorem kX7_flush {l : Launch} {V : uV} (W0 : uWC l V) {st : uSt} {r : Int32 ⊕ String} {s9 : uSt} (h : fX7_flush st = some (r, s9)) : uMetX l V yX7_flush cX7_flush 1 (some .int) 6 110 1 6 [.ref (vA V 0)] st (xI r) s9 := by
  refine ux_metX W0.1 W0.2.1 (by decide) rfl (Nat.le_of_ble_eq_true rfl) (fun M hL hr C hT => ?_)
  subst hL
  have C : uCx M V cX7_flush 1 RX7 6 110 1 6 := C
  unfold fX7_flush at h
  refine ux_aload_n C dX7_flush_0 0 rfl ?_
  refine ux_get C fl_X7_26 dX7_flush_1 (oF W0) rfl ?_
  refine ux_get C fl_X7_129 dX7_flush_4 (oState W0 kS_15) rfl ?_
  refine ux_if_eq C dX7_flush_7 h (fun h => ?_) (fun h => ?_)
  · refine ux_aload_n C dX7_flush_20 0 rfl ?_
    refine ux_aload_n C dX7_flush_21 0 rfl ?_
    refine ux_get C fl_X7_44 dX7_flush_22 (oF W0) rfl ?_
    refine ux_aload_n C dX7_flush_25 0 rfl ?_
    refine ux_get C fl_X7_26 dX7_flush_26 (oF W0) rfl ?_
    refine ux_aload_n C dX7_flush_29 0 rfl ?_
    refine ux_get C fl_X7_26 dX7_flush_30 (oF W0) rfl ?_
    obtain ⟨x_1, h1, h⟩ := ob_some h
    refine ux_callVi C cv_X7_253 dX7_flush_33 (oState W0 kS_15) rfl (kX6_usableBlocks W0 kS_15 h1) rfl (Nat.le_of_ble_eq_true rfl) ⟨(Nat.le_of_ble_eq_true rfl), (Nat.le_of_ble_eq_true rfl)⟩ ⟨(Nat.le_of_ble_eq_true rfl), (Nat.le_of_ble_eq_true rfl)⟩ ?_ rfl
    refine ux_aload_n C dX7_flush_36 0 rfl ?_
    refine ux_get C fl_X7_26 dX7_flush_37 (oF W0) rfl ?_
    refine ux_get C fl_X7_62 dX7_flush_40 (oState W0 kS_15) rfl ?_
    refine ux_get C fl_X7_68 dX7_flush_43 (oBat W0 (kS_bat kS_15)) rfl ?_
    obtain ⟨x_3, st_2, h1, h⟩ := obS_some h
    refine ux_callVi C cv_X7_256 dX7_flush_46 (oSearch W0) rfl (kX4_best W0 kS_15 h1) rfl (Nat.le_of_ble_eq_true rfl) ⟨(Nat.le_of_ble_eq_true rfl), (Nat.le_of_ble_eq_true rfl)⟩ ⟨(Nat.le_of_ble_eq_true rfl), (Nat.le_of_ble_eq_true rfl)⟩ ?_ rfl
    obtain ⟨x_5, st_4, h1, h⟩ := obS_some h
    refine ux_callVi C cv_X7_260 dX7_flush_49 (oF W0) rfl (kX7_flushSet W0 h1) rfl (Nat.le_of_ble_eq_true rfl) ⟨(Nat.le_of_ble_eq_true rfl), (Nat.le_of_ble_eq_true rfl)⟩ ⟨(Nat.le_of_ble_eq_true rfl), (Nat.le_of_ble_eq_true rfl)⟩ ?_ rfl
    exact ux_iretX C hr dX7_flush_52 h (Nat.le_of_ble_eq_true rfl) (Nat.le_of_ble_eq_true rfl)
  · exact ux_throwS C th_X7_flush_10 hT dX7_flush_10 dX7_flush_13 dX7_flush_14 dX7_flush_16 dX7_flush_19 (fun _ => rfl) h (Nat.le_of_ble_eq_true rfl) ⟨(Nat.le_of_ble_eq_true rfl), (Nat.le_of_ble_eq_true rfl)⟩ ⟨(Nat.le_of_ble_eq_true rfl), (Nat.le_of_ble_eq_true rfl)⟩ ⟨(Nat.le_of_ble_eq_true rfl), (Nat.le_of_ble_eq_true rfl)⟩
set_option maxRecDepth 100000 in
set_option maxHeartbeats 4000000 in
theorem kX7_flushDevice {l : Launch} {V : uV} (W0 : uWC l V) {p1 : Int32} {st : uSt} {r : Int32 ⊕ String} {s9 : uSt} (h : fX7_flushDevice p1 st = some (r, s9)) : uMetX l V yX7_flushDevice cX7_flushDevice 3 (some .int) 7 111 2 12 [.ref (vA V 0), .int p1] st (xI r) s9 := by
  refine ux_metX W0.1 W0.2.1 (by decide) rfl (Nat.le_of_ble_eq_true rfl) (fun M hL hr C hT => ?_)
  subst hL
  have C : uCx M V cX7_flushDevice 3 RX7 7 111 2 12 := C
  unfold fX7_flushDevice at h
  refine ux_aload_n C dX7_flushDevice_0 0 rfl ?_
  refine ux_iload_n C dX7_flushDevice_1 1 rfl ?_
  obtain ⟨x_1, st_2, h1, h⟩ := ox_some h
  refine ux_callVXv C cv_X7_154 dX7_flushDevice_2 (oF W0) rfl (kX7_requireDevice W0 h1) rfl (Nat.le_of_ble_eq_true rfl) ⟨(Nat.le_of_ble_eq_true rfl), (Nat.le_of_ble_eq_true rfl)⟩ ⟨(Nat.le_of_ble_eq_true rfl), (Nat.le_of_ble_eq_true rfl)⟩ ⟨(Nat.le_of_ble_eq_true rfl), (Nat.le_of_ble_eq_true rfl)⟩ (fun _ => rfl) hT h (fun x_1 h => ?_) rfl
  refine ux_aload_n C dX7_flushDevice_5 0 rfl ?_
  refine ux_get C fl_X7_26 dX7_flushDevice_6 (oF W0) rfl ?_
  refine ux_get C fl_X7_133 dX7_flushDevice_9 (oState W0 kS_15) rfl ?_
  refine ux_iload_n C dX7_flushDevice_12 1 rfl ?_
  obtain ⟨x_3, h1, h⟩ := ob_some h
  refine ux_callVi C cv_X7_157 dX7_flushDevice_13 (oCache W0 (kS_cache kS_15)) rfl (kX1_blocksOn W0 (kS_cache kS_15) h1) rfl (Nat.le_of_ble_eq_true rfl) ⟨(Nat.le_of_ble_eq_true rfl), (Nat.le_of_ble_eq_true rfl)⟩ ⟨(Nat.le_of_ble_eq_true rfl), (Nat.le_of_ble_eq_true rfl)⟩ ?_ rfl
  refine ux_istoreK_n C dX7_flushDevice_16 rfl (by decide) ?_
  refine ux_aload_n C dX7_flushDevice_17 1 rfl ?_
  refine ux_get C fl_X7_26 dX7_flushDevice_18 (oF W0) rfl ?_
  refine ux_get C fl_X7_129 dX7_flushDevice_21 (oState W0 kS_15) rfl ?_
  obtain ⟨j_5, hK_5, h⟩ := oj0_some h
  have hJ_5 : j_5 = some (r, s9) → uW M V (uEndX M V 2 12 (xI r) s9) 3 1 6 73 [] [] st_2 := by
    intro h
    replace h := hK_5 h
    exact ux_throwSW C th_X7_flushDevice_73 hT dX7_flushDevice_73 dX7_flushDevice_76 dX7_flushDevice_77 dX7_flushDevice_80 dX7_flushDevice_83 (fun _ => rfl) h (Nat.le_of_ble_eq_true rfl) ⟨(Nat.le_of_ble_eq_true rfl), (Nat.le_of_ble_eq_true rfl)⟩ ⟨(Nat.le_of_ble_eq_true rfl), (Nat.le_of_ble_eq_true rfl)⟩ ⟨(Nat.le_of_ble_eq_true rfl), (Nat.le_of_ble_eq_true rfl)⟩
  refine ux_if_ne C dX7_flushDevice_24 h (fun h => ?_) (fun h => ?_)
  · refine ux_aload_n C dX7_flushDevice_27 1 rfl ?_
    refine ux_get C fl_X7_26 dX7_flushDevice_28 (oF W0) rfl ?_
    refine ux_get C fl_X7_117 dX7_flushDevice_31 (oState W0 kS_15) rfl ?_
    refine ux_get C fl_X7_171 dX7_flushDevice_34 (oDev W0 (kS_dev kS_15)) rfl ?_
    refine ux_iload_n C dX7_flushDevice_37 2 rfl ?_
    refine ux_zald C (aDev4 W0 (kS_dev kS_15)) dX7_flushDevice_38 h (fun h => ?_)
    refine ux_if_ne C dX7_flushDevice_39 h (fun h => ?_) (fun h => ?_)
    · refine ux_aload_n C dX7_flushDevice_42 1 rfl ?_
      refine ux_get C fl_X7_26 dX7_flushDevice_43 (oF W0) rfl ?_
      refine ux_get C fl_X7_62 dX7_flushDevice_46 (oState W0 kS_15) rfl ?_
      refine ux_get C fl_X7_68 dX7_flushDevice_49 (oBat W0 (kS_bat kS_15)) rfl ?_
      refine ux_aload_n C dX7_flushDevice_52 1 rfl ?_
      refine ux_get C fl_X7_26 dX7_flushDevice_53 (oF W0) rfl ?_
      refine ux_get C fl_X7_117 dX7_flushDevice_56 (oState W0 kS_15) rfl ?_
      refine ux_aload_n C dX7_flushDevice_59 1 rfl ?_
      refine ux_get C fl_X7_26 dX7_flushDevice_60 (oF W0) rfl ?_
      refine ux_get C fl_X7_133 dX7_flushDevice_63 (oState W0 kS_15) rfl ?_
      refine ux_iload_n C dX7_flushDevice_66 0 rfl ?_
      obtain ⟨x_6, h1, h⟩ := ob_some h
      refine ux_callVi C cv_X7_182 dX7_flushDevice_67 (oDev W0 (kS_dev kS_15)) rfl (kX2_energyIn W0 (kS_dev kS_15) (kS_cache kS_15) h1) rfl (Nat.le_of_ble_eq_true rfl) ⟨(Nat.le_of_ble_eq_true rfl), (Nat.le_of_ble_eq_true rfl)⟩ ⟨(Nat.le_of_ble_eq_true rfl), (Nat.le_of_ble_eq_true rfl)⟩ ?_ rfl
      refine ux_icmp_ge C dX7_flushDevice_70 h (fun h => ?_) (fun h => ?_)
      · refine ux_aload_n C dX7_flushDevice_84 1 rfl ?_
        refine ux_iload_n C dX7_flushDevice_85 0 rfl ?_
        obtain ⟨x_8, st_7, h1, h⟩ := obS_some h
        refine ux_callVi C cv_X7_260 dX7_flushDevice_86 (oF W0) rfl (kX7_flushSet W0 h1) rfl (Nat.le_of_ble_eq_true rfl) ⟨(Nat.le_of_ble_eq_true rfl), (Nat.le_of_ble_eq_true rfl)⟩ ⟨(Nat.le_of_ble_eq_true rfl), (Nat.le_of_ble_eq_true rfl)⟩ ?_ rfl
        exact ux_iretX C hr dX7_flushDevice_89 h (Nat.le_of_ble_eq_true rfl) (Nat.le_of_ble_eq_true rfl)
      · refine ux_sub [] rfl ?_
        exact hJ_5 h
    · refine ux_sub [] rfl ?_
      exact hJ_5 h
  · refine ux_sub [] rfl ?_
    exact hJ_5 h
set_option maxRecDepth 100000 in
set_option maxHeartbeats 4000000 in
theorem kX7_need {l : Launch} {V : uV} (W0 : uWC l V) {st : uSt} {r : Int32} (h : fX7_need st = some r) : uMet l V yX7_need cX7_need 1 (some .int) 3 68 0 0 [.ref (vA V 0)] st (some (.int r)) st := by
  refine ux_met W0.1 W0.2.1 (by decide) rfl (Nat.le_of_ble_eq_true rfl) (fun M hL hr C => ?_)
  subst hL
  have C : uCx M V cX7_need 1 RX7 3 68 0 0 := C
  unfold fX7_need at h
  refine ux_aload_n C dX7_need_0 0 rfl ?_
  refine ux_get C fl_X7_26 dX7_need_1 (oF W0) rfl ?_
  obtain ⟨x_1, h1, h⟩ := ob_some h
  refine ux_callVi C cv_X7_265 dX7_need_4 (oState W0 kS_15) rfl (kX6_neededEnergy W0 kS_15 h1) rfl (Nat.le_of_ble_eq_true rfl) ⟨(Nat.le_of_ble_eq_true rfl), (Nat.le_of_ble_eq_true rfl)⟩ ⟨(Nat.le_of_ble_eq_true rfl), (Nat.le_of_ble_eq_true rfl)⟩ ?_ rfl
  exact ux_iret C hr dX7_need_7 h (Nat.le_of_ble_eq_true rfl) (Nat.le_of_ble_eq_true rfl)
set_option maxRecDepth 100000 in
set_option maxHeartbeats 4000000 in
theorem kX7_energyOf {l : Launch} {V : uV} (W0 : uWC l V) {p1 : Int32} {st : uSt} {r : Int32 ⊕ String} {s9 : uSt} (h : fX7_energyOf p1 st = some (r, s9)) : uMetX l V yX7_energyOf cX7_energyOf 2 (some .int) 7 111 1 6 [.ref (vA V 0), .int p1] st (xI r) s9 := by
  refine ux_metX W0.1 W0.2.1 (by decide) rfl (Nat.le_of_ble_eq_true rfl) (fun M hL hr C hT => ?_)
  subst hL
  have C : uCx M V cX7_energyOf 2 RX7 7 111 1 6 := C
  unfold fX7_energyOf at h
  refine ux_aload_n C dX7_energyOf_0 0 rfl ?_
  refine ux_iload_n C dX7_energyOf_1 1 rfl ?_
  obtain ⟨x_1, st_2, h1, h⟩ := ox_some h
  refine ux_callVXv C cv_X7_268 dX7_energyOf_2 (oF W0) rfl (kX7_requireSet W0 h1) rfl (Nat.le_of_ble_eq_true rfl) ⟨(Nat.le_of_ble_eq_true rfl), (Nat.le_of_ble_eq_true rfl)⟩ ⟨(Nat.le_of_ble_eq_true rfl), (Nat.le_of_ble_eq_true rfl)⟩ ⟨(Nat.le_of_ble_eq_true rfl), (Nat.le_of_ble_eq_true rfl)⟩ (fun _ => rfl) hT h (fun x_1 h => ?_) rfl
  refine ux_aload_n C dX7_energyOf_5 0 rfl ?_
  refine ux_get C fl_X7_26 dX7_energyOf_6 (oF W0) rfl ?_
  refine ux_get C fl_X7_117 dX7_energyOf_9 (oState W0 kS_15) rfl ?_
  refine ux_aload_n C dX7_energyOf_12 0 rfl ?_
  refine ux_get C fl_X7_26 dX7_energyOf_13 (oF W0) rfl ?_
  refine ux_get C fl_X7_133 dX7_energyOf_16 (oState W0 kS_15) rfl ?_
  refine ux_iload_n C dX7_energyOf_19 1 rfl ?_
  obtain ⟨x_3, h1, h⟩ := ob_some h
  refine ux_callVi C cv_X7_182 dX7_energyOf_20 (oDev W0 (kS_dev kS_15)) rfl (kX2_energyIn W0 (kS_dev kS_15) (kS_cache kS_15) h1) rfl (Nat.le_of_ble_eq_true rfl) ⟨(Nat.le_of_ble_eq_true rfl), (Nat.le_of_ble_eq_true rfl)⟩ ⟨(Nat.le_of_ble_eq_true rfl), (Nat.le_of_ble_eq_true rfl)⟩ ?_ rfl
  exact ux_iretX C hr dX7_energyOf_23 h (Nat.le_of_ble_eq_true rfl) (Nat.le_of_ble_eq_true rfl)
set_option maxRecDepth 100000 in
set_option maxHeartbeats 4000000 in
theorem kX7_valueOf {l : Launch} {V : uV} (W0 : uWC l V) {p1 : Int32} {st : uSt} {r : Int32 ⊕ String} {s9 : uSt} (h : fX7_valueOf p1 st = some (r, s9)) : uMetX l V yX7_valueOf cX7_valueOf 2 (some .int) 7 111 1 6 [.ref (vA V 0), .int p1] st (xI r) s9 := by
  refine ux_metX W0.1 W0.2.1 (by decide) rfl (Nat.le_of_ble_eq_true rfl) (fun M hL hr C hT => ?_)
  subst hL
  have C : uCx M V cX7_valueOf 2 RX7 7 111 1 6 := C
  unfold fX7_valueOf at h
  refine ux_aload_n C dX7_valueOf_0 0 rfl ?_
  refine ux_iload_n C dX7_valueOf_1 1 rfl ?_
  obtain ⟨x_1, st_2, h1, h⟩ := ox_some h
  refine ux_callVXv C cv_X7_268 dX7_valueOf_2 (oF W0) rfl (kX7_requireSet W0 h1) rfl (Nat.le_of_ble_eq_true rfl) ⟨(Nat.le_of_ble_eq_true rfl), (Nat.le_of_ble_eq_true rfl)⟩ ⟨(Nat.le_of_ble_eq_true rfl), (Nat.le_of_ble_eq_true rfl)⟩ ⟨(Nat.le_of_ble_eq_true rfl), (Nat.le_of_ble_eq_true rfl)⟩ (fun _ => rfl) hT h (fun x_1 h => ?_) rfl
  refine ux_aload_n C dX7_valueOf_5 0 rfl ?_
  refine ux_get C fl_X7_26 dX7_valueOf_6 (oF W0) rfl ?_
  refine ux_get C fl_X7_133 dX7_valueOf_9 (oState W0 kS_15) rfl ?_
  refine ux_iload_n C dX7_valueOf_12 1 rfl ?_
  obtain ⟨x_3, h1, h⟩ := ob_some h
  refine ux_callVi C cv_X7_179 dX7_valueOf_13 (oCache W0 (kS_cache kS_15)) rfl (kX1_valueIn W0 (kS_cache kS_15) h1) rfl (Nat.le_of_ble_eq_true rfl) ⟨(Nat.le_of_ble_eq_true rfl), (Nat.le_of_ble_eq_true rfl)⟩ ⟨(Nat.le_of_ble_eq_true rfl), (Nat.le_of_ble_eq_true rfl)⟩ ?_ rfl
  exact ux_iretX C hr dX7_valueOf_16 h (Nat.le_of_ble_eq_true rfl) (Nat.le_of_ble_eq_true rfl)
set_option maxRecDepth 100000 in
set_option maxHeartbeats 4000000 in
theorem kX7_bestSet {l : Launch} {V : uV} (W0 : uWC l V) {p1 : Int32} {st : uSt} {r : Int32 ⊕ String} {s9 : uSt} (h : fX7_bestSet p1 st = some (r, s9)) : uMetX l V yX7_bestSet cX7_bestSet 2 (some .int) 7 111 1 6 [.ref (vA V 0), .int p1] st (xI r) s9 := by
  refine ux_metX W0.1 W0.2.1 (by decide) rfl (Nat.le_of_ble_eq_true rfl) (fun M hL hr C hT => ?_)
  subst hL
  have C : uCx M V cX7_bestSet 2 RX7 7 111 1 6 := C
  unfold fX7_bestSet at h
  refine ux_aload_n C dX7_bestSet_0 0 rfl ?_
  refine ux_iload_n C dX7_bestSet_1 1 rfl ?_
  obtain ⟨x_1, st_2, h1, h⟩ := ox_some h
  refine ux_callVXv C cv_X7_271 dX7_bestSet_2 (oF W0) rfl (kX7_requireEnergy W0 h1) rfl (Nat.le_of_ble_eq_true rfl) ⟨(Nat.le_of_ble_eq_true rfl), (Nat.le_of_ble_eq_true rfl)⟩ ⟨(Nat.le_of_ble_eq_true rfl), (Nat.le_of_ble_eq_true rfl)⟩ ⟨(Nat.le_of_ble_eq_true rfl), (Nat.le_of_ble_eq_true rfl)⟩ (fun _ => rfl) hT h (fun x_1 h => ?_) rfl
  refine ux_aload_n C dX7_bestSet_5 0 rfl ?_
  refine ux_get C fl_X7_44 dX7_bestSet_6 (oF W0) rfl ?_
  refine ux_aload_n C dX7_bestSet_9 0 rfl ?_
  refine ux_get C fl_X7_26 dX7_bestSet_10 (oF W0) rfl ?_
  refine ux_aload_n C dX7_bestSet_13 0 rfl ?_
  refine ux_get C fl_X7_26 dX7_bestSet_14 (oF W0) rfl ?_
  obtain ⟨x_3, h1, h⟩ := ob_some h
  refine ux_callVi C cv_X7_253 dX7_bestSet_17 (oState W0 kS_15) rfl (kX6_usableBlocks W0 kS_15 h1) rfl (Nat.le_of_ble_eq_true rfl) ⟨(Nat.le_of_ble_eq_true rfl), (Nat.le_of_ble_eq_true rfl)⟩ ⟨(Nat.le_of_ble_eq_true rfl), (Nat.le_of_ble_eq_true rfl)⟩ ?_ rfl
  refine ux_iload_n C dX7_bestSet_20 1 rfl ?_
  obtain ⟨x_5, st_4, h1, h⟩ := obS_some h
  refine ux_callVi C cv_X7_256 dX7_bestSet_21 (oSearch W0) rfl (kX4_best W0 kS_15 h1) rfl (Nat.le_of_ble_eq_true rfl) ⟨(Nat.le_of_ble_eq_true rfl), (Nat.le_of_ble_eq_true rfl)⟩ ⟨(Nat.le_of_ble_eq_true rfl), (Nat.le_of_ble_eq_true rfl)⟩ ?_ rfl
  exact ux_iretX C hr dX7_bestSet_24 h (Nat.le_of_ble_eq_true rfl) (Nat.le_of_ble_eq_true rfl)
set_option maxRecDepth 100000 in
set_option maxHeartbeats 4000000 in
theorem kX7_bestValue {l : Launch} {V : uV} (W0 : uWC l V) {p1 : Int32} {st : uSt} {r : Int32 ⊕ String} {s9 : uSt} (h : fX7_bestValue p1 st = some (r, s9)) : uMetX l V yX7_bestValue cX7_bestValue 2 (some .int) 7 132 1 6 [.ref (vA V 0), .int p1] st (xI r) s9 := by
  refine ux_metX W0.1 W0.2.1 (by decide) rfl (Nat.le_of_ble_eq_true rfl) (fun M hL hr C hT => ?_)
  subst hL
  have C : uCx M V cX7_bestValue 2 RX7 7 132 1 6 := C
  unfold fX7_bestValue at h
  refine ux_aload_n C dX7_bestValue_0 0 rfl ?_
  refine ux_iload_n C dX7_bestValue_1 1 rfl ?_
  obtain ⟨x_1, st_2, h1, h⟩ := ox_some h
  refine ux_callVXv C cv_X7_271 dX7_bestValue_2 (oF W0) rfl (kX7_requireEnergy W0 h1) rfl (Nat.le_of_ble_eq_true rfl) ⟨(Nat.le_of_ble_eq_true rfl), (Nat.le_of_ble_eq_true rfl)⟩ ⟨(Nat.le_of_ble_eq_true rfl), (Nat.le_of_ble_eq_true rfl)⟩ ⟨(Nat.le_of_ble_eq_true rfl), (Nat.le_of_ble_eq_true rfl)⟩ (fun _ => rfl) hT h (fun x_1 h => ?_) rfl
  refine ux_aload_n C dX7_bestValue_5 0 rfl ?_
  refine ux_aload_n C dX7_bestValue_6 0 rfl ?_
  refine ux_get C fl_X7_26 dX7_bestValue_7 (oF W0) rfl ?_
  obtain ⟨x_3, h1, h⟩ := ob_some h
  refine ux_callVi C cv_X7_253 dX7_bestValue_10 (oState W0 kS_15) rfl (kX6_usableBlocks W0 kS_15 h1) rfl (Nat.le_of_ble_eq_true rfl) ⟨(Nat.le_of_ble_eq_true rfl), (Nat.le_of_ble_eq_true rfl)⟩ ⟨(Nat.le_of_ble_eq_true rfl), (Nat.le_of_ble_eq_true rfl)⟩ ?_ rfl
  refine ux_iload_n C dX7_bestValue_13 1 rfl ?_
  obtain ⟨x_5, st_4, h1, h⟩ := obS_some h
  refine ux_callVi C cv_X7_274 dX7_bestValue_14 (oF W0) rfl (kX7_valueFor W0 h1) rfl (Nat.le_of_ble_eq_true rfl) ⟨(Nat.le_of_ble_eq_true rfl), (Nat.le_of_ble_eq_true rfl)⟩ ⟨(Nat.le_of_ble_eq_true rfl), (Nat.le_of_ble_eq_true rfl)⟩ ?_ rfl
  exact ux_iretX C hr dX7_bestValue_17 h (Nat.le_of_ble_eq_true rfl) (Nat.le_of_ble_eq_true rfl)
set_option maxRecDepth 100000 in
set_option maxHeartbeats 4000000 in
theorem kX7_greedySet {l : Launch} {V : uV} (W0 : uWC l V) {p1 : Int32} {st : uSt} {r : Int32 ⊕ String} {s9 : uSt} (h : fX7_greedySet p1 st = some (r, s9)) : uMetX l V yX7_greedySet cX7_greedySet 2 (some .int) 7 111 1 6 [.ref (vA V 0), .int p1] st (xI r) s9 := by
  refine ux_metX W0.1 W0.2.1 (by decide) rfl (Nat.le_of_ble_eq_true rfl) (fun M hL hr C hT => ?_)
  subst hL
  have C : uCx M V cX7_greedySet 2 RX7 7 111 1 6 := C
  unfold fX7_greedySet at h
  refine ux_aload_n C dX7_greedySet_0 0 rfl ?_
  refine ux_iload_n C dX7_greedySet_1 1 rfl ?_
  obtain ⟨x_1, st_2, h1, h⟩ := ox_some h
  refine ux_callVXv C cv_X7_271 dX7_greedySet_2 (oF W0) rfl (kX7_requireEnergy W0 h1) rfl (Nat.le_of_ble_eq_true rfl) ⟨(Nat.le_of_ble_eq_true rfl), (Nat.le_of_ble_eq_true rfl)⟩ ⟨(Nat.le_of_ble_eq_true rfl), (Nat.le_of_ble_eq_true rfl)⟩ ⟨(Nat.le_of_ble_eq_true rfl), (Nat.le_of_ble_eq_true rfl)⟩ (fun _ => rfl) hT h (fun x_1 h => ?_) rfl
  refine ux_aload_n C dX7_greedySet_5 0 rfl ?_
  refine ux_iload_n C dX7_greedySet_6 1 rfl ?_
  obtain ⟨x_3, h1, h⟩ := ob_some h
  refine ux_callVi C cv_X7_277 dX7_greedySet_7 (oF W0) rfl (kX7_greedyBlocks W0 h1) rfl (Nat.le_of_ble_eq_true rfl) ⟨(Nat.le_of_ble_eq_true rfl), (Nat.le_of_ble_eq_true rfl)⟩ ⟨(Nat.le_of_ble_eq_true rfl), (Nat.le_of_ble_eq_true rfl)⟩ ?_ rfl
  exact ux_iretX C hr dX7_greedySet_10 h (Nat.le_of_ble_eq_true rfl) (Nat.le_of_ble_eq_true rfl)
set_option maxRecDepth 100000 in
set_option maxHeartbeats 4000000 in
theorem kX7_energyFor {l : Launch} {V : uV} (W0 : uWC l V) {p1 : Int32} {st : uSt} {r : Int32 ⊕ String} {s9 : uSt} (h : fX7_energyFor p1 st = some (r, s9)) : uMetX l V yX7_energyFor cX7_energyFor 3 (some .int) 6 107 1 6 [.ref (vA V 0), .int p1] st (xI r) s9 := by
  refine ux_metX W0.1 W0.2.1 (by decide) rfl (Nat.le_of_ble_eq_true rfl) (fun M hL hr C hT => ?_)
  subst hL
  have C : uCx M V cX7_energyFor 3 RX7 6 107 1 6 := C
  unfold fX7_energyFor at h
  refine ux_iload_n C dX7_energyFor_0 1 rfl ?_
  obtain ⟨j_1, hK_1, h⟩ := oj0_some h
  have hJ_1 : j_1 = some (r, s9) → uW M V (uEndX M V 1 6 (xI r) s9) 3 0 0 11 [] [] st := by
    intro h
    replace h := hK_1 h
    exact ux_throwSW C th_X7_energyFor_11 hT dX7_energyFor_11 dX7_energyFor_14 dX7_energyFor_15 dX7_energyFor_18 dX7_energyFor_21 (fun _ => rfl) h (Nat.le_of_ble_eq_true rfl) ⟨(Nat.le_of_ble_eq_true rfl), (Nat.le_of_ble_eq_true rfl)⟩ ⟨(Nat.le_of_ble_eq_true rfl), (Nat.le_of_ble_eq_true rfl)⟩ ⟨(Nat.le_of_ble_eq_true rfl), (Nat.le_of_ble_eq_true rfl)⟩
  refine ux_if_lt C dX7_energyFor_1 h (fun h => ?_) (fun h => ?_)
  · refine ux_sub [] rfl ?_
    exact hJ_1 h
  · refine ux_iload_n C dX7_energyFor_4 1 rfl ?_
    refine ux_sipush (v := 2376) C dX7_energyFor_5 (by decide) ?_
    refine ux_icmp_le C dX7_energyFor_8 h (fun h => ?_) (fun h => ?_)
    · refine ux_aload_n C dX7_energyFor_22 0 rfl ?_
      refine ux_get C fl_X7_44 dX7_energyFor_23 (oF W0) rfl ?_
      refine ux_aload_n C dX7_energyFor_26 0 rfl ?_
      refine ux_get C fl_X7_26 dX7_energyFor_27 (oF W0) rfl ?_
      refine ux_aload_n C dX7_energyFor_30 0 rfl ?_
      refine ux_get C fl_X7_26 dX7_energyFor_31 (oF W0) rfl ?_
      obtain ⟨x_2, h1, h⟩ := ob_some h
      refine ux_callVi C cv_X7_253 dX7_energyFor_34 (oState W0 kS_15) rfl (kX6_usableBlocks W0 kS_15 h1) rfl (Nat.le_of_ble_eq_true rfl) ⟨(Nat.le_of_ble_eq_true rfl), (Nat.le_of_ble_eq_true rfl)⟩ ⟨(Nat.le_of_ble_eq_true rfl), (Nat.le_of_ble_eq_true rfl)⟩ ?_ rfl
      refine ux_iload_n C dX7_energyFor_37 1 rfl ?_
      obtain ⟨x_4, st_3, h1, h⟩ := obS_some h
      refine ux_callVi C cv_X7_284 dX7_energyFor_38 (oSearch W0) rfl (kX4_leastEnergy W0 kS_15 h1) rfl (Nat.le_of_ble_eq_true rfl) ⟨(Nat.le_of_ble_eq_true rfl), (Nat.le_of_ble_eq_true rfl)⟩ ⟨(Nat.le_of_ble_eq_true rfl), (Nat.le_of_ble_eq_true rfl)⟩ ?_ rfl
      refine ux_istoreK_n C dX7_energyFor_41 rfl (by decide) ?_
      refine ux_iload_n C dX7_energyFor_42 0 rfl ?_
      refine ux_iconst (v := (-1)) C dX7_energyFor_43 (by decide) ?_
      refine ux_icmp_ne C dX7_energyFor_44 h (fun h => ?_) (fun h => ?_)
      · exact ux_throwNW C th_X7_energyFor_47 hT dX7_energyFor_47 dX7_energyFor_50 dX7_energyFor_51 dX7_energyFor_54 dX7_energyFor_57 (fun _ => rfl) h (Nat.le_of_ble_eq_true rfl) ⟨(Nat.le_of_ble_eq_true rfl), (Nat.le_of_ble_eq_true rfl)⟩ ⟨(Nat.le_of_ble_eq_true rfl), (Nat.le_of_ble_eq_true rfl)⟩ ⟨(Nat.le_of_ble_eq_true rfl), (Nat.le_of_ble_eq_true rfl)⟩
      · refine ux_iload_n C dX7_energyFor_58 0 rfl ?_
        exact ux_iretX C hr dX7_energyFor_59 h (Nat.le_of_ble_eq_true rfl) (Nat.le_of_ble_eq_true rfl)
    · refine ux_sub [] rfl ?_
      exact hJ_1 h
set_option maxRecDepth 100000 in
set_option maxHeartbeats 4000000 in
theorem kX7_extra {l : Launch} {V : uV} (W0 : uWC l V) {p1 : Int32} {st : uSt} {r : Int32 ⊕ String} {s9 : uSt} (h : fX7_extra p1 st = some (r, s9)) : uMetX l V yX7_extra cX7_extra 4 (some .int) 7 111 2 12 [.ref (vA V 0), .int p1] st (xI r) s9 := by
  refine ux_metX W0.1 W0.2.1 (by decide) rfl (Nat.le_of_ble_eq_true rfl) (fun M hL hr C hT => ?_)
  subst hL
  have C : uCx M V cX7_extra 4 RX7 7 111 2 12 := C
  unfold fX7_extra at h
  refine ux_aload_n C dX7_extra_0 0 rfl ?_
  refine ux_iload_n C dX7_extra_1 1 rfl ?_
  obtain ⟨x_1, st_2, h1, h⟩ := ox_some h
  refine ux_callVXv C cv_X7_186 dX7_extra_2 (oF W0) rfl (kX7_requireBlock W0 h1) rfl (Nat.le_of_ble_eq_true rfl) ⟨(Nat.le_of_ble_eq_true rfl), (Nat.le_of_ble_eq_true rfl)⟩ ⟨(Nat.le_of_ble_eq_true rfl), (Nat.le_of_ble_eq_true rfl)⟩ ⟨(Nat.le_of_ble_eq_true rfl), (Nat.le_of_ble_eq_true rfl)⟩ (fun _ => rfl) hT h (fun x_1 h => ?_) rfl
  refine ux_aload_n C dX7_extra_5 0 rfl ?_
  refine ux_get C fl_X7_26 dX7_extra_6 (oF W0) rfl ?_
  obtain ⟨x_3, h1, h⟩ := ob_some h
  refine ux_callVi C cv_X7_253 dX7_extra_9 (oState W0 kS_15) rfl (kX6_usableBlocks W0 kS_15 h1) rfl (Nat.le_of_ble_eq_true rfl) ⟨(Nat.le_of_ble_eq_true rfl), (Nat.le_of_ble_eq_true rfl)⟩ ⟨(Nat.le_of_ble_eq_true rfl), (Nat.le_of_ble_eq_true rfl)⟩ ?_ rfl
  refine ux_istoreK_n C dX7_extra_12 rfl (by decide) ?_
  refine ux_iload_n C dX7_extra_13 0 rfl ?_
  refine ux_iload_n C dX7_extra_14 2 rfl ?_
  refine ux_ishr C dX7_extra_15 ?_
  refine ux_iconst (v := 1) C dX7_extra_16 (by decide) ?_
  refine ux_iand C dX7_extra_17 ?_
  refine ux_if_ne C dX7_extra_18 h (fun h => ?_) (fun h => ?_)
  · exact ux_throwSW C th_X7_extra_21 hT dX7_extra_21 dX7_extra_24 dX7_extra_25 dX7_extra_28 dX7_extra_31 (fun _ => rfl) h (Nat.le_of_ble_eq_true rfl) ⟨(Nat.le_of_ble_eq_true rfl), (Nat.le_of_ble_eq_true rfl)⟩ ⟨(Nat.le_of_ble_eq_true rfl), (Nat.le_of_ble_eq_true rfl)⟩ ⟨(Nat.le_of_ble_eq_true rfl), (Nat.le_of_ble_eq_true rfl)⟩
  · refine ux_aload_n C dX7_extra_32 1 rfl ?_
    refine ux_get C fl_X7_44 dX7_extra_33 (oF W0) rfl ?_
    refine ux_aload_n C dX7_extra_36 1 rfl ?_
    refine ux_get C fl_X7_26 dX7_extra_37 (oF W0) rfl ?_
    refine ux_iload_n C dX7_extra_40 0 rfl ?_
    refine ux_aload_n C dX7_extra_41 1 rfl ?_
    refine ux_get C fl_X7_26 dX7_extra_42 (oF W0) rfl ?_
    refine ux_get C fl_X7_62 dX7_extra_45 (oState W0 kS_15) rfl ?_
    refine ux_get C fl_X7_68 dX7_extra_48 (oBat W0 (kS_bat kS_15)) rfl ?_
    obtain ⟨x_6, st_5, h1, h⟩ := obS_some h
    refine ux_callVi C cv_X7_256 dX7_extra_51 (oSearch W0) rfl (kX4_best W0 kS_15 h1) rfl (Nat.le_of_ble_eq_true rfl) ⟨(Nat.le_of_ble_eq_true rfl), (Nat.le_of_ble_eq_true rfl)⟩ ⟨(Nat.le_of_ble_eq_true rfl), (Nat.le_of_ble_eq_true rfl)⟩ ?_ rfl
    refine ux_istoreK_n C dX7_extra_54 rfl (by decide) ?_
    refine ux_aload_n C dX7_extra_55 2 rfl ?_
    refine ux_get C fl_X7_26 dX7_extra_56 (oF W0) rfl ?_
    refine ux_get C fl_X7_117 dX7_extra_59 (oState W0 kS_15) rfl ?_
    refine ux_aload_n C dX7_extra_62 2 rfl ?_
    refine ux_get C fl_X7_26 dX7_extra_63 (oF W0) rfl ?_
    refine ux_get C fl_X7_133 dX7_extra_66 (oState W0 kS_15) rfl ?_
    refine ux_iload_n C dX7_extra_69 0 rfl ?_
    refine ux_iconst (v := 1) C dX7_extra_70 (by decide) ?_
    refine ux_iload_n C dX7_extra_71 3 rfl ?_
    refine ux_ishl C dX7_extra_72 ?_
    refine ux_ior C dX7_extra_73 ?_
    obtain ⟨x_8, h1, h⟩ := ob_some h
    refine ux_callVi C cv_X7_182 dX7_extra_74 (oDev W0 (kS_dev kS_15)) rfl (kX2_energyIn W0 (kS_dev kS_15) (kS_cache kS_15) h1) rfl (Nat.le_of_ble_eq_true rfl) ⟨(Nat.le_of_ble_eq_true rfl), (Nat.le_of_ble_eq_true rfl)⟩ ⟨(Nat.le_of_ble_eq_true rfl), (Nat.le_of_ble_eq_true rfl)⟩ ?_ rfl
    refine ux_aload_n C dX7_extra_77 2 rfl ?_
    refine ux_get C fl_X7_26 dX7_extra_78 (oF W0) rfl ?_
    refine ux_get C fl_X7_117 dX7_extra_81 (oState W0 kS_15) rfl ?_
    refine ux_aload_n C dX7_extra_84 2 rfl ?_
    refine ux_get C fl_X7_26 dX7_extra_85 (oF W0) rfl ?_
    refine ux_get C fl_X7_133 dX7_extra_88 (oState W0 kS_15) rfl ?_
    refine ux_iload_n C dX7_extra_91 0 rfl ?_
    obtain ⟨x_9, h1, h⟩ := ob_some h
    refine ux_callVi C cv_X7_182 dX7_extra_92 (oDev W0 (kS_dev kS_15)) rfl (kX2_energyIn W0 (kS_dev kS_15) (kS_cache kS_15) h1) rfl (Nat.le_of_ble_eq_true rfl) ⟨(Nat.le_of_ble_eq_true rfl), (Nat.le_of_ble_eq_true rfl)⟩ ⟨(Nat.le_of_ble_eq_true rfl), (Nat.le_of_ble_eq_true rfl)⟩ ?_ rfl
    refine ux_isub C dX7_extra_95 ?_
    exact ux_iretX C hr dX7_extra_96 h (Nat.le_of_ble_eq_true rfl) (Nat.le_of_ble_eq_true rfl)
set_option maxRecDepth 100000 in
set_option maxHeartbeats 4000000 in
theorem wX7_minutesLeft_44 {M : uM} {V : uV} (W0 : uWC (mL M) V) (C : uCx M V cX7_minutesLeft 3 RX7 3 68 0 0) (hr : (mT M).sig.returnType = (some .int)) {l1 : Int32} {r : Int32} {s9 : uSt} {ke : uSt → Int32 → Option (Int32 × uSt)} (K : ∀ (st : uSt) (l2 : Int32), ke st l2 = some (r, s9) → uW M V (uEnd M V 0 0 (some (.int r)) s9) 3 0 0 77 [(2, .int l2)] [] st) : ∀ (n : Nat) (st : uSt) (l2 : Int32), fX7_minutesLeft_44 l1 ke n st l2 = some (r, s9) → uW M V (uEnd M V 0 0 (some (.int r)) s9) 3 0 0 44 [(0, .ref (vA V 0)), (1, .int l1), (2, .int l2)] [] st := by
  intro n
  induction n with
  | zero =>
    intro st l2 h
    rw [fX7_minutesLeft_44] at h
    cases h
  | succ n ih =>
    intro st l2 h
    rw [fX7_minutesLeft_44] at h
    refine ux_iload_n C dX7_minutesLeft_44 2 rfl ?_
    refine ux_sipush (v := 1000) C dX7_minutesLeft_45 (by decide) ?_
    refine ux_icmp_ge C dX7_minutesLeft_48 h (fun h => ?_) (fun h => ?_)
    · refine ux_sub [2] rfl ?_
      exact K st l2 h
    · refine ux_aload_n C dX7_minutesLeft_51 0 rfl ?_
      refine ux_get C fl_X7_51 dX7_minutesLeft_52 (oF W0) rfl ?_
      obtain ⟨st_5, h1, h⟩ := obV_some h
      refine ux_callVv C cv_X7_294 dX7_minutesLeft_55 (oBat W0 kB_9) rfl (kX0_drainForMinute W0 kB_9 h1) rfl (Nat.le_of_ble_eq_true rfl) ⟨(Nat.le_of_ble_eq_true rfl), (Nat.le_of_ble_eq_true rfl)⟩ ⟨(Nat.le_of_ble_eq_true rfl), (Nat.le_of_ble_eq_true rfl)⟩ ?_ rfl
      refine ux_aload_n C dX7_minutesLeft_58 0 rfl ?_
      refine ux_get C fl_X7_51 dX7_minutesLeft_59 (oF W0) rfl ?_
      refine ux_get C fl_X7_68 dX7_minutesLeft_62 (oBat W0 kB_9) rfl ?_
      refine ux_iload_n C dX7_minutesLeft_65 1 rfl ?_
      refine ux_icmp_ge C dX7_minutesLeft_66 h (fun h => ?_) (fun h => ?_)
      · refine ux_iincK C dX7_minutesLeft_71 (by decide) 2 rfl (fun z => [(2, .int z), (0, .ref (vA V 0)), (1, .int l1)]) (fun _ => rfl) (by decide) h (fun l2_6 h => ?_)
        refine ux_goto C dX7_minutesLeft_74 ?_
        refine ux_sub [1, 2, 0] rfl ?_
        exact ih _ _ h
      · refine ux_iload_n C dX7_minutesLeft_69 2 rfl ?_
        exact ux_iretS C hr dX7_minutesLeft_70 h (Nat.le_of_ble_eq_true rfl) (Nat.le_of_ble_eq_true rfl)
set_option maxRecDepth 100000 in
set_option maxHeartbeats 4000000 in
theorem kX7_minutesLeft {l : Launch} {V : uV} (W0 : uWC l V) {st : uSt} {r : Int32} {s9 : uSt} (h : fX7_minutesLeft st = some (r, s9)) : uMet l V yX7_minutesLeft cX7_minutesLeft 3 (some .int) 3 68 0 0 [.ref (vA V 0)] st (some (.int r)) s9 := by
  refine ux_met W0.1 W0.2.1 (by decide) rfl (Nat.le_of_ble_eq_true rfl) (fun M hL hr C => ?_)
  subst hL
  have C : uCx M V cX7_minutesLeft 3 RX7 3 68 0 0 := C
  unfold fX7_minutesLeft at h
  refine ux_aload_n C dX7_minutesLeft_0 0 rfl ?_
  refine ux_get C fl_X7_26 dX7_minutesLeft_1 (oF W0) rfl ?_
  obtain ⟨x_1, h1, h⟩ := ob_some h
  refine ux_callVi C cv_X7_265 dX7_minutesLeft_4 (oState W0 kS_15) rfl (kX6_neededEnergy W0 kS_15 h1) rfl (Nat.le_of_ble_eq_true rfl) ⟨(Nat.le_of_ble_eq_true rfl), (Nat.le_of_ble_eq_true rfl)⟩ ⟨(Nat.le_of_ble_eq_true rfl), (Nat.le_of_ble_eq_true rfl)⟩ ?_ rfl
  refine ux_istoreK_n C dX7_minutesLeft_7 rfl (by decide) ?_
  refine ux_iload_n C dX7_minutesLeft_8 0 rfl ?_
  refine ux_if_eq C dX7_minutesLeft_9 h (fun h => ?_) (fun h => ?_)
  · refine ux_iconst (v := (-1)) C dX7_minutesLeft_26 (by decide) ?_
    exact ux_iretS C hr dX7_minutesLeft_27 h (Nat.le_of_ble_eq_true rfl) (Nat.le_of_ble_eq_true rfl)
  · refine ux_iload_n C dX7_minutesLeft_12 0 rfl ?_
    refine ux_aload_n C dX7_minutesLeft_13 1 rfl ?_
    refine ux_get C fl_X7_26 dX7_minutesLeft_14 (oF W0) rfl ?_
    refine ux_get C fl_X7_62 dX7_minutesLeft_17 (oState W0 kS_15) rfl ?_
    refine ux_get C fl_X7_68 dX7_minutesLeft_20 (oBat W0 (kS_bat kS_15)) rfl ?_
    refine ux_icmp_le C dX7_minutesLeft_23 h (fun h => ?_) (fun h => ?_)
    · refine ux_aload_n C dX7_minutesLeft_28 1 rfl ?_
      refine ux_get C fl_X7_51 dX7_minutesLeft_29 (oF W0) rfl ?_
      refine ux_aload_n C dX7_minutesLeft_32 1 rfl ?_
      refine ux_get C fl_X7_26 dX7_minutesLeft_33 (oF W0) rfl ?_
      refine ux_get C fl_X7_62 dX7_minutesLeft_36 (oState W0 kS_15) rfl ?_
      obtain ⟨st_3, h1, h⟩ := obV_some h
      refine ux_callVv C cv_X7_291 dX7_minutesLeft_39 (oBat W0 kB_9) rfl (kX0_copyFrom W0 kB_9 (kS_bat kS_15) h1) rfl (Nat.le_of_ble_eq_true rfl) ⟨(Nat.le_of_ble_eq_true rfl), (Nat.le_of_ble_eq_true rfl)⟩ ⟨(Nat.le_of_ble_eq_true rfl), (Nat.le_of_ble_eq_true rfl)⟩ ?_ rfl
      refine ux_iconst (v := 0) C dX7_minutesLeft_42 (by decide) ?_
      refine ux_istoreK_n C dX7_minutesLeft_43 rfl (by decide) ?_
      refine ux_sub [2, 1, 0] rfl ?_
      refine wX7_minutesLeft_44 W0 C hr (fun st_8 l2_7 h => ?_) _ _ _ h
      refine ux_iload_n C dX7_minutesLeft_77 0 rfl ?_
      exact ux_iretS C hr dX7_minutesLeft_78 h (Nat.le_of_ble_eq_true rfl) (Nat.le_of_ble_eq_true rfl)
    · refine ux_iconst (v := (-1)) C dX7_minutesLeft_26 (by decide) ?_
      exact ux_iretS C hr dX7_minutesLeft_27 h (Nat.le_of_ble_eq_true rfl) (Nat.le_of_ble_eq_true rfl)
set_option maxRecDepth 100000 in
set_option maxHeartbeats 4000000 in
theorem wX7_valueAfter_37 {M : uM} {V : uV} (W0 : uWC (mL M) V) (C : uCx M V cX7_valueAfter 3 RX7 6 132 1 6) (hr : (mT M).sig.returnType = (some .int)) (hT : ∀ x ∈ (mC M).exceptionTable.toList, False) {l1 : Int32} {r : Int32 ⊕ String} {s9 : uSt} {ke : uSt → Option ((Int32 ⊕ String) × uSt)} (K : ∀ (st : uSt), ke st = some (r, s9) → uW M V (uEndX M V 1 6 (xI r) s9) 3 0 0 55 [(0, .ref (vA V 0))] [] st) : ∀ (n : Nat) (st : uSt) (l2 : Int32), fX7_valueAfter_37 l1 ke n st l2 = some (r, s9) → uW M V (uEndX M V 1 6 (xI r) s9) 3 0 0 37 [(0, .ref (vA V 0)), (1, .int l1), (2, .int l2)] [] st := by
  intro n
  induction n with
  | zero =>
    intro st l2 h
    rw [fX7_valueAfter_37] at h
    cases h
  | succ n ih =>
    intro st l2 h
    rw [fX7_valueAfter_37] at h
    refine ux_iload_n C dX7_valueAfter_37 2 rfl ?_
    refine ux_iload_n C dX7_valueAfter_38 1 rfl ?_
    refine ux_icmp_ge C dX7_valueAfter_39 h (fun h => ?_) (fun h => ?_)
    · refine ux_sub [0] rfl ?_
      exact K st h
    · refine ux_aload_n C dX7_valueAfter_42 0 rfl ?_
      refine ux_get C fl_X7_51 dX7_valueAfter_43 (oF W0) rfl ?_
      obtain ⟨st_4, h1, h⟩ := obV_some h
      refine ux_callVv C cv_X7_294 dX7_valueAfter_46 (oBat W0 kB_9) rfl (kX0_drainForMinute W0 kB_9 h1) rfl (Nat.le_of_ble_eq_true rfl) ⟨(Nat.le_of_ble_eq_true rfl), (Nat.le_of_ble_eq_true rfl)⟩ ⟨(Nat.le_of_ble_eq_true rfl), (Nat.le_of_ble_eq_true rfl)⟩ ?_ rfl
      refine ux_iincK C dX7_valueAfter_49 (by decide) 2 rfl (fun z => [(2, .int z), (0, .ref (vA V 0)), (1, .int l1)]) (fun _ => rfl) (by decide) h (fun l2_5 h => ?_)
      refine ux_goto C dX7_valueAfter_52 ?_
      refine ux_sub [1, 2, 0] rfl ?_
      exact ih _ _ h
set_option maxRecDepth 100000 in
set_option maxHeartbeats 4000000 in
theorem kX7_valueAfter {l : Launch} {V : uV} (W0 : uWC l V) {p1 : Int32} {st : uSt} {r : Int32 ⊕ String} {s9 : uSt} (h : fX7_valueAfter p1 st = some (r, s9)) : uMetX l V yX7_valueAfter cX7_valueAfter 3 (some .int) 6 132 1 6 [.ref (vA V 0), .int p1] st (xI r) s9 := by
  refine ux_metX W0.1 W0.2.1 (by decide) rfl (Nat.le_of_ble_eq_true rfl) (fun M hL hr C hT => ?_)
  subst hL
  have C : uCx M V cX7_valueAfter 3 RX7 6 132 1 6 := C
  unfold fX7_valueAfter at h
  refine ux_iload_n C dX7_valueAfter_0 1 rfl ?_
  obtain ⟨j_1, hK_1, h⟩ := oj0_some h
  have hJ_1 : j_1 = some (r, s9) → uW M V (uEndX M V 1 6 (xI r) s9) 3 0 0 11 [] [] st := by
    intro h
    replace h := hK_1 h
    exact ux_throwS C th_X7_valueAfter_11 hT dX7_valueAfter_11 dX7_valueAfter_14 dX7_valueAfter_15 dX7_valueAfter_17 dX7_valueAfter_20 (fun _ => rfl) h (Nat.le_of_ble_eq_true rfl) ⟨(Nat.le_of_ble_eq_true rfl), (Nat.le_of_ble_eq_true rfl)⟩ ⟨(Nat.le_of_ble_eq_true rfl), (Nat.le_of_ble_eq_true rfl)⟩ ⟨(Nat.le_of_ble_eq_true rfl), (Nat.le_of_ble_eq_true rfl)⟩
  refine ux_if_lt C dX7_valueAfter_1 h (fun h => ?_) (fun h => ?_)
  · refine ux_sub [] rfl ?_
    exact hJ_1 h
  · refine ux_iload_n C dX7_valueAfter_4 1 rfl ?_
    refine ux_sipush (v := 1000) C dX7_valueAfter_5 (by decide) ?_
    refine ux_icmp_le C dX7_valueAfter_8 h (fun h => ?_) (fun h => ?_)
    · refine ux_aload_n C dX7_valueAfter_21 0 rfl ?_
      refine ux_get C fl_X7_51 dX7_valueAfter_22 (oF W0) rfl ?_
      refine ux_aload_n C dX7_valueAfter_25 0 rfl ?_
      refine ux_get C fl_X7_26 dX7_valueAfter_26 (oF W0) rfl ?_
      refine ux_get C fl_X7_62 dX7_valueAfter_29 (oState W0 kS_15) rfl ?_
      obtain ⟨st_2, h1, h⟩ := obV_some h
      refine ux_callVv C cv_X7_291 dX7_valueAfter_32 (oBat W0 kB_9) rfl (kX0_copyFrom W0 kB_9 (kS_bat kS_15) h1) rfl (Nat.le_of_ble_eq_true rfl) ⟨(Nat.le_of_ble_eq_true rfl), (Nat.le_of_ble_eq_true rfl)⟩ ⟨(Nat.le_of_ble_eq_true rfl), (Nat.le_of_ble_eq_true rfl)⟩ ?_ rfl
      refine ux_iconst (v := 0) C dX7_valueAfter_35 (by decide) ?_
      refine ux_istoreK_n C dX7_valueAfter_36 rfl (by decide) ?_
      refine ux_sub [1, 2, 0] rfl ?_
      refine wX7_valueAfter_37 W0 C hr hT (fun st_6 h => ?_) _ _ _ h
      refine ux_aload_n C dX7_valueAfter_55 0 rfl ?_
      refine ux_aload_n C dX7_valueAfter_56 0 rfl ?_
      refine ux_get C fl_X7_26 dX7_valueAfter_57 (oF W0) rfl ?_
      obtain ⟨x_7, h1, h⟩ := ob_some h
      refine ux_callVi C cv_X7_253 dX7_valueAfter_60 (oState W0 kS_15) rfl (kX6_usableBlocks W0 kS_15 h1) rfl (Nat.le_of_ble_eq_true rfl) ⟨(Nat.le_of_ble_eq_true rfl), (Nat.le_of_ble_eq_true rfl)⟩ ⟨(Nat.le_of_ble_eq_true rfl), (Nat.le_of_ble_eq_true rfl)⟩ ?_ rfl
      refine ux_aload_n C dX7_valueAfter_63 0 rfl ?_
      refine ux_get C fl_X7_51 dX7_valueAfter_64 (oF W0) rfl ?_
      refine ux_get C fl_X7_68 dX7_valueAfter_67 (oBat W0 kB_9) rfl ?_
      obtain ⟨x_9, st_8, h1, h⟩ := obS_some h
      refine ux_callVi C cv_X7_274 dX7_valueAfter_70 (oF W0) rfl (kX7_valueFor W0 h1) rfl (Nat.le_of_ble_eq_true rfl) ⟨(Nat.le_of_ble_eq_true rfl), (Nat.le_of_ble_eq_true rfl)⟩ ⟨(Nat.le_of_ble_eq_true rfl), (Nat.le_of_ble_eq_true rfl)⟩ ?_ rfl
      exact ux_iretX C hr dX7_valueAfter_73 h (Nat.le_of_ble_eq_true rfl) (Nat.le_of_ble_eq_true rfl)
    · refine ux_sub [] rfl ?_
      exact hJ_1 h
set_option maxRecDepth 100000 in
set_option maxHeartbeats 4000000 in
theorem kX7_minutesToSafety {l : Launch} {V : uV} (W0 : uWC l V) {st : uSt} {r : Int32} (h : fX7_minutesToSafety st = some r) : uMet l V yX7_minutesToSafety cX7_minutesToSafety 4 (some .int) 3 68 0 0 [.ref (vA V 0)] st (some (.int r)) st := by
  refine ux_met W0.1 W0.2.1 (by decide) rfl (Nat.le_of_ble_eq_true rfl) (fun M hL hr C => ?_)
  subst hL
  have C : uCx M V cX7_minutesToSafety 4 RX7 3 68 0 0 := C
  unfold fX7_minutesToSafety at h
  refine ux_aload_n C dX7_minutesToSafety_0 0 rfl ?_
  refine ux_get C fl_X7_26 dX7_minutesToSafety_1 (oF W0) rfl ?_
  obtain ⟨x_1, h1, h⟩ := ob_some h
  refine ux_callVi C cv_X7_265 dX7_minutesToSafety_4 (oState W0 kS_15) rfl (kX6_neededEnergy W0 kS_15 h1) rfl (Nat.le_of_ble_eq_true rfl) ⟨(Nat.le_of_ble_eq_true rfl), (Nat.le_of_ble_eq_true rfl)⟩ ⟨(Nat.le_of_ble_eq_true rfl), (Nat.le_of_ble_eq_true rfl)⟩ ?_ rfl
  refine ux_aload_n C dX7_minutesToSafety_7 0 rfl ?_
  refine ux_get C fl_X7_26 dX7_minutesToSafety_8 (oF W0) rfl ?_
  refine ux_get C fl_X7_137 dX7_minutesToSafety_11 (oState W0 kS_15) rfl ?_
  refine ux_get C fl_X7_297 dX7_minutesToSafety_14 (oRules W0 (kS_rules kS_15)) rfl ?_
  refine ux_iadd C dX7_minutesToSafety_17 ?_
  refine ux_istore_n C dX7_minutesToSafety_18 (fun z => [(1, .int z), (0, .ref (vA V 0))]) (fun _ => rfl) (by decide) h (fun l1_2 h => ?_)
  refine ux_iload_n C dX7_minutesToSafety_19 0 rfl ?_
  refine ux_aload_n C dX7_minutesToSafety_20 1 rfl ?_
  refine ux_get C fl_X7_26 dX7_minutesToSafety_21 (oF W0) rfl ?_
  refine ux_get C fl_X7_62 dX7_minutesToSafety_24 (oState W0 kS_15) rfl ?_
  refine ux_get C fl_X7_68 dX7_minutesToSafety_27 (oBat W0 (kS_bat kS_15)) rfl ?_
  refine ux_isub C dX7_minutesToSafety_30 ?_
  refine ux_istore_n C dX7_minutesToSafety_31 (fun z => [(2, .int z), (1, .int l1_2), (0, .ref (vA V 0))]) (fun _ => rfl) (by decide) h (fun l2_3 h => ?_)
  refine ux_iload_n C dX7_minutesToSafety_32 0 rfl ?_
  refine ux_if_gt C dX7_minutesToSafety_33 h (fun h => ?_) (fun h => ?_)
  · refine ux_aload_n C dX7_minutesToSafety_38 2 rfl ?_
    refine ux_get C fl_X7_26 dX7_minutesToSafety_39 (oF W0) rfl ?_
    refine ux_get C fl_X7_62 dX7_minutesToSafety_42 (oState W0 kS_15) rfl ?_
    refine ux_get C fl_X7_71 dX7_minutesToSafety_45 (oBat W0 (kS_bat kS_15)) rfl ?_
    refine ux_istore_n C dX7_minutesToSafety_48 (fun z => [(3, .int z), (2, .int l2_3), (1, .int l1_2), (0, .ref (vA V 0))]) (fun _ => rfl) (by decide) h (fun l3_4 h => ?_)
    refine ux_iload_n C dX7_minutesToSafety_49 0 rfl ?_
    refine ux_if_le C dX7_minutesToSafety_50 h (fun h => ?_) (fun h => ?_)
    · refine ux_iconst (v := (-1)) C dX7_minutesToSafety_67 (by decide) ?_
      exact ux_iret C hr dX7_minutesToSafety_68 h (Nat.le_of_ble_eq_true rfl) (Nat.le_of_ble_eq_true rfl)
    · refine ux_iload_n C dX7_minutesToSafety_53 2 rfl ?_
      refine ux_aload_n C dX7_minutesToSafety_54 3 rfl ?_
      refine ux_get C fl_X7_26 dX7_minutesToSafety_55 (oF W0) rfl ?_
      refine ux_get C fl_X7_62 dX7_minutesToSafety_58 (oState W0 kS_15) rfl ?_
      refine ux_get C fl_X7_65 dX7_minutesToSafety_61 (oBat W0 (kS_bat kS_15)) rfl ?_
      refine ux_icmp_le C dX7_minutesToSafety_64 h (fun h => ?_) (fun h => ?_)
      · refine ux_iload_n C dX7_minutesToSafety_69 1 rfl ?_
        refine ux_iload_n C dX7_minutesToSafety_70 0 rfl ?_
        refine ux_iadd C dX7_minutesToSafety_71 ?_
        refine ux_iconst (v := 1) C dX7_minutesToSafety_72 (by decide) ?_
        refine ux_isub C dX7_minutesToSafety_73 ?_
        refine ux_iload_n C dX7_minutesToSafety_74 0 rfl ?_
        refine ux_idiv C dX7_minutesToSafety_75 h (fun h => ?_)
        exact ux_iret C hr dX7_minutesToSafety_76 h (Nat.le_of_ble_eq_true rfl) (Nat.le_of_ble_eq_true rfl)
      · refine ux_iconst (v := (-1)) C dX7_minutesToSafety_67 (by decide) ?_
        exact ux_iret C hr dX7_minutesToSafety_68 h (Nat.le_of_ble_eq_true rfl) (Nat.le_of_ble_eq_true rfl)
  · refine ux_iconst (v := 0) C dX7_minutesToSafety_36 (by decide) ?_
    exact ux_iret C hr dX7_minutesToSafety_37 h (Nat.le_of_ble_eq_true rfl) (Nat.le_of_ble_eq_true rfl)
set_option maxRecDepth 100000 in
set_option maxHeartbeats 4000000 in
theorem kX7_gainOfRepair {l : Launch} {V : uV} (W0 : uWC l V) {p1 : Int32} {st : uSt} {r : Int32 ⊕ String} {s9 : uSt} (h : fX7_gainOfRepair p1 st = some (r, s9)) : uMetX l V yX7_gainOfRepair cX7_gainOfRepair 4 (some .int) 7 132 1 6 [.ref (vA V 0), .int p1] st (xI r) s9 := by
  refine ux_metX W0.1 W0.2.1 (by decide) rfl (Nat.le_of_ble_eq_true rfl) (fun M hL hr C hT => ?_)
  subst hL
  have C : uCx M V cX7_gainOfRepair 4 RX7 7 132 1 6 := C
  unfold fX7_gainOfRepair at h
  refine ux_aload_n C dX7_gainOfRepair_0 0 rfl ?_
  refine ux_iload_n C dX7_gainOfRepair_1 1 rfl ?_
  obtain ⟨x_1, st_2, h1, h⟩ := ox_some h
  refine ux_callVXv C cv_X7_154 dX7_gainOfRepair_2 (oF W0) rfl (kX7_requireDevice W0 h1) rfl (Nat.le_of_ble_eq_true rfl) ⟨(Nat.le_of_ble_eq_true rfl), (Nat.le_of_ble_eq_true rfl)⟩ ⟨(Nat.le_of_ble_eq_true rfl), (Nat.le_of_ble_eq_true rfl)⟩ ⟨(Nat.le_of_ble_eq_true rfl), (Nat.le_of_ble_eq_true rfl)⟩ (fun _ => rfl) hT h (fun x_1 h => ?_) rfl
  refine ux_aload_n C dX7_gainOfRepair_5 0 rfl ?_
  refine ux_get C fl_X7_26 dX7_gainOfRepair_6 (oF W0) rfl ?_
  refine ux_get C fl_X7_117 dX7_gainOfRepair_9 (oState W0 kS_15) rfl ?_
  refine ux_get C fl_X7_171 dX7_gainOfRepair_12 (oDev W0 (kS_dev kS_15)) rfl ?_
  refine ux_iload_n C dX7_gainOfRepair_15 1 rfl ?_
  refine ux_zald C (aDev4 W0 (kS_dev kS_15)) dX7_gainOfRepair_16 h (fun h => ?_)
  refine ux_if_ne C dX7_gainOfRepair_17 h (fun h => ?_) (fun h => ?_)
  · refine ux_iconst (v := 0) C dX7_gainOfRepair_20 (by decide) ?_
    exact ux_iretX C hr dX7_gainOfRepair_21 h (Nat.le_of_ble_eq_true rfl) (Nat.le_of_ble_eq_true rfl)
  · refine ux_aload_n C dX7_gainOfRepair_22 0 rfl ?_
    refine ux_get C fl_X7_26 dX7_gainOfRepair_23 (oF W0) rfl ?_
    obtain ⟨x_3, h1, h⟩ := ob_some h
    refine ux_callVi C cv_X7_253 dX7_gainOfRepair_26 (oState W0 kS_15) rfl (kX6_usableBlocks W0 kS_15 h1) rfl (Nat.le_of_ble_eq_true rfl) ⟨(Nat.le_of_ble_eq_true rfl), (Nat.le_of_ble_eq_true rfl)⟩ ⟨(Nat.le_of_ble_eq_true rfl), (Nat.le_of_ble_eq_true rfl)⟩ ?_ rfl
    refine ux_istoreK_n C dX7_gainOfRepair_29 rfl (by decide) ?_
    refine ux_iload_n C dX7_gainOfRepair_30 0 rfl ?_
    refine ux_aload_n C dX7_gainOfRepair_31 1 rfl ?_
    refine ux_get C fl_X7_26 dX7_gainOfRepair_32 (oF W0) rfl ?_
    refine ux_get C fl_X7_133 dX7_gainOfRepair_35 (oState W0 kS_15) rfl ?_
    refine ux_iload_n C dX7_gainOfRepair_38 2 rfl ?_
    obtain ⟨x_5, h1, h⟩ := ob_some h
    refine ux_callVi C cv_X7_157 dX7_gainOfRepair_39 (oCache W0 (kS_cache kS_15)) rfl (kX1_blocksOn W0 (kS_cache kS_15) h1) rfl (Nat.le_of_ble_eq_true rfl) ⟨(Nat.le_of_ble_eq_true rfl), (Nat.le_of_ble_eq_true rfl)⟩ ⟨(Nat.le_of_ble_eq_true rfl), (Nat.le_of_ble_eq_true rfl)⟩ ?_ rfl
    refine ux_ior C dX7_gainOfRepair_42 ?_
    refine ux_istore_n C dX7_gainOfRepair_43 (fun z => [(3, .int z), (2, .int x_3), (0, .ref (vA V 0)), (1, .int p1)]) (fun _ => rfl) (by decide) h (fun l3_6 h => ?_)
    refine ux_aload_n C dX7_gainOfRepair_44 2 rfl ?_
    refine ux_iload_n C dX7_gainOfRepair_45 0 rfl ?_
    refine ux_aload_n C dX7_gainOfRepair_46 2 rfl ?_
    refine ux_get C fl_X7_26 dX7_gainOfRepair_47 (oF W0) rfl ?_
    refine ux_get C fl_X7_62 dX7_gainOfRepair_50 (oState W0 kS_15) rfl ?_
    refine ux_get C fl_X7_68 dX7_gainOfRepair_53 (oBat W0 (kS_bat kS_15)) rfl ?_
    obtain ⟨x_8, st_7, h1, h⟩ := obS_some h
    refine ux_callVi C cv_X7_274 dX7_gainOfRepair_56 (oF W0) rfl (kX7_valueFor W0 h1) rfl (Nat.le_of_ble_eq_true rfl) ⟨(Nat.le_of_ble_eq_true rfl), (Nat.le_of_ble_eq_true rfl)⟩ ⟨(Nat.le_of_ble_eq_true rfl), (Nat.le_of_ble_eq_true rfl)⟩ ?_ rfl
    refine ux_aload_n C dX7_gainOfRepair_59 2 rfl ?_
    refine ux_iload_n C dX7_gainOfRepair_60 1 rfl ?_
    refine ux_aload_n C dX7_gainOfRepair_61 2 rfl ?_
    refine ux_get C fl_X7_26 dX7_gainOfRepair_62 (oF W0) rfl ?_
    refine ux_get C fl_X7_62 dX7_gainOfRepair_65 (oState W0 kS_15) rfl ?_
    refine ux_get C fl_X7_68 dX7_gainOfRepair_68 (oBat W0 (kS_bat kS_15)) rfl ?_
    obtain ⟨x_10, st_9, h1, h⟩ := obS_some h
    refine ux_callVi C cv_X7_274 dX7_gainOfRepair_71 (oF W0) rfl (kX7_valueFor W0 h1) rfl (Nat.le_of_ble_eq_true rfl) ⟨(Nat.le_of_ble_eq_true rfl), (Nat.le_of_ble_eq_true rfl)⟩ ⟨(Nat.le_of_ble_eq_true rfl), (Nat.le_of_ble_eq_true rfl)⟩ ?_ rfl
    refine ux_isub C dX7_gainOfRepair_74 ?_
    exact ux_iretX C hr dX7_gainOfRepair_75 h (Nat.le_of_ble_eq_true rfl) (Nat.le_of_ble_eq_true rfl)
set_option maxRecDepth 100000 in
set_option maxHeartbeats 4000000 in
theorem wX7_costliest_9 {M : uM} {V : uV} (W0 : uWC (mL M) V) (C : uCx M V cX7_costliest 8 RX7 6 90 1 6) (hr : (mT M).sig.returnType = (some .int)) (hT : ∀ x ∈ (mC M).exceptionTable.toList, False) {st : uSt} {r : Int32 ⊕ String} {s9 : uSt} {ke : Int32 → Option ((Int32 ⊕ String) × uSt)} (K : ∀ (l1 : Int32), ke l1 = some (r, s9) → uW M V (uEndX M V 1 6 (xI r) s9) 8 0 0 123 [(1, .int l1)] [] st) : ∀ (n : Nat) (l1 : Int32) (l2 : Int32) (l3 : Int32) (l4 : Int32), fX7_costliest_9 st ke n l1 l2 l3 l4 = some (r, s9) → uW M V (uEndX M V 1 6 (xI r) s9) 8 0 0 9 [(0, .ref (vA V 0)), (1, .int l1), (2, .int l2), (3, .int l3), (4, .int l4)] [] st := by
  intro n
  induction n with
  | zero =>
    intro l1 l2 l3 l4 h
    rw [fX7_costliest_9] at h
    cases h
  | succ n ih =>
    intro l1 l2 l3 l4 h
    rw [fX7_costliest_9] at h
    refine ux_iload C dX7_costliest_9 4 rfl ?_
    refine ux_aload_n C dX7_costliest_11 0 rfl ?_
    refine ux_get C fl_X7_26 dX7_costliest_12 (oF W0) rfl ?_
    refine ux_get C fl_X7_117 dX7_costliest_15 (oState W0 kS_15) rfl ?_
    refine ux_get C fl_X7_121 dX7_costliest_18 (oDev W0 (kS_dev kS_15)) rfl ?_
    refine ux_icmp_ge C dX7_costliest_21 h (fun h => ?_) (fun h => ?_)
    · refine ux_sub [1] rfl ?_
      exact K l1 h
    · refine ux_aload_n C dX7_costliest_24 0 rfl ?_
      refine ux_get C fl_X7_26 dX7_costliest_25 (oF W0) rfl ?_
      refine ux_get C fl_X7_133 dX7_costliest_28 (oState W0 kS_15) rfl ?_
      refine ux_iload C dX7_costliest_31 4 rfl ?_
      obtain ⟨x_5, h1, h⟩ := ob_some h
      refine ux_callVi C cv_X7_157 dX7_costliest_33 (oCache W0 (kS_cache kS_15)) rfl (kX1_blocksOn W0 (kS_cache kS_15) h1) rfl (Nat.le_of_ble_eq_true rfl) ⟨(Nat.le_of_ble_eq_true rfl), (Nat.le_of_ble_eq_true rfl)⟩ ⟨(Nat.le_of_ble_eq_true rfl), (Nat.le_of_ble_eq_true rfl)⟩ ?_ rfl
      refine ux_istoreK C dX7_costliest_36 rfl (by decide) ?_
      refine ux_iload C dX7_costliest_38 0 rfl ?_
      refine ux_if_eq C dX7_costliest_40 h (fun h => ?_) (fun h => ?_)
      · refine ux_iincK C dX7_costliest_117 (by decide) 5 rfl (fun z => [(4, .int z), (5, .int x_5), (0, .ref (vA V 0)), (1, .int l1), (2, .int l2), (3, .int l3)]) (fun _ => rfl) (by decide) h (fun l4_7 h => ?_)
        refine ux_goto C dX7_costliest_120 ?_
        refine ux_sub [2, 3, 4, 5, 0] rfl ?_
        exact ih _ _ _ _ h
      · refine ux_aload_n C dX7_costliest_43 1 rfl ?_
        refine ux_get C fl_X7_26 dX7_costliest_44 (oF W0) rfl ?_
        refine ux_get C fl_X7_117 dX7_costliest_47 (oState W0 kS_15) rfl ?_
        refine ux_get C fl_X7_171 dX7_costliest_50 (oDev W0 (kS_dev kS_15)) rfl ?_
        refine ux_iload C dX7_costliest_53 5 rfl ?_
        refine ux_zald C (aDev4 W0 (kS_dev kS_15)) dX7_costliest_55 h (fun h => ?_)
        refine ux_if_eq C dX7_costliest_56 h (fun h => ?_) (fun h => ?_)
        · refine ux_aload_n C dX7_costliest_62 1 rfl ?_
          refine ux_get C fl_X7_26 dX7_costliest_63 (oF W0) rfl ?_
          refine ux_get C fl_X7_117 dX7_costliest_66 (oState W0 kS_15) rfl ?_
          refine ux_aload_n C dX7_costliest_69 1 rfl ?_
          refine ux_get C fl_X7_26 dX7_costliest_70 (oF W0) rfl ?_
          refine ux_get C fl_X7_133 dX7_costliest_73 (oState W0 kS_15) rfl ?_
          refine ux_iload C dX7_costliest_76 0 rfl ?_
          obtain ⟨x_8, h1, h⟩ := ob_some h
          refine ux_callVi C cv_X7_182 dX7_costliest_78 (oDev W0 (kS_dev kS_15)) rfl (kX2_energyIn W0 (kS_dev kS_15) (kS_cache kS_15) h1) rfl (Nat.le_of_ble_eq_true rfl) ⟨(Nat.le_of_ble_eq_true rfl), (Nat.le_of_ble_eq_true rfl)⟩ ⟨(Nat.le_of_ble_eq_true rfl), (Nat.le_of_ble_eq_true rfl)⟩ ?_ rfl
          refine ux_istoreK C dX7_costliest_81 rfl (by decide) ?_
          refine ux_aload_n C dX7_costliest_83 2 rfl ?_
          refine ux_get C fl_X7_26 dX7_costliest_84 (oF W0) rfl ?_
          refine ux_get C fl_X7_133 dX7_costliest_87 (oState W0 kS_15) rfl ?_
          refine ux_iload C dX7_costliest_90 1 rfl ?_
          obtain ⟨x_10, h1, h⟩ := ob_some h
          refine ux_callVi C cv_X7_179 dX7_costliest_92 (oCache W0 (kS_cache kS_15)) rfl (kX1_valueIn W0 (kS_cache kS_15) h1) rfl (Nat.le_of_ble_eq_true rfl) ⟨(Nat.le_of_ble_eq_true rfl), (Nat.le_of_ble_eq_true rfl)⟩ ⟨(Nat.le_of_ble_eq_true rfl), (Nat.le_of_ble_eq_true rfl)⟩ ?_ rfl
          refine ux_istoreK C dX7_costliest_95 rfl (by decide) ?_
          refine ux_iload C dX7_costliest_97 1 rfl ?_
          refine ux_iload_n C dX7_costliest_99 6 rfl ?_
          refine ux_imul C dX7_costliest_100 ?_
          refine ux_iload_n C dX7_costliest_101 5 rfl ?_
          refine ux_iload C dX7_costliest_102 0 rfl ?_
          refine ux_imul C dX7_costliest_104 ?_
          refine ux_icmp_le C dX7_costliest_105 h (fun h => ?_) (fun h => ?_)
          · refine ux_iincK C dX7_costliest_117 (by decide) 7 rfl (fun z => [(4, .int z), (7, .int x_10), (6, .int x_8), (5, .int x_5), (0, .ref (vA V 0)), (1, .int l1), (2, .int l2), (3, .int l3)]) (fun _ => rfl) (by decide) h (fun l4_12 h => ?_)
            refine ux_goto C dX7_costliest_120 ?_
            refine ux_sub [4, 5, 6, 7, 0] rfl ?_
            exact ih _ _ _ _ h
          · refine ux_iload C dX7_costliest_108 7 rfl ?_
            refine ux_istoreK_n C dX7_costliest_110 rfl (by decide) ?_
            refine ux_iload C dX7_costliest_111 2 rfl ?_
            refine ux_istoreK_n C dX7_costliest_113 rfl (by decide) ?_
            refine ux_iload C dX7_costliest_114 2 rfl ?_
            refine ux_istoreK_n C dX7_costliest_116 rfl (by decide) ?_
            refine ux_iincK C dX7_costliest_117 (by decide) 7 rfl (fun z => [(4, .int z), (3, .int x_10), (2, .int x_8), (1, .int l4), (7, .int x_10), (6, .int x_8), (5, .int x_5), (0, .ref (vA V 0))]) (fun _ => rfl) (by decide) h (fun l4_16 h => ?_)
            refine ux_goto C dX7_costliest_120 ?_
            refine ux_sub [7, 3, 2, 1, 0] rfl ?_
            exact ih _ _ _ _ h
        · refine ux_goto C dX7_costliest_59 ?_
          refine ux_iincK C dX7_costliest_117 (by decide) 5 rfl (fun z => [(4, .int z), (5, .int x_5), (0, .ref (vA V 0)), (1, .int l1), (2, .int l2), (3, .int l3)]) (fun _ => rfl) (by decide) h (fun l4_17 h => ?_)
          refine ux_goto C dX7_costliest_120 ?_
          refine ux_sub [2, 3, 4, 5, 0] rfl ?_
          exact ih _ _ _ _ h
set_option maxRecDepth 100000 in
set_option maxHeartbeats 4000000 in
theorem kX7_costliest {l : Launch} {V : uV} (W0 : uWC l V) {st : uSt} {r : Int32 ⊕ String} {s9 : uSt} (h : fX7_costliest st = some (r, s9)) : uMetX l V yX7_costliest cX7_costliest 8 (some .int) 6 90 1 6 [.ref (vA V 0)] st (xI r) s9 := by
  refine ux_metX W0.1 W0.2.1 (by decide) rfl (Nat.le_of_ble_eq_true rfl) (fun M hL hr C hT => ?_)
  subst hL
  have C : uCx M V cX7_costliest 8 RX7 6 90 1 6 := C
  unfold fX7_costliest at h
  refine ux_iconst (v := (-1)) C dX7_costliest_0 (by decide) ?_
  refine ux_istoreK_n C dX7_costliest_1 rfl (by decide) ?_
  refine ux_iconst (v := 0) C dX7_costliest_2 (by decide) ?_
  refine ux_istoreK_n C dX7_costliest_3 rfl (by decide) ?_
  refine ux_iconst (v := 1) C dX7_costliest_4 (by decide) ?_
  refine ux_istoreK_n C dX7_costliest_5 rfl (by decide) ?_
  refine ux_iconst (v := 0) C dX7_costliest_6 (by decide) ?_
  refine ux_istoreK C dX7_costliest_7 rfl (by decide) ?_
  refine ux_sub [4, 3, 2, 1, 0] rfl ?_
  refine wX7_costliest_9 W0 C hr hT (fun l1_18 h => ?_) _ _ _ _ _ h
  refine ux_iload_n C dX7_costliest_123 0 rfl ?_
  refine ux_iconst (v := (-1)) C dX7_costliest_124 (by decide) ?_
  refine ux_icmp_ne C dX7_costliest_125 h (fun h => ?_) (fun h => ?_)
  · exact ux_throwNW C th_X7_costliest_128 hT dX7_costliest_128 dX7_costliest_131 dX7_costliest_132 dX7_costliest_135 dX7_costliest_138 (fun _ => rfl) h (Nat.le_of_ble_eq_true rfl) ⟨(Nat.le_of_ble_eq_true rfl), (Nat.le_of_ble_eq_true rfl)⟩ ⟨(Nat.le_of_ble_eq_true rfl), (Nat.le_of_ble_eq_true rfl)⟩ ⟨(Nat.le_of_ble_eq_true rfl), (Nat.le_of_ble_eq_true rfl)⟩
  · refine ux_iload_n C dX7_costliest_139 0 rfl ?_
    exact ux_iretX C hr dX7_costliest_140 h (Nat.le_of_ble_eq_true rfl) (Nat.le_of_ble_eq_true rfl)
set_option maxRecDepth 100000 in
set_option maxHeartbeats 4000000 in
theorem kX7_save {l : Launch} {V : uV} (W0 : uWC l V) {p1 : Int32} {st : uSt} {r : Unit ⊕ String} {s9 : uSt} (h : fX7_save p1 st = some (r, s9)) : uMetX l V yX7_save cX7_save 2 none 7 111 1 6 [.ref (vA V 0), .int p1] st (xV r) s9 := by
  refine ux_metX W0.1 W0.2.1 (by decide) rfl (Nat.le_of_ble_eq_true rfl) (fun M hL hr C hT => ?_)
  subst hL
  have C : uCx M V cX7_save 2 RX7 7 111 1 6 := C
  unfold fX7_save at h
  refine ux_aload_n C dX7_save_0 0 rfl ?_
  refine ux_iload_n C dX7_save_1 1 rfl ?_
  obtain ⟨x_1, st_2, h1, h⟩ := ox_some h
  refine ux_callVXv C cv_X7_302 dX7_save_2 (oF W0) rfl (kX7_requireSlot W0 h1) rfl (Nat.le_of_ble_eq_true rfl) ⟨(Nat.le_of_ble_eq_true rfl), (Nat.le_of_ble_eq_true rfl)⟩ ⟨(Nat.le_of_ble_eq_true rfl), (Nat.le_of_ble_eq_true rfl)⟩ ⟨(Nat.le_of_ble_eq_true rfl), (Nat.le_of_ble_eq_true rfl)⟩ (fun _ => rfl) hT h (fun x_1 h => ?_) rfl
  refine ux_aload_n C dX7_save_5 0 rfl ?_
  refine ux_get C fl_X7_33 dX7_save_6 (oF W0) rfl ?_
  refine ux_iload_n C dX7_save_9 1 rfl ?_
  obtain ⟨hsv, h⟩ := og_some h
  refine ux_aald C (aSaved W0) dX7_save_10 hsv ?_
  refine ux_aload_n C dX7_save_11 0 rfl ?_
  refine ux_get C fl_X7_26 dX7_save_12 (oF W0) rfl ?_
  obtain ⟨st_3, h1, h⟩ := obV_some h
  refine ux_callVv C cv_X7_114 dX7_save_15 (oState W0 (kS_sv _ (inB_lt hsv))) rfl (kX6_copyFrom W0 (kS_sv _ (inB_lt hsv)) kS_15 h1) rfl (Nat.le_of_ble_eq_true rfl) ⟨(Nat.le_of_ble_eq_true rfl), (Nat.le_of_ble_eq_true rfl)⟩ ⟨(Nat.le_of_ble_eq_true rfl), (Nat.le_of_ble_eq_true rfl)⟩ ?_ rfl
  refine ux_aload_n C dX7_save_18 0 rfl ?_
  refine ux_get C fl_X7_37 dX7_save_19 (oF W0) rfl ?_
  refine ux_iload_n C dX7_save_22 1 rfl ?_
  refine ux_iconst (v := 1) C dX7_save_23 (by decide) ?_
  refine ux_zastB C (aIsSaved W0) dX7_save_24 (by decide) h (fun st_4 h => ?_)
  exact ux_vretX C hr dX7_save_25 h (Nat.le_of_ble_eq_true rfl) (Nat.le_of_ble_eq_true rfl)
set_option maxRecDepth 100000 in
set_option maxHeartbeats 4000000 in
theorem kX7_restore {l : Launch} {V : uV} (W0 : uWC l V) {p1 : Int32} {st : uSt} {r : Unit ⊕ String} {s9 : uSt} (h : fX7_restore p1 st = some (r, s9)) : uMetX l V yX7_restore cX7_restore 2 none 7 111 2 12 [.ref (vA V 0), .int p1] st (xV r) s9 := by
  refine ux_metX W0.1 W0.2.1 (by decide) rfl (Nat.le_of_ble_eq_true rfl) (fun M hL hr C hT => ?_)
  subst hL
  have C : uCx M V cX7_restore 2 RX7 7 111 2 12 := C
  unfold fX7_restore at h
  refine ux_aload_n C dX7_restore_0 0 rfl ?_
  refine ux_iload_n C dX7_restore_1 1 rfl ?_
  obtain ⟨x_1, st_2, h1, h⟩ := ox_some h
  refine ux_callVXv C cv_X7_302 dX7_restore_2 (oF W0) rfl (kX7_requireSlot W0 h1) rfl (Nat.le_of_ble_eq_true rfl) ⟨(Nat.le_of_ble_eq_true rfl), (Nat.le_of_ble_eq_true rfl)⟩ ⟨(Nat.le_of_ble_eq_true rfl), (Nat.le_of_ble_eq_true rfl)⟩ ⟨(Nat.le_of_ble_eq_true rfl), (Nat.le_of_ble_eq_true rfl)⟩ (fun _ => rfl) hT h (fun x_1 h => ?_) rfl
  refine ux_aload_n C dX7_restore_5 0 rfl ?_
  refine ux_get C fl_X7_37 dX7_restore_6 (oF W0) rfl ?_
  refine ux_iload_n C dX7_restore_9 1 rfl ?_
  refine ux_zald C (aIsSaved W0) dX7_restore_10 h (fun h => ?_)
  refine ux_if_ne C dX7_restore_11 h (fun h => ?_) (fun h => ?_)
  · exact ux_throwNW C th_X7_restore_14 hT dX7_restore_14 dX7_restore_17 dX7_restore_18 dX7_restore_21 dX7_restore_24 (fun _ => rfl) h (Nat.le_of_ble_eq_true rfl) ⟨(Nat.le_of_ble_eq_true rfl), (Nat.le_of_ble_eq_true rfl)⟩ ⟨(Nat.le_of_ble_eq_true rfl), (Nat.le_of_ble_eq_true rfl)⟩ ⟨(Nat.le_of_ble_eq_true rfl), (Nat.le_of_ble_eq_true rfl)⟩
  · refine ux_aload_n C dX7_restore_25 0 rfl ?_
    refine ux_get C fl_X7_26 dX7_restore_26 (oF W0) rfl ?_
    refine ux_aload_n C dX7_restore_29 0 rfl ?_
    refine ux_get C fl_X7_33 dX7_restore_30 (oF W0) rfl ?_
    refine ux_iload_n C dX7_restore_33 1 rfl ?_
    obtain ⟨hsv, h⟩ := og_some h
    refine ux_aald C (aSaved W0) dX7_restore_34 hsv ?_
    obtain ⟨st_3, h1, h⟩ := obV_some h
    refine ux_callVv C cv_X7_114 dX7_restore_35 (oState W0 kS_15) rfl (kX6_copyFrom W0 kS_15 (kS_sv _ (inB_lt hsv)) h1) rfl (Nat.le_of_ble_eq_true rfl) ⟨(Nat.le_of_ble_eq_true rfl), (Nat.le_of_ble_eq_true rfl)⟩ ⟨(Nat.le_of_ble_eq_true rfl), (Nat.le_of_ble_eq_true rfl)⟩ ?_ rfl
    exact ux_vretX C hr dX7_restore_38 h (Nat.le_of_ble_eq_true rfl) (Nat.le_of_ble_eq_true rfl)
