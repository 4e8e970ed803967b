/-! DOUBLES: a quotient of two ints as doubles, the divisor not 0, is no NaN: nothing is drawn. -/
theorem vf_n64_of {r : UInt64} (h : r.toNat % 2 ^ 63 < 2047 * 2 ^ 52) : vf_n64 r := by
  unfold vf_n64
  rw [UInt64.le_iff_toNat_le, UInt64.toNat_and]
  have e : (0x7fffffffffffffff : UInt64).toNat = 2 ^ 63 - 1 := by decide
  rw [e, Nat.and_two_pow_sub_one_eq_mod]
  have e2 : (0x7ff0000000000000 : UInt64).toNat = 2047 * 2 ^ 52 := by decide
  rw [e2]
  exact Nat.le_of_lt h
theorem dq_ok {x y : Int32} (hy : y ≠ 0) : vf_n64 (FP.ddiv (FP.i2d x) (FP.i2d y)) := by
  have h1 := FP.Core.i2d_mag x
  have h2 := FP.Core.i2d_big (v := y) (fun h => hy (Int32.toInt_inj.mp h))
  have h3 := FP.Core.ddiv_mag (K := 1056) (L := 1023) h1 h2.1 h2.2 (by decide) (by decide)
  exact vf_n64_of (Nat.lt_trans h3 (by decide))
section UXD
variable {M : uM} {V : uV} {cc : ByteArray} {nL : Nat} {own : String} {rf rl rc rs : Nat} {Q : State → Prop} {cells slots pc pc' : Nat} {lv : List (Nat × Value)} {stk : List Value} {st : uSt}
theorem ux_ddiv (C : uCx M V cc nL own rf rl rc rs) {x y : Int32} {β : Type} {a : Option β} {r : β} (hd : uD 1 cc pc (.ddiv) pc') (h : og (nzB y) a = some r) (k : a = some r → uW M V Q nL cells slots pc' lv (.double (FP.ddiv (FP.i2d x) (FP.i2d y)) :: stk) st) : uW M V Q nL cells slots pc lv (.double (FP.i2d y) :: .double (FP.i2d x) :: stk) st := by
  obtain ⟨hd, rfl⟩ := hd
  obtain ⟨h1, h2⟩ := og_some h
  intro H locs ls hP hS hl
  exact lv_ddiv C.1 C.2.1 hd (dq_ok (by simpa [nzB] using h1)) (k h2 H locs ls hP hS hl)
theorem ux_dconst0 (C : uCx M V cc nL own rf rl rc rs) (hd : uD 1 cc pc (.dconst 0) pc') (k : uW M V Q nL cells slots pc' lv (.double FP.dconst0 :: stk) st) : uW M V Q nL cells slots pc lv stk st := by
  obtain ⟨hd, rfl⟩ := hd
  intro H locs ls hP hS hl
  exact lv_dconst0 C.1 C.2.1 hd (k H locs ls hP hS hl)
theorem ux_dretS (C : uCx M V cc nL own rf rl rc rs) {v r : UInt64} {st' : uSt} {mc ms : Nat} (hr : (mT M).sig.returnType = some .double) (hd : uD 1 cc pc (.dreturn) pc') (h : some (v, st) = some (r, st')) (hc : cells ≤ mc) (hs : slots ≤ ms) : uW M V (uEnd M V mc ms (some (.double r)) st') nL cells slots pc lv [.double v] st := by
  obtain ⟨hd, -⟩ := hd
  cases h
  intro H locs ls hP hS hl
  refine W.widen hc hs ?_
  exact W.dret C.1 C.2.1 hr (fun t ht _ => ⟨rfl, by rw [ht]; exact hP, hS.F ht⟩) hS.2.2 hd C.locks
theorem ux_dretX (C : uCx M V cc nL own rf rl rc rs) {v : UInt64} {r : UInt64 ⊕ String} {st' : uSt} {mc ms : Nat} (hr : (mT M).sig.returnType = some .double) (hd : uD 1 cc pc (.dreturn) pc') (h : some (.inl v, st) = some (r, st')) (hc : cells ≤ mc) (hs : slots ≤ ms) : uW M V (uEndX M V mc ms (xD r) st') nL cells slots pc lv [.double v] st := by
  obtain ⟨hd, -⟩ := hd
  cases h
  intro H locs ls hP hS hl
  refine W.widen hc hs (vx_ret ?_)
  exact W.dret C.1 C.2.1 hr (fun t ht _ => ⟨_, rfl, rfl, by rw [ht]; exact hP, hS.F ht⟩) hS.2.2 hd C.locks
end UXD

theorem th_X7_quality_22 : uTn RX7 208 280 212 "java/util/NoSuchElementException" := ⟨"the best set has no value", "java/lang/RuntimeException", "java/lang/Exception", by decide, by decide, gw_at 774 (by decide +kernel) (by decide +kernel), gw_at 104 (by decide +kernel) (by decide +kernel), by decide +kernel, ta_X7_212.1, ta_X7_212.2⟩
def fX8_quality  (p1 : Int32) (st : uSt) : Option (UInt64 × uSt) :=
  ol (sI st 0 0 (0 : Int32)) (fun st_1 => ob (fX8_isEnergy p1) (fun x_2 => obS (fX8_may x_2 (1 : Int32) st_1) (fun x_4 st_3 => (if x_4 = 0 then some (FP.dconst0, st_3) else obS (fX8_valueWithin (st_3.1 1 25) p1 st_3) (fun x_6 st_5 => oj1 (fun (v_9 : Int32) => obS (fX8_may v_9 (2 : Int32) st_5) (fun x_11 st_10 => (if x_11 = 0 then some (FP.dconst0, st_10) else ob (fX8_greedyOf p1 st_10) (fun x_12 => ob (fX8_valueIn x_12 st_10) (fun x_13 => og (nzB x_6) (some (FP.ddiv (FP.i2d x_13) (FP.i2d x_6), st_10))))))) (fun j_8 => (if x_6 ≤ 0 then (j_8 (0 : Int32)) else (j_8 (1 : Int32)))))))))
def fX7_quality  (p1 : Int32) (st : uSt) : Option ((UInt64 ⊕ String) × uSt) :=
  ox (fX7_requireEnergy p1 st) (fun _ st_2 => ob (fX6_usableBlocks 15 st_2) (fun x_3 => obS (fX7_valueFor x_3 p1 st_2) (fun x_5 st_4 => (if x_5 = 0 then some (.inr "java/util/NoSuchElementException", st_4) else ob (fX7_greedyBlocks p1 st_4) (fun x_7 => ob (fX1_valueIn (15 + 8) x_7 st_4) (fun x_8 => og (nzB x_5) (some (.inl (FP.ddiv (FP.i2d x_8) (FP.i2d x_5)), st_4))))))))
set_option maxRecDepth 100000 in
set_option maxHeartbeats 4000000 in
theorem kX8_quality {l : Launch} {V : uV} (W0 : uWM l V) {p1 : Int32} {st : uSt} {r : UInt64} {s9 : uSt} (h : fX8_quality p1 st = some (r, s9)) : uMet l V yX8_quality cX8_quality 3 (some .double) 5 116 0 0 [.ref (vA V 0), .int p1] st (some (.double r)) s9 := by
  refine ux_met W0.1 W0.2.1 (by decide) rfl (Nat.le_of_ble_eq_true rfl) (fun M hL hr C => ?_)
  subst hL
  have C : uCx M V cX8_quality 3 RX8 5 116 0 0 := C
  unfold fX8_quality at h
  refine ux_aload_n C dX8_quality_0 0 rfl ?_
  refine ux_iconst (v := 0) C dX8_quality_1 (by decide) ?_
  refine ux_puti C fp_X8_49 dX8_quality_2 (oM W0) (Nat.le_of_ble_eq_true rfl) rfl h (fun st_1 h => ?_)
  refine ux_aload_n C dX8_quality_5 0 rfl ?_
  refine ux_aload_n C dX8_quality_6 0 rfl ?_
  refine ux_iload_n C dX8_quality_7 1 rfl ?_
  obtain ⟨x_2, h1, h⟩ := ob_some h
  refine ux_callVi C cv_X8_260 dX8_quality_8 (oM W0) rfl (kX8_isEnergy W0 h1) rfl (Nat.le_of_ble_eq_true rfl) ⟨(Nat.le_of_ble_eq_true rfl), (Nat.le_of_ble_eq_true rfl)⟩ ⟨(Nat.le_of_ble_eq_true rfl), (Nat.le_of_ble_eq_true rfl)⟩ ?_ rfl
  refine ux_iconst (v := 1) C dX8_quality_11 (by decide) ?_
  obtain ⟨x_4, st_3, h1, h⟩ := obS_some h
  refine ux_callVi C cv_X8_55 dX8_quality_12 (oM W0) rfl (kX8_may W0 h1) rfl (Nat.le_of_ble_eq_true rfl) ⟨(Nat.le_of_ble_eq_true rfl), (Nat.le_of_ble_eq_true rfl)⟩ ⟨(Nat.le_of_ble_eq_true rfl), (Nat.le_of_ble_eq_true rfl)⟩ ?_ rfl
  refine ux_if_ne C dX8_quality_15 h (fun h => ?_) (fun h => ?_)
  · refine ux_dconst0 C dX8_quality_18 ?_
    exact ux_dretS C hr dX8_quality_19 h (Nat.le_of_ble_eq_true rfl) (Nat.le_of_ble_eq_true rfl)
  · refine ux_aload_n C dX8_quality_20 0 rfl ?_
    refine ux_aload_n C dX8_quality_21 0 rfl ?_
    refine ux_get C fl_X8_7 dX8_quality_22 (oM W0) rfl ?_
    refine ux_bipush (v := 25) C dX8_quality_25 (by decide) ?_
    refine ux_ialdK (j := 25) C (aM_a W0) dX8_quality_27 (by decide) (by decide) ?_
    refine ux_iload_n C dX8_quality_28 1 rfl ?_
    obtain ⟨x_6, st_5, h1, h⟩ := obS_some h
    refine ux_callVi C cv_X8_263 dX8_quality_29 (oM W0) rfl (kX8_valueWithin W0 h1) rfl (Nat.le_of_ble_eq_true rfl) ⟨(Nat.le_of_ble_eq_true rfl), (Nat.le_of_ble_eq_true rfl)⟩ ⟨(Nat.le_of_ble_eq_true rfl), (Nat.le_of_ble_eq_true rfl)⟩ ?_ rfl
    refine ux_istoreK_n C dX8_quality_32 rfl (by decide) ?_
    refine ux_aload_n C dX8_quality_33 1 rfl ?_
    refine ux_iload_n C dX8_quality_34 0 rfl ?_
    obtain ⟨j_8, hK_8, h⟩ := oj1_some h
    have hJ_8 : ∀ (v_9 : Int32), j_8 v_9 = some (r, s9) → uW M V (uEnd M V 0 0 (some (.double r)) s9) 3 0 0 43 [(0, .ref (vA V 0)), (1, .int p1), (2, .int x_6)] [.int v_9, .ref (vA V 0)] st_5 := by
      intro v_9 h
      replace h := hK_8 v_9 h
      refine ux_iconst (v := 2) C dX8_quality_43 (by decide) ?_
      obtain ⟨x_11, st_10, h1, h⟩ := obS_some h
      refine ux_callVi C cv_X8_55 dX8_quality_44 (oM W0) rfl (kX8_may W0 h1) rfl (Nat.le_of_ble_eq_true rfl) ⟨(Nat.le_of_ble_eq_true rfl), (Nat.le_of_ble_eq_true rfl)⟩ ⟨(Nat.le_of_ble_eq_true rfl), (Nat.le_of_ble_eq_true rfl)⟩ ?_ rfl
      refine ux_if_eq C dX8_quality_47 h (fun h => ?_) (fun h => ?_)
      · refine ux_dconst0 C dX8_quality_66 ?_
        exact ux_dretS C hr dX8_quality_67 h (Nat.le_of_ble_eq_true rfl) (Nat.le_of_ble_eq_true rfl)
      · refine ux_aload_n C dX8_quality_50 0 rfl ?_
        refine ux_aload_n C dX8_quality_51 0 rfl ?_
        refine ux_iload_n C dX8_quality_52 1 rfl ?_
        obtain ⟨x_12, h1, h⟩ := ob_some h
        refine ux_callVi C cv_X8_266 dX8_quality_53 (oM W0) rfl (kX8_greedyOf W0 h1) rfl (Nat.le_of_ble_eq_true rfl) ⟨(Nat.le_of_ble_eq_true rfl), (Nat.le_of_ble_eq_true rfl)⟩ ⟨(Nat.le_of_ble_eq_true rfl), (Nat.le_of_ble_eq_true rfl)⟩ ?_ rfl
        obtain ⟨x_13, h1, h⟩ := ob_some h
        refine ux_callVi C cv_X8_187 dX8_quality_56 (oM W0) rfl (kX8_valueIn W0 h1) rfl (Nat.le_of_ble_eq_true rfl) ⟨(Nat.le_of_ble_eq_true rfl), (Nat.le_of_ble_eq_true rfl)⟩ ⟨(Nat.le_of_ble_eq_true rfl), (Nat.le_of_ble_eq_true rfl)⟩ ?_ rfl
        refine ux_i2d C dX8_quality_59 ?_
        refine ux_iload_n C dX8_quality_60 2 rfl ?_
        refine ux_i2d C dX8_quality_61 ?_
        refine ux_ddiv C dX8_quality_62 h (fun h => ?_)
        refine ux_goto C dX8_quality_63 ?_
        exact ux_dretS C hr dX8_quality_67 h (Nat.le_of_ble_eq_true rfl) (Nat.le_of_ble_eq_true rfl)
    refine ux_if_le C dX8_quality_35 h (fun h => ?_) (fun h => ?_)
    · refine ux_iconst (v := 0) C dX8_quality_42 (by decide) ?_
      refine ux_sub [1, 2, 0] rfl ?_
      exact hJ_8 (0 : Int32) h
    · refine ux_iconst (v := 1) C dX8_quality_38 (by decide) ?_
      refine ux_goto C dX8_quality_39 ?_
      refine ux_sub [1, 2, 0] rfl ?_
      exact hJ_8 (1 : Int32) h
set_option maxRecDepth 100000 in
set_option maxHeartbeats 4000000 in
theorem kX7_quality {l : Launch} {V : uV} (W0 : uWC l V) {p1 : Int32} {st : uSt} {r : UInt64 ⊕ String} {s9 : uSt} (h : fX7_quality p1 st = some (r, s9)) : uMetX l V yX7_quality cX7_quality 3 (some .double) 7 132 2 12 [.ref (vA V 0), .int p1] st (xD r) s9 := by
  refine ux_metX W0.1 W0.2.1 (by decide) rfl (Nat.le_of_ble_eq_true rfl) (fun M hL hr C hT => ?_)
  subst hL
  have C : uCx M V cX7_quality 3 RX7 7 132 2 12 := C
  unfold fX7_quality at h
  refine ux_aload_n C dX7_quality_0 0 rfl ?_
  refine ux_iload_n C dX7_quality_1 1 rfl ?_
  obtain ⟨x_1, st_2, h1, h⟩ := ox_some h
  refine ux_callVXv C cv_X7_271 dX7_quality_2 (oF W0) rfl (kX7_requireEnergy W0 h1) rfl (Nat.le_of_ble_eq_true rfl) ⟨(Nat.le_of_ble_eq_true rfl), (Nat.le_of_ble_eq_true rfl)⟩ ⟨(Nat.le_of_ble_eq_true rfl), (Nat.le_of_ble_eq_true rfl)⟩ ⟨(Nat.le_of_ble_eq_true rfl), (Nat.le_of_ble_eq_true rfl)⟩ (fun _ => rfl) hT h (fun x_1 h => ?_) rfl
  refine ux_aload_n C dX7_quality_5 0 rfl ?_
  refine ux_aload_n C dX7_quality_6 0 rfl ?_
  refine ux_get C fl_X7_26 dX7_quality_7 (oF W0) rfl ?_
  obtain ⟨x_3, h1, h⟩ := ob_some h
  refine ux_callVi C cv_X7_253 dX7_quality_10 (oState W0 kS_15) rfl (kX6_usableBlocks W0 kS_15 h1) rfl (Nat.le_of_ble_eq_true rfl) ⟨(Nat.le_of_ble_eq_true rfl), (Nat.le_of_ble_eq_true rfl)⟩ ⟨(Nat.le_of_ble_eq_true rfl), (Nat.le_of_ble_eq_true rfl)⟩ ?_ rfl
  refine ux_iload_n C dX7_quality_13 1 rfl ?_
  obtain ⟨x_5, st_4, h1, h⟩ := obS_some h
  refine ux_callVi C cv_X7_274 dX7_quality_14 (oF W0) rfl (kX7_valueFor W0 h1) rfl (Nat.le_of_ble_eq_true rfl) ⟨(Nat.le_of_ble_eq_true rfl), (Nat.le_of_ble_eq_true rfl)⟩ ⟨(Nat.le_of_ble_eq_true rfl), (Nat.le_of_ble_eq_true rfl)⟩ ?_ rfl
  refine ux_istoreK_n C dX7_quality_17 rfl (by decide) ?_
  refine ux_iload_n C dX7_quality_18 0 rfl ?_
  refine ux_if_ne C dX7_quality_19 h (fun h => ?_) (fun h => ?_)
  · exact ux_throwNW C th_X7_quality_22 hT dX7_quality_22 dX7_quality_25 dX7_quality_26 dX7_quality_29 dX7_quality_32 (fun _ => rfl) h (Nat.le_of_ble_eq_true rfl) ⟨(Nat.le_of_ble_eq_true rfl), (Nat.le_of_ble_eq_true rfl)⟩ ⟨(Nat.le_of_ble_eq_true rfl), (Nat.le_of_ble_eq_true rfl)⟩ ⟨(Nat.le_of_ble_eq_true rfl), (Nat.le_of_ble_eq_true rfl)⟩
  · refine ux_aload_n C dX7_quality_33 1 rfl ?_
    refine ux_get C fl_X7_26 dX7_quality_34 (oF W0) rfl ?_
    refine ux_get C fl_X7_133 dX7_quality_37 (oState W0 kS_15) rfl ?_
    refine ux_aload_n C dX7_quality_40 1 rfl ?_
    refine ux_iload_n C dX7_quality_41 2 rfl ?_
    obtain ⟨x_7, h1, h⟩ := ob_some h
    refine ux_callVi C cv_X7_277 dX7_quality_42 (oF W0) rfl (kX7_greedyBlocks W0 h1) rfl (Nat.le_of_ble_eq_true rfl) ⟨(Nat.le_of_ble_eq_true rfl), (Nat.le_of_ble_eq_true rfl)⟩ ⟨(Nat.le_of_ble_eq_true rfl), (Nat.le_of_ble_eq_true rfl)⟩ ?_ rfl
    obtain ⟨x_8, h1, h⟩ := ob_some h
    refine ux_callVi C cv_X7_179 dX7_quality_45 (oCache W0 (kS_cache kS_15)) rfl (kX1_valueIn W0 (kS_cache kS_15) h1) rfl (Nat.le_of_ble_eq_true rfl) ⟨(Nat.le_of_ble_eq_true rfl), (Nat.le_of_ble_eq_true rfl)⟩ ⟨(Nat.le_of_ble_eq_true rfl), (Nat.le_of_ble_eq_true rfl)⟩ ?_ rfl
    refine ux_i2d C dX7_quality_48 ?_
    refine ux_iload_n C dX7_quality_49 0 rfl ?_
    refine ux_i2d C dX7_quality_50 ?_
    refine ux_ddiv C dX7_quality_51 h (fun h => ?_)
    exact ux_dretX C hr dX7_quality_52 h (Nat.le_of_ble_eq_true rfl) (Nat.le_of_ble_eq_true rfl)
