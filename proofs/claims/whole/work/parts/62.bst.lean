/-! PURE PART 33: the calls that weigh -/
section Q33
variable {m : Nat} {C M st : uSt} {a : Nat → Nat} {n : Nat} {w : Nat → Nat → Nat}
/-- what stays where only longs and the class's trial objects change -/
theorem RR_same (h : RR m C M) (hm : m < 512) {C' M' : uSt} (hC : ∀ i, i < 5 ∨ 15 ≤ i → C'.1 i = C.1 i) (hM : M'.1 = (tC M).1) : RR (m + 1) C' M' :=
  RR_fr h hm hC (by rw [hM, tC_n M (by decide)]) (by rw [hM, tC_n M (by decide)]) (by rw [hM, tC_n M (by decide)]) (by rw [hM, tC_n M (by decide)]) (by rw [hM, tC_f M (by decide)]) (by rw [hM, tC_f M (by decide)]) (by rw [hM, tC_f M (by decide)])
theorem c_bestSet (h : RR m C M) (hm : m < 512) (x : Int32) : cKI (fL_bestSet x) (fX8_bestSet x) (RR (m + 1)) C M := by
  obtain ⟨a, n, w, hc, hg, hk⟩ := RR_un h
  obtain ⟨hn, h9, hp⟩ := oK_p hk
  rcases ene_or (C := C) x with ⟨e1, e2⟩ | ⟨k, hk1, rfl, e1, e2⟩
  · refine endE h hm (k := 1) (r := 0) (by decide) ?_ ?_
    · rw [fL_bestSet, fX7_bestSet, e1]
      simp only [ox, olx, if_true]
    · rw [fX8_bestSet, ol_tC, e2, ob_s, qmay0 (tC_t M) (by decide), obS_s, if_pos rfl]
  · obtain ⟨p, C', M', e, b0, b1, b2, b3, b4, b5, b6, b7, b8, b9⟩ := best_both (F := a 25) (E := k) hc.2.2.1 hc.2.2.2.1 hg hk.2.2.2 hk.2.2.1 hk1
    refine endG (C' := C') (M' := M') (v := nI (bS p n)) ?_ ?_ (by rw [b4]; exact tC_t M) (RR_same h hm (fun i _ => by rw [b2]) b4)
    · rw [fL_bestSet, fX7_bestSet, e1]
      simp only [ox]
      rw [qX6_usable hc.2.2.1 hc.2.2.2.1 hn hp, ob_s, b1, obS_s]
      rfl
    · rw [fX8_bestSet, ol_tC, e2, ob_s, qmay1 (tC_t M) (by decide), obS_s, if_neg (by decide), hg.1 25 (by decide), b3, obV_st, b7, ob_s]
/-- valueFor and valueWithin -/
theorem val_both {F E : Nat} (hd : cDv C.1 (15 + 3) a) (hc : cCa C.1 (15 + 8) n w) (hg : gR (st.1 1) a n w) (hO : oB n a w) (hD : oD a) (hE : E ≤ 500) : ∃ (v : Nat) (C' M' : uSt), v ≤ 2376 ∧ fX7_valueFor (nI (bS (usD F w) n)) (nI E) C = some (nI v, C') ∧ C'.1 = C.1 ∧ fX8_valueWithin (nI F) (nI E) st = some (nI v, M') ∧ M'.1 = st.1 ∧ (E = 0 → v = 0) := by
  obtain ⟨p, C', M', e, b0, b1, b2, b3, b4, b5, b6, b7, b8, b9⟩ := best_both (F := F) (E := E) hd hc hg hO hD hE
  have hv := vU_le hO p n (Nat.le_refl _)
  have hn := hO.1
  refine ⟨vU w p n, C', M', by omega, ?_, b2, ?_, b4, b9⟩
  · rw [fX7_valueFor, b1, obS_s, qX1_valueIn (show cCa C'.1 (15 + 8) n w by rw [b2]; exact hc) hn, vU_b _ hn, ob_s]
  · rw [fX8_valueWithin, b3, obV_st, b5, ob_s, b6, ob_s]
theorem c_bestValue (h : RR m C M) (hm : m < 512) (x : Int32) : cKI (fL_bestValue x) (fX8_bestValue x) (RR (m + 1)) C M := by
  obtain ⟨a, n, w, hc, hg, hk⟩ := RR_un h
  obtain ⟨hn, h9, hp⟩ := oK_p hk
  rcases ene_or (C := C) x with ⟨e1, e2⟩ | ⟨k, hk1, rfl, e1, e2⟩
  · refine endE h hm (k := 1) (r := 0) (by decide) ?_ ?_
    · rw [fL_bestValue, fX7_bestValue, e1]
      simp only [ox, olx, if_true]
    · rw [fX8_bestValue, ol_tC, e2, ob_s, qmay0 (tC_t M) (by decide), obS_s, if_pos rfl]
  · obtain ⟨v, C', M', v0, v1, v2, v3, v4, -⟩ := val_both (F := a 25) (E := k) hc.2.2.1 hc.2.2.2.1 hg hk.2.2.2 hk.2.2.1 hk1
    refine endG (C' := C') (M' := M') (v := nI v) ?_ ?_ (by rw [v4]; exact tC_t M) (RR_same h hm (fun i _ => by rw [v2]) v4)
    · rw [fL_bestValue, fX7_bestValue, e1]
      simp only [ox]
      rw [qX6_usable hc.2.2.1 hc.2.2.2.1 hn hp, ob_s, v1, obS_s]
      rfl
    · rw [fX8_bestValue, ol_tC, e2, ob_s, qmay1 (tC_t M) (by decide), obS_s, if_neg (by decide), hg.1 25 (by decide), v3, obS_s]
theorem c_quality (h : RR m C M) (hm : m < 512) (x : Int32) : cKD (fL_quality x) (fX8_quality x) (RR (m + 1)) C M := by
  obtain ⟨a, n, w, hc, hg, hk⟩ := RR_un h
  obtain ⟨hn, h9, hp⟩ := oK_p hk
  rcases ene_or (C := C) x with ⟨e1, e2⟩ | ⟨k, hk1, rfl, e1, e2⟩
  · refine ⟨1, C, FP.dconst0, sI (tC M) 0 0 1, ?_, ?_, by rw [sI_r, if_pos rfl], fun e => absurd e (by decide), RR_tC h hm 1⟩
    · rw [fL_quality, fX7_quality, e1]
      simp only [ox, olx, if_true]
    · rw [fX8_quality, ol_tC, e2, ob_s, qmay0 (tC_t M) (by decide), obS_s, if_pos rfl]
  · obtain ⟨v, C', M', v0, v1, v2, v3, v4, -⟩ := val_both (F := a 25) (E := k) hc.2.2.1 hc.2.2.2.1 hg hk.2.2.2 hk.2.2.1 hk1
    have hc' : cS C'.1 15 a n w := by rw [v2]; exact hc
    have hg' : gR (M'.1 1) a n w := by rw [v4]; exact hg
    have ht' : M'.1 0 0 = 0 := by rw [v4]; exact tC_t M
    have E8 : ∀ r, oj1 (fun (v_9 : Int32) => obS (fX8_may v_9 (2 : Int32) M') (fun x_11 st_10 => (if x_11 = 0 then some (FP.dconst0, st_10) else ob (fX8_greedyOf (nI k) st_10) (fun x_12 => ob (fX8_valueIn x_12 st_10) (fun x_13 => og (nzB (nI v)) (some (FP.ddiv (FP.i2d x_13) (FP.i2d (nI v)), st_10))))))) (fun j_8 => (if nI v ≤ 0 then (j_8 (0 : Int32)) else (j_8 (1 : Int32)))) = r → fX8_quality (nI k) M = r := by
      intro r hr
      rw [fX8_quality, ol_tC, e2, ob_s, qmay1 (tC_t M) (by decide), obS_s, if_neg (by decide), hg.1 25 (by decide), v3, obS_s]
      exact hr
    have E7 : fX7_quality (nI k) C = (if nI v = 0 then some (.inr "java/util/NoSuchElementException", C') else ob (fX7_greedyBlocks (nI k) C') (fun x_7 => ob (fX1_valueIn (15 + 8) x_7 C') (fun x_8 => og (nzB (nI v)) (some (.inl (FP.ddiv (FP.i2d x_8) (FP.i2d (nI v))), C'))))) := by
      rw [fX7_quality, e1]
      simp only [ox]
      rw [qX6_usable hc.2.2.1 hc.2.2.2.1 hn hp, ob_s, v1, obS_s]
    by_cases q : v = 0
    · subst q
      refine ⟨2, C', FP.dconst0, sI M' 0 0 2, ?_, E8 _ ?_, by rw [sI_r, if_pos rfl], fun e => absurd e (by decide), RR_fr h hm (fun i _ => by rw [v2]) (by rw [sI_n (by decide), v4, tC_n M (by decide)]) (by rw [sI_n (by decide), v4, tC_n M (by decide)]) (by rw [sI_n (by decide), v4, tC_n M (by decide)]) (by rw [sI_n (by decide), v4, tC_n M (by decide)]) (by rw [sI_r, if_neg (by decide), v4, tC_f M (by decide)]) (by rw [sI_r, if_neg (by decide), v4, tC_f M (by decide)]) (by rw [sI_r, if_neg (by decide), v4, tC_f M (by decide)])⟩
      · rw [fL_quality, E7, if_pos (show nI 0 = (0 : Int32) from rfl)]
        simp only [olx]
        rw [if_neg (by decide), if_pos trivial]
      · rw [oj1_e, if_pos (show nI 0 ≤ (0 : Int32) by decide)]
        dsimp only
        rw [qmay0 ht' (by decide), obS_s, if_pos rfl]
    · obtain ⟨r, f1, f2⟩ := greedy_both hc' hg' hk (nI k)
      have nz := nz_nI (x := v) (by omega) (by omega)
      refine ⟨0, sD C' 72 0 (FP.ddiv (FP.i2d (nI (vU w r n))) (FP.i2d (nI v))), FP.ddiv (FP.i2d (nI (vU w r n))) (FP.i2d (nI v)), M', ?_, E8 _ ?_, ht', fun _ => ?_, RR_same h hm (fun i _ => by show C'.1 i = C.1 i; rw [v2]) v4⟩
      · rw [fL_quality, E7, if_neg (show ¬ nI v = (0 : Int32) from peqn (b := 0) q (by omega) (by decide)), f1, ob_s, qX1_valueIn hc'.2.2.2.1 hn, vU_b _ hn, ob_s, nz, og_t]
        rfl
      · rw [oj1_e, if_neg (show ¬ nI v ≤ (0 : Int32) from nple (b := 0) (by omega) (by omega))]
        dsimp only
        rw [qmay1 ht' (by decide), obS_s, if_neg (by decide), f2, ob_s, qX8_valueIn hg' hn, vU_b _ hn, ob_s, nz, og_t]
      · simp [sD, vf_upd]
theorem c_flush (h : RR m C M) (hm : m < 512) : cKI fL_flush fX8_flush (RR (m + 1)) C M := by
  obtain ⟨a, n, w, hc, hg, hk⟩ := RR_un h
  obtain ⟨hn, h9, hp⟩ := oK_p hk
  obtain ⟨s0, s1, s2, s3, s4, s5, s6, s7, s8, s9, s10, s11, s12, s13⟩ := hk.2.1
  by_cases q : a 27 = 0
  · obtain ⟨p, C1, M1, e, b0, b1, b2, b3, b4, b5, b6, b7, b8, b9⟩ := best_both (F := a 25) (E := a 1) hc.2.2.1 hc.2.2.2.1 hg hk.2.2.2 hk.2.2.1 (by omega)
    have hc1 : cS C1.1 15 a n w := by rw [b2]; exact hc
    have hg1 : gR (M1.1 1) a n w := by rw [b4]; exact hg
    obtain ⟨C2, M2, f1, f2, f3, f4, f5⟩ := flush_both p hc1 hg1 hk hm q b8
    refine endG (C' := C2) (M' := M2) (v := nI (vU w p n)) ?_ ?_ (by rw [f5 0 (by decide), b4]; exact tC_t M) (RR_now h hm f3 (fun i hi => by rw [f4 i (by omega), b2]) (fun i h1 _ _ => by rw [f5 i h1, b4]))
    · rw [fL_flush, fX7_flush, hc.2.2.2.2.2.2, q, if_pos (show nI 0 = (0 : Int32) from rfl), qX6_usable hc.2.2.1 hc.2.2.2.1 hn hp, ob_s, hc.1.2.1, b1, obS_s, f1, obS_s]
      rfl
    · rw [fX8_flush, ol_tC, hg.1 27 (by decide), q, oj1_e, if_pos (show nI 0 = (0 : Int32) from rfl)]
      dsimp only
      rw [qmay1 (tC_t M) (by decide), obS_s, if_neg (by decide), hg.1 25 (by decide), b3, obV_st, hg1.1 1 (by decide), b7, ob_s, f2, obS_s]
  · have q : a 27 = 1 := by omega
    refine endE h hm (k := 1) (r := 0) (by decide) ?_ ?_
    · rw [fL_flush, fX7_flush, hc.2.2.2.2.2.2, q, if_neg (show ¬ nI 1 = (0 : Int32) by decide)]
      simp only [olx, if_true]
    · rw [fX8_flush, ol_tC, hg.1 27 (by decide), q, oj1_e, if_neg (show ¬ nI 1 = (0 : Int32) by decide)]
      dsimp only
      rw [qmay0 (tC_t M) (by decide), obS_s, if_pos rfl]
theorem c_extra (h : RR m C M) (hm : m < 512) (x : Int32) : cKI (fL_extra x) (fX8_extra x) (RR (m + 1)) C M := by
  obtain ⟨a, n, w, hc, hg, hk⟩ := RR_un h
  obtain ⟨hn, h9, hp⟩ := oK_p hk
  obtain ⟨s0, s1, s2, -⟩ := hk.2.1
  rcases blk_or hc hg hk x with ⟨e1, e2⟩ | ⟨k, hk1, rfl, e1, e2⟩
  · refine endE h hm (k := 1) (r := 0) (by decide) ?_ ?_
    · rw [fL_extra, fX7_extra, e1]
      simp only [ox, olx, if_true]
    · rw [fX8_extra, ol_tC, e2, ob_s, qmay0 (tC_t M) (by decide), obS_s, if_pos rfl]
  · have hpk := hp k hk1
    have us := bS_hb (usD (a 25) w) hk1 hn
    have E7 : fX7_extra (nI k) C = (if (if usD (a 25) w k = true then (1 : Int32) else 0) = 0 then some (.inr "java/lang/IllegalStateException", C) else obS (fX4_best 15 (nI (bS (usD (a 25) w) n)) (C.1 (15 + 1) 1) C) (fun x_6 st_5 => ob (fX2_energyIn (15 + 3) (15 + 8) (x_6 ||| ((1 : Int32) <<< (nI k &&& 31))) st_5) (fun x_8 => ob (fX2_energyIn (15 + 3) (15 + 8) x_6 st_5) (fun x_9 => some (.inl (x_8 - x_9), st_5))))) := by
      rw [fX7_extra, e1]
      simp only [ox]
      rw [qX6_usable hc.2.2.1 hc.2.2.2.1 hn hp, ob_s, zhas _ (by omega), us]
    have E8 : ∀ r, oj1 (fun (v_8 : Int32) => obS (fX8_may v_8 (2 : Int32) (tC M)) (fun x_10 st_9 => (if x_10 = 0 then some ((0 : Int32), st_9) else obV (fX8_weighs (st_9.1 1 25) st_9) (fun st_11 => ob (fX8_bestOf (st_11.1 1 1) st_11) (fun x_12 => ob (fX8_energyIn (x_12 ||| ((1 : Int32) <<< (nI k &&& 31))) st_11) (fun x_14 => ob (fX8_energyIn x_12 st_11) (fun x_15 => some (x_14 - x_15, st_11)))))))) (fun j_7 => (if (if (a 25).testBit (w 0 k / 100) then (1 : Int32) else 0) = 0 then (j_7 (1 : Int32)) else (j_7 (0 : Int32)))) = r → fX8_extra (nI k) M = r := by
      intro r hr
      rw [fX8_extra, ol_tC, e2, ob_s, qmay1 (tC_t M) (by decide), obS_s, if_neg (by decide), qdev hg hn hp hk1, ob_s, qfail hg (by omega), ob_s]
      exact hr
    have ud : usD (a 25) w k = !((a 25).testBit (w 0 k / 100)) := rfl
    cases q : (a 25).testBit (w 0 k / 100)
    · rw [ud, q] at E7
      rw [q] at E8
      obtain ⟨p, C1, M1, e, b0, b1, b2, b3, b4, b5, b6, b7, b8, b9⟩ := best_both (F := a 25) (E := a 1) hc.2.2.1 hc.2.2.2.1 hg hk.2.2.2 hk.2.2.1 (by omega)
      have hc1 : cS C1.1 15 a n w := by rw [b2]; exact hc
      have hg1 : gR (M1.1 1) a n w := by rw [b4]; exact hg
      refine endG (C' := C1) (M' := M1) (v := nI (eS a w (hb (nI (bS p n) ||| ((1 : Int32) <<< (nI k &&& 31)))) n) - nI (eS a w (hb (nI (bS p n))) n)) ?_ (E8 _ ?_) (by rw [b4]; exact tC_t M) (RR_same h hm (fun i _ => by rw [b2]) b4)
      · rw [fL_extra, E7, if_neg (by decide), hc.1.2.1, b1, obS_s, qX2_energyIn hc1.2.2.1 hc1.2.2.2.1 hk.2.2.2 hk.2.2.1, ob_s, qX2_energyIn hc1.2.2.1 hc1.2.2.2.1 hk.2.2.2 hk.2.2.1, ob_s]
        rfl
      · rw [oj1_e, if_pos (by rfl)]
        dsimp only
        rw [qmay1 (tC_t M) (by decide), obS_s, if_neg (by decide), hg.1 25 (by decide), b3, obV_st, hg1.1 1 (by decide), b7, ob_s, qX8_energyIn hg1 hk.2.2.2 hk.2.2.1, ob_s, qX8_energyIn hg1 hk.2.2.2 hk.2.2.1, ob_s]
    · rw [ud, q] at E7
      rw [q] at E8
      refine endE h hm (k := 2) (r := 0) (by decide) ?_ (E8 _ ?_)
      · rw [fL_extra, E7, if_pos (by rfl)]
        simp only [olx]
        rw [if_neg (by decide), if_pos trivial]
      · rw [oj1_e, if_neg (by decide)]
        dsimp only
        rw [qmay0 (tC_t M) (by decide), obS_s, if_pos rfl]
theorem c_gainOfRepair (h : RR m C M) (hm : m < 512) (x : Int32) : cKI (fL_gainOfRepair x) (fX8_gainOfRepair x) (RR (m + 1)) C M := by
  obtain ⟨a, n, w, hc, hg, hk⟩ := RR_un h
  obtain ⟨hn, h9, hp⟩ := oK_p hk
  obtain ⟨s0, s1, s2, -⟩ := hk.2.1
  rcases dev_or hc hg hk x with ⟨e1, e2⟩ | ⟨k, hk1, rfl, e1, e2⟩
  · refine endE h hm (k := 1) (r := 0) (by decide) ?_ ?_
    · rw [fL_gainOfRepair, fX7_gainOfRepair, e1]
      simp only [ox, olx, if_true]
    · rw [fX8_gainOfRepair, ol_tC, e2, ob_s, qmay0 (tC_t M) (by decide), obS_s, if_pos rfl]
  · have d4 := hc.2.2.1.2.2 k (by omega)
    obtain ⟨t1, t2, t3, t4, t5⟩ := fail_b hk.2.2.1.2.1 (show k < 5 by omega)
    obtain ⟨v, C1, M1, v0, v1, v2, v3, v4, -⟩ := val_both (C := C) (F := a 25) (E := a 1) hc.2.2.1 hc.2.2.2.1 hg hk.2.2.2 hk.2.2.1 (by omega)
    have hg1 : gR (M1.1 1) a n w := by rw [v4]; exact hg
    obtain ⟨u, C2, M2, u0, u1, u2, u3, u4, -⟩ := val_both (C := C) (F := clr (a 25) k) (E := a 1) hc.2.2.1 hc.2.2.2.1 hg1 hk.2.2.2 hk.2.2.1 (by omega)
    have E8 : fX8_gainOfRepair (nI k) M = some (nI u - nI v, M2) := by
      rw [fX8_gainOfRepair, ol_tC, e2, ob_s, qmay1 (tC_t M) (by decide), obS_s, if_neg (by decide), hg.1 25 (by decide), hg.1 1 (by decide), v3, obS_s, hg1.1 25 (by decide), hg1.1 1 (by decide), t1, u3, obS_s]
    have hM2 : M2.1 = (tC M).1 := by rw [u4, v4]
    cases q : (a 25).testBit k
    · -- it has not failed
      have ec : clr (a 25) k = a 25 := by unfold clr; rw [q]; rfl
      have euv : u = v := by
        obtain ⟨v', C3, M3, -, w1, -, -, -, -⟩ := val_both (C := C) (st := M1) (F := a 25) (E := a 1) hc.2.2.1 hc.2.2.2.1 hg1 hk.2.2.2 hk.2.2.1 (by omega)
        rw [ec] at u1
        rw [v1] at u1
        have := (Prod.mk.inj (Option.some.inj u1)).1
        rw [zeq (by omega) (by omega)] at this
        exact this.symm
      refine endG (C' := C) (M' := M2) (v := 0) ?_ (by rw [E8, euv, Int32.sub_self]) (by rw [hM2]; exact tC_t M) (RR_same h hm (fun _ _ => rfl) hM2)
      rw [fL_gainOfRepair, fX7_gainOfRepair, e1]
      simp only [ox]
      rw [zin (by omega) (by omega), zcl (by omega), d4, q, og_t, if_pos (by rfl)]
      rfl
    · have hset : nI (bS (usD (a 25) w) n) ||| nI (bS (onD w k) n) = nI (bS (usD (clr (a 25) k) w) n) := by
        rw [zor]
        refine congrArg nI (tb_eq ?_)
        intro i
        rw [Nat.testBit_or, bS_bit, bS_bit, bS_bit]
        by_cases qi : i < n
        · have hwi := (hk.2.2.2.2.1 i qi).1
          simp only [qi, decide_true, Bool.true_and]
          unfold usD onD
          rw [(t5 (w 0 i / 100) (by omega)).1]
          by_cases qk : w 0 i / 100 = k
          · rw [qk, q]; simp
          · simp [qk]
        · simp [qi]
      have hc2 : cS C2.1 15 a n w := by rw [u2]; exact hc
      obtain ⟨v', C3, M3, -, w1, w2, w3, -, -⟩ := val_both (C := C2) (st := tC M) (F := a 25) (E := a 1) hc2.2.2.1 hc2.2.2.2.1 hg hk.2.2.2 hk.2.2.1 (by omega)
      have evv : nI v' = nI v := by
        rw [v3] at w3
        exact ((Prod.mk.inj (Option.some.inj w3)).1).symm
      refine endG (C' := C3) (M' := M2) (v := nI u - nI v) ?_ E8 (by rw [hM2]; exact tC_t M) (RR_same h hm (fun i _ => by rw [w2, u2]) hM2)
      rw [fL_gainOfRepair, fX7_gainOfRepair, e1]
      simp only [ox]
      rw [zin (by omega) (by omega), zcl (by omega), d4, q, og_t, if_neg (by decide), qX6_usable hc.2.2.1 hc.2.2.2.1 hn hp, ob_s, qX1_blocksOn hc.2.2.2.1 hn hp (by omega), ob_s, hset, ol_e, hc.1.2.1, u1, obS_s, hc2.1.2.1, w1, obS_s, evv]
      rfl
end Q33
