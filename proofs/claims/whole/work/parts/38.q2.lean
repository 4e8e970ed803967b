/-! PURE PART 9: device, block, find, oldest, need, energyOf, valueOf -/
section Q9
variable {m : Nat} {C M : uSt}
theorem hb_bS {n : Nat} (p : Nat → Bool) (hn : n ≤ 24) : ∀ k, k < n → hb (nI (bS p n)) k = p k := fun k hk => bS_hb p hk hn
theorem eS_b {a : Nat → Nat} {w : Nat → Nat → Nat} {n : Nat} (p : Nat → Bool) (hn : n ≤ 24) : eS a w (hb (nI (bS p n))) n = eS a w p n := eS_ext n (hb_bS p hn)
theorem vU_b {w : Nat → Nat → Nat} {n : Nat} (p : Nat → Bool) (hn : n ≤ 24) : vU w (hb (nI (bS p n))) n = vU w p n := vU_ext n (hb_bS p hn)
theorem c_device (h : RR m C M) (hm : m < 512) (x y : Int32) : cKI (fL_device x y) (fX8_device x y) (RR (m + 1)) C M := by
  obtain ⟨a, n, w, hc, hg, hk⟩ := RR_un h
  obtain ⟨hn, h9, hp⟩ := oK_p hk
  rcases dev_or hc hg hk x with ⟨e1, e2⟩ | ⟨k, hk1, rfl, e1, e2⟩
  · refine endE h hm (k := 1) (r := 0) (by decide) ?_ ?_
    · rw [fL_device, fX7_device, e1]
      simp only [ox, olx, if_true]
    · rw [fX8_device, ol_tC, e2]
      simp only [ob]
      rw [qmay0 (tC_t M) (by decide)]
      simp only [obS, if_true]
  · have hw : fX7_device (nI k) y C = (if y.toInt < 0 ∨ 6 < y.toInt then some (.inr "java/lang/IllegalArgumentException", C) else if y = 0 then og (inB (nI k) 5) (some (.inl (C.1 ((15 + 3) + 1) (nI k).toNatClampNeg), C)) else if y = 1 then og (inB (nI k) 5) (some (.inl (C.1 ((15 + 3) + 2) (nI k).toNatClampNeg), C)) else if y = 2 then og (inB (nI k) 5) (some (.inl (C.1 ((15 + 3) + 3) (nI k).toNatClampNeg), C)) else if y = 3 then og (inB (nI k) 5) ((if (C.1 ((15 + 3) + 4) (nI k).toNatClampNeg) = 0 then some (.inl (0 : Int32), C) else some (.inl (1 : Int32), C))) else if y = 4 then some (.inl (nI (bc (bS (onD w k) n))), C) else if y = 5 then some (.inl (nI (vU w (onD w k) n)), C) else if y = 6 then some (.inl (nI (eS a w (onD w k) n)), C) else none) := by
      rw [fX7_device, e1]
      simp only [ox]
      rw [qX1_blocksOn hc.2.2.2.1 hn hp (by omega)]
      simp only [ob]
      rw [qbitCount (bS_lt24 _ hn), qX1_valueIn hc.2.2.2.1 hn, vU_b _ hn, qX2_energyIn hc.2.2.1 hc.2.2.2.1 hk.2.2.2 hk.2.2.1, eS_b _ hn]
    obtain ⟨d1, d2, d3⟩ := hc.2.2.1.2.1 k hk1
    have d4 := hc.2.2.1.2.2 k (by omega)
    have bad : ∀ z : Int32, (z.toInt < 0 ∨ 6 < z.toInt) → fX8_isIn z 0 6 = some 0 → cKI (fL_device (nI k) z) (fX8_device (nI k) z) (RR (m + 1)) C M ∨ True := fun _ _ _ => Or.inr trivial
    have good : ∀ z, z ≤ 6 → y = nI z → ∀ v : Int32, fX7_device (nI k) y C = some (.inl v, C) → (if (3 : Int32) ≤ y then (if y = (3 : Int32) then ob (fX8_hasFailed (nI k) (tC M)) (fun x_8 => (if x_8 = 0 then some ((0 : Int32), tC M) else some ((1 : Int32), tC M))) else ob (fX8_setOf (nI k) (tC M)) (fun x_9 => (if y = (4 : Int32) then ob (fX8_bits x_9) (fun x_11 => some (x_11, tC M)) else (if y = (5 : Int32) then ob (fX8_valueIn x_9 (tC M)) (fun x_12 => some (x_12, tC M)) else ob (fX8_energyIn x_9 (tC M)) (fun x_13 => some (x_13, tC M)))))) else og (inB (((10 : Int32) + ((3 : Int32) * nI k)) + y) 109) (some ((tC M).1 1 (((10 : Int32) + ((3 : Int32) * nI k)) + y).toNatClampNeg, tC M))) = some (v, tC M) → cKI (fL_device (nI k) y) (fX8_device (nI k) y) (RR (m + 1)) C M := by
      intro z hz ez v f1 f2
      refine endQ h hm (v := v) ?_ ?_
      · rw [fL_device, f1]
        rfl
      · rw [fX8_device, ol_tC, e2]
        simp only [ob]
        rw [qmay1 (tC_t M) (by decide)]
        simp only [obS]
        rw [if_neg (by decide), show fX8_isIn y 0 6 = some 1 by rw [ez]; exact qisIn1 (lo := 0) (hi := 6) (by omega) (by omega) hz (by decide)]
        simp only [ob]
        rw [qmay1 (tC_t M) (by decide)]
        simp only [obS]
        rw [if_neg (by decide)]
        exact f2
    have wrong : fX8_isIn y 0 6 = some 0 → (y.toInt < 0 ∨ 6 < y.toInt) → cKI (fL_device (nI k) y) (fX8_device (nI k) y) (RR (m + 1)) C M := by
      intro f1 f2
      refine endE h hm (k := 2) (r := 0) (by decide) ?_ ?_
      · rw [fL_device, hw, if_pos f2]
        simp only [olx, if_true]
        rw [if_neg (by decide)]
      · rw [fX8_device, ol_tC, e2]
        simp only [ob]
        rw [qmay1 (tC_t M) (by decide)]
        simp only [obS]
        rw [if_neg (by decide), f1]
        simp only [ob]
        rw [qmay0 (tC_t M) (by decide)]
        simp only [obS, if_true]
    rcases zn0 y with q | ⟨z, hz, ey⟩
    · exact wrong (qisIn_lo q) (Or.inl (by have := Int32.lt_iff_toInt_lt.mp q; simpa using this))
    · by_cases q : 6 < z
      · exact wrong (by rw [ey]; exact qisInN (lo := 0) (hi := 6) hz q (by decide)) (Or.inr (by rw [ey, zI hz]; omega))
      · rw [hw] at good
        subst ey
        have gc : ∀ z, z < 3 → og (inB (((10 : Int32) + ((3 : Int32) * nI k)) + nI z) 109) (some ((tC M).1 1 (((10 : Int32) + ((3 : Int32) * nI k)) + nI z).toNatClampNeg, tC M)) = some (nI (a (10 + 3 * k + z)), tC M) := by
          intro z hz
          rw [show ((10 : Int32) + ((3 : Int32) * nI k)) + nI z = nI (10 + 3 * k + z) by rw [show (10 : Int32) = nI 10 from rfl, show (3 : Int32) = nI 3 from rfl, zmul, zadd, zadd], zin (by omega) (by omega), zcl (by omega), hg.1 _ (by omega)]
          rfl
        have ic : inB (nI k) 5 = true := zin (by omega) (by omega)
        rw [ic, zcl (by omega), d1, d2, d3, d4] at good
        have sO := qX8_setOf hg hn hp (i := k) (by omega)
        rcases (show z = 0 ∨ z = 1 ∨ z = 2 ∨ z = 3 ∨ z = 4 ∨ z = 5 ∨ z = 6 by omega) with rfl | rfl | rfl | rfl | rfl | rfl | rfl
        · exact good 0 (by decide) rfl (nI (a (10 + 3 * k))) rfl (gc 0 (by decide))
        · exact good 1 (by decide) rfl (nI (a (10 + 3 * k + 1))) rfl (gc 1 (by decide))
        · exact good 2 (by decide) rfl (nI (a (10 + 3 * k + 2))) rfl (gc 2 (by decide))
        · refine good 3 (by decide) rfl (if (a 25).testBit k then 1 else 0) ?_ ?_
          · show (if (if (a 25).testBit k then nI 1 else nI 0) = 0 then some (Sum.inl (0 : Int32), C) else some (Sum.inl (1 : Int32), C)) = _
            cases (a 25).testBit k <;> rfl
          · rw [if_pos (by decide), if_pos (by rfl), qfail hg (by omega)]
            cases (a 25).testBit k <;> rfl
        · refine good 4 (by decide) rfl (nI (bc (bS (onD w k) n))) rfl ?_
          rw [if_pos (by decide), if_neg (by decide), sO]
          simp only [ob]
          rw [if_pos (by rfl), qbits (bS_lt24 _ hn)]
        · refine good 5 (by decide) rfl (nI (vU w (onD w k) n)) rfl ?_
          rw [if_pos (by decide), if_neg (by decide), sO]
          simp only [ob]
          rw [if_neg (by decide), if_pos (by rfl), qX8_valueIn hg hn, vU_b _ hn]
        · refine good 6 (by decide) rfl (nI (eS a w (onD w k) n)) rfl ?_
          rw [if_pos (by decide), if_neg (by decide), sO]
          simp only [ob]
          rw [if_neg (by decide), if_neg (by decide), qX8_energyIn hg hk.2.2.2 hk.2.2.1, eS_b _ hn]
theorem qneed {n : Nat} {a : Nat → Nat} {w : Nat → Nat → Nat} {f : uSt} (hc : cS f.1 15 a n w) (hk : oK m a n w) : fX6_neededEnergy 15 f = some (nI (eS a w (usD (a 25) w) n)) := by
  obtain ⟨hn, h9, hp⟩ := oK_p hk
  rw [fX6_neededEnergy, qX6_usable hc.2.2.1 hc.2.2.2.1 hn hp]
  simp only [ob]
  rw [qX2_energyIn hc.2.2.1 hc.2.2.2.1 hk.2.2.2 hk.2.2.1, eS_b _ hn]
theorem qneeded {n : Nat} {a : Nat → Nat} {w : Nat → Nat → Nat} {g : uSt} (hg : gR (g.1 1) a n w) (hk : oK m a n w) : fX8_needed g = some (nI (eS a w (usD (a 25) w) n)) := by
  obtain ⟨hn, h9, hp⟩ := oK_p hk
  rw [fX8_needed, qX8_possible hg hn hp]
  simp only [ob]
  rw [qX8_energyIn hg hk.2.2.2 hk.2.2.1, eS_b _ hn]
theorem c_need (h : RR m C M) (hm : m < 512) : cQ0 fX7_need fX8_need (RR (m + 1)) C M := by
  obtain ⟨a, n, w, hc, hg, hk⟩ := RR_un h
  refine ⟨_, tC M, by rw [fX7_need, qneed hc hk]; rfl, ?_, RR_t h hm⟩
  rw [fX8_need, ol_tC, qneeded hg hk]
  rfl
theorem c_block (h : RR m C M) (hm : m < 512) (x y : Int32) : cKI (fL_block x y) (fX8_block x y) (RR (m + 1)) C M := by
  obtain ⟨a, n, w, hc, hg, hk⟩ := RR_un h
  obtain ⟨hn, h9, hp⟩ := oK_p hk
  rcases blk_or hc hg hk x with ⟨e1, e2⟩ | ⟨k, hk1, rfl, e1, e2⟩
  · refine endE h hm (k := 1) (r := 0) (by decide) ?_ ?_
    · rw [fL_block, fX7_block, e1]
      simp only [ox, olx, if_true]
    · rw [fX8_block, ol_tC, e2]
      simp only [ob]
      rw [qmay0 (tC_t M) (by decide)]
      simp only [obS, if_true]
  · obtain ⟨d1, d2, d3, d4⟩ := hc.2.2.2.1.2 k hk1
    have hp1 := hp k hk1
    have good : ∀ z, z ≤ 3 → y = nI z → ∀ v : Int32, fX7_block (nI k) y C = some (.inl v, C) → (if y = 0 then ob (fX8_deviceOf (nI k) (tC M)) (fun x_8 => some (x_8, tC M)) else (if y = (1 : Int32) then ob (fX8_of (nI k) (0 : Int32) (tC M)) (fun x_9 => some (x_9 - x_9 / (100 : Int32) * (100 : Int32), tC M)) else (if y = (2 : Int32) then ob (fX8_of (nI k) (1 : Int32) (tC M)) (fun x_10 => some (x_10, tC M)) else ob (fX8_of (nI k) (2 : Int32) (tC M)) (fun x_11 => some (((tC M).1 1 26) - x_11, tC M))))) = some (v, tC M) → cKI (fL_block (nI k) y) (fX8_block (nI k) y) (RR (m + 1)) C M := by
      intro z hz ez v f1 f2
      refine endQ h hm (v := v) ?_ ?_
      · rw [fL_block, f1]
        rfl
      · rw [fX8_block, ol_tC, e2]
        simp only [ob]
        rw [qmay1 (tC_t M) (by decide)]
        simp only [obS]
        rw [if_neg (by decide), show fX8_isIn y 0 3 = some 1 by rw [ez]; exact qisIn1 (lo := 0) (hi := 3) (by omega) (by omega) hz (by decide)]
        simp only [ob]
        rw [qmay1 (tC_t M) (by decide)]
        simp only [obS]
        rw [if_neg (by decide)]
        exact f2
    have wrong : fX8_isIn y 0 3 = some 0 → (y.toInt < 0 ∨ 3 < y.toInt) → cKI (fL_block (nI k) y) (fX8_block (nI k) y) (RR (m + 1)) C M := by
      intro f1 f2
      refine endE h hm (k := 2) (r := 0) (by decide) ?_ ?_
      · rw [fL_block, fX7_block, e1]
        simp only [ox]
        rw [if_pos f2]
        simp only [olx, if_true]
        rw [if_neg (by decide)]
      · rw [fX8_block, ol_tC, e2]
        simp only [ob]
        rw [qmay1 (tC_t M) (by decide)]
        simp only [obS]
        rw [if_neg (by decide), f1]
        simp only [ob]
        rw [qmay0 (tC_t M) (by decide)]
        simp only [obS, if_true]
    rcases zn0 y with q | ⟨z, hz, ey⟩
    · exact wrong (qisIn_lo q) (Or.inl (by have := Int32.lt_iff_toInt_lt.mp q; simpa using this))
    · by_cases q : 3 < z
      · exact wrong (by rw [ey]; exact qisInN (lo := 0) (hi := 3) hz q (by decide)) (Or.inr (by rw [ey, zI hz]; omega))
      · rw [fX7_block, e1] at good
        simp only [ox] at good
        subst ey
        have ic : inB (nI k) 24 = true := zin (by omega) (by omega)
        rw [ic, zcl (by omega), d1, d2, d3, d4, hc.2.2.2.2.2.1, qdev hg hn hp hk1, qof0 hg hn hk1, qof1 hg hn hk1, qof2 hg hn hk1, hg.1 26 (by decide)] at good
        rcases (show z = 0 ∨ z = 1 ∨ z = 2 ∨ z = 3 by omega) with rfl | rfl | rfl | rfl
        · exact good 0 (by decide) rfl (nI (w 0 k / 100)) rfl rfl
        · refine good 1 (by decide) rfl (nI (w 0 k % 100)) rfl ?_
          rw [if_neg (by decide), if_pos (by rfl)]
          simp only [ob]
          rw [show (100 : Int32) = nI 100 from rfl, zdiv (by omega) (by decide), zmul, zsub (by omega), show w 0 k - w 0 k / 100 * 100 = w 0 k % 100 by omega]
        · exact good 2 (by decide) rfl (nI (w 1 k)) rfl rfl
        · exact good 3 (by decide) rfl (nI (a 26) - nI (w 2 k)) rfl rfl
theorem c_find (h : RR m C M) (hm : m < 512) (x y : Int32) : cKI (fL_find x y) (fX8_find x y) (RR (m + 1)) C M := by
  obtain ⟨a, n, w, hc, hg, hk⟩ := RR_un h
  obtain ⟨hn, h9, hp⟩ := oK_p hk
  rcases plc_or hc hg hk x y with ⟨e1, e2⟩ | ⟨k, z, hk1, hz, rfl, rfl, e0, e1, e2⟩
  · refine endE h hm (k := 1) (r := 0) (by decide) ?_ ?_
    · rw [fL_find, fX7_find]
      rcases e1 with e1 | ⟨e1, e3⟩
      · rw [e1]
        simp only [ox, olx, if_true]
      · rw [e1]
        simp only [ox]
        rw [e3]
        simp only [olx, if_true]
    · rw [fX8_find, ol_tC, e2]
      simp only [ob]
      rw [qmay0 (tC_t M) (by decide)]
      simp only [obS, if_true]
  · have f1 : fX7_find (nI k) (nI z) C = (if ixF w (100 * k + z) n 0 = -1 then some (.inr "java/util/NoSuchElementException", C) else some (.inl (ixF w (100 * k + z) n 0), C)) := by
      rw [fX7_find, e0]
      simp only [ox]
      rw [e1]
      simp only [ox]
      rw [qX1_indexOf hc.2.2.2.1 hn hp (by omega) hz]
      rfl
    have f2 : ∀ r, (oj1 (fun (v_8 : Int32) => obS (fX8_may v_8 (2 : Int32) (tC M)) (fun x_10 st_9 => (if x_10 = 0 then some ((0 : Int32), st_9) else some (ixF w (100 * k + z) n 0, st_9)))) (fun j_7 => (if ixF w (100 * k + z) n 0 = (-1 : Int32) then (j_7 (0 : Int32)) else (j_7 (1 : Int32))))) = r → fX8_find (nI k) (nI z) M = r := by
      intro r hr
      rw [fX8_find, ol_tC, e2]
      simp only [ob]
      rw [qmay1 (tC_t M) (by decide)]
      simp only [obS]
      rw [if_neg (by decide), qX8_blockAt hg hn hp (by omega) hz]
      exact hr
    by_cases q : ixF w (100 * k + z) n 0 = -1
    · refine endE h hm (k := 2) (r := 0) (by decide) ?_ (f2 _ ?_)
      · rw [fL_find, f1, if_pos q]
        simp only [olx, if_true]
        rw [if_neg (by decide)]
      · simp only [oj1]
        rw [if_pos q, qmay0 (tC_t M) (by decide)]
        simp only [obS, if_true]
    · refine endQ h hm (v := ixF w (100 * k + z) n 0) ?_ (f2 _ ?_)
      · rw [fL_find, f1, if_neg q]
        rfl
      · simp only [oj1]
        rw [if_neg q, qmay1 (tC_t M) (by decide)]
        simp only [obS]
        rw [if_neg (by decide)]
end Q9
