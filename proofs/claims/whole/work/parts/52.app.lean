/-! PURE PART 23: append -/
section Q23
variable {m : Nat} {C M st : uSt}
def bt (p : Int32) (s : Nat) : Int32 := vp_nar .byte ((p >>> (nI s &&& 31)).toInt8.toInt32)
theorem byte_tab : ((List.range 256).all fun x => decide (vp_nar .byte ((Int8.ofNat x).toInt32) = sB x)) = true := by decide +kernel
theorem byteR (y : Int32) : ∃ x, x < 256 ∧ vp_nar .byte (y.toInt8.toInt32) = sB x ∧ y &&& 255 = nI x := by
  obtain ⟨Y, hY, rfl⟩ := zbig y
  refine ⟨Y % 256, by omega, ?_, ?_⟩
  · have e : (nI Y).toInt8 = Int8.ofNat (Y % 256) := by
      apply Int8.toBitVec_inj.mp
      apply BitVec.eq_of_toNat_eq
      show ((BitVec.ofNat 32 Y).signExtend 8).toNat = (BitVec.ofNat 8 (Y % 256)).toNat
      first | rw [BitVec.signExtend_eq_setWidth_of_le _ (by decide)] | rw [BitVec.signExtend_eq_setWidth_of_lt _ (by decide)]
      rw [BitVec.toNat_setWidth, BitVec.toNat_ofNat, BitVec.toNat_ofNat]
      omega
    rw [e]
    exact of_decide_eq_true (List.all_eq_true.mp byte_tab (Y % 256) (List.mem_range.mpr (by omega)))
  · rw [show (255 : Int32) = nI 255 from rfl, zand]
    congr 1
    exact Nat.and_two_pow_sub_one_eq_mod Y 8
theorem add_l (p : Int32) (ke : uSt → Option (Unit × uSt)) : ∀ j fu (st : uSt) l L, l + 8 = nI (8 * j) → j < fu → j ≤ 4 → st.1 1 1 = nI L → L + j ≤ 400 → ∃ st', fX5_addBytesOf_3 p ke fu st l = ke st' ∧ st'.1 1 1 = nI (L + j) ∧ (∀ i, i < j → st'.1 2 (L + i) = bt p (8 * (j - 1 - i))) ∧ (∀ i, i < L → st'.1 2 i = st.1 2 i) ∧ ∀ i, i ≠ 1 → i ≠ 2 → st'.1 i = st.1 i := by
  intro j
  induction j with
  | zero =>
    intro fu st l L hl hf _ h1 hL
    obtain ⟨fu, rfl⟩ : ∃ x, fu = x + 1 := ⟨fu - 1, by omega⟩
    have el : l = -8 := by
      have : l + 8 + -8 = nI (8 * 0) + -8 := by rw [hl]
      rw [Int32.add_assoc, show (8 : Int32) + -8 = 0 by decide, Int32.add_zero] at this
      rw [this]; decide
    subst el
    exact ⟨st, by rw [fX5_addBytesOf_3, if_pos (by decide)], h1, fun i hi => absurd hi (by omega), fun _ _ => rfl, fun _ _ _ => rfl⟩
  | succ j ih =>
    intro fu st l L hl hf h4 h1 hL
    obtain ⟨fu, rfl⟩ : ∃ x, fu = x + 1 := ⟨fu - 1, by omega⟩
    have el : l = nI (8 * j) := by
      have : l + 8 + -8 = nI (8 * (j + 1)) + -8 := by rw [hl]
      rw [Int32.add_assoc, show (8 : Int32) + -8 = 0 by decide, Int32.add_zero, show 8 * (j + 1) = 8 * j + 8 by omega, ← zadd, Int32.add_assoc, show nI 8 + -8 = 0 by decide, Int32.add_zero] at this
      exact this
    subst el
    obtain ⟨st', e1, e2, e3, e4, e5⟩ := ih fu (sI (sI st 2 L (bt p (8 * j))) 1 1 (nI (L + 1))) (nI (8 * j) + -8) (L + 1) (by rw [Int32.add_assoc, show (-8 : Int32) + 8 = 0 by decide, Int32.add_zero]) (by omega) (by omega) (by rw [sI_r, if_pos rfl]) (by omega)
    refine ⟨st', ?_, by rw [e2]; congr 1; omega, fun i hi => ?_, fun i hi => ?_, fun i h5 h6 => by rw [e5 i h5 h6, sI_n h5, sI_n h6]⟩
    · rw [fX5_addBytesOf_3, if_neg (nlt0 (by omega)), h1, if_neg (show ¬ (400 : Int32) ≤ nI L from nple (a := 400) (by omega) (by decide)), zin (by omega) (by omega), zcl (by omega), og_t, ol_e, ol_e, ol_e, sI_n (by decide), h1, zinc]
      exact e1
    · by_cases q : i = 0
      · subst q
        rw [Nat.add_zero, e4 L (by omega), sI_n (by decide), sI_r, if_pos rfl]
        rfl
      · have := e3 (i - 1) (by omega)
        rw [show L + 1 + (i - 1) = L + i by omega, show j - 1 - (i - 1) = j + 1 - 1 - i by omega] at this
        exact this
    · rw [e4 i (by omega), sI_n (by decide), sI_r, if_neg (by omega)]
theorem qadd (p : Int32) {L : Nat} (h1 : st.1 1 1 = nI L) (hL : L + 4 ≤ 400) : ∃ st', fX5_addBytesOf p st = some ((), st') ∧ st'.1 1 1 = nI (L + 4) ∧ (∀ i, i < 4 → st'.1 2 (L + i) = bt p (8 * (3 - i))) ∧ (∀ i, i < L → st'.1 2 i = st.1 2 i) ∧ ∀ i, i ≠ 1 → i ≠ 2 → st'.1 i = st.1 i := by
  obtain ⟨st', e1, e2, e3, e4, e5⟩ := add_l p (fun st_5 => some ((), st_5)) 4 FU st 24 L (by decide) (FU_lt (by decide)) (by decide) h1 hL
  exact ⟨st', by rw [fX5_addBytesOf]; exact e1, e2, e3, e4, e5⟩
def wv (p1 p2 p3 p4 p5 : Int32) (k : Nat) : Int32 := if 4 ≤ k then (if 8 ≤ k then (if 12 ≤ k then (if 16 ≤ k then p5 else p4) else p3) else p2) else p1
theorem app_l (p1 p2 p3 p4 p5 : Int32) {L : Nat} (hL : L + 20 ≤ 400) (ke : uSt → Option (Int32 × uSt)) : ∀ j k fu (st : uSt), k + j = 20 → j < fu → st.1 0 7 = nI L → ∃ st', fX8_append_36 p1 p2 p3 p4 p5 ke fu st (nI k) = ke st' ∧ (∀ i, k ≤ i → i < 20 → st'.1 6 (L + i) = (wv p1 p2 p3 p4 p5 i >>> (nI (24 - 8 * (i % 4)) &&& 31)) &&& 255) ∧ (∀ i, i < L + k → st'.1 6 i = st.1 6 i) ∧ ∀ i, i ≠ 6 → st'.1 i = st.1 i := by
  intro j
  induction j with
  | zero =>
    intro k fu st hk hf h7
    obtain ⟨fu, rfl⟩ : ∃ x, fu = x + 1 := ⟨fu - 1, by omega⟩
    obtain rfl : k = 20 := by omega
    exact ⟨st, by rw [fX8_append_36, if_pos (show (20 : Int32) ≤ nI 20 from Int32.le_refl _)], fun i h1 h2 => absurd h2 (by omega), fun _ _ => rfl, fun _ _ => rfl⟩
  | succ j ih =>
    intro k fu st hk hf h7
    obtain ⟨fu, rfl⟩ : ∃ x, fu = x + 1 := ⟨fu - 1, by omega⟩
    obtain ⟨st', e1, e2, e3, e4⟩ := ih (k + 1) fu (sI st 6 (L + k) ((wv p1 p2 p3 p4 p5 k >>> (nI (24 - 8 * (k % 4)) &&& 31)) &&& 255)) (by omega) (by omega) (by rw [sI_n (by decide)]; exact h7)
    refine ⟨st', ?_, fun i h1 h2 => ?_, fun i hi => ?_, fun i hi => by rw [e4 i hi, sI_n hi]⟩
    · have es : (24 : Int32) - ((8 : Int32) * (nI k - nI k / (4 : Int32) * (4 : Int32))) = nI (24 - 8 * (k % 4)) := by
        rw [show (24 : Int32) = nI 24 from rfl, show (8 : Int32) = nI 8 from rfl, show (4 : Int32) = nI 4 from rfl, zdiv (by omega) (by decide), zmul, zsub (by omega), show k - k / 4 * 4 = k % 4 by omega, zmul, zsub (by omega)]
      rw [fX8_append_36, if_neg (show ¬ (20 : Int32) ≤ nI k from nple (a := 20) (by omega) (by decide)), h7, es, zadd, zin (by omega) (by omega), zcl (by omega)]
      simp only [oj1, og, ol, zinc]
      rw [← e1]
      unfold wv
      by_cases q4 : 4 ≤ k
      · rw [if_pos (show (4 : Int32) ≤ nI k from ple (a := 4) q4 (by omega)), if_pos q4]
        by_cases q8 : 8 ≤ k
        · rw [if_pos (show (8 : Int32) ≤ nI k from ple (a := 8) q8 (by omega)), if_pos q8]
          by_cases q12 : 12 ≤ k
          · rw [if_pos (show (12 : Int32) ≤ nI k from ple (a := 12) q12 (by omega)), if_pos q12]
            by_cases q16 : 16 ≤ k
            · rw [if_pos (show (16 : Int32) ≤ nI k from ple (a := 16) q16 (by omega)), if_pos q16]
            · rw [if_neg (show ¬ (16 : Int32) ≤ nI k from nple (a := 16) (by omega) (by decide)), if_neg q16]
          · rw [if_neg (show ¬ (12 : Int32) ≤ nI k from nple (a := 12) (by omega) (by decide)), if_neg q12]
        · rw [if_neg (show ¬ (8 : Int32) ≤ nI k from nple (a := 8) (by omega) (by decide)), if_neg q8]
      · rw [if_neg (show ¬ (4 : Int32) ≤ nI k from nple (a := 4) (by omega) (by decide)), if_neg q4]
    · by_cases q : i = k
      · rw [q, e3 (L + k) (by omega), sI_r, if_pos rfl]
      · exact e2 i (by omega) h2
    · rw [e3 i (by omega), sI_r, if_neg (by omega)]
theorem c_append (h : RR m C M) (hm : m < 512) (x1 x2 x3 x4 x5 : Int32) : cKI (fL_append x1 x2 x3 x4 x5) (fX8_append x1 x2 x3 x4 x5) (RR (m + 1)) C M := by
  obtain ⟨L, hL, t1, t2, t3⟩ := h.2.2.1
  have t2' : (tC M).1 0 7 = nI L := by rw [tC_f M (by decide)]; exact t2
  by_cases q : L ≤ 380
  · obtain ⟨C1, a1, a2, a3, a4, a5⟩ := qadd (st := C) x1 t1 (by omega)
    obtain ⟨C2, b1, b2, b3, b4, b5⟩ := qadd (st := C1) x2 a2 (by omega)
    obtain ⟨C3, c1, c2, c3, c4, c5⟩ := qadd (st := C2) x3 b2 (by omega)
    obtain ⟨C4, d1, d2, d3, d4, d5⟩ := qadd (st := C3) x4 c2 (by omega)
    obtain ⟨C5, e1, e2, e3, e4, e5⟩ := qadd (st := C4) x5 d2 (by omega)
    obtain ⟨M1, g1, g2, g3, g4⟩ := app_l x1 x2 x3 x4 x5 (L := L) (by omega) (fun st_12 => ol (sI st_12 0 7 ((st_12.1 0 7) + (20 : Int32))) (fun st_13 => some (st_13.1 0 7, st_13))) 20 0 FU (tC M) (by omega) (FU_lt (by decide)) t2'
    have m7 : M1.1 0 7 + 20 = nI (L + 20) := by rw [g4 0 (by decide), t2']; exact zadd L 20
    have F : ∀ i, i ≠ 1 → i ≠ 2 → C5.1 i = C.1 i := fun i h1 h2 => by rw [e5 i h1 h2, d5 i h1 h2, c5 i h1 h2, b5 i h1 h2, a5 i h1 h2]
    refine endG (C' := C5) (M' := sI M1 0 7 (nI (L + 20))) (v := nI (L + 20)) ?_ ?_ ?_ ?_
    · rw [fL_append, fX7_append, t1, if_pos (show nI L ≤ (380 : Int32) from ple (b := 380) q (by decide)), a1, obV_st, b1, obV_st, c1, obV_st, d1, obV_st, e1, obV_st, e2]
      rfl
    · rw [fX8_append, ol_tC, t2']
      simp only [oj1]
      rw [if_neg (show ¬ (400 : Int32) < nI L + 20 by rw [show nI L + (20 : Int32) = nI (L + 20) from zadd L 20]; exact nplt (a := 400) (by omega) (by decide)), qmay1 (tC_t M) (by decide), obS_s, if_neg (by decide)]
      refine g1.trans ?_
      rw [m7, ol_e, sI_r, if_pos rfl]
    · rw [sI_r, if_neg (by decide), g4 0 (by decide)]; exact tC_t M
    · have GM : ∀ i, i ≠ 0 → i ≠ 6 → (sI M1 0 7 (nI (L + 20))).1 i = M.1 i := fun i h0 h6 => by rw [sI_n h0, g4 i h6, tC_n M h0]
      refine ⟨pR_fr h.1 (Nat.le_succ m) hm (fun i _ _ => F i (by omega) (by omega)) (GM 1 (by decide) (by decide)), ?_⟩
      obtain ⟨q1, q2, q3, q4, q5⟩ := h.2
      refine ⟨fun j hj => ?_, ⟨L + 20, by omega, by rw [e2], by rw [sI_r, if_pos rfl], fun i hi => ?_⟩, ?_, ?_, ?_⟩
      · rw [F 4 (by decide) (by decide), GM 5 (by decide) (by decide)]
        obtain ⟨k1, k2⟩ := q1 j hj
        refine ⟨k1, ?_⟩
        rcases k2 with k2 | ⟨k2, k3⟩
        · exact Or.inl k2
        · exact Or.inr ⟨k2, pR_fr k3 (Nat.le_succ m) hm (fun i _ _ => F i (by omega) (by omega)) (by rw [GM 3 (by decide) (by decide)])⟩
      · rw [sI_n (by decide)]
        by_cases qi : i < L
        · rw [g3 i (by omega), tC_n M (by decide), e4 i (by omega), d4 i (by omega), c4 i (by omega), b4 i (by omega), a4 i (by omega)]
          exact t3 i qi
        · obtain ⟨r, hr⟩ : ∃ r, i = L + r := ⟨i - L, by omega⟩
          have hr20 : r < 20 := by omega
          rw [hr, g2 r (by omega) hr20]
          have key : C5.1 2 (L + r) = bt (wv x1 x2 x3 x4 x5 r) (24 - 8 * (r % 4)) := by
            unfold wv
            by_cases q4 : 4 ≤ r
            · rw [if_pos q4]
              by_cases q8 : 8 ≤ r
              · rw [if_pos q8]
                by_cases q12 : 12 ≤ r
                · rw [if_pos q12]
                  by_cases q16 : 16 ≤ r
                  · rw [if_pos q16]
                    have := e3 (r - 16) (by omega)
                    rw [show L + 4 + 4 + 4 + 4 + (r - 16) = L + r by omega, show 8 * (3 - (r - 16)) = 24 - 8 * (r % 4) by omega] at this
                    exact this
                  · rw [if_neg q16, e4 _ (by omega)]
                    have := d3 (r - 12) (by omega)
                    rw [show L + 4 + 4 + 4 + (r - 12) = L + r by omega, show 8 * (3 - (r - 12)) = 24 - 8 * (r % 4) by omega] at this
                    exact this
                · rw [if_neg q12, e4 _ (by omega), d4 _ (by omega)]
                  have := c3 (r - 8) (by omega)
                  rw [show L + 4 + 4 + (r - 8) = L + r by omega, show 8 * (3 - (r - 8)) = 24 - 8 * (r % 4) by omega] at this
                  exact this
              · rw [if_neg q8, e4 _ (by omega), d4 _ (by omega), c4 _ (by omega)]
                have := b3 (r - 4) (by omega)
                rw [show L + 4 + (r - 4) = L + r by omega, show 8 * (3 - (r - 4)) = 24 - 8 * (r % 4) by omega] at this
                exact this
            · rw [if_neg q4, e4 _ (by omega), d4 _ (by omega), c4 _ (by omega), b4 _ (by omega)]
              have := a3 r (by omega)
              rw [show 8 * (3 - r) = 24 - 8 * (r % 4) by omega] at this
              exact this
          rw [key]
          obtain ⟨z, z1, z2, z3⟩ := byteR (wv x1 x2 x3 x4 x5 r >>> (nI (24 - 8 * (r % 4)) &&& 31))
          exact ⟨z, z1, z2, z3⟩
      · rw [F 0 (by decide) (by decide), sI_r, if_neg (by decide), g4 0 (by decide), tC_f M (by decide)]; exact q3
      · rw [F 0 (by decide) (by decide), sI_r, if_neg (by decide), g4 0 (by decide), tC_f M (by decide)]; exact q4
      · unfold dR; rw [F 29 (by decide) (by decide), F 37 (by decide) (by decide), F 42 (by decide) (by decide), F 36 (by decide) (by decide), F 30 (by decide) (by decide)]; exact q5
  · refine endE h hm (k := 1) (r := 0) (by decide) ?_ ?_
    · rw [fL_append, fX7_append, t1, if_neg (show ¬ nI L ≤ (380 : Int32) from nple (b := 380) (by omega) (by omega))]
      simp only [olx, if_true]
    · rw [fX8_append, ol_tC, t2']
      simp only [oj1]
      rw [if_pos (show (400 : Int32) < nI L + 20 by rw [show nI L + (20 : Int32) = nI (L + 20) from zadd L 20]; exact plt (a := 400) (by omega) (by omega)), qmay0 (tC_t M) (by decide), obS_s, if_pos rfl]
end Q23
