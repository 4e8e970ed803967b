/-! PURE PART 19b: clean, flushDevice -/
section Q19b
variable {m : Nat} {C M st : uSt} {a : Nat → Nat} {n : Nat} {w : Nat → Nat → Nat}
theorem c_flushDevice (h : RR m C M) (hm : m < 512) (x : Int32) : cKI (fL_flushDevice x) (fX8_flushDevice x) (RR (m + 1)) C M := by
  obtain ⟨a, n, w, hc, hg, hk⟩ := RR_un h
  obtain ⟨hn, h9, hp⟩ := oK_p hk
  obtain ⟨s0, s1, s2, s3, s4, s5, s6, s7, s8, s9, s10, s11, s12, s13⟩ := hk.2.1
  rcases dev_or hc hg hk x with ⟨e1, e2⟩ | ⟨k, hk1, rfl, e1, e2⟩
  · refine endE h hm (k := 1) (r := 0) (by decide) ?_ ?_
    · rw [fL_flushDevice, fX7_flushDevice, e1]
      simp only [ox, olx, if_true]
    · rw [fX8_flushDevice, ol_tC, e2]
      simp only [ob]
      rw [qmay0 (tC_t M) (by decide)]
      simp only [obS, if_true]
  · have d4 := hc.2.2.1.2.2 k (by omega)
    have hE := eS_le hk.2.2.2 hk.2.2.1 (onD w k) n (Nat.le_refl _)
    have E7 : fX7_flushDevice (nI k) C = (if nI (a 27) = 0 then (if (if (a 25).testBit k then nI 1 else nI 0) = 0 then (if nI (eS a w (onD w k) n) ≤ nI (a 1) then obS (fX7_flushSet (nI (bS (onD w k) n)) C) (fun x_8 st_7 => some (.inl x_8, st_7)) else some (.inr "java/lang/IllegalStateException", C)) else some (.inr "java/lang/IllegalStateException", C)) else some (.inr "java/lang/IllegalStateException", C)) := by
      rw [fX7_flushDevice, e1]
      simp only [ox]
      rw [qX1_blocksOn hc.2.2.2.1 hn hp (by omega)]
      simp only [ob, oj0]
      rw [zin (by omega) (by omega), zcl (by omega), d4, qX2_energyIn hc.2.2.1 hc.2.2.2.1 hk.2.2.2 hk.2.2.1, eS_b _ hn, hc.2.2.2.2.2.2, hc.1.2.1]
      simp only [og]
    have E8 : ∀ b r, (if nI (a 27) = 0 then (if (a 25).testBit k then (0 : Int32) else (if nI (a 1) < nI (eS a w (onD w k) n) then 0 else 1)) else 0) = b → obS (fX8_may b (2 : Int32) (tC M)) (fun x_8 st_7 => (if x_8 = 0 then some ((0 : Int32), st_7) else ob (fX8_setOf (nI k) st_7) (fun x_9 => obS (fX8_flushes x_9 st_7) (fun x_11 st_10 => some (x_11, st_10))))) = r → fX8_flushDevice (nI k) M = r := by
      intro b r hb hr
      rw [fX8_flushDevice, ol_tC, e2]
      simp only [ob]
      rw [qmay1 (tC_t M) (by decide)]
      simp only [obS, one0, if_false, oj1, oj0] at hr ⊢
      rw [hg.1 27 (by decide), qfail hg (by omega), qX8_setOf hg hn hp (by omega)] at *
      simp only [ob] at hr ⊢
      rw [qX8_energyIn hg hk.2.2.2 hk.2.2.1, eS_b _ hn, hg.1 1 (by decide)]
      simp only []
      rw [← hr, ← hb]
      by_cases q1 : nI (a 27) = 0
      · rw [if_pos q1, if_pos q1]
        cases q2 : (a 25).testBit k
        · simp only [Bool.false_eq_true, if_false, if_true]
          by_cases q3 : nI (a 1) < nI (eS a w (onD w k) n)
          · rw [if_pos q3, if_pos q3]
          · rw [if_neg q3, if_neg q3]
        · simp only [if_true, one0, if_false]
      · rw [if_neg q1, if_neg q1]
    have bad : fX7_flushDevice (nI k) C = some (.inr "java/lang/IllegalStateException", C) → (if nI (a 27) = 0 then (if (a 25).testBit k then (0 : Int32) else (if nI (a 1) < nI (eS a w (onD w k) n) then 0 else 1)) else 0) = 0 → cKI (fL_flushDevice (nI k)) (fX8_flushDevice (nI k)) (RR (m + 1)) C M := by
      intro f1 f2
      refine endE h hm (k := 2) (r := 0) (by decide) ?_ (E8 0 _ f2 ?_)
      · rw [fL_flushDevice, f1]
        simp only [olx]
        rw [if_neg (by decide), if_pos trivial]
      · rw [qmay0 (tC_t M) (by decide)]
        simp only [obS, if_true]
    by_cases q1 : a 27 = 0
    · have i1 : nI (a 27) = 0 := by rw [q1]; rfl
      rw [if_pos i1] at E7 bad E8
      cases q2 : (a 25).testBit k
      · rw [q2] at E7 bad E8
        simp only [Bool.false_eq_true, if_false] at E7 bad E8
        rw [if_pos (show nI 0 = (0 : Int32) from rfl)] at E7
        by_cases q3 : a 1 < eS a w (onD w k) n
        · exact bad (by rw [E7, if_neg (nple q3 (by omega))]) (if_pos (plt q3 (by omega)))
        · obtain ⟨C', M', f1, f2, f3, f4, f5⟩ := flush_both (onD w k) hc hg hk hm q1 (by omega)
          refine endG (C' := C') (M' := M') (v := nI (vU w (onD w k) n)) ?_ (E8 1 _ (if_neg (nplt (by omega) (by omega))) ?_) (by rw [f5 0 (by decide)]; exact tC_t M) (RR_now h hm f3 (fun i hi => f4 i (by omega)) (fun i h1 _ _ => f5 i h1))
          · rw [fL_flushDevice, E7, if_pos (ple (by omega) (by omega)), f1]
            rfl
          · rw [qmay1 (tC_t M) (by decide)]
            simp only [obS, one0, if_false]
            rw [qX8_setOf hg hn hp (by omega)]
            simp only [ob]
            rw [f2]
      · rw [q2] at E7 bad
        simp only [if_true] at E7 bad
        exact bad (by rw [E7, if_neg (by decide)]) trivial
    · have i1 : ¬ nI (a 27) = 0 := peqn (b := 0) q1 (by omega) (by decide)
      rw [if_neg i1] at E7 bad
      exact bad E7 rfl
theorem c_clean (h : RR m C M) (hm : m < 512) (x : Int32) : cKI (fL_clean x) (fX8_clean x) (RR (m + 1)) C M := by
  obtain ⟨a, n, w, hc, hg, hk⟩ := RR_un h
  obtain ⟨hn, h9, hp⟩ := oK_p hk
  have s12 := hk.2.1.2.2.2.2.2.2.2.2.2.2.2.2.1
  rcases dev_or hc hg hk x with ⟨e1, e2⟩ | ⟨k, hk1, rfl, e1, e2⟩
  · refine endE h hm (k := 1) (r := 0) (by decide) ?_ ?_
    · rw [fL_clean, fX7_clean, e1]
      simp only [ox, olx, if_true]
    · rw [fX8_clean, ol_tC, e2]
      simp only [ob]
      rw [qmay0 (tC_t M) (by decide)]
      simp only [obS, if_true]
  · have d4 := hc.2.2.1.2.2 k (by omega)
    obtain ⟨C2, f1, f2, f3⟩ := qrm_sel (nI (bS (onD w k) n)) (onD w k) hc.2.2.2.1 hn (hb_bS _ hn)
    have c2 := cS_ca hc f2 f3
    have t6 : C2.1 (15 + 13) 6 = nI (a 35) := c2.2.2.2.2.1 6 (by decide)
    have c3 := cS_tot (j := 6) (v := a 35 + bc (bS (onD w k) n)) (x := C2.1 (15 + 13) 6 + nI (bc (bS (onD w k) n))) c2 h9 (by decide) (by rw [t6, zadd])
    obtain ⟨M2, h1, h2, h3⟩ := qallGo (nI (bS (onD w k) n)) (onD w k) hg hn (hb_bS _ hn)
    have g3 := gR_sI (j := 35) (v := a 35 + bc (bS (onD w k) n)) (x := M2.1 1 35 + nI (bc (bS (onD w k) n))) h2 (by decide) (by rw [h2.1 35 (by decide), zadd])
    have E7 : fX7_clean (nI k) C = (if nI (a 27) = 0 then some (.inr "java/lang/IllegalStateException", C) else if (if (a 25).testBit k then nI 1 else nI 0) = 0 then some (.inl (nI (bc (bS (onD w k) n))), sI C2 (15 + 13) 6 (C2.1 (15 + 13) 6 + nI (bc (bS (onD w k) n)))) else some (.inr "java/lang/IllegalStateException", C)) := by
      rw [fX7_clean, e1]
      simp only [ox, oj0]
      rw [hc.2.2.2.2.2.2, zin (by omega) (by omega), zcl (by omega), d4, qX1_blocksOn hc.2.2.2.1 hn hp (by omega)]
      simp only [og, ob]
      rw [qbitCount (bS_lt24 _ hn)]
      simp only []
      rw [f1]
      simp only [obV, ol]
    have E8 : ∀ b r, (if nI (a 27) = 1 then (if (a 25).testBit k then (0 : Int32) else 1) else 0) = b → obS (fX8_may b (2 : Int32) (tC M)) (fun x_8 st_7 => (if x_8 = 0 then some ((0 : Int32), st_7) else ob (fX8_setOf (nI k) st_7) (fun x_9 => obV (fX8_allGo x_9 st_7) (fun st_11 => ob (fX8_bits x_9) (fun x_12 => ol (sI st_11 1 35 ((st_11.1 1 35) + x_12)) (fun st_13 => ob (fX8_bits x_9) (fun x_14 => some (x_14, st_13)))))))) = r → fX8_clean (nI k) M = r := by
      intro b r hb hr
      rw [fX8_clean, ol_tC, e2]
      simp only [ob]
      rw [qmay1 (tC_t M) (by decide)]
      simp only [obS, one0, if_false, oj1, oj0, ob] at hr ⊢
      rw [hg.1 27 (by decide), qfail hg (by omega)]
      simp only []
      rw [← hr, ← hb]
      by_cases q1 : nI (a 27) = 1
      · rw [if_pos q1, if_pos q1]
        cases q2 : (a 25).testBit k
        · simp only [Bool.false_eq_true, if_false, if_true]
        · simp only [if_true, one0, if_false]
      · rw [if_neg q1, if_neg q1]
    have bad : fX7_clean (nI k) C = some (.inr "java/lang/IllegalStateException", C) → (if nI (a 27) = 1 then (if (a 25).testBit k then (0 : Int32) else 1) else 0) = 0 → cKI (fL_clean (nI k)) (fX8_clean (nI k)) (RR (m + 1)) C M := by
      intro f1 f2
      refine endE h hm (k := 2) (r := 0) (by decide) ?_ (E8 0 _ f2 ?_)
      · rw [fL_clean, f1]
        simp only [olx]
        rw [if_neg (by decide), if_pos trivial]
      · rw [qmay0 (tC_t M) (by decide)]
        simp only [obS, if_true]
    by_cases q1 : a 27 = 0
    · rw [q1, if_pos (show nI 0 = (0 : Int32) from rfl)] at E7
      rw [q1, if_neg (show ¬ nI 0 = (1 : Int32) by decide)] at bad
      exact bad E7 rfl
    · have q1 : a 27 = 1 := by omega
      rw [q1, if_neg (show ¬ nI 1 = (0 : Int32) by decide)] at E7
      rw [q1, if_pos (show nI 1 = (1 : Int32) from rfl)] at bad E8
      cases q2 : (a 25).testBit k
      · rw [q2] at E7 E8
        simp only [Bool.false_eq_true, if_false] at E7 E8
        rw [if_pos (show nI 0 = (0 : Int32) from rfl)] at E7
        refine endG (C' := sI C2 (15 + 13) 6 (C2.1 (15 + 13) 6 + nI (bc (bS (onD w k) n)))) (M' := sI M2 1 35 (M2.1 1 35 + nI (bc (bS (onD w k) n)))) (v := nI (bc (bS (onD w k) n))) ?_ (E8 1 _ rfl ?_) (by rw [sI_n (by decide), h3 0 (by decide)]; exact tC_t M) (RR_now h hm ⟨_, _, _, c3, g3, oK_mono (oK_sel (oK_tot hk)) (Nat.le_succ m) hm⟩ (fun i hi => by rw [sI_n (by omega), f3 i (by omega)]) (fun i i1 _ _ => by rw [sI_n i1, h3 i i1]))
        · rw [fL_clean, E7]
          rfl
        · rw [qmay1 (tC_t M) (by decide)]
          simp only [obS, one0, if_false]
          rw [qX8_setOf hg hn hp (by omega)]
          simp only [ob]
          rw [h1]
          simp only [obV]
          rw [qbits (bS_lt24 _ hn)]
          rfl
      · rw [q2] at E7 bad
        simp only [if_true] at E7 bad
        exact bad (by rw [E7, if_neg (by decide)]) trivial
end Q19b
