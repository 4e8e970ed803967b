/-! PURE PART 17: save, restore, minutesLeft -/
section Q17
variable {m : Nat} {C M st : uSt} {a : Nat → Nat} {n : Nat} {w : Nat → Nat → Nat}
theorem slot_or (x : Int32) : (fX7_requireSlot x C = some (.inr "java/lang/IndexOutOfBoundsException", C) ∧ fX8_isIn x 0 1 = some 0) ∨ ∃ k, k < 2 ∧ x = nI k ∧ fX7_requireSlot x C = some (.inl (), C) ∧ fX8_isIn x 0 1 = some 1 := by
  rw [fX7_requireSlot]
  simp only [oj0]
  rcases zn0 x with q | ⟨k, hk, rfl⟩
  · exact Or.inl ⟨by rw [if_pos q], qisIn_lo q⟩
  · rw [if_neg (nlt0 hk)]
    by_cases q : k < 2
    · exact Or.inr ⟨k, q, rfl, by rw [if_pos (show nI k < (2 : Int32) from plt (b := 2) q (by decide))], qisIn1 (lo := 0) (hi := 1) hk (by omega) (by omega) (by decide)⟩
    · exact Or.inl ⟨by rw [if_neg (show ¬ nI k < (2 : Int32) from nplt (b := 2) (by omega) hk)], qisInN (lo := 0) (hi := 1) hk (by omega) (by decide)⟩
theorem endEV {F : uSt → Option (Int32 × uSt)} {G : uSt → Option (Unit × uSt)} (h : RR m C M) (hm : m < 512) {k : Int32} (hF : F C = some (k, C)) (hG : G M = some ((), sI (tC M) 0 0 k)) : cKV F G (RR (m + 1)) C M :=
  ⟨k, C, (), _, hF, hG, by rw [sI_r, if_pos rfl], RR_tC h hm k⟩
theorem c_save (h : RR m C M) (hm : m < 512) (x : Int32) : cKV (fL_save x) (fX8_save x) (RR (m + 1)) C M := by
  rcases slot_or (C := C) x with ⟨e1, e2⟩ | ⟨k, hk, rfl, e1, e2⟩
  · refine endEV h hm (k := 1) ?_ ?_
    · rw [fL_save, fX7_save, e1]
      simp only [ox, olx, if_true]
    · rw [fX8_save, ol_tC, e2]
      simp only [ob]
      rw [qmay0 (tC_t M) (by decide)]
      simp only [obS, if_true]
  · obtain ⟨a, n, w, hc, hg, hk'⟩ := RR_un h
    obtain ⟨hn, h9, hp⟩ := oK_p hk'
    have h27 := hk'.2.1.2.2.2.2.2.2.2.2.2.2.2.2.1
    obtain ⟨C1, f1, f2, f3⟩ := cp6 (s := 43 + 14 * k) (s2 := 15) (by omega) h9 hn h27 hc
    obtain ⟨M1, g1, g2, g4, g3⟩ := l_save (s := k) hk (fun st_9 => some ((), st_9)) 109 0 FU (sI (tC M) 5 k 1) (by omega) (FU_lt (by omega))
    refine ⟨0, sI C1 4 k 1, (), M1, ?_, ?_, ?_, ?_⟩
    · rw [fL_save, fX7_save, e1]
      simp only [ox]
      rw [zin (by omega) (by omega), zcl (by omega), f1]
      rfl
    · rw [fX8_save, ol_tC, e2]
      simp only [ob]
      rw [qmay1 (tC_t M) (by decide)]
      simp only [obS, one0, if_false]
      rw [zin (by omega) (by omega), zcl (by omega)]
      simp only [og, ol]
      exact g1
    · rw [g3 0 (by decide), sI_n (by decide)]; exact tC_t M
    · have fr : ∀ i, i ≠ 4 → i < 43 ∨ 71 ≤ i → (sI C1 4 k 1).1 i = C.1 i := fun i h1 h2 => by rw [sI_n h1, f3 i (by omega)]
      obtain ⟨q1, q2, q3, q4, q5⟩ := h.2
      refine ⟨pR_fr h.1 (Nat.le_succ m) hm (fun i _ _ => fr i (by omega) (by omega)) (by rw [g3 1 (by decide), sI_n (by decide), tC_n M (by decide)]), fun j hj => ?_, tR_fr q2 (fr 1 (by decide) (by decide)) (fr 2 (by decide) (by decide)) (by rw [g3 0 (by decide), sI_n (by decide), tC_f M (by decide)]) (by rw [g3 6 (by decide), sI_n (by decide), tC_n M (by decide)]), ?_, ?_, ?_⟩
      · rw [g3 5 (by decide), sI_r, sI_r, f3 4 (by omega), tC_n M (by decide)]
        by_cases q : j = k
        · subst q
          rw [if_pos rfl, if_pos rfl]
          refine ⟨rfl, Or.inr ⟨rfl, a, n, w, cS_fr f2 (fun i _ _ => sI_n (by omega)), gR_cp hg hn (fun i hi => ?_), oK_mono hk' (Nat.le_succ m) hm⟩⟩
          rw [g2 i hi, if_pos (by omega), sI_n (by decide)]
        · rw [if_neg q, if_neg q]
          obtain ⟨k1, k2⟩ := q1 j hj
          refine ⟨k1, ?_⟩
          rcases k2 with k2 | ⟨k2, b, n', w', p1, p2, p3⟩
          · exact Or.inl k2
          · refine Or.inr ⟨k2, b, n', w', cS_fr p1 (fun i _ _ => by rw [sI_n (by omega), f3 i (by omega)]), gR_cp p2 p3.2.2.2.1 (fun i hi => ?_), oK_mono p3 (Nat.le_succ m) hm⟩
            rw [g4 _ (by omega), sI_n (by decide), tC_n M (by decide)]
      · rw [fr 0 (by decide) (by decide), g3 0 (by decide), sI_n (by decide), tC_f M (by decide)]; exact q3
      · rw [fr 0 (by decide) (by decide), g3 0 (by decide), sI_n (by decide), tC_f M (by decide)]; exact q4
      · unfold dR; rw [fr 29 (by decide) (by decide), fr 37 (by decide) (by decide), fr 42 (by decide) (by decide), fr 36 (by decide) (by decide), fr 30 (by decide) (by decide)]; exact q5
theorem c_restore (h : RR m C M) (hm : m < 512) (x : Int32) : cKV (fL_restore x) (fX8_restore x) (RR (m + 1)) C M := by
  rcases slot_or (C := C) x with ⟨e1, e2⟩ | ⟨k, hk, rfl, e1, e2⟩
  · refine endEV h hm (k := 1) ?_ ?_
    · rw [fL_restore, fX7_restore, e1]
      simp only [ox, olx, if_true]
    · rw [fX8_restore, ol_tC, e2]
      simp only [ob]
      rw [qmay0 (tC_t M) (by decide)]
      simp only [obS, if_true]
  · obtain ⟨k1, k2⟩ := h.2.1 k hk
    have E8 : fX8_restore (nI k) M = obS (fX8_may (M.1 5 k) (2 : Int32) (tC M)) (fun x_6 st_5 => (if x_6 = 0 then some ((), st_5) else fX8_restore_36 (nI k) (fun st_10 => some ((), st_10)) FU st_5 (0 : Int32))) := by
      rw [fX8_restore, ol_tC, e2]
      simp only [ob]
      rw [qmay1 (tC_t M) (by decide)]
      simp only [obS, one0, if_false]
      rw [zin (by omega) (by omega), zcl (by omega), tC_n M (by decide)]
      rfl
    have E7 : fX7_restore (nI k) C = (if (C.1 4 k) = 0 then some (.inr "java/util/NoSuchElementException", C) else (obV (fX6_copyFrom 15 (43 + 14 * k) C) (fun st_3 => some (.inl (), st_3)))) := by
      rw [fX7_restore, e1]
      simp only [ox]
      rw [zin (by omega) (by omega), zcl (by omega)]
      rfl
    rcases k2 with k2 | ⟨k2, a, n, w, hc, hg, hk'⟩
    · refine endEV h hm (k := 2) ?_ ?_
      · rw [fL_restore, E7, if_pos k2]
        simp only [olx]
        rw [if_neg (by decide), if_pos trivial]
      · rw [E8, ← k1, k2, qmay0 (tC_t M) (by decide)]
        simp only [obS, if_true]
    · obtain ⟨hn, h9, hp⟩ := oK_p hk'
      have h27 := hk'.2.1.2.2.2.2.2.2.2.2.2.2.2.2.1
      obtain ⟨C1, f1, f2, f3⟩ := cp6 (s := 15) (s2 := 43 + 14 * k) (by omega) h9 hn h27 hc
      obtain ⟨M1, g1, g2, -, g3⟩ := l_restore (s := k) hk (fun st_9 => some ((), st_9)) 109 0 FU (tC M) (by omega) (FU_lt (by omega))
      refine ⟨0, C1, (), M1, ?_, ?_, ?_, ?_⟩
      · rw [fL_restore, E7, if_neg (by rw [k2]; decide), f1]
        rfl
      · rw [E8, ← k1, k2, qmay1 (tC_t M) (by decide)]
        simp only [obS, one0, if_false]
        exact g1
      · rw [g3 0 (by decide)]; exact tC_t M
      · refine RR_now h hm ⟨a, n, w, f2, gR_cp hg hn (fun i hi => ?_), oK_mono hk' (Nat.le_succ m) hm⟩ (fun i hi => f3 i (by omega)) (fun i h1 _ _ => g3 i h1)
        rw [g2 i hi, if_pos (by omega), tC_n M (by decide)]
/-! minutesLeft -/
theorem ml_both {E : Nat} (hE : 1 ≤ E) (ke' : uSt → Int32 → Option (Int32 × uSt)) : ∀ c A C M i l fu fu', A 1 ≤ c → E ≤ A 1 → i + A 1 ≤ 500 → l + 1 = nI i → cBt C.1 9 A → gR (M.1 1) A n w → (1 ≤ A 0 ∧ A 0 ≤ 500) → A 28 + A 1 ≤ 300000 → 1 ≤ A 3 → A 3 ≤ 50 → (1 ≤ A 4 ∧ A 4 ≤ 1000) → c + 1 < fu → c + 1 < fu' → ∃ r C' M', fX7_minutesLeft_44 (nI E) (fun st_8 l2_7 => some (l2_7, st_8)) fu C (nI i) = some (r, C') ∧ fX8_minutesLeft_32 (nI E) ke' fu' M l = ke' M' r ∧ (∀ j, j ≠ 9 → C'.1 j = C.1 j) ∧ ∀ j, j ≠ 1 → M'.1 j = M.1 j := by
  intro c
  induction c with
  | zero => intro A C M i l fu fu' h1 h2; omega
  | succ c ih =>
    intro A C M i l fu fu' hc hE1 hi hl hb hg h0 h28 h3 h3' h4 hf hf'
    obtain ⟨fu, rfl⟩ : ∃ x, fu = x + 1 := ⟨fu - 1, by omega⟩
    obtain ⟨fu', rfl⟩ : ∃ x, fu' = x + 1 := ⟨fu' - 1, by omega⟩
    obtain ⟨C1, e1, e2, e3⟩ := qdrain hb h0 (by omega) (by omega) h3' h4
    obtain ⟨M1, g1, g2, g3⟩ := qminute hg h0 (by omega) (by omega) h3' h4
    have mle := mnD_le A
    have mpos : 1 ≤ mnD A := by unfold mnD; split <;> omega
    have s1 := spd_1 (a := A) (mnD A)
    have sr := spc_range (a := A) (e := mnD A) h0.1
    have s28 := spd_28 (a := A) (mnD A)
    have s0 := spd_0 (a := A) (mnD A)
    have s3 : spd A (mnD A) 3 = A 3 := rfl
    have s4 : spd A (mnD A) 4 = A 4 := rfl
    generalize spd A (mnD A) = B at *
    have x1 : C1.1 9 1 = nI (B 1) := e2.2.1
    have y1 : M1.1 1 1 = nI (B 1) := g2.1 1 (by decide)
    have m1 : M.1 1 1 = nI (A 1) := hg.1 1 (by decide)
    rw [fX7_minutesLeft_44, fX8_minutesLeft_32, if_neg (show ¬ (1000 : Int32) ≤ nI i from nple (a := 1000) (by omega) (by decide)), e1, m1, if_neg (nplt hE1 (by omega))]
    simp only [obV, ol, zinc]
    rw [hl, g1, x1]
    simp only []
    by_cases q : E ≤ B 1
    · rw [if_pos (ple q (by omega))]
      obtain ⟨r, C', M', f1, f2, f3, f4⟩ := ih B C1 M1 (i + 1) (nI i) fu fu' (by omega) q (by omega) (zinc i) e2 g2 ⟨by omega, by omega⟩ (by omega) (by omega) (by omega) ⟨by omega, by omega⟩ (by omega) (by omega)
      exact ⟨r, C', M', f1, f2, fun j hj => by rw [f3 j hj, e3 j hj], fun j hj => by rw [f4 j hj, g3 j hj]⟩
    · rw [if_neg (nple (by omega) (by omega))]
      obtain ⟨fu', rfl⟩ : ∃ x, fu' = x + 1 := ⟨fu' - 1, by omega⟩
      refine ⟨nI i, C1, M1, rfl, ?_, e3, g3⟩
      rw [fX8_minutesLeft_32, y1, if_pos (plt (by omega) (by omega))]
theorem obV_st {β : Type} {S : uSt} {k : uSt → Option β} : obV (some ((), S)) k = k S := rfl
theorem c_minutesLeft (h : RR m C M) (hm : m < 512) : cQ1 fX7_minutesLeft fX8_minutesLeft (RR (m + 1)) C M := by
  obtain ⟨a, n, w, hc, hg, hk⟩ := RR_un h
  obtain ⟨hn, h9, hp⟩ := oK_p hk
  obtain ⟨s0, s1, s2, s3, s4, s5, s6, s7, s8, s9, s10, s11, s12, s13⟩ := hk.2.1
  have hE := eS_le hk.2.2.2 hk.2.2.1 (usD (a 25) w) n (Nat.le_refl _)
  have b1 := hc.1.2.1
  have m1 := hg.1 1 (by decide)
  have E7 : fX7_minutesLeft C = (if nI (eS a w (usD (a 25) w) n) = 0 then some ((-1 : Int32), C) else (if nI (eS a w (usD (a 25) w) n) ≤ nI (a 1) then obV (fX0_copyFrom 9 (15 + 1) C) (fun st_3 => fX7_minutesLeft_44 (nI (eS a w (usD (a 25) w) n)) (fun st_8 l2_7 => some (l2_7, st_8)) FU st_3 (0 : Int32)) else some ((-1 : Int32), C))) := by
    rw [fX7_minutesLeft, qneed hc hk, b1]
    simp only [ob]
  have E8 : fX8_minutesLeft M = (if nI (eS a w (usD (a 25) w) n) = 0 then some ((-1 : Int32), tC M) else (if nI (eS a w (usD (a 25) w) n) ≤ nI (a 1) then obV (fX8_keeps (tC M)) (fun st_4 => fX8_minutesLeft_32 (nI (eS a w (usD (a 25) w) n)) (fun st_9 l2_8 => obV (fX8_comesBack st_9) (fun st_10 => some (l2_8, st_10))) FU st_4 (-1 : Int32)) else some ((-1 : Int32), tC M))) := by
    rw [fX8_minutesLeft, ol_tC, qneeded hg hk, m1]
    simp only [ob]
  generalize eS a w (usD (a 25) w) n = E at hE E7 E8
  by_cases q0 : E = 0
  · subst q0
    rw [if_pos (show nI 0 = (0 : Int32) from rfl)] at E7 E8
    exact ⟨_, _, _, E7, E8, RR_t h hm⟩
  · rw [if_neg (show ¬ nI E = (0 : Int32) from peqn (b := 0) q0 (by omega) (by decide))] at E7 E8
    by_cases q1 : E ≤ a 1
    · rw [if_pos (ple q1 (by omega))] at E7 E8
      obtain ⟨C1, e1, e2, e3⟩ := cp0 (st := C) (b := 9) (b2 := 15 + 1) (by decide) hc.1
      obtain ⟨M1, g1, g2, g3⟩ := qkeeps (tC M)
      have hM1 : gR (M1.1 1) a n w := by rw [g3 1 (by decide)]; exact hg
      obtain ⟨r, C', M', f1, f2, f3, f4⟩ := ml_both (E := E) (by omega) (fun st_9 l2_8 => obV (fX8_comesBack st_9) (fun st_10 => some (l2_8, st_10))) (a 1) a C1 M1 0 (-1) FU FU (Nat.le_refl _) q1 (by omega) (by decide) e2 hM1 ⟨s0, s1⟩ (by omega) s4 s5 ⟨s6, s7⟩ (FU_lt (by omega)) (FU_lt (by omega))
      obtain ⟨M2, h1, h2, h3⟩ := qcomesBack M'
      rw [e1, obV_st] at E7
      rw [g1, obV_st, f2, h1, obV_st] at E8
      rw [show nI 0 = (0 : Int32) from rfl] at f1
      rw [f1] at E7
      refine ⟨r, C', M2, E7, E8, RR_now h hm ⟨a, n, w, cS_fr hc (fun i _ _ => by rw [f3 i (by omega), e3 i (by omega)]), gR_cp hg hn (fun i hi => ?_), oK_mono hk (Nat.le_succ m) hm⟩ (fun i hi => by rw [f3 i (by omega), e3 i (by omega)]) (fun i i1 i2 i4 => by rw [h3 i i1, f4 i i1, g3 i i4])⟩
      rw [h2 i hi, f4 4 (by decide), g2 i hi]
    · rw [if_neg (nple (by omega) (by omega))] at E7 E8
      exact ⟨_, _, _, E7, E8, RR_t h hm⟩
end Q17
