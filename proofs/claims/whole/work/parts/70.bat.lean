/-! PURE PART 40: the battery's row -/
section Q40
variable {b : Nat → Nat} {L : Nat} {C M : uSt}
theorem numZ {lo hi i j k : Nat} (hi' hm' : Int32) (hlo : lo < 2147483648) (hhi : hi < 2147483648) (hi1 : i ≠ 1) (hi2 : i ≠ 2) (h : pX b L C M) (hG : pG b L C M → hi' = nI hi ∧ hm' = nI hi) : ∃ v v' C' M' z, fX5_takeNumber (nI lo) hi' C = some (v, C') ∧ fX8_figure (nI lo) hm' M = some (v', M') ∧ cF C C' ∧ mF M M' ∧ pX b L (sI C' i j v) (sI M' 2 k v') ∧ z < 2147483648 ∧ (pG b L (sI C' i j v) (sI M' 2 k v') → pG b L C M ∧ v = nI z ∧ v' = nI z ∧ lo ≤ z ∧ z ≤ hi) := by
  obtain ⟨v, v', C', M', a1, a2, a3, a4, a5, a6⟩ := numS (i := i) (j := j) (k := k) hi' hm' hlo hhi hi1 hi2 h hG
  by_cases q : pG b L (sI C' i j v) (sI M' 2 k v')
  · obtain ⟨q1, z, z1, z2, z3, z4⟩ := a6 q
    exact ⟨v, v', C', M', z, a1, a2, a3, a4, a5, by omega, fun _ => ⟨q1, z1, z2, z3, z4⟩⟩
  · exact ⟨v, v', C', M', 0, a1, a2, a3, a4, a5, by decide, fun h => absurd h q⟩
theorem bat_both (h : pG b L C M) : ∃ C' M', fX5_readBattery 30 C = some ((), C') ∧ fX8_battery M = some ((), M') ∧ pX b L C' M' ∧ (∀ i, i ≠ 1 → i ≠ 30 → C'.1 i = C.1 i) ∧ C'.1 1 1 = C.1 1 1 ∧ (∀ j, 5 ≤ j → C'.1 30 j = C.1 30 j) ∧ (∀ i, i ≠ 0 → i ≠ 2 → M'.1 i = M.1 i) ∧ M'.1 0 0 = M.1 0 0 ∧ M'.1 0 7 = M.1 0 7 ∧ M'.1 0 8 = M.1 0 8 ∧ (∀ j, 5 ≤ j → M'.1 2 j = M.1 2 j) ∧ (pG b L C' M' → ∃ z0 z1 z2 z3 z4, (C'.1 30 0 = nI z0 ∧ C'.1 30 1 = nI z1 ∧ C'.1 30 2 = nI z2 ∧ C'.1 30 3 = nI z3 ∧ C'.1 30 4 = nI z4) ∧ (M'.1 2 0 = nI z0 ∧ M'.1 2 1 = nI z1 ∧ M'.1 2 2 = nI z2 ∧ M'.1 2 3 = nI z3 ∧ M'.1 2 4 = nI z4) ∧ 1 ≤ z0 ∧ z0 ≤ 500 ∧ z1 ≤ z0 ∧ z2 ≤ 50 ∧ 1 ≤ z3 ∧ z3 ≤ 50 ∧ 1 ≤ z4 ∧ z4 ≤ 1000) := by
  obtain ⟨C1, M1, w1, w2, w3, w4⟩ := tW_G (w := 0) (by decide) h
  have X1 : pX b L C1 M1 := by
    rcases w4 with ⟨-, w4⟩ | ⟨-, -, w4⟩
    · exact Or.inl w4
    · exact Or.inr w4
  have E8 : ∀ r, ((fun (st_4 : uSt) => obS (fX8_figure (1 : Int32) (500 : Int32) st_4) (fun x_6 st_5 => ol (sI st_5 2 0 x_6) (fun st_7 => obS (fX8_figure (0 : Int32) (st_7.1 2 0) st_7) (fun x_9 st_8 => ol (sI st_8 2 1 x_9) (fun st_10 => obS (fX8_figure (0 : Int32) (50 : Int32) st_10) (fun x_12 st_11 => ol (sI st_11 2 2 x_12) (fun st_13 => obS (fX8_figure (1 : Int32) (50 : Int32) st_13) (fun x_15 st_14 => ol (sI st_14 2 3 x_15) (fun st_16 => obS (fX8_figure (1 : Int32) (1000 : Int32) st_16) (fun x_18 st_17 => ol (sI st_17 2 4 x_18) (fun st_19 => obV (fX8_ends st_19) (fun st_20 => some ((), st_20))))))))))))) : uSt → Option (Unit × uSt)) M1 = r → fX8_battery M = r := by
    intro r hr
    rw [fX8_battery]
    rcases w4 with ⟨w4, -⟩ | ⟨w4, w5, -⟩
    · have w4 : fX8_takesWord 8 M = some (1, M1) := w4
      rw [w4, obS_s, oj1_e, if_neg (by decide)]
      exact hr
    · have w4 : fX8_takesWord 8 M = some (0, M) := w4
      rw [w4, obS_s, oj1_e, if_pos rfl, w5, obV_st]
      exact hr
  obtain ⟨v0, u0, C2, M2, z0, a1, a2, a3, a4, a5, a6, a7⟩ := numZ (lo := 1) (hi := 500) (i := 30) (j := 0) (k := 0) (nI 500) (nI 500) (by decide) (by decide) (by decide) (by decide) X1 (fun _ => ⟨rfl, rfl⟩)
  obtain ⟨v1, u1, C3, M3, z1, b1, b2, b3, b4, b5, b6, b7⟩ := numZ (lo := 0) (hi := z0) (i := 30) (j := 1) (k := 1) v0 u0 (by decide) a6 (by decide) (by decide) a5 (fun g => ⟨(a7 g).2.1, (a7 g).2.2.1⟩)
  obtain ⟨v2, u2, C4, M4, z2, c1, c2, c3, c4, c5, c6, c7⟩ := numZ (lo := 0) (hi := 50) (i := 30) (j := 2) (k := 2) (nI 50) (nI 50) (by decide) (by decide) (by decide) (by decide) b5 (fun _ => ⟨rfl, rfl⟩)
  obtain ⟨v3, u3, C5, M5, z3, d1, d2, d3, d4, d5, d6, d7⟩ := numZ (lo := 1) (hi := 50) (i := 30) (j := 3) (k := 3) (nI 50) (nI 50) (by decide) (by decide) (by decide) (by decide) c5 (fun _ => ⟨rfl, rfl⟩)
  obtain ⟨v4, u4, C6, M6, z4, e1, e2, e3, e4, e5, e6, e7⟩ := numZ (lo := 1) (hi := 1000) (i := 30) (j := 4) (k := 4) (nI 1000) (nI 1000) (by decide) (by decide) (by decide) (by decide) d5 (fun _ => ⟨rfl, rfl⟩)
  obtain ⟨C7, M7, f1, f2, f3, f4, f5⟩ := semi_X e5
  have a1 : fX5_takeNumber 1 500 C1 = some (v0, C2) := a1
  have b1 : fX5_takeNumber 0 v0 (sI C2 30 0 v0) = some (v1, C3) := b1
  have c1 : fX5_takeNumber 0 50 (sI C3 30 1 v1) = some (v2, C4) := c1
  have d1 : fX5_takeNumber 1 50 (sI C4 30 2 v2) = some (v3, C5) := d1
  have e1 : fX5_takeNumber 1 1000 (sI C5 30 3 v3) = some (v4, C6) := e1
  have a2 : fX8_figure 1 500 M1 = some (u0, M2) := a2
  have b2 : fX8_figure 0 u0 (sI M2 2 0 u0) = some (u1, M3) := b2
  have c2 : fX8_figure 0 50 (sI M3 2 1 u1) = some (u2, M4) := c2
  have d2 : fX8_figure 1 50 (sI M4 2 2 u2) = some (u3, M5) := d2
  have e2 : fX8_figure 1 1000 (sI M5 2 3 u3) = some (u4, M6) := e2
  refine ⟨C7, M7, ?_, E8 _ ?_, f3, fun i i1 i30 => ?_, ?_, fun j hj => ?_, fun i i0 i2 => ?_, ?_, ?_, ?_, fun j hj => ?_, fun g => ?_⟩
  · rw [fX5_readBattery, w1, obV_st, a1, obS_s, ol_e, sI_r, if_pos rfl, b1, obS_s, ol_e, c1, obS_s, ol_e, d1, obS_s, ol_e, e1, obS_s, ol_e, f1, obV_st]
  · dsimp only
    rw [a2, obS_s, ol_e, sI_r, if_pos rfl, b2, obS_s, ol_e, c2, obS_s, ol_e, d2, obS_s, ol_e, e2, obS_s, ol_e, f2, obV_st]
  · rw [f4.1 i i1, sI_n i30, e3.1 i i1, sI_n i30, d3.1 i i1, sI_n i30, c3.1 i i1, sI_n i30, b3.1 i i1, sI_n i30, a3.1 i i1, w2.1 i i1]
  · rw [f4.2, sI_n (by decide), e3.2, sI_n (by decide), d3.2, sI_n (by decide), c3.2, sI_n (by decide), b3.2, sI_n (by decide), a3.2, w2.2]
  · rw [f4.1 30 (by decide), sI_r, if_neg (by omega), e3.1 30 (by decide), sI_r, if_neg (by omega), d3.1 30 (by decide), sI_r, if_neg (by omega), c3.1 30 (by decide), sI_r, if_neg (by omega), b3.1 30 (by decide), sI_r, if_neg (by omega), a3.1 30 (by decide), w2.1 30 (by decide)]
  · rw [f5.1 i i0, sI_n i2, e4.1 i i0, sI_n i2, d4.1 i i0, sI_n i2, c4.1 i i0, sI_n i2, b4.1 i i0, sI_n i2, a4.1 i i0, w3.1 i i0]
  · rw [f5.2.1, sI_n (by decide), e4.2.1, sI_n (by decide), d4.2.1, sI_n (by decide), c4.2.1, sI_n (by decide), b4.2.1, sI_n (by decide), a4.2.1, w3.2.1]
  · rw [f5.2.2.1, sI_n (by decide), e4.2.2.1, sI_n (by decide), d4.2.2.1, sI_n (by decide), c4.2.2.1, sI_n (by decide), b4.2.2.1, sI_n (by decide), a4.2.2.1, w3.2.2.1]
  · rw [f5.2.2.2, sI_n (by decide), e4.2.2.2, sI_n (by decide), d4.2.2.2, sI_n (by decide), c4.2.2.2, sI_n (by decide), b4.2.2.2, sI_n (by decide), a4.2.2.2, w3.2.2.2]
  · rw [f5.1 2 (by decide), sI_r, if_neg (by omega), e4.1 2 (by decide), sI_r, if_neg (by omega), d4.1 2 (by decide), sI_r, if_neg (by omega), c4.1 2 (by decide), sI_r, if_neg (by omega), b4.1 2 (by decide), sI_r, if_neg (by omega), a4.1 2 (by decide), w3.1 2 (by decide)]
  · have notE : ∀ {A B : uSt}, pG b L A B → pE A B → False := by
      intro A B g1 g2
      obtain ⟨c, p, c1, c2, c3, -⟩ := g2
      have := g1.2.1
      rw [c3, show (0 : Int32) = nI 0 from rfl, zeq (by omega) (by decide)] at this
      omega
    have g6 : pG b L (sI C6 30 4 v4) (sI M6 2 4 u4) := by
      rcases e5 with q | q
      · exact q
      · obtain ⟨C8, M8, q1, q2, q3, -, -⟩ := semi_X (b := b) (L := L) (Or.inr q)
        obtain ⟨C9, t1, t2, t3, t4⟩ := ref_E (c := 1) q
        exfalso
        have hk : (sI C6 30 4 v4).1 1 4 = nI 4 := by obtain ⟨_, _, _, _, _, _, _, _, h4⟩ := q; exact h4
        have e : fX5_takeSemicolon (sI C6 30 4 v4) = some ((), C9) := by rw [fX5_takeSemicolon, hk, if_neg (by decide), t1, obV_st]
        rw [e] at f1
        have e9 : C9 = C7 := (Prod.mk.inj (Option.some.inj f1)).2
        have h2 := g.2.1
        obtain ⟨c, p, k1, k2, k3, -⟩ := t3
        rw [← e9, k3, show (0 : Int32) = nI 0 from rfl, zeq (by omega) (by decide)] at h2
        omega
    obtain ⟨g5, x4, y4, r4, s4⟩ := e7 g6
    obtain ⟨g4, x3, y3, r3, s3⟩ := d7 g5
    obtain ⟨g3, x2, y2, r2, s2⟩ := c7 g4
    obtain ⟨g2, x1, y1, r1, s1⟩ := b7 g3
    obtain ⟨-, x0, y0, r0, s0⟩ := a7 g2
    refine ⟨z0, z1, z2, z3, z4, ⟨?_, ?_, ?_, ?_, ?_⟩, ⟨?_, ?_, ?_, ?_, ?_⟩, r0, s0, s1, s2, r3, s3, r4, s4⟩
    · rw [f4.1 30 (by decide), sI_r, if_neg (by decide), e3.1 30 (by decide), sI_r, if_neg (by decide), d3.1 30 (by decide), sI_r, if_neg (by decide), c3.1 30 (by decide), sI_r, if_neg (by decide), b3.1 30 (by decide), sI_r, if_pos rfl, x0]
    · rw [f4.1 30 (by decide), sI_r, if_neg (by decide), e3.1 30 (by decide), sI_r, if_neg (by decide), d3.1 30 (by decide), sI_r, if_neg (by decide), c3.1 30 (by decide), sI_r, if_pos rfl, x1]
    · rw [f4.1 30 (by decide), sI_r, if_neg (by decide), e3.1 30 (by decide), sI_r, if_neg (by decide), d3.1 30 (by decide), sI_r, if_pos rfl, x2]
    · rw [f4.1 30 (by decide), sI_r, if_neg (by decide), e3.1 30 (by decide), sI_r, if_pos rfl, x3]
    · rw [f4.1 30 (by decide), sI_r, if_pos rfl, x4]
    · rw [f5.1 2 (by decide), sI_r, if_neg (by decide), e4.1 2 (by decide), sI_r, if_neg (by decide), d4.1 2 (by decide), sI_r, if_neg (by decide), c4.1 2 (by decide), sI_r, if_neg (by decide), b4.1 2 (by decide), sI_r, if_pos rfl, y0]
    · rw [f5.1 2 (by decide), sI_r, if_neg (by decide), e4.1 2 (by decide), sI_r, if_neg (by decide), d4.1 2 (by decide), sI_r, if_neg (by decide), c4.1 2 (by decide), sI_r, if_pos rfl, y1]
    · rw [f5.1 2 (by decide), sI_r, if_neg (by decide), e4.1 2 (by decide), sI_r, if_neg (by decide), d4.1 2 (by decide), sI_r, if_pos rfl, y2]
    · rw [f5.1 2 (by decide), sI_r, if_neg (by decide), e4.1 2 (by decide), sI_r, if_pos rfl, y3]
    · rw [f5.1 2 (by decide), sI_r, if_pos rfl, y4]
end Q40
