/-! PURE PART 46: load -/
section Q46
variable {m : Nat} {C M : uSt}
theorem l71 (ke : uSt → Option ((Int32 ⊕ String) × uSt)) (st : uSt) : ∃ st', fX7_load_71 ke FU st 0 = ke st' ∧ (∀ j, j < 2 → st'.1 4 j = 0) ∧ ∀ i, i ≠ 4 → st'.1 i = st.1 i := by
  refine ⟨sI (sI st 4 0 0) 4 1 0, ?_, fun j hj => ?_, fun i hi => by rw [sI_n hi, sI_n hi]⟩
  · rw [show FU = 4997 + 1 + 1 + 1 from rfl, show (0 : Int32) = nI 0 from rfl, fX7_load_71, if_neg (by decide), zin (by decide) (by decide), zcl (by decide), og_t, ol_e, ol_e, zinc, fX7_load_71, if_neg (by decide), zin (by decide) (by decide), zcl (by decide), og_t, ol_e, ol_e, zinc, fX7_load_71, if_pos (by decide)]
    rfl
  · rw [sI_r, sI_r]
    rcases (show j = 0 ∨ j = 1 by omega) with rfl | rfl <;> rfl
theorem c_load (h : RR m C M) (hm : m < 512) : cKI fL_load fX8_load (RR (m + 1)) C M := by
  obtain ⟨L, hL, t1, t2, t3⟩ := h.2.2.1
  obtain ⟨b, hb⟩ : ∃ b : Nat → Nat, ∀ k, k < L → b k < 256 ∧ C.1 2 k = sB (b k) ∧ M.1 6 k = nI (b k) :=
    ⟨fun k => if hk : k < L then Classical.choose (t3 k hk) else 0, fun k hk => by simp only [hk, dite_true]; exact Classical.choose_spec (t3 k hk)⟩
  obtain ⟨T1, p1, p2, p3⟩ := qplain (sI (sI (sI (sI (sI (tC M) 0 8 (nI L)) 0 7 0) 0 9 0) 0 13 0) 0 14 (-1))
  have T0o : ∀ i, i ≠ 0 → i ≠ 2 → T1.1 i = M.1 i := fun i a c => by rw [p3 i c, sI_n a, sI_n a, sI_n a, sI_n a, sI_n a, tC_n M a]
  have T00 : T1.1 0 = (sI (sI (sI (sI (sI (tC M) 0 8 (nI L)) 0 7 0) 0 9 0) 0 13 0) 0 14 (-1)).1 0 := p3 0 (by decide)
  obtain ⟨C4, M4, r1, r2, r3, r4, r5, r6, r7, r8, r9, r10⟩ := read_both (b := b) hL t1 hb T1 (by rw [T00]; rfl) (by rw [T00]; rfl) (by rw [T00]; rfl) (by rw [T00]; rfl) (T0o 6 (by decide) (by decide)) p2 keL
  have t00 : T1.1 0 0 = 0 := by rw [T00, sI_r, if_neg (by decide), sI_r, if_neg (by decide), sI_r, if_neg (by decide), sI_r, if_neg (by decide), sI_r, if_neg (by decide)]; exact tC_t M
  have t07 : T1.1 0 7 = nI 0 := by rw [T00]; rfl
  have E8 : fX8_load M = keL M4 := by
    have q : (tC M).1 0 7 = nI L := by rw [tC_f M (by decide)]; exact t2
    rw [fX8_load, ol_tC, q, ol_e, ol_e, ol_e, ol_e, ol_e, p1, obV_st]
    exact r2
  have fM4 : ∀ i, i ≠ 0 → i ≠ 2 → M4.1 i = M.1 i := fun i a c => by rw [r6 i a c, T0o i a c]
  rcases r3 with g | g
  · obtain ⟨ht, h2, h13, h3, h14, s, e, kd, g1, g2, g3, g4, g5, g6, g7, g8, g9, -⟩ := id g
    by_cases qk : kd = 0
    · subst qk
      obtain ⟨⟨z0, z1, z2, z3, z4, ⟨x0, x1, x2, x3, x4⟩, ⟨y0, y1, y2, y3, y4⟩, b0, b1, b2, b3, b4, b5, b6, b7⟩, ⟨rr, sl, md, th, q1, q2, q3, q4, q5, q6, q7, q8, q9, q10, q11, q12⟩, k, hk, v1, v2, v3⟩ := r10 g
      obtain ⟨d1, d2, d3, d4, d5, d6⟩ := h.2.2.2.2.2
      generalize hA : (fun j => (M4.1 2 j).toUInt32.toNat) = A
      have Aj : ∀ j, A j = (M4.1 2 j).toUInt32.toNat := fun j => by rw [← hA]
      have A0 : A 0 = z0 := by rw [Aj]; exact zval y0 (by omega)
      have A1 : A 1 = z1 := by rw [Aj]; exact zval y1 (by omega)
      have A2 : A 2 = z2 := by rw [Aj]; exact zval y2 (by omega)
      have A3 : A 3 = z3 := by rw [Aj]; exact zval y3 (by omega)
      have A4 : A 4 = z4 := by rw [Aj]; exact zval y4 (by omega)
      have A5 : A 5 = rr := by rw [Aj]; exact zval q2 (by omega)
      have A6 : A 6 = sl := by rw [Aj]; exact zval q4 (by omega)
      have A7 : A 7 = md := by rw [Aj]; exact zval q6 (by omega)
      have A8 : A 8 = th := by rw [Aj]; exact zval q8 (by omega)
      have A9 : A 9 = k := by rw [Aj]; exact zval v2 (by omega)
      have AP : ∀ j, 25 ≤ j → j < 109 → A j = aP j := fun j hj hj2 => by
        rw [Aj, r9 j hj, p2 j hj2]
        exact zval rfl (by unfold aP; split; decide; split <;> decide)
      have CF : ∀ i, i ≠ 0 → i ≠ 1 → (sI (sI (sI C4 1 1 0) 0 1 0) 0 2 (-1)).1 i = C4.1 i := fun i a d => by rw [sI_n a, sI_n a, sI_n d]
      have cs : cS (sI (sI (sI C4 1 1 0) 0 1 0) 0 2 (-1)).1 29 A 0 (fun _ _ => 0) := by
        refine ⟨?_, ?_, ⟨?_, fun i hi => ?_, fun i hi => ?_⟩, ⟨?_, fun k hk => absurd hk (by omega)⟩, fun j hj => ?_, ?_, ?_⟩
        · unfold cBt
          rw [CF (29 + 1) (by decide) (by decide), A0, A1, A2, A3, A4, AP 28 (by decide) (by decide), r5 5 (by decide)]
          exact ⟨x0, x1, x2, x3, x4, d6⟩
        · unfold cRu
          rw [CF (29 + 2) (by decide) (by decide), A5, A6, A7, A8]
          exact ⟨q1, q3, q5, q7⟩
        · rw [CF (29 + 3) (by decide) (by decide), A9]; exact v1
        · rw [A9] at hi
          obtain ⟨x, y, z, w1, w2, w3, w4, w5, w6, w7, w8, w9, w10⟩ := v3 i hi
          rw [CF (29 + 3 + 1) (by decide) (by decide), CF (29 + 3 + 2) (by decide) (by decide), CF (29 + 3 + 3) (by decide) (by decide), Aj, Aj, Aj, zval w2 (by omega), zval w4 (by omega), zval w6 (by omega)]
          exact ⟨w1, w3, w5⟩
        · rw [CF (29 + 3 + 4) (by decide) (by decide), r4 (29 + 3 + 4) (by decide) (by omega), AP 25 (by decide) (by decide), show aP 25 = 0 from rfl, Nat.zero_testBit]
          exact d5 i hi
        · rw [CF (29 + 8) (by decide) (by decide), r4 (29 + 8) (by decide) (by omega)]; exact d3
        · rw [CF (29 + 13) (by decide) (by decide), r4 (29 + 13) (by decide) (by omega), AP (29 + j) (by omega) (by omega), show aP (29 + j) = 0 by unfold aP; rw [if_neg (by omega), if_neg (by omega)]]
          exact d4 j hj
        · rw [CF 29 (by decide) (by decide), r4 29 (by decide) (by omega), AP 26 (by decide) (by decide)]; exact d1
        · rw [CF 29 (by decide) (by decide), r4 29 (by decide) (by omega), AP 27 (by decide) (by decide)]; exact d2
      obtain ⟨C7, e1, e2, e3⟩ := cp6 (s := 15) (s2 := 29) (by omega) (by rw [A9]; exact hk) (by decide) (by rw [AP 27 (by decide) (by decide)]; decide) cs
      obtain ⟨C8, f1, f2, f3⟩ := l71 (fun st_9 => some (.inl (st_9.1 (15 + 3) 0), st_9)) C7
      obtain ⟨M5, m1, m2, m3, m4⟩ := qtakesRow M4
      have cs8 : cS C8.1 15 A 0 (fun _ _ => 0) := cS_fr e2 (fun i _ _ => f3 i (by omega))
      have C8f : ∀ i, i ≠ 4 → i < 15 ∨ 29 ≤ i → C8.1 i = (sI (sI (sI C4 1 1 0) 0 1 0) 0 2 (-1)).1 i := fun i a d => by rw [f3 i a, e3 i (by omega)]
      have hg5 : gR (M5.1 1) A 0 (fun _ _ => 0) := ⟨fun j hj => by rw [m2 j (by omega), Aj]; exact zrep _, by rw [m2 36 (by decide), r9 36 (by decide), p2 36 (by decide)]; rfl, fun k hk => absurd hk (by omega)⟩
      refine endG (C' := C8) (M' := M5) (v := nI (A 9)) ?_ ?_ ?_ ⟨⟨A, 0, fun _ _ => 0, cs8, hg5, hm, ?_, ⟨by rw [A9]; exact hk, by rw [AP 25 (by decide) (by decide)]; decide, fun i hi => ?_⟩, ⟨by decide, fun k hk => absurd hk (by omega), fun k hk => absurd hk (by omega)⟩⟩, fun j hj => ?_, ⟨0, by omega, ?_, ?_, fun k hk => absurd hk (by omega)⟩, ?_, ?_, ?_⟩
      · have w1 : (sI C4 1 1 0).1 1 2 = 0 := by rw [sI_r, if_neg (by decide)]; exact h2
        have w2 : (sI (sI C4 1 1 0) 0 1 0).1 1 3 = -1 := by rw [sI_n (by decide), sI_r, if_neg (by decide)]; exact h3
        have w3 : (sI (sI (sI C4 1 1 0) 0 1 0) 0 2 (-1)).1 0 1 = 0 := by rw [sI_r, if_neg (by decide), sI_r, if_pos rfl]
        rw [fL_load, fX7_load, r1 _ (by rw [g7, if_pos (show nI 0 = (0 : Int32) from rfl)]), obV_st, ol_e, w1, ol_e, w2, ol_e, w3, if_pos rfl, e1, obV_st, f1, cs8.2.2.1.1]
        rfl
      · rw [E8]
        unfold keL
        rw [right_G g, ob_s, oj1_e, if_pos rfl, g8, if_pos (show nI 0 = (0 : Int32) from rfl)]
        dsimp only
        rw [right_G g, ob_s, oj1_e, if_pos rfl]
        dsimp only
        rw [qmay1 (by rw [r7]; exact t00) (by decide), obS_s, if_neg (by decide), m1, obV_st, hg5.1 9 (by decide)]
      · rw [m4 0 (by decide) (by decide), r7]; exact t00
      · unfold oS
        rw [A0, A1, A2, A3, A4, A5, A6, A7, A8, AP 27 (by decide) (by decide), AP 28 (by decide) (by decide)]
        exact ⟨b0, b1, b2, b3, b4, b5, b6, b7, q9, q10, q11, q12, by decide, Nat.zero_le _⟩
      · rw [A9] at hi
        obtain ⟨x, y, z, w1, w2, w3, w4, w5, w6, w7, w8, w9, w10⟩ := v3 i hi
        rw [Aj, Aj, Aj, zval w2 (by omega), zval w4 (by omega), zval w6 (by omega)]
        exact ⟨w7, w8, w9, w10⟩
      · rw [f2 j hj, m3 j hj]; exact ⟨rfl, Or.inl rfl⟩
      · rw [C8f 1 (by decide) (by omega)]; rfl
      · rw [m4 0 (by decide) (by decide), r8]; exact t07
      · rw [C8f 0 (by decide) (by omega), m4 0 (by decide) (by decide), h13]; rfl
      · rw [C8f 0 (by decide) (by omega), m4 0 (by decide) (by decide), h14]; rfl
      · unfold dR
        rw [C8f 29 (by decide) (by omega), C8f 37 (by decide) (by omega), C8f 42 (by decide) (by omega), C8f 36 (by decide) (by omega), C8f 30 (by decide) (by omega), CF 29 (by decide) (by decide), CF 37 (by decide) (by decide), CF 42 (by decide) (by decide), CF 36 (by decide) (by decide), CF 30 (by decide) (by decide), r4 29 (by decide) (by omega), r4 37 (by decide) (by omega), r4 42 (by decide) (by omega), r4 36 (by decide) (by omega), r5 5 (by decide)]
        exact ⟨d1, d2, d3, d4, d5, d6⟩
    · obtain ⟨C5, M5, u1, u2, u3, u4, u5⟩ := ref_G (c := 1) ⟨by decide, by decide⟩ g
      have u1 : fX5_refuse 1 C4 = some ((), C5) := u1
      have u2 : fX8_fails 1 M4 = some ((), M5) := u2
      have nk : ¬ nI kd = (0 : Int32) := peqn (b := 0) qk (by omega) (by decide)
      have k5 := keL_E u3 (by rw [u5.2.1, r7]; exact t00)
      refine load_E h hm u3 (r1 _ (by rw [g7, if_neg nk, u1, obV_st])) ?_ (fun i a c => by rw [u4.1 i a, r4 i a c]) (by rw [u4.1 30 (by decide), r5 5 (by decide)]) (fun i a c => by rw [u5.1 i a, fM4 i a c]) (by rw [u5.2.2.1, r8]; exact t07)
      rw [E8, ← k5]
      unfold keL
      rw [right_G g, ob_s, oj1_e, if_pos rfl, g8, if_neg nk, u2, obV_st, wrong_E u3, ob_s, oj1_e, if_neg (by decide)]
  · obtain ⟨C5, u1, u2, u3, u4⟩ := ref_E (c := 1) g
    have k4 : C4.1 1 4 = nI 4 := by obtain ⟨_, _, _, _, _, _, _, _, q⟩ := g; exact q
    exact load_E h hm u3 (r1 _ (by rw [k4, if_neg (by decide), u1, obV_st])) (by rw [E8]; exact keL_E u3 (by rw [r7]; exact t00)) (fun i a c => by rw [u4.1 i a, r4 i a c]) (by rw [u4.1 30 (by decide), r5 5 (by decide)]) fM4 (by rw [r8]; exact t07)
end Q46
