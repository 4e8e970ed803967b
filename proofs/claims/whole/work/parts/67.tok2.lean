/-! PURE PART 37: a token on both sides -/
def pG (b : Nat → Nat) (L : Nat) (C M : uSt) : Prop := tx b L C M ∧ C.1 1 2 = 0 ∧ M.1 0 13 = 0 ∧ C.1 1 3 = -1 ∧ M.1 0 14 = -1 ∧ ∃ s e kd, s ≤ e ∧ e ≤ L ∧ C.1 1 5 = nI s ∧ M.1 0 10 = nI s ∧ C.1 1 6 = nI e ∧ M.1 0 9 = nI e ∧ C.1 1 4 = nI kd ∧ M.1 0 11 = nI kd ∧ kd ≤ 4 ∧ (kd = 2 → e ≤ s + 4 ∧ M.1 0 12 = nI (nm b s (e - s)) ∧ ∀ k, s ≤ k → k < e → bDi (b k) = true)
section Q37
variable {b : Nat → Nat} {L : Nat} {C M : uSt}
theorem tok_both (ht : tx b L C M) (h2 : C.1 1 2 = 0) (h13 : M.1 0 13 = 0) (h3 : C.1 1 3 = -1) (h14 : M.1 0 14 = -1) {e : Nat} (he : e ≤ L) (h6 : C.1 1 6 = nI e) (h9 : M.1 0 9 = nI e) : ∃ C' M', fX5_readToken C = some ((), C') ∧ fX8_token M = some ((), M') ∧ pG b L C' M' ∧ cF C C' ∧ mF M M' := by
  have hL := ht.1
  obtain ⟨C1, c1, c2, c3, c4⟩ := r8_l (b := b) (L := L) (M := M) (fun st_4 => ol (sI st_4 1 6 (st_4.1 1 5)) (fun st_5 => (if (st_5.1 1 5) < (st_5.1 1 1) then og (inB (st_5.1 1 5) 400) (ob (fX5_isLetter (st_5.1 2 (st_5.1 1 5).toNatClampNeg)) (fun x_6 => (if x_6 = 0 then og (inB (st_5.1 1 5) 400) (ob (fX5_isDigit (st_5.1 2 (st_5.1 1 5).toNatClampNeg)) (fun x_7 => (if x_7 = 0 then og (inB (st_5.1 1 5) 400) (oj1 (fun (v_9 : Int32) => ol (sI st_5 1 4 v_9) (fun st_10 => ol (sI st_10 1 6 ((st_10.1 1 6) + (1 : Int32))) (fun st_11 => some ((), st_11)))) (fun j_8 => (if (st_5.1 2 (st_5.1 1 5).toNatClampNeg) = (59 : Int32) then (j_8 (3 : Int32)) else (j_8 (4 : Int32))))) else fX5_readToken_148 (fun st_14 => oj1 (fun (v_16 : Int32) => ol (sI st_14 1 4 v_16) (fun st_17 => some ((), st_17))) (fun j_15 => (if (4 : Int32) < ((st_14.1 1 6) - (st_14.1 1 5)) then (j_15 (4 : Int32)) else (j_15 (2 : Int32))))) FU st_5))) else ol (sI st_5 1 4 (1 : Int32)) (fun st_18 => fX5_readToken_94 (fun st_21 => some ((), st_21)) FU st_18)))) else ol (sI st_5 1 4 (0 : Int32)) (fun st_22 => some ((), st_22))))) (L - e) e FU (sI C 1 5 (nI e)) ⟨hL, by rw [sI_r, if_neg (by decide)]; exact ht.2.1, ht.2.2.1, fun k hk => by rw [sI_n (by decide)]; exact ht.2.2.2 k hk⟩ (by omega) (FU_lt (by omega)) (by rw [sI_r, if_pos rfl])
  obtain ⟨M1, m1, m2, m3, m4⟩ := t0_l (b := b) (L := L) (C := C) (fun st_5 => ol (sI st_5 0 10 (st_5.1 0 9)) (fun st_6 => ob (fX8_at (st_6.1 0 9) st_6) (fun x_7 => (if x_7 = (-1 : Int32) then ol (sI st_6 0 11 (0 : Int32)) (fun st_9 => some ((), st_9)) else ob (fX8_isLetter x_7) (fun x_10 => (if x_10 = 0 then ob (fX8_isDigit x_7) (fun x_11 => (if x_11 = 0 then ol (sI st_6 0 9 ((st_6.1 0 9) + (1 : Int32))) (fun st_12 => oj1 (fun (v_14 : Int32) => ol (sI st_12 0 11 v_14) (fun st_15 => some ((), st_15))) (fun j_13 => (if x_7 = (59 : Int32) then (j_13 (3 : Int32)) else (j_13 (4 : Int32))))) else ol (sI st_6 0 12 (0 : Int32)) (fun st_16 => fX8_token_123 (fun st_24 => oj1 (fun (v_26 : Int32) => ol (sI st_24 0 11 v_26) (fun st_27 => some ((), st_27))) (fun j_25 => (if ((st_24.1 0 9) - (st_24.1 0 10)) ≤ (4 : Int32) then (j_25 (2 : Int32)) else (j_25 (4 : Int32))))) FU st_16))) else fX8_token_76 (fun st_31 => ol (sI st_31 0 11 (1 : Int32)) (fun st_32 => some ((), st_32))) FU st_6)))))) (L - e) e FU M ht (by omega) (FU_lt (by omega)) h9
  obtain ⟨r1, r2, -⟩ := scn_ok (fun k => bBl (b k)) (L - e) e
  generalize scn (fun k => bBl (b k)) (L - e) e = r at *
  have rL : r ≤ L := by omega
  have C1f : ∀ q, q ≠ 5 → C1.1 1 q = C.1 1 q := fun q hq => by rw [c3 q hq, sI_r, if_neg hq]
  have C1o : ∀ q, q ≠ 1 → C1.1 q = C.1 q := fun q hq => by rw [c4 q hq, sI_n hq]
  have E7 : ∀ z, ((fun st_4 => ol (sI st_4 1 6 (st_4.1 1 5)) (fun st_5 => (if (st_5.1 1 5) < (st_5.1 1 1) then og (inB (st_5.1 1 5) 400) (ob (fX5_isLetter (st_5.1 2 (st_5.1 1 5).toNatClampNeg)) (fun x_6 => (if x_6 = 0 then og (inB (st_5.1 1 5) 400) (ob (fX5_isDigit (st_5.1 2 (st_5.1 1 5).toNatClampNeg)) (fun x_7 => (if x_7 = 0 then og (inB (st_5.1 1 5) 400) (oj1 (fun (v_9 : Int32) => ol (sI st_5 1 4 v_9) (fun st_10 => ol (sI st_10 1 6 ((st_10.1 1 6) + (1 : Int32))) (fun st_11 => some ((), st_11)))) (fun j_8 => (if (st_5.1 2 (st_5.1 1 5).toNatClampNeg) = (59 : Int32) then (j_8 (3 : Int32)) else (j_8 (4 : Int32))))) else fX5_readToken_148 (fun st_14 => oj1 (fun (v_16 : Int32) => ol (sI st_14 1 4 v_16) (fun st_17 => some ((), st_17))) (fun j_15 => (if (4 : Int32) < ((st_14.1 1 6) - (st_14.1 1 5)) then (j_15 (4 : Int32)) else (j_15 (2 : Int32))))) FU st_5))) else ol (sI st_5 1 4 (1 : Int32)) (fun st_18 => fX5_readToken_94 (fun st_21 => some ((), st_21)) FU st_18)))) else ol (sI st_5 1 4 (0 : Int32)) (fun st_22 => some ((), st_22))))) : uSt → Option (Unit × uSt)) C1 = z → fX5_readToken C = z := by
    intro z hz
    rw [fX5_readToken, h6, ol_e]
    exact c1.trans hz
  have E8 : ∀ z, ((fun st_5 => ol (sI st_5 0 10 (st_5.1 0 9)) (fun st_6 => ob (fX8_at (st_6.1 0 9) st_6) (fun x_7 => (if x_7 = (-1 : Int32) then ol (sI st_6 0 11 (0 : Int32)) (fun st_9 => some ((), st_9)) else ob (fX8_isLetter x_7) (fun x_10 => (if x_10 = 0 then ob (fX8_isDigit x_7) (fun x_11 => (if x_11 = 0 then ol (sI st_6 0 9 ((st_6.1 0 9) + (1 : Int32))) (fun st_12 => oj1 (fun (v_14 : Int32) => ol (sI st_12 0 11 v_14) (fun st_15 => some ((), st_15))) (fun j_13 => (if x_7 = (59 : Int32) then (j_13 (3 : Int32)) else (j_13 (4 : Int32))))) else ol (sI st_6 0 12 (0 : Int32)) (fun st_16 => fX8_token_123 (fun st_24 => oj1 (fun (v_26 : Int32) => ol (sI st_24 0 11 v_26) (fun st_27 => some ((), st_27))) (fun j_25 => (if ((st_24.1 0 9) - (st_24.1 0 10)) ≤ (4 : Int32) then (j_25 (2 : Int32)) else (j_25 (4 : Int32))))) FU st_16))) else fX8_token_76 (fun st_31 => ol (sI st_31 0 11 (1 : Int32)) (fun st_32 => some ((), st_32))) FU st_6)))))) : uSt → Option (Unit × uSt)) M1 = z → fX8_token M = z := by
    intro z hz
    rw [fX8_token]
    exact m1.trans hz
  -- where the token begins
  have S25 : (sI C1 1 6 (nI r)).1 1 5 = nI r := by rw [sI_r, if_neg (by decide)]; exact c2
  have S21 : (sI C1 1 6 (nI r)).1 1 1 = nI L := by rw [sI_r, if_neg (by decide), C1f 1 (by decide)]; exact ht.2.1
  have ht2 : tx b L (sI C1 1 6 (nI r)) (sI M1 0 10 (nI r)) := ⟨hL, S21, by rw [sI_r, if_neg (by decide), m3 8 (by decide)]; exact ht.2.2.1, fun k hk => by rw [sI_n (by decide), sI_n (by decide), C1o 2 (by decide), m4 6 (by decide)]; exact ht.2.2.2 k hk⟩
  have T9 : (sI M1 0 10 (nI r)).1 0 9 = nI r := by rw [sI_r, if_neg (by decide)]; exact m2
  have Cf2 : ∀ q, q ≠ 5 → q ≠ 6 → (sI C1 1 6 (nI r)).1 1 q = C.1 1 q := fun q q5 q6 => by rw [sI_r, if_neg q6, C1f q q5]
  have Co2 : ∀ q, q ≠ 1 → (sI C1 1 6 (nI r)).1 q = C.1 q := fun q hq => by rw [sI_n hq, C1o q hq]
  have Mf2 : ∀ q, q ≠ 9 → q ≠ 10 → (sI M1 0 10 (nI r)).1 0 q = M.1 0 q := fun q q9 q10 => by rw [sI_r, if_neg q10, m3 q q9]
  have Mo2 : ∀ q, q ≠ 0 → (sI M1 0 10 (nI r)).1 q = M.1 q := fun q hq => by rw [sI_n hq, m4 q hq]
  have T10 : (sI M1 0 10 (nI r)).1 0 10 = nI r := by rw [sI_r, if_pos rfl]
  have S26 : (sI C1 1 6 (nI r)).1 1 6 = nI r := by rw [sI_r, if_pos rfl]
  have at8 := qat ht2 (show r ≤ 1000 by omega)
  dsimp only at E7 E8
  rw [c2, ol_e, S25, S21] at E7
  rw [m2, ol_e, T9, at8, ob_s] at E8
  generalize hS : sI C1 1 6 (nI r) = S at *
  generalize hT : sI M1 0 10 (nI r) = T at *
  -- the end of every case
  have fin : ∀ (C' M' : uSt) (e' kd : Nat), r ≤ e' → e' ≤ L → kd ≤ 4 → fX5_readToken C = some ((), C') → fX8_token M = some ((), M') → C'.1 1 5 = nI r → M'.1 0 10 = nI r → C'.1 1 6 = nI e' → M'.1 0 9 = nI e' → C'.1 1 4 = nI kd → M'.1 0 11 = nI kd → (kd = 2 → e' ≤ r + 4 ∧ M'.1 0 12 = nI (nm b r (e' - r)) ∧ ∀ k, r ≤ k → k < e' → bDi (b k) = true) → (∀ q, q ≠ 4 → q ≠ 5 → q ≠ 6 → C'.1 1 q = C.1 1 q) → (∀ q, q ≠ 1 → C'.1 q = C.1 q) → (∀ q, q < 9 ∨ 13 ≤ q → M'.1 0 q = M.1 0 q) → (∀ q, q ≠ 0 → M'.1 q = M.1 q) → ∃ C' M', fX5_readToken C = some ((), C') ∧ fX8_token M = some ((), M') ∧ pG b L C' M' ∧ cF C C' ∧ mF M M' := by
    intro C' M' e' kd g1 g2 g3 g4 g5 g6 g7 g8 g9 g10 g11 g12 g13 g14 g15 g16
    have f1 : cF C C' := ⟨g14, g13 1 (by decide) (by decide) (by decide)⟩
    have f2 : mF M M' := ⟨g16, g15 0 (by omega), g15 7 (by omega), g15 8 (by omega)⟩
    exact ⟨C', M', g4, g5, ⟨tx_fr ht f1 f2, by rw [g13 2 (by decide) (by decide) (by decide)]; exact h2, by rw [g15 13 (by omega)]; exact h13, by rw [g13 3 (by decide) (by decide) (by decide)]; exact h3, by rw [g15 14 (by omega)]; exact h14, r, e', kd, g1, g2, g6, g7, g8, g9, g10, g11, g3, g12⟩, f1, f2⟩
  by_cases q : r < L
  · obtain ⟨b1, b2, b3⟩ := ht2.2.2.2 r q
    obtain ⟨y1, y2, y3, y4, y5, y6, y7, y8, -, -⟩ := by_b b1
    rw [if_pos (plt q (by omega)), zin (by omega) (by omega), zcl (by omega), og_t, b2, y2, ob_s] at E7
    rw [if_pos q, if_neg y8, y4, ob_s] at E8
    by_cases ql : bLe (b r) = true
    · -- a word
      rw [if_pos ql, if_neg (by decide), ol_e] at E7
      rw [if_pos ql, if_neg (by decide)] at E8
      obtain ⟨C3, d1, d2, d3, d4⟩ := r94_l (b := b) (L := L) (M := T) (fun st_21 => some ((), st_21)) (L - r) r FU (sI S 1 4 1) ⟨hL, by rw [sI_r, if_neg (by decide)]; exact ht2.2.1, ht2.2.2.1, fun k hk => by rw [sI_n (by decide)]; exact ht2.2.2.2 k hk⟩ (by omega) (FU_lt (by omega)) (by rw [sI_r, if_neg (by decide)]; exact S26)
      obtain ⟨M3, n1, n2, n3, n4⟩ := t76_l (b := b) (L := L) (C := S) (fun st_31 => ol (sI st_31 0 11 (1 : Int32)) (fun st_32 => some ((), st_32))) (L - r) r FU T ht2 (by omega) (FU_lt (by omega)) T9
      obtain ⟨u1, u2, -⟩ := scn_ok (fun k => bLe (b k)) (L - r) r
      refine fin C3 (sI M3 0 11 1) (scn (fun k => bLe (b k)) (L - r) r) 1 u1 (by omega) (by decide) (E7 _ d1) (E8 _ (n1.trans (by rw [ol_e]))) ?_ ?_ d2 ?_ ?_ ?_ (fun h => absurd h (by decide)) (fun p p4 p5 p6 => ?_) (fun p hp => ?_) (fun p hp => ?_) (fun p hp => ?_)
      · rw [d3 5 (by decide), sI_r, if_neg (by decide)]; exact S25
      · rw [sI_r, if_neg (by decide), n3 10 (by decide)]; exact T10
      · rw [sI_r, if_neg (by decide)]; exact n2
      · rw [d3 4 (by decide), sI_r, if_pos rfl]; rfl
      · rw [sI_r, if_pos rfl]; rfl
      · rw [d3 p p6, sI_r, if_neg p4, Cf2 p p5 p6]
      · rw [d4 p hp, sI_n hp, Co2 p hp]
      · rw [sI_r, if_neg (by omega), n3 p (by omega), Mf2 p (by omega) (by omega)]
      · rw [sI_n hp, n4 p hp, Mo2 p hp]
    · rw [if_neg ql, if_pos rfl, og_t, y3, ob_s] at E7
      rw [if_neg ql, if_pos rfl, y5, ob_s] at E8
      by_cases qd : bDi (b r) = true
      · -- a number
        rw [if_pos qd, if_neg (by decide)] at E7
        rw [if_pos qd, if_neg (by decide), ol_e] at E8
        obtain ⟨C3, d1, d2, d3, d4⟩ := r148_l (b := b) (L := L) (M := T) (fun st_14 => oj1 (fun (v_16 : Int32) => ol (sI st_14 1 4 v_16) (fun st_17 => some ((), st_17))) (fun j_15 => (if (4 : Int32) < ((st_14.1 1 6) - (st_14.1 1 5)) then (j_15 (4 : Int32)) else (j_15 (2 : Int32))))) (L - r) r FU S ht2 (by omega) (FU_lt (by omega)) S26
        obtain ⟨M3, n1, n2, n5, n3, n4⟩ := t123_l (b := b) (L := L) (C := S) (s := r) (fun st_24 => oj1 (fun (v_26 : Int32) => ol (sI st_24 0 11 v_26) (fun st_27 => some ((), st_27))) (fun j_25 => (if ((st_24.1 0 9) - (st_24.1 0 10)) ≤ (4 : Int32) then (j_25 (2 : Int32)) else (j_25 (4 : Int32))))) (L - r) r FU (sI T 0 12 0) (tx_9 ht2 (by decide)) (by omega) (FU_lt (by omega)) (Nat.le_refl _) (by rw [sI_r, if_neg (by decide)]; exact T9) (by rw [sI_r, if_neg (by decide)]; exact T10) (by rw [sI_r, if_pos rfl, Nat.sub_self]; rfl)
        obtain ⟨u1, u2, u3⟩ := scn_ok (fun k => bDi (b k)) (L - r) r
        generalize scn (fun k => bDi (b k)) (L - r) r = t at *
        have D5 : C3.1 1 5 = nI r := by rw [d3 5 (by decide)]; exact S25
        have N10 : M3.1 0 10 = nI r := by rw [n3 10 (by decide) (by decide), sI_r, if_neg (by decide)]; exact T10
        have kdE : ∃ kd, kd ≤ 4 ∧ (kd = 2 → t ≤ r + 4) ∧ fX5_readToken C = some ((), sI C3 1 4 (nI kd)) ∧ fX8_token M = some ((), sI M3 0 11 (nI kd)) := by
          rw [d2, D5, zsub u1] at d1
          rw [n2, N10, zsub u1] at n1
          rw [oj1_e] at d1 n1
          by_cases q4 : t - r ≤ 4
          · rw [if_neg (show ¬ (4 : Int32) < nI (t - r) from nplt (a := 4) q4 (by decide))] at d1
            rw [if_pos (show nI (t - r) ≤ (4 : Int32) from ple (b := 4) q4 (by decide))] at n1
            exact ⟨2, by decide, fun _ => by omega, E7 _ d1, E8 _ n1⟩
          · rw [if_pos (show (4 : Int32) < nI (t - r) from plt (a := 4) (by omega) (by omega))] at d1
            rw [if_neg (show ¬ nI (t - r) ≤ (4 : Int32) from nple (b := 4) (by omega) (by omega))] at n1
            exact ⟨4, by decide, fun h => absurd h (by decide), E7 _ d1, E8 _ n1⟩
        obtain ⟨kd, k4, k2, e7, e8⟩ := kdE
        refine fin _ _ t kd u1 (by omega) k4 e7 e8 ?_ ?_ ?_ ?_ (by rw [sI_r, if_pos rfl]) (by rw [sI_r, if_pos rfl]) (fun h => ⟨k2 h, ?_, fun k h1 h2 => u3 k h1 h2⟩) (fun p p4 p5 p6 => ?_) (fun p hp => ?_) (fun p hp => ?_) (fun p hp => ?_)
        · rw [sI_r, if_neg (by decide)]; exact D5
        · rw [sI_r, if_neg (by decide)]; exact N10
        · rw [sI_r, if_neg (by decide)]; exact d2
        · rw [sI_r, if_neg (by decide)]; exact n2
        · have := k2 h
          rw [sI_r, if_neg (by decide), n5, show min (t - r) 4 = t - r by omega]
        · rw [sI_r, if_neg p4, d3 p p6, Cf2 p p5 p6]
        · rw [sI_n hp, d4 p hp, Co2 p hp]
        · rw [sI_r, if_neg (by omega), n3 p (by omega) (by omega), sI_r, if_neg (by omega), Mf2 p (by omega) (by omega)]
        · rw [sI_n hp, n4 p hp, sI_n hp, Mo2 p hp]
      · -- a sign
        rw [if_neg qd, if_pos rfl, og_t, oj1_e] at E7
        rw [if_neg qd, if_pos rfl, ol_e, zinc, oj1_e] at E8
        have kdE : ∃ kd, kd ≤ 4 ∧ kd ≠ 2 ∧ fX5_readToken C = some ((), sI (sI S 1 4 (nI kd)) 1 6 (nI (r + 1))) ∧ fX8_token M = some ((), sI (sI T 0 9 (nI (r + 1))) 0 11 (nI kd)) := by
          have F6 : ∀ kd, (sI S 1 4 (nI kd)).1 1 6 + 1 = nI (r + 1) := fun kd => by rw [sI_r, if_neg (by decide), S26, zinc]
          by_cases qs : nI (b r) = 59
          · rw [if_pos (y7.mpr qs)] at E7
            rw [if_pos qs] at E8
            refine ⟨3, by decide, by decide, E7 _ ?_, E8 _ ?_⟩
            · dsimp only
              rw [ol_e, ol_e, show (3 : Int32) = nI 3 from rfl, F6 3]
            · rfl
          · rw [if_neg (fun h => qs (y7.mp h))] at E7
            rw [if_neg qs] at E8
            refine ⟨4, by decide, by decide, E7 _ ?_, E8 _ ?_⟩
            · dsimp only
              rw [ol_e, ol_e, show (4 : Int32) = nI 4 from rfl, F6 4]
            · rfl
        obtain ⟨kd, k4, k2, e7, e8⟩ := kdE
        refine fin _ _ (r + 1) kd (by omega) (by omega) k4 e7 e8 ?_ ?_ (by rw [sI_r, if_pos rfl]) ?_ ?_ (by rw [sI_r, if_pos rfl]) (fun h => absurd h k2) (fun p p4 p5 p6 => ?_) (fun p hp => ?_) (fun p hp => ?_) (fun p hp => ?_)
        · rw [sI_r, if_neg (by decide), sI_r, if_neg (by decide)]; exact S25
        · rw [sI_r, if_neg (by decide), sI_r, if_neg (by decide)]; exact T10
        · rw [sI_r, if_neg (by decide), sI_r, if_pos rfl]
        · rw [sI_r, if_neg (by decide), sI_r, if_pos rfl]
        · rw [sI_r, if_neg p6, sI_r, if_neg p4, Cf2 p p5 p6]
        · rw [sI_n hp, sI_n hp, Co2 p hp]
        · rw [sI_r, if_neg (by omega), sI_r, if_neg (by omega), Mf2 p (by omega) (by omega)]
        · rw [sI_n hp, sI_n hp, Mo2 p hp]
  · -- the end
    rw [if_neg (nplt (by omega) (by omega)), ol_e] at E7
    rw [if_neg q, if_pos rfl, ol_e] at E8
    refine fin _ _ r 0 (Nat.le_refl _) rL (by decide) (E7 _ rfl) (E8 _ rfl) ?_ ?_ ?_ ?_ (by rw [sI_r, if_pos rfl]; rfl) (by rw [sI_r, if_pos rfl]; rfl) (fun h => absurd h (by decide)) (fun p p4 p5 p6 => ?_) (fun p hp => ?_) (fun p hp => ?_) (fun p hp => ?_)
    · rw [sI_r, if_neg (by decide)]; exact S25
    · rw [sI_r, if_neg (by decide)]; exact T10
    · rw [sI_r, if_neg (by decide)]; exact S26
    · rw [sI_r, if_neg (by decide)]; exact T9
    · rw [sI_r, if_neg p4, Cf2 p p5 p6]
    · rw [sI_n hp, Co2 p hp]
    · rw [sI_r, if_neg (by omega), Mf2 p (by omega) (by omega)]
    · rw [sI_n hp, Mo2 p hp]
end Q37
