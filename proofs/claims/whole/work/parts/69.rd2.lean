/-! PURE PART 39: numbers, semicolons, taken words -/
def pX (b : Nat → Nat) (L : Nat) (C M : uSt) : Prop := pG b L C M ∨ pE C M
section Q39
variable {b : Nat → Nat} {L : Nat} {C M C' M' : uSt}
theorem pG_x (h : pG b L C M) (e1 : C'.1 1 = C.1 1) (e2 : C'.1 2 = C.1 2) (e3 : M'.1 0 = M.1 0) (e4 : M'.1 6 = M.1 6) : pG b L C' M' := by
  unfold pG tx
  rw [e1, e2, e3, e4]
  exact h
theorem pE_x (h : pE C M) (e1 : C'.1 1 = C.1 1) (e3 : M'.1 0 = M.1 0) : pE C' M' := by
  unfold pE
  rw [e1, e3]
  exact h
theorem pX_x (h : pX b L C M) (e1 : C'.1 1 = C.1 1) (e2 : C'.1 2 = C.1 2) (e3 : M'.1 0 = M.1 0) (e4 : M'.1 6 = M.1 6) : pX b L C' M' := by
  rcases h with h | h
  · exact Or.inl (pG_x h e1 e2 e3 e4)
  · exact Or.inr (pE_x h e1 e3)
theorem right_G (h : pG b L C M) : fX8_isWrong M = some 0 := by rw [fX8_isWrong, h.2.2.1, if_pos rfl]
theorem num_G {lo hi : Nat} (hlo : lo < 2147483648) (hhi : hi < 2147483648) (h : pG b L C M) : ∃ v v' C' M', fX5_takeNumber (nI lo) (nI hi) C = some (v, C') ∧ fX8_figure (nI lo) (nI hi) M = some (v', M') ∧ cF C C' ∧ mF M M' ∧ ((pG b L C' M' ∧ ∃ z, v = nI z ∧ v' = nI z ∧ lo ≤ z ∧ z ≤ hi) ∨ pE C' M') := by
  obtain ⟨ht, h2, h13, h3, h14, s, e, kd, g1, g2, g3, g4, g5, g6, g7, g8, g9, g10⟩ := id h
  have hL := ht.1
  have rw0 := right_G h
  by_cases qk : kd = 2
  · subst qk
    obtain ⟨n1, n2, n3⟩ := g10 rfl
    have hz : nm b s (e - s) < 10000 := by
      have h1 := nm_le (b := b) (s := s) (e - s) (fun i hi => n3 (s + i) (by omega) (by omega))
      have h2 : 10 ^ (e - s) ≤ 10 ^ 4 := Nat.pow_le_pow_right (by decide) (by omega)
      omega
    have tn := tn_l (nI lo) (nI hi) ht n1 g2 n3 g5 (fun l3_5 => oj0 (obV (fX5_refuse (2 : Int32) C) (fun st_7 => some (nI lo, st_7))) (fun j_6 => (if l3_5 < nI lo then j_6 else (if l3_5 ≤ nI hi then obV (fX5_readToken C) (fun st_8 => some (l3_5, st_8)) else j_6)))) (e - s) s FU (by omega) (Nat.le_refl _) (FU_lt (by omega))
    rw [Nat.sub_self] at tn
    have E7 : ∀ z, oj0 (obV (fX5_refuse (2 : Int32) C) (fun st_7 => some (nI lo, st_7))) (fun j_6 => (if nI (nm b s (e - s)) < nI lo then j_6 else (if nI (nm b s (e - s)) ≤ nI hi then obV (fX5_readToken C) (fun st_8 => some (nI (nm b s (e - s)), st_8)) else j_6))) = z → fX5_takeNumber (nI lo) (nI hi) C = z := by
      intro z hz
      rw [fX5_takeNumber, g7, if_pos (show nI 2 = (2 : Int32) from rfl), g3, ol_e]
      exact tn.trans hz
    by_cases qr : lo ≤ nm b s (e - s) ∧ nm b s (e - s) ≤ hi
    · obtain ⟨C1, M1, t1, t2, t3, t4, t5⟩ := tok_G h
      refine ⟨nI (nm b s (e - s)), nI (nm b s (e - s)), C1, M1, E7 _ ?_, ?_, t4, t5, Or.inl ⟨t3, _, rfl, rfl, qr.1, qr.2⟩⟩
      · rw [oj0_e, if_neg (nplt qr.1 (by omega)), if_pos (ple qr.2 hhi), t1, obV_st]
      · rw [fX8_figure, rw0, ob_s, if_pos rfl, oj1_e, g8, if_pos (show nI 2 = (2 : Int32) from rfl), n2, qisIn1 (by omega) qr.1 qr.2 hhi, ob_s, if_neg (by decide)]
        dsimp only
        rw [ol_e, rw0, ob_s, if_pos rfl, t2, obV_st, n2]
    · obtain ⟨C1, M1, t1, t2, t3, t4, t5⟩ := ref_G (c := 2) ⟨by decide, by decide⟩ h
      have t1 : fX5_refuse 2 C = some ((), C1) := t1
      have t2 : fX8_fails 2 M = some ((), M1) := t2
      refine ⟨nI lo, M1.1 0 12, C1, M1, E7 _ ?_, ?_, t4, t5, Or.inr t3⟩
      · rw [oj0_e, t1, obV_st]
        by_cases q1 : nm b s (e - s) < lo
        · rw [if_pos (plt q1 hlo)]
        · rw [if_neg (nplt (by omega) (by omega)), if_neg (nple (by omega) (by omega))]
      · rw [fX8_figure, rw0, ob_s, if_pos rfl, oj1_e, g8, if_pos (show nI 2 = (2 : Int32) from rfl), n2, qisIn (by omega) hlo hhi, if_neg qr, ob_s, if_pos rfl, t2, obV_st]
        dsimp only
        rw [ol_e, wrong_E t3, ob_s, if_neg (by decide)]
  · obtain ⟨C1, M1, t1, t2, t3, t4, t5⟩ := ref_G (c := 1) ⟨by decide, by decide⟩ h
    have t1 : fX5_refuse 1 C = some ((), C1) := t1
    have t2 : fX8_fails 1 M = some ((), M1) := t2
    have nk : ¬ nI kd = (2 : Int32) := peqn (b := 2) qk (by omega) (by decide)
    refine ⟨nI lo, M1.1 0 12, C1, M1, ?_, ?_, t4, t5, Or.inr t3⟩
    · rw [fX5_takeNumber, g7, if_neg nk, t1, obV_st]
    · rw [fX8_figure, rw0, ob_s, if_pos rfl, oj1_e, g8, if_neg nk, t2, obV_st]
      dsimp only
      rw [ol_e, wrong_E t3, ob_s, if_neg (by decide)]
theorem num_E (lo hi lo' hi' : Int32) (h : pE C M) : ∃ v v' C', fX5_takeNumber lo hi C = some (v, C') ∧ fX8_figure lo' hi' M = some (v', M) ∧ cF C C' ∧ pE C' M := by
  obtain ⟨C1, t1, t2, t3, t4⟩ := ref_E (c := 1) h
  refine ⟨lo, lo', C1, ?_, by rw [fX8_figure, wrong_E h, ob_s, if_neg (by decide)], t4, t3⟩
  obtain ⟨c, p, -, -, -, -, -, -, h4⟩ := h
  rw [fX5_takeNumber, h4, if_neg (by decide), t1, obV_st]
theorem semi_X (h : pX b L C M) : ∃ C' M', fX5_takeSemicolon C = some ((), C') ∧ fX8_ends M = some ((), M') ∧ pX b L C' M' ∧ cF C C' ∧ mF M M' := by
  rcases h with h | h
  · obtain ⟨ht, h2, h13, h3, h14, s, e, kd, g1, g2, g3, g4, g5, g6, g7, g8, g9, g10⟩ := id h
    by_cases qk : kd = 3
    · subst qk
      obtain ⟨C1, M1, t1, t2, t3, t4, t5⟩ := tok_G h
      refine ⟨C1, M1, ?_, ?_, Or.inl t3, t4, t5⟩
      · rw [fX5_takeSemicolon, g7, if_pos (show nI 3 = (3 : Int32) from rfl), t1, obV_st]
      · rw [fX8_ends, oj1_e, g8, if_pos (show nI 3 = (3 : Int32) from rfl)]
        dsimp only
        rw [right_G h, ob_s, if_pos rfl, t2, obV_st]
    · obtain ⟨C1, M1, t1, t2, t3, t4, t5⟩ := ref_G (c := 1) ⟨by decide, by decide⟩ h
      have t1 : fX5_refuse 1 C = some ((), C1) := t1
      have t2 : fX8_fails 1 M = some ((), M1) := t2
      have nk : ¬ nI kd = (3 : Int32) := peqn (b := 3) qk (by omega) (by decide)
      refine ⟨C1, M1, ?_, ?_, Or.inr t3, t4, t5⟩
      · rw [fX5_takeSemicolon, g7, if_neg nk, t1, obV_st]
      · rw [fX8_ends, oj1_e, g8, if_neg nk, t2, obV_st]
        dsimp only
        rw [wrong_E t3, ob_s, if_neg (by decide)]
  · obtain ⟨C1, t1, t2, t3, t4⟩ := ref_E (c := 1) h
    refine ⟨C1, M, ?_, ?_, Or.inr t3, t4, mF_refl M⟩
    · obtain ⟨c, p, -, -, -, -, -, -, h4⟩ := id h
      rw [fX5_takeSemicolon, h4, if_neg (by decide), t1, obV_st]
    · rw [fX8_ends, oj1_e, t2, obV_st]
      by_cases q3 : M.1 0 11 = 3
      · rw [if_pos q3]
        dsimp only
        rw [wrong_E h, ob_s, if_neg (by decide)]
      · rw [if_neg q3]
        dsimp only
        rw [wrong_E h, ob_s, if_neg (by decide)]
theorem tW_G {w : Nat} (hw : w < 8) (h : pG b L C M) : ∃ C' M', fX5_takeWord w C = some ((), C') ∧ cF C C' ∧ mF M M' ∧ ((fX8_takesWord (w + 8) M = some (1, M') ∧ pG b L C' M') ∨ (fX8_takesWord (w + 8) M = some (0, M) ∧ fX8_fails 1 M = some ((), M') ∧ pE C' M')) := by
  obtain ⟨x, x1, x2, x3⟩ := word_G hw h
  rcases x1 with rfl | rfl
  · obtain ⟨C1, M1, t1, t2, t3, t4, t5⟩ := ref_G (c := 1) ⟨by decide, by decide⟩ h
    have t1 : fX5_refuse 1 C = some ((), C1) := t1
    have t2 : fX8_fails 1 M = some ((), M1) := t2
    refine ⟨C1, M1, ?_, t4, t5, Or.inr ⟨?_, t2, t3⟩⟩
    · rw [fX5_takeWord, x2, ob_s, if_pos rfl, t1, obV_st]
    · rw [fX8_takesWord, x3, ob_s, if_pos rfl, isB0, og_t]
  · obtain ⟨C1, M1, t1, t2, t3, t4, t5⟩ := tok_G h
    refine ⟨C1, M1, ?_, t4, t5, Or.inl ⟨?_, t3⟩⟩
    · rw [fX5_takeWord, x2, ob_s, if_neg (by decide), t1, obV_st]
    · rw [fX8_takesWord, x3, ob_s, if_neg (by decide), t2, obV_st, isB1, og_t]
/-- a number is read into a field of the draft and into the reference's row -/
theorem numS {lo hi i j k : Nat} (hi' hm' : Int32) (hlo : lo < 2147483648) (hhi : hi < 2147483648) (hi1 : i ≠ 1) (hi2 : i ≠ 2) (h : pX b L C M) (hG : pG b L C M → hi' = nI hi ∧ hm' = nI hi) : ∃ v v' C' M', fX5_takeNumber (nI lo) hi' C = some (v, C') ∧ fX8_figure (nI lo) hm' M = some (v', M') ∧ cF C C' ∧ mF M M' ∧ pX b L (sI C' i j v) (sI M' 2 k v') ∧ (pG b L (sI C' i j v) (sI M' 2 k v') → pG b L C M ∧ ∃ z, v = nI z ∧ v' = nI z ∧ lo ≤ z ∧ z ≤ hi) := by
  rcases h with h | h
  · obtain ⟨e1, e2⟩ := hG h
    obtain ⟨v, v', C', M', a1, a2, a3, a4, a5⟩ := num_G hlo hhi h
    subst e1 e2
    refine ⟨v, v', C', M', a1, a2, a3, a4, ?_, fun hg => ⟨h, ?_⟩⟩
    · rcases a5 with ⟨a5, -⟩ | a5
      · exact Or.inl (pG_x a5 (sI_n hi1.symm) (sI_n hi2.symm) (sI_n (by decide)) (sI_n (by decide)))
      · exact Or.inr (pE_x a5 (sI_n hi1.symm) (sI_n (by decide)))
    · rcases a5 with ⟨-, a5⟩ | a5
      · exact a5
      · have q : pE (sI C' i j v) (sI M' 2 k v') := pE_x a5 (sI_n hi1.symm) (sI_n (by decide))
        obtain ⟨c, p, c1, c2, c3, -⟩ := q
        have := hg.2.1
        rw [c3, show (0 : Int32) = nI 0 from rfl, zeq (by omega) (by decide)] at this
        omega
  · obtain ⟨v, v', C', a1, a2, a3, a4⟩ := num_E (nI lo) hi' (nI lo) hm' h
    refine ⟨v, v', C', M, a1, a2, a3, mF_refl M, Or.inr (pE_x a4 (sI_n hi1.symm) (sI_n (by decide))), fun hg => ?_⟩
    have q : pE (sI C' i j v) (sI M 2 k v') := pE_x a4 (sI_n hi1.symm) (sI_n (by decide))
    obtain ⟨c, p, c1, c2, c3, -⟩ := q
    have := hg.2.1
    rw [c3, show (0 : Int32) = nI 0 from rfl, zeq (by omega) (by decide)] at this
    omega
end Q39
