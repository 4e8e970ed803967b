/-! PURE PART 41: one setting -/
section Q41
variable {b : Nat → Nat} {L : Nat} {C M : uSt}
theorem not_GE (h : pG b L C M) (g : pE C M) : False := by
  obtain ⟨c, p, c1, c2, c3, -⟩ := g
  have := h.2.1
  rw [c3, show (0 : Int32) = nI 0 from rfl, zeq (by omega) (by decide)] at this
  omega
theorem semi_E (h : pE C M) : ∃ C', fX5_takeSemicolon C = some ((), C') ∧ fX8_ends M = some ((), M) ∧ pE C' M ∧ cF C C' := by
  obtain ⟨C1, t1, t2, t3, t4⟩ := ref_E (c := 1) h
  refine ⟨C1, ?_, ?_, t3, t4⟩
  · obtain ⟨c, p, -, -, -, -, -, -, h4⟩ := id h
    rw [fX5_takeSemicolon, h4, if_neg (by decide), t1, obV_st]
  · rw [fX8_ends, oj1_e, t2, obV_st]
    by_cases q3 : M.1 0 11 = 3
    · rw [if_pos q3]
      dsimp only
      rw [wrong_E h, ob_s, if_neg (by decide)]
    · rw [if_neg q3]
      dsimp only
      rw [wrong_E h, ob_s, if_neg (by decide)]
theorem semi_Y (h : pX b L C M) : ∃ C' M', fX5_takeSemicolon C = some ((), C') ∧ fX8_ends M = some ((), M') ∧ pX b L C' M' ∧ cF C C' ∧ mF M M' ∧ (pG b L C' M' → pG b L C M) := by
  rcases h with h | h
  · obtain ⟨C', M', a1, a2, a3, a4, a5⟩ := semi_X (Or.inl h)
    exact ⟨C', M', a1, a2, a3, a4, a5, fun _ => h⟩
  · obtain ⟨C', a1, a2, a3, a4⟩ := semi_E h
    exact ⟨C', M, a1, a2, Or.inr a3, a4, mF_refl M, fun g => absurd a3 (fun e => not_GE g e)⟩
/-- which setting stands there: 3: none -/
theorem set_G (h : pG b L C M) : ∃ t, t ≤ 3 ∧ fX5_settingAtToken C = some (if t = 3 then 0 else nI (2 ^ t)) ∧ fX8_setting M = some (if t = 3 then -1 else nI t) := by
  obtain ⟨x, x1, x2, x3⟩ := word_G (w := 2) (by decide) h
  obtain ⟨y, y1, y2, y3⟩ := word_G (w := 3) (by decide) h
  obtain ⟨z, z1, z2, z3⟩ := word_G (w := 4) (by decide) h
  have x3 : fX8_isWord 10 M = some x := x3
  have y3 : fX8_isWord 11 M = some y := y3
  have z3 : fX8_isWord 12 M = some z := z3
  rw [fX5_settingAtToken, fX8_setting, x2, x3, ob_s, ob_s]
  rcases x1 with rfl | rfl
  · rw [if_pos rfl, if_pos rfl, y2, y3, ob_s, ob_s]
    rcases y1 with rfl | rfl
    · rw [if_pos rfl, if_pos rfl, z2, z3, ob_s, ob_s]
      rcases z1 with rfl | rfl
      · exact ⟨3, by decide, by rw [if_pos rfl, if_pos rfl], by rw [if_pos rfl, if_pos rfl]⟩
      · exact ⟨2, by decide, by rw [if_neg (by decide), if_neg (by decide)]; rfl, by rw [if_neg (by decide), if_neg (by decide)]; rfl⟩
    · exact ⟨1, by decide, by rw [if_neg (by decide), if_neg (by decide)]; rfl, by rw [if_neg (by decide), if_neg (by decide)]; rfl⟩
  · exact ⟨0, by decide, by rw [if_neg (by decide), if_neg (by decide)]; rfl, by rw [if_neg (by decide), if_neg (by decide)]; rfl⟩
theorem set_E (h : pE C M) : fX5_settingAtToken C = some 0 ∧ fX8_setting M = some (-1) := by
  obtain ⟨x1, x2⟩ := word_E (w := 2) h
  obtain ⟨y1, y2⟩ := word_E (w := 3) h
  obtain ⟨z1, z2⟩ := word_E (w := 4) h
  have x2 : fX8_isWord 10 M = some 0 := x2
  have y2 : fX8_isWord 11 M = some 0 := y2
  have z2 : fX8_isWord 12 M = some 0 := z2
  exact ⟨by rw [fX5_settingAtToken, x1, ob_s, if_pos rfl, y1, ob_s, if_pos rfl, z1, ob_s, if_pos rfl], by rw [fX8_setting, x2, ob_s, if_pos rfl, y2, ob_s, if_pos rfl, z2, ob_s, if_pos rfl]⟩
/-- the rules of the draft and of the reference's row -/
def ruI (C M : uSt) : Prop := ∃ r sl md th, C.1 31 0 = nI r ∧ M.1 2 5 = nI r ∧ C.1 31 1 = nI sl ∧ M.1 2 6 = nI sl ∧ C.1 31 2 = nI md ∧ M.1 2 7 = nI md ∧ C.1 31 3 = nI th ∧ M.1 2 8 = nI th ∧ r ≤ 200 ∧ sl ≤ 24 ∧ md ≤ 2 ∧ th ≤ 99
/-- the frame of the settings -/
def sFr (C M C' M' : uSt) : Prop := (∀ i, i ≠ 1 → i ≠ 31 → C'.1 i = C.1 i) ∧ C'.1 1 1 = C.1 1 1 ∧ (∀ i, i ≠ 0 → i ≠ 2 → M'.1 i = M.1 i) ∧ M'.1 0 0 = M.1 0 0 ∧ M'.1 0 7 = M.1 0 7 ∧ M'.1 0 8 = M.1 0 8 ∧ ∀ j, j < 5 ∨ 9 ≤ j → M'.1 2 j = M.1 2 j
theorem sFr_tr {A B A1 B1 A2 B2 : uSt} (h : sFr A B A1 B1) (g : sFr A1 B1 A2 B2) : sFr A B A2 B2 := by
  obtain ⟨h1, h2, h3, h4, h5, h6, h7⟩ := h
  obtain ⟨g1, g2, g3, g4, g5, g6, g7⟩ := g
  exact ⟨fun i a c => by rw [g1 i a c, h1 i a c], by rw [g2, h2], fun i a c => by rw [g3 i a c, h3 i a c], by rw [g4, h4], by rw [g5, h5], by rw [g6, h6], fun j hj => by rw [g7 j hj, h7 j hj]⟩
theorem sFr_f {C' M' : uSt} (h : cF C C') (g : mF M M') : sFr C M C' M' := ⟨fun i a _ => h.1 i a, h.2, fun i a _ => g.1 i a, g.2.1, g.2.2.1, g.2.2.2, fun j _ => by rw [g.1 2 (by decide)]⟩
theorem sFr_s {j k : Nat} {v v' : Int32} (hk : 5 ≤ k ∧ k < 9) : sFr C M (sI C 31 j v) (sI M 2 k v') := ⟨fun i _ a => sI_n a, by rw [sI_n (by decide)], fun i _ a => sI_n a, by rw [sI_n (by decide)], by rw [sI_n (by decide)], by rw [sI_n (by decide)], fun i hi => by rw [sI_r, if_neg (by omega)]⟩
theorem ruI_f {C' M' : uSt} (h : ruI C M) (f : cF C C') (g : mF M M') : ruI C' M' := by
  unfold ruI
  rw [f.1 31 (by decide), g.1 2 (by decide)]
  exact h
/-- reserve or slots -/
theorem one_G {lo hi j k : Nat} (hlo : lo < 2147483648) (hhi : hi < 2147483648) (hk : 5 ≤ k ∧ k < 9) (h : pG b L C M) : ∃ v v' C' M', fX5_takeNumber (nI lo) (nI hi) C = some (v, C') ∧ fX8_figure (nI lo) (nI hi) M = some (v', M') ∧ pX b L (sI C' 31 j v) (sI M' 2 k v') ∧ cF C C' ∧ mF M M' ∧ (pG b L (sI C' 31 j v) (sI M' 2 k v') → ∃ z, v = nI z ∧ v' = nI z ∧ lo ≤ z ∧ z ≤ hi) := by
  obtain ⟨v, v', C', M', a1, a2, a3, a4, a5, a6⟩ := numS (i := 31) (j := j) (k := k) (nI hi) (nI hi) hlo hhi (by decide) (by decide) (Or.inl h) (fun _ => ⟨rfl, rfl⟩)
  exact ⟨v, v', C', M', a1, a2, a5, a3, a4, fun g => (a6 g).2⟩
/-- the mode -/
theorem mode_G (h : pG b L C M) (hr : ruI C M) (h0 : C.1 31 2 = nI 0 ∧ C.1 31 3 = nI 0) : ∃ C' M', fX5_readMode 31 C = some ((), C') ∧ fX8_mode M = some ((), M') ∧ pX b L C' M' ∧ sFr C M C' M' ∧ (pG b L C' M' → ruI C' M') := by
  obtain ⟨r, sl, md, th, r1, r2, r3, r4, r5, r6, r7, r8, r9, r10, r11, r12⟩ := id hr
  obtain ⟨x, x1, x2, x3⟩ := word_G (w := 5) (by decide) h
  obtain ⟨y, y1, y2, y3⟩ := word_G (w := 6) (by decide) h
  obtain ⟨z, z1, z2, z3⟩ := word_G (w := 7) (by decide) h
  have x3 : fX8_isWord 13 M = some x := x3
  have y3 : fX8_isWord 14 M = some y := y3
  have z3 : fX8_isWord 15 M = some z := z3
  obtain ⟨C1, M1, t1, t2, t3, t4, t5⟩ := tok_G h
  have dis : (z = 1 → x = 0 ∧ y = 0) ∧ (y = 1 → x = 0 ∧ z = 0) := by
    sorry
  sorry
end Q41
