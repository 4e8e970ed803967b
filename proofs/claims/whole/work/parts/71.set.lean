/-! PURE PART 41: one setting -/
section Q41
variable {b : Nat → Nat} {L : Nat} {C M : uSt}
theorem not_GE (h : pG b L C M) (g : pE C M) : False := by
  obtain ⟨c, p, c1, c2, c3, -⟩ := g
  have := h.2.1
  rw [c3, show (0 : Int32) = nI 0 from rfl, zeq (by omega) (by decide)] at this
  omega
theorem semi_E (h : pE C M) : ∃ C', fX5_takeSemicolon C = some ((), C') ∧ fX8_ends M = some ((), M) ∧ pE C' M ∧ cF C C' := by
  obtain ⟨C1, t1, t2, t3, t4⟩ := ref_E (c := 1) h
  refine ⟨C1, ?_, ?_, t3, t4⟩
  · obtain ⟨c, p, -, -, -, -, -, -, h4⟩ := id h
    rw [fX5_takeSemicolon, h4, if_neg (by decide), t1, obV_st]
  · rw [fX8_ends, oj1_e, t2, obV_st]
    by_cases q3 : M.1 0 11 = 3
    · rw [if_pos q3]
      dsimp only
      rw [wrong_E h, ob_s, if_neg (by decide)]
    · rw [if_neg q3]
      dsimp only
      rw [wrong_E h, ob_s, if_neg (by decide)]
theorem semi_Y (h : pX b L C M) : ∃ C' M', fX5_takeSemicolon C = some ((), C') ∧ fX8_ends M = some ((), M') ∧ pX b L C' M' ∧ cF C C' ∧ mF M M' ∧ (pG b L C' M' → pG b L C M) := by
  rcases h with h | h
  · obtain ⟨C', M', a1, a2, a3, a4, a5⟩ := semi_X (Or.inl h)
    exact ⟨C', M', a1, a2, a3, a4, a5, fun _ => h⟩
  · obtain ⟨C', a1, a2, a3, a4⟩ := semi_E h
    exact ⟨C', M, a1, a2, Or.inr a3, a4, mF_refl M, fun g => absurd a3 (fun e => not_GE g e)⟩
/-- which setting stands there: 3: none -/
theorem set_G (h : pG b L C M) : ∃ t, t ≤ 3 ∧ fX5_settingAtToken C = some (if t = 3 then 0 else nI (2 ^ t)) ∧ fX8_setting M = some (if t = 3 then -1 else nI t) := by
  obtain ⟨x, x1, x2, x3⟩ := word_G (w := 2) (by decide) h
  obtain ⟨y, y1, y2, y3⟩ := word_G (w := 3) (by decide) h
  obtain ⟨z, z1, z2, z3⟩ := word_G (w := 4) (by decide) h
  have x3 : fX8_isWord 10 M = some x := x3
  have y3 : fX8_isWord 11 M = some y := y3
  have z3 : fX8_isWord 12 M = some z := z3
  rw [fX5_settingAtToken, fX8_setting, x2, x3, ob_s, ob_s]
  rcases x1 with rfl | rfl
  · rw [if_pos rfl, if_pos rfl, y2, y3, ob_s, ob_s]
    rcases y1 with rfl | rfl
    · rw [if_pos rfl, if_pos rfl, z2, z3, ob_s, ob_s]
      rcases z1 with rfl | rfl
      · exact ⟨3, by decide, by rw [if_pos rfl, if_pos rfl], by rw [if_pos rfl, if_pos rfl]⟩
      · exact ⟨2, by decide, by rw [if_neg (by decide), if_neg (by decide)]; rfl, by rw [if_neg (by decide), if_neg (by decide)]; rfl⟩
    · exact ⟨1, by decide, by rw [if_neg (by decide), if_neg (by decide)]; rfl, by rw [if_neg (by decide), if_neg (by decide)]; rfl⟩
  · exact ⟨0, by decide, by rw [if_neg (by decide), if_neg (by decide)]; rfl, by rw [if_neg (by decide), if_neg (by decide)]; rfl⟩
theorem set_E (h : pE C M) : fX5_settingAtToken C = some 0 ∧ fX8_setting M = some (-1) := by
  obtain ⟨x1, x2⟩ := word_E (w := 2) h
  obtain ⟨y1, y2⟩ := word_E (w := 3) h
  obtain ⟨z1, z2⟩ := word_E (w := 4) h
  have x2 : fX8_isWord 10 M = some 0 := x2
  have y2 : fX8_isWord 11 M = some 0 := y2
  have z2 : fX8_isWord 12 M = some 0 := z2
  exact ⟨by rw [fX5_settingAtToken, x1, ob_s, if_pos rfl, y1, ob_s, if_pos rfl, z1, ob_s, if_pos rfl], by rw [fX8_setting, x2, ob_s, if_pos rfl, y2, ob_s, if_pos rfl, z2, ob_s, if_pos rfl]⟩
/-- the rules of the draft and of the reference's row -/
def ruI (C M : uSt) : Prop := ∃ r sl md th, C.1 31 0 = nI r ∧ M.1 2 5 = nI r ∧ C.1 31 1 = nI sl ∧ M.1 2 6 = nI sl ∧ C.1 31 2 = nI md ∧ M.1 2 7 = nI md ∧ C.1 31 3 = nI th ∧ M.1 2 8 = nI th ∧ r ≤ 200 ∧ sl ≤ 24 ∧ md ≤ 2 ∧ th ≤ 99
/-- the frame of the settings -/
def sFr (C M C' M' : uSt) : Prop := (∀ i, i ≠ 1 → i ≠ 31 → C'.1 i = C.1 i) ∧ C'.1 1 1 = C.1 1 1 ∧ (∀ i, i ≠ 0 → i ≠ 2 → M'.1 i = M.1 i) ∧ M'.1 0 0 = M.1 0 0 ∧ M'.1 0 7 = M.1 0 7 ∧ M'.1 0 8 = M.1 0 8 ∧ ∀ j, j < 5 ∨ 9 ≤ j → M'.1 2 j = M.1 2 j
theorem sFr_tr {A B A1 B1 A2 B2 : uSt} (h : sFr A B A1 B1) (g : sFr A1 B1 A2 B2) : sFr A B A2 B2 := by
  obtain ⟨h1, h2, h3, h4, h5, h6, h7⟩ := h
  obtain ⟨g1, g2, g3, g4, g5, g6, g7⟩ := g
  exact ⟨fun i a c => by rw [g1 i a c, h1 i a c], by rw [g2, h2], fun i a c => by rw [g3 i a c, h3 i a c], by rw [g4, h4], by rw [g5, h5], by rw [g6, h6], fun j hj => by rw [g7 j hj, h7 j hj]⟩
theorem sFr_f {C' M' : uSt} (h : cF C C') (g : mF M M') : sFr C M C' M' := ⟨fun i a _ => h.1 i a, h.2, fun i a _ => g.1 i a, g.2.1, g.2.2.1, g.2.2.2, fun j _ => by rw [g.1 2 (by decide)]⟩
theorem sFr_s {j k : Nat} {v v' : Int32} (hk : 5 ≤ k ∧ k < 9) : sFr C M (sI C 31 j v) (sI M 2 k v') := ⟨fun i _ a => sI_n a, by rw [sI_n (by decide)], fun i _ a => sI_n a, by rw [sI_n (by decide)], by rw [sI_n (by decide)], by rw [sI_n (by decide)], fun i hi => by rw [sI_r, if_neg (by omega)]⟩
theorem ruI_f {C' M' : uSt} (h : ruI C M) (f : cF C C') (g : mF M M') : ruI C' M' := by
  unfold ruI
  rw [f.1 31 (by decide), g.1 2 (by decide)]
  exact h
/-- reserve or slots -/
theorem one_G {lo hi j k : Nat} (hlo : lo < 2147483648) (hhi : hi < 2147483648) (hk : 5 ≤ k ∧ k < 9) (h : pG b L C M) : ∃ v v' C' M', fX5_takeNumber (nI lo) (nI hi) C = some (v, C') ∧ fX8_figure (nI lo) (nI hi) M = some (v', M') ∧ pX b L (sI C' 31 j v) (sI M' 2 k v') ∧ cF C C' ∧ mF M M' ∧ (pG b L (sI C' 31 j v) (sI M' 2 k v') → ∃ z, v = nI z ∧ v' = nI z ∧ lo ≤ z ∧ z ≤ hi) := by
  obtain ⟨v, v', C', M', a1, a2, a3, a4, a5, a6⟩ := numS (i := 31) (j := j) (k := k) (nI hi) (nI hi) hlo hhi (by decide) (by decide) (Or.inl h) (fun _ => ⟨rfl, rfl⟩)
  exact ⟨v, v', C', M', a1, a2, a5, a3, a4, fun g => (a6 g).2⟩
theorem wd_len {w : Nat} (h : fX5_isWord w C = some 1) : C.1 1 6 - C.1 1 5 = nI (uLen w) := by
  rw [fX5_isWord] at h
  by_cases q : C.1 1 4 = 1
  · rw [if_pos q, fJ0_length_8abf5, ob_s] at h
    by_cases q2 : C.1 1 6 - C.1 1 5 = nI (uLen w)
    · exact q2
    · rw [if_neg q2] at h
      exact absurd (Option.some.inj h) (by decide)
  · rw [if_neg q] at h
    exact absurd (Option.some.inj h) (by decide)
theorem ruI_m {C' M' : uSt} {md th : Nat} (h : ruI C M) (f : C'.1 31 0 = C.1 31 0 ∧ C'.1 31 1 = C.1 31 1 ∧ M'.1 2 5 = M.1 2 5 ∧ M'.1 2 6 = M.1 2 6) (e1 : C'.1 31 2 = nI md) (e2 : M'.1 2 7 = nI md) (e3 : C'.1 31 3 = nI th) (e4 : M'.1 2 8 = nI th) (b1 : md ≤ 2) (b2 : th ≤ 99) : ruI C' M' := by
  obtain ⟨r, sl, md', th', r1, r2, r3, r4, -, -, -, -, r9, r10, -, -⟩ := h
  exact ⟨r, sl, md, th, by rw [f.1]; exact r1, by rw [f.2.2.1]; exact r2, by rw [f.2.1]; exact r3, by rw [f.2.2.2]; exact r4, e1, e2, e3, e4, r9, r10, b1, b2⟩
/-- the mode -/
theorem mode_G (h : pG b L C M) (hr : ruI C M) (h0 : C.1 31 3 = nI 0 ∧ M.1 2 7 = nI 0 ∧ M.1 2 8 = nI 0) : ∃ C' M', fX5_readMode 31 C = some ((), C') ∧ fX8_mode M = some ((), M') ∧ pX b L C' M' ∧ sFr C M C' M' ∧ (pG b L C' M' → ruI C' M') := by
  obtain ⟨x, x1, x2, x3⟩ := word_G (w := 5) (by decide) h
  obtain ⟨y, y1, y2, y3⟩ := word_G (w := 6) (by decide) h
  obtain ⟨z, z1, z2, z3⟩ := word_G (w := 7) (by decide) h
  have x3 : fX8_isWord 13 M = some x := x3
  have y3 : fX8_isWord 14 M = some y := y3
  have z3 : fX8_isWord 15 M = some z := z3
  obtain ⟨C1, M1, t1, t2, t3, t4, t5⟩ := tok_G h
  have k0 : ∀ n, fX8_isWord n M = some 0 → fX8_takesWord n M = some (0, M) := fun n e => by rw [fX8_takesWord, e, ob_s, if_pos rfl, isB0, og_t]
  have k1 : ∀ n, fX8_isWord n M = some 1 → fX8_takesWord n M = some (1, M1) := fun n e => by rw [fX8_takesWord, e, ob_s, if_neg (by decide), t2, obV_st, isB1, og_t]
  have ru1 := ruI_f hr t4 t5
  have c31 := t4.1 31 (by decide)
  have m2 := t5.1 2 (by decide)
  rcases x1 with rfl | rfl
  · rcases y1 with rfl | rfl
    · rcases z1 with rfl | rfl
      · -- no such word
        obtain ⟨C2, M2, u1, u2, u3, u4, u5⟩ := ref_G (c := 1) ⟨by decide, by decide⟩ h
        have u1 : fX5_refuse 1 C = some ((), C2) := u1
        have u2 : fX8_fails 1 M = some ((), M2) := u2
        have e3 : pE C2 (sI M2 2 7 1) := pE_x u3 rfl (sI_n (by decide))
        refine ⟨sI C2 31 2 0, sI (sI M2 2 7 1) 2 8 1, ?_, ?_, Or.inr (pE_x u3 (sI_n (by decide)) (by rw [sI_n (by decide), sI_n (by decide)])), ?_, fun g => absurd (pE_x u3 (sI_n (by decide)) (by rw [sI_n (by decide), sI_n (by decide)])) (fun e => not_GE g e)⟩
        · rw [fX5_readMode, x2, ob_s, if_pos rfl, y2, ob_s, if_pos rfl, fX5_takeWord, z2, ob_s, if_pos rfl, u1, obV_st, obV_st, ol_e]
        · rw [fX8_mode, k0 15 z3, obS_s, if_pos rfl, k0 14 y3, obS_s, if_pos rfl, k0 13 x3, obS_s, oj1_e, if_pos rfl, u2, obV_st]
          dsimp only
          rw [ol_e, fX8_figure, wrong_E e3, ob_s, if_neg (by decide), obS_s, ol_e]
        · refine sFr_tr (sFr_f u4 u5) (sFr_tr (sFr_s (j := 2) (k := 7) ⟨by decide, by decide⟩) ⟨fun _ _ _ => rfl, rfl, fun i _ a => sI_n a, by rw [sI_n (by decide)], by rw [sI_n (by decide)], by rw [sI_n (by decide)], fun j hj => by rw [sI_r, if_neg (by omega)]⟩)
      · -- strict
        refine ⟨sI C1 31 2 0, M1, ?_, ?_, Or.inl (pG_x t3 (sI_n (by decide)) (sI_n (by decide)) rfl rfl), sFr_tr (sFr_f t4 t5) ⟨fun i _ a => sI_n a, by rw [sI_n (by decide)], fun _ _ _ => rfl, rfl, rfl, rfl, fun _ _ => rfl⟩, fun _ => ruI_m (md := 0) (th := 0) ru1 ⟨by rw [sI_r, if_neg (by decide)], by rw [sI_r, if_neg (by decide)], rfl, rfl⟩ (by rw [sI_r, if_pos rfl]; rfl) (by rw [m2]; exact h0.2.1) (by rw [sI_r, if_neg (by decide), c31]; exact h0.1) (by rw [m2]; exact h0.2.2) (by decide) (by decide)⟩
        · rw [fX5_readMode, x2, ob_s, if_pos rfl, y2, ob_s, if_pos rfl, fX5_takeWord, z2, ob_s, if_neg (by decide), t1, obV_st, obV_st, ol_e]
        · rw [fX8_mode, k1 15 z3, obS_s, if_neg (by decide)]
    · -- off
      have z0 : z = 0 := by
        rcases z1 with z1 | z1
        · exact z1
        · have a1 := wd_len y2
          rw [z1] at z2
          rw [wd_len z2] at a1
          exact absurd a1 (by decide)
      rw [z0] at z3
      refine ⟨sI C1 31 2 2, sI M1 2 7 2, ?_, ?_, Or.inl (pG_x t3 (sI_n (by decide)) (sI_n (by decide)) (sI_n (by decide)) (sI_n (by decide))), sFr_tr (sFr_f t4 t5) (sFr_s ⟨by decide, by decide⟩), fun _ => ruI_m (md := 2) (th := 0) ru1 ⟨by rw [sI_r, if_neg (by decide)], by rw [sI_r, if_neg (by decide)], by rw [sI_r, if_neg (by decide)], by rw [sI_r, if_neg (by decide)]⟩ (by rw [sI_r, if_pos rfl]; rfl) (by rw [sI_r, if_pos rfl]; rfl) (by rw [sI_r, if_neg (by decide), c31]; exact h0.1) (by rw [sI_r, if_neg (by decide), m2]; exact h0.2.2) (by decide) (by decide)⟩
      · rw [fX5_readMode, x2, ob_s, if_pos rfl, y2, ob_s, if_neg (by decide), t1, obV_st, ol_e]
      · rw [fX8_mode, k0 15 z3, obS_s, if_pos rfl, k1 14 y3, obS_s, if_neg (by decide), ol_e]
  · -- value
    have z0 : z = 0 := by
      rcases z1 with z1 | z1
      · exact z1
      · have a1 := wd_len x2
        rw [z1] at z2
        rw [wd_len z2] at a1
        exact absurd a1 (by decide)
    have y0 : y = 0 := by
      rcases y1 with y1 | y1
      · exact y1
      · have a1 := wd_len x2
        rw [y1] at y2
        rw [wd_len y2] at a1
        exact absurd a1 (by decide)
    rw [z0] at z3
    rw [y0] at y3
    have g1 : pG b L (sI C1 31 2 1) (sI M1 2 7 1) := pG_x t3 (sI_n (by decide)) (sI_n (by decide)) (sI_n (by decide)) (sI_n (by decide))
    obtain ⟨v, v', C2, M2, a1, a2, a3, a4, a5, a6⟩ := one_G (lo := 1) (hi := 99) (j := 3) (k := 8) (by decide) (by decide) ⟨by decide, by decide⟩ g1
    have a1 : fX5_takeNumber 1 99 (sI C1 31 2 1) = some (v, C2) := a1
    have a2 : fX8_figure 1 99 (sI M1 2 7 1) = some (v', M2) := a2
    refine ⟨sI C2 31 3 v, sI M2 2 8 v', ?_, ?_, a3, sFr_tr (sFr_f t4 t5) (sFr_tr (sFr_s (j := 2) (k := 7) (v := 1) (v' := 1) ⟨by decide, by decide⟩) (sFr_tr (sFr_f a4 a5) (sFr_s ⟨by decide, by decide⟩))), fun g => ?_⟩
    · rw [fX5_readMode, x2, ob_s, if_neg (by decide), t1, obV_st, ol_e, a1, obS_s, ol_e]
    · rw [fX8_mode, k0 15 z3, obS_s, if_pos rfl, k0 14 y3, obS_s, if_pos rfl, k1 13 x3, obS_s, oj1_e, if_neg (by decide)]
      dsimp only
      rw [ol_e, a2, obS_s, ol_e]
    · obtain ⟨q, q1, q2, q3, q4⟩ := a6 g
      have c2 := a4.1 31 (by decide)
      have mm := a5.1 2 (by decide)
      exact ruI_m (md := 1) (th := q) ru1 ⟨by rw [sI_r, if_neg (by decide), c2, sI_r, if_neg (by decide)], by rw [sI_r, if_neg (by decide), c2, sI_r, if_neg (by decide)], by rw [sI_r, if_neg (by decide), mm, sI_r, if_neg (by decide)], by rw [sI_r, if_neg (by decide), mm, sI_r, if_neg (by decide)]⟩ (by rw [sI_r, if_neg (by decide), c2, sI_r, if_pos rfl]; rfl) (by rw [sI_r, if_neg (by decide), mm, sI_r, if_pos rfl]; rfl) (by rw [sI_r, if_pos rfl]; exact q1) (by rw [sI_r, if_pos rfl]; exact q2) (by decide) q4
end Q41
