/-! PURE PART 43: the devices -/
section Q43
variable {b : Nat → Nat} {L : Nat}
def dvI (C M : uSt) (k : Nat) : Prop := C.1 32 0 = nI k ∧ M.1 2 9 = nI k ∧ ∀ i, i < k → ∃ x y z, C.1 33 i = nI x ∧ M.1 2 (10 + 3 * i) = nI x ∧ C.1 34 i = nI y ∧ M.1 2 (10 + 3 * i + 1) = nI y ∧ C.1 35 i = nI z ∧ M.1 2 (10 + 3 * i + 2) = nI z ∧ x ≤ 200 ∧ y ≤ 50 ∧ 1 ≤ z ∧ z ≤ 50
def dFr (C M C' M' : uSt) : Prop := (∀ i, i ≠ 1 → i < 32 ∨ 36 ≤ i → C'.1 i = C.1 i) ∧ C'.1 1 1 = C.1 1 1 ∧ (∀ i, i ≠ 0 → i ≠ 2 → M'.1 i = M.1 i) ∧ M'.1 0 0 = M.1 0 0 ∧ M'.1 0 7 = M.1 0 7 ∧ M'.1 0 8 = M.1 0 8 ∧ ∀ j, j < 9 ∨ 25 ≤ j → M'.1 2 j = M.1 2 j
theorem dFr_refl (C M : uSt) : dFr C M C M := ⟨fun _ _ _ => rfl, rfl, fun _ _ _ => rfl, rfl, rfl, rfl, fun _ _ => rfl⟩
theorem dFr_tr {A B A1 B1 A2 B2 : uSt} (h : dFr A B A1 B1) (g : dFr A1 B1 A2 B2) : dFr A B A2 B2 := by
  obtain ⟨h1, h2, h3, h4, h5, h6, h7⟩ := h
  obtain ⟨g1, g2, g3, g4, g5, g6, g7⟩ := g
  exact ⟨fun i a c => by rw [g1 i a c, h1 i a c], by rw [g2, h2], fun i a c => by rw [g3 i a c, h3 i a c], by rw [g4, h4], by rw [g5, h5], by rw [g6, h6], fun j hj => by rw [g7 j hj, h7 j hj]⟩
theorem dFr_f {C M C' M' : uSt} (h : cF C C') (g : mF M M') : dFr C M C' M' := ⟨fun i a _ => h.1 i a, h.2, fun i a _ => g.1 i a, g.2.1, g.2.2.1, g.2.2.2, fun j _ => by rw [g.1 2 (by decide)]⟩
theorem dFr_s {C M : uSt} {i j k : Nat} {v v' : Int32} (hi : 32 ≤ i ∧ i < 36) (hk : 9 ≤ k ∧ k < 25) : dFr C M (sI C i j v) (sI M 2 k v') := ⟨fun p _ a => sI_n (by omega), by rw [sI_n (by omega)], fun p _ a => sI_n a, by rw [sI_n (by decide)], by rw [sI_n (by decide)], by rw [sI_n (by decide)], fun p hp => by rw [sI_r, if_neg (by omega)]⟩
theorem dev_l (ke' : uSt → Option (Int32 × uSt)) : ∀ j k fu fu' (C M : uSt), k + j = 6 → pX b L C M → (pG b L C M → k ≤ 5 ∧ dvI C M k) → j + 1 < fu → j + 1 < fu' → ∃ C' M', fX5_readDevices_2 32 (fun st_17 => some ((), st_17)) fu C (nI k) = some ((), C') ∧ fX8_load_49 ke' fu' M = ke' M' ∧ pX b L C' M' ∧ dFr C M C' M' ∧ (pG b L C' M' → ∃ k', k' ≤ 5 ∧ dvI C' M' k') := by
  intro j
  induction j with
  | zero =>
    intro k fu fu' C M hk hX hI hf hf'
    obtain ⟨fu, rfl⟩ : ∃ x, fu = x + 1 := ⟨fu - 1, by omega⟩
    obtain ⟨fu', rfl⟩ : ∃ x, fu' = x + 1 := ⟨fu' - 1, by omega⟩
    rcases hX with h | h
    · have := (hI h).1
      omega
    · have e2 : fX8_isWord 9 M = some 0 := (word_E (w := 1) h).2
      refine ⟨C, M, ?_, ?_, Or.inr h, dFr_refl C M, fun g => absurd h (fun e => not_GE g e)⟩
      · rw [fX5_readDevices_2, if_pos (show (5 : Int32) < nI k from plt (a := 5) (by omega) (by omega))]
      · rw [fX8_load_49, e2, ob_s, if_pos rfl]
  | succ j ih =>
    intro k fu fu' C M hk hX hI hf hf'
    obtain ⟨fu, rfl⟩ : ∃ x, fu = x + 1 := ⟨fu - 1, by omega⟩
    obtain ⟨fu', rfl⟩ : ∃ x, fu' = x + 1 := ⟨fu' - 1, by omega⟩
    rw [fX5_readDevices_2, if_neg (show ¬ (5 : Int32) < nI k from nplt (a := 5) (by omega) (by decide)), fX8_load_49]
    rcases hX with h | h
    · obtain ⟨hk5, hdv⟩ := hI h
      obtain ⟨x, x1, x2, x3⟩ := word_G (w := 1) (by decide) h
      have x3 : fX8_isWord 9 M = some x := x3
      rw [x2, x3, ob_s, ob_s]
      rcases x1 with rfl | rfl
      · rw [if_pos rfl, if_pos rfl]
        exact ⟨C, M, rfl, rfl, Or.inl h, dFr_refl C M, fun _ => ⟨k, hk5, hdv⟩⟩
      · rw [if_neg (show ¬ (1 : Int32) = 0 by decide), if_neg (show ¬ (1 : Int32) = 0 by decide)]
        by_cases q5 : k = 5
        · obtain ⟨C1, M1, u1, u2, u3, u4, u5⟩ := ref_G (c := 4) ⟨by decide, by decide⟩ h
          have u1 : fX5_refuse 4 C = some ((), C1) := u1
          have u2 : fX8_fails 4 M = some ((), M1) := u2
          have e2 : fX8_isWord 9 M1 = some 0 := (word_E (w := 1) u3).2
          obtain ⟨fu', rfl⟩ : ∃ x, fu' = x + 1 := ⟨fu' - 1, by omega⟩
          refine ⟨C1, M1, ?_, ?_, Or.inr u3, dFr_f u4 u5, fun g => absurd u3 (fun e => not_GE g e)⟩
          · rw [if_pos (by rw [q5]; rfl), u1, obV_st]
          · rw [fX8_oneDevice, oj1_e, hdv.2.1, if_pos (by rw [q5]; rfl), u2, obV_st]
            dsimp only
            rw [wrong_E u3, ob_s, if_neg (by decide), obV_st, fX8_load_49, e2, ob_s, if_pos rfl]
        · have n5 : ¬ nI k = (5 : Int32) := peqn (b := 5) q5 (by omega) (by decide)
          obtain ⟨C1, M1, u1, u2, u3, u4, u5⟩ := tok_G h
          obtain ⟨v0, w0, C2, M2, z0, a1, a2, a3, a4, a5, a6, a7⟩ := numZ (lo := 0) (hi := 200) (i := 32 + 1) (j := k) (k := 10 + 3 * k) (nI 200) (nI 200) (by decide) (by decide) (by decide) (by decide) (Or.inl u3) (fun _ => ⟨rfl, rfl⟩)
          obtain ⟨v1, w1, C3, M3, z1, b1, b2, b3, b4, b5, b6, b7⟩ := numZ (lo := 0) (hi := 50) (i := 32 + 2) (j := k) (k := 10 + 3 * k + 1) (nI 50) (nI 50) (by decide) (by decide) (by decide) (by decide) a5 (fun _ => ⟨rfl, rfl⟩)
          obtain ⟨v2, w2, C4, M4, z2, c1, c2, c3, c4, c5, c6, c7⟩ := numZ (lo := 1) (hi := 50) (i := 32 + 3) (j := k) (k := 10 + 3 * k + 2) (nI 50) (nI 50) (by decide) (by decide) (by decide) (by decide) b5 (fun _ => ⟨rfl, rfl⟩)
          have c5' : pX b L (sI C4 (32 + 3) k v2) (sI (sI M4 2 (10 + 3 * k + 2) w2) 2 9 (nI (k + 1))) := pX_x c5 rfl rfl (sI_n (by decide)) (sI_n (by decide))
          obtain ⟨C5, M5, d1, d2, d3, d4, d5, d6⟩ := semi_Y c5'
          have X6 : pX b L (sI C5 32 0 (nI (k + 1))) M5 := pX_x d3 (sI_n (by decide)) (sI_n (by decide)) rfl rfl
          have a1 : fX5_takeNumber 0 200 C1 = some (v0, C2) := a1
          have b1 : fX5_takeNumber 0 50 (sI C2 (32 + 1) k v0) = some (v1, C3) := b1
          have c1 : fX5_takeNumber 1 50 (sI C3 (32 + 2) k v1) = some (v2, C4) := c1
          have a2 : fX8_figure 0 200 M1 = some (w0, M2) := a2
          have b2 : fX8_figure 0 50 (sI M2 2 (10 + 3 * k) w0) = some (w1, M3) := b2
          have c2 : fX8_figure 1 50 (sI M3 2 (10 + 3 * k + 1) w1) = some (w2, M4) := c2
          have m9 : M4.1 2 9 = nI k := by
            rw [c4.1 2 (by decide), sI_r, if_neg (by omega), b4.1 2 (by decide), sI_r, if_neg (by omega), a4.1 2 (by decide), u5.1 2 (by decide)]
            exact hdv.2.1
          have FR : dFr C M (sI C5 32 0 (nI (k + 1))) M5 := by
            refine dFr_tr (dFr_f u4 u5) (dFr_tr (dFr_f a3 a4) (dFr_tr (dFr_s (i := 32 + 1) (k := 10 + 3 * k) ⟨by omega, by omega⟩ ⟨by omega, by omega⟩) (dFr_tr (dFr_f b3 b4) (dFr_tr (dFr_s (i := 32 + 2) (k := 10 + 3 * k + 1) ⟨by omega, by omega⟩ ⟨by omega, by omega⟩) (dFr_tr (dFr_f c3 c4) (dFr_tr (dFr_s (i := 32 + 3) (k := 10 + 3 * k + 2) ⟨by omega, by omega⟩ ⟨by omega, by omega⟩) (dFr_tr (A1 := sI C4 (32 + 3) k v2) (B1 := sI (sI M4 2 (10 + 3 * k + 2) w2) 2 9 (nI (k + 1))) ⟨fun _ _ _ => rfl, rfl, fun p _ a => sI_n a, by rw [sI_n (by decide)], by rw [sI_n (by decide)], by rw [sI_n (by decide)], fun p hp => by rw [sI_r, if_neg (by omega)]⟩ (dFr_tr (dFr_f d4 d5) ⟨fun p _ a => sI_n (by omega), by rw [sI_n (by decide)], fun _ _ _ => rfl, rfl, rfl, rfl, fun _ _ => rfl⟩))))))))
          have cnt : ∀ i, i ≠ 1 → i ≠ 33 → i ≠ 34 → i ≠ 35 → C5.1 i = C.1 i := fun i i1 i33 i34 i35 => by rw [d4.1 i i1, sI_n i35, c3.1 i i1, sI_n i34, b3.1 i i1, sI_n i33, a3.1 i i1, u4.1 i i1]
          have y33 : ∀ i, C5.1 33 i = if i = k then v0 else C.1 33 i := fun i => by rw [d4.1 33 (by decide), sI_n (by decide), c3.1 33 (by decide), sI_n (by decide), b3.1 33 (by decide), sI_r, a3.1 33 (by decide), u4.1 33 (by decide)]
          have y34 : ∀ i, C5.1 34 i = if i = k then v1 else C.1 34 i := fun i => by rw [d4.1 34 (by decide), sI_n (by decide), c3.1 34 (by decide), sI_r, b3.1 34 (by decide), sI_n (by decide), a3.1 34 (by decide), u4.1 34 (by decide)]
          have y35 : ∀ i, C5.1 35 i = if i = k then v2 else C.1 35 i := fun i => by rw [d4.1 35 (by decide), sI_r, c3.1 35 (by decide), sI_n (by decide), b3.1 35 (by decide), sI_n (by decide), a3.1 35 (by decide), u4.1 35 (by decide)]
          have r2 : ∀ i, M5.1 2 i = if i = 9 then nI (k + 1) else if i = 10 + 3 * k + 2 then w2 else if i = 10 + 3 * k + 1 then w1 else if i = 10 + 3 * k then w0 else M.1 2 i := fun i => by rw [d5.1 2 (by decide), sI_r, sI_r, c4.1 2 (by decide), sI_r, b4.1 2 (by decide), sI_r, a4.1 2 (by decide), u5.1 2 (by decide)]
          obtain ⟨C7, M7, e1, e2, e3, e4, e5⟩ := ih (k + 1) fu fu' (sI C5 32 0 (nI (k + 1))) M5 (by omega) X6 (fun g => by
            have g5 : pG b L C5 M5 := pG_x g (sI_n (by decide)).symm (sI_n (by decide)).symm rfl rfl
            have g4' := d6 g5
            have g4 : pG b L (sI C4 (32 + 3) k v2) (sI M4 2 (10 + 3 * k + 2) w2) := pG_x g4' rfl rfl (sI_n (by decide)).symm (sI_n (by decide)).symm
            obtain ⟨g3, p2, q2, r2', s2⟩ := c7 g4
            obtain ⟨g2, p1, q1, r1', s1⟩ := b7 g3
            obtain ⟨-, p0, q0, r0', s0⟩ := a7 g2
            refine ⟨by omega, by rw [sI_r, if_pos rfl], by rw [r2, if_pos rfl], fun i hi => ?_⟩
            rw [sI_n (by decide), sI_n (by decide), sI_n (by decide), y33, y34, y35, r2, r2, r2]
            by_cases qi : i = k
            · subst qi
              refine ⟨z0, z1, z2, by rw [if_pos rfl]; exact p0, ?_, by rw [if_pos rfl]; exact p1, ?_, by rw [if_pos rfl]; exact p2, ?_, s0, s1, r2', s2⟩
              · rw [if_neg (by omega), if_neg (by omega), if_neg (by omega), if_pos rfl]; exact q0
              · rw [if_neg (by omega), if_neg (by omega), if_pos rfl]; exact q1
              · rw [if_neg (by omega), if_pos rfl]; exact q2
            · rw [if_neg qi, if_neg qi, if_neg qi, if_neg (by omega), if_neg (by omega), if_neg (by omega), if_neg (by omega), if_neg (by omega), if_neg (by omega), if_neg (by omega), if_neg (by omega), if_neg (by omega), if_neg (by omega), if_neg (by omega), if_neg (by omega)]
              exact hdv.2.2 i (by omega)) (by omega) (by omega)
          refine ⟨C7, M7, ?_, ?_, e3, dFr_tr FR e4, e5⟩
          · rw [if_neg n5, u1, obV_st, a1, obS_s, zin (by omega) (by omega), zcl (by omega), og_t, ol_e, b1, obS_s, og_t, ol_e, c1, obS_s, og_t, ol_e, d1, obV_st, zinc, ol_e, ol_e]
            exact e1
          · have hat : (10 : Int32) + ((3 : Int32) * nI k) = nI (10 + 3 * k) := by rw [z3]; exact zadd 10 _
            rw [fX8_oneDevice, oj1_e, hdv.2.1, if_neg n5]
            dsimp only
            rw [right_G h, ob_s, if_pos rfl, u2, obV_st, u5.1 2 (by decide), hdv.2.1, hat, ol_e, a2, obS_s, Int32.add_zero, zin (by omega) (by omega), zcl (by omega), og_t, ol_e, b2, obS_s, show nI (10 + 3 * k) + (1 : Int32) = nI (10 + 3 * k + 1) from zadd _ 1, zin (by omega) (by omega), zcl (by omega), og_t, ol_e, c2, obS_s, show nI (10 + 3 * k) + (2 : Int32) = nI (10 + 3 * k + 2) from zadd _ 2, zin (by omega) (by omega), zcl (by omega), og_t, ol_e, sI_r, if_neg (by omega), m9, zinc, ol_e, d2, obV_st, obV_st]
            exact e2
    · obtain ⟨f1, f2⟩ := word_E (w := 1) h
      have f2 : fX8_isWord 9 M = some 0 := f2
      rw [f1, f2, ob_s, ob_s, if_pos rfl, if_pos rfl]
      exact ⟨C, M, rfl, rfl, Or.inr h, dFr_refl C M, fun g => absurd h (fun e => not_GE g e)⟩
end Q43
