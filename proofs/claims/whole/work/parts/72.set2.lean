/-! PURE PART 42: the settings -/
def pc3 (s : Nat) : Nat := s % 2 + s / 2 % 2 + s / 4
theorem sn_tab : ((List.range 8).all fun s => (List.range 3).all fun t => decide ((nI s &&& nI (2 ^ t) = 0 ↔ s.testBit t = false) ∧ nI s ||| nI (2 ^ t) = nI (s ||| 2 ^ t) ∧ nI s ||| ((1 : Int32) <<< (nI t &&& 31)) = nI (s ||| 2 ^ t) ∧ s ||| 2 ^ t < 8 ∧ (s.testBit t = false → pc3 (s ||| 2 ^ t) = pc3 s + 1) ∧ (t ≠ 2 → (s ||| 2 ^ t).testBit 2 = s.testBit 2) ∧ (t = 2 → (s ||| 2 ^ t).testBit 2 = true) ∧ pc3 s ≤ 3)) = true := by decide +kernel
theorem sn_b {s t : Nat} (hs : s < 8) (ht : t < 3) : (nI s &&& nI (2 ^ t) = 0 ↔ s.testBit t = false) ∧ nI s ||| nI (2 ^ t) = nI (s ||| 2 ^ t) ∧ nI s ||| ((1 : Int32) <<< (nI t &&& 31)) = nI (s ||| 2 ^ t) ∧ s ||| 2 ^ t < 8 ∧ (s.testBit t = false → pc3 (s ||| 2 ^ t) = pc3 s + 1) ∧ (t ≠ 2 → (s ||| 2 ^ t).testBit 2 = s.testBit 2) ∧ (t = 2 → (s ||| 2 ^ t).testBit 2 = true) ∧ pc3 s ≤ 3 := of_decide_eq_true (List.all_eq_true.mp (List.all_eq_true.mp sn_tab s (List.mem_range.mpr hs)) t (List.mem_range.mpr ht))
section Q42
variable {b : Nat → Nat} {L : Nat}
def ru0 (C M : uSt) : Prop := C.1 31 3 = nI 0 ∧ M.1 2 7 = nI 0 ∧ M.1 2 8 = nI 0
/-- one setting is read: the class's way, and the reference's up to what follows -/
theorem set1 {t : Nat} {C M : uSt} (ht : t < 3) (h : pG b L C M) (hr : ruI C M) (h0 : t = 2 → ru0 C M) (R : uSt → Option (Unit × uSt)) : ∃ C' M', fX5_readSetting 31 (nI (2 ^ t)) C = some ((), C') ∧ oj1 (fun (st_11 : uSt) => oj1 (fun (st_13 : uSt) => oj1 R (fun j_14 => (if nI t = (2 : Int32) then obV (fX8_mode st_13) (fun st_19 => (j_14 st_19)) else (j_14 st_13)))) (fun j_12 => (if nI t = (1 : Int32) then obS (fX8_figure (1 : Int32) (24 : Int32) st_11) (fun x_21 st_20 => ol (sI st_20 2 6 x_21) (fun st_22 => (j_12 st_22))) else (j_12 st_11)))) (fun j_10 => (if nI t = 0 then obS (fX8_figure (0 : Int32) (200 : Int32) M) (fun x_24 st_23 => ol (sI st_23 2 5 x_24) (fun st_25 => (j_10 st_25))) else (j_10 M))) = R M' ∧ pX b L C' M' ∧ sFr C M C' M' ∧ (pG b L C' M' → ruI C' M' ∧ (t ≠ 2 → ru0 C M → ru0 C' M')) := by
  obtain ⟨r, sl, md, th, r1, r2, r3, r4, r5, r6, r7, r8, r9, r10, r11, r12⟩ := id hr
  rcases (show t = 0 ∨ t = 1 ∨ t = 2 by omega) with rfl | rfl | rfl
  · obtain ⟨v, v', C2, M2, a1, a2, a3, a4, a5, a6⟩ := one_G (lo := 0) (hi := 200) (j := 0) (k := 5) (by decide) (by decide) ⟨by decide, by decide⟩ h
    have a1 : fX5_takeNumber 0 200 C = some (v, C2) := a1
    have a2 : fX8_figure 0 200 M = some (v', M2) := a2
    have c2 := a4.1 31 (by decide)
    have m2 := a5.1 2 (by decide)
    refine ⟨sI C2 31 0 v, sI M2 2 5 v', ?_, ?_, a3, sFr_tr (sFr_f a4 a5) (sFr_s ⟨by decide, by decide⟩), fun g => ⟨?_, fun _ q => ?_⟩⟩
    · rw [fX5_readSetting, if_pos (by rfl), a1, obS_s, ol_e]
    · rw [oj1_e, if_pos (by rfl), a2, obS_s, ol_e]
      dsimp only
      rw [oj1_e, if_neg (by decide)]
      dsimp only
      rw [oj1_e, if_neg (by decide)]
    · obtain ⟨z, z1, z2, z3, z4⟩ := a6 g
      refine ⟨z, sl, md, th, by rw [sI_r, if_pos rfl]; exact z1, by rw [sI_r, if_pos rfl]; exact z2, by rw [sI_r, if_neg (by decide), c2]; exact r3, by rw [sI_r, if_neg (by decide), m2]; exact r4, by rw [sI_r, if_neg (by decide), c2]; exact r5, by rw [sI_r, if_neg (by decide), m2]; exact r6, by rw [sI_r, if_neg (by decide), c2]; exact r7, by rw [sI_r, if_neg (by decide), m2]; exact r8, z4, r10, r11, r12⟩
    · exact ⟨by rw [sI_r, if_neg (by decide), c2]; exact q.1, by rw [sI_r, if_neg (by decide), m2]; exact q.2.1, by rw [sI_r, if_neg (by decide), m2]; exact q.2.2⟩
  · obtain ⟨v, v', C2, M2, a1, a2, a3, a4, a5, a6⟩ := one_G (lo := 1) (hi := 24) (j := 1) (k := 6) (by decide) (by decide) ⟨by decide, by decide⟩ h
    have a1 : fX5_takeNumber 1 24 C = some (v, C2) := a1
    have a2 : fX8_figure 1 24 M = some (v', M2) := a2
    have c2 := a4.1 31 (by decide)
    have m2 := a5.1 2 (by decide)
    refine ⟨sI C2 31 1 v, sI M2 2 6 v', ?_, ?_, a3, sFr_tr (sFr_f a4 a5) (sFr_s ⟨by decide, by decide⟩), fun g => ⟨?_, fun _ q => ?_⟩⟩
    · rw [fX5_readSetting, if_neg (by decide), if_pos (by rfl), a1, obS_s, ol_e]
    · rw [oj1_e, if_neg (by decide)]
      dsimp only
      rw [oj1_e, if_pos (by rfl), a2, obS_s, ol_e]
      dsimp only
      rw [oj1_e, if_neg (by decide)]
    · obtain ⟨z, z1, z2, z3, z4⟩ := a6 g
      refine ⟨r, z, md, th, by rw [sI_r, if_neg (by decide), c2]; exact r1, by rw [sI_r, if_neg (by decide), m2]; exact r2, by rw [sI_r, if_pos rfl]; exact z1, by rw [sI_r, if_pos rfl]; exact z2, by rw [sI_r, if_neg (by decide), c2]; exact r5, by rw [sI_r, if_neg (by decide), m2]; exact r6, by rw [sI_r, if_neg (by decide), c2]; exact r7, by rw [sI_r, if_neg (by decide), m2]; exact r8, r9, z4, r11, r12⟩
    · exact ⟨by rw [sI_r, if_neg (by decide), c2]; exact q.1, by rw [sI_r, if_neg (by decide), m2]; exact q.2.1, by rw [sI_r, if_neg (by decide), m2]; exact q.2.2⟩
  · obtain ⟨C2, M2, a1, a2, a3, a4, a5⟩ := mode_G h hr (h0 rfl)
    refine ⟨C2, M2, ?_, ?_, a3, a4, fun g => ⟨a5 g, fun q => absurd rfl q⟩⟩
    · rw [fX5_readSetting, if_neg (by decide), if_neg (by decide), a1, obV_st]
    · rw [oj1_e, if_neg (by decide)]
      dsimp only
      rw [oj1_e, if_neg (by decide)]
      dsimp only
      rw [oj1_e, if_pos (by rfl), a2, obV_st]
theorem sFr_refl (C M : uSt) : sFr C M C M := ⟨fun _ _ _ => rfl, rfl, fun _ _ _ => rfl, rfl, rfl, rfl, fun _ _ => rfl⟩
theorem sets_l : ∀ j k seen fu fu' (C M : uSt) (x : Int32), k + j = 4 → seen < 8 → pc3 seen = k → pX b L C M → (pG b L C M → ruI C M ∧ (seen.testBit 2 = false → ru0 C M)) → fX8_setting M = some x → j < fu → j < fu' → ∃ C' M', fX5_readSettings_4 31 (fun st_11 => some ((), st_11)) fu C (nI seen) (nI k) = some ((), C') ∧ fX8_settings_7 (fun st_27 => some ((), st_27)) fu' M (nI seen) x = some ((), M') ∧ pX b L C' M' ∧ sFr C M C' M' ∧ (pG b L C' M' → ruI C' M') := by
  intro j
  induction j with
  | zero =>
    intro k seen fu fu' C M x hk hs hp
    have := (sn_b hs (show 0 < 3 by decide)).2.2.2.2.2.2.2
    omega
  | succ j ih =>
    intro k seen fu fu' C M x hk hs hp hX hI hx hf hf'
    obtain ⟨fu, rfl⟩ : ∃ x, fu = x + 1 := ⟨fu - 1, by omega⟩
    obtain ⟨fu', rfl⟩ : ∃ x, fu' = x + 1 := ⟨fu' - 1, by omega⟩
    rw [fX5_readSettings_4, if_neg (show ¬ (3 : Int32) < nI k from nplt (a := 3) (by omega) (by decide)), fX8_settings_7]
    rcases hX with h | h
    · obtain ⟨hr, h0⟩ := hI h
      obtain ⟨t, t1, t2, t3⟩ := set_G h
      rw [hx] at t3
      have t3 := Option.some.inj t3
      rw [t2, ob_s, t3]
      by_cases q3 : t = 3
      · rw [if_pos q3, if_pos q3, if_pos rfl, if_pos rfl]
        exact ⟨C, M, rfl, rfl, Or.inl h, sFr_refl C M, fun _ => hr⟩
      · have ht : t < 3 := by omega
        obtain ⟨s1, s2, s3, s4, s5, s6, s7, -⟩ := sn_b hs ht
        have hpw : 2 ^ t < 2147483648 ∧ 2 ^ t ≠ 0 := by
          rcases (show t = 0 ∨ t = 1 ∨ t = 2 by omega) with rfl | rfl | rfl <;> decide
        rw [if_neg q3, if_neg q3, if_neg (show ¬ nI (2 ^ t) = (0 : Int32) from peqn (b := 0) hpw.2 hpw.1 (by decide)), if_neg (zneg (by omega)), qhas _ (by omega), ob_s, hb_nI (by omega), oj1_e]
        by_cases qb : seen.testBit t = true
        · obtain ⟨C1, M1, u1, u2, u3, u4, u5⟩ := ref_G (c := 3) ⟨by decide, by decide⟩ h
          have u1 : fX5_refuse 3 C = some ((), C1) := u1
          have u2 : fX8_fails 3 M = some ((), M1) := u2
          refine ⟨C1, M1, ?_, ?_, Or.inr u3, sFr_f u4 u5, fun g => absurd u3 (fun e => not_GE g e)⟩
          · rw [if_neg (fun e => by have := s1.mp e; rw [qb] at this; exact absurd this (by decide)), u1, obV_st]
          · rw [if_pos qb, if_neg (by decide), u2, obV_st]
            dsimp only
            rw [ol_e, wrong_E u3, ob_s, if_neg (by decide)]
        · have qf : seen.testBit t = false := by simpa using qb
          obtain ⟨C1, M1, u1, u2, u3, u4, u5⟩ := tok_G h
          have ru1 := ruI_f hr u4 u5
          obtain ⟨C2, M2, v1, v2, v3, v4, v5⟩ := set1 (t := t) ht u3 ru1 (fun e => by
            have q := h0 (by rw [← e]; exact qf)
            unfold ru0
            rw [u4.1 31 (by decide), u5.1 2 (by decide)]
            exact q) (fun st_15 => obV (fX8_ends st_15) (fun st_16 => ob (fX8_setting st_16) (fun x_17 => fX8_settings_7 (fun st_27 => some ((), st_27)) fu' st_16 (nI (seen ||| 2 ^ t)) x_17)))
          obtain ⟨C3, M3, w1, w2, w3, w4, w5, w6⟩ := semi_Y v3
          obtain ⟨x', hx'⟩ : ∃ x', fX8_setting M3 = some x' := by
            rcases w3 with q | q
            · obtain ⟨t', -, -, q⟩ := set_G q; exact ⟨_, q⟩
            · exact ⟨_, (set_E q).2⟩
          obtain ⟨C4, M4, y1, y2, y3, y4, y5⟩ := ih (k + 1) (seen ||| 2 ^ t) fu fu' C3 M3 x' (by omega) s4 (by rw [s5 qf, hp]) w3 (fun g => by
            have g2 := w6 g
            obtain ⟨z1, z2⟩ := v5 g2
            refine ⟨ruI_f z1 w4 w5, fun hb => ?_⟩
            have nt : t ≠ 2 := fun e => by rw [s7 e] at hb; exact absurd hb (by decide)
            rw [s6 nt] at hb
            have q := z2 nt (by unfold ru0; rw [u4.1 31 (by decide), u5.1 2 (by decide)]; exact h0 hb)
            unfold ru0
            rw [w4.1 31 (by decide), w5.1 2 (by decide)]
            exact q) hx' (by omega) (by omega)
          refine ⟨C4, M4, ?_, ?_, y3, sFr_tr (sFr_f u4 u5) (sFr_tr v4 (sFr_tr (sFr_f w4 w5) y4)), y5⟩
          · rw [if_pos (s1.mpr qf), s2, ol_e, u1, obV_st, v1, obV_st, w1, obV_st, ol_e, zinc]
            exact y1
          · rw [if_neg qb, if_pos rfl]
            dsimp only
            rw [s3, ol_e, right_G h, ob_s, if_pos rfl, u2, obV_st]
            refine v2.trans ?_
            rw [w2, obV_st, hx', ob_s]
            exact y2
    · obtain ⟨e1, e2⟩ := set_E h
      rw [hx] at e2
      have e2 := Option.some.inj e2
      rw [e1, ob_s, if_pos rfl, e2, if_pos rfl]
      exact ⟨C, M, rfl, rfl, Or.inr h, sFr_refl C M, fun g => absurd h (fun e => not_GE g e)⟩
end Q42
