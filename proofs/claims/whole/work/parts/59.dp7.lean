/-! PURE PART 30: what the table says of sets -/
section Q30
variable {m : Nat} {C : uSt} {a : Nat → Nat} {n : Nat} {w : Nat → Nat → Nat}
theorem qrank {F l : Nat} (hd : cDv C.1 (15 + 3) a) (hc : cCa C.1 (15 + 8) n w) (hO : oB n a w) (hD : oD a) (hl : l ≤ 500) : ∃ C', fX4_rank 15 (nI (bS (usD F w) n)) (nI l) C = some ((), C') ∧ C'.1 = C.1 ∧ ∀ e, e ≤ l → C'.2.1 6 e = jI (sh (mg (refT a w F n) 0 e)) := by
  have hn := hO.1
  obtain ⟨C1, a1, a2, a3, a4⟩ := qfill 6 (-1) C
  obtain ⟨C2, b1, b2, b3, b4⟩ := qfill 7 (-1) C1
  obtain ⟨C3, c1, c2, c3, c4⟩ := qfill 8 (-1) C2
  have st0 : ∀ s e, refT a w F 0 s e = if s = 0 ∧ e = 0 then 0 else -1 := fun _ _ => rfl
  have hI : rkI a w F l 0 (sL C3 6 0 (16777215 : Int64)).2.1 (-1) 0 := by
    refine ⟨refT a w F 0, 0, fun e he => ?_, refT_b hO F 0 (by omega), fun s e he => by rw [st0, if_neg (by omega)], by omega, by rw [show min l 0 = 0 by omega]; rfl, rfl, Or.inr (Or.inl ⟨rfl, ?_, fun h => absurd h (by omega)⟩)⟩
    · rw [sL_g, sL_n (show 7 ≠ 6 by decide), sL_n (show 8 ≠ 6 by decide), c4 6 (by decide), b4 6 (by decide), a3 e (by omega), c4 7 (by decide), b3 e (by omega), c3 e (by omega), st0, st0, st0]
      by_cases q : e = 0
      · subst q
        rw [if_pos rfl, if_pos ⟨rfl, rfl⟩, if_neg (by omega), if_neg (by omega)]
        exact ⟨by decide, by decide, by decide⟩
      · rw [if_neg q, if_neg (by omega), if_neg (by omega), if_neg (by omega)]
        exact ⟨by decide, by decide, by decide⟩
    · funext s e
      unfold mg
      rw [st0, st0, st0, st0]
      by_cases q : s = 0
      · subst q
        by_cases q2 : e = 0
        · subst q2; rfl
        · rw [if_neg (by omega), if_pos rfl, if_neg (by omega), if_neg (by omega)]; rfl
      · rw [if_neg (by omega), if_neg q]
  obtain ⟨T, l4', l5', t1, t2, X, S, x1, x2, x3, x4, x5, x6, -⟩ := rk_l (F := F) (l := l) hd hc hO hD hl (fun st_23 l5_22 => obV (fX4_leaveDevice l5_22 st_23) (fun st_24 => some ((), st_24))) n 0 FU (sL C3 6 0 (16777215 : Int64)) (-1) 0 (by omega) (FU_lt (by omega)) (by rw [sL_1, c2, b2, a2]) hI
  obtain ⟨T2, u1, u2, u3⟩ := qleave (C := T) (R := min l S) (l := l) (S := S) x2 (by omega) hl rfl x3 x1
  refine ⟨T2, ?_, by rw [u2, t2], fun e he => ?_⟩
  · rw [fX4_rank, a1, obV_st, b1, obV_st, c1, obV_st, ol_e]
    refine t1.trans ?_
    rw [x5, u1, obV_st]
  · rw [x6]; exact (u3 e he).1
/-! sets -/
def rkS (w : Nat → Nat → Nat) (p : Nat → Bool) (b : Nat) : Int := (vU w p b : Int) * 16777216 - (bS p b : Int)
theorem lS_ok (p : Nat → Bool) : ∀ b, (lS p b = 0 → ∀ k, k < b → p k = false) ∧ (0 < lS p b → lS p b - 1 < b ∧ p (lS p b - 1) = true ∧ ∀ k, lS p b - 1 < k → k < b → p k = false) := by
  intro b
  induction b with
  | zero => exact ⟨fun _ k hk => absurd hk (by omega), fun h => absurd h (Nat.lt_irrefl 0)⟩
  | succ b ih =>
    rw [lS]
    by_cases q : p b = true
    · rw [if_pos q]
      exact ⟨fun h => absurd h (by omega), fun _ => ⟨by omega, by rw [Nat.add_sub_cancel]; exact q, fun k h1 h2 => absurd h2 (by omega)⟩⟩
    · rw [if_neg q]
      have qf : p b = false := by simpa using q
      refine ⟨fun h k hk => ?_, fun h => ?_⟩
      · by_cases e : k = b
        · rw [e]; exact qf
        · exact ih.1 h k (by omega)
      · obtain ⟨h1, h2, h3⟩ := ih.2 h
        refine ⟨by omega, h2, fun k h4 h5 => ?_⟩
        by_cases e : k = b
        · rw [e]; exact qf
        · exact h3 k h4 (by omega)
/-- how a set lies before block b -/
def stC (w : Nat → Nat → Nat) (p : Nat → Bool) (b s : Nat) : Prop := (s = 0 ∧ ∀ k, k < b → p k = true → w 0 k / 100 ≠ w 0 b / 100) ∨ (s = 1 ∧ 0 < b ∧ w 0 (b - 1) / 100 = w 0 b / 100 ∧ p (b - 1) = false ∧ ∃ k, k < b ∧ p k = true ∧ w 0 k / 100 = w 0 b / 100) ∨ (s = 2 ∧ 0 < b ∧ w 0 (b - 1) / 100 = w 0 b / 100 ∧ p (b - 1) = true)
def kS (a : Nat → Nat) (w : Nat → Nat → Nat) (b s : Nat) : Nat := if s = 0 then k0 a (w 0 b / 100) else if s = 1 then k1 a (w 0 b / 100) else k2 a (w 0 b / 100) (nxt w b)
theorem eC_st (hO : oB n a w) {p : Nat → Bool} {b s : Nat} (hb : b < n) (h : stC w p b s) : eC a w (lS p b) b = kS a w b s := by
  have hinc := inc_all hO.2.2
  obtain ⟨l0, l1⟩ := lS_ok p b
  unfold eC kS
  rcases h with ⟨rfl, h⟩ | ⟨rfl, hb0, hs, hp, k, hk, pk, dk⟩ | ⟨rfl, hb0, hs, hp⟩
  · rw [if_pos rfl, if_pos (by
      by_cases q : lS p b = 0
      · exact Or.inl q
      · obtain ⟨h1, h2, -⟩ := l1 (by omega)
        exact Or.inr (h _ h1 h2))]
    unfold k0
    omega
  · have hl : 0 < lS p b := by
      rcases Nat.eq_zero_or_pos (lS p b) with q | q
      · have := l0 q k hk
        rw [pk] at this
        exact absurd this (by decide)
      · exact q
    obtain ⟨h1, h2, h3⟩ := l1 hl
    have ne : lS p b - 1 ≠ b - 1 := fun e => by rw [e, hp] at h2; exact absurd h2 (by decide)
    have kl : k ≤ lS p b - 1 := by
      rcases Nat.lt_or_ge (lS p b - 1) k with q | q
      · have := h3 k q hk
        rw [pk] at this
        exact absurd this (by decide)
      · exact q
    have g1 := hinc b (b - 1) (by omega) hb
    have g2 := hinc (b - 1) (lS p b - 1) (by omega) (by omega)
    have g3 : w 0 k ≤ w 0 (lS p b - 1) := by
      rcases Nat.eq_or_lt_of_le kl with e | e
      · rw [e]; exact Nat.le_refl _
      · exact Nat.le_of_lt (hinc _ _ e (by omega))
    rw [if_neg (by omega), if_neg (by omega), if_neg (by decide), if_pos rfl]
    unfold k1
    omega
  · have hl : lS p b = b := by
      obtain ⟨c, rfl⟩ : ∃ c, b = c + 1 := ⟨b - 1, by omega⟩
      rw [lS, if_pos (by simpa using hp)]
    rw [hl, if_neg (show ¬ (b = 0 ∨ w 0 (b - 1) / 100 ≠ w 0 b / 100) by omega), if_neg (show ¬ (2 : Nat) = 0 by decide), if_neg (show ¬ (2 : Nat) = 1 by decide)]
    unfold k2 nxt
    by_cases q : w 0 (b - 1) + 1 = w 0 b
    · rw [if_pos q, if_pos (show 0 < b ∧ w 0 (b - 1) / 100 = w 0 b / 100 ∧ w 0 (b - 1) + 1 = w 0 b from ⟨hb0, hs, q⟩), if_neg (by decide)]
      omega
    · rw [if_neg q, if_neg (show ¬ (0 < b ∧ w 0 (b - 1) / 100 = w 0 b / 100 ∧ w 0 (b - 1) + 1 = w 0 b) from fun h => q h.2.2), if_pos rfl]
      omega
/-- a table tells of sets below b, as they lie before block b -/
def tlS (a : Nat → Nat) (w : Nat → Nat → Nat) (F b : Nat) (Y : Tb) : Prop := ∀ s e, s < 3 → Y s e ≠ -1 → ∃ p : Nat → Bool, (∀ k, p k = true → k < b ∧ usD F w k = true) ∧ eS a w p b = e ∧ Y s e = rkS w p b ∧ stC w p b s
/-- the same, as they lie behind block b - 1 -/
def tlE (a : Nat → Nat) (w : Nat → Nat → Nat) (F b : Nat) (Y : Tb) : Prop := ∀ s e, s < 3 → Y s e ≠ -1 → ∃ p : Nat → Bool, (∀ k, p k = true → k < b ∧ usD F w k = true) ∧ eS a w p b = e ∧ Y s e = rkS w p b ∧ (0 < b → (s = 0 ∧ ∀ k, p k = true → w 0 k / 100 ≠ w 0 (b - 1) / 100) ∨ (s = 1 ∧ p (b - 1) = false ∧ ∃ k, k < b ∧ p k = true ∧ w 0 k / 100 = w 0 (b - 1) / 100) ∨ (s = 2 ∧ p (b - 1) = true))
theorem mg_ne {D : Tb} {s e : Nat} (h : mg D s e ≠ -1) : s = 0 ∧ ∃ t, t < 3 ∧ D t e = mg D s e ∧ D t e ≠ -1 := by
  unfold mg at h ⊢
  by_cases q : s = 0
  · rw [if_pos q] at h ⊢
    refine ⟨q, ?_⟩
    rcases (show max (D 0 e) (max (D 1 e) (D 2 e)) = D 0 e ∨ max (D 0 e) (max (D 1 e) (D 2 e)) = D 1 e ∨ max (D 0 e) (max (D 1 e) (D 2 e)) = D 2 e by omega) with e1 | e1 | e1
    · exact ⟨0, by decide, e1.symm, by rw [← e1]; exact h⟩
    · exact ⟨1, by decide, e1.symm, by rw [← e1]; exact h⟩
    · exact ⟨2, by decide, e1.symm, by rw [← e1]; exact h⟩
  · rw [if_neg q] at h
    exact absurd rfl h
theorem tl_pre {F b : Nat} (hO : oB n a w) (hb : b < n) (h : tlE a w F b (refT a w F b)) : tlS a w F b (if 0 < b ∧ w 0 (b - 1) / 100 = w 0 b / 100 then refT a w F b else mg (refT a w F b)) := by
  have hinc := inc_all hO.2.2
  intro s e hs hne
  by_cases q : 0 < b ∧ w 0 (b - 1) / 100 = w 0 b / 100
  · rw [if_pos q] at hne ⊢
    obtain ⟨p, p1, p2, p3, p4⟩ := h s e hs hne
    refine ⟨p, p1, p2, p3, ?_⟩
    rcases p4 q.1 with ⟨rfl, z4⟩ | ⟨rfl, z4, k, k1, k2, k3⟩ | ⟨rfl, z4⟩
    · exact Or.inl ⟨rfl, fun k _ pk => by rw [← q.2]; exact z4 k pk⟩
    · exact Or.inr (Or.inl ⟨rfl, q.1, q.2, z4, k, k1, k2, by rw [k3, q.2]⟩)
    · exact Or.inr (Or.inr ⟨rfl, q.1, q.2, z4⟩)
  · rw [if_neg q] at hne ⊢
    obtain ⟨s0, t, t1, t2, t3⟩ := mg_ne hne
    obtain ⟨p, p1, p2, p3, -⟩ := h t e t1 t3
    refine ⟨p, p1, p2, by rw [← t2]; exact p3, Or.inl ⟨s0, fun k hk _ hd => ?_⟩⟩
    have g1 := hinc b k hk hb
    have g2 := hinc b (b - 1) (by omega) hb
    have g3 : w 0 k ≤ w 0 (b - 1) := by
      rcases Nat.eq_or_lt_of_le (show k ≤ b - 1 by omega) with e | e
      · rw [e]; exact Nat.le_refl _
      · exact Nat.le_of_lt (hinc _ _ e (by omega))
    exact q ⟨by omega, by omega⟩
theorem ext_off {p : Nat → Bool} {b : Nat} (h : p b = false) : eS a w p (b + 1) = eS a w p b ∧ rkS w p (b + 1) = rkS w p b := by
  unfold rkS
  rw [eS, vU, bS, h]
  exact ⟨rfl, rfl⟩
theorem ext_on {p : Nat → Bool} {b : Nat} : eS a w (pAdd p b) (b + 1) = eS a w p b + eC a w (lS p b) b ∧ rkS w (pAdd p b) (b + 1) = rkS w p b + gn w b := by
  have e : ∀ k, k < b → pAdd p b k = p k := fun k hk => by unfold pAdd; simp; omega
  have e2 : pAdd p b b = true := by unfold pAdd; simp
  unfold rkS gn
  rw [eS, vU, bS, e2, eS_ext b e, lS_ext b e, vU_ext b e]
  have e3 : bS (pAdd p b) b = bS p b := by
    have : ∀ j, j ≤ b → bS (pAdd p b) j = bS p j := by
      intro j
      induction j with
      | zero => intro _; rfl
      | succ j ih => intro hj; rw [bS, bS, ih (by omega), e j (by omega)]
    exact this b (Nat.le_refl _)
  rw [e3, if_pos rfl, if_pos rfl, if_pos rfl]
  refine ⟨rfl, ?_⟩
  rw [Int.natCast_add, Int.natCast_add, Int.natCast_pow, show ((2 : Nat) : Int) = 2 from rfl]
  simp only [Int.add_mul]
  omega
theorem tl_all {F : Nat} (hO : oB n a w) : ∀ b, b ≤ n → tlE a w F b (refT a w F b) := by
  intro b
  induction b with
  | zero =>
    intro _ s e hs hne
    have : refT a w F 0 s e = if s = 0 ∧ e = 0 then 0 else -1 := rfl
    rw [this] at hne ⊢
    by_cases q : s = 0 ∧ e = 0
    · rw [if_pos q]
      exact ⟨fun _ => false, fun k h => absurd h Bool.false_ne_true, q.2.symm, by unfold rkS; simp [vU, bS], fun h => absurd h (by omega)⟩
    · rw [if_neg q] at hne
      exact absurd rfl hne
  | succ b ih =>
    intro hb s e hs hne
    have hpre := tl_pre hO (show b < n by omega) (ih (by omega))
    have hbX := refT_b hO F b (by omega)
    have hbX : bD (if 0 < b ∧ w 0 (b - 1) / 100 = w 0 b / 100 then refT a w F b else mg (refT a w F b)) (1660944384 * b) := by
      split
      · exact hbX
      · exact bD_mg hbX (by omega)
    rw [refT] at hne ⊢
    generalize (if 0 < b ∧ w 0 (b - 1) / 100 = w 0 b / 100 then refT a w F b else mg (refT a w F b)) = Y at hpre hne hbX ⊢
    rw [Nat.add_sub_cancel]
    -- a set that is carried over without block b
    have carry : ∀ t, t < 3 → Y t e ≠ -1 → ∃ p : Nat → Bool, (∀ k, p k = true → k < b + 1 ∧ usD F w k = true) ∧ eS a w p (b + 1) = e ∧ Y t e = rkS w p (b + 1) ∧ p b = false ∧ stC w p b t := by
      intro t ht htn
      obtain ⟨p, p1, p2, p3, p4⟩ := hpre t e ht htn
      have pb : p b = false := by
        cases q : p b
        · rfl
        · exact absurd (p1 b q).1 (by omega)
      obtain ⟨x1, x2⟩ := ext_off (a := a) (w := w) pb
      exact ⟨p, fun k hk => ⟨by have := (p1 k hk).1; omega, (p1 k hk).2⟩, by rw [x1]; exact p2, by rw [x2]; exact p3, pb, p4⟩
    by_cases qF : F.testBit (w 0 b / 100) = true
    · rw [if_pos qF] at hne ⊢
      obtain ⟨p, p1, p2, p3, pb, p4⟩ := carry s hs hne
      refine ⟨p, p1, p2, p3, fun _ => ?_⟩
      have nk : ∀ k, p k = true → w 0 k / 100 ≠ w 0 b / 100 := fun k hk hd => by
        have := (p1 k hk).2
        unfold usD at this
        rw [hd, qF] at this
        exact absurd this (by decide)
      rcases p4 with ⟨rfl, -⟩ | ⟨-, -, -, -, k, -, k2, k3⟩ | ⟨-, -, hsd, hp⟩
      · exact Or.inl ⟨rfl, nk⟩
      · exact absurd k3 (nk k k2)
      · exact absurd hsd (nk _ hp)
    · rw [if_neg qF] at hne ⊢
      unfold tkB tk at hne ⊢
      by_cases s0 : s = 0
      · rw [if_pos s0] at hne ⊢
        obtain ⟨p, p1, p2, p3, pb, p4⟩ := carry 0 (by decide) hne
        refine ⟨p, p1, p2, p3, fun _ => Or.inl ⟨s0, fun k hk => ?_⟩⟩
        rcases p4 with ⟨-, h⟩ | ⟨h, -⟩ | ⟨h, -⟩
        · by_cases q : k = b
          · rw [q, pb] at hk; exact absurd hk (by decide)
          · exact h k (by have := (p1 k hk).1; omega) hk
        · exact absurd h (by decide)
        · exact absurd h (by decide)
      · rw [if_neg s0] at hne ⊢
        by_cases s1 : s = 1
        · rw [if_pos s1] at hne ⊢
          have pick : ∃ t, (t = 1 ∨ t = 2) ∧ max (Y 1 e) (Y 2 e) = Y t e := by
            rcases (show max (Y 1 e) (Y 2 e) = Y 1 e ∨ max (Y 1 e) (Y 2 e) = Y 2 e by omega) with h | h
            · exact ⟨1, Or.inl rfl, h⟩
            · exact ⟨2, Or.inr rfl, h⟩
          obtain ⟨t, ht, et⟩ := pick
          rw [et] at hne ⊢
          obtain ⟨p, p1, p2, p3, pb, p4⟩ := carry t (by omega) hne
          refine ⟨p, p1, p2, p3, fun _ => Or.inr (Or.inl ⟨s1, pb, ?_⟩)⟩
          rcases p4 with ⟨h, -⟩ | ⟨-, -, -, -, k, k1, k2, k3⟩ | ⟨-, hb0, hsd, hp⟩
          · omega
          · exact ⟨k, by omega, k2, k3⟩
          · exact ⟨b - 1, by omega, hp, hsd⟩
        · rw [if_neg s1] at hne ⊢
          unfold Pt at hne ⊢
          have m0 := bD_qv hbX (by omega) 0 (k0 a (w 0 b / 100)) 501 e
          have m1 := bD_qv hbX (by omega) 1 (k1 a (w 0 b / 100)) 501 e
          have m2 := bD_qv hbX (by omega) 2 (k2 a (w 0 b / 100) (nxt w b)) 501 e
          by_cases qn : max (max (qv Y 0 (k0 a (w 0 b / 100)) 501 e) (qv Y 1 (k1 a (w 0 b / 100)) 501 e)) (qv Y 2 (k2 a (w 0 b / 100) (nxt w b)) 501 e) < 0
          · rw [if_pos qn] at hne
            exact absurd rfl hne
          · rw [if_neg qn] at hne ⊢
            have pick : ∃ t, t < 3 ∧ max (max (qv Y 0 (k0 a (w 0 b / 100)) 501 e) (qv Y 1 (k1 a (w 0 b / 100)) 501 e)) (qv Y 2 (k2 a (w 0 b / 100) (nxt w b)) 501 e) = qv Y t (kS a w b t) 501 e := by
              rcases (show max (max (qv Y 0 (k0 a (w 0 b / 100)) 501 e) (qv Y 1 (k1 a (w 0 b / 100)) 501 e)) (qv Y 2 (k2 a (w 0 b / 100) (nxt w b)) 501 e) = qv Y 0 (k0 a (w 0 b / 100)) 501 e ∨ max (max (qv Y 0 (k0 a (w 0 b / 100)) 501 e) (qv Y 1 (k1 a (w 0 b / 100)) 501 e)) (qv Y 2 (k2 a (w 0 b / 100) (nxt w b)) 501 e) = qv Y 1 (k1 a (w 0 b / 100)) 501 e ∨ max (max (qv Y 0 (k0 a (w 0 b / 100)) 501 e) (qv Y 1 (k1 a (w 0 b / 100)) 501 e)) (qv Y 2 (k2 a (w 0 b / 100) (nxt w b)) 501 e) = qv Y 2 (k2 a (w 0 b / 100) (nxt w b)) 501 e by omega) with h | h | h
              · exact ⟨0, by decide, h⟩
              · exact ⟨1, by decide, h⟩
              · exact ⟨2, by decide, h⟩
            obtain ⟨t, ht, et⟩ := pick
            rw [et] at hne qn ⊢
            unfold qv at hne qn ⊢
            by_cases qc : kS a w b t ≤ e ∧ e - kS a w b t < 501
            · rw [if_pos qc] at hne qn ⊢
              obtain ⟨p, p1, p2, p3, p4⟩ := hpre t (e - kS a w b t) ht (by omega)
              obtain ⟨x1, x2⟩ := ext_on (a := a) (w := w) (p := p) (b := b)
              refine ⟨pAdd p b, fun k hk => ?_, ?_, by rw [x2, p3], fun _ => Or.inr (Or.inr ⟨by omega, by unfold pAdd; simp⟩)⟩
              · unfold pAdd at hk
                by_cases qk : k = b
                · rw [qk]
                  refine ⟨by omega, ?_⟩
                  unfold usD
                  simpa using qF
                · have hk : p k = true := by simpa [qk] using hk
                  exact ⟨by have := (p1 k hk).1; omega, (p1 k hk).2⟩
              · rw [x1, p2, eC_st hO (by omega) p4]
                omega
            · rw [if_neg qc] at qn
              exact absurd (by decide) qn
end Q30
