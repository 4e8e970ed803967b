/-! PURE PART 38: words, numbers, semicolons -/
def pE (C M : uSt) : Prop := ∃ c p, 1 ≤ c ∧ c ≤ 4 ∧ C.1 1 2 = nI c ∧ M.1 0 13 = nI c ∧ C.1 1 3 = nI p ∧ M.1 0 14 = nI p ∧ C.1 1 4 = nI 4
theorem wd_tab : ((List.range 8).all fun w => decide (uLen w = uLen (w + 8) ∧ uLen w ≤ 8) && (List.range 8).all fun k => decide (k < uLen w → fJ0_charAt_5068e w (nI k) = fJ0_charAt_5068e (w + 8) (nI k)) && (decide (¬ k < uLen w) || (List.range 128).any fun c => decide (fJ0_charAt_5068e w (nI k) = some (nI c)))) = true := by decide +kernel
theorem wd_b {w : Nat} (h : w < 8) : uLen w = uLen (w + 8) ∧ uLen w ≤ 8 ∧ ∀ k, k < uLen w → ∃ c, c < 128 ∧ fJ0_charAt_5068e w (nI k) = some (nI c) ∧ fJ0_charAt_5068e (w + 8) (nI k) = some (nI c) := by
  have t := List.all_eq_true.mp wd_tab w (List.mem_range.mpr h)
  rw [Bool.and_eq_true] at t
  obtain ⟨t1, t2⟩ := t
  obtain ⟨q1, q2⟩ := of_decide_eq_true t1
  refine ⟨q1, q2, fun k hk => ?_⟩
  have t3 := List.all_eq_true.mp t2 k (List.mem_range.mpr (by omega))
  rw [Bool.and_eq_true, Bool.or_eq_true] at t3
  obtain ⟨t4, t5⟩ := t3
  have t4 := of_decide_eq_true t4 hk
  rcases t5 with t5 | t5
  · exact absurd hk (of_decide_eq_true t5)
  · obtain ⟨c, c1, c2⟩ := List.any_eq_true.mp t5
    have c2 := of_decide_eq_true c2
    exact ⟨c, List.mem_range.mp c1, c2, by rw [← t4]; exact c2⟩
section Q38
variable {b : Nat → Nat} {L : Nat} {C M : uSt}
theorem by_eq {x c : Nat} (hx : x < 256) (hc : c < 128) : (sB x = nI c) ↔ (nI x = nI c) := by
  obtain ⟨-, -, -, -, -, -, -, -, y9, y10⟩ := by_b hx
  by_cases q : x < 128
  · rw [y9 q]
  · refine ⟨fun h => ?_, fun h => ?_⟩
    · have := y10 (by omega)
      rw [h] at this
      exact absurd this (nlt0 (by omega))
    · rw [zeq (by omega) (by omega)] at h
      omega
theorem wd_l {w s : Nat} (hw : w < 8) (ht : tx b L C M) (hs : s + uLen w ≤ L) (h5 : C.1 1 5 = nI s) (h10 : M.1 0 10 = nI s) : ∀ j k fu fu', k + j = uLen w → j < fu → j < fu' → ∃ x : Int32, (x = 0 ∨ x = 1) ∧ fX5_isWord_28 w C (some 1) fu (nI k) = some x ∧ fX8_isWord_35 (w + 8) M (some 1) fu' (nI k) = some x := by
  obtain ⟨w1, w2, w3⟩ := wd_b hw
  have hL := ht.1
  intro j
  induction j with
  | zero =>
    intro k fu fu' hk hf hf'
    obtain ⟨fu, rfl⟩ : ∃ x, fu = x + 1 := ⟨fu - 1, by omega⟩
    obtain ⟨fu', rfl⟩ : ∃ x, fu' = x + 1 := ⟨fu' - 1, by omega⟩
    refine ⟨1, Or.inr rfl, ?_, ?_⟩
    · rw [fX5_isWord_28, fJ0_length_8abf5, ob_s, if_pos (ple (by omega) (by omega))]
    · rw [fX8_isWord_35, fJ0_length_8abf5, ob_s, ← w1, if_pos (ple (by omega) (by omega))]
  | succ j ih =>
    intro k fu fu' hk hf hf'
    obtain ⟨fu, rfl⟩ : ∃ x, fu = x + 1 := ⟨fu - 1, by omega⟩
    obtain ⟨fu', rfl⟩ : ∃ x, fu' = x + 1 := ⟨fu' - 1, by omega⟩
    obtain ⟨c, c1, c2, c3⟩ := w3 k (by omega)
    obtain ⟨b1, b2, b3⟩ := ht.2.2.2 (s + k) (by omega)
    rw [fX5_isWord_28, fX8_isWord_35, fJ0_length_8abf5, fJ0_length_8abf5, ob_s, ob_s, ← w1, if_neg (nple (by omega) (by omega)), if_neg (nple (by omega) (by omega)), ht.2.1, h5, h10, zadd, if_neg (nple (by omega) (by omega)), zin (by omega) (by omega), zcl (by omega), og_t, qat ht (by omega), if_pos (by omega), ob_s, c2, c3, ob_s, ob_s, b2, ol_e, ol_e, zinc]
    by_cases q : nI (b (s + k)) = nI c
    · rw [if_pos ((by_eq b1 c1).mpr q), if_pos q]
      exact ih (k + 1) fu fu' (by omega) (by omega) (by omega)
    · rw [if_neg (fun h => q ((by_eq b1 c1).mp h)), if_neg q]
      exact ⟨0, Or.inl rfl, rfl, rfl⟩
theorem word_G {w : Nat} (hw : w < 8) (h : pG b L C M) : ∃ x : Int32, (x = 0 ∨ x = 1) ∧ fX5_isWord w C = some x ∧ fX8_isWord (w + 8) M = some x := by
  obtain ⟨ht, -, h13, -, -, s, e, kd, g1, g2, g3, g4, g5, g6, g7, g8, g9, -⟩ := h
  obtain ⟨w1, w2, w3⟩ := wd_b hw
  have hL := ht.1
  have iw : fX8_isWrong M = some 0 := by rw [fX8_isWrong, h13, if_pos rfl]
  by_cases qk : kd = 1
  · subst qk
    by_cases ql : e - s = uLen w
    · obtain ⟨x, x1, x2, x3⟩ := wd_l hw ht (by omega) g3 g4 (uLen w) 0 FU FU (by omega) (FU_lt (by omega)) (FU_lt (by omega))
      refine ⟨x, x1, ?_, ?_⟩
      · rw [fX5_isWord, g7, if_pos (show nI 1 = (1 : Int32) from rfl), fJ0_length_8abf5, ob_s, g5, g3, zsub g1, if_pos (by rw [ql])]
        exact x2
      · rw [fX8_isWord, iw, ob_s, if_pos rfl, g8, if_pos (show nI 1 = (1 : Int32) from rfl), fJ0_length_8abf5, ob_s, g6, g4, zsub g1, ← w1, if_pos (by rw [ql])]
        exact x3
    · refine ⟨0, Or.inl rfl, ?_, ?_⟩
      · rw [fX5_isWord, g7, if_pos (show nI 1 = (1 : Int32) from rfl), fJ0_length_8abf5, ob_s, g5, g3, zsub g1, if_neg (peqn ql (by omega) (by omega))]
      · rw [fX8_isWord, iw, ob_s, if_pos rfl, g8, if_pos (show nI 1 = (1 : Int32) from rfl), fJ0_length_8abf5, ob_s, g6, g4, zsub g1, ← w1, if_neg (peqn ql (by omega) (by omega))]
  · refine ⟨0, Or.inl rfl, ?_, ?_⟩
    · rw [fX5_isWord, g7, if_neg (show ¬ nI kd = (1 : Int32) from peqn (b := 1) qk (by omega) (by decide))]
    · rw [fX8_isWord, iw, ob_s, if_pos rfl, g8, if_neg (show ¬ nI kd = (1 : Int32) from peqn (b := 1) qk (by omega) (by decide))]
theorem wrong_E (h : pE C M) : fX8_isWrong M = some 1 := by
  obtain ⟨c, p, c1, c2, -, h13, -⟩ := h
  rw [fX8_isWrong, h13, if_neg (show ¬ nI c = (0 : Int32) from peqn (b := 0) (by omega) (by omega) (by decide))]
theorem word_E {w : Nat} (h : pE C M) : fX5_isWord w C = some 0 ∧ fX8_isWord (w + 8) M = some 0 := by
  refine ⟨?_, by rw [fX8_isWord, wrong_E h, ob_s, if_neg (by decide)]⟩
  obtain ⟨c, p, c1, c2, -, h13, -, -, h4⟩ := h
  rw [fX5_isWord, h4, if_neg (by decide)]
theorem ref_G {c : Nat} (hc : 1 ≤ c ∧ c ≤ 4) (h : pG b L C M) : ∃ C' M', fX5_refuse (nI c) C = some ((), C') ∧ fX8_fails (nI c) M = some ((), M') ∧ pE C' M' ∧ cF C C' ∧ mF M M' := by
  obtain ⟨ht, h2, h13, -, -, s, e, kd, g1, g2, g3, g4, -⟩ := h
  refine ⟨sI (sI (sI C 1 2 (nI c)) 1 3 (nI s)) 1 4 4, sI (sI M 0 13 (nI c)) 0 14 (nI s), ?_, ?_, ⟨c, s, hc.1, hc.2, ?_, ?_, ?_, ?_, ?_⟩, ⟨fun i hi => by rw [sI_n hi, sI_n hi, sI_n hi], ?_⟩, ⟨fun i hi => by rw [sI_n hi, sI_n hi], ?_, ?_, ?_⟩⟩
  · rw [fX5_refuse, oj1_e, h2, if_pos rfl, ol_e, sI_r, if_neg (by decide), g3, ol_e]
    rfl
  · rw [fX8_fails, fX8_isWrong, h13, if_pos rfl, ob_s, if_pos rfl, ol_e, sI_r, if_neg (by decide), g4, ol_e]
  all_goals rfl
theorem ref_E {c : Int32} (h : pE C M) : ∃ C', fX5_refuse c C = some ((), C') ∧ fX8_fails c M = some ((), M) ∧ pE C' M ∧ cF C C' := by
  obtain ⟨c', p, c1, c2, h2, h13, h3, h14, h4⟩ := id h
  refine ⟨sI C 1 4 4, ?_, by rw [fX8_fails, wrong_E h, ob_s, if_neg (by decide)], ⟨c', p, c1, c2, ?_, h13, ?_, h14, ?_⟩, ⟨fun i hi => sI_n hi, ?_⟩⟩
  · rw [fX5_refuse, oj1_e, h2, if_neg (show ¬ nI c' = (0 : Int32) from peqn (b := 0) (by omega) (by omega) (by decide))]
    rfl
  · rw [sI_r, if_neg (by decide)]; exact h2
  · rw [sI_r, if_neg (by decide)]; exact h3
  · rw [sI_r, if_pos rfl]; rfl
  · rw [sI_r, if_neg (by decide)]
theorem cF_refl (C : uSt) : cF C C := ⟨fun _ _ => rfl, rfl⟩
theorem mF_refl (M : uSt) : mF M M := ⟨fun _ _ => rfl, rfl, rfl, rfl⟩
theorem cF_tr {A B C : uSt} (h : cF A B) (g : cF B C) : cF A C := ⟨fun i hi => by rw [g.1 i hi, h.1 i hi], by rw [g.2, h.2]⟩
theorem mF_tr {A B C : uSt} (h : mF A B) (g : mF B C) : mF A C := ⟨fun i hi => by rw [g.1 i hi, h.1 i hi], by rw [g.2.1, h.2.1], by rw [g.2.2.1, h.2.2.1], by rw [g.2.2.2, h.2.2.2]⟩
theorem tok_G (h : pG b L C M) : ∃ C' M', fX5_readToken C = some ((), C') ∧ fX8_token M = some ((), M') ∧ pG b L C' M' ∧ cF C C' ∧ mF M M' := by
  obtain ⟨ht, h2, h13, h3, h14, s, e, kd, g1, g2, g3, g4, g5, g6, -⟩ := h
  exact tok_both ht h2 h13 h3 h14 g2 g5 g6
/-- a number -/
theorem tn_l {s e : Nat} (l1 l2 : Int32) (ht : tx b L C M) (hse : e ≤ s + 4) (heL : e ≤ L) (hd : ∀ k, s ≤ k → k < e → bDi (b k) = true) (h6 : C.1 1 6 = nI e) (ke : Int32 → Option (Int32 × uSt)) : ∀ j k fu, k + j = e → s ≤ k → j < fu → fX5_takeNumber_23 l1 l2 C ke fu (nI (nm b s (k - s))) (nI k) = ke (nI (nm b s (e - s))) := by
  have hL := ht.1
  intro j
  induction j with
  | zero =>
    intro k fu hk hs hf
    obtain ⟨fu, rfl⟩ : ∃ x, fu = x + 1 := ⟨fu - 1, by omega⟩
    obtain rfl : k = e := by omega
    rw [fX5_takeNumber_23, h6, if_pos (Int32.le_refl _)]
  | succ j ih =>
    intro k fu hk hs hf
    obtain ⟨fu, rfl⟩ : ∃ x, fu = x + 1 := ⟨fu - 1, by omega⟩
    obtain ⟨b1, b2, b3⟩ := ht.2.2.2 k (by omega)
    have q := hd k hs (by omega)
    have q : 48 ≤ b k ∧ b k ≤ 57 := by unfold bDi at q; simpa using q
    have y9 := (by_b b1).2.2.2.2.2.2.2.2.1 (by omega)
    have en : ((nI (nm b s (k - s)) * (10 : Int32)) + nI (b k)) - (48 : Int32) = nI (nm b s (k + 1 - s)) := by
      rw [show k + 1 - s = (k - s) + 1 by omega, nm, show s + (k - s) = k by omega, show (10 : Int32) = nI 10 from rfl, show (48 : Int32) = nI 48 from rfl, zmul, zadd, zsub (by omega)]
      congr 1
      omega
    rw [fX5_takeNumber_23, h6, if_neg (nple (by omega) (by omega)), ht.2.1, if_neg (nple (by omega) (by omega)), zin (by omega) (by omega), zcl (by omega), og_t, b2, y9, en, ol_e, ol_e, zinc]
    exact ih (k + 1) fu (by omega) (by omega) (by omega)
theorem nm_le {s : Nat} : ∀ k, (∀ i, i < k → bDi (b (s + i)) = true) → nm b s k < 10 ^ k
  | 0, _ => Nat.one_pos
  | k + 1, h => by
    have h1 := nm_le k (fun i hi => h i (by omega))
    have h2 := h k (by omega)
    have h2 : 48 ≤ b (s + k) ∧ b (s + k) ≤ 57 := by unfold bDi at h2; simpa using h2
    rw [nm, Nat.pow_succ]
    omega
end Q38
