/-! PURE PART 35: the reference's plain row; the start -/
section Q35
variable {m : Nat} {C M st : uSt}
theorem plain_l (ke : uSt → Option (Unit × uSt)) : ∀ j k fu (st : uSt), k + j = 109 → j < fu → ∃ st', fX8_plain_2 ke fu st (nI k) = ke st' ∧ (∀ i, k ≤ i → i < 109 → st'.1 2 i = 0) ∧ (∀ i, i < k → st'.1 2 i = st.1 2 i) ∧ ∀ i, i ≠ 2 → st'.1 i = st.1 i := by
  intro j
  induction j with
  | zero =>
    intro k fu st hk hf
    obtain ⟨fu, rfl⟩ : ∃ x, fu = x + 1 := ⟨fu - 1, by omega⟩
    obtain rfl : k = 109 := by omega
    exact ⟨st, by rw [fX8_plain_2, if_pos (show (109 : Int32) ≤ nI 109 from Int32.le_refl _)], fun i h1 h2 => absurd h2 (by omega), fun _ _ => rfl, fun _ _ => rfl⟩
  | succ j ih =>
    intro k fu st hk hf
    obtain ⟨fu, rfl⟩ : ∃ x, fu = x + 1 := ⟨fu - 1, by omega⟩
    obtain ⟨st', e1, e2, e3, e4⟩ := ih (k + 1) fu (sI st 2 k 0) (by omega) (by omega)
    refine ⟨st', ?_, fun i h1 h2 => ?_, fun i hi => ?_, fun i hi => by rw [e4 i hi, sI_n hi]⟩
    · rw [fX8_plain_2, if_neg (show ¬ (109 : Int32) ≤ nI k from nple (a := 109) (by omega) (by decide)), zin (by omega) (by omega), zcl (by omega), og_t, ol_e, ol_e, zinc]
      exact e1
    · by_cases q : i = k
      · rw [q, e3 k (by omega), sI_r, if_pos rfl]
      · exact e2 i (by omega) h2
    · rw [e3 i (by omega), sI_r, if_neg (by omega)]
/-- the plain row -/
def aP (i : Nat) : Nat := if i = 6 then 24 else if i = 27 then 1 else 0
theorem qplain (st : uSt) : ∃ st', fX8_plain st = some ((), st') ∧ (∀ i, i < 109 → st'.1 2 i = nI (aP i)) ∧ ∀ i, i ≠ 2 → st'.1 i = st.1 i := by
  obtain ⟨S, e1, e2, -, e4⟩ := plain_l (fun st_4 => ol (sI st_4 2 6 (24 : Int32)) (fun st_5 => ol (sI st_5 2 27 (1 : Int32)) (fun st_6 => some ((), st_6)))) 109 0 FU st (by omega) (FU_lt (by omega))
  refine ⟨sI (sI S 2 6 24) 2 27 1, ?_, fun i hi => ?_, fun i hi => by rw [sI_n hi, sI_n hi, e4 i hi]⟩
  · rw [fX8_plain]
    refine e1.trans ?_
    rw [ol_e, ol_e]
  · rw [sI_r, sI_r]
    unfold aP
    by_cases q1 : i = 27
    · subst q1; rfl
    · rw [if_neg q1]
      by_cases q2 : i = 6
      · subst q2; rfl
      · rw [if_neg q2, if_neg q2, if_neg q1, e2 i (by omega) hi]; rfl
theorem qtakesRow (st : uSt) : ∃ st', fX8_takes st = some ((), st') ∧ (∀ i, i < 109 → st'.1 1 i = st.1 2 i) ∧ (∀ j, j < 2 → st'.1 5 j = 0) ∧ ∀ i, i ≠ 1 → i ≠ 5 → st'.1 i = st.1 i := by
  obtain ⟨S, e1, e2, e3⟩ := l_takes (fun st_4 => ol (sI st_4 5 0 (0 : Int32)) (fun st_5 => ol (sI st_5 5 1 (0 : Int32)) (fun st_6 => some ((), st_6)))) 109 0 FU st (by omega) (FU_lt (by omega))
  refine ⟨sI (sI S 5 0 0) 5 1 0, ?_, fun i hi => by rw [sI_n (by decide), sI_n (by decide), e2 i hi, if_pos (by omega)], fun j hj => ?_, fun i h1 h5 => by rw [sI_n h5, sI_n h5, e3 i h1]⟩
  · rw [fX8_takes]
    refine e1.trans ?_
    rw [ol_e, ol_e]
  · rw [sI_r, sI_r]
    rcases (show j = 0 ∨ j = 1 by omega) with rfl | rfl <;> rfl
def a0 (i : Nat) : Nat := if i = 0 then 100 else if i = 1 then 100 else if i = 2 then 10 else if i = 3 then 1 else if i = 4 then 100 else aP i
theorem start_R : ∃ s9, fX8_init stM0 = some ((), s9) ∧ RR 0 stC0 s9 := by
  obtain ⟨S1, e1, e2, e3⟩ := qplain stM0
  obtain ⟨S2, f1, f2, f3, f4⟩ := qtakesRow (sI (sI (sI (sI (sI S1 2 0 100) 2 1 100) 2 2 10) 2 3 1) 2 4 100)
  have r2 : ∀ i, i < 109 → (sI (sI (sI (sI (sI S1 2 0 100) 2 1 100) 2 2 10) 2 3 1) 2 4 100).1 2 i = nI (a0 i) := by
    intro i hi
    rw [sI_r, sI_r, sI_r, sI_r, sI_r, e2 i hi]
    unfold a0
    by_cases q4 : i = 4
    · subst q4; rfl
    by_cases q3 : i = 3
    · subst q3; rfl
    by_cases q2 : i = 2
    · subst q2; rfl
    by_cases q1 : i = 1
    · subst q1; rfl
    by_cases q0 : i = 0
    · subst q0; rfl
    · rw [if_neg q4, if_neg q3, if_neg q2, if_neg q1, if_neg q0, if_neg q0, if_neg q1, if_neg q2, if_neg q3, if_neg q4]
  have F : ∀ i, i ≠ 1 → i ≠ 2 → i ≠ 5 → S2.1 i = stM0.1 i := fun i h1 h2 h5 => by rw [f4 i h1 h5, sI_n h2, sI_n h2, sI_n h2, sI_n h2, sI_n h2, e3 i h2]
  refine ⟨S2, ?_, ⟨a0, 0, fun _ _ => 0, ?_, ⟨fun j hj => ?_, ?_, fun k hk => absurd hk (by omega)⟩, ?_⟩, fun j hj => ?_, ⟨0, by omega, rfl, ?_, fun k hk => absurd hk (by omega)⟩, ?_, ?_, ?_⟩
  · rw [fX8_init, e1, obV_st, ol_e, ol_e, ol_e, ol_e, ol_e, f1, obV_st]
  · refine ⟨⟨rfl, rfl, rfl, rfl, rfl, rfl⟩, ⟨rfl, rfl, rfl, rfl⟩, ⟨rfl, fun i hi => absurd hi (Nat.not_lt_zero i), fun i hi => ?_⟩, ⟨rfl, fun k hk => absurd hk (Nat.not_lt_zero k)⟩, fun j hj => ?_, rfl, rfl⟩
    · rcases (show i = 0 ∨ i = 1 ∨ i = 2 ∨ i = 3 ∨ i = 4 by omega) with rfl | rfl | rfl | rfl | rfl <;> rfl
    · rcases (show j = 0 ∨ j = 1 ∨ j = 2 ∨ j = 3 ∨ j = 4 ∨ j = 5 ∨ j = 6 by omega) with rfl | rfl | rfl | rfl | rfl | rfl | rfl <;> rfl
  · rw [f2 j (by omega), r2 j (by omega)]
  · rw [f2 36 (by decide), r2 36 (by decide)]; rfl
  · exact ⟨by decide, ⟨by decide, by decide, by decide, by decide, by decide, by decide, by decide, by decide, by decide, by decide, by decide, by decide, by decide, by decide⟩, ⟨by decide, by decide, fun i hi => absurd hi (Nat.not_lt_zero i)⟩, by decide, fun k hk => absurd hk (by omega), fun k hk => absurd hk (by omega)⟩
  · rw [f3 j hj]
    rcases (show j = 0 ∨ j = 1 by omega) with rfl | rfl
    · exact ⟨rfl, Or.inl rfl⟩
    · exact ⟨rfl, Or.inl rfl⟩
  · rw [F 0 (by decide) (by decide) (by decide)]; rfl
  · rw [F 0 (by decide) (by decide) (by decide)]; rfl
  · rw [F 0 (by decide) (by decide) (by decide)]; rfl
  · refine ⟨rfl, rfl, rfl, fun j hj => ?_, fun j hj => ?_, rfl⟩
    · rcases (show j = 0 ∨ j = 1 ∨ j = 2 ∨ j = 3 ∨ j = 4 ∨ j = 5 ∨ j = 6 by omega) with rfl | rfl | rfl | rfl | rfl | rfl | rfl <;> rfl
    · rcases (show j = 0 ∨ j = 1 ∨ j = 2 ∨ j = 3 ∨ j = 4 by omega) with rfl | rfl | rfl | rfl | rfl <;> rfl
end Q35
