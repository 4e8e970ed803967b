/-! PURE PART 15: the reference's copies -/
theorem l_keeps (ke : uSt → Option (Unit × uSt)) : ∀ j k fu (st : uSt), k + j = 109 → j < fu → ∃ st', fX8_keeps_2 ke fu st (nI k) = ke st' ∧ (∀ i, i < 109 → st'.1 4 i = if k ≤ i then st.1 1 i else st.1 4 i) ∧ ∀ i, i ≠ 4 → st'.1 i = st.1 i := by
  intro j
  induction j with
  | zero =>
    intro k fu st hk hf
    obtain ⟨fu, rfl⟩ : ∃ x, fu = x + 1 := ⟨fu - 1, by omega⟩
    obtain rfl : k = 109 := by omega
    refine ⟨st, ?_, fun i hi => by rw [if_neg (by omega)], fun _ _ => rfl⟩
    rw [fX8_keeps_2, if_pos (show (109 : Int32) ≤ nI 109 from Int32.le_refl _)]
  | succ j ih =>
    intro k fu st hk hf
    obtain ⟨fu, rfl⟩ : ∃ x, fu = x + 1 := ⟨fu - 1, by omega⟩
    obtain ⟨st', e1, e2, e3⟩ := ih (k + 1) fu (sI st 4 k (st.1 1 k)) (by omega) (by omega)
    refine ⟨st', ?_, fun i hi => ?_, fun i hi => by rw [e3 i hi, sI_n hi]⟩
    · rw [fX8_keeps_2, if_neg (show ¬ (109 : Int32) ≤ nI k from nple (a := 109) (by omega) (by decide)), zin (by omega) (by omega), zcl (by omega)]
      simp only [og, ol, zinc]
      exact e1
    · rw [e2 i hi, sI_n (show 1 ≠ 4 by decide), sI_r]
      by_cases q : i = k
      · rw [if_neg (by omega), if_pos q, if_pos (by omega), q]
      · by_cases q2 : k ≤ i
        · rw [if_pos (by omega), if_pos q2]
        · rw [if_neg (by omega), if_neg q, if_neg q2]
theorem l_comesBack (ke : uSt → Option (Unit × uSt)) : ∀ j k fu (st : uSt), k + j = 109 → j < fu → ∃ st', fX8_comesBack_2 ke fu st (nI k) = ke st' ∧ (∀ i, i < 109 → st'.1 1 i = if k ≤ i then st.1 4 i else st.1 1 i) ∧ ∀ i, i ≠ 1 → st'.1 i = st.1 i := by
  intro j
  induction j with
  | zero =>
    intro k fu st hk hf
    obtain ⟨fu, rfl⟩ : ∃ x, fu = x + 1 := ⟨fu - 1, by omega⟩
    obtain rfl : k = 109 := by omega
    refine ⟨st, ?_, fun i hi => by rw [if_neg (by omega)], fun _ _ => rfl⟩
    rw [fX8_comesBack_2, if_pos (show (109 : Int32) ≤ nI 109 from Int32.le_refl _)]
  | succ j ih =>
    intro k fu st hk hf
    obtain ⟨fu, rfl⟩ : ∃ x, fu = x + 1 := ⟨fu - 1, by omega⟩
    obtain ⟨st', e1, e2, e3⟩ := ih (k + 1) fu (sI st 1 k (st.1 4 k)) (by omega) (by omega)
    refine ⟨st', ?_, fun i hi => ?_, fun i hi => by rw [e3 i hi, sI_n hi]⟩
    · rw [fX8_comesBack_2, if_neg (show ¬ (109 : Int32) ≤ nI k from nple (a := 109) (by omega) (by decide)), zin (by omega) (by omega), zcl (by omega)]
      simp only [og, ol, zinc]
      exact e1
    · rw [e2 i hi, sI_n (show 4 ≠ 1 by decide), sI_r]
      by_cases q : i = k
      · rw [if_neg (by omega), if_pos q, if_pos (by omega), q]
      · by_cases q2 : k ≤ i
        · rw [if_pos (by omega), if_pos q2]
        · rw [if_neg (by omega), if_neg q, if_neg q2]
theorem l_takes (ke : uSt → Option (Unit × uSt)) : ∀ j k fu (st : uSt), k + j = 109 → j < fu → ∃ st', fX8_takes_2 ke fu st (nI k) = ke st' ∧ (∀ i, i < 109 → st'.1 1 i = if k ≤ i then st.1 2 i else st.1 1 i) ∧ ∀ i, i ≠ 1 → st'.1 i = st.1 i := by
  intro j
  induction j with
  | zero =>
    intro k fu st hk hf
    obtain ⟨fu, rfl⟩ : ∃ x, fu = x + 1 := ⟨fu - 1, by omega⟩
    obtain rfl : k = 109 := by omega
    refine ⟨st, ?_, fun i hi => by rw [if_neg (by omega)], fun _ _ => rfl⟩
    rw [fX8_takes_2, if_pos (show (109 : Int32) ≤ nI 109 from Int32.le_refl _)]
  | succ j ih =>
    intro k fu st hk hf
    obtain ⟨fu, rfl⟩ : ∃ x, fu = x + 1 := ⟨fu - 1, by omega⟩
    obtain ⟨st', e1, e2, e3⟩ := ih (k + 1) fu (sI st 1 k (st.1 2 k)) (by omega) (by omega)
    refine ⟨st', ?_, fun i hi => ?_, fun i hi => by rw [e3 i hi, sI_n hi]⟩
    · rw [fX8_takes_2, if_neg (show ¬ (109 : Int32) ≤ nI k from nple (a := 109) (by omega) (by decide)), zin (by omega) (by omega), zcl (by omega)]
      simp only [og, ol, zinc]
      exact e1
    · rw [e2 i hi, sI_n (show 2 ≠ 1 by decide), sI_r]
      by_cases q : i = k
      · rw [if_neg (by omega), if_pos q, if_pos (by omega), q]
      · by_cases q2 : k ≤ i
        · rw [if_pos (by omega), if_pos q2]
        · rw [if_neg (by omega), if_neg q, if_neg q2]
theorem l_would20 {l1 l2 l3 : Int32} (ke : uSt → Option (Int32 × uSt)) : ∀ j k fu (st : uSt), k + j = 109 → j < fu → ∃ st', fX8_wouldCache_20 l1 l2 l3 ke fu st (nI k) = ke st' ∧ (∀ i, i < 109 → st'.1 4 i = if k ≤ i then st.1 1 i else st.1 4 i) ∧ ∀ i, i ≠ 4 → st'.1 i = st.1 i := by
  intro j
  induction j with
  | zero =>
    intro k fu st hk hf
    obtain ⟨fu, rfl⟩ : ∃ x, fu = x + 1 := ⟨fu - 1, by omega⟩
    obtain rfl : k = 109 := by omega
    refine ⟨st, ?_, fun i hi => by rw [if_neg (by omega)], fun _ _ => rfl⟩
    rw [fX8_wouldCache_20, if_pos (show (109 : Int32) ≤ nI 109 from Int32.le_refl _)]
  | succ j ih =>
    intro k fu st hk hf
    obtain ⟨fu, rfl⟩ : ∃ x, fu = x + 1 := ⟨fu - 1, by omega⟩
    obtain ⟨st', e1, e2, e3⟩ := ih (k + 1) fu (sI st 4 k (st.1 1 k)) (by omega) (by omega)
    refine ⟨st', ?_, fun i hi => ?_, fun i hi => by rw [e3 i hi, sI_n hi]⟩
    · rw [fX8_wouldCache_20, if_neg (show ¬ (109 : Int32) ≤ nI k from nple (a := 109) (by omega) (by decide)), zin (by omega) (by omega), zcl (by omega)]
      simp only [og, ol, zinc]
      exact e1
    · rw [e2 i hi, sI_n (show 1 ≠ 4 by decide), sI_r]
      by_cases q : i = k
      · rw [if_neg (by omega), if_pos q, if_pos (by omega), q]
      · by_cases q2 : k ≤ i
        · rw [if_pos (by omega), if_pos q2]
        · rw [if_neg (by omega), if_neg q, if_neg q2]
theorem l_would59 {l4 : Int32} (ke : uSt → Option (Int32 × uSt)) : ∀ j k fu (st : uSt), k + j = 109 → j < fu → ∃ st', fX8_wouldCache_59 l4 ke fu st (nI k) = ke st' ∧ (∀ i, i < 109 → st'.1 1 i = if k ≤ i then st.1 4 i else st.1 1 i) ∧ ∀ i, i ≠ 1 → st'.1 i = st.1 i := by
  intro j
  induction j with
  | zero =>
    intro k fu st hk hf
    obtain ⟨fu, rfl⟩ : ∃ x, fu = x + 1 := ⟨fu - 1, by omega⟩
    obtain rfl : k = 109 := by omega
    refine ⟨st, ?_, fun i hi => by rw [if_neg (by omega)], fun _ _ => rfl⟩
    rw [fX8_wouldCache_59, if_pos (show (109 : Int32) ≤ nI 109 from Int32.le_refl _)]
  | succ j ih =>
    intro k fu st hk hf
    obtain ⟨fu, rfl⟩ : ∃ x, fu = x + 1 := ⟨fu - 1, by omega⟩
    obtain ⟨st', e1, e2, e3⟩ := ih (k + 1) fu (sI st 1 k (st.1 4 k)) (by omega) (by omega)
    refine ⟨st', ?_, fun i hi => ?_, fun i hi => by rw [e3 i hi, sI_n hi]⟩
    · rw [fX8_wouldCache_59, if_neg (show ¬ (109 : Int32) ≤ nI k from nple (a := 109) (by omega) (by decide)), zin (by omega) (by omega), zcl (by omega)]
      simp only [og, ol, zinc]
      exact e1
    · rw [e2 i hi, sI_n (show 4 ≠ 1 by decide), sI_r]
      by_cases q : i = k
      · rw [if_neg (by omega), if_pos q, if_pos (by omega), q]
      · by_cases q2 : k ≤ i
        · rw [if_pos (by omega), if_pos q2]
        · rw [if_neg (by omega), if_neg q, if_neg q2]
theorem l_save {s : Nat} (hs : s < 2) (ke : uSt → Option (Unit × uSt)) : ∀ j k fu (st : uSt), k + j = 109 → j < fu → ∃ st', fX8_save_29 (nI s) ke fu st (nI k) = ke st' ∧ (∀ i, i < 109 → st'.1 3 (109 * s + i) = if k ≤ i then st.1 1 i else st.1 3 (109 * s + i)) ∧ (∀ i, (i < 109 * s ∨ 109 * s + 109 ≤ i) → st'.1 3 i = st.1 3 i) ∧ ∀ i, i ≠ 3 → st'.1 i = st.1 i := by
  intro j
  induction j with
  | zero =>
    intro k fu st hk hf
    obtain ⟨fu, rfl⟩ : ∃ x, fu = x + 1 := ⟨fu - 1, by omega⟩
    obtain rfl : k = 109 := by omega
    refine ⟨st, ?_, fun i hi => by rw [if_neg (by omega)], fun i _ => rfl, fun _ _ => rfl⟩
    rw [fX8_save_29, if_pos (show (109 : Int32) ≤ nI 109 from Int32.le_refl _)]
  | succ j ih =>
    intro k fu st hk hf
    obtain ⟨fu, rfl⟩ : ∃ x, fu = x + 1 := ⟨fu - 1, by omega⟩
    obtain ⟨st', e1, e2, e4, e3⟩ := ih (k + 1) fu (sI st 3 (109 * s + k) (st.1 1 (k))) (by omega) (by omega)
    refine ⟨st', ?_, fun i hi => ?_, fun i hi => ?_, fun i hi => by rw [e3 i hi, sI_n hi]⟩
    · rw [fX8_save_29, if_neg (show ¬ (109 : Int32) ≤ nI k from nple (a := 109) (by omega) (by decide)), show ((109 : Int32) * nI s) + nI k = nI (109 * s + k) by rw [show (109 : Int32) = nI 109 from rfl, zmul, zadd], zin (by omega) (by omega), zin (by omega) (by omega), zcl (by omega), zcl (by omega)]
      simp only [og, ol, zinc]
      exact e1
    · rw [e2 i hi, sI_n (show 1 ≠ 3 by decide), sI_r]
      by_cases q : i = k
      · rw [if_neg (by omega), if_pos (by omega), if_pos (by omega), q]
      · by_cases q2 : k ≤ i
        · rw [if_pos (by omega), if_pos q2]
        · rw [if_neg (by omega), if_neg (by omega), if_neg q2]
    · rw [e4 i hi, sI_r, if_neg (by omega)]
theorem l_restore {s : Nat} (hs : s < 2) (ke : uSt → Option (Unit × uSt)) : ∀ j k fu (st : uSt), k + j = 109 → j < fu → ∃ st', fX8_restore_36 (nI s) ke fu st (nI k) = ke st' ∧ (∀ i, i < 109 → st'.1 1 i = if k ≤ i then st.1 3 (109 * s + i) else st.1 1 i) ∧ True ∧ ∀ i, i ≠ 1 → st'.1 i = st.1 i := by
  intro j
  induction j with
  | zero =>
    intro k fu st hk hf
    obtain ⟨fu, rfl⟩ : ∃ x, fu = x + 1 := ⟨fu - 1, by omega⟩
    obtain rfl : k = 109 := by omega
    refine ⟨st, ?_, fun i hi => by rw [if_neg (by omega)], trivial, fun _ _ => rfl⟩
    rw [fX8_restore_36, if_pos (show (109 : Int32) ≤ nI 109 from Int32.le_refl _)]
  | succ j ih =>
    intro k fu st hk hf
    obtain ⟨fu, rfl⟩ : ∃ x, fu = x + 1 := ⟨fu - 1, by omega⟩
    obtain ⟨st', e1, e2, e4, e3⟩ := ih (k + 1) fu (sI st 1 (k) (st.1 3 (109 * s + k))) (by omega) (by omega)
    refine ⟨st', ?_, fun i hi => ?_, trivial, fun i hi => by rw [e3 i hi, sI_n hi]⟩
    · rw [fX8_restore_36, if_neg (show ¬ (109 : Int32) ≤ nI k from nple (a := 109) (by omega) (by decide)), show ((109 : Int32) * nI s) + nI k = nI (109 * s + k) by rw [show (109 : Int32) = nI 109 from rfl, zmul, zadd], zin (by omega) (by omega), zin (by omega) (by omega), zcl (by omega), zcl (by omega)]
      simp only [og, ol, zinc]
      exact e1
    · rw [e2 i hi, sI_n (show 3 ≠ 1 by decide), sI_r]
      by_cases q : i = k
      · rw [if_neg (by omega), if_pos q, if_pos (by omega), q]
      · by_cases q2 : k ≤ i
        · rw [if_pos (by omega), if_pos q2]
        · rw [if_neg (by omega), if_neg q, if_neg q2]
theorem qkeeps (st : uSt) : ∃ st', fX8_keeps st = some ((), st') ∧ (∀ i, i < 109 → st'.1 4 i = st.1 1 i) ∧ ∀ i, i ≠ 4 → st'.1 i = st.1 i := by
  obtain ⟨st', e1, e2, e3⟩ := l_keeps (fun st_4 => some ((), st_4)) 109 0 FU st (by omega) (FU_lt (by omega))
  refine ⟨st', ?_, fun i hi => by rw [e2 i hi, if_pos (by omega)], e3⟩
  rw [fX8_keeps]
  exact e1
theorem qcomesBack (st : uSt) : ∃ st', fX8_comesBack st = some ((), st') ∧ (∀ i, i < 109 → st'.1 1 i = st.1 4 i) ∧ ∀ i, i ≠ 1 → st'.1 i = st.1 i := by
  obtain ⟨st', e1, e2, e3⟩ := l_comesBack (fun st_4 => some ((), st_4)) 109 0 FU st (by omega) (FU_lt (by omega))
  refine ⟨st', ?_, fun i hi => by rw [e2 i hi, if_pos (by omega)], e3⟩
  rw [fX8_comesBack]
  exact e1
theorem gR_cp {r r' : Nat → Int32} {a : Nat → Nat} {n : Nat} {w : Nat → Nat → Nat} (h : gR r a n w) (hn : n ≤ 24) (e : ∀ i, i < 109 → r' i = r i) : gR r' a n w :=
  ⟨fun j hj => by rw [e j (by omega)]; exact h.1 j hj, by rw [e 36 (by decide)]; exact h.2.1, fun k hk i hi => by rw [e _ (by omega)]; exact h.2.2 k hk i hi⟩
