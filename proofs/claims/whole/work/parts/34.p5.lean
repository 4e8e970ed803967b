/-! PURE PART 5: changes of a row; the battery -/
theorem sI_r {st : uSt} {i k j : Nat} {v : Int32} : (sI st i k v).1 i j = if j = k then v else st.1 i j := by
  rw [sI_s]; rfl
theorem sI_n {st : uSt} {i k i' : Nat} {v : Int32} (h : i' ≠ i) : (sI st i k v).1 i' = st.1 i' := (sI_o i' h).1
def ua (a : Nat → Nat) (j v : Nat) : Nat → Nat := fun i => if i = j then v else a i
theorem gR_sI {st : uSt} {a : Nat → Nat} {n j v : Nat} {w : Nat → Nat → Nat} {x : Int32} (h : gR (st.1 1) a n w) (hj : j < 36) (hv : x = nI v) : gR ((sI st 1 j x).1 1) (ua a j v) n w := by
  refine ⟨fun i hi => ?_, ?_, fun k hk i hi => ?_⟩
  · rw [sI_r]
    unfold ua
    by_cases q : i = j
    · rw [if_pos q, if_pos q, hv]
    · rw [if_neg q, if_neg q, h.1 i hi]
  · rw [sI_r, if_neg (by omega)]
    exact h.2.1
  · rw [sI_r, if_neg (by omega)]
    exact h.2.2 k hk i hi
theorem gR_ext {r : Nat → Int32} {a a' : Nat → Nat} {n : Nat} {w : Nat → Nat → Nat} (h : gR r a n w) (e : ∀ j, j < 36 → a j = a' j) : gR r a' n w := ⟨fun j hj => by rw [h.1 j hj, e j hj], h.2⟩
theorem zsubI {a b : Nat} (ha : a < 1073741824) (hb : b < 1073741824) : (nI a - nI b).toInt = (a : Int) - b := by
  rw [Int32.toInt_sub, zI (by omega), zI (by omega), Int.bmod_eq_of_le (by omega) (by omega)]
/-- the battery spends e -/
def spc (a : Nat → Nat) (e : Nat) : Nat := if (a 28 + e) / a 4 - a 28 / a 4 < a 0 then a 0 - ((a 28 + e) / a 4 - a 28 / a 4) else 1
def spd (a : Nat → Nat) (e : Nat) : Nat → Nat := fun j => if j = 0 then spc a e else if j = 1 then (if spc a e < a 1 - e then spc a e else a 1 - e) else if j = 28 then a 28 + e else a j
theorem spc_range {a : Nat → Nat} {e : Nat} (h : 1 ≤ a 0) : 1 ≤ spc a e ∧ spc a e ≤ a 0 := by
  unfold spc
  split <;> omega
theorem spc_val {a : Nat → Nat} {e : Nat} (h0 : a 0 ≤ 500) (h28 : a 28 ≤ 300000) (he : e ≤ 500) (h1 : 1 ≤ a 4) (h4 : a 4 ≤ 1000) : ((1 : Int32) < nI (a 0) - (nI ((a 28 + e) / a 4) - nI (a 28 / a 4)) ∧ nI (a 0) - (nI ((a 28 + e) / a 4) - nI (a 28 / a 4)) = nI (spc a e)) ∨ (¬ (1 : Int32) < nI (a 0) - (nI ((a 28 + e) / a 4) - nI (a 28 / a 4)) ∧ spc a e = 1 ∧ (nI (a 0) - (nI ((a 28 + e) / a 4) - nI (a 28 / a 4)) = 1 ∨ ¬ (1 : Int32) ≤ nI (a 0) - (nI ((a 28 + e) / a 4) - nI (a 28 / a 4)))) := by
  have hm : a 28 / a 4 ≤ (a 28 + e) / a 4 := Nat.div_le_div_right (by omega)
  have hb : (a 28 + e) / a 4 ≤ a 28 + e := Nat.div_le_self _ _
  have hx : (a 28 + e) / a 4 - a 28 / a 4 ≤ 300500 := Nat.le_trans (Nat.sub_le _ _) (Nat.le_trans hb (by omega))
  unfold spc
  rw [zsub hm]
  generalize (a 28 + e) / a 4 - a 28 / a 4 = x at hx ⊢
  by_cases q : x < a 0
  · rw [if_pos q, zsub (by omega)]
    by_cases q2 : a 0 - x = 1
    · right
      refine ⟨?_, q2, Or.inl (by rw [q2]; rfl)⟩
      rw [q2, lit, zlt (by decide) (by decide)]
      decide
    · left
      refine ⟨?_, rfl⟩
      rw [lit, zlt (by decide) (by omega)]
      omega
  · rw [if_neg q]
    right
    have e1 : (nI (a 0) - nI x).toInt = (a 0 : Int) - x := zsubI (by omega) (by omega)
    refine ⟨?_, rfl, Or.inr ?_⟩
    · rw [Int32.lt_iff_toInt_lt, e1]
      show ¬ (1 : Int) < _
      omega
    · rw [Int32.le_iff_toInt_le, e1]
      show ¬ (1 : Int) ≤ _
      omega
theorem qworn {st : uSt} {b : Nat} {x y : Nat} (h4 : st.1 b 4 = nI x) (h5 : st.1 b 5 = nI y) (hx : 1 ≤ x) (hx2 : x < 2147483648) (hy : y < 2147483648) : fX0_wornTimes b st = some (nI (y / x)) := by
  rw [fX0_wornTimes, h4, h5, if_neg (nI_nle hx hx2), zdiv hy hx2, show nzB (nI x) = true from by unfold nzB; rw [decide_eq_true_eq, lit]; intro e; rw [zeq hx2 (by decide)] at e; omega]
  rfl
theorem qspend {st : uSt} {b e : Nat} {a : Nat → Nat} (h : cBt st.1 b a) (h0 : 1 ≤ a 0 ∧ a 0 ≤ 500) (h28 : a 28 ≤ 300000) (he : e ≤ a 1) (h1 : a 1 ≤ 500) (h4 : 1 ≤ a 4 ∧ a 4 ≤ 1000) : ∃ st', fX0_spend b (nI e) st = some ((), st') ∧ cBt st'.1 b (spd a e) ∧ ∀ i, i ≠ b → st'.1 i = st.1 i := by
  obtain ⟨c0, c1, c2, c3, c4, c5⟩ := h
  have hr := spc_range (a := a) (e := e) h0.1
  rw [fX0_spend, qworn c4 c5 h4.1 (by omega) (by omega)]
  simp only [ob, ol]
  rw [qworn (st := sI (sI st b 1 (st.1 b 1 - nI e)) b 5 ((sI st b 1 (st.1 b 1 - nI e)).1 b 5 + nI e)) (x := a 4) (y := a 28 + e) (by simp only [sI_r]; exact c4) (by simp only [sI_r]; simp only [if_true, Nat.reduceEqDiff, if_false, c5, zadd]) h4.1 (by omega) (by omega)]
  simp only [ob, ol, sI_r, c0, c1, c5, if_true, Nat.reduceEqDiff, if_false, zsub he]
  have key : (if (1 : Int32) < nI (a 0) - (nI ((a 28 + e) / a 4) - nI (a 28 / a 4)) then nI (a 0) - (nI ((a 28 + e) / a 4) - nI (a 28 / a 4)) else 1) = nI (spc a e) := by
    rcases spc_val (a := a) (e := e) h0.2 h28 (by omega) h4.1 h4.2 with ⟨q1, q2⟩ | ⟨q1, q2, -⟩
    · rw [if_pos q1, q2]
    · rw [if_neg q1, q2]; rfl
  refine ⟨_, rfl, ?_, fun i hi => ?_⟩
  · simp only [cBt, sI_r, if_true, Nat.reduceEqDiff, if_false, key, spd, c2, c3, c4, zadd, true_and, and_true, Nat.zero_ne_one, Nat.one_ne_zero]
    simp (disch := omega) only [zlt]
    split <;> rfl
  · simp only [sI_n hi]
theorem nz_nI {x : Nat} (h : 1 ≤ x) (hx : x < 2147483648) : nzB (nI x) = true := by
  unfold nzB
  rw [decide_eq_true_eq, lit]
  intro e
  rw [zeq hx (by decide)] at e
  omega
theorem qdrains {st : uSt} {e n : Nat} {a : Nat → Nat} {w : Nat → Nat → Nat} (h : gR (st.1 1) a n w) (h0 : 1 ≤ a 0 ∧ a 0 ≤ 500) (h28 : a 28 ≤ 300000) (he : e ≤ a 1) (h1 : a 1 ≤ 500) (h4 : 1 ≤ a 4 ∧ a 4 ≤ 1000) : ∃ st', fX8_drains (nI e) st = some ((), st') ∧ gR (st'.1 1) (spd a e) n w ∧ ∀ i, i ≠ 1 → st'.1 i = st.1 i := by
  have c0 := h.1 0 (by decide)
  have c1 := h.1 1 (by decide)
  have c4 := h.1 4 (by decide)
  have c28 := h.1 28 (by decide)
  have hr := spc_range (a := a) (e := e) h0.1
  simp (disch := omega) only [fX8_drains, ol, oj1, c4, c28, nz_nI, og, sI_r, if_true, Nat.reduceEqDiff, if_false, zadd, zsub, c0, c1, zdiv]
  have f1 := gR_sI (j := 1) (v := a 1 - e) h (by decide) (rfl : nI (a 1 - e) = _)
  have f2 := gR_sI (j := 28) (v := a 28 + e) f1 (by decide) (rfl : nI (a 28 + e) = _)
  have fin : ∀ S : uSt, gR (S.1 1) (ua (ua (ua a 1 (a 1 - e)) 28 (a 28 + e)) 0 (spc a e)) n w → (∀ i, i ≠ 1 → S.1 i = st.1 i) → ∃ st', (if S.1 1 1 ≤ S.1 1 0 then some ((), S) else some ((), sI S 1 1 (S.1 1 0))) = some ((), st') ∧ gR (st'.1 1) (spd a e) n w ∧ ∀ i, i ≠ 1 → st'.1 i = st.1 i := by
    intro S hS ho
    have g0 : S.1 1 0 = nI (spc a e) := hS.1 0 (by decide)
    have g1 : S.1 1 1 = nI (a 1 - e) := hS.1 1 (by decide)
    rw [g0, g1]
    by_cases q : a 1 - e ≤ spc a e
    · rw [if_pos (nI_le q (by omega))]
      refine ⟨S, rfl, gR_ext hS (fun j hj => ?_), ho⟩
      unfold spd ua
      by_cases j0 : j = 0
      · simp [j0]
      by_cases j1 : j = 1
      · subst j1
        rw [if_neg (by decide), if_neg (by decide), if_pos rfl, if_neg (by decide), if_pos rfl, if_neg (by omega)]
      by_cases j28 : j = 28
      · subst j28; rfl
      · simp [j0, j1, j28]
    · rw [if_neg (nI_ge (by omega) (by omega))]
      refine ⟨_, rfl, gR_ext (gR_sI (v := spc a e) hS (show 1 < 36 by decide) rfl) (fun j hj => ?_), fun i hi => by rw [sI_n hi]; exact ho i hi⟩
      unfold spd
      by_cases j0 : j = 0
      · subst j0; rfl
      by_cases j1 : j = 1
      · subst j1
        rw [if_neg (by decide), if_pos rfl, if_pos (by omega)]
        rfl
      by_cases j28 : j = 28
      · subst j28; rfl
      · simp [ua, j0, j1, j28]
  rcases spc_val (a := a) (e := e) h0.2 h28 (by omega) h4.1 h4.2 with ⟨q1, q2⟩ | ⟨q1, q2, q3⟩
  · rw [if_pos (Int32.le_of_lt q1), q2]
    exact fin _ (gR_sI (v := spc a e) f2 (show 0 < 36 by decide) rfl) (fun i hi => by rw [sI_n hi, sI_n hi, sI_n hi])
  · rcases q3 with q3 | q3
    · rw [if_pos (by rw [q3]; exact Int32.le_refl _), q3]
      exact fin _ (gR_sI (v := spc a e) f2 (show 0 < 36 by decide) (by rw [q2]; rfl)) (fun i hi => by rw [sI_n hi, sI_n hi, sI_n hi])
    · rw [if_neg q3]
      refine fin (sI (sI (sI (sI st 1 1 (nI (a 1 - e))) 1 28 (nI (a 28 + e))) 1 0 (nI (a 0) - (nI ((a 28 + e) / a 4) - nI (a 28 / a 4)))) 1 0 1) ?_ ?_
      rotate_left
      · intro i hi
        rw [sI_n hi, sI_n hi, sI_n hi, sI_n hi]
      obtain ⟨u, hu, eu⟩ := zbig (nI (a 0) - (nI ((a 28 + e) / a 4) - nI (a 28 / a 4)))
      exact gR_ext (gR_sI (v := spc a e) (gR_sI (v := u) f2 (show 0 < 36 by decide) eu) (show 0 < 36 by decide) (by rw [q2]; rfl)) (fun j hj => by unfold ua; by_cases j0 : j = 0 <;> simp [j0])
/-- what a minute without power drains -/
def mnD (a : Nat → Nat) : Nat := if a 1 < a 3 then a 1 else a 3
theorem mnD_le (a : Nat → Nat) : mnD a ≤ a 1 := by unfold mnD; split <;> omega
theorem qdrain {st : uSt} {b : Nat} {a : Nat → Nat} (h : cBt st.1 b a) (h0 : 1 ≤ a 0 ∧ a 0 ≤ 500) (h28 : a 28 ≤ 300000) (h1 : a 1 ≤ 500) (h3 : a 3 ≤ 50) (h4 : 1 ≤ a 4 ∧ a 4 ≤ 1000) : ∃ st', fX0_drainForMinute b st = some ((), st') ∧ cBt st'.1 b (spd a (mnD a)) ∧ ∀ i, i ≠ b → st'.1 i = st.1 i := by
  obtain ⟨st', e1, e2, e3⟩ := qspend h h0 h28 (mnD_le a) h1 h4
  refine ⟨st', ?_, e2, e3⟩
  have : (if st.1 b 1 < st.1 b 3 then st.1 b 1 else st.1 b 3) = nI (mnD a) := by
    rw [h.2.1, h.2.2.2.1]
    unfold mnD
    simp (disch := omega) only [zlt]
    split <;> rfl
  rw [fX0_drainForMinute, this, e1]
  rfl
theorem qminute {st : uSt} {n : Nat} {a : Nat → Nat} {w : Nat → Nat → Nat} (h : gR (st.1 1) a n w) (h0 : 1 ≤ a 0 ∧ a 0 ≤ 500) (h28 : a 28 ≤ 300000) (h1 : a 1 ≤ 500) (h3 : a 3 ≤ 50) (h4 : 1 ≤ a 4 ∧ a 4 ≤ 1000) : ∃ st', fX8_minuteWithout st = some ((), st') ∧ gR (st'.1 1) (spd a (mnD a)) n w ∧ ∀ i, i ≠ 1 → st'.1 i = st.1 i := by
  obtain ⟨st', e1, e2, e3⟩ := qdrains h h0 h28 (mnD_le a) h1 h4
  refine ⟨st', ?_, e2, e3⟩
  rw [fX8_minuteWithout, h.1 1 (by decide), h.1 3 (by decide)]
  simp (disch := omega) only [oj1, zle]
  by_cases q : a 1 ≤ a 3
  · rw [if_pos q]
    have : mnD a = a 1 := by unfold mnD; split <;> omega
    rw [this] at e1
    rw [e1]; rfl
  · rw [if_neg q]
    have : mnD a = a 3 := by unfold mnD; split <;> omega
    rw [this] at e1
    rw [e1]; rfl
