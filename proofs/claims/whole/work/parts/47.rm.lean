/-! PURE PART 18: blocks go -/
section Q18
variable {m : Nat} {C M st : uSt} {a : Nat → Nat} {n : Nat} {w : Nat → Nat → Nat}
def pNo (p : Nat → Bool) : Nat → Bool := fun k => !(p k)
theorem cn_mono (p : Nat → Bool) {t k : Nat} (h : t ≤ k) : cn p t ≤ cn p k ∧ cn p k - cn p t ≤ k - t := by
  induction k with
  | zero => obtain rfl : t = 0 := by omega
            exact ⟨Nat.le_refl _, by omega⟩
  | succ k ih =>
    by_cases q : t = k + 1
    · subst q; exact ⟨Nat.le_refl _, by omega⟩
    · have := ih (by omega)
      rw [cn]
      split <;> omega
theorem cn_no (p : Nat → Bool) : ∀ k, cn (pNo p) k + cn p k = k
  | 0 => rfl
  | k + 1 => by
    have := cn_no p k
    rw [cn, cn]
    unfold pNo at *
    cases p k <;> simp <;> omega
/-- the j-th of a set below n -/
def sel (q : Nat → Bool) : Nat → Nat → Nat
  | 0, _ => 0
  | n + 1, j => if q n = true ∧ cn q n = j then n else sel q n j
theorem sel_ok (q : Nat → Bool) : ∀ n j, j < cn q n → ∃ k, k < n ∧ q k = true ∧ cn q k = j ∧ sel q n j = k := by
  intro n
  induction n with
  | zero => intro j h; exact absurd h (Nat.not_lt_zero _)
  | succ n ih =>
    intro j h
    rw [cn] at h
    by_cases e : q n = true ∧ cn q n = j
    · exact ⟨n, by omega, e.1, e.2, by rw [sel, if_pos e]⟩
    · have : j < cn q n := by
        by_cases e1 : q n = true
        · rw [if_pos e1] at h
          have : cn q n ≠ j := fun e2 => e ⟨e1, e2⟩
          omega
        · rw [if_neg e1] at h; omega
      obtain ⟨k, h1, h2, h3, h4⟩ := ih j this
      exact ⟨k, by omega, h2, h3, by rw [sel, if_neg e]; exact h4⟩
def wSel (q : Nat → Bool) (n : Nat) (w : Nat → Nat → Nat) : Nat → Nat → Nat := fun i j => w i (sel q n j)
theorem inc_all (h : ∀ k, k + 1 < n → w 0 k < w 0 (k + 1)) : ∀ j k, k < j → j < n → w 0 k < w 0 j := by
  intro j
  induction j with
  | zero => intro k hk; omega
  | succ j ih =>
    intro k hk hj
    have := h j hj
    by_cases q : k = j
    · subst q; exact this
    · have := ih k (by omega) (by omega)
      omega
theorem oB_sel (q : Nat → Bool) (h : oB n a w) : oB (cn q n) a (wSel q n w) := by
  obtain ⟨h1, h2, h3⟩ := h
  refine ⟨Nat.le_trans (cn_le q n) h1, fun k hk => ?_, fun k hk => ?_⟩
  · obtain ⟨j, e1, e2, e3, e4⟩ := sel_ok q n k hk
    unfold wSel
    rw [e4]
    exact h2 j e1
  · obtain ⟨j, e1, e2, e3, e4⟩ := sel_ok q n k (by omega)
    obtain ⟨j', f1, f2, f3, f4⟩ := sel_ok q n (k + 1) hk
    unfold wSel
    rw [e4, f4]
    refine inc_all h3 j' j ?_ f1
    rcases Nat.lt_or_ge j j' with h | h
    · exact h
    · have := (cn_mono q h).1
      omega
/-- the class: what a removal leaves -/
def cVal (f : Nat → Nat → Int32) (c : Nat) (w : Nat → Nat → Nat) (j k : Nat) : Prop := f (c + 1) j = nI (w 0 k / 100) ∧ f (c + 2) j = nI (w 0 k % 100) ∧ f (c + 3) j = nI (w 1 k) ∧ f (c + 4) j = nI (w 2 k)
theorem rm_l {c : Nat} (s : Int32) (p : Nat → Bool) (hn : n ≤ 24) (hs : ∀ k, k < n → hb s k = p k) (ke : uSt → Int32 → Option (Unit × uSt)) : ∀ j k fu (st : uSt), k + j = n → st.1 c 0 = nI n → j < fu → (∀ i, i < k → p i = false → cVal st.1 c w (cn (pNo p) i) i) → (∀ i, k ≤ i → i < n → cVal st.1 c w i i) → ∃ st', fX1_removeSet_4 c s ke fu st (nI (cn (pNo p) k)) (nI k) = ke st' (nI (cn (pNo p) n)) ∧ (∀ i, i < n → p i = false → cVal st'.1 c w (cn (pNo p) i) i) ∧ ∀ i, i ≤ c ∨ c + 5 ≤ i → st'.1 i = st.1 i := by
  intro j
  induction j with
  | zero =>
    intro k fu st hk h0 hf h1 h2
    obtain ⟨fu, rfl⟩ : ∃ x, fu = x + 1 := ⟨fu - 1, by omega⟩
    obtain rfl : k = n := by omega
    exact ⟨st, by rw [fX1_removeSet_4, h0, if_pos (Int32.le_refl _)], h1, fun _ _ => rfl⟩
  | succ j ih =>
    intro k fu st hk h0 hf h1 h2
    obtain ⟨fu, rfl⟩ : ∃ x, fu = x + 1 := ⟨fu - 1, by omega⟩
    have cl := cn_le (pNo p) k
    have e0 : cn (pNo p) (k + 1) = cn (pNo p) k + (if pNo p k then 1 else 0) := rfl
    rw [fX1_removeSet_4, h0, if_neg (nI_ge (by omega) (by omega)), zhas s (by omega), hs k (by omega)]
    by_cases q : p k = true
    · have e1 : pNo p k = false := by unfold pNo; rw [q]; rfl
      rw [e1] at e0
      simp only [q, if_true, one0, if_false, ol, zinc]
      have e0 : cn (pNo p) (k + 1) = cn (pNo p) k := by rw [e0]; rfl
      rw [← e0]
      refine ih (k + 1) fu st (by omega) h0 (by omega) (fun i hi hp => ?_) (fun i hi hn' => h2 i (by omega) hn')
      by_cases qi : i = k
      · subst qi; rw [q] at hp; exact absurd hp (by decide)
      · exact h1 i (by omega) hp
    · have qf : p k = false := by simpa using q
      have e1 : pNo p k = true := by unfold pNo; rw [qf]; rfl
      rw [e1] at e0
      have e0 : cn (pNo p) (k + 1) = cn (pNo p) k + 1 := by rw [e0]; rfl
      simp only [qf, if_false, if_true, Bool.false_eq_true, ol]
      obtain ⟨S, f0, f1, f2⟩ := cpBlock (st := st) (c := c) (c2 := c) (k := cn (pNo p) k) (k2 := k) (by omega) (by omega)
      have f1 := f1 (by omega)
      rw [f0]
      simp only [obV, zinc]
      rw [← e0]
      have A1 : ∀ i, i < k + 1 → p i = false → cVal S.1 c w (cn (pNo p) i) i := by
        intro i hi hp
        unfold cVal
        obtain ⟨x1, x2, x3, x4⟩ := f1 (cn (pNo p) i)
        rw [x1, x2, x3, x4]
        by_cases qi : i = k
        · subst qi
          rw [if_pos rfl, if_pos rfl, if_pos rfl, if_pos rfl]
          exact h2 i (Nat.le_refl _) (by omega)
        · have : cn (pNo p) (i + 1) = cn (pNo p) i + 1 := by
            have e : cn (pNo p) (i + 1) = cn (pNo p) i + (if pNo p i then 1 else 0) := rfl
            rw [e]; unfold pNo; rw [hp]; rfl
          have := (cn_mono (pNo p) (show i + 1 ≤ k by omega)).1
          rw [if_neg (by omega), if_neg (by omega), if_neg (by omega), if_neg (by omega)]
          exact h1 i (by omega) hp
      have A2 : ∀ i, k + 1 ≤ i → i < n → cVal S.1 c w i i := by
        intro i hi hn'
        unfold cVal
        obtain ⟨x1, x2, x3, x4⟩ := f1 i
        rw [x1, x2, x3, x4, if_neg (by omega), if_neg (by omega), if_neg (by omega), if_neg (by omega)]
        exact h2 i (by omega) hn'
      obtain ⟨st', g1, g2, g3⟩ := ih (k + 1) fu S (by omega) (by rw [f2 c (by omega)]; exact h0) (by omega) A1 A2
      exact ⟨st', g1, g2, fun i hi => by rw [g3 i hi, f2 i hi]⟩
theorem qrm {c : Nat} (s : Int32) (p : Nat → Bool) (hc : cCa st.1 c n w) (hn : n ≤ 24) (hs : ∀ k, k < n → hb s k = p k) : ∃ st', fX1_removeSet c s st = some ((), st') ∧ st'.1 c 0 = nI (cn (pNo p) n) ∧ (∀ i, i < n → p i = false → cVal st'.1 c w (cn (pNo p) i) i) ∧ ∀ i, i < c ∨ c + 5 ≤ i → st'.1 i = st.1 i := by
  obtain ⟨S, e1, e2, e3⟩ := rm_l (w := w) s p hn hs (fun st_8 l2_7 => ol (sI st_8 c 0 l2_7) (fun st_9 => some ((), st_9))) n 0 FU st (by omega) hc.1 (FU_lt (by omega)) (fun i hi => absurd hi (by omega)) (fun i _ hi => hc.2 i hi)
  refine ⟨sI S c 0 (nI (cn (pNo p) n)), ?_, by rw [sI_r, if_pos rfl], fun i hi hp => ?_, fun i hi => by rw [sI_n (by omega), e3 i (by omega)]⟩
  · rw [fX1_removeSet]
    exact e1
  · unfold cVal
    rw [sI_n (by omega), sI_n (by omega), sI_n (by omega), sI_n (by omega)]
    exact e2 i hi hp
theorem qrm_sel {c : Nat} (s : Int32) (p : Nat → Bool) (hc : cCa st.1 c n w) (hn : n ≤ 24) (hs : ∀ k, k < n → hb s k = p k) : ∃ st', fX1_removeSet c s st = some ((), st') ∧ cCa st'.1 c (cn (pNo p) n) (wSel (pNo p) n w) ∧ ∀ i, i < c ∨ c + 5 ≤ i → st'.1 i = st.1 i := by
  obtain ⟨st', e1, e2, e3, e4⟩ := qrm s p hc hn hs
  refine ⟨st', e1, ⟨e2, fun j hj => ?_⟩, e4⟩
  obtain ⟨k, f1, f2, f3, f4⟩ := sel_ok (pNo p) n j hj
  have := e3 k f1 (by unfold pNo at f2; simpa using f2)
  rw [f3] at this
  unfold wSel
  rw [f4]
  exact this
/-! the reference -/
def wDel (b : Nat) (w : Nat → Nat → Nat) : Nat → Nat → Nat := fun i k => if k < b then w i k else w i (k + 1)
theorem goes_l {N : Nat} (hN : N < 24) (ke : uSt → Option (Unit × uSt)) : ∀ j l fu (st : uSt), l + j = 37 + 3 * N → 37 ≤ l → st.1 1 36 = nI N → j < fu → ∃ st', fX8_goes_18 ke fu st (nI l) = ke st' ∧ (∀ i, st'.1 1 i = if l ≤ i ∧ i < 37 + 3 * N then st.1 1 (i + 3) else st.1 1 i) ∧ ∀ i, i ≠ 1 → st'.1 i = st.1 i := by
  intro j
  induction j with
  | zero =>
    intro l fu st hl h37 h0 hf
    obtain ⟨fu, rfl⟩ : ∃ x, fu = x + 1 := ⟨fu - 1, by omega⟩
    refine ⟨st, ?_, fun i => by rw [if_neg (by omega)], fun _ _ => rfl⟩
    rw [fX8_goes_18, h0, show (37 : Int32) + (3 : Int32) * nI N = nI (37 + 3 * N) by rw [show (37 : Int32) = nI 37 from rfl, show (3 : Int32) = nI 3 from rfl, zmul, zadd], if_pos (ple (by omega) (by omega))]
  | succ j ih =>
    intro l fu st hl h37 h0 hf
    obtain ⟨fu, rfl⟩ : ∃ x, fu = x + 1 := ⟨fu - 1, by omega⟩
    obtain ⟨st', e1, e2, e3⟩ := ih (l + 1) fu (sI st 1 l (st.1 1 (l + 3))) (by omega) (by omega) (by rw [sI_r, if_neg (by omega)]; exact h0) (by omega)
    refine ⟨st', ?_, fun i => ?_, fun i hi => by rw [e3 i hi, sI_n hi]⟩
    · rw [fX8_goes_18, h0, show (37 : Int32) + (3 : Int32) * nI N = nI (37 + 3 * N) by rw [show (37 : Int32) = nI 37 from rfl, show (3 : Int32) = nI 3 from rfl, zmul, zadd], if_neg (nple (by omega) (by omega)), show nI l + (3 : Int32) = nI (l + 3) from zadd l 3, zin (by omega) (by omega), zin (by omega) (by omega), zcl (by omega), zcl (by omega)]
      simp only [og, ol, zinc]
      exact e1
    · rw [e2 i, sI_r, sI_r]
      by_cases q : i = l
      · rw [if_neg (by omega), if_pos q, if_pos (by omega), q]
      · by_cases q2 : l ≤ i ∧ i < 37 + 3 * N
        · rw [if_pos (by omega), if_neg (by omega), if_pos q2]
        · rw [if_neg (by omega), if_neg q, if_neg q2]
theorem qgoes {b : Nat} (hg : gR (st.1 1) a n w) (hn : n ≤ 24) (hb : b < n) : ∃ st', fX8_goes (nI b) st = some ((), st') ∧ gR (st'.1 1) a (n - 1) (wDel b w) ∧ ∀ i, i ≠ 1 → st'.1 i = st.1 i := by
  have h36 : st.1 1 36 - 1 = nI (n - 1) := by rw [hg.2.1]; exact zsub (b := 1) (by omega)
  obtain ⟨st', e1, e2, e3⟩ := goes_l (N := n - 1) (by omega) (fun st_5 => some ((), st_5)) (37 + 3 * (n - 1) - (37 + 3 * b)) (37 + 3 * b) FU (sI st 1 36 (nI (n - 1))) (by omega) (by omega) (by rw [sI_r, if_pos rfl]) (FU_lt (by omega))
  refine ⟨st', ?_, ⟨fun j hj => ?_, ?_, fun k hk i hi => ?_⟩, fun i hi => by rw [e3 i hi, sI_n hi]⟩
  · rw [fX8_goes, h36]
    simp only [ol]
    rw [show (37 : Int32) + (3 : Int32) * nI b = nI (37 + 3 * b) by rw [show (37 : Int32) = nI 37 from rfl, show (3 : Int32) = nI 3 from rfl, zmul, zadd]]
    exact e1
  · rw [e2, if_neg (by omega), sI_r, if_neg (by omega)]; exact hg.1 j hj
  · rw [e2, if_neg (by omega), sI_r, if_pos rfl]
  · rw [e2]
    unfold wDel
    by_cases q : k < b
    · rw [if_neg (by omega), if_pos q, sI_r, if_neg (by omega)]
      exact hg.2.2 k (by omega) i hi
    · rw [if_pos (by omega), if_neg q, sI_r, if_neg (by omega), show 37 + 3 * k + i + 3 = 37 + 3 * (k + 1) + i by omega]
      exact hg.2.2 (k + 1) (by omega) i hi
theorem go_l (s : Int32) (p : Nat → Bool) (hn : n ≤ 24) (hs : ∀ k, k < n → hb s k = p k) (ke : uSt → Option (Unit × uSt)) : ∀ t fu (st : uSt) (W : Nat → Nat → Nat) l, t ≤ n → l + 1 = nI t → t < fu → gR (st.1 1) a (n - (cn p n - cn p t)) W → (∀ i, i < t → ∀ x, W x i = w x i) → (∀ k, t ≤ k → k < n → p k = false → ∀ x, W x (k - (cn p k - cn p t)) = w x k) → ∃ st' W', fX8_allGo_10 s ke fu st l = ke st' ∧ gR (st'.1 1) a (n - cn p n) W' ∧ (∀ k, k < n → p k = false → ∀ x, W' x (k - cn p k) = w x k) ∧ ∀ i, i ≠ 1 → st'.1 i = st.1 i := by
  intro t
  induction t with
  | zero =>
    intro fu st W l ht hl hf hg h1 h2
    obtain ⟨fu, rfl⟩ : ∃ x, fu = x + 1 := ⟨fu - 1, by omega⟩
    have el : l = -1 := by
      have : l + 1 + -1 = nI 0 + -1 := by rw [hl]
      rw [Int32.add_assoc, show (1 : Int32) + -1 = 0 by decide, Int32.add_zero] at this
      rw [this]; decide
    subst el
    refine ⟨st, W, ?_, hg, fun k hk hp x => h2 k (by omega) hk hp x, fun _ _ => rfl⟩
    rw [fX8_allGo_10, if_pos (by decide)]
  | succ t ih =>
    intro fu st W l ht hl hf hg h1 h2
    obtain ⟨fu, rfl⟩ : ∃ x, fu = x + 1 := ⟨fu - 1, by omega⟩
    have el : l = nI t := by
      have : l + 1 + -1 = nI (t + 1) + -1 := by rw [hl]
      rw [Int32.add_assoc, show (1 : Int32) + -1 = 0 by decide, Int32.add_zero, zdec] at this
      exact this
    subst el
    have hl2 : nI t + -1 + 1 = nI t := by rw [Int32.add_assoc, show (-1 : Int32) + 1 = 0 by decide, Int32.add_zero]
    have m1 := cn_mono p (show t + 1 ≤ n by omega)
    have ec : cn p (t + 1) = cn p t + (if p t then 1 else 0) := rfl
    rw [fX8_allGo_10, if_neg (nlt0 (by omega)), qhas s (by omega), hs t (by omega)]
    by_cases q : p t = true
    · have ec : cn p (t + 1) = cn p t + 1 := by rw [ec, if_pos q]
      have m2 := cn_mono p (show t ≤ n by omega)
      obtain ⟨S, g1, g2, g3⟩ := qgoes (b := t) hg (by omega) (by omega)
      simp only [q, if_true, ob, one0, if_false, ol]
      rw [g1]
      simp only [obV]
      obtain ⟨st', W', f1, f2, f3, f4⟩ := ih fu S (wDel t W) (nI t + -1) (by omega) hl2 (by omega) (by rw [show n - (cn p n - cn p t) = n - (cn p n - cn p (t + 1)) - 1 by omega]; exact g2) (fun i hi x => by unfold wDel; rw [if_pos hi]; exact h1 i (by omega) x) (fun k hk hk2 hp x => by
        have hkt : k ≠ t := fun e => by rw [e, q] at hp; exact absurd hp (by decide)
        have m3 := cn_mono p (show t + 1 ≤ k by omega)
        unfold wDel
        rw [if_neg (by omega), show k - (cn p k - cn p t) + 1 = k - (cn p k - cn p (t + 1)) by omega]
        exact h2 k (by omega) hk2 hp x)
      exact ⟨st', W', f1, f2, f3, fun i hi => by rw [f4 i hi, g3 i hi]⟩
    · have qf : p t = false := by simpa using q
      have ec : cn p (t + 1) = cn p t := by rw [ec, if_neg q]; rfl
      simp only [qf, if_true, ob, if_false, ol, Bool.false_eq_true]
      refine ih fu st W (nI t + -1) (by omega) hl2 (by omega) (by rw [← ec]; exact hg) (fun i hi x => h1 i (by omega) x) (fun k hk hk2 hp x => ?_)
      by_cases qk : k = t
      · subst qk
        rw [Nat.sub_self, Nat.sub_zero]
        exact h1 k (by omega) x
      · rw [← ec]
        exact h2 k (by omega) hk2 hp x
theorem qallGo (s : Int32) (p : Nat → Bool) (hg : gR (st.1 1) a n w) (hn : n ≤ 24) (hs : ∀ k, k < n → hb s k = p k) : ∃ st', fX8_allGo s st = some ((), st') ∧ gR (st'.1 1) a (cn (pNo p) n) (wSel (pNo p) n w) ∧ ∀ i, i ≠ 1 → st'.1 i = st.1 i := by
  obtain ⟨st', W', e1, e2, e3, e4⟩ := go_l (a := a) (w := w) s p hn hs (fun st_6 => some ((), st_6)) n FU st w (st.1 1 36 - 1) (Nat.le_refl _) (by rw [hg.2.1, Int32.sub_add_cancel]) (FU_lt (by omega)) (by rw [Nat.sub_self, Nat.sub_zero]; exact hg) (fun _ _ _ => rfl) (fun k hk hk2 => absurd hk2 (by omega))
  have hcn := cn_no p n
  refine ⟨st', ?_, ⟨e2.1, by rw [show cn (pNo p) n = n - cn p n by omega]; exact e2.2.1, fun j hj i hi => ?_⟩, e4⟩
  · rw [fX8_allGo]
    exact e1
  · obtain ⟨k, f1, f2, f3, f4⟩ := sel_ok (pNo p) n j hj
    rw [e2.2.2 j (by omega) i hi]
    unfold wSel
    have := cn_no p k
    rw [f4, ← e3 k f1 (by unfold pNo at f2; simpa using f2) i, show k - cn p k = j by omega]
end Q18
