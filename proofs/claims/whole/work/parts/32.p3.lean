/-! PURE PART 3: the questions that both sides ask of their blocks -/
theorem FU_lt {m : Nat} (h : m < 5000) : m < FU := h
theorem qhas (s : Int32) {k : Nat} (h : k < 32) : fX8_has s (nI k) = some (if hb s k then 1 else 0) := by
  rw [fX8_has, zhas s h]
  by_cases q : hb s k = true
  · simp only [q, if_true]
  · simp only [q, if_false]
    rfl
section Q2
variable {st : uSt} {c d n : Nat} {w : Nat → Nat → Nat} {a : Nat → Nat}
theorem qX1_valueIn (hc : cCa st.1 c n w) (hn : n ≤ 24) (s : Int32) : fX1_valueIn c s st = some (nI (vU w (hb s) n)) := qX1_valueIn_4 hc hn s _ n 0 FU (by omega) (FU_lt (by omega))
theorem qof (hm : gR (st.1 1) a n w) (hn : n ≤ 24) {k i : Nat} (hk : k < n) (hi : i < 3) : fX8_of (nI k) (nI i) st = some (nI (w i k)) := by
  have e := hm.2.2 k hk i hi
  simp (disch := omega) only [fX8_of, lit, zmul, zadd, zin, zcl, og, e]
theorem qof0 (hm : gR (st.1 1) a n w) (hn : n ≤ 24) {k : Nat} (hk : k < n) : fX8_of (nI k) 0 st = some (nI (w 0 k)) := qof hm hn hk (i := 0) (by decide)
theorem qof1 (hm : gR (st.1 1) a n w) (hn : n ≤ 24) {k : Nat} (hk : k < n) : fX8_of (nI k) 1 st = some (nI (w 1 k)) := qof hm hn hk (i := 1) (by decide)
theorem qof2 (hm : gR (st.1 1) a n w) (hn : n ≤ 24) {k : Nat} (hk : k < n) : fX8_of (nI k) 2 st = some (nI (w 2 k)) := qof hm hn hk (i := 2) (by decide)
theorem qdev (hm : gR (st.1 1) a n w) (hn : n ≤ 24) (hp : ∀ k, k < n → w 0 k < 500) {k : Nat} (hk : k < n) : fX8_deviceOf (nI k) st = some (nI (w 0 k / 100)) := by
  have := hp k hk
  rw [fX8_deviceOf, qof0 hm hn hk]
  simp (disch := omega) only [ob, lit, zdiv]
theorem qfail (hm : gR (st.1 1) a n w) {i : Nat} (hi : i < 32) : fX8_hasFailed (nI i) st = some (if (a 25).testBit i then 1 else 0) := by
  rw [fX8_hasFailed, hm.1 25 (by decide), qhas _ hi, hb_nI hi]
  cases (a 25).testBit i <;> rfl
theorem qX8_valueIn_4 (hm : gR (st.1 1) a n w) (hn : n ≤ 24) (s : Int32) (ke : Int32 → Option Int32) : ∀ m k fu, k + m = n → m < fu → fX8_valueIn_4 s st ke fu (nI (vU w (hb s) k)) (nI k) = ke (nI (vU w (hb s) n)) := by
  intro m
  induction m with
  | zero =>
    intro k fu hk hf
    obtain ⟨fu, rfl⟩ : ∃ x, fu = x + 1 := ⟨fu - 1, by omega⟩
    obtain rfl : k = n := by omega
    rw [fX8_valueIn_4, hm.2.1, if_pos (Int32.le_refl _)]
  | succ m ih =>
    intro k fu hk hf
    obtain ⟨fu, rfl⟩ : ∃ x, fu = x + 1 := ⟨fu - 1, by omega⟩
    have e := ih (k + 1) fu (by omega) (by omega)
    rw [vU] at e
    rw [fX8_valueIn_4, hm.2.1, if_neg (nI_ge (by omega) (by omega)), qhas s (by omega)]
    by_cases q : hb s k = true
    · simp only [q, if_true, ob, oj1, ol, zinc] at e ⊢
      rw [if_neg (by decide), qof1 hm hn (by omega)]
      simp only [zadd]
      exact e
    · simp only [q, if_false, ob, oj1, ol, zinc, Nat.add_zero, if_true] at e ⊢
      rw [Int32.add_zero]
      exact e
theorem qX8_valueIn (hm : gR (st.1 1) a n w) (hn : n ≤ 24) (s : Int32) : fX8_valueIn s st = some (nI (vU w (hb s) n)) := qX8_valueIn_4 hm hn s _ n 0 FU (by omega) (FU_lt (by omega))
/-- the blocks on a device -/
def onD (w : Nat → Nat → Nat) (i : Nat) : Nat → Bool := fun k => decide (w 0 k / 100 = i)
theorem qX1_blocksOn_4 (hc : cCa st.1 c n w) (hn : n ≤ 24) (hp : ∀ k, k < n → w 0 k < 500) {i : Nat} (hi : i < 2147483648) (ke : Int32 → Option Int32) : ∀ m k fu, k + m = n → m < fu → fX1_blocksOn_4 c (nI i) st ke fu (nI (bS (onD w i) k)) (nI k) = ke (nI (bS (onD w i) n)) := by
  intro m
  induction m with
  | zero =>
    intro k fu hk hf
    obtain ⟨fu, rfl⟩ : ∃ x, fu = x + 1 := ⟨fu - 1, by omega⟩
    obtain rfl : k = n := by omega
    rw [fX1_blocksOn_4, hc.1, if_pos (Int32.le_refl _)]
  | succ m ih =>
    intro k fu hk hf
    obtain ⟨fu, rfl⟩ : ∃ x, fu = x + 1 := ⟨fu - 1, by omega⟩
    obtain ⟨h1, h2, h3, h4⟩ := hc.2 k (by omega)
    have h0 := hp k (by omega)
    have e := ih (k + 1) fu (by omega) (by omega)
    rw [bS] at e
    rw [fX1_blocksOn_4, hc.1, if_neg (nI_ge (by omega) (by omega)), zin (by omega) (by omega), zcl (by omega), h1, bS_or _ (by omega)]
    simp (disch := omega) only [zeq]
    by_cases q : w 0 k / 100 = i
    · simp only [onD, q, decide_true, if_true, og, ol, zinc] at e ⊢
      exact e
    · simp only [onD, q, decide_false, if_false, og, ol, zinc, Nat.add_zero, Bool.false_eq_true] at e ⊢
      exact e
theorem qX1_blocksOn (hc : cCa st.1 c n w) (hn : n ≤ 24) (hp : ∀ k, k < n → w 0 k < 500) {i : Nat} (hi : i < 2147483648) : fX1_blocksOn c (nI i) st = some (nI (bS (onD w i) n)) := qX1_blocksOn_4 hc hn hp hi _ n 0 FU (by omega) (FU_lt (by omega))
theorem qX8_setOf_4 (hm : gR (st.1 1) a n w) (hn : n ≤ 24) (hp : ∀ k, k < n → w 0 k < 500) {i : Nat} (hi : i < 2147483648) (ke : Int32 → Option Int32) : ∀ m k fu, k + m = n → m < fu → fX8_setOf_4 (nI i) st ke fu (nI (bS (onD w i) k)) (nI k) = ke (nI (bS (onD w i) n)) := by
  intro m
  induction m with
  | zero =>
    intro k fu hk hf
    obtain ⟨fu, rfl⟩ : ∃ x, fu = x + 1 := ⟨fu - 1, by omega⟩
    obtain rfl : k = n := by omega
    rw [fX8_setOf_4, hm.2.1, if_pos (Int32.le_refl _)]
  | succ m ih =>
    intro k fu hk hf
    obtain ⟨fu, rfl⟩ : ∃ x, fu = x + 1 := ⟨fu - 1, by omega⟩
    have h0 := hp k (by omega)
    have e := ih (k + 1) fu (by omega) (by omega)
    rw [bS] at e
    rw [fX8_setOf_4, hm.2.1, if_neg (nI_ge (by omega) (by omega)), qdev hm hn hp (by omega)]
    simp only [ob, oj1, ol, bS_or _ (show k < 31 by omega), zinc]
    simp (disch := omega) only [zeq]
    by_cases q : w 0 k / 100 = i
    · simp only [onD, q, decide_true, if_true] at e ⊢
      exact e
    · simp only [onD, q, decide_false, if_false, Nat.add_zero, Bool.false_eq_true] at e ⊢
      rw [Int32.or_zero]
      exact e
theorem qX8_setOf (hm : gR (st.1 1) a n w) (hn : n ≤ 24) (hp : ∀ k, k < n → w 0 k < 500) {i : Nat} (hi : i < 2147483648) : fX8_setOf (nI i) st = some (nI (bS (onD w i) n)) := qX8_setOf_4 hm hn hp hi _ n 0 FU (by omega) (FU_lt (by omega))
/-- the blocks whose device has not failed -/
def usD (F : Nat) (w : Nat → Nat → Nat) : Nat → Bool := fun k => !(F.testBit (w 0 k / 100))
theorem qX6_usable_4 {s : Nat} (hd : cDv st.1 (s + 3) a) (hc : cCa st.1 (s + 8) n w) (hn : n ≤ 24) (hp : ∀ k, k < n → w 0 k < 500) (ke : Int32 → Option Int32) : ∀ m k fu, k + m = n → m < fu → fX6_usableBlocks_4 s st ke fu (nI (bS (usD (a 25) w) k)) (nI k) = ke (nI (bS (usD (a 25) w) n)) := by
  intro m
  induction m with
  | zero =>
    intro k fu hk hf
    obtain ⟨fu, rfl⟩ : ∃ x, fu = x + 1 := ⟨fu - 1, by omega⟩
    obtain rfl : k = n := by omega
    rw [fX6_usableBlocks_4, hc.1, if_pos (Int32.le_refl _)]
  | succ m ih =>
    intro k fu hk hf
    obtain ⟨fu, rfl⟩ : ∃ x, fu = x + 1 := ⟨fu - 1, by omega⟩
    obtain ⟨h1, h2, h3, h4⟩ := hc.2 k (by omega)
    have h0 := hp k (by omega)
    have hf5 := hd.2.2 (w 0 k / 100) (by omega)
    have e := ih (k + 1) fu (by omega) (by omega)
    rw [bS] at e
    rw [fX6_usableBlocks_4, hc.1, if_neg (nI_ge (by omega) (by omega)), zin (by omega) (by omega), zcl (by omega), h1, zin (by omega) (by omega), zcl (by omega), hf5, bS_or _ (by omega)]
    by_cases q : (a 25).testBit (w 0 k / 100) = true
    · simp only [usD, q, Bool.not_true, if_true, if_false, og, ol, zinc, Nat.add_zero, Bool.false_eq_true] at e ⊢
      rw [if_neg (by decide)]
      exact e
    · simp only [usD, q, Bool.not_false, if_true, if_false, og, ol, zinc] at e ⊢
      exact e
theorem qX6_usable {s : Nat} (hd : cDv st.1 (s + 3) a) (hc : cCa st.1 (s + 8) n w) (hn : n ≤ 24) (hp : ∀ k, k < n → w 0 k < 500) : fX6_usableBlocks s st = some (nI (bS (usD (a 25) w) n)) := qX6_usable_4 hd hc hn hp _ n 0 FU (by omega) (FU_lt (by omega))
theorem qX8_possible_4 (hm : gR (st.1 1) a n w) (hn : n ≤ 24) (hp : ∀ k, k < n → w 0 k < 500) (ke : Int32 → Option Int32) : ∀ m k fu, k + m = n → m < fu → fX8_possible_4 st ke fu (nI (bS (usD (a 25) w) k)) (nI k) = ke (nI (bS (usD (a 25) w) n)) := by
  intro m
  induction m with
  | zero =>
    intro k fu hk hf
    obtain ⟨fu, rfl⟩ : ∃ x, fu = x + 1 := ⟨fu - 1, by omega⟩
    obtain rfl : k = n := by omega
    rw [fX8_possible_4, hm.2.1, if_pos (Int32.le_refl _)]
  | succ m ih =>
    intro k fu hk hf
    obtain ⟨fu, rfl⟩ : ∃ x, fu = x + 1 := ⟨fu - 1, by omega⟩
    have h0 := hp k (by omega)
    have e := ih (k + 1) fu (by omega) (by omega)
    rw [bS] at e
    rw [fX8_possible_4, hm.2.1, if_neg (nI_ge (by omega) (by omega)), qdev hm hn hp (by omega)]
    simp only [ob]
    rw [qfail hm (by omega)]
    simp only [ob, oj1, ol, bS_or _ (show k < 31 by omega), zinc]
    by_cases q : (a 25).testBit (w 0 k / 100) = true
    · simp only [usD, q, Bool.not_true, if_true, if_false, Nat.add_zero, Bool.false_eq_true] at e ⊢
      rw [if_neg (by decide), Int32.or_zero]
      exact e
    · simp only [usD, q, Bool.not_false, if_true, if_false] at e ⊢
      exact e
theorem qX8_possible (hm : gR (st.1 1) a n w) (hn : n ≤ 24) (hp : ∀ k, k < n → w 0 k < 500) : fX8_possible st = some (nI (bS (usD (a 25) w) n)) := qX8_possible_4 hm hn hp _ n 0 FU (by omega) (FU_lt (by omega))
/-- the first block of a place, from k on; -1: none -/
def ixF (w : Nat → Nat → Nat) (pl : Nat) : Nat → Nat → Int32
  | 0, _ => -1
  | m + 1, k => if w 0 k = pl then nI k else ixF w pl m (k + 1)
theorem ixF_or (w : Nat → Nat → Nat) (pl : Nat) : ∀ m k, (∃ j, k ≤ j ∧ j < k + m ∧ ixF w pl m k = nI j ∧ w 0 j = pl ∧ ∀ i, k ≤ i → i < j → w 0 i ≠ pl) ∨ (ixF w pl m k = -1 ∧ ∀ i, k ≤ i → i < k + m → w 0 i ≠ pl) := by
  intro m
  induction m with
  | zero => intro k; exact Or.inr ⟨rfl, fun i h1 h2 => absurd h2 (by omega)⟩
  | succ m ih =>
    intro k
    rw [ixF]
    by_cases q : w 0 k = pl
    · rw [if_pos q]
      exact Or.inl ⟨k, Nat.le_refl _, by omega, rfl, q, fun i h1 h2 => absurd h2 (by omega)⟩
    · rw [if_neg q]
      rcases ih (k + 1) with ⟨j, h1, h2, h3, h4, h5⟩ | ⟨h1, h2⟩
      · refine Or.inl ⟨j, by omega, by omega, h3, h4, fun i h6 h7 => ?_⟩
        by_cases hi : i = k
        · subst hi; exact q
        · exact h5 i (by omega) h7
      · refine Or.inr ⟨h1, fun i h6 h7 => ?_⟩
        by_cases hi : i = k
        · subst hi; exact q
        · exact h2 i (by omega) (by omega)
theorem qX1_indexOf_2 (hc : cCa st.1 c n w) (hn : n ≤ 24) (hp : ∀ k, k < n → w 0 k < 500) {i x : Nat} (hi : i < 5) (hx : x < 100) : ∀ m k fu, k + m = n → m < fu → fX1_indexOf_2 c (nI i) (nI x) st (some (-1)) fu (nI k) = some (ixF w (100 * i + x) m k) := by
  intro m
  induction m with
  | zero =>
    intro k fu hk hf
    obtain ⟨fu, rfl⟩ : ∃ x, fu = x + 1 := ⟨fu - 1, by omega⟩
    obtain rfl : k = n := by omega
    rw [fX1_indexOf_2, hc.1, if_pos (Int32.le_refl _)]
    rfl
  | succ m ih =>
    intro k fu hk hf
    obtain ⟨fu, rfl⟩ : ∃ x, fu = x + 1 := ⟨fu - 1, by omega⟩
    obtain ⟨h1, h2, h3, h4⟩ := hc.2 k (by omega)
    have h0 := hp k (by omega)
    have e := ih (k + 1) fu (by omega) (by omega)
    rw [fX1_indexOf_2, hc.1, if_neg (nI_ge (by omega) (by omega)), zin (by omega) (by omega), zcl (by omega), h1, h2, ixF]
    simp (disch := omega) only [og, ol, zinc, e, zeq]
    by_cases q : w 0 k = 100 * i + x
    · rw [if_pos (by omega), if_pos (by omega), if_pos q]
    · rw [if_neg q]
      by_cases q1 : w 0 k / 100 = i
      · rw [if_pos q1, if_neg (by omega)]
      · rw [if_neg q1]
theorem qX1_indexOf (hc : cCa st.1 c n w) (hn : n ≤ 24) (hp : ∀ k, k < n → w 0 k < 500) {i x : Nat} (hi : i < 5) (hx : x < 100) : fX1_indexOf c (nI i) (nI x) st = some (ixF w (100 * i + x) n 0) := qX1_indexOf_2 hc hn hp hi hx n 0 FU (by omega) (FU_lt (by omega))
theorem qX8_blockAt_2 (hm : gR (st.1 1) a n w) (hn : n ≤ 24) (hp : ∀ k, k < n → w 0 k < 500) {i x : Nat} (hi : i < 5) (hx : x < 100) : ∀ m k fu, k + m = n → m < fu → fX8_blockAt_2 (nI i) (nI x) st (some (-1)) fu (nI k) = some (ixF w (100 * i + x) m k) := by
  intro m
  induction m with
  | zero =>
    intro k fu hk hf
    obtain ⟨fu, rfl⟩ : ∃ x, fu = x + 1 := ⟨fu - 1, by omega⟩
    obtain rfl : k = n := by omega
    rw [fX8_blockAt_2, hm.2.1, if_pos (Int32.le_refl _)]
    rfl
  | succ m ih =>
    intro k fu hk hf
    obtain ⟨fu, rfl⟩ : ∃ x, fu = x + 1 := ⟨fu - 1, by omega⟩
    have h0 := hp k (by omega)
    have e := ih (k + 1) fu (by omega) (by omega)
    rw [fX8_blockAt_2, hm.2.1, if_neg (nI_ge (by omega) (by omega)), qof0 hm hn (by omega), ixF, show ((100 : Int32) * nI i) + nI x = nI (100 * i + x) by rw [lit, zmul, zadd]]
    simp (disch := omega) only [ob, ol, zinc, e, zeq]
    by_cases q : w 0 k = 100 * i + x
    · rw [if_pos q, if_pos q]
    · rw [if_neg q, if_neg q]
theorem qX8_blockAt (hm : gR (st.1 1) a n w) (hn : n ≤ 24) (hp : ∀ k, k < n → w 0 k < 500) {i x : Nat} (hi : i < 5) (hx : x < 100) : fX8_blockAt (nI i) (nI x) st = some (ixF w (100 * i + x) n 0) := qX8_blockAt_2 hm hn hp hi hx n 0 FU (by omega) (FU_lt (by omega))
end Q2
