/-! PURE PART 2: what both sides hold, in numbers: a row a (0 to 35), n dirty blocks, w 0 their places, w 1 their values, w 2 since when. -/
def gR (r : Nat → Int32) (a : Nat → Nat) (n : Nat) (w : Nat → Nat → Nat) : Prop := (∀ j, j < 36 → r j = nI (a j)) ∧ r 36 = nI n ∧ ∀ k, k < n → ∀ i, i < 3 → r (37 + 3 * k + i) = nI (w i k)
def cBt (f : Nat → Nat → Int32) (b : Nat) (a : Nat → Nat) : Prop := f b 0 = nI (a 0) ∧ f b 1 = nI (a 1) ∧ f b 2 = nI (a 2) ∧ f b 3 = nI (a 3) ∧ f b 4 = nI (a 4) ∧ f b 5 = nI (a 28)
def cRu (f : Nat → Nat → Int32) (q : Nat) (a : Nat → Nat) : Prop := f q 0 = nI (a 5) ∧ f q 1 = nI (a 6) ∧ f q 2 = nI (a 7) ∧ f q 3 = nI (a 8)
def cDv (f : Nat → Nat → Int32) (d : Nat) (a : Nat → Nat) : Prop := f d 0 = nI (a 9) ∧ (∀ i, i < a 9 → f (d + 1) i = nI (a (10 + 3 * i)) ∧ f (d + 2) i = nI (a (10 + 3 * i + 1)) ∧ f (d + 3) i = nI (a (10 + 3 * i + 2))) ∧ ∀ i, i < 5 → f (d + 4) i = if (a 25).testBit i then nI 1 else nI 0
def cCa (f : Nat → Nat → Int32) (c : Nat) (n : Nat) (w : Nat → Nat → Nat) : Prop := f c 0 = nI n ∧ ∀ k, k < n → f (c + 1) k = nI (w 0 k / 100) ∧ f (c + 2) k = nI (w 0 k % 100) ∧ f (c + 3) k = nI (w 1 k) ∧ f (c + 4) k = nI (w 2 k)
def cTt (f : Nat → Nat → Int32) (t : Nat) (a : Nat → Nat) : Prop := ∀ j, j < 7 → f t j = nI (a (29 + j))
def cS (f : Nat → Nat → Int32) (s : Nat) (a : Nat → Nat) (n : Nat) (w : Nat → Nat → Nat) : Prop := cBt f (s + 1) a ∧ cRu f (s + 2) a ∧ cDv f (s + 3) a ∧ cCa f (s + 8) n w ∧ cTt f (s + 13) a ∧ f s 5 = nI (a 26) ∧ f s 6 = nI (a 27)
def oB (n : Nat) (a : Nat → Nat) (w : Nat → Nat → Nat) : Prop := n ≤ 24 ∧ (∀ k, k < n → w 0 k < 100 * a 9 ∧ 1 ≤ w 1 k ∧ w 1 k ≤ 99) ∧ ∀ k, k + 1 < n → w 0 k < w 0 (k + 1)
def oD (a : Nat → Nat) : Prop := a 9 ≤ 5 ∧ a 25 < 32 ∧ ∀ i, i < a 9 → a (10 + 3 * i) ≤ 200 ∧ a (10 + 3 * i + 1) ≤ 50 ∧ 1 ≤ a (10 + 3 * i + 2) ∧ a (10 + 3 * i + 2) ≤ 50
def oS (m : Nat) (a : Nat → Nat) : Prop := 1 ≤ a 0 ∧ a 0 ≤ 500 ∧ a 1 ≤ a 0 ∧ a 2 ≤ 50 ∧ 1 ≤ a 3 ∧ a 3 ≤ 50 ∧ 1 ≤ a 4 ∧ a 4 ≤ 1000 ∧ a 5 ≤ 200 ∧ a 6 ≤ 24 ∧ a 7 ≤ 2 ∧ a 8 ≤ 99 ∧ a 27 ≤ 1 ∧ a 28 ≤ 500 * m
def oK (m : Nat) (a : Nat → Nat) (n : Nat) (w : Nat → Nat → Nat) : Prop := m ≤ 512 ∧ oS m a ∧ oD a ∧ oB n a w
/-! sums -/
def vU (w : Nat → Nat → Nat) (p : Nat → Bool) : Nat → Nat
  | 0 => 0
  | k + 1 => vU w p k + (if p k then w 1 k else 0)
/-- the last chosen block below, plus 1; 0: none -/
def lS (p : Nat → Bool) : Nat → Nat
  | 0 => 0
  | k + 1 => if p k then k + 1 else lS p k
def eC (a : Nat → Nat) (w : Nat → Nat → Nat) (l k : Nat) : Nat :=
  (if l = 0 ∨ w 0 (l - 1) / 100 ≠ w 0 k / 100 then a (10 + 3 * (w 0 k / 100)) + a (10 + 3 * (w 0 k / 100) + 1) else if w 0 (l - 1) + 1 = w 0 k then 0 else a (10 + 3 * (w 0 k / 100) + 1)) + a (10 + 3 * (w 0 k / 100) + 2)
def eS (a : Nat → Nat) (w : Nat → Nat → Nat) (p : Nat → Bool) : Nat → Nat
  | 0 => 0
  | k + 1 => eS a w p k + (if p k then eC a w (lS p k) k else 0)
/-- the number of a set -/
def bS (p : Nat → Bool) : Nat → Nat
  | 0 => 0
  | k + 1 => bS p k + (if p k then 2 ^ k else 0)
theorem bS_lt (p : Nat → Bool) : ∀ n, bS p n < 2 ^ n
  | 0 => Nat.one_pos
  | n + 1 => by
    have := bS_lt p n
    rw [bS, Nat.pow_succ]
    split <;> omega
theorem bS_lt24 (p : Nat → Bool) {n : Nat} (h : n ≤ 24) : bS p n < 16777216 := Nat.lt_of_lt_of_le (bS_lt p n) (Nat.pow_le_pow_right (by decide) h)
theorem or_pow {x k : Nat} (h : x < 2 ^ k) : x ||| 2 ^ k = x + 2 ^ k := by
  have e := Nat.two_pow_add_eq_or_of_lt h 1
  rw [Nat.mul_one] at e
  rw [Nat.or_comm, ← e, Nat.add_comm]
theorem bS_or (p : Nat → Bool) {k : Nat} (h : k < 31) : nI (bS p k) ||| ((1 : Int32) <<< (nI k &&& 31)) = nI (bS p k + 2 ^ k) := by
  rw [zbit h, zor, or_pow (bS_lt p k)]
theorem bS_bit (p : Nat → Bool) : ∀ (n k : Nat), (bS p n).testBit k = (decide (k < n) && p k) := by
  intro n
  induction n with
  | zero => intro k; simp [bS]
  | succ n ih =>
    intro k
    have hl := bS_lt p n
    rw [bS]
    by_cases hp : p n = true
    · simp only [hp, if_true]
      rw [← or_pow hl, Nat.testBit_or, ih, Nat.testBit_two_pow]
      by_cases hk : k = n
      · subst hk; simp [hp]
      · have hk' : ¬ n = k := fun h => hk h.symm
        simp only [hk', decide_false, Bool.or_false]
        have : decide (k < n + 1) = decide (k < n) := by simp; omega
        rw [this]
    · simp only [hp, if_false, Bool.false_eq_true]
      rw [Nat.add_zero, ih]
      by_cases hk : k = n
      · subst hk; simp [hp]
      · have : decide (k < n + 1) = decide (k < n) := by simp; omega
        rw [this]
theorem bS_hb (p : Nat → Bool) {n k : Nat} (hk : k < n) (hn : n ≤ 24) : hb (nI (bS p n)) k = p k := by
  rw [hb_nI (by omega), bS_bit]
  simp [hk]
theorem vU_ext {w : Nat → Nat → Nat} {p q : Nat → Bool} : ∀ n, (∀ k, k < n → p k = q k) → vU w p n = vU w q n
  | 0, _ => rfl
  | n + 1, h => by rw [vU, vU, vU_ext n (fun k hk => h k (by omega)), h n (by omega)]
theorem lS_ext {p q : Nat → Bool} : ∀ n, (∀ k, k < n → p k = q k) → lS p n = lS q n
  | 0, _ => rfl
  | n + 1, h => by rw [lS, lS, lS_ext n (fun k hk => h k (by omega)), h n (by omega)]
theorem eS_ext {a : Nat → Nat} {w : Nat → Nat → Nat} {p q : Nat → Bool} : ∀ n, (∀ k, k < n → p k = q k) → eS a w p n = eS a w q n
  | 0, _ => rfl
  | n + 1, h => by rw [eS, eS, eS_ext n (fun k hk => h k (by omega)), h n (by omega), lS_ext n (fun k hk => h k (by omega))]
theorem lS_le (p : Nat → Bool) : ∀ n, lS p n ≤ n
  | 0 => Nat.le_refl _
  | n + 1 => by
    rw [lS]
    have := lS_le p n
    split <;> omega
section Q1
variable {st : uSt} {c d n : Nat} {w : Nat → Nat → Nat} {a : Nat → Nat}
theorem qX1_valueIn_4 (hc : cCa st.1 c n w) (hn : n ≤ 24) (s : Int32) (ke : Int32 → Option Int32) : ∀ m k fu, k + m = n → m < fu → fX1_valueIn_4 c s st ke fu (nI (vU w (hb s) k)) (nI k) = ke (nI (vU w (hb s) n)) := by
  intro m
  induction m with
  | zero =>
    intro k fu hk hf
    obtain ⟨fu, rfl⟩ : ∃ x, fu = x + 1 := ⟨fu - 1, by omega⟩
    obtain rfl : k = n := by omega
    rw [fX1_valueIn_4, hc.1, if_pos (Int32.le_refl _)]
  | succ m ih =>
    intro k fu hk hf
    obtain ⟨fu, rfl⟩ : ∃ x, fu = x + 1 := ⟨fu - 1, by omega⟩
    obtain ⟨h1, h2, h3, h4⟩ := hc.2 k (by omega)
    have e := ih (k + 1) fu (by omega) (by omega)
    rw [vU] at e
    rw [fX1_valueIn_4, hc.1, if_neg (nI_ge (by omega) (by omega)), zhas s (by omega)]
    by_cases q : hb s k = true
    · simp (disch := omega) only [q, if_true, ol, og, zin, zcl, h3, zinc, zadd] at e ⊢
      rw [if_neg (by decide)]
      exact e
    · simp (disch := omega) only [q, if_false, ol, Nat.add_zero, zinc, if_true] at e ⊢
      exact e
end Q1
