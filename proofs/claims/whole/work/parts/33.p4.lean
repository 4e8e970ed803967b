/-! PURE PART 4: energy; sets -/
def lI (l : Nat) : Int32 := if l = 0 then -1 else nI (l - 1)
theorem lI_0 : lI 0 = -1 := rfl
theorem lI_s (l : Nat) : lI (l + 1) = nI l := rfl
theorem zneg2 {a : Nat} (h : a < 2147483648) : (nI a = -nI 1) = False := zneg' h
section Q4
variable {st : uSt} {c d n : Nat} {w : Nat → Nat → Nat} {a : Nat → Nat}
theorem qX1_followed (hc : cCa st.1 c n w) (hn : n ≤ 24) (hp : ∀ k, k < n → w 0 k < 500) {i k : Nat} (hi : i < n) (hk : k < n) : fX1_isFollowedBy c (nI i) (nI k) st = some (if w 0 i / 100 = w 0 k / 100 ∧ w 0 i + 1 = w 0 k then 1 else 0) := by
  obtain ⟨h1, h2, -, -⟩ := hc.2 k hk
  obtain ⟨g1, g2, -, -⟩ := hc.2 i hi
  have b1 := hp k hk
  have b2 := hp i hi
  simp (disch := omega) only [fX1_isFollowedBy, zin, zcl, h1, h2, g1, g2, og, zinc, zeq]
  by_cases q : w 0 i / 100 = w 0 k / 100
  · simp only [q, if_true, true_and]
    by_cases q2 : w 0 i + 1 = w 0 k
    · rw [if_pos (by omega), if_pos q2]
    · rw [if_neg (by omega), if_neg q2]
  · simp only [q, if_false, false_and]
theorem qX2_energyIn_8 (hd : cDv st.1 d a) (hc : cCa st.1 c n w) (hO : oB n a w) (hD : oD a) (s : Int32) (ke : Int32 → Option Int32) : ∀ m k fu, k + m = n → m < fu → fX2_energyIn_8 d c s st ke fu (nI (eS a w (hb s) k)) (lI (lS (hb s) k)) (nI k) = ke (nI (eS a w (hb s) n)) := by
  have hn := hO.1
  have h9 := hD.1
  have hp : ∀ k, k < n → w 0 k < 500 := fun k hk => by have := (hO.2.1 k hk).1; omega
  intro m
  induction m with
  | zero =>
    intro k fu hk hf
    obtain ⟨fu, rfl⟩ : ∃ x, fu = x + 1 := ⟨fu - 1, by omega⟩
    obtain rfl : k = n := by omega
    rw [fX2_energyIn_8, hc.1, if_pos (Int32.le_refl _)]
  | succ m ih =>
    intro k fu hk hf
    obtain ⟨fu, rfl⟩ : ∃ x, fu = x + 1 := ⟨fu - 1, by omega⟩
    have hkn : k < n := by omega
    obtain ⟨h1, h2, h3, h4⟩ := hc.2 k hkn
    have b0 := hp k hkn
    have b1 := (hO.2.1 k hkn).1
    obtain ⟨d1, d2, d3⟩ := hd.2.1 (w 0 k / 100) (by omega)
    have e := ih (k + 1) fu (by omega) (by omega)
    rw [eS, lS] at e
    rw [fX2_energyIn_8, hc.1, if_neg (nI_ge (by omega) (by omega)), zhas s (by omega)]
    by_cases q : hb s k = true
    · simp only [q, if_true] at e ⊢
      rw [if_neg (by decide)]
      simp (disch := omega) only [og, ol, zin, zcl, h1, oj1, oj0, d1, d2, d3, zinc, zadd]
      rw [lI_s] at e
      have hl := lS_le (hb s) k
      generalize lS (hb s) k = l at e hl ⊢
      rcases l with _ | l
      · rw [lI_0, if_pos rfl]
        rw [eC, if_pos (Or.inl rfl)] at e
        simp only [Nat.add_assoc] at e ⊢
        exact e
      · rw [lI_s, if_neg (zneg (by omega))]
        obtain ⟨g1, g2, -, -⟩ := hc.2 l (by omega)
        have c0 := hp l (by omega)
        rw [qX1_followed hc hn hp (by omega) hkn]
        simp (disch := omega) only [og, ob, zin, zcl, g1, zeq]
        rw [eC] at e
        simp only [Nat.add_sub_cancel] at e
        by_cases q1 : w 0 l / 100 = w 0 k / 100
        · rw [if_neg (by omega)] at e
          rw [if_pos q1]
          by_cases q2 : w 0 l + 1 = w 0 k
          · rw [if_pos q2, Nat.zero_add] at e
            rw [if_neg (show ¬ (if w 0 l / 100 = w 0 k / 100 ∧ w 0 l + 1 = w 0 k then (1 : Int32) else 0) = 0 by rw [if_pos ⟨q1, q2⟩]; decide)]
            exact e
          · rw [if_neg q2] at e
            rw [if_pos (show (if w 0 l / 100 = w 0 k / 100 ∧ w 0 l + 1 = w 0 k then (1 : Int32) else 0) = 0 by rw [if_neg (fun h => q2 h.2)])]
            simp only [Nat.add_assoc] at e ⊢
            exact e
        · rw [if_pos (Or.inr q1)] at e
          rw [if_neg q1]
          simp only [Nat.add_assoc] at e ⊢
          exact e
    · simp only [q, if_false, ol, Nat.add_zero, zinc, if_true, Bool.false_eq_true] at e ⊢
      exact e
theorem qX2_energyIn (hd : cDv st.1 d a) (hc : cCa st.1 c n w) (hO : oB n a w) (hD : oD a) (s : Int32) : fX2_energyIn d c s st = some (nI (eS a w (hb s) n)) := qX2_energyIn_8 hd hc hO hD s _ n 0 FU (by omega) (FU_lt (by have := hO.1; omega))
theorem qX8_energyIn_7 (hm : gR (st.1 1) a n w) (hO : oB n a w) (hD : oD a) (s : Int32) (ke : Int32 → Option Int32) : ∀ m k fu, k + m = n → m < fu → fX8_energyIn_7 s st ke fu (nI (eS a w (hb s) k)) (lI (lS (hb s) k)) (nI k) = ke (nI (eS a w (hb s) n)) := by
  have hn := hO.1
  have h9 := hD.1
  have hp : ∀ k, k < n → w 0 k < 500 := fun k hk => by have := (hO.2.1 k hk).1; omega
  intro m
  induction m with
  | zero =>
    intro k fu hk hf
    obtain ⟨fu, rfl⟩ : ∃ x, fu = x + 1 := ⟨fu - 1, by omega⟩
    obtain rfl : k = n := by omega
    rw [fX8_energyIn_7, hm.2.1, if_pos (Int32.le_refl _)]
  | succ m ih =>
    intro k fu hk hf
    obtain ⟨fu, rfl⟩ : ∃ x, fu = x + 1 := ⟨fu - 1, by omega⟩
    have hkn : k < n := by omega
    have b0 := hp k hkn
    have e := ih (k + 1) fu (by omega) (by omega)
    rw [eS, lS] at e
    rw [fX8_energyIn_7, hm.2.1, if_neg (nI_ge (by omega) (by omega)), qhas s (by omega)]
    by_cases q : hb s k = true
    · simp only [q, if_true, ob] at e ⊢
      rw [if_neg (by decide), qdev hm hn hp hkn, qof0 hm hn hkn]
      have d1 := hm.1 (10 + 3 * (w 0 k / 100)) (by omega)
      have d2 := hm.1 (10 + 3 * (w 0 k / 100) + 1) (by omega)
      have d3 := hm.1 (10 + 3 * (w 0 k / 100) + 2) (by omega)
      rw [lI_s] at e
      have hl := lS_le (hb s) k
      generalize lS (hb s) k = l at e hl ⊢
      rcases l with _ | l
      · rw [lI_0]
        rw [eC, if_pos (Or.inl rfl)] at e
        simp (disch := omega) only [ob, ol, oj1, oj0, if_true, lit, zmul, zadd, zin, zcl, og, d3, zeq, Nat.add_zero, d1, d2, if_false, Nat.succ_ne_zero]
        simp only [Nat.add_assoc] at e ⊢
        exact e
      · rw [lI_s]
        have c0 := hp l (by omega)
        rw [qdev hm hn hp (show l < n by omega), qof0 hm hn (show l < n by omega)]
        rw [eC] at e
        simp only [Nat.add_sub_cancel] at e
        simp (disch := omega) only [ob, ol, oj1, oj0, lit, zmul, zadd, zin, zcl, og, zneg2, zeq, if_false, Nat.add_zero]
        by_cases q1 : w 0 l / 100 = w 0 k / 100
        · rw [if_neg (by omega)] at e
          simp only [q1, if_true]
          by_cases q2 : w 0 l + 1 = w 0 k
          · rw [if_pos q2, Nat.zero_add] at e
            simp (disch := omega) only [q2, if_true, zeq, if_false, Nat.one_ne_zero, d3, og, zin, zcl, zadd, Nat.zero_add]
            exact e
          · rw [if_neg q2] at e
            simp (disch := omega) only [q2, if_true, zeq, if_false, Nat.one_ne_zero, d2, d3, og, zin, zcl, zadd, Nat.zero_add]
            exact e
        · rw [if_pos (Or.inr q1)] at e
          simp (disch := omega) only [q1, if_true, zeq, if_false, Nat.one_ne_zero, d1, d2, d3, og, zin, zcl, zadd, Nat.zero_add]
          exact e
    · simp only [q, if_false, ob, ol, Nat.add_zero, zinc, if_true, Bool.false_eq_true] at e ⊢
      exact e
theorem qX8_energyIn (hm : gR (st.1 1) a n w) (hO : oB n a w) (hD : oD a) (s : Int32) : fX8_energyIn s st = some (nI (eS a w (hb s) n)) := qX8_energyIn_7 hm hO hD s _ n 0 FU (by omega) (FU_lt (by have := hO.1; omega))
end Q4
