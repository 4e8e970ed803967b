/-! PURE PART 13: costliest, the greedy set -/
section Q13
variable {m : Nat} {C M st : uSt} {a : Nat → Nat} {n : Nat} {w : Nat → Nat → Nat}
theorem co_both (hc : cS C.1 15 a n w) (hg : gR (st.1 1) a n w) (hk : oK m a n w) (ke : Int32 → Option ((Int32 ⊕ String) × uSt)) (ke' : Int32 → Option (Int32 × uSt)) : ∀ j k l1 l2 l3 fu fu', k + j = a 9 → ((l1 = -1 ∧ l2 = 0 ∧ l3 = 1) ∨ ∃ b, b < a 9 ∧ l1 = nI b ∧ l2 = nI (eS a w (onD w b) n) ∧ l3 = nI (vU w (onD w b) n)) → j < fu → j < fu' → ∃ r, fX7_costliest_9 C ke fu l1 l2 l3 (nI k) = ke r ∧ fX8_costliest_9 st ke' fu' l1 (nI k) = ke' r := by
  obtain ⟨hn, h9, hp⟩ := oK_p hk
  have d0 := hc.2.2.1.1
  intro j
  induction j with
  | zero =>
    intro k l1 l2 l3 fu fu' hk' _ hf hf'
    obtain ⟨fu, rfl⟩ : ∃ x, fu = x + 1 := ⟨fu - 1, by omega⟩
    obtain ⟨fu', rfl⟩ : ∃ x, fu' = x + 1 := ⟨fu' - 1, by omega⟩
    obtain rfl : k = a 9 := by omega
    refine ⟨l1, ?_, ?_⟩
    · rw [fX7_costliest_9, d0, if_pos (Int32.le_refl _)]
    · rw [fX8_costliest_9, hg.1 9 (by decide), if_pos (Int32.le_refl _)]
  | succ j ih =>
    intro k l1 l2 l3 fu fu' hk' inv hf hf'
    obtain ⟨fu, rfl⟩ : ∃ x, fu = x + 1 := ⟨fu - 1, by omega⟩
    obtain ⟨fu', rfl⟩ : ∃ x, fu' = x + 1 := ⟨fu' - 1, by omega⟩
    have hkl : k < a 9 := by omega
    have d4 := hc.2.2.1.2.2 k (by omega)
    rw [fX7_costliest_9, fX8_costliest_9, d0, hg.1 9 (by decide), if_neg (nI_ge hkl (by omega)), if_neg (nI_ge hkl (by omega)), qX1_blocksOn hc.2.2.2.1 hn hp (by omega), qX8_setOf hg hn hp (by omega)]
    simp only [ob, ol, zinc]
    have hbl := bS_lt24 (onD w k) hn
    by_cases q : bS (onD w k) n = 0
    · rw [q, if_pos (show nI 0 = (0 : Int32) from rfl), if_pos (show nI 0 = (0 : Int32) from rfl)]
      exact ih (k + 1) l1 l2 l3 fu fu' (by omega) inv (by omega) (by omega)
    · rw [if_neg (show ¬ nI (bS (onD w k) n) = (0 : Int32) from peqn (b := 0) q (by omega) (by decide)), if_neg (show ¬ nI (bS (onD w k) n) = (0 : Int32) from peqn (b := 0) q (by omega) (by decide)), zin (by omega) (by omega), zcl (by omega), d4, qfail hg (by omega)]
      simp only [og, ob]
      by_cases qf : (a 25).testBit k = true
      · simp only [qf, if_true]
        rw [if_neg (show ¬ nI 1 = (0 : Int32) by decide), if_neg (by decide)]
        exact ih (k + 1) l1 l2 l3 fu fu' (by omega) inv (by omega) (by omega)
      · simp only [qf, if_false, Bool.false_eq_true]
        rw [if_pos (show nI 0 = (0 : Int32) from rfl), if_pos trivial, qX2_energyIn hc.2.2.1 hc.2.2.2.1 hk.2.2.2 hk.2.2.1, eS_b _ hn, qX8_energyIn hg hk.2.2.2 hk.2.2.1, eS_b _ hn, qX1_valueIn hc.2.2.2.1 hn, vU_b _ hn, qX8_valueIn hg hn, vU_b _ hn]
        simp only [ob, oj1, oj0]
        obtain ⟨z, hz, pz⟩ := bS_ne _ _ q
        have e1 := eS_pos hk.2.2.2 hk.2.2.1 (onD w k) pz n (Nat.le_refl _) hz
        have e2 := eS_le hk.2.2.2 hk.2.2.1 (onD w k) n (Nat.le_refl _)
        have e3 := vU_le hk.2.2.2 (onD w k) n (Nat.le_refl _)
        have new : ∃ r, fX7_costliest_9 C ke fu (nI k) (nI (eS a w (onD w k) n)) (nI (vU w (onD w k) n)) (nI (k + 1)) = ke r ∧ fX8_costliest_9 st ke' fu' (nI k) (nI (k + 1)) = ke' r := ih (k + 1) _ _ _ fu fu' (by omega) (Or.inr ⟨k, hkl, rfl, rfl, rfl⟩) (by omega) (by omega)
        rcases inv with ⟨rfl, rfl, rfl⟩ | ⟨b, hb, rfl, rfl, rfl⟩
        · rw [if_pos rfl, if_pos rfl, if_neg (show ¬ nI (eS a w (onD w k) n) * 1 ≤ 0 * nI (vU w (onD w k) n) by
            rw [show (1 : Int32) = nI 1 from rfl, show (0 : Int32) = nI 0 from rfl, zmul, zmul]
            exact nple (by omega) (by omega))]
          exact new
        · have e4 := eS_le hk.2.2.2 hk.2.2.1 (onD w b) n (Nat.le_refl _)
          have e5 := vU_le hk.2.2.2 (onD w b) n (Nat.le_refl _)
          rw [if_neg (zneg (show b < 2147483648 by omega)), qX8_setOf hg hn hp (by omega)]
          simp only []
          rw [if_neg (zneg (show b < 2147483648 by omega)), qX8_valueIn hg hn, vU_b _ hn, qX8_energyIn hg hk.2.2.2 hk.2.2.1, eS_b _ hn]
          simp only []
          by_cases qq : nI (eS a w (onD w k) n) * nI (vU w (onD w b) n) ≤ nI (eS a w (onD w b) n) * nI (vU w (onD w k) n)
          · rw [if_pos qq, if_pos qq]
            exact ih (k + 1) _ _ _ fu fu' (by omega) (Or.inr ⟨b, hb, rfl, rfl, rfl⟩) (by omega) (by omega)
          · rw [if_neg qq, if_neg qq]
            exact new
theorem c_costliest (h : RR m C M) (hm : m < 512) : cKI fL_costliest fX8_costliest (RR (m + 1)) C M := by
  obtain ⟨a, n, w, hc, hg, hk⟩ := RR_un h
  have h9 := (oK_p hk).2.1
  obtain ⟨r, e1, e2⟩ := co_both hc hg hk (fun l1_18 => (if l1_18 = (-1 : Int32) then some (.inr "java/util/NoSuchElementException", C) else some (.inl l1_18, C))) (fun l1_21 => oj1 (fun (v_23 : Int32) => obS (fX8_may v_23 (1 : Int32) (tC M)) (fun x_25 st_24 => (if x_25 = 0 then some ((0 : Int32), st_24) else some (l1_21, st_24)))) (fun j_22 => (if l1_21 = (-1 : Int32) then (j_22 (0 : Int32)) else (j_22 (1 : Int32))))) (a 9) 0 (-1) 0 1 FU FU (by omega) (Or.inl ⟨rfl, rfl, rfl⟩) (FU_lt (by omega)) (FU_lt (by omega))
  have f1 : fX7_costliest C = (if r = (-1 : Int32) then some (.inr "java/util/NoSuchElementException", C) else some (.inl r, C)) := by rw [fX7_costliest]; exact e1
  have f2 : fX8_costliest M = oj1 (fun (v_23 : Int32) => obS (fX8_may v_23 (1 : Int32) (tC M)) (fun x_25 st_24 => (if x_25 = 0 then some ((0 : Int32), st_24) else some (r, st_24)))) (fun j_22 => (if r = (-1 : Int32) then (j_22 (0 : Int32)) else (j_22 (1 : Int32)))) := by rw [fX8_costliest, ol_tC]; exact e2
  by_cases q : r = -1
  · refine endE h hm (k := 1) (r := 0) (by decide) ?_ ?_
    · rw [fL_costliest, f1]
      rw [if_pos q]
      simp only [olx, if_true]
    · rw [f2]
      simp only [oj1]
      rw [if_pos q, qmay0 (tC_t M) (by decide)]
      simp only [obS, if_true]
  · refine endQ h hm (v := r) ?_ ?_
    · rw [fL_costliest, f1]
      rw [if_neg q]
      rfl
    · rw [f2]
      simp only [oj1]
      rw [if_neg q, qmay1 (tC_t M) (by decide)]
      simp only [obS, one0, if_false]
/-! the greedy set -/
theorem mv_both (hc : cCa C.1 (15 + 8) n w) (hg : gR (st.1 1) a n w) (hO : oB n a w) (p : Nat → Bool) (x1 x2 : Int32) (ke : Int32 → Option Int32) (ke' : Int32 → Option Int32) : ∀ j k l2 l3 l4 fu fu', k + j = n → ((l2 = 0 ∧ l3 = 0 ∧ l4 = -1 ∧ ∀ i, i < k → p i = false) ∨ ∃ b, b < n ∧ p b = true ∧ l2 = nI b ∧ l3 = nI (w 1 b) ∧ l4 = nI b) → (∃ i, i < n ∧ p i = true) → j < fu → j < fu' → ∃ b, b < n ∧ p b = true ∧ fX1_mostValuable_7 (15 + 8) (nI (bS p n)) C ke fu l2 l3 (nI k) = ke (nI b) ∧ fX8_greedyOf_17 x1 x2 (nI (bS p n)) st ke' fu' l4 (nI k) = ke' (nI b) := by
  have hn := hO.1
  intro j
  induction j with
  | zero =>
    intro k l2 l3 l4 fu fu' hk' inv hex hf hf'
    obtain ⟨fu, rfl⟩ : ∃ x, fu = x + 1 := ⟨fu - 1, by omega⟩
    obtain ⟨fu', rfl⟩ : ∃ x, fu' = x + 1 := ⟨fu' - 1, by omega⟩
    obtain rfl : k = n := by omega
    rcases inv with ⟨-, -, -, hz⟩ | ⟨b, hb, pb, rfl, rfl, rfl⟩
    · obtain ⟨i, hi, pi⟩ := hex
      rw [hz i hi] at pi
      exact absurd pi (by decide)
    · refine ⟨b, hb, pb, ?_, ?_⟩
      · rw [fX1_mostValuable_7, hc.1, if_pos (Int32.le_refl _)]
      · rw [fX8_greedyOf_17, hg.2.1, if_pos (Int32.le_refl _)]
  | succ j ih =>
    intro k l2 l3 l4 fu fu' hk' inv hex hf hf'
    obtain ⟨fu, rfl⟩ : ∃ x, fu = x + 1 := ⟨fu - 1, by omega⟩
    obtain ⟨fu', rfl⟩ : ∃ x, fu' = x + 1 := ⟨fu' - 1, by omega⟩
    obtain ⟨-, -, h3, -⟩ := hc.2 k (by omega)
    have hv := (hO.2.1 k (by omega)).2
    rw [fX1_mostValuable_7, fX8_greedyOf_17, hc.1, hg.2.1, if_neg (nI_ge (by omega) (by omega)), if_neg (nI_ge (by omega) (by omega)), zhas _ (by omega), qhas _ (by omega), bS_hb p (show k < n by omega) hn, zin (by omega) (by omega), zcl (by omega), h3]
    simp only [ob, og, ol, oj0, zinc]
    by_cases q : p k = true
    · simp only [q, if_true, one0, if_false]
      have new : ∃ b, b < n ∧ p b = true ∧ fX1_mostValuable_7 (15 + 8) (nI (bS p n)) C ke fu (nI k) (nI (w 1 k)) (nI (k + 1)) = ke (nI b) ∧ fX8_greedyOf_17 x1 x2 (nI (bS p n)) st ke' fu' (nI k) (nI (k + 1)) = ke' (nI b) := ih (k + 1) _ _ _ fu fu' (by omega) (Or.inr ⟨k, by omega, q, rfl, rfl, rfl⟩) hex (by omega) (by omega)
      rcases inv with ⟨rfl, rfl, rfl, hz⟩ | ⟨b, hb, pb, rfl, rfl, rfl⟩
      · rw [if_pos rfl, if_neg (show ¬ nI (w 1 k) ≤ (0 : Int32) from nple (b := 0) (by omega) (by omega))]
        exact new
      · rw [if_neg (zneg (by omega)), qof1 hg hn (by omega), qof1 hg hn hb]
        simp only [ob]
        by_cases q2 : nI (w 1 k) ≤ nI (w 1 b)
        · rw [if_pos q2, if_pos q2]
          exact ih (k + 1) _ _ _ fu fu' (by omega) (Or.inr ⟨b, hb, pb, rfl, rfl, rfl⟩) hex (by omega) (by omega)
        · rw [if_neg q2, if_neg q2]
          exact new
    · simp only [q, if_false, if_true, Bool.false_eq_true]
      refine ih (k + 1) _ _ _ fu fu' (by omega) ?_ hex (by omega) (by omega)
      rcases inv with ⟨e1, e2, e3, hz⟩ | inv
      · refine Or.inl ⟨e1, e2, e3, fun i hi => ?_⟩
        by_cases qi : i = k
        · subst qi; simpa using q
        · exact hz i (by omega)
      · exact Or.inr inv
/-- how many of a set -/
def cn (p : Nat → Bool) : Nat → Nat
  | 0 => 0
  | k + 1 => cn p k + (if p k then 1 else 0)
theorem cn_le (p : Nat → Bool) : ∀ n, cn p n ≤ n
  | 0 => Nat.le_refl _
  | n + 1 => by have := cn_le p n; rw [cn]; split <;> omega
def pDel (p : Nat → Bool) (b : Nat) : Nat → Bool := fun k => p k && !(decide (k = b))
def pAdd (p : Nat → Bool) (b : Nat) : Nat → Bool := fun k => p k || decide (k = b)
theorem cn_ext {p q : Nat → Bool} : ∀ n, (∀ k, k < n → p k = q k) → cn p n = cn q n
  | 0, _ => rfl
  | n + 1, h => by rw [cn, cn, cn_ext n (fun k hk => h k (by omega)), h n (by omega)]
theorem cn_del {p : Nat → Bool} {b : Nat} (hb : p b = true) : ∀ n, b < n → cn (pDel p b) n + 1 = cn p n := by
  intro n
  induction n with
  | zero => intro h; exact absurd h (by omega)
  | succ n ih =>
    intro h
    rw [cn, cn]
    by_cases q : b = n
    · subst q
      rw [cn_ext (p := pDel p b) (q := p) b (fun k hk => by unfold pDel; simp; omega), if_pos hb]
      unfold pDel
      simp
    · have e : pDel p b n = p n := by unfold pDel; simp; omega
      have := ih (by omega)
      rw [e]
      omega
theorem cn_0 {p : Nat → Bool} : ∀ n, cn p n = 0 → bS p n = 0 := by
  intro n
  induction n with
  | zero => intro _; rfl
  | succ n ih =>
    intro h
    rw [cn] at h
    rw [bS, ih (by omega)]
    split at h
    · omega
    · rename_i q
      rw [if_neg q]
theorem tb_eq {x y : Nat} (h : ∀ i, x.testBit i = y.testBit i) : x = y := Nat.eq_of_testBit_eq h
theorem bS_del (p : Nat → Bool) {b n : Nat} (hb : b < 31) (hn : n ≤ 24) : nI (bS p n) &&& (((1 : Int32) <<< (nI b &&& 31)) ^^^ (-1 : Int32)) = nI (bS (pDel p b) n) := by
  rw [zbit hb]
  apply Int32.toBitVec_inj.mp
  apply BitVec.eq_of_getLsbD_eq
  intro i hi
  rw [Int32.toBitVec_and, Int32.toBitVec_xor, nI_bv, nI_bv, nI_bv, BitVec.getLsbD_and, BitVec.getLsbD_xor, BitVec.getLsbD_ofNat, BitVec.getLsbD_ofNat, BitVec.getLsbD_ofNat, bS_bit, bS_bit, Nat.testBit_two_pow]
  have e : (-1 : Int32).toBitVec.getLsbD i = true := by
    have : ((List.range 32).all fun i => (-1 : Int32).toBitVec.getLsbD i) = true := by decide +kernel
    exact List.all_eq_true.mp this i (List.mem_range.mpr hi)
  rw [e]
  unfold pDel
  by_cases q : i = b
  · subst q; simp [hi]
  · have : ¬ b = i := fun h => q h.symm
    simp [hi, q, this]
theorem bS_add (p : Nat → Bool) {b n : Nat} (hb : b < n) (hn : n ≤ 24) : nI (bS p n) ||| ((1 : Int32) <<< (nI b &&& 31)) = nI (bS (pAdd p b) n) := by
  rw [zbit (by omega), zor]
  congr 1
  apply tb_eq
  intro i
  rw [Nat.testBit_or, bS_bit, bS_bit, Nat.testBit_two_pow]
  unfold pAdd
  by_cases q : i = b
  · subst q; simp [hb]
  · have : ¬ b = i := fun h => q h.symm
    simp [q, this]
theorem gr_both (hc : cS C.1 15 a n w) (hg : gR (st.1 1) a n w) (hk : oK m a n w) (E : Int32) : ∀ j (p q : Nat → Bool) k fu fu', cn p n = j → k + j ≤ 24 → j < fu → j < fu' → ∃ r : Nat → Bool, fX7_greedyBlocks_13 E C (fun l => some l) fu (nI (bS p n)) (nI (bS q n)) (nI k) = some (nI (bS r n)) ∧ fX8_greedyOf_7 E st (fun l => some l) fu' (nI (bS q n)) (nI (bS p n)) = some (nI (bS r n)) := by
  obtain ⟨hn, h9, hp⟩ := oK_p hk
  intro j
  induction j with
  | zero =>
    intro p q k fu fu' hj hk' hf hf'
    obtain ⟨fu, rfl⟩ : ∃ x, fu = x + 1 := ⟨fu - 1, by omega⟩
    obtain ⟨fu', rfl⟩ : ∃ x, fu' = x + 1 := ⟨fu' - 1, by omega⟩
    refine ⟨q, ?_, ?_⟩
    · rw [fX7_greedyBlocks_13, cn_0 n hj, if_pos (show nI 0 = (0 : Int32) from rfl)]
      split <;> rfl
    · rw [fX8_greedyOf_7, cn_0 n hj, if_pos (show nI 0 = (0 : Int32) from rfl)]
  | succ j ih =>
    intro p q k fu fu' hj hk' hf hf'
    obtain ⟨fu, rfl⟩ : ∃ x, fu = x + 1 := ⟨fu - 1, by omega⟩
    obtain ⟨fu', rfl⟩ : ∃ x, fu' = x + 1 := ⟨fu' - 1, by omega⟩
    have hbl := bS_lt24 p hn
    have hne : bS p n ≠ 0 := by
      intro e
      have : ∀ i, i < n → p i = false := fun i hi => by
        have := bS_bit p n i
        rw [e, Nat.zero_testBit] at this
        simpa [hi] using this.symm
      have z : cn p n = 0 := by
        have hz : ∀ l, l ≤ n → cn p l = 0 := by
          intro l
          induction l with
          | zero => intro _; rfl
          | succ l ihl => intro hl; rw [cn, ihl (by omega), this l (by omega)]; rfl
        exact hz n (Nat.le_refl _)
      omega
    have nz : ¬ nI (bS p n) = (0 : Int32) := peqn (b := 0) hne (by omega) (by decide)
    rw [fX7_greedyBlocks_13, fX8_greedyOf_7, if_neg (show ¬ (24 : Int32) ≤ nI k from nple (a := 24) (by omega) (by decide)), if_neg nz, if_neg nz]
    obtain ⟨b, hbn, pb, e1, e2⟩ := mv_both hc.2.2.2.1 hg hk.2.2.2 p E (nI (bS q n)) (fun l2_9 => some l2_9) (fun l4_14 => ol (nI (bS p n) &&& (((1 : Int32) <<< (l4_14 &&& 31)) ^^^ (-1 : Int32))) (fun l3_15 => ob (fX8_energyIn (nI (bS q n) ||| ((1 : Int32) <<< (l4_14 &&& 31))) st) (fun x_16 => oj1 (fun (v_18 : Int32) => ol (nI (bS q n) ||| v_18) (fun l2_19 => fX8_greedyOf_7 E st (fun l => some l) fu' l2_19 l3_15)) (fun j_17 => (if E < x_16 then (j_17 (0 : Int32)) else (j_17 ((1 : Int32) <<< (l4_14 &&& 31)))))))) n 0 0 0 (-1) FU FU (by omega) (Or.inl ⟨rfl, rfl, rfl, fun i hi => absurd hi (by omega)⟩) (bS_ne p n hne) (FU_lt (by omega)) (FU_lt (by omega))
    have e1 : fX1_mostValuable (15 + 8) (nI (bS p n)) C = some (nI b) := by rw [fX1_mostValuable]; exact e1
    rw [show nI 0 = (0 : Int32) from rfl] at e2
    rw [e1, e2]
    simp only [ob, ol, oj1, zinc]
    rw [bS_del p (by omega) hn, bS_add q hbn hn, qX2_energyIn hc.2.2.1 hc.2.2.2.1 hk.2.2.2 hk.2.2.1, qX8_energyIn hg hk.2.2.2 hk.2.2.1]
    simp only [ob]
    have hcn := cn_del pb n hbn
    by_cases qq : E < nI (eS a w (hb (nI (bS (pAdd q b) n))) n)
    · rw [if_pos qq, if_pos qq, Int32.or_zero]
      exact ih (pDel p b) q (k + 1) fu fu' (by omega) (by omega) (by omega) (by omega)
    · rw [if_neg qq, if_neg qq]
      exact ih (pDel p b) (pAdd q b) (k + 1) fu fu' (by omega) (by omega) (by omega) (by omega)
theorem greedy_both (hc : cS C.1 15 a n w) (hg : gR (st.1 1) a n w) (hk : oK m a n w) (E : Int32) : ∃ r : Nat → Bool, fX7_greedyBlocks E C = some (nI (bS r n)) ∧ fX8_greedyOf E st = some (nI (bS r n)) := by
  obtain ⟨hn, h9, hp⟩ := oK_p hk
  have hcn := cn_le (usD (a 25) w) n
  have z : bS (fun _ => false) n = 0 := cn_0 n (by
    have hz : ∀ l, cn (fun _ => false) l = 0 := by
      intro l
      induction l with
      | zero => rfl
      | succ l ihl => rw [cn, ihl]; rfl
    exact hz n)
  obtain ⟨r, e1, e2⟩ := gr_both hc hg hk E _ (usD (a 25) w) (fun _ => false) 0 FU FU rfl (by omega) (FU_lt (by omega)) (FU_lt (by omega))
  rw [z, show nI 0 = (0 : Int32) from rfl] at e1 e2
  refine ⟨r, ?_, ?_⟩
  · rw [fX7_greedyBlocks, qX6_usable hc.2.2.1 hc.2.2.2.1 hn hp]
    simp only [ob]
    exact e1
  · rw [fX8_greedyOf, qX8_possible hg hn hp]
    simp only [ob]
    exact e2
theorem c_greedySet (h : RR m C M) (hm : m < 512) (x : Int32) : cKI (fL_greedySet x) (fX8_greedySet x) (RR (m + 1)) C M := by
  obtain ⟨a, n, w, hc, hg, hk⟩ := RR_un h
  rcases ene_or (C := C) x with ⟨e1, e2⟩ | ⟨k, hk1, rfl, e1, e2⟩
  · refine endE h hm (k := 1) (r := 0) (by decide) ?_ ?_
    · rw [fL_greedySet, fX7_greedySet, e1]
      simp only [ox, olx, if_true]
    · rw [fX8_greedySet, ol_tC, e2]
      simp only [ob]
      rw [qmay0 (tC_t M) (by decide)]
      simp only [obS, if_true]
  · obtain ⟨r, f1, f2⟩ := greedy_both hc hg hk (nI k)
    refine endQ h hm (v := nI (bS r n)) ?_ ?_
    · rw [fL_greedySet, fX7_greedySet, e1]
      simp only [ox]
      rw [f1]
      rfl
    · rw [fX8_greedySet, ol_tC, e2]
      simp only [ob]
      rw [qmay1 (tC_t M) (by decide)]
      simp only [obS, one0, if_false]
      rw [f2]
end Q13
