/-! PURE PART 21: write, wouldCache -/
section Q21
variable {m : Nat} {C M st : uSt} {a : Nat → Nat} {n : Nat} {w : Nat → Nat → Nat}
def gdP (a : Nat → Nat) (w : Nat → Nat → Nat) : Nat → Bool := fun k => !((a 25).testBit (w 0 k / 100)) && (!(decide (a 7 = 1)) || decide (a 8 ≤ w 1 k))
theorem q7guard {k : Nat} (hd : cDv st.1 (15 + 3) a) (hr : cRu st.1 (15 + 2) a) (h7 : a 7 ≤ 2) (h8 : a 8 ≤ 99) (hw : w 0 k < 500) (hv : w 1 k ≤ 99) : fX7_isGuarded (nI (w 0 k / 100)) (nI (w 1 k)) st = some (if gdP a w k then 1 else 0) := by
  rw [fX7_isGuarded, zin (by omega) (by omega), zcl (by omega), hd.2.2 _ (by omega), hr.2.2.1, hr.2.2.2, og_t]
  unfold gdP
  cases q1 : (a 25).testBit (w 0 k / 100)
  · simp only [Bool.false_eq_true, if_false, Bool.not_false, Bool.true_and]
    rw [if_pos (show nI 0 = (0 : Int32) from rfl)]
    by_cases q2 : a 7 = 1
    · rw [if_pos (by rw [q2]; rfl)]
      by_cases q3 : a 8 ≤ w 1 k
      · rw [if_neg (nplt q3 (by omega))]; simp [q3]
      · rw [if_pos (plt (by omega) (by omega))]; simp [q2, q3]
    · rw [if_neg (show ¬ nI (a 7) = (1 : Int32) from peqn (b := 1) q2 (by omega) (by decide))]; simp [q2]
  · simp only [if_true, Bool.not_true, Bool.false_and]
    rw [if_neg (show ¬ nI 1 = (0 : Int32) by decide)]
    rfl
theorem al_l (hd : cDv st.1 (15 + 3) a) (hr : cRu st.1 (15 + 2) a) (hc : cCa st.1 10 n w) (hB : oB n a w) (hD : oD a) (h7 : a 7 ≤ 2) (h8 : a 8 ≤ 99) (ke : Int32 → Option (Int32 × uSt)) : ∀ j k fu, k + j = n → j < fu → fX7_isAllowed_106 st ke fu (nI (bS (gdP a w) k)) (nI k) = ke (nI (bS (gdP a w) n)) := by
  have hn := hB.1
  have h9 := hD.1
  intro j
  induction j with
  | zero =>
    intro k fu hk hf
    obtain ⟨fu, rfl⟩ : ∃ x, fu = x + 1 := ⟨fu - 1, by omega⟩
    obtain rfl : k = n := by omega
    rw [fX7_isAllowed_106, hc.1, if_pos (Int32.le_refl _)]
  | succ j ih =>
    intro k fu hk hf
    obtain ⟨fu, rfl⟩ : ∃ x, fu = x + 1 := ⟨fu - 1, by omega⟩
    obtain ⟨h1, h2, h3, h4⟩ := hc.2 k (by omega)
    have b1 := hB.2.1 k (by omega)
    have e := ih (k + 1) fu (by omega) (by omega)
    rw [bS] at e
    rw [fX7_isAllowed_106, hc.1, if_neg (nI_ge (by omega) (by omega)), zin (by omega) (by omega), zcl (by omega), h1, h3, og_t, og_t, q7guard hd hr h7 h8 (by omega) (by omega), ob_s, bS_or _ (by omega)]
    cases q : gdP a w k
    · rw [q] at e
      simp only [Bool.false_eq_true, if_false, if_true, ol, zinc, Nat.add_zero] at e ⊢
      exact e
    · rw [q] at e
      simp only [if_true, one0, if_false, ol, zinc] at e ⊢
      exact e
theorem gu_l (hg : gR (st.1 1) a n w) (hB : oB n a w) (hD : oD a) (h7 : a 7 ≤ 2) (h8 : a 8 ≤ 99) (ke : Int32 → Option Int32) : ∀ j k fu, k + j = n → j < fu → fX8_isGuarded_4 st ke fu (nI (bS (gdP a w) k)) (nI k) = ke (nI (bS (gdP a w) n)) := by
  have hn := hB.1
  have h9 := hD.1
  have hp : ∀ k, k < n → w 0 k < 500 := fun k hk => by have := (hB.2.1 k hk).1; omega
  intro j
  induction j with
  | zero =>
    intro k fu hk hf
    obtain ⟨fu, rfl⟩ : ∃ x, fu = x + 1 := ⟨fu - 1, by omega⟩
    obtain rfl : k = n := by omega
    rw [fX8_isGuarded_4, hg.2.1, if_pos (Int32.le_refl _)]
  | succ j ih =>
    intro k fu hk hf
    obtain ⟨fu, rfl⟩ : ∃ x, fu = x + 1 := ⟨fu - 1, by omega⟩
    have b1 := hB.2.1 k (by omega)
    have b2 := hp k (by omega)
    have e := ih (k + 1) fu (by omega) (by omega)
    rw [bS] at e
    rw [fX8_isGuarded_4, hg.2.1, if_neg (nI_ge (by omega) (by omega)), qdev hg hn hp (by omega), ob_s, qfail hg (by omega), ob_s]
    simp only [oj1, oj0, ol, zinc]
    rw [hg.1 7 (by decide), hg.1 8 (by decide), qof1 hg hn (by omega), bS_or _ (by omega), Int32.or_zero]
    simp only [ob, one0, if_false, if_true]
    have key : ∀ (A B : Option Int32), (if (if (a 25).testBit (w 0 k / 100) = true then (1 : Int32) else 0) = 0 then (if nI (a 7) = 1 then (if nI (w 1 k) < nI (a 8) then A else B) else B) else A) = if gdP a w k then B else A := by
      intro A B
      unfold gdP
      cases q1 : (a 25).testBit (w 0 k / 100)
      · simp only [Bool.false_eq_true, if_false, Bool.not_false, Bool.true_and, if_true]
        by_cases q2 : a 7 = 1
        · rw [if_pos (by rw [q2]; rfl)]
          by_cases q3 : a 8 ≤ w 1 k
          · rw [if_neg (nplt q3 (by omega))]; simp [q3]
          · rw [if_pos (plt (by omega) (by omega))]; simp [q2, q3]
        · rw [if_neg (show ¬ nI (a 7) = (1 : Int32) from peqn (b := 1) q2 (by omega) (by decide))]; simp [q2]
      · simp only [if_true, Bool.not_true, Bool.false_and, one0, if_false, Bool.false_eq_true]
    rw [key]
    cases q : gdP a w k
    · rw [q] at e
      simp only [Bool.false_eq_true, if_false, Nat.add_zero] at e ⊢
      exact e
    · rw [q] at e
      simp only [if_true] at e ⊢
      exact e
def alR (a : Nat → Nat) (n : Nat) (w : Nat → Nat → Nat) : Int32 := if nI (a 1) - nI (a 5) < nI (eS a w (gdP a w) n) then 0 else 1
theorem qguarded (hg : gR (st.1 1) a n w) (hB : oB n a w) (hD : oD a) (h7 : a 7 ≤ 2) (h8 : a 8 ≤ 99) : fX8_isGuarded st = some (alR a n w) := by
  rw [fX8_isGuarded]
  have := gu_l hg hB hD h7 h8 (fun l1_14 => ob (fX8_energyIn l1_14 st) (fun x_15 => (if ((st.1 1 1) - (st.1 1 5)) < x_15 then some (0 : Int32) else some (1 : Int32)))) n 0 FU (by omega) (FU_lt (by have := hB.1; omega))
  refine this.trans ?_
  rw [qX8_energyIn hg hB hD, eS_b _ hB.1, ob_s, hg.1 1 (by decide), hg.1 5 (by decide)]
  unfold alR
  split <;> rfl
theorem alR_01 : alR a n w = 0 ∨ alR a n w = 1 := by unfold alR; split; exact Or.inl rfl; exact Or.inr rfl
/-- the class's answer for a trial cache -/
theorem qal {C1 : uSt} (hd : cDv C1.1 (15 + 3) a) (hr : cRu C1.1 (15 + 2) a) (hb : cBt C1.1 (15 + 1) a) (hc : cCa C1.1 10 n w) (hB : oB n a w) (hD : oD a) (h7 : a 7 ≤ 2) (h8 : a 8 ≤ 99) : fX7_isAllowed_106 C1 (fun l5_14 => ob (fX2_energyIn (15 + 3) 10 l5_14 C1) (fun x_15 => (if ((C1.1 (15 + 1) 1) - (C1.1 (15 + 2) 0)) < x_15 then some ((0 : Int32), C1) else some ((1 : Int32), C1)))) FU (0 : Int32) (0 : Int32) = some (alR a n w, C1) := by
  have := al_l hd hr hc hB hD h7 h8 (fun l5_14 => ob (fX2_energyIn (15 + 3) 10 l5_14 C1) (fun x_15 => (if ((C1.1 (15 + 1) 1) - (C1.1 (15 + 2) 0)) < x_15 then some ((0 : Int32), C1) else some ((1 : Int32), C1)))) n 0 FU (by omega) (FU_lt (by have := hB.1; omega))
  refine this.trans ?_
  rw [qX2_energyIn hd hc hB hD, eS_b _ hB.1, ob_s, hb.2.1, hr.1]
  unfold alR
  split <;> rfl
theorem gR_w {r : Nat → Int32} {w' : Nat → Nat → Nat} (h : gR r a n w) (e : ∀ k, k < n → ∀ i, i < 3 → w' i k = w i k) : gR r a n w' := ⟨h.1, h.2.1, fun k hk i hi => by rw [e k hk i hi]; exact h.2.2 k hk i hi⟩
theorem ixF_nI {pl j : Nat} (hj : j < n) (h1 : w 0 j = pl) (h2 : ∀ i, i < j → w 0 i ≠ pl) : ixF w pl n 0 = nI j := by
  rcases ixF_or w pl n 0 with ⟨k, a1, a2, a3, a4, a5⟩ | ⟨a1, a2⟩
  · rw [a3]
    rcases Nat.lt_trichotomy k j with h | h | h
    · exact absurd a4 (h2 k h)
    · rw [h]
    · exact absurd h1 (a5 j (by omega) h)
  · exact absurd h1 (a2 j (by omega) (by omega))
theorem lays_both (hc : cS C.1 15 a n w) (hg : gR (st.1 1) a n w) (hk : oK m a n w) {d x v : Nat} (hd : d < a 9) (hx : x < 100) (hv : 1 ≤ v ∧ v ≤ 99) : ∃ r C' M', (r = 0 ∨ r = 1) ∧ fX7_isAllowed (nI d) (nI x) (nI v) C = some (r, C') ∧ (∀ i, i < 10 ∨ 15 ≤ i → C'.1 i = C.1 i) ∧ fX8_lays (nI d) (nI x) (nI v) st = some (r, M') ∧ (∀ i, i ≠ 1 → M'.1 i = st.1 i) ∧ ((r = 0 ∧ gR (M'.1 1) a n w) ∨ (r = 1 ∧ ((ixF w (100 * d + x) n 0 = -1 ∧ (∀ i, i < n → w 0 i ≠ 100 * d + x) ∧ n < 24 ∧ gR (M'.1 1) a (n + 1) (wIns (insP w (100 * d + x) n) (nwB (100 * d + x) v (a 26)) w)) ∨ ∃ j, j < n ∧ ixF w (100 * d + x) n 0 = nI j ∧ gR (M'.1 1) a n (wUpd j v w)))) := by
  obtain ⟨hn, h9, hp⟩ := oK_p hk
  obtain ⟨s0, s1, s2, s3, s4, s5, s6, s7, s8, s9, s10, s11, s12, s13⟩ := hk.2.1
  have hd5 : d < 5 := by omega
  have ai := qX1_indexOf hc.2.2.2.1 hn hp hd5 hx
  have bi := qX8_blockAt hg hn hp hd5 hx
  have u2 : C.1 (15 + 2) 2 = nI (a 7) := hc.2.1.2.2.1
  by_cases q7 : a 7 = 2
  · refine ⟨0, C, st, Or.inl rfl, ?_, fun _ _ => rfl, ?_, fun _ _ => rfl, Or.inl ⟨rfl, hg⟩⟩
    · rw [fX7_isAllowed, u2, if_pos (by rw [q7]; rfl)]
    · rw [fX8_lays, bi, ob_s, hg.1 7 (by decide), if_pos (by rw [q7]; rfl)]
  have n7 : ¬ nI (a 7) = (2 : Int32) := peqn (b := 2) q7 (by omega) (by decide)
  obtain ⟨T, t1, t2, t3⟩ := cp1 (st := C) (c := 10) (c2 := 15 + 8) (by omega) hn hc.2.2.2.1
  have T5 : T.1 15 5 = nI (a 26) := by rw [t3 15 (by omega)]; exact hc.2.2.2.2.2.1
  rcases ixF_or w (100 * d + x) n 0 with ⟨j, -, j2, j3, j4, j5⟩ | ⟨j1, j2⟩
  · -- known
    have j2 : j < n := by omega
    obtain ⟨C1, p1, p2, p3⟩ := qput_k (v := v) (tm := a 26) t2 hd5 hx hn hp j2 j3
    have hB' := oB_upd (j := j) hk.2.2.2 hv
    have g1 := gR_upd (v := v) hg j2
    have nj : ¬ nI j = (-1 : Int32) := zneg (by omega)
    have F1 : ∀ i, i < 10 ∨ 15 ≤ i → C1.1 i = C.1 i := fun i hi => by rw [p3 i (by omega), t3 i (by omega)]
    have E7 : fX7_isAllowed (nI d) (nI x) (nI v) C = some (alR a n (wUpd j v w), C1) := by
      rw [fX7_isAllowed, u2, if_neg n7, ai, ob_s, j3]
      simp only [oj1, oj0]
      rw [if_neg nj, if_neg (by decide), t1]
      simp only [obV]
      rw [T5, p1]
      exact qal (cDv_e hc.2.2.1 h9 (fun i _ _ => F1 i (by omega)) (fun _ _ _ => rfl)) (cRu_e hc.2.1 (F1 _ (by omega)) (fun _ _ _ => rfl)) (cBt_e hc.1 (F1 _ (by omega)) (fun _ _ => rfl)) p2 hB' hk.2.2.1 s10 s11
    have E8 : fX8_lays (nI d) (nI x) (nI v) st = (if alR a n (wUpd j v w) = 0 then some ((0 : Int32), sI (sI st 1 (37 + 3 * j + 1) (nI v)) 1 (37 + 3 * j + 1) (nI (w 1 j))) else some ((1 : Int32), sI st 1 (37 + 3 * j + 1) (nI v))) := by
      rw [fX8_lays, bi, ob_s, hg.1 7 (by decide), if_neg n7, j3]
      simp only [oj1, oj0]
      rw [if_neg nj, if_neg nj, qof1 hg hn j2, ob_s, if_neg nj, show (((37 : Int32) + ((3 : Int32) * nI j)) + (1 : Int32)) = nI (37 + 3 * j + 1) by rw [show (37 : Int32) = nI 37 from rfl, show (3 : Int32) = nI 3 from rfl, show (1 : Int32) = nI 1 from rfl, zmul, zadd, zadd], zin (by omega) (by omega), zcl (by omega), og_t, ol_e, qguarded g1 hB' hk.2.2.1 s10 s11, ob_s, if_neg nj, og_t, ol_e]
    rcases alR_01 (a := a) (n := n) (w := wUpd j v w) with e | e
    · rw [e] at E7 E8
      rw [if_pos rfl] at E8
      refine ⟨0, C1, _, Or.inl rfl, E7, F1, E8, fun i hi => by rw [sI_n hi, sI_n hi], Or.inl ⟨rfl, gR_w (gR_upd (v := w 1 j) g1 j2) (fun k hk i hi => ?_)⟩⟩
      unfold wUpd
      by_cases q : i = 1 ∧ k = j
      · rw [if_pos q, q.1, q.2]
      · rw [if_neg q, if_neg q]
    · rw [e] at E7 E8
      rw [if_neg (by decide)] at E8
      exact ⟨1, C1, _, Or.inr rfl, E7, F1, E8, fun i hi => sI_n hi, Or.inr ⟨rfl, Or.inr ⟨j, j2, j3, g1⟩⟩⟩
  · -- new
    have j2 : ∀ i, i < n → w 0 i ≠ 100 * d + x := fun i hi => j2 i (by omega) (by omega)
    have u1 : C.1 (15 + 2) 1 = nI (a 6) := hc.2.1.2.1
    by_cases q6 : n < a 6
    · have hn24 : n < 24 := by omega
      obtain ⟨C1, p1, p2, p3⟩ := qput (v := v) (tm := a 26) t2 hd5 hx hn24 hp j1
      obtain ⟨M1, g1, g2, g3⟩ := qcomes (v := v) hg hd5 hx hn24 hp
      have hB' := oB_ins (pl := 100 * d + x) (v := v) (tm := a 26) hk.2.2.2 hn24 (by omega) hv j2
      have F1 : ∀ i, i < 10 ∨ 15 ≤ i → C1.1 i = C.1 i := fun i hi => by rw [p3 i (by omega), t3 i (by omega)]
      have pl := (insP_ok w (100 * d + x) n)
      generalize eW : wIns (insP w (100 * d + x) n) (nwB (100 * d + x) v (a 26)) w = W at *
      have E7 : fX7_isAllowed (nI d) (nI x) (nI v) C = some (alR a (n + 1) W, C1) := by
        rw [fX7_isAllowed, u2, if_neg n7, ai, ob_s, j1]
        simp only [oj1, oj0]
        rw [if_pos trivial, if_pos trivial, hc.2.2.2.1.1, u1, if_pos (plt q6 (by omega)), t1]
        simp only [obV]
        rw [T5, p1]
        exact qal (cDv_e hc.2.2.1 h9 (fun i _ _ => F1 i (by omega)) (fun _ _ _ => rfl)) (cRu_e hc.2.1 (F1 _ (by omega)) (fun _ _ _ => rfl)) (cBt_e hc.1 (F1 _ (by omega)) (fun _ _ => rfl)) p2 hB' hk.2.2.1 s10 s11
      have hp' : ∀ k, k < n + 1 → W 0 k < 500 := fun k hk2 => by have := (hB'.2.1 k hk2).1; omega
      have ix' : ixF W (100 * d + x) (n + 1) 0 = nI (insP w (100 * d + x) n) := by
        refine ixF_nI (by omega) ?_ (fun i hi => ?_)
        · rw [← eW]; unfold wIns; rw [if_neg (by omega), if_pos rfl]; rfl
        · rw [← eW]; unfold wIns; rw [if_pos hi]; exact j2 i (by omega)
      obtain ⟨M2, o1, o2, o3⟩ := qgoes (b := insP w (100 * d + x) n) g2 (by omega) (by omega)
      have E8 : fX8_lays (nI d) (nI x) (nI v) st = (if alR a (n + 1) W = 0 then some ((0 : Int32), M2) else some ((1 : Int32), M1)) := by
        rw [fX8_lays, bi, ob_s, hg.1 7 (by decide), if_neg n7, j1]
        simp only [oj1, oj0]
        rw [if_pos trivial, if_pos trivial, if_pos trivial, hg.2.1, hg.1 6 (by decide), if_pos (plt q6 (by omega)), g1]
        simp only [obV]
        rw [qguarded g2 hB' hk.2.2.1 s10 s11, ob_s, if_pos trivial, qX8_blockAt g2 (by omega) hp' hd5 hx, ix', ob_s, o1]
      rcases alR_01 (a := a) (n := n + 1) (w := W) with e | e
      · rw [e] at E7 E8
        rw [if_pos rfl] at E8
        refine ⟨0, C1, M2, Or.inl rfl, E7, F1, E8, fun i hi => by rw [o3 i hi, g3 i hi], Or.inl ⟨rfl, ?_⟩⟩
        rw [Nat.add_sub_cancel] at o2
        refine gR_w o2 (fun k hk i hi => ?_)
        rw [← eW]
        unfold wDel wIns
        by_cases q : k < insP w (100 * d + x) n
        · rw [if_pos q, if_pos q]
        · rw [if_neg q, if_neg (by omega), if_neg (by omega), Nat.add_sub_cancel]
      · rw [e] at E7 E8
        rw [if_neg (by decide)] at E8
        exact ⟨1, C1, M1, Or.inr rfl, E7, F1, E8, g3, Or.inr ⟨rfl, Or.inl ⟨j1, j2, hn24, g2⟩⟩⟩
    · refine ⟨0, C, st, Or.inl rfl, ?_, fun _ _ => rfl, ?_, fun _ _ => rfl, Or.inl ⟨rfl, hg⟩⟩
      · rw [fX7_isAllowed, u2, if_neg n7, ai, ob_s, j1]
        simp only [oj1, oj0]
        rw [if_pos trivial, if_pos trivial, hc.2.2.2.1.1, u1, if_neg (nplt (by omega) (by omega))]
      · rw [fX8_lays, bi, ob_s, hg.1 7 (by decide), if_neg n7, j1]
        simp only [oj1, oj0]
        rw [if_pos trivial, hg.2.1, hg.1 6 (by decide), if_neg (nplt (by omega) (by omega))]
end Q21
