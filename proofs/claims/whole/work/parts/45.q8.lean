/-! PURE PART 16: advance, minutesLeft; copies of the class's states; save, restore -/
section Q16
variable {m : Nat} {C M st : uSt} {a : Nat → Nat} {n : Nat} {w : Nat → Nat → Nat}
theorem adv_both {C0 M0 : uSt} {L : Nat} (hL : L ≤ 1000) (hm : m < 512) (ke : uSt → Int32 → Option ((Int32 ⊕ String) × uSt)) (ke' : uSt → Int32 → Option (Int32 × uSt)) : ∀ j C M x k fu fu', k + j = L → aR m C0 M0 C M x → j < fu → j < fu' → ∃ C' M' y, fX7_advance_26 (nI L) ke fu C (nI x) (nI k) = ke C' (nI y) ∧ fX8_advance_27 (nI L) ke' fu' M (nI x) (nI k) = ke' M' (nI y) ∧ aR m C0 M0 C' M' y := by
  intro j
  induction j with
  | zero =>
    intro C M x k fu fu' hk h hf hf'
    obtain ⟨fu, rfl⟩ : ∃ x, fu = x + 1 := ⟨fu - 1, by omega⟩
    obtain ⟨fu', rfl⟩ : ∃ x, fu' = x + 1 := ⟨fu' - 1, by omega⟩
    obtain rfl : k = L := by omega
    refine ⟨C, M, x, ?_, ?_, h⟩
    · rw [fX7_advance_26, if_pos (Int32.le_refl _)]
    · rw [fX8_advance_27, if_pos (Int32.le_refl _)]
  | succ j ih =>
    intro C M x k fu fu' hk h hf hf'
    obtain ⟨fu, rfl⟩ : ∃ x, fu = x + 1 := ⟨fu - 1, by omega⟩
    obtain ⟨fu', rfl⟩ : ∃ x, fu' = x + 1 := ⟨fu' - 1, by omega⟩
    obtain ⟨y, C1, e1, e2⟩ := minute_both hm h
    obtain ⟨M1, e3, e4⟩ := e2 ke' fu' (nI L) (nI k) (nple (by omega) (by omega))
    obtain ⟨C', M', z, f1, f2, f3⟩ := ih C1 M1 (x + y) (k + 1) fu fu' (by omega) e4 (by omega) (by omega)
    refine ⟨C', M', z, ?_, ?_, f3⟩
    · rw [fX7_advance_26, if_neg (nple (by omega) (by omega)), e1]
      simp only [obS, ol]
      rw [zadd, zinc]
      exact f1
    · rw [e3, zinc]
      exact f2
theorem c_advance (h : RR m C M) (hm : m < 512) (x : Int32) : cKI (fL_advance x) (fX8_advance x) (RR (m + 1)) C M := by
  obtain ⟨a, n, w, hc, hg, hk⟩ := RR_un h
  have bad : (x < 1 ∨ ¬ x ≤ 1000) → fX8_isIn x 1 1000 = some 0 → cKI (fL_advance x) (fX8_advance x) (RR (m + 1)) C M := by
    intro q e
    refine endE h hm (k := 1) (r := 0) (by decide) ?_ ?_
    · rw [fL_advance, fX7_advance]
      simp only [oj0]
      by_cases q1 : x < 1
      · rw [if_pos q1]
        simp only [olx, if_true]
      · rw [if_neg q1, if_neg (by rcases q with q | q; exact absurd q q1; exact q)]
        simp only [olx, if_true]
    · rw [fX8_advance, ol_tC, e]
      simp only [ob]
      rw [qmay0 (tC_t M) (by decide)]
      simp only [obS, if_true]
  rcases zn0 x with q | ⟨k, hk1, rfl⟩
  · exact bad (Or.inl (zneg_lt (k := 1) q (by decide))) (qisIn_lo (zneg_lt (k := 1) q (by decide)))
  · by_cases q1 : k < 1
    · exact bad (Or.inl (plt (b := 1) q1 (by decide))) (qisIn_lo (plt (b := 1) q1 (by decide)))
    · by_cases q2 : k ≤ 1000
      · have h0 : aR m C (tC M) C (tC M) 0 := by
          refine ⟨a, n, w, cS_ea hc (oK_p hk).2.1 (fun i hi => ?_), hg, oT_of hk.2.1, hk.2.2.1, hk.2.2.2, fun _ _ => rfl, fun _ _ => rfl⟩
          unfold ua
          by_cases q : i = 34
          · subst q; rfl
          · rw [if_neg q]
        obtain ⟨C', M', y, e1, e2, a', n', w', c', g', T', D', B', fC, fM⟩ := adv_both q2 hm (fun st_9 l2_8 => some (.inl l2_8, st_9)) (fun st_23 l2_22 => ol (sI st_23 1 34 ((st_23.1 1 34) + l2_22)) (fun st_24 => some (l2_22, st_24))) k C (tC M) 0 0 FU FU (by omega) h0 (FU_lt (by omega)) (FU_lt (by omega))
        refine endG (C' := C') (M' := sI M' 1 34 ((M'.1 1 34) + nI y)) (v := nI y) ?_ ?_ ?_ ?_
        · rw [fL_advance, fX7_advance]
          simp only [oj0]
          rw [if_neg (show ¬ nI k < (1 : Int32) from nplt (b := 1) (by omega) hk1), if_pos (show nI k ≤ (1000 : Int32) from ple (b := 1000) q2 (by decide)), show (0 : Int32) = nI 0 from rfl, e1]
          rfl
        · rw [fX8_advance, ol_tC, show fX8_isIn (nI k) 1 1000 = some 1 from qisIn1 (lo := 1) (hi := 1000) hk1 (by omega) q2 (by decide)]
          simp only [ob]
          rw [qmay1 (tC_t M) (by decide)]
          simp only [obS, one0, if_false]
          exact e2
        · rw [sI_n (by decide), fM 0 (by decide)]; exact tC_t M
        · refine RR_now h hm ⟨ua a' 34 (a' 34 + y), n', w', c', gR_sI g' (by decide) (by rw [g'.1 34 (by decide), zadd]), hm, ?_, oD_e D' (fun i _ _ => ua_n (by omega)) D'.2.1, oB_e B' rfl⟩ (fun i hi => fC i (by omega)) (fun i h1 _ _ => by rw [sI_n h1]; exact fM i h1)
          exact oS_of T'
      · exact bad (Or.inr (nple (b := 1000) (by omega) hk1)) (qisInN (lo := 1) (hi := 1000) hk1 (by omega) (by decide))
/-! copies -/
theorem cp0 {b b2 : Nat} (hb : b2 ≠ b) (h : cBt st.1 b2 a) : ∃ st', fX0_copyFrom b b2 st = some ((), st') ∧ cBt st'.1 b a ∧ ∀ i, i ≠ b → st'.1 i = st.1 i := by
  obtain ⟨h0, h1, h2, h3, h4, h5⟩ := h
  refine ⟨_, rfl, ?_, fun i hi => by simp only [sI_n hi]⟩
  simp only [cBt, sI_r, sI_n hb, Nat.reduceEqDiff, if_true, if_false, Nat.zero_ne_one, Nat.one_ne_zero, Nat.succ_ne_zero, h0, h1, h2, h3, h4, h5, and_true]
theorem cp3 {b b2 : Nat} (hb : b2 ≠ b) (h : cRu st.1 b2 a) : ∃ st', fX3_copyFrom b b2 st = some ((), st') ∧ cRu st'.1 b a ∧ ∀ i, i ≠ b → st'.1 i = st.1 i := by
  obtain ⟨h0, h1, h2, h3⟩ := h
  refine ⟨_, rfl, ?_, fun i hi => by simp only [sI_n hi]⟩
  simp only [cRu, sI_r, sI_n hb, Nat.reduceEqDiff, if_true, if_false, Nat.zero_ne_one, Nat.one_ne_zero, Nat.succ_ne_zero, h0, h1, h2, h3, and_true]
theorem cp2_l {d d2 : Nat} (hd : d2 + 5 ≤ d ∨ d + 5 ≤ d2) (ke : uSt → Option (Unit × uSt)) : ∀ j k fu (st : uSt), k + j = 5 → j < fu → ∃ st', fX2_copyFrom_10 d d2 ke fu st (nI k) = ke st' ∧ (∀ i, i < 5 → k ≤ i → st'.1 (d + 1) i = st.1 (d2 + 1) i ∧ st'.1 (d + 2) i = st.1 (d2 + 2) i ∧ st'.1 (d + 3) i = st.1 (d2 + 3) i ∧ st'.1 (d + 4) i = vp_nar .boolean (st.1 (d2 + 4) i)) ∧ (∀ i, i < k → st'.1 (d + 1) i = st.1 (d + 1) i ∧ st'.1 (d + 2) i = st.1 (d + 2) i ∧ st'.1 (d + 3) i = st.1 (d + 3) i ∧ st'.1 (d + 4) i = st.1 (d + 4) i) ∧ ∀ i, i ≤ d ∨ d + 5 ≤ i → st'.1 i = st.1 i := by
  intro j
  induction j with
  | zero =>
    intro k fu st hk hf
    obtain ⟨fu, rfl⟩ : ∃ x, fu = x + 1 := ⟨fu - 1, by omega⟩
    obtain rfl : k = 5 := by omega
    refine ⟨st, ?_, fun i h1 h2 => absurd h1 (by omega), fun i _ => ⟨rfl, rfl, rfl, rfl⟩, fun _ _ => rfl⟩
    rw [fX2_copyFrom_10, if_pos (show (5 : Int32) ≤ nI 5 from Int32.le_refl _)]
  | succ j ih =>
    intro k fu st hk hf
    obtain ⟨fu, rfl⟩ : ∃ x, fu = x + 1 := ⟨fu - 1, by omega⟩
    have ex : ∃ S : uSt, fX2_copyFrom_10 d d2 ke (fu + 1) st (nI k) = fX2_copyFrom_10 d d2 ke fu S (nI (k + 1)) ∧ (∀ i, S.1 (d + 1) i = if i = k then st.1 (d2 + 1) k else st.1 (d + 1) i) ∧ (∀ i, S.1 (d + 2) i = if i = k then st.1 (d2 + 2) k else st.1 (d + 2) i) ∧ (∀ i, S.1 (d + 3) i = if i = k then st.1 (d2 + 3) k else st.1 (d + 3) i) ∧ (∀ i, S.1 (d + 4) i = if i = k then vp_nar .boolean (st.1 (d2 + 4) k) else st.1 (d + 4) i) ∧ ∀ i, i ≤ d ∨ d + 5 ≤ i → S.1 i = st.1 i := by
      rw [fX2_copyFrom_10, if_neg (show ¬ (5 : Int32) ≤ nI k from nple (a := 5) (by omega) (by decide)), zin (by omega) (by omega), zcl (by omega)]
      simp only [og, ol, zinc]
      refine ⟨_, rfl, fun i => ?_, fun i => ?_, fun i => ?_, fun i => ?_, fun i hi => ?_⟩
      · rw [sI_n (by omega), sI_n (by omega), sI_n (by omega), sI_r]
      · rw [sI_n (by omega), sI_n (by omega), sI_r, sI_n (by omega), sI_n (by omega)]
      · rw [sI_n (by omega), sI_r, sI_n (by omega), sI_n (by omega), sI_n (by omega), sI_n (by omega)]
      · rw [sI_r, sI_n (by omega), sI_n (by omega), sI_n (by omega), sI_n (by omega), sI_n (by omega), sI_n (by omega)]
      · rw [sI_n (by omega), sI_n (by omega), sI_n (by omega), sI_n (by omega)]
    obtain ⟨S, e0, a1, a2, a3, a4, a5⟩ := ex
    obtain ⟨st', e1, e2, e3, e4⟩ := ih (k + 1) fu S (by omega) (by omega)
    refine ⟨st', by rw [e0, e1], fun i h1 h2 => ?_, fun i h1 => ?_, fun i hi => by rw [e4 i hi, a5 i hi]⟩
    · by_cases q : i = k
      · obtain ⟨f1, f2, f3, f4⟩ := e3 i (by omega)
        rw [f1, f2, f3, f4, a1, a2, a3, a4, if_pos q, if_pos q, if_pos q, if_pos q, q]
        exact ⟨rfl, rfl, rfl, rfl⟩
      · obtain ⟨f1, f2, f3, f4⟩ := e2 i h1 (by omega)
        rw [f1, f2, f3, f4, a5 _ (by omega), a5 _ (by omega), a5 _ (by omega), a5 _ (by omega)]
        exact ⟨rfl, rfl, rfl, rfl⟩
    · obtain ⟨f1, f2, f3, f4⟩ := e3 i (by omega)
      rw [f1, f2, f3, f4, a1, a2, a3, a4, if_neg (by omega), if_neg (by omega), if_neg (by omega), if_neg (by omega)]
      exact ⟨rfl, rfl, rfl, rfl⟩
theorem cp2 {d d2 : Nat} (hd : d2 + 5 ≤ d ∨ d + 5 ≤ d2) (h9 : a 9 ≤ 5) (h : cDv st.1 d2 a) : ∃ st', fX2_copyFrom d d2 st = some ((), st') ∧ cDv st'.1 d a ∧ ∀ i, i < d ∨ d + 5 ≤ i → st'.1 i = st.1 i := by
  obtain ⟨st', e1, e2, e3, e4⟩ := cp2_l hd (fun st_8 => some ((), st_8)) 5 0 FU (sI st d 0 (st.1 d2 0)) (by omega) (FU_lt (by omega))
  refine ⟨st', by rw [fX2_copyFrom]; simp only [ol]; exact e1, ⟨?_, fun i hi => ?_, fun i hi => ?_⟩, fun i hi => by rw [e4 i (by omega), sI_n (by omega)]⟩
  · rw [e4 d (by omega), sI_r, if_pos rfl]; exact h.1
  · obtain ⟨f1, f2, f3, f4⟩ := e2 i (by omega) (by omega)
    rw [f1, f2, f3, sI_n (by omega), sI_n (by omega), sI_n (by omega)]
    exact h.2.1 i hi
  · obtain ⟨f1, f2, f3, f4⟩ := e2 i hi (by omega)
    rw [f4, sI_n (by omega), h.2.2 i hi]
    cases (a 25).testBit i <;> rfl
theorem cpBlock {c c2 k k2 : Nat} (hk : k < 24) (hk2 : k2 < 24) : ∃ st', fX1_copyBlock c c2 (nI k2) (nI k) st = some ((), st') ∧ (c2 + 5 ≤ c ∨ c + 5 ≤ c2 ∨ c2 = c → ∀ i, (st'.1 (c + 1) i = if i = k then st.1 (c2 + 1) k2 else st.1 (c + 1) i) ∧ (st'.1 (c + 2) i = if i = k then st.1 (c2 + 2) k2 else st.1 (c + 2) i) ∧ (st'.1 (c + 3) i = if i = k then st.1 (c2 + 3) k2 else st.1 (c + 3) i) ∧ (st'.1 (c + 4) i = if i = k then st.1 (c2 + 4) k2 else st.1 (c + 4) i)) ∧ ∀ i, i ≤ c ∨ c + 5 ≤ i → st'.1 i = st.1 i := by
  rw [fX1_copyBlock, zin (by omega) (by omega), zin (by omega) (by omega), zcl (by omega), zcl (by omega)]
  simp only [og, ol]
  refine ⟨_, rfl, fun hd i => ⟨?_, ?_, ?_, ?_⟩, fun i hi => ?_⟩
  · rw [sI_n (by omega), sI_n (by omega), sI_n (by omega), sI_r]
  · rw [sI_n (by omega), sI_n (by omega), sI_r, sI_n (by omega), sI_n (by omega)]
  · rw [sI_n (by omega), sI_r, sI_n (by omega), sI_n (by omega), sI_n (by omega), sI_n (by omega)]
  · rw [sI_r, sI_n (by omega), sI_n (by omega), sI_n (by omega), sI_n (by omega), sI_n (by omega), sI_n (by omega)]
  · rw [sI_n (by omega), sI_n (by omega), sI_n (by omega), sI_n (by omega)]
theorem cp1_l {c c2 : Nat} (hd : c2 + 5 ≤ c ∨ c + 5 ≤ c2) (hn : n ≤ 24) (ke : uSt → Option (Unit × uSt)) : ∀ j k fu (st : uSt), k + j = n → st.1 c 0 = nI n → cCa st.1 c2 n w → j < fu → (∀ i, i < k → st.1 (c + 1) i = nI (w 0 i / 100) ∧ st.1 (c + 2) i = nI (w 0 i % 100) ∧ st.1 (c + 3) i = nI (w 1 i) ∧ st.1 (c + 4) i = nI (w 2 i)) → ∃ st', fX1_copyFrom_10 c c2 ke fu st (nI k) = ke st' ∧ cCa st'.1 c n w ∧ ∀ i, i < c ∨ c + 5 ≤ i → st'.1 i = st.1 i := by
  intro j
  induction j with
  | zero =>
    intro k fu st hk h0 h2 hf hl
    obtain ⟨fu, rfl⟩ : ∃ x, fu = x + 1 := ⟨fu - 1, by omega⟩
    obtain rfl : k = n := by omega
    refine ⟨st, ?_, ⟨h0, hl⟩, fun _ _ => rfl⟩
    rw [fX1_copyFrom_10, h0, if_pos (Int32.le_refl _)]
  | succ j ih =>
    intro k fu st hk h0 h2 hf hl
    obtain ⟨fu, rfl⟩ : ∃ x, fu = x + 1 := ⟨fu - 1, by omega⟩
    obtain ⟨S, e0, e1, e2⟩ := cpBlock (st := st) (c := c) (c2 := c2) (k := k) (k2 := k) (by omega) (by omega)
    have e1 := e1 (by omega)
    have h2' : cCa S.1 c2 n w := cCa_e h2 (fun i _ _ => e2 i (by omega))
    obtain ⟨st', f1, f2, f3⟩ := ih (k + 1) fu S (by omega) (by rw [e2 c (by omega)]; exact h0) h2' (by omega) (fun i hi => by
      obtain ⟨x1, x2, x3, x4⟩ := e1 i
      rw [x1, x2, x3, x4]
      by_cases q : i = k
      · rw [if_pos q, if_pos q, if_pos q, if_pos q, q]
        exact h2.2 k (by omega)
      · rw [if_neg q, if_neg q, if_neg q, if_neg q]
        exact hl i (by omega))
    refine ⟨st', ?_, f2, fun i hi => by rw [f3 i hi, e2 i (by omega)]⟩
    rw [fX1_copyFrom_10, h0, if_neg (nI_ge (by omega) (by omega)), e0]
    simp only [obV, ol, zinc]
    exact f1
theorem cp1 {c c2 : Nat} (hd : c2 + 5 ≤ c ∨ c + 5 ≤ c2) (hn : n ≤ 24) (h : cCa st.1 c2 n w) : ∃ st', fX1_copyFrom c c2 st = some ((), st') ∧ cCa st'.1 c n w ∧ ∀ i, i < c ∨ c + 5 ≤ i → st'.1 i = st.1 i := by
  obtain ⟨st', e1, e2, e3⟩ := cp1_l (w := w) hd hn (fun st_5 => some ((), st_5)) n 0 FU (sI st c 0 (st.1 c2 0)) (by omega) (by rw [sI_r, if_pos rfl]; exact h.1) (cCa_e h (fun i _ _ => sI_n (by omega))) (FU_lt (by omega)) (fun i hi => absurd hi (by omega))
  refine ⟨st', by rw [fX1_copyFrom]; simp only [ol]; exact e1, e2, fun i hi => by rw [e3 i hi, sI_n (by omega)]⟩
theorem cp6 {s s2 : Nat} (hd : s2 + 14 ≤ s ∨ s + 14 ≤ s2) (h9 : a 9 ≤ 5) (hn : n ≤ 24) (h27 : a 27 ≤ 1) (h : cS st.1 s2 a n w) : ∃ st', fX6_copyFrom s s2 st = some ((), st') ∧ cS st'.1 s a n w ∧ ∀ i, i < s ∨ s + 14 ≤ i → st'.1 i = st.1 i := by
  obtain ⟨k1, k2, k3, k4, k5, k6, k7⟩ := h
  obtain ⟨S1, e1, f1, g1⟩ := cp0 (b := s + 1) (b2 := s2 + 1) (by omega) k1
  obtain ⟨S2, e2, f2, g2⟩ := cp3 (st := S1) (b := s + 2) (b2 := s2 + 2) (by omega) (cRu_e k2 (g1 _ (by omega)) (fun _ _ _ => rfl))
  obtain ⟨S3, e3, f3, g3⟩ := cp2 (st := S2) (d := s + 3) (d2 := s2 + 3) (by omega) h9 (cDv_e k3 h9 (fun i _ _ => by rw [g2 i (by omega), g1 i (by omega)]) (fun _ _ _ => rfl))
  obtain ⟨S4, e4, f4, g4⟩ := cp1 (st := S3) (c := s + 8) (c2 := s2 + 8) (by omega) hn (cCa_e k4 (fun i _ _ => by rw [g3 i (by omega), g2 i (by omega), g1 i (by omega)]))
  have G4 : ∀ i, i < s ∨ s + 14 ≤ i ∨ i = s ∨ i = s + 13 → S4.1 i = st.1 i := fun i hi => by rw [g4 i (by omega), g3 i (by omega), g2 i (by omega), g1 i (by omega)]
  have o : ∀ (S : uSt) (id : Nat) (row : Nat → Int32) (i : Nat), i ≠ id → (sC S id row).1 i = S.1 i := fun S id row i hi => by show (if i = id then row else S.1 i) = _; rw [if_neg hi]
  have p : ∀ (S : uSt) (id : Nat) (row : Nat → Int32), (sC S id row).1 id = row := fun S id row => by show (if id = id then row else S.1 id) = _; rw [if_pos rfl]
  have b6 : isB (st.1 s2 6) = true := by rw [k7]; rcases (show a 27 = 0 ∨ a 27 = 1 by omega) with e | e <;> rw [e] <;> decide
  refine ⟨sI (sI (sC S4 (s + 13) (va_cpy (S4.1 (s2 + 13)) (S4.1 (s + 13)) 0 0 7)) s 5 (st.1 s2 5)) s 6 (st.1 s2 6), ?_, ?_, fun i hi => ?_⟩
  · rw [fX6_copyFrom, e1]
    simp only [obV]
    rw [e2]
    simp only []
    rw [e3]
    simp only []
    rw [e4]
    simp only [ol]
    rw [sI_n (show s2 ≠ s by omega), o _ _ _ _ (show s2 ≠ s + 13 by omega), G4 s2 (by omega), b6]
    rfl
  · have ho : ∀ i, i ≠ s → i ≠ s + 13 → (sI (sI (sC S4 (s + 13) (va_cpy (S4.1 (s2 + 13)) (S4.1 (s + 13)) 0 0 7)) s 5 (st.1 s2 5)) s 6 (st.1 s2 6)).1 i = S4.1 i := fun i h1 h2 => by rw [sI_n h1, sI_n h1, o _ _ _ _ h2]
    refine ⟨cBt_e f1 ?_ (fun _ _ => rfl), cRu_e f2 ?_ (fun _ _ _ => rfl), cDv_e f3 h9 (fun i _ _ => ?_) (fun _ _ _ => rfl), cCa_e f4 (fun i _ _ => ho i (by omega) (by omega)), fun j hj => ?_, ?_, ?_⟩
    · rw [ho _ (by omega) (by omega), g4 _ (by omega), g3 _ (by omega), g2 _ (by omega)]
    · rw [ho _ (by omega) (by omega), g4 _ (by omega), g3 _ (by omega)]
    · rw [ho _ (by omega) (by omega), g4 _ (by omega)]
    · rw [sI_n (by omega), sI_n (by omega), p]
      show (if 0 ≤ j ∧ j < 0 + 7 then S4.1 (s2 + 13) (0 + (j - 0)) else _) = _
      rw [if_pos ⟨by omega, by omega⟩, G4 _ (by omega), show 0 + (j - 0) = j by omega]
      exact k5 j hj
    · rw [sI_r, if_neg (by decide), sI_r, if_pos rfl]; exact k6
    · rw [sI_r, if_pos rfl]; exact k7
  · rw [sI_n (by omega), sI_n (by omega), o _ _ _ _ (by omega), G4 i (by omega)]
end Q16
