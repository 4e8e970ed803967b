/-! PURE PART 34: valueAfter, energyFor -/
section Q34
variable {m : Nat} {C M st : uSt} {a : Nat → Nat} {n : Nat} {w : Nat → Nat → Nat}
theorem vz_l {L : Nat} (hL : L ≤ 1000) (ke : uSt → Option ((Int32 ⊕ String) × uSt)) : ∀ j A C k fu, k + j = L → j < fu → cBt C.1 9 A → (1 ≤ A 0 ∧ A 0 ≤ 500) → A 1 = 0 → A 28 ≤ 300000 → A 3 ≤ 50 → (1 ≤ A 4 ∧ A 4 ≤ 1000) → ∃ C', fX7_valueAfter_37 (nI L) ke fu C (nI k) = ke C' ∧ C'.1 9 1 = nI 0 ∧ ∀ i, i ≠ 9 → C'.1 i = C.1 i := by
  intro j
  induction j with
  | zero =>
    intro A C k fu hk hf hb h0 h1 h28 h3 h4
    obtain ⟨fu, rfl⟩ : ∃ x, fu = x + 1 := ⟨fu - 1, by omega⟩
    obtain rfl : k = L := by omega
    exact ⟨C, by rw [fX7_valueAfter_37, if_pos (Int32.le_refl _)], by rw [hb.2.1, h1], fun _ _ => rfl⟩
  | succ j ih =>
    intro A C k fu hk hf hb h0 h1 h28 h3 h4
    obtain ⟨fu, rfl⟩ : ∃ x, fu = x + 1 := ⟨fu - 1, by omega⟩
    obtain ⟨C1, e1, e2, e3⟩ := qdrain hb h0 h28 (by omega) h3 h4
    have mle := mnD_le A
    have s1 := spd_1 (a := A) (mnD A)
    have sr := spc_range (a := A) (e := mnD A) h0.1
    have s28 := spd_28 (a := A) (mnD A)
    have s0 := spd_0 (a := A) (mnD A)
    have s3 : spd A (mnD A) 3 = A 3 := rfl
    have s4 : spd A (mnD A) 4 = A 4 := rfl
    generalize spd A (mnD A) = A1 at *
    obtain ⟨C', f1, f2, f3⟩ := ih A1 C1 (k + 1) fu (by omega) (by omega) e2 ⟨by omega, by omega⟩ (by omega) (by omega) (by omega) ⟨by omega, by omega⟩
    refine ⟨C', ?_, f2, fun i hi => by rw [f3 i hi, e3 i hi]⟩
    rw [fX7_valueAfter_37, if_neg (nple (by omega) (by omega)), e1, obV_st, ol_e, zinc]
    exact f1
theorem va_l {L : Nat} (hL : L ≤ 1000) (ke : uSt → Option ((Int32 ⊕ String) × uSt)) (ke' : uSt → Option (Int32 × uSt)) : ∀ j A C M k fu fu', k + j = L → j < fu → j < fu' → cBt C.1 9 A → gR (M.1 1) A n w → (1 ≤ A 0 ∧ A 0 ≤ 500) → A 1 ≤ 500 → A 28 + A 1 ≤ 300000 → A 3 ≤ 50 → (1 ≤ A 4 ∧ A 4 ≤ 1000) → ∃ C' M' A', fX7_valueAfter_37 (nI L) ke fu C (nI k) = ke C' ∧ fX8_valueAfter_29 (nI L) ke' fu' M (nI k) = ke' M' ∧ C'.1 9 1 = nI (A' 1) ∧ gR (M'.1 1) A' n w ∧ A' 1 ≤ 500 ∧ (∀ i, i ≠ 0 → i ≠ 1 → i ≠ 28 → A' i = A i) ∧ (∀ i, i ≠ 9 → C'.1 i = C.1 i) ∧ ∀ i, i ≠ 1 → M'.1 i = M.1 i := by
  intro j
  induction j with
  | zero =>
    intro A C M k fu fu' hk hf hf' hb hg h0 h1 h28 h3 h4
    obtain ⟨fu, rfl⟩ : ∃ x, fu = x + 1 := ⟨fu - 1, by omega⟩
    obtain ⟨fu', rfl⟩ : ∃ x, fu' = x + 1 := ⟨fu' - 1, by omega⟩
    obtain rfl : k = L := by omega
    exact ⟨C, M, A, by rw [fX7_valueAfter_37, if_pos (Int32.le_refl _)], by rw [fX8_valueAfter_29, if_pos (Int32.le_refl _)], hb.2.1, hg, h1, fun _ _ _ _ => rfl, fun _ _ => rfl, fun _ _ => rfl⟩
  | succ j ih =>
    intro A C M k fu fu' hk hf hf' hb hg h0 h1 h28 h3 h4
    obtain ⟨fu', rfl⟩ : ∃ x, fu' = x + 1 := ⟨fu' - 1, by omega⟩
    have m1 := hg.1 1 (by decide)
    by_cases q : A 1 = 0
    · obtain ⟨C', e1, e2, e3⟩ := vz_l hL ke (j + 1) A C k fu hk hf hb h0 q (by omega) h3 h4
      refine ⟨C', M, A, e1, ?_, by rw [e2, q], hg, h1, fun _ _ _ _ => rfl, e3, fun _ _ => rfl⟩
      rw [fX8_valueAfter_29, if_neg (nple (by omega) (by omega)), m1, q, if_pos (show nI 0 ≤ (0 : Int32) by decide)]
    · obtain ⟨fu, rfl⟩ : ∃ x, fu = x + 1 := ⟨fu - 1, by omega⟩
      obtain ⟨C1, e1, e2, e3⟩ := qdrain hb h0 (by omega) h1 h3 h4
      obtain ⟨M1, g1, g2, g3⟩ := qminute hg h0 (by omega) h1 h3 h4
      have mle := mnD_le A
      have s1 := spd_1 (a := A) (mnD A)
      have sr := spc_range (a := A) (e := mnD A) h0.1
      have s28 := spd_28 (a := A) (mnD A)
      have s0 := spd_0 (a := A) (mnD A)
      have so : ∀ i, i ≠ 0 → i ≠ 1 → i ≠ 28 → spd A (mnD A) i = A i := fun i => spd_o
      generalize spd A (mnD A) = A1 at *
      have s3 := so 3 (by decide) (by decide) (by decide)
      have s4 := so 4 (by decide) (by decide) (by decide)
      obtain ⟨C', M', A', f1, f2, f3, f4, f5, f6, f7, f8⟩ := ih A1 C1 M1 (k + 1) fu fu' (by omega) (by omega) (by omega) e2 g2 ⟨by omega, by omega⟩ (by omega) (by omega) (by omega) ⟨by omega, by omega⟩
      refine ⟨C', M', A', ?_, ?_, f3, f4, f5, fun i i0 i1 i28 => by rw [f6 i i0 i1 i28, so i i0 i1 i28], fun i hi => by rw [f7 i hi, e3 i hi], fun i hi => by rw [f8 i hi, g3 i hi]⟩
      · rw [fX7_valueAfter_37, if_neg (nple (by omega) (by omega)), e1, obV_st, ol_e, zinc]
        exact f1
      · rw [fX8_valueAfter_29, if_neg (nple (by omega) (by omega)), m1, if_neg (show ¬ nI (A 1) ≤ (0 : Int32) from nple (b := 0) (by omega) (by omega)), g1, obV_st, ol_e, zinc]
        exact f2
theorem c_valueAfter (h : RR m C M) (hm : m < 512) (x : Int32) : cKI (fL_valueAfter x) (fX8_valueAfter x) (RR (m + 1)) C M := by
  obtain ⟨a, n, w, hc, hg, hk⟩ := RR_un h
  obtain ⟨hn, h9, hp⟩ := oK_p hk
  obtain ⟨s0, s1, s2, s3, s4, s5, s6, s7, s8, s9, s10, s11, s12, s13⟩ := hk.2.1
  have bad : (x < 0 ∨ ¬ x ≤ 1000) → fX8_isIn x 0 1000 = some 0 → cKI (fL_valueAfter x) (fX8_valueAfter x) (RR (m + 1)) C M := by
    intro q e
    refine endE h hm (k := 1) (r := 0) (by decide) ?_ ?_
    · rw [fL_valueAfter, fX7_valueAfter, oj0_e]
      by_cases q1 : x < 0
      · rw [if_pos q1]
        simp only [olx, if_true]
      · rw [if_neg q1, if_neg (by rcases q with q | q; exact absurd q q1; exact q)]
        simp only [olx, if_true]
    · rw [fX8_valueAfter, ol_tC, e, ob_s, qmay0 (tC_t M) (by decide), obS_s, if_pos rfl]
  rcases zn0 x with q | ⟨k, hk1, rfl⟩
  · exact bad (Or.inl q) (qisIn_lo q)
  · by_cases q2 : k ≤ 1000
    · have hm5 := hk.1
      obtain ⟨C1, e1, e2, e3⟩ := cp0 (st := C) (b := 9) (b2 := 15 + 1) (by decide) hc.1
      obtain ⟨M1, g1, g2, g3⟩ := qkeeps (tC M)
      have hM1 : gR (M1.1 1) a n w := by rw [g3 1 (by decide)]; exact hg
      obtain ⟨C2, M2, A, f1, f2, f3, f4, f5, f6, f7, f8⟩ := va_l q2 (fun st_6 => ob (fX6_usableBlocks 15 st_6) (fun x_7 => obS (fX7_valueFor x_7 (st_6.1 9 1) st_6) (fun x_9 st_8 => some (.inl x_9, st_8)))) (fun st_9 => oj2 (fun (v_11 : Int32) (st_12 : uSt) => obV (fX8_comesBack st_12) (fun st_14 => some (v_11, st_14))) (fun j_10 => (if (st_9.1 1 1) = 0 then (j_10 (0 : Int32) st_9) else obS (fX8_valueWithin (st_9.1 1 25) (st_9.1 1 1) st_9) (fun x_16 st_15 => (j_10 x_16 st_15))))) k a C1 M1 0 FU FU (by omega) (FU_lt (by omega)) (FU_lt (by omega)) e2 hM1 ⟨s0, s1⟩ (by omega) (by omega) s5 ⟨s6, s7⟩
      have F2 : ∀ i, i ≠ 9 → C2.1 i = C.1 i := fun i hi => by rw [f7 i hi, e3 i hi]
      have a25 : A 25 = a 25 := f6 25 (by decide) (by decide) (by decide)
      have hd2 : cDv C2.1 (15 + 3) A := cDv_e hc.2.2.1 h9 (fun i _ _ => F2 i (by omega)) (fun i _ _ => f6 i (by omega) (by omega) (by omega))
      have hc2 : cCa C2.1 (15 + 8) n w := cCa_e hc.2.2.2.1 (fun i _ _ => F2 i (by omega))
      have hO2 : oB n A w := oB_e hk.2.2.2 (f6 9 (by decide) (by decide) (by decide))
      have hD2 : oD A := oD_e hk.2.2.1 (fun i _ _ => f6 i (by omega) (by omega) (by omega)) (by rw [a25]; exact hk.2.2.1.2.1)
      obtain ⟨v, C3, M3, v0, v1, v2, v3, v4, v5⟩ := val_both (F := A 25) (E := A 1) hd2 hc2 f4 hO2 hD2 f5
      have us : fX6_usableBlocks 15 C2 = some (nI (bS (usD (A 25) w) n)) := qX6_usable hd2 hc2 hn hp
      have K7 : fX7_valueAfter (nI k) C = some (.inl (nI v), C3) := by
        rw [fX7_valueAfter, oj0_e, if_neg (nlt0 hk1), if_pos (show nI k ≤ (1000 : Int32) from ple (b := 1000) q2 (by decide)), e1, obV_st]
        refine f1.trans ?_
        rw [us, ob_s, f3, v1, obS_s]
      have K8 : ∃ M4, M4.1 = M2.1 ∧ fX8_valueAfter (nI k) M = obV (fX8_comesBack M4) (fun st_14 => some (nI v, st_14)) := by
        have B : ∀ r, oj2 (fun (v_11 : Int32) (st_12 : uSt) => obV (fX8_comesBack st_12) (fun st_14 => some (v_11, st_14))) (fun j_10 => (if (M2.1 1 1) = 0 then (j_10 (0 : Int32) M2) else obS (fX8_valueWithin (M2.1 1 25) (M2.1 1 1) M2) (fun x_16 st_15 => (j_10 x_16 st_15)))) = r → fX8_valueAfter (nI k) M = r := by
          intro r hr
          rw [fX8_valueAfter, ol_tC, show fX8_isIn (nI k) 0 1000 = some 1 from qisIn1 (lo := 0) (hi := 1000) hk1 (by omega) q2 (by decide), ob_s, qmay1 (tC_t M) (by decide), obS_s, if_neg (by decide), g1, obV_st]
          exact f2.trans hr
        have oj2_e : ∀ (K : Int32 → uSt → Option (Int32 × uSt)) (T : (Int32 → uSt → Option (Int32 × uSt)) → Option (Int32 × uSt)), oj2 K T = T K := fun _ _ => rfl
        by_cases q : A 1 = 0
        · refine ⟨M2, rfl, B _ ?_⟩
          rw [oj2_e, f4.1 1 (by decide), q, if_pos (show nI 0 = (0 : Int32) from rfl), v5 q]
          rfl
        · refine ⟨M3, v4, B _ ?_⟩
          rw [oj2_e, f4.1 1 (by decide), if_neg (show ¬ nI (A 1) = (0 : Int32) from peqn (b := 0) q (by omega) (by decide)), f4.1 25 (by decide), v3, obS_s]
      obtain ⟨M4, k1, k2⟩ := K8
      obtain ⟨M5, o1, o2, o3⟩ := qcomesBack M4
      rw [o1, obV_st] at k2
      refine endG (C' := C3) (M' := M5) (v := nI v) ?_ k2 ?_ ?_
      · rw [fL_valueAfter, K7]
        rfl
      · rw [o3 0 (by decide), k1, f8 0 (by decide), g3 0 (by decide)]; exact tC_t M
      · refine RR_now h hm ⟨a, n, w, cS_fr hc (fun i _ _ => by rw [v2, F2 i (by omega)]), gR_cp hg hn (fun i hi => ?_), oK_mono hk (Nat.le_succ m) hm⟩ (fun i hi => by rw [v2, F2 i (by omega)]) (fun i i1 _ i4 => by rw [o3 i i1, k1, f8 i i1, g3 i i4])
        rw [o2 i hi, k1, f8 4 (by decide), g2 i hi]
    · exact bad (Or.inr (nple (b := 1000) (by omega) hk1)) (qisInN (lo := 0) (hi := 1000) hk1 (by omega) (by decide))
/-- the first energy of a value, from e on -/
def fE (D : Nat → Int) (v : Int) : Nat → Nat → Int32
  | 0, _ => -1
  | j + 1, e => if vl D e < v then fE D v j (e + 1) else nI e
theorem fE_or (D : Nat → Int) (v : Int) : ∀ j e, fE D v j e = -1 ∨ ∃ k, k < e + j ∧ fE D v j e = nI k := by
  intro j
  induction j with
  | zero => intro e; exact Or.inl rfl
  | succ j ih =>
    intro e
    rw [fE]
    split
    · rcases ih (e + 1) with h | ⟨k, h1, h2⟩
      · exact Or.inl h
      · exact Or.inr ⟨k, by omega, h2⟩
    · exact Or.inr ⟨e, by omega, rfl⟩
theorem le7_l {F V : Nat} (hO : oB n a w) (hV : V ≤ 2376) (h : ∀ e, e ≤ 500 → C.2.1 6 e = jI (sh (bT a w F n e))) : ∀ j e fu, e + j = 501 → j < fu → fX4_leastEnergy_12 15 (nI V) C (some (-1, C)) fu (nI e) = some (fE (bT a w F n) V j e, C) := by
  intro j
  induction j with
  | zero =>
    intro e fu he hf
    obtain ⟨fu, rfl⟩ : ∃ x, fu = x + 1 := ⟨fu - 1, by omega⟩
    obtain rfl : e = 501 := by omega
    rw [fX4_leastEnergy_12, if_pos (show (500 : Int32) < nI 501 by decide)]
    rfl
  | succ j ih =>
    intro e fu he hf
    obtain ⟨fu, rfl⟩ : ∃ x, fu = x + 1 := ⟨fu - 1, by omega⟩
    obtain ⟨v1, v2, v3, v4, v5, v6⟩ := bT_v (F := F) hO e
    have ie := ih (e + 1) fu (by omega) (by omega)
    rw [fX4_leastEnergy_12, if_neg (show ¬ (500 : Int32) < nI e from nplt (a := 500) (by omega) (by decide)), zin (by omega) (by omega), zcl (by omega), og_t, og_t, h e (by omega), j_shr v6, v5, (val_t hV).2, ol_e, zinc, ie, fE]
    by_cases q : sh (bT a w F n e) < 0
    · have qv : vl (bT a w F n) e = -1 := by
        have : bT a w F n e = -1 := by
          have := v1.1
          unfold sh at q
          split at q <;> omega
        unfold vl
        rw [if_pos this]
      rw [if_pos ((lg_cmp_lt _ _).mpr (by rw [jI_0, jI_lt v6 ok_0]; exact q)), qv, if_pos (by omega)]
    · rw [if_neg (fun h => q (by have h := (lg_cmp_lt _ _).mp h; rw [jI_0, jI_lt v6 ok_0] at h; exact h))]
      by_cases q2 : vl (bT a w F n) e < (V : Int)
      · rw [if_pos ((lg_cmp_lt _ _).mpr ((jI_lt ⟨v3, by omega⟩ ⟨by omega, by omega⟩).mpr q2)), if_pos q2]
      · rw [if_neg (fun h => q2 ((jI_lt ⟨v3, by omega⟩ ⟨by omega, by omega⟩).mp ((lg_cmp_lt _ _).mp h))), if_neg q2]
theorem le8_l {F V : Nat} (hO : oB n a w) (hV : V ≤ 2376) (h : ∀ e, e ≤ 500 → st.2.1 9 e = jI (bT a w F n e)) (ke : Option (Int32 × uSt)) : ∀ j e fu, e + j = 501 → j < fu → fX8_energyFor_36 (nI V) st ke fu (nI e) = if fE (bT a w F n) V j e = -1 then ke else some (fE (bT a w F n) V j e, st) := by
  intro j
  induction j with
  | zero =>
    intro e fu he hf
    obtain ⟨fu, rfl⟩ : ∃ x, fu = x + 1 := ⟨fu - 1, by omega⟩
    obtain rfl : e = 501 := by omega
    rw [fX8_energyFor_36, if_pos (show (500 : Int32) < nI 501 by decide), fE, if_pos rfl]
  | succ j ih =>
    intro e fu he hf
    obtain ⟨fu, rfl⟩ : ∃ x, fu = x + 1 := ⟨fu - 1, by omega⟩
    obtain ⟨v1, v2, v3, v4, v5, v6⟩ := bT_v (F := F) hO e
    have ie := ih (e + 1) fu (by omega) (by omega)
    rw [fX8_energyFor_36, if_neg (show ¬ (500 : Int32) < nI e from nplt (a := 500) (by omega) (by decide)), qvalueBy hO (by omega) (h e (by omega)), ob_s, fE]
    have iv : (iV (vl (bT a w F n) e) < nI V) = (vl (bT a w F n) e < (V : Int)) := by
      have h1 := iV_le (x := (V : Int)) (y := vl (bT a w F n) e) ⟨by omega, by omega⟩ ⟨v3, v4⟩
      have h2 : iV (V : Int) = nI V := by unfold iV; rw [if_neg (by omega)]; rfl
      rw [h2] at h1
      apply propext
      rw [← Int32.not_le, h1]
      omega
    by_cases q2 : vl (bT a w F n) e < (V : Int)
    · rw [if_pos (by rw [iv]; exact q2), if_pos q2, ol_e, zinc]
      exact ie
    · rw [if_neg (by rw [iv]; exact q2), if_neg q2, if_neg (zneg (by omega))]
theorem c_energyFor (h : RR m C M) (hm : m < 512) (x : Int32) : cKI (fL_energyFor x) (fX8_energyFor x) (RR (m + 1)) C M := by
  obtain ⟨a, n, w, hc, hg, hk⟩ := RR_un h
  obtain ⟨hn, h9, hp⟩ := oK_p hk
  have bad : (x < 0 ∨ ¬ x ≤ 2376) → fX8_isIn x 0 2376 = some 0 → cKI (fL_energyFor x) (fX8_energyFor x) (RR (m + 1)) C M := by
    intro q e
    refine endE h hm (k := 1) (r := 0) (by decide) ?_ ?_
    · rw [fL_energyFor, fX7_energyFor, oj0_e]
      by_cases q1 : x < 0
      · rw [if_pos q1]
        simp only [olx, if_true]
      · rw [if_neg q1, if_neg (by rcases q with q | q; exact absurd q q1; exact q)]
        simp only [olx, if_true]
    · rw [fX8_energyFor, ol_tC, e, ob_s, qmay0 (tC_t M) (by decide), obS_s, if_pos rfl]
  rcases zn0 x with q | ⟨k, hk1, rfl⟩
  · exact bad (Or.inl q) (qisIn_lo q)
  · by_cases q2 : k ≤ 2376
    · obtain ⟨C1, c1, c2, c3⟩ := qrank (F := a 25) (l := 500) hc.2.2.1 hc.2.2.2.1 hk.2.2.2 hk.2.2.1 (Nat.le_refl _)
      obtain ⟨M1, m1, m2, m3⟩ := qweighs (F := a 25) hg hk.2.2.2 hk.2.2.1
      have l7 := le7_l (F := a 25) (V := k) hk.2.2.2 q2 c3 501 0 FU (by omega) (FU_lt (by omega))
      have l8 := le8_l (F := a 25) (V := k) hk.2.2.2 q2 m3 (ol (sI M1 0 0 (2 : Int32)) (fun st_9 => some ((0 : Int32), st_9))) 501 0 FU (by omega) (FU_lt (by omega))
      have E7 : fX7_energyFor (nI k) C = (if fE (bT a w (a 25) n) k 501 0 = (-1 : Int32) then some (.inr "java/util/NoSuchElementException", C1) else some (.inl (fE (bT a w (a 25) n) k 501 0), C1)) := by
        rw [fX7_energyFor, oj0_e, if_neg (nlt0 hk1), if_pos (show nI k ≤ (2376 : Int32) from ple (b := 2376) q2 (by decide)), qX6_usable hc.2.2.1 hc.2.2.2.1 hn hp, ob_s, fX4_leastEnergy, show (500 : Int32) = nI 500 from rfl, c1, obV_st, show (0 : Int32) = nI 0 from rfl, l7, obS_s]
      have E8 : fX8_energyFor (nI k) M = if fE (bT a w (a 25) n) k 501 0 = -1 then ol (sI M1 0 0 (2 : Int32)) (fun st_9 => some ((0 : Int32), st_9)) else some (fE (bT a w (a 25) n) k 501 0, M1) := by
        rw [fX8_energyFor, ol_tC, show fX8_isIn (nI k) 0 2376 = some 1 from qisIn1 (lo := 0) (hi := 2376) hk1 (by omega) q2 (by decide), ob_s, qmay1 (tC_t M) (by decide), obS_s, if_neg (by decide), hg.1 25 (by decide), m1, obV_st]
        exact l8
      by_cases qe : fE (bT a w (a 25) n) k 501 0 = -1
      · rw [if_pos qe] at E7 E8
        refine ⟨2, C1, 0, sI M1 0 0 2, ?_, E8, by rw [sI_r, if_pos rfl], fun e => absurd e (by decide), RR_fr h hm (fun i _ => by rw [c2]) (by rw [sI_n (by decide), m2, tC_n M (by decide)]) (by rw [sI_n (by decide), m2, tC_n M (by decide)]) (by rw [sI_n (by decide), m2, tC_n M (by decide)]) (by rw [sI_n (by decide), m2, tC_n M (by decide)]) (by rw [sI_r, if_neg (by decide), m2, tC_f M (by decide)]) (by rw [sI_r, if_neg (by decide), m2, tC_f M (by decide)]) (by rw [sI_r, if_neg (by decide), m2, tC_f M (by decide)])⟩
        rw [fL_energyFor, E7]
        simp only [olx]
        rw [if_neg (by decide), if_pos trivial]
      · rw [if_neg qe] at E7 E8
        refine endG (C' := C1) (M' := M1) (v := fE (bT a w (a 25) n) k 501 0) ?_ E8 (by rw [m2]; exact tC_t M) (RR_same h hm (fun i _ => by rw [c2]) m2)
        rw [fL_energyFor, E7]
        rfl
    · exact bad (Or.inr (nple (b := 2376) (by omega) hk1)) (qisInN (lo := 0) (hi := 2376) hk1 (by omega) (by decide))
end Q34
