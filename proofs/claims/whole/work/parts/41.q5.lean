/-! PURE PART 12: setFailed; bounds; safety; costliest -/
def clr (F k : Nat) : Nat := if F.testBit k then F - 2 ^ k else F
def stb (F k : Nat) : Nat := if F.testBit k then F else F + 2 ^ k
theorem fail_tab : ((List.range 32).all fun F => (List.range 5).all fun k => decide (nI F &&& (((1 : Int32) <<< (nI k &&& 31)) ^^^ (-1 : Int32)) = nI (clr F k) ∧ nI F ||| ((1 : Int32) <<< (nI k &&& 31)) = nI (stb F k) ∧ clr F k < 32 ∧ stb F k < 32) && (List.range 5).all fun i => decide ((clr F k).testBit i = (F.testBit i && !(decide (i = k))) ∧ (stb F k).testBit i = (F.testBit i || decide (i = k)))) = true := by decide +kernel
theorem fail_b {F k : Nat} (hF : F < 32) (hk : k < 5) : nI F &&& (((1 : Int32) <<< (nI k &&& 31)) ^^^ (-1 : Int32)) = nI (clr F k) ∧ nI F ||| ((1 : Int32) <<< (nI k &&& 31)) = nI (stb F k) ∧ clr F k < 32 ∧ stb F k < 32 ∧ ∀ i, i < 5 → (clr F k).testBit i = (F.testBit i && !(decide (i = k))) ∧ (stb F k).testBit i = (F.testBit i || decide (i = k)) := by
  have h := List.all_eq_true.mp (List.all_eq_true.mp fail_tab F (List.mem_range.mpr hF)) k (List.mem_range.mpr hk)
  rw [Bool.and_eq_true] at h
  obtain ⟨h1, h2⟩ := h
  obtain ⟨q1, q2, q3, q4⟩ := of_decide_eq_true h1
  exact ⟨q1, q2, q3, q4, fun i hi => of_decide_eq_true (List.all_eq_true.mp h2 i (List.mem_range.mpr hi))⟩
section Q12
variable {m : Nat} {C M : uSt} {a : Nat → Nat} {n : Nat} {w : Nat → Nat → Nat}
theorem setFailed_g (h : RR m C M) (hm : m < 512) (hc : cS C.1 15 a n w) (hg : gR ((tC M).1 1) a n w) (hk : oK m a n w) {k F v : Nat} (hk1 : k < a 9) (hv : v ≤ 1) (hF : F < 32) (hb : ∀ i, i < 5 → F.testBit i = if i = k then decide (v = 1) else (a 25).testBit i) (e8 : fX8_setFailed (nI k) (nI v) M = og (isB (if (a 25).testBit k then 1 else 0)) (some (if (a 25).testBit k then 1 else 0, sI (tC M) 1 25 (nI F)))) (e1 : fX7_requireDevice (nI k) C = some (.inl (), C)) : cKB (fL_setFailed (nI k) (nI v)) (fX8_setFailed (nI k) (nI v)) (RR (m + 1)) C M := by
  have h9 := (oK_p hk).2.1
  have d4 := hc.2.2.1.2.2 k (by omega)
  have isb : isB (if (a 25).testBit k then (1 : Int32) else 0) = true := by cases (a 25).testBit k <;> decide
  have nar : vp_nar .boolean (nI v) = nI v := by rcases (show v = 0 ∨ v = 1 by omega) with rfl | rfl <;> rfl
  refine endGB (C' := sI C ((15 + 3) + 4) k (nI v)) (M' := sI (tC M) 1 25 (nI F)) (v := if (a 25).testBit k then 1 else 0) ?_ (by rw [e8, isb]; rfl) (by rw [sI_n (by decide)]; exact tC_t M) ?_
  · rw [fL_setFailed, fX7_setFailed, e1]
    simp only [ox]
    rw [zin (by omega) (by omega), zcl (by omega), d4, nar]
    simp only [og, ol]
    rw [show isB (if (a 25).testBit k then nI 1 else nI 0) = true from isb]
    simp only [og, olx, oj1, ol]
    cases (a 25).testBit k <;> rfl
  · obtain ⟨k1, k2, k3, k4, k5, k6, k7⟩ := hc
    have e : ∀ i, i ≠ 25 → ua a 25 F i = a i := fun i h1 => by unfold ua; rw [if_neg h1]
    have ec : ∀ i, i ≠ (15 + 3) + 4 → (sI C ((15 + 3) + 4) k (nI v)).1 i = C.1 i := fun i hi => sI_n hi
    refine RR_now h hm ⟨ua a 25 F, n, w, ⟨cBt_e k1 (ec _ (by decide)) (fun i hi => e i (by omega)), cRu_e k2 (ec _ (by decide)) (fun i _ _ => e i (by omega)), ?_, cCa_e k4 (fun i _ _ => ec i (by omega)), cTt_e k5 (ec _ (by decide)) (fun i _ _ => e i (by omega)), ?_, ?_⟩, gR_sI hg (by decide) rfl, ?_⟩ (fun i hi => ec i (by omega)) (fun i h1 _ _ => sI_n h1)
    · refine ⟨by rw [ec _ (by decide), e 9 (by decide)]; exact k3.1, fun i hi => ?_, fun i hi => ?_⟩
      · rw [e 9 (by decide)] at hi
        rw [ec _ (by decide), ec _ (by decide), ec _ (by decide), e _ (by omega), e _ (by omega), e _ (by omega)]
        exact k3.2.1 i hi
      · rw [sI_r, show ua a 25 F 25 = F from rfl, hb i hi]
        by_cases q : i = k
        · rw [if_pos q, if_pos q]
          rcases (show v = 0 ∨ v = 1 by omega) with rfl | rfl <;> rfl
        · rw [if_neg q, if_neg q]
          exact k3.2.2 i hi
    · rw [ec _ (by decide), e 26 (by decide)]; exact k6
    · rw [ec _ (by decide), e 27 (by decide)]; exact k7
    · obtain ⟨q1, q2, q3, q4⟩ := oK_mono hk (Nat.le_succ m) hm
      refine ⟨q1, ?_, oD_e q3 (fun i _ _ => e i (by omega)) hF, oB_e q4 (e 9 (by decide))⟩
      unfold oS
      rw [e 0 (by decide), e 1 (by decide), e 2 (by decide), e 3 (by decide), e 4 (by decide), e 5 (by decide), e 6 (by decide), e 7 (by decide), e 8 (by decide), e 27 (by decide), e 28 (by decide)]
      exact q2
theorem c_setFailed (h : RR m C M) (hm : m < 512) (x y : Int32) : cKB (fL_setFailed x (bz y)) (fX8_setFailed x (bz y)) (RR (m + 1)) C M := by
  obtain ⟨a, n, w, hc, hg, hk⟩ := RR_un h
  obtain ⟨hn, h9, hp⟩ := oK_p hk
  rcases dev_or hc hg hk x with ⟨e1, e2⟩ | ⟨k, hk1, rfl, e1, e2⟩
  · refine endEB h hm (k := 1) (r := 0) (by decide) ?_ ?_
    · rw [fL_setFailed, fX7_setFailed, e1]
      simp only [ox, olx, if_true]
    · rw [fX8_setFailed, ol_tC, e2]
      simp only [ob]
      rw [qmay0 (tC_t M) (by decide)]
      simp only [obS, if_true]
  · obtain ⟨t1, t2, t3, t4, t5⟩ := fail_b hk.2.2.1.2.1 (show k < 5 by omega)
    have E : ∀ v, v ≤ 1 → fX8_setFailed (nI k) (nI v) M = og (isB (if (a 25).testBit k then 1 else 0)) (some (if (a 25).testBit k then 1 else 0, sI (tC M) 1 25 (nI (if v = 1 then stb (a 25) k else clr (a 25) k)))) := by
      intro v hv
      rw [fX8_setFailed, ol_tC, e2]
      simp only [ob]
      rw [qmay1 (tC_t M) (by decide)]
      simp only [obS, one0, if_false]
      rw [qfail hg (by omega)]
      simp only [ob, oj1, ol]
      rw [hg.1 25 (by decide), t1, t2]
      rcases (show v = 0 ∨ v = 1 by omega) with rfl | rfl
      · rw [if_pos (by rfl)]; rfl
      · rw [if_neg (by decide)]; rfl
    unfold bz
    by_cases q : y = 0
    · rw [if_pos q]
      refine setFailed_g h hm hc hg hk (v := 0) (F := clr (a 25) k) hk1 (by decide) t3 (fun i hi => ?_) (E 0 (by decide)) e1
      rw [(t5 i hi).1]
      by_cases p : i = k <;> simp [p]
    · rw [if_neg q]
      refine setFailed_g h hm hc hg hk (v := 1) (F := stb (a 25) k) hk1 (by decide) t4 (fun i hi => ?_) (E 1 (by decide)) e1
      rw [(t5 i hi).2]
      by_cases p : i = k <;> simp [p]
/-! bounds -/
theorem eC_le (hB : oB n a w) (hD : oD a) {l k : Nat} (hk : k < n) : eC a w l k ≤ 300 ∧ 1 ≤ eC a w l k := by
  have h1 := (hB.2.1 k hk).1
  obtain ⟨d1, d2, d3, d4⟩ := hD.2.2 (w 0 k / 100) (by omega)
  unfold eC
  generalize w 0 (l - 1) = z
  split
  · omega
  · split <;> omega
theorem eS_le (hB : oB n a w) (hD : oD a) (p : Nat → Bool) : ∀ k, k ≤ n → eS a w p k ≤ 300 * k := by
  intro k
  induction k with
  | zero => intro _; exact Nat.le_refl _
  | succ k ih =>
    intro hk
    have := ih (by omega)
    have := (eC_le hB hD (l := lS p k) (show k < n by omega)).1
    rw [eS]
    split <;> omega
theorem vU_le (hB : oB n a w) (p : Nat → Bool) : ∀ k, k ≤ n → vU w p k ≤ 99 * k := by
  intro k
  induction k with
  | zero => intro _; exact Nat.le_refl _
  | succ k ih =>
    intro hk
    have := ih (by omega)
    have := hB.2.1 k (by omega)
    rw [vU]
    split <;> omega
theorem eS_pos (hB : oB n a w) (hD : oD a) (p : Nat → Bool) {j : Nat} (hp : p j = true) : ∀ k, k ≤ n → j < k → 1 ≤ eS a w p k := by
  intro k
  induction k with
  | zero => intro _ h; exact absurd h (by omega)
  | succ k ih =>
    intro hk hj
    have c := (eC_le hB hD (l := lS p k) (show k < n by omega)).2
    rw [eS]
    by_cases q : j = k
    · subst q
      rw [if_pos hp]
      omega
    · have := ih (by omega) (by omega)
      omega
theorem vU_pos (hB : oB n a w) (p : Nat → Bool) {j : Nat} (hp : p j = true) : ∀ k, k ≤ n → j < k → 1 ≤ vU w p k := by
  intro k
  induction k with
  | zero => intro _ h; exact absurd h (by omega)
  | succ k ih =>
    intro hk hj
    have c := (hB.2.1 k (by omega)).2.1
    rw [vU]
    by_cases q : j = k
    · subst q
      rw [if_pos hp]
      omega
    · have := ih (by omega) (by omega)
      omega
theorem bS_ne (p : Nat → Bool) : ∀ n, bS p n ≠ 0 → ∃ j, j < n ∧ p j = true := by
  intro n
  induction n with
  | zero => intro h; exact absurd rfl h
  | succ n ih =>
    intro h
    by_cases q : p n = true
    · exact ⟨n, by omega, q⟩
    · rw [bS, if_neg q, Nat.add_zero] at h
      obtain ⟨j, h1, h2⟩ := ih h
      exact ⟨j, by omega, h2⟩
theorem c_minutesToSafety (h : RR m C M) (hm : m < 512) : cQ0 fX7_minutesToSafety fX8_minutesToSafety (RR (m + 1)) C M := by
  obtain ⟨a, n, w, hc, hg, hk⟩ := RR_un h
  obtain ⟨hn, h9, hp⟩ := oK_p hk
  obtain ⟨b0, b1, b2, -, -, -⟩ := hc.1
  have u0 := hc.2.1.1
  obtain ⟨s0, s1, s2, s3, s4, s5, s6, s7, s8, -⟩ := hk.2.1
  have hE := eS_le hk.2.2.2 hk.2.2.1 (usD (a 25) w) n (Nat.le_refl _)
  have key : ∃ r, fX7_minutesToSafety C = some r ∧ fX8_minutesToSafety M = some (r, tC M) := by
    rw [fX7_minutesToSafety, fX8_minutesToSafety, ol_tC, qneed hc hk, qneeded hg hk]
    simp only [ob, ol]
    rw [u0, b1, b2, b0, hg.1 5 (by decide), hg.1 1 (by decide), hg.1 0 (by decide), hg.1 2 (by decide), zadd]
    generalize eS a w (usD (a 25) w) n = E at hE ⊢
    by_cases q1 : a 1 < E + a 5
    · rw [if_pos (plt q1 (by omega)), zsub (by omega), if_pos (show (0 : Int32) < nI (E + a 5 - a 1) from plt (a := 0) (by omega) (by omega))]
      by_cases q2 : a 2 = 0
      · rw [q2, if_pos (show nI 0 ≤ (0 : Int32) by decide), if_pos (show nI 0 = (0 : Int32) from rfl)]
        refine ⟨-1, rfl, ?_⟩
        split <;> rfl
      · rw [if_neg (show ¬ nI (a 2) ≤ (0 : Int32) from nple (b := 0) (by omega) (by omega)), if_neg (show ¬ nI (a 2) = (0 : Int32) from peqn (b := 0) q2 (by omega) (by decide))]
        by_cases q3 : a 0 < E + a 5
        · rw [if_neg (nple q3 (by omega)), if_pos (plt q3 (by omega))]
          exact ⟨_, rfl, rfl⟩
        · rw [if_pos (ple (by omega) (by omega)), if_neg (nplt (by omega) (by omega)), nz_nI (by omega) (by omega)]
          exact ⟨_, rfl, rfl⟩
    · rw [if_neg (nplt (by omega) (by omega)), if_neg (show ¬ (0 : Int32) < nI (E + a 5) - nI (a 1) by
        rw [Int32.lt_iff_toInt_lt, zsubI (by omega) (by omega)]
        show ¬ (0 : Int) < _
        omega)]
      exact ⟨_, rfl, rfl⟩
  obtain ⟨r, k1, k2⟩ := key
  exact ⟨r, tC M, k1, k2, RR_t h hm⟩
end Q12
