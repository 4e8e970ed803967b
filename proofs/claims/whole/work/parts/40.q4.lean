/-! PURE PART 11: changes of the state now -/
section Q11
variable {m : Nat} {C M C' M' : uSt} {f f' : Nat → Nat → Int32} {a a' : Nat → Nat} {n : Nat} {w : Nat → Nat → Nat}
theorem one0 : ((1 : Int32) = 0) = False := eq_false (by decide)
theorem cBt_e {b : Nat} (h : cBt f b a) (e : f' b = f b) (ea : ∀ j, j < 5 ∨ j = 28 → a' j = a j) : cBt f' b a' := by
  unfold cBt
  rw [e, ea 0 (by omega), ea 1 (by omega), ea 2 (by omega), ea 3 (by omega), ea 4 (by omega), ea 28 (by omega)]
  exact h
theorem cRu_e {b : Nat} (h : cRu f b a) (e : f' b = f b) (ea : ∀ j, 5 ≤ j → j < 9 → a' j = a j) : cRu f' b a' := by
  unfold cRu
  rw [e, ea 5 (by omega) (by omega), ea 6 (by omega) (by omega), ea 7 (by omega) (by omega), ea 8 (by omega) (by omega)]
  exact h
theorem cDv_e {d : Nat} (h : cDv f d a) (h5 : a 9 ≤ 5) (e : ∀ i, d ≤ i → i < d + 5 → f' i = f i) (ea : ∀ j, 9 ≤ j → j < 26 → a' j = a j) : cDv f' d a' := by
  unfold cDv
  rw [e d (by omega) (by omega), e (d + 1) (by omega) (by omega), e (d + 2) (by omega) (by omega), e (d + 3) (by omega) (by omega), e (d + 4) (by omega) (by omega), ea 9 (by omega) (by omega), ea 25 (by omega) (by omega)]
  refine ⟨h.1, fun i hi => ?_, h.2.2⟩
  rw [ea (10 + 3 * i) (by omega) (by omega), ea (10 + 3 * i + 1) (by omega) (by omega), ea (10 + 3 * i + 2) (by omega) (by omega)]
  exact h.2.1 i hi
theorem cCa_e {c : Nat} (h : cCa f c n w) (e : ∀ i, c ≤ i → i < c + 5 → f' i = f i) : cCa f' c n w := by
  unfold cCa
  rw [e c (by omega) (by omega), e (c + 1) (by omega) (by omega), e (c + 2) (by omega) (by omega), e (c + 3) (by omega) (by omega), e (c + 4) (by omega) (by omega)]
  exact h
theorem cTt_e {b : Nat} (h : cTt f b a) (e : f' b = f b) (ea : ∀ j, 29 ≤ j → j < 36 → a' j = a j) : cTt f' b a' := by
  intro j hj
  rw [e, ea (29 + j) (by omega) (by omega)]
  exact h j hj
theorem oD_e (h : oD a) (ea : ∀ j, 9 ≤ j → j < 25 → a' j = a j) (h25 : a' 25 < 32) : oD a' := by
  obtain ⟨h1, h2, h3⟩ := h
  refine ⟨by rw [ea 9 (by omega) (by omega)]; exact h1, h25, fun i hi => ?_⟩
  rw [ea 9 (by omega) (by omega)] at hi
  rw [ea (10 + 3 * i) (by omega) (by omega), ea (10 + 3 * i + 1) (by omega) (by omega), ea (10 + 3 * i + 2) (by omega) (by omega)]
  exact h3 i hi
theorem oB_e (h : oB n a w) (e : a' 9 = a 9) : oB n a' w := by
  obtain ⟨h1, h2, h3⟩ := h
  refine ⟨h1, fun k hk => ?_, h3⟩
  rw [e]
  exact h2 k hk
theorem RR_now (h : RR m C M) (hm : m < 512) (hp : pR (m + 1) 15 C'.1 (M'.1 1)) (hC : ∀ i, i < 5 ∨ 29 ≤ i → C'.1 i = C.1 i) (hM : ∀ i, i ≠ 1 → i ≠ 2 → i ≠ 4 → M'.1 i = (tC M).1 i) : RR (m + 1) C' M' :=
  ⟨hp, rR_fr h.2 (Nat.le_succ m) hm hC (by rw [hM 3 (by decide) (by decide) (by decide), tC_n M (by decide)]) (by rw [hM 5 (by decide) (by decide) (by decide), tC_n M (by decide)]) (by rw [hM 6 (by decide) (by decide) (by decide), tC_n M (by decide)]) (by rw [hM 0 (by decide) (by decide) (by decide), tC_f M (by decide)]) (by rw [hM 0 (by decide) (by decide) (by decide), tC_f M (by decide)]) (by rw [hM 0 (by decide) (by decide) (by decide), tC_f M (by decide)])⟩
/-- a total grows -/
theorem cS_tot {st : uSt} {j v : Nat} {x : Int32} (h : cS st.1 15 a n w) (h9 : a 9 ≤ 5) (hj : j < 7) (hx : x = nI v) : cS (sI st (15 + 13) j x).1 15 (ua a (29 + j) v) n w := by
  obtain ⟨k1, k2, k3, k4, k5, k6, k7⟩ := h
  have e : ∀ i, i ≠ 29 + j → ua a (29 + j) v i = a i := fun i hi => by unfold ua; rw [if_neg hi]
  refine ⟨cBt_e k1 (sI_n (by decide)) (fun i hi => e i (by omega)), cRu_e k2 (sI_n (by decide)) (fun i _ _ => e i (by omega)), cDv_e k3 h9 (fun i _ _ => sI_n (by omega)) (fun i _ _ => e i (by omega)), cCa_e k4 (fun i _ _ => sI_n (by omega)), fun i hi => ?_, ?_, ?_⟩
  · rw [sI_r]
    by_cases q : i = j
    · subst q
      rw [if_pos rfl, ua, if_pos rfl, hx]
    · rw [if_neg q, k5 i hi, e (29 + i) (by omega)]
  · rw [sI_n (by decide), e 26 (by omega)]; exact k6
  · rw [sI_n (by decide), e 27 (by omega)]; exact k7
theorem oK_tot {j v : Nat} (h : oK m a n w) : oK m (ua a (29 + j) v) n w := by
  have e : ∀ i, i < 29 → ua a (29 + j) v i = a i := fun i hi => by unfold ua; rw [if_neg (by omega)]
  obtain ⟨q1, q2, q3, q4⟩ := h
  refine ⟨q1, ?_, oD_e q3 (fun i _ _ => e i (by omega)) (by rw [e 25 (by decide)]; exact q3.2.1), oB_e q4 (e 9 (by decide))⟩
  unfold oS
  rw [e 0 (by decide), e 1 (by decide), e 2 (by decide), e 3 (by decide), e 4 (by decide), e 5 (by decide), e 6 (by decide), e 7 (by decide), e 8 (by decide), e 27 (by decide), e 28 (by decide)]
  exact q2
/-- setMode's good end -/
theorem setMode_g (h : RR m C M) (hm : m < 512) {k z : Nat} (hk : k ≤ 2) (hz : z ≤ 99) (f1 : ∀ l, l = C.1 (15 + 2) 2 → fX7_setMode (nI k) (nI z) C = some (.inl l, sI (sI C (15 + 2) 2 (nI k)) (15 + 2) 3 (nI z))) (f2 : ∀ l, l = (tC M).1 1 7 → fX8_setMode (nI k) (nI z) M = some (l, sI (sI (tC M) 1 7 (nI k)) 1 8 (nI z))) : cKI (fL_setMode (nI k) (nI z)) (fX8_setMode (nI k) (nI z)) (RR (m + 1)) C M := by
  obtain ⟨a, n, w, hc, hg, hk'⟩ := RR_un h
  have h9 := (oK_p hk').2.1
  obtain ⟨k1, k2, k3, k4, k5, k6, k7⟩ := hc
  refine endG (C' := sI (sI C (15 + 2) 2 (nI k)) (15 + 2) 3 (nI z)) (M' := sI (sI (tC M) 1 7 (nI k)) 1 8 (nI z)) (v := nI (a 7)) ?_ (f2 _ (hg.1 7 (by decide)).symm) ?_ ?_
  · rw [fL_setMode, f1 _ k2.2.2.1.symm]
    rfl
  · rw [sI_n (by decide), sI_n (by decide)]; exact tC_t M
  · have e : ∀ i, i ≠ 7 → i ≠ 8 → ua (ua a 7 k) 8 z i = a i := fun i h1 h2 => by unfold ua; rw [if_neg h2, if_neg h1]
    have ec : ∀ i, i ≠ 15 + 2 → (sI (sI C (15 + 2) 2 (nI k)) (15 + 2) 3 (nI z)).1 i = C.1 i := fun i hi => by rw [sI_n hi, sI_n hi]
    refine RR_now h hm ⟨ua (ua a 7 k) 8 z, n, w, ⟨cBt_e k1 (ec _ (by decide)) (fun i hi => e i (by omega) (by omega)), ?_, cDv_e k3 h9 (fun i _ _ => ec i (by omega)) (fun i _ _ => e i (by omega) (by omega)), cCa_e k4 (fun i _ _ => ec i (by omega)), cTt_e k5 (ec _ (by decide)) (fun i _ _ => e i (by omega) (by omega)), ?_, ?_⟩, gR_sI (gR_sI hg (by decide) rfl) (by decide) rfl, ?_⟩ (fun i hi => ec i (by omega)) (fun i h1 _ _ => by rw [sI_n h1, sI_n h1])
    · unfold cRu
      simp only [sI_r, Nat.reduceEqDiff, if_true, if_false, ua]
      exact ⟨k2.1, k2.2.1, trivial, trivial⟩
    · rw [ec _ (by decide), e 26 (by decide) (by decide)]; exact k6
    · rw [ec _ (by decide), e 27 (by decide) (by decide)]; exact k7
    · obtain ⟨q1, ⟨s0, s1, s2, s3, s4, s5, s6, s7, s8, s9, s10, s11, s12, s13⟩, q3, q4⟩ := oK_mono hk' (Nat.le_succ m) hm
      exact ⟨q1, ⟨s0, s1, s2, s3, s4, s5, s6, s7, s8, s9, hk, hz, s12, s13⟩, oD_e q3 (fun i _ _ => e i (by omega) (by omega)) (by rw [e 25 (by decide) (by decide)]; exact q3.2.1), oB_e q4 (e 9 (by decide) (by decide))⟩
theorem c_setMode (h : RR m C M) (hm : m < 512) (x y : Int32) : cKI (fL_setMode x y) (fX8_setMode x y) (RR (m + 1)) C M := by
  have bad1 : (x < 0 ∨ ¬ x ≤ 2) → fX8_isIn x 0 2 = some 0 → cKI (fL_setMode x y) (fX8_setMode x y) (RR (m + 1)) C M := by
    intro q e
    refine endE h hm (k := 1) (r := 0) (by decide) ?_ ?_
    · rw [fL_setMode, fX7_setMode]
      simp only [oj0]
      by_cases q1 : x < 0
      · rw [if_pos q1]
        simp only [olx, if_true]
      · rw [if_neg q1, if_neg (by rcases q with q | q; exact absurd q q1; exact q)]
        simp only [olx, if_true]
    · rw [fX8_setMode, ol_tC, e]
      simp only [ob, oj1, oj0, if_true]
      rw [qmay0 (tC_t M) (by decide)]
      simp only [obS, if_true]
  rcases zn0 x with q | ⟨k, hk, rfl⟩
  · exact bad1 (Or.inl q) (qisIn_lo q)
  · by_cases q : k ≤ 2
    · have ei : fX8_isIn (nI k) 0 2 = some 1 := qisIn1 (lo := 0) (hi := 2) hk (by omega) q (by decide)
      have i1 : nI k ≤ (2 : Int32) := ple (b := 2) q (by decide)
      by_cases q1 : k = 1
      · subst q1
        have E7 : fX7_setMode (nI 1) y C = (if y < 1 then some (.inr "java/lang/IllegalArgumentException", C) else if y ≤ 99 then some (.inl (C.1 (15 + 2) 2), sI (sI C (15 + 2) 2 (nI 1)) (15 + 2) 3 y) else some (.inr "java/lang/IllegalArgumentException", C)) := by
          rw [fX7_setMode]
          simp only [oj0, oj1, ol]
          rw [if_neg (nlt0 hk), if_pos i1, if_pos (by rfl), if_pos (by rfl)]
        have E8 : ∀ b r, fX8_isIn y 1 99 = some b → (if b = 0 then some ((0 : Int32), sI (tC M) 0 0 1) else some ((tC M).1 1 7, sI (sI (tC M) 1 7 (nI 1)) 1 8 y)) = r → fX8_setMode (nI 1) y M = r := by
          intro b r eb hr
          rw [fX8_setMode, ol_tC, ei, eb]
          simp only [ob, oj1, oj0, ol]
          rw [if_neg (by decide), if_pos (by rfl), qmay0 (tC_t M) (by decide), qmay1 (tC_t M) (by decide)]
          simp only [obS, if_true, one0, if_false]
          exact hr
        have bad : (y < 1 ∨ ¬ y ≤ 99) → fX8_isIn y 1 99 = some 0 → cKI (fL_setMode (nI 1) y) (fX8_setMode (nI 1) y) (RR (m + 1)) C M := by
          intro p1 p2
          refine endE h hm (k := 1) (r := 0) (by decide) ?_ (E8 _ _ p2 (if_pos rfl))
          rw [fL_setMode, E7]
          by_cases p3 : y < 1
          · rw [if_pos p3]
            simp only [olx, if_true]
          · rw [if_neg p3, if_neg (by rcases p1 with p1 | p1; exact absurd p1 p3; exact p1)]
            simp only [olx, if_true]
        rcases zn0 y with p | ⟨z, hz, rfl⟩
        · exact bad (Or.inl (zneg_lt (k := 1) p (by decide))) (qisIn_lo (zneg_lt (k := 1) p (by decide)))
        · by_cases p1 : z < 1
          · exact bad (Or.inl (plt (b := 1) p1 (by decide))) (qisIn_lo (plt (b := 1) p1 (by decide)))
          · by_cases p2 : z ≤ 99
            · refine setMode_g h hm (by decide) p2 (fun l hl => ?_) (fun l hl => ?_)
              · rw [E7, if_neg (show ¬ nI z < (1 : Int32) from nplt (b := 1) (by omega) hz), if_pos (show nI z ≤ (99 : Int32) from ple (b := 99) p2 (by decide)), hl]
              · exact E8 1 _ (qisIn1 (lo := 1) (hi := 99) hz (by omega) p2 (by decide)) (by rw [if_neg (by decide), hl])
            · exact bad (Or.inr (nple (b := 99) (by omega) hz)) (qisInN (lo := 1) (hi := 99) hz (by omega) (by decide))
      · have n1 : ¬ nI k = (1 : Int32) := peqn (b := 1) q1 hk (by decide)
        have E7 : fX7_setMode (nI k) y C = (if y < 0 then some (.inr "java/lang/IllegalArgumentException", C) else if y ≤ 0 then some (.inl (C.1 (15 + 2) 2), sI (sI C (15 + 2) 2 (nI k)) (15 + 2) 3 y) else some (.inr "java/lang/IllegalArgumentException", C)) := by
          rw [fX7_setMode]
          simp only [oj0, oj1, ol]
          rw [if_neg (nlt0 hk), if_pos i1, if_neg n1, if_neg n1]
        have E8 : ∀ r, (if y = 0 then some ((tC M).1 1 7, sI (sI (tC M) 1 7 (nI k)) 1 8 y) else some ((0 : Int32), sI (tC M) 0 0 1)) = r → fX8_setMode (nI k) y M = r := by
          intro r hr
          rw [fX8_setMode, ol_tC, ei]
          simp only [ob, oj1, oj0, ol]
          rw [if_neg (by decide), if_neg n1, qmay0 (tC_t M) (by decide), qmay1 (tC_t M) (by decide)]
          simp only [obS, if_true, one0, if_false]
          exact hr
        have bad : (y < 0 ∨ ¬ y ≤ 0) → ¬ y = 0 → cKI (fL_setMode (nI k) y) (fX8_setMode (nI k) y) (RR (m + 1)) C M := by
          intro p1 p2
          refine endE h hm (k := 1) (r := 0) (by decide) ?_ (E8 _ (if_neg p2))
          rw [fL_setMode, E7]
          by_cases p3 : y < 0
          · rw [if_pos p3]
            simp only [olx, if_true]
          · rw [if_neg p3, if_neg (by rcases p1 with p1 | p1; exact absurd p1 p3; exact p1)]
            simp only [olx, if_true]
        rcases zn0 y with p | ⟨z, hz, rfl⟩
        · exact bad (Or.inl p) (fun e => by rw [e] at p; exact absurd p (by decide))
        · by_cases p1 : z = 0
          · subst p1
            refine setMode_g h hm q (by decide) (fun l hl => ?_) (fun l hl => ?_)
            · rw [E7, if_neg (by decide), if_pos (by decide), hl]
            · exact E8 _ (by rw [if_pos (by rfl), hl])
          · exact bad (Or.inr (nple (b := 0) (by omega) hz)) (peqn (b := 0) p1 hz (by decide))
    · exact bad1 (Or.inr (nple (b := 2) (by omega) hk)) (qisInN (lo := 0) (hi := 2) hk (by omega) (by decide))
end Q11
