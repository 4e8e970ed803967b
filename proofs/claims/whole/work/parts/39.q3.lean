/-! PURE PART 10: sets, oldest, mode, power, failed, truncate, safety -/
section Q10
variable {m : Nat} {C M : uSt}
theorem c_setQ {n : Nat} {a : Nat → Nat} {w : Nat → Nat → Nat} (hc : cS C.1 15 a n w) (hg : gR ((tC M).1 1) a n w) (x : Int32) : (fX7_requireSet x C = some (.inr "java/lang/IllegalArgumentException", C) ∧ fX8_isSet x (tC M) = some 0) ∨ (fX7_requireSet x C = some (.inl (), C) ∧ fX8_isSet x (tC M) = some 1) := by
  rw [fX7_requireSet, fX8_isSet, fX1_allBlocks, fX8_all, hc.2.2.2.1.1, hg.2.1]
  simp only [ob]
  by_cases q : x &&& ((1 <<< (nI n &&& 31) - 1) ^^^ (-1 : Int32)) = 0
  · exact Or.inr ⟨by rw [if_pos q], by rw [if_pos q]⟩
  · exact Or.inl ⟨by rw [if_neg q], by rw [if_neg q]⟩
theorem c_energyOf (h : RR m C M) (hm : m < 512) (x : Int32) : cKI (fL_energyOf x) (fX8_energyOf x) (RR (m + 1)) C M := by
  obtain ⟨a, n, w, hc, hg, hk⟩ := RR_un h
  rcases c_setQ hc hg x with ⟨e1, e2⟩ | ⟨e1, e2⟩
  · refine endE h hm (k := 1) (r := 0) (by decide) ?_ ?_
    · rw [fL_energyOf, fX7_energyOf, e1]
      simp only [ox, olx, if_true]
    · rw [fX8_energyOf, ol_tC, e2]
      simp only [ob]
      rw [qmay0 (tC_t M) (by decide)]
      simp only [obS, if_true]
  · refine endQ h hm (v := nI (eS a w (hb x) n)) ?_ ?_
    · rw [fL_energyOf, fX7_energyOf, e1]
      simp only [ox]
      rw [qX2_energyIn hc.2.2.1 hc.2.2.2.1 hk.2.2.2 hk.2.2.1]
      rfl
    · rw [fX8_energyOf, ol_tC, e2]
      simp only [ob]
      rw [qmay1 (tC_t M) (by decide)]
      simp only [obS]
      rw [if_neg (by decide), qX8_energyIn hg hk.2.2.2 hk.2.2.1]
theorem c_valueOf (h : RR m C M) (hm : m < 512) (x : Int32) : cKI (fL_valueOf x) (fX8_valueOf x) (RR (m + 1)) C M := by
  obtain ⟨a, n, w, hc, hg, hk⟩ := RR_un h
  obtain ⟨hn, h9, hp⟩ := oK_p hk
  rcases c_setQ hc hg x with ⟨e1, e2⟩ | ⟨e1, e2⟩
  · refine endE h hm (k := 1) (r := 0) (by decide) ?_ ?_
    · rw [fL_valueOf, fX7_valueOf, e1]
      simp only [ox, olx, if_true]
    · rw [fX8_valueOf, ol_tC, e2]
      simp only [ob]
      rw [qmay0 (tC_t M) (by decide)]
      simp only [obS, if_true]
  · refine endQ h hm (v := nI (vU w (hb x) n)) ?_ ?_
    · rw [fL_valueOf, fX7_valueOf, e1]
      simp only [ox]
      rw [qX1_valueIn hc.2.2.2.1 hn]
      rfl
    · rw [fX8_valueOf, ol_tC, e2]
      simp only [ob]
      rw [qmay1 (tC_t M) (by decide)]
      simp only [obS]
      rw [if_neg (by decide), qX8_valueIn hg hn]
/-- the oldest from k on, best so far b -/
def olF (w : Nat → Nat → Nat) : Nat → Nat → Nat → Nat
  | 0, b, _ => b
  | m + 1, b, k => if nI (w 2 b) ≤ nI (w 2 k) then olF w m b (k + 1) else olF w m k (k + 1)
theorem q7_oldest {n : Nat} {w : Nat → Nat → Nat} (hc : cCa C.1 (15 + 8) n w) (hn : n ≤ 24) (ke : Int32 → Option ((Int32 ⊕ String) × uSt)) : ∀ m b k fu, k + m = n → b < n → m < fu → fX7_oldest_27 C ke fu (nI b) (nI k) = ke (nI (olF w m b k)) := by
  intro m
  induction m with
  | zero =>
    intro b k fu hk hb hf
    obtain ⟨fu, rfl⟩ : ∃ x, fu = x + 1 := ⟨fu - 1, by omega⟩
    obtain rfl : k = n := by omega
    rw [fX7_oldest_27, hc.1, if_pos (Int32.le_refl _)]
    rfl
  | succ m ih =>
    intro b k fu hk hb hf
    obtain ⟨fu, rfl⟩ : ∃ x, fu = x + 1 := ⟨fu - 1, by omega⟩
    obtain ⟨-, -, -, h4⟩ := hc.2 k (by omega)
    obtain ⟨-, -, -, g4⟩ := hc.2 b hb
    rw [fX7_oldest_27, hc.1, if_neg (nI_ge (by omega) (by omega)), zin (by omega) (by omega), zin (by omega) (by omega), zcl (by omega), zcl (by omega), h4, g4, olF]
    simp only [og, ol, zinc]
    by_cases q : nI (w 2 b) ≤ nI (w 2 k)
    · rw [if_pos q, if_pos q]
      exact ih b (k + 1) fu (by omega) hb (by omega)
    · rw [if_neg q, if_neg q]
      exact ih k (k + 1) fu (by omega) (by omega) (by omega)
theorem q8_oldest {n : Nat} {a : Nat → Nat} {w : Nat → Nat → Nat} {st : uSt} (hg : gR (st.1 1) a n w) (hn : n ≤ 24) (ke : Int32 → Option (Int32 × uSt)) : ∀ m b k fu, k + m = n → b < n → m < fu → fX8_oldest_34 st ke fu (nI b) (nI k) = ke (nI (olF w m b k)) := by
  intro m
  induction m with
  | zero =>
    intro b k fu hk hb hf
    obtain ⟨fu, rfl⟩ : ∃ x, fu = x + 1 := ⟨fu - 1, by omega⟩
    obtain rfl : k = n := by omega
    rw [fX8_oldest_34, hg.2.1, if_pos (Int32.le_refl _)]
    rfl
  | succ m ih =>
    intro b k fu hk hb hf
    obtain ⟨fu, rfl⟩ : ∃ x, fu = x + 1 := ⟨fu - 1, by omega⟩
    rw [fX8_oldest_34, hg.2.1, if_neg (nI_ge (by omega) (by omega)), qof2 hg hn (by omega), qof2 hg hn hb, olF]
    simp only [ob, oj1, ol, zinc]
    by_cases q : nI (w 2 b) ≤ nI (w 2 k)
    · rw [if_pos q, if_pos q]
      exact ih b (k + 1) fu (by omega) hb (by omega)
    · rw [if_neg q, if_neg q]
      exact ih k (k + 1) fu (by omega) (by omega) (by omega)
theorem c_oldest (h : RR m C M) (hm : m < 512) : cKI fL_oldest fX8_oldest (RR (m + 1)) C M := by
  obtain ⟨a, n, w, hc, hg, hk⟩ := RR_un h
  obtain ⟨hn, h9, hp⟩ := oK_p hk
  by_cases q : n = 0
  · refine endE h hm (k := 1) (r := 0) (by decide) ?_ ?_
    · rw [fL_oldest, fX7_oldest, hc.2.2.2.1.1, if_pos (by rw [q]; rfl)]
      simp only [olx, if_true]
    · rw [fX8_oldest, ol_tC, hg.2.1]
      simp only [oj1]
      rw [if_pos (by rw [q]; decide), qmay0 (tC_t M) (by decide)]
      simp only [obS, if_true]
  · refine endQ h hm (v := nI (olF w (n - 1) 0 1)) ?_ ?_
    · rw [fL_oldest, fX7_oldest, hc.2.2.2.1.1, if_neg (show ¬ nI n = (0 : Int32) from peqn (b := 0) q (by omega) (by decide))]
      have : fX7_oldest_27 C (fun l1_6 => some (.inl l1_6, C)) FU 0 1 = _ := q7_oldest hc.2.2.2.1 hn (fun l1_6 => some (.inl l1_6, C)) (n - 1) 0 1 FU (by omega) (by omega) (FU_lt (by omega))
      rw [this]
      rfl
    · rw [fX8_oldest, ol_tC, hg.2.1]
      simp only [oj1]
      rw [if_neg (show ¬ nI n ≤ (0 : Int32) from nple (b := 0) (by omega) (by omega)), qmay1 (tC_t M) (by decide)]
      simp only [obS]
      rw [if_neg (by decide)]
      exact q8_oldest hg hn _ (n - 1) 0 1 FU (by omega) (by omega) (FU_lt (by omega))
/-! changes -/
theorem cS_sI {s n i j : Nat} {a : Nat → Nat} {w : Nat → Nat → Nat} {v : Int32} {st : uSt} (h : cS st.1 s a n w) (hi : i < s ∨ s + 14 ≤ i) : cS (sI st i j v).1 s a n w := cS_fr h (fun i' h1 h2 => sI_n (by omega))
theorem c_setPower (h : RR m C M) (hm : m < 512) (x : Int32) : cQ1 (fX7_setPower (bz x)) (fX8_setPower (bz x)) (RR (m + 1)) C M := by
  obtain ⟨a, n, w, hc, hg, hk⟩ := RR_un h
  have t6 := hc.2.2.2.2.2.2
  have hp := hk.2.1.2.2.2.2.2.2.2.2.2.2.2.2.1
  have key : ∀ v : Nat, v ≤ 1 → ∃ r a1 c1, fX7_setPower (nI v) C = some (r, a1) ∧ fX8_setPower (nI v) M = some (r, c1) ∧ RR (m + 1) a1 c1 := by
    intro v hv
    refine ⟨nI (a 27), sI C 15 6 (nI v), sI (tC M) 1 27 (nI v), ?_, ?_, ?_⟩
    · rw [fX7_setPower, t6]
      simp only [ol]
      rw [show isB (nI v) = true by rcases (show v = 0 ∨ v = 1 by omega) with rfl | rfl <;> decide, show isB (nI (a 27)) = true by rcases (show a 27 = 0 ∨ a 27 = 1 by omega) with e | e <;> rw [e] <;> decide]
      rfl
    · rw [fX8_setPower, ol_tC, hg.1 27 (by decide)]
      simp only [oj1, ol]
      have ev : (if nI v = 0 then og (isB (nI (a 27))) (some (nI (a 27), sI (tC M) 1 27 0)) else og (isB (nI (a 27))) (some (nI (a 27), sI (tC M) 1 27 1))) = some (nI (a 27), sI (tC M) 1 27 (nI v)) := by
        rw [show isB (nI (a 27)) = true by rcases (show a 27 = 0 ∨ a 27 = 1 by omega) with e | e <;> rw [e] <;> decide]
        rcases (show v = 0 ∨ v = 1 by omega) with rfl | rfl
        · rw [if_pos (by rfl)]; rfl
        · rw [if_neg (by decide)]; rfl
      rcases (show a 27 = 0 ∨ a 27 = 1 by omega) with e | e
      · rw [e] at ev ⊢
        rw [if_neg (by decide)]
        exact ev
      · rw [e] at ev ⊢
        rw [if_pos (by rfl)]
        exact ev
    · refine ⟨⟨ua a 27 v, n, w, ?_, gR_sI hg (by decide) rfl, ?_⟩, ?_⟩
      · obtain ⟨k1, k2, k3, k4, k5, k6, k7⟩ := hc
        refine ⟨?_, ?_, ?_, ?_, ?_, ?_, ?_⟩
        · unfold cBt; rw [sI_n (by decide)]; exact k1
        · unfold cRu; rw [sI_n (by decide)]; exact k2
        · unfold cDv; rw [sI_n (by decide), sI_n (by decide), sI_n (by decide), sI_n (by decide), sI_n (by decide)]
          refine ⟨k3.1, fun i hi => ?_, k3.2.2⟩
          have hi : i < a 9 := hi
          have h9 := (oK_p hk).2.1
          have := k3.2.1 i hi
          unfold ua
          rw [if_neg (by omega), if_neg (by omega), if_neg (by omega)]
          exact this
        · unfold cCa; rw [sI_n (by decide), sI_n (by decide), sI_n (by decide), sI_n (by decide), sI_n (by decide)]; exact k4
        · unfold cTt; rw [sI_n (by decide)]
          intro j hj
          rw [k5 j hj, ua, if_neg (by omega)]
        · rw [sI_r, if_neg (by decide)]; exact k6
        · rw [sI_r, if_pos rfl]; rfl
      · obtain ⟨q1, ⟨s0, s1, s2, s3, s4, s5, s6, s7, s8, s9, s10, s11, s12, s13⟩, q3, q4⟩ := oK_mono hk (Nat.le_succ m) hm
        refine ⟨q1, ⟨s0, s1, s2, s3, s4, s5, s6, s7, s8, s9, s10, s11, hv, s13⟩, ⟨q3.1, q3.2.1, fun i hi => ?_⟩, q4⟩
        have hi : i < a 9 := hi
        have := q3.1
        unfold ua
        rw [if_neg (by omega), if_neg (by omega), if_neg (by omega)]
        exact q3.2.2 i hi
      · exact rR_fr h.2 (Nat.le_succ m) hm (fun i hi => sI_n (by omega)) (by rw [sI_n (by decide), tC_n M (by decide)]) (by rw [sI_n (by decide), tC_n M (by decide)]) (by rw [sI_n (by decide), tC_n M (by decide)]) (by rw [sI_n (by decide), tC_f M (by decide)]) (by rw [sI_n (by decide), tC_f M (by decide)]) (by rw [sI_n (by decide), tC_f M (by decide)])
  unfold bz
  by_cases q : x = 0
  · rw [if_pos q]; exact key 0 (by decide)
  · rw [if_neg q]; exact key 1 (by decide)
theorem c_truncate (h : RR m C M) (hm : m < 512) (x : Int32) : cKI (fL_truncate x) (fX8_truncate x) (RR (m + 1)) C M := by
  obtain ⟨L, hL, t1, t2, t3⟩ := h.2.2.1
  have t2' : (tC M).1 0 7 = nI L := by rw [tC_f M (by decide)]; exact t2
  have bad : (x < 0 ∨ ¬ x ≤ nI L) → fX8_isIn x 0 (nI L) = some 0 → cKI (fL_truncate x) (fX8_truncate x) (RR (m + 1)) C M := by
    intro q e
    refine endE h hm (k := 1) (r := 0) (by decide) ?_ ?_
    · rw [fL_truncate, fX7_truncate, t1]
      simp only [oj0]
      by_cases q1 : x < 0
      · rw [if_pos q1]
        simp only [olx, if_true]
      · rw [if_neg q1, if_neg (by rcases q with q | q; exact absurd q q1; exact q)]
        simp only [olx, if_true]
    · rw [fX8_truncate, ol_tC, t2', e]
      simp only [ob]
      rw [qmay0 (tC_t M) (by decide)]
      simp only [obS, if_true]
  rcases zn0 x with q | ⟨k, hk, rfl⟩
  · exact bad (Or.inl q) (qisIn_lo q)
  · by_cases q : k ≤ L
    · refine endG (C' := sI C 1 1 (nI k)) (M' := sI (tC M) 0 7 (nI k)) (v := nI k) ?_ ?_ ?_ ?_
      · rw [fL_truncate, fX7_truncate, t1]
        simp only [oj0]
        rw [if_neg (nlt0 hk), if_pos (ple q (by omega))]
        rfl
      · rw [fX8_truncate, ol_tC, t2', show fX8_isIn (nI k) 0 (nI L) = some 1 from qisIn1 (lo := 0) hk (by omega) q (by omega)]
        simp only [ob]
        rw [qmay1 (tC_t M) (by decide)]
        simp only [obS]
        rw [if_neg (by decide)]
        rfl
      · rw [sI_r, if_neg (by decide)]; exact tC_t M
      · refine ⟨pR_fr h.1 (Nat.le_succ m) hm (fun i _ _ => sI_n (by omega)) (by rw [sI_n (by decide), tC_n M (by decide)]), ?_⟩
        obtain ⟨q1, q2, q3, q4, q5⟩ := h.2
        refine ⟨fun j hj => ?_, ⟨k, by omega, ?_, ?_, fun i hi => ?_⟩, ?_, ?_, ?_⟩
        · rw [sI_n (by decide), sI_n (by decide), tC_n M (by decide)]
          obtain ⟨k1, k2⟩ := q1 j hj
          refine ⟨k1, ?_⟩
          rcases k2 with k2 | ⟨k2, k3⟩
          · exact Or.inl k2
          · exact Or.inr ⟨k2, pR_fr k3 (Nat.le_succ m) hm (fun i _ _ => sI_n (by omega)) (by rw [sI_n (by decide), tC_n M (by decide)])⟩
        · rw [sI_r, if_pos rfl]
        · rw [sI_r, if_pos rfl]
        · rw [sI_n (by decide), sI_n (by decide), tC_n M (by decide)]
          exact t3 i (by omega)
        · rw [sI_n (by decide), sI_r, if_neg (by decide), tC_f M (by decide)]; exact q3
        · rw [sI_n (by decide), sI_r, if_neg (by decide), tC_f M (by decide)]; exact q4
        · unfold dR; rw [sI_n (by decide), sI_n (by decide), sI_n (by decide), sI_n (by decide), sI_n (by decide)]; exact q5
    · exact bad (Or.inr (nple (by omega) hk)) (qisInN (lo := 0) hk (by omega) (by decide))
end Q10
