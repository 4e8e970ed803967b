/-! PURE PART 7: the calls that only ask, and the small changes -/
section Q7
variable {m : Nat} {C M : uSt}
theorem RR_un (h : RR m C M) : ∃ a n w, cS C.1 15 a n w ∧ gR ((tC M).1 1) a n w ∧ oK m a n w := by
  obtain ⟨⟨a, n, w, q1, q2, q3⟩, -⟩ := h
  exact ⟨a, n, w, q1, by rw [tC_n M (by decide)]; exact q2, q3⟩
theorem oK_p {n : Nat} {a : Nat → Nat} {w : Nat → Nat → Nat} (h : oK m a n w) : n ≤ 24 ∧ a 9 ≤ 5 ∧ ∀ k, k < n → w 0 k < 500 := by
  refine ⟨h.2.2.2.1, h.2.2.1.1, fun k hk => ?_⟩
  have := (h.2.2.2.2.1 k hk).1
  have := h.2.2.1.1
  omega
theorem ol_tC {β : Type} {k : uSt → Option β} : ol (sI M 0 0 0) k = k (tC M) := rfl
theorem i64t (x : Int32) (hx : x = 0 ∨ x = 1) : (if x = 0 then (0 : Int64) else 1) = if x = 0 then 0 else 1 := rfl
theorem c_errorCode (h : RR m C M) (hm : m < 512) : cQ0 fX7_errorCode fX8_errorCode (RR (m + 1)) C M :=
  ⟨C.1 0 1, tC M, rfl, by rw [h.2.2.2.1, ← tC_f M (show 13 ≠ 0 by decide)]; rfl, RR_t h hm⟩
theorem c_errorPosition (h : RR m C M) (hm : m < 512) : cQ0 fX7_errorPosition fX8_errorPosition (RR (m + 1)) C M :=
  ⟨C.1 0 2, tC M, rfl, by rw [h.2.2.2.2.1, ← tC_f M (show 14 ≠ 0 by decide)]; rfl, RR_t h hm⟩
theorem c_report (h : RR m C M) (hm : m < 512) (x : Int32) : cKI (fL_report x) (fX8_report x) (RR (m + 1)) C M := by
  obtain ⟨a, n, w, hc, hg, hk⟩ := RR_un h
  obtain ⟨⟨b0, b1, b2, b3, b4, b5⟩, ⟨u0, u1, u2, u3⟩, ⟨d0, -, -⟩, ⟨c0, -⟩, -, t5, t6⟩ := id hc
  have hp := hk.2.1.2.2.2.2.2.2.2.2.2.2.2.2.1
  rcases zn0 x with q | ⟨k, hk1, rfl⟩
  · refine endE h hm (k := 1) (r := 0) (by decide) ?_ ?_
    · rw [fL_report, fX7_report, if_pos (Or.inl (by have := Int32.lt_iff_toInt_lt.mp q; simpa using this))]
      simp only [olx, if_true]
    · rw [fX8_report, ol_tC, qisIn_lo q]
      simp only [ob]
      rw [qmay0 (tC_t M) (by decide)]
      simp only [obS, if_true]
  · by_cases q : 8 < k
    · refine endE h hm (k := 1) (r := 0) (by decide) ?_ ?_
      · rw [fL_report, fX7_report, if_pos (Or.inr (by rw [zI hk1]; omega))]
        simp only [olx, if_true]
      · rw [fX8_report, ol_tC, show fX8_isIn (nI k) 0 8 = some 0 from qisInN (lo := 0) (hi := 8) hk1 q (by decide)]
        simp only [ob]
        rw [qmay0 (tC_t M) (by decide)]
        simp only [obS, if_true]
    · have eG : fX8_isIn (nI k) 0 8 = some 1 := qisIn1 (lo := 0) (hi := 8) hk1 (by omega) (by omega) (by decide)
      have key : ∀ v, (∀ z, fX7_report (nI k) C = z → z = some (.inl v, C)) → (∀ z, (if (nI k).toInt < 0 ∨ 7 < (nI k).toInt then some ((tC M).1 1 28, tC M) else if nI k = 0 then some ((tC M).1 1 0, tC M) else if nI k = 1 then some ((tC M).1 1 1, tC M) else if nI k = 2 then some ((tC M).1 1 26, tC M) else if nI k = 3 then some ((tC M).1 1 27, tC M) else if nI k = 4 then some ((tC M).1 1 36, tC M) else if nI k = 5 then some ((tC M).1 1 9, tC M) else if nI k = 6 then some ((tC M).1 1 7, tC M) else if nI k = 7 then some ((tC M).1 1 8, tC M) else none) = z → z = some (v, tC M)) → cKI (fL_report (nI k)) (fX8_report (nI k)) (RR (m + 1)) C M := by
        intro v f1 f2
        refine endQ h hm (v := v) ?_ ?_
        · rw [fL_report, f1 _ rfl]
          rfl
        · rw [fX8_report, ol_tC, eG]
          simp only [ob]
          rw [qmay1 (tC_t M) (by decide)]
          exact f2 _ rfl
      rcases (show k = 0 ∨ k = 1 ∨ k = 2 ∨ k = 3 ∨ k = 4 ∨ k = 5 ∨ k = 6 ∨ k = 7 ∨ k = 8 by omega) with rfl | rfl | rfl | rfl | rfl | rfl | rfl | rfl | rfl
      · exact key (nI (a 0)) (fun z e => by rw [← e, ← b0]; rfl) (fun z e => by rw [← e, ← hg.1 0 (by decide)]; rfl)
      · exact key (nI (a 1)) (fun z e => by rw [← e, ← b1]; rfl) (fun z e => by rw [← e, ← hg.1 1 (by decide)]; rfl)
      · exact key (nI (a 26)) (fun z e => by rw [← e, ← t5]; rfl) (fun z e => by rw [← e, ← hg.1 26 (by decide)]; rfl)
      · refine key (nI (a 27)) (fun z e => ?_) (fun z e => by rw [← e, ← hg.1 27 (by decide)]; rfl)
        rw [← e]
        show (if C.1 15 6 = 0 then some (Sum.inl (0 : Int32), C) else some (Sum.inl (1 : Int32), C)) = _
        rw [t6]
        rcases (show a 27 = 0 ∨ a 27 = 1 by omega) with e1 | e1 <;> rw [e1]
        · rw [if_pos (by rfl)]; rfl
        · rw [if_neg (by decide)]; rfl
      · exact key (nI n) (fun z e => by rw [← e, ← c0]; rfl) (fun z e => by rw [← e, ← hg.2.1]; rfl)
      · exact key (nI (a 9)) (fun z e => by rw [← e, ← d0]; rfl) (fun z e => by rw [← e, ← hg.1 9 (by decide)]; rfl)
      · exact key (nI (a 7)) (fun z e => by rw [← e, ← u2]; rfl) (fun z e => by rw [← e, ← hg.1 7 (by decide)]; rfl)
      · exact key (nI (a 8)) (fun z e => by rw [← e, ← u3]; rfl) (fun z e => by rw [← e, ← hg.1 8 (by decide)]; rfl)
      · exact key (nI (a 28)) (fun z e => by rw [← e, ← b5]; rfl) (fun z e => by rw [← e, ← hg.1 28 (by decide)]; rfl)
theorem c_total (h : RR m C M) (hm : m < 512) (x : Int32) : cKI (fL_total x) (fX8_total x) (RR (m + 1)) C M := by
  obtain ⟨a, n, w, hc, hg, hk⟩ := RR_un h
  have ht := hc.2.2.2.2.1
  rcases zn0 x with q | ⟨k, hk1, rfl⟩
  · refine endE h hm (k := 1) (r := 0) (by decide) ?_ ?_
    · rw [fL_total, fX7_total]
      simp only [oj0]
      rw [if_pos q]
      simp only [olx, if_true]
    · rw [fX8_total, ol_tC, qisIn_lo q]
      simp only [ob]
      rw [qmay0 (tC_t M) (by decide)]
      simp only [obS, if_true]
  · by_cases q : 6 < k
    · refine endE h hm (k := 1) (r := 0) (by decide) ?_ ?_
      · rw [fL_total, fX7_total]
        simp only [oj0]
        rw [if_neg (nlt0 hk1), if_neg (show ¬ nI k < (7 : Int32) from nplt (b := 7) (by omega) (by omega))]
        simp only [olx, if_true]
      · rw [fX8_total, ol_tC, show fX8_isIn (nI k) 0 6 = some 0 from qisInN (lo := 0) (hi := 6) hk1 q (by decide)]
        simp only [ob]
        rw [qmay0 (tC_t M) (by decide)]
        simp only [obS, if_true]
    · refine endQ h hm (v := nI (a (29 + k))) ?_ ?_
      · rw [fL_total, fX7_total]
        simp only [oj0]
        rw [if_neg (nlt0 hk1), if_pos (show nI k < (7 : Int32) from plt (b := 7) (by omega) (by omega)), zin (by omega) hk1, zcl hk1, ht k (by omega)]
        simp only [og, olx, ol]
      · rw [fX8_total, ol_tC, show fX8_isIn (nI k) 0 6 = some 1 from qisIn1 (lo := 0) (hi := 6) hk1 (by omega) (by omega) (by decide)]
        simp only [ob]
        rw [qmay1 (tC_t M) (by decide)]
        simp only [obS]
        rw [if_neg (by decide), show (29 : Int32) + nI k = nI (29 + k) from zadd 29 k, zin (by omega) (by omega), zcl (by omega), hg.1 _ (by omega)]
        simp only [og]
/-! the class's guards -/
theorem qreqD_lo {p : Int32} (h : p < 0) : fX7_requireDevice p C = some (.inr "java/lang/IndexOutOfBoundsException", C) := by
  rw [fX7_requireDevice]; simp only [oj0]; rw [if_pos h]
theorem qreqD1 {k d : Nat} (hd : C.1 (15 + 3) 0 = nI d) (hk : k < d) (h : d < 2147483648) : fX7_requireDevice (nI k) C = some (.inl (), C) := by
  rw [fX7_requireDevice]; simp only [oj0]; rw [if_neg (nlt0 (by omega)), hd, if_pos (plt hk h)]
theorem qreqDN {k d : Nat} (hd : C.1 (15 + 3) 0 = nI d) (hk : d ≤ k) (h : k < 2147483648) : fX7_requireDevice (nI k) C = some (.inr "java/lang/IndexOutOfBoundsException", C) := by
  rw [fX7_requireDevice]; simp only [oj0]; rw [if_neg (nlt0 (by omega)), hd, if_neg (nplt hk h)]
theorem qreqB_lo {p : Int32} (h : p < 0) : fX7_requireBlock p C = some (.inr "java/lang/IndexOutOfBoundsException", C) := by
  rw [fX7_requireBlock]; simp only [oj0]; rw [if_pos h]
theorem qreqB1 {k d : Nat} (hd : C.1 (15 + 8) 0 = nI d) (hk : k < d) (h : d < 2147483648) : fX7_requireBlock (nI k) C = some (.inl (), C) := by
  rw [fX7_requireBlock]; simp only [oj0]; rw [if_neg (nlt0 (by omega)), hd, if_pos (plt hk h)]
theorem qreqBN {k d : Nat} (hd : C.1 (15 + 8) 0 = nI d) (hk : d ≤ k) (h : k < 2147483648) : fX7_requireBlock (nI k) C = some (.inr "java/lang/IndexOutOfBoundsException", C) := by
  rw [fX7_requireBlock]; simp only [oj0]; rw [if_neg (nlt0 (by omega)), hd, if_neg (nplt hk h)]
theorem qreqA_lo {p : Int32} (h : p < 0) : fX7_requireAddress p C = some (.inr "java/lang/IndexOutOfBoundsException", C) := by
  rw [fX7_requireAddress]; simp only [oj0]; rw [if_pos h]
theorem qreqA1 {k : Nat} (hk : k < 100) : fX7_requireAddress (nI k) C = some (.inl (), C) := by
  rw [fX7_requireAddress]; simp only [oj0]; rw [if_neg (nlt0 (by omega)), if_pos (show nI k < (100 : Int32) from plt (b := 100) (by omega) (by omega))]
theorem qreqAN {k : Nat} (hk : 100 ≤ k) (h : k < 2147483648) : fX7_requireAddress (nI k) C = some (.inr "java/lang/IndexOutOfBoundsException", C) := by
  rw [fX7_requireAddress]; simp only [oj0]; rw [if_neg (nlt0 (by omega)), if_neg (show ¬ nI k < (100 : Int32) from nplt (b := 100) (by omega) (by omega))]
theorem qreqE_lo {p : Int32} (h : p < 0) : fX7_requireEnergy p C = some (.inr "java/lang/IllegalArgumentException", C) := by
  rw [fX7_requireEnergy]; simp only [oj0]; rw [if_pos h]
theorem qreqE1 {k : Nat} (hk : k ≤ 500) : fX7_requireEnergy (nI k) C = some (.inl (), C) := by
  rw [fX7_requireEnergy]; simp only [oj0]; rw [if_neg (nlt0 (by omega)), if_pos (show nI k ≤ (500 : Int32) from ple (b := 500) (by omega) (by omega))]
theorem qreqEN {k : Nat} (hk : 500 < k) (h : k < 2147483648) : fX7_requireEnergy (nI k) C = some (.inr "java/lang/IllegalArgumentException", C) := by
  rw [fX7_requireEnergy]; simp only [oj0]; rw [if_neg (nlt0 (by omega)), if_neg (show ¬ nI k ≤ (500 : Int32) from nple (b := 500) (by omega) (by omega))]
/-- a device's number: no such, or one -/
theorem dev_or {n : Nat} {a : Nat → Nat} {w : Nat → Nat → Nat} (hc : cS C.1 15 a n w) (hg : gR ((tC M).1 1) a n w) (hk : oK m a n w) (x : Int32) : (fX7_requireDevice x C = some (.inr "java/lang/IndexOutOfBoundsException", C) ∧ fX8_isDevice x (tC M) = some 0) ∨ ∃ k, k < a 9 ∧ x = nI k ∧ fX7_requireDevice x C = some (.inl (), C) ∧ fX8_isDevice x (tC M) = some 1 := by
  have d0 := hc.2.2.1.1
  have h9 := (oK_p hk).2.1
  rcases zn0 x with q | ⟨k, hk1, rfl⟩
  · exact Or.inl ⟨qreqD_lo q, qidx_lo q _⟩
  · by_cases q : k < a 9
    · exact Or.inr ⟨k, q, rfl, qreqD1 d0 q (by omega), by rw [fX8_isDevice, hg.1 9 (by decide)]; exact qidx1 q (by omega)⟩
    · exact Or.inl ⟨qreqDN d0 (by omega) hk1, by rw [fX8_isDevice, hg.1 9 (by decide)]; exact qidxN hk1 (by omega)⟩
theorem blk_or {n : Nat} {a : Nat → Nat} {w : Nat → Nat → Nat} (hc : cS C.1 15 a n w) (hg : gR ((tC M).1 1) a n w) (hk : oK m a n w) (x : Int32) : (fX7_requireBlock x C = some (.inr "java/lang/IndexOutOfBoundsException", C) ∧ fX8_isBlock x (tC M) = some 0) ∨ ∃ k, k < n ∧ x = nI k ∧ fX7_requireBlock x C = some (.inl (), C) ∧ fX8_isBlock x (tC M) = some 1 := by
  have c0 := hc.2.2.2.1.1
  have h9 := (oK_p hk).1
  rcases zn0 x with q | ⟨k, hk1, rfl⟩
  · exact Or.inl ⟨qreqB_lo q, qidx_lo q _⟩
  · by_cases q : k < n
    · exact Or.inr ⟨k, q, rfl, qreqB1 c0 q (by omega), by rw [fX8_isBlock, hg.2.1]; exact qidx1 q (by omega)⟩
    · exact Or.inl ⟨qreqBN c0 (by omega) hk1, by rw [fX8_isBlock, hg.2.1]; exact qidxN hk1 (by omega)⟩
theorem ene_or (x : Int32) : (fX7_requireEnergy x C = some (.inr "java/lang/IllegalArgumentException", C) ∧ fX8_isEnergy x = some 0) ∨ ∃ k, k ≤ 500 ∧ x = nI k ∧ fX7_requireEnergy x C = some (.inl (), C) ∧ fX8_isEnergy x = some 1 := by
  rcases zn0 x with q | ⟨k, hk1, rfl⟩
  · refine Or.inl ⟨qreqE_lo q, ?_⟩
    rw [fX8_isEnergy, qisIn_lo q]; rfl
  · by_cases q : k ≤ 500
    · refine Or.inr ⟨k, q, rfl, qreqE1 q, ?_⟩
      rw [fX8_isEnergy, show fX8_isIn (nI k) 0 500 = some 1 from qisIn1 (lo := 0) (hi := 500) hk1 (by omega) q (by decide)]; rfl
    · refine Or.inl ⟨qreqEN (by omega) hk1, ?_⟩
      rw [fX8_isEnergy, show fX8_isIn (nI k) 0 500 = some 0 from qisInN (lo := 0) (hi := 500) hk1 (by omega) (by decide)]; rfl
/-- a place: device and address -/
theorem plc_or {n : Nat} {a : Nat → Nat} {w : Nat → Nat → Nat} (hc : cS C.1 15 a n w) (hg : gR ((tC M).1 1) a n w) (hk : oK m a n w) (x y : Int32) : ((fX7_requireDevice x C = some (.inr "java/lang/IndexOutOfBoundsException", C) ∨ (fX7_requireDevice x C = some (.inl (), C) ∧ fX7_requireAddress y C = some (.inr "java/lang/IndexOutOfBoundsException", C))) ∧ fX8_isPlace x y (tC M) = some 0) ∨ ∃ k z, k < a 9 ∧ z < 100 ∧ x = nI k ∧ y = nI z ∧ fX7_requireDevice x C = some (.inl (), C) ∧ fX7_requireAddress y C = some (.inl (), C) ∧ fX8_isPlace x y (tC M) = some 1 := by
  rcases dev_or hc hg hk x with ⟨e1, e2⟩ | ⟨k, hk1, rfl, e1, e2⟩
  · refine Or.inl ⟨Or.inl e1, ?_⟩
    rw [fX8_isPlace, e2]; rfl
  · rcases zn0 y with q | ⟨z, hz, rfl⟩
    · refine Or.inl ⟨Or.inr ⟨e1, qreqA_lo q⟩, ?_⟩
      rw [fX8_isPlace, e2, qisIn_lo q]; rfl
    · by_cases q : z < 100
      · refine Or.inr ⟨k, z, hk1, q, rfl, rfl, e1, qreqA1 q, ?_⟩
        rw [fX8_isPlace, e2, show fX8_isIn (nI z) 0 99 = some 1 from qisIn1 (lo := 0) (hi := 99) hz (by omega) (by omega) (by decide)]; rfl
      · refine Or.inl ⟨Or.inr ⟨e1, qreqAN (by omega) hz⟩, ?_⟩
        rw [fX8_isPlace, e2, show fX8_isIn (nI z) 0 99 = some 0 from qisInN (lo := 0) (hi := 99) hz (by omega) (by decide)]; rfl
end Q7
