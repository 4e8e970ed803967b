/-! PURE PART 6: the relation between the two sides -/
def sB (x : Nat) : Int32 := if x < 128 then nI x else nI x - nI 256
def tR (f g : Nat → Nat → Int32) : Prop := ∃ L, L ≤ 400 ∧ f 1 1 = nI L ∧ g 0 7 = nI L ∧ ∀ k, k < L → ∃ x, x < 256 ∧ f 2 k = sB x ∧ g 6 k = nI x
def pR (m s : Nat) (f : Nat → Nat → Int32) (r : Nat → Int32) : Prop := ∃ a n w, cS f s a n w ∧ gR r a n w ∧ oK m a n w
def dR (f : Nat → Nat → Int32) : Prop := f 29 5 = 0 ∧ f 29 6 = 1 ∧ f 37 0 = 0 ∧ (∀ j, j < 7 → f 42 j = 0) ∧ (∀ j, j < 5 → f 36 j = 0) ∧ f 30 5 = 0
def svR (m : Nat) (f g : Nat → Nat → Int32) : Prop := ∀ j, j < 2 → f 4 j = g 5 j ∧ (f 4 j = 0 ∨ (f 4 j = 1 ∧ pR m (43 + 14 * j) f (fun k => g 3 (109 * j + k))))
def rR (m : Nat) (C M : uSt) : Prop := svR m C.1 M.1 ∧ tR C.1 M.1 ∧ C.1 0 1 = M.1 0 13 ∧ C.1 0 2 = M.1 0 14 ∧ dR C.1
def RR (m : Nat) (C M : uSt) : Prop := pR m 15 C.1 (M.1 1) ∧ rR m C M
theorem oK_mono {m m' n : Nat} {a : Nat → Nat} {w : Nat → Nat → Nat} (h : oK m a n w) (h1 : m ≤ m') (h2 : m' ≤ 512) : oK m' a n w := by
  obtain ⟨q1, ⟨s0, s1, s2, s3, s4, s5, s6, s7, s8, s9, s10, s11, s12, s13⟩, q3, q4⟩ := h
  exact ⟨h2, ⟨s0, s1, s2, s3, s4, s5, s6, s7, s8, s9, s10, s11, s12, Nat.le_trans s13 (Nat.mul_le_mul_left _ h1)⟩, q3, q4⟩
theorem cS_fr {f f' : Nat → Nat → Int32} {s n : Nat} {a : Nat → Nat} {w : Nat → Nat → Nat} (h : cS f s a n w) (e : ∀ i, s ≤ i → i < s + 14 → f' i = f i) : cS f' s a n w := by
  obtain ⟨h1, h2, h3, h4, h5, h6, h7⟩ := h
  refine ⟨?_, ?_, ?_, ?_, ?_, ?_, ?_⟩
  · unfold cBt; rw [e _ (by omega) (by omega)]; exact h1
  · unfold cRu; rw [e _ (by omega) (by omega)]; exact h2
  · unfold cDv; rw [e (s + 3) (by omega) (by omega), e (s + 3 + 1) (by omega) (by omega), e (s + 3 + 2) (by omega) (by omega), e (s + 3 + 3) (by omega) (by omega), e (s + 3 + 4) (by omega) (by omega)]; exact h3
  · unfold cCa; rw [e (s + 8) (by omega) (by omega), e (s + 8 + 1) (by omega) (by omega), e (s + 8 + 2) (by omega) (by omega), e (s + 8 + 3) (by omega) (by omega), e (s + 8 + 4) (by omega) (by omega)]; exact h4
  · unfold cTt; rw [e _ (by omega) (by omega)]; exact h5
  · rw [e _ (by omega) (by omega)]; exact h6
  · rw [e _ (by omega) (by omega)]; exact h7
theorem pR_fr {f f' : Nat → Nat → Int32} {m m' s : Nat} {r r' : Nat → Int32} (h : pR m s f r) (h1 : m ≤ m') (h2 : m' ≤ 512) (e : ∀ i, s ≤ i → i < s + 14 → f' i = f i) (er : r' = r) : pR m' s f' r' := by
  obtain ⟨a, n, w, q1, q2, q3⟩ := h
  subst er
  exact ⟨a, n, w, cS_fr q1 e, q2, oK_mono q3 h1 h2⟩
theorem tR_fr {f f' g g' : Nat → Nat → Int32} (h : tR f g) (e1 : f' 1 = f 1) (e2 : f' 2 = f 2) (e3 : g' 0 7 = g 0 7) (e4 : g' 6 = g 6) : tR f' g' := by
  unfold tR; rw [e1, e2, e3, e4]; exact h
theorem rR_fr {m m' : Nat} {C M C' M' : uSt} (h : rR m C M) (h1 : m ≤ m') (h2 : m' ≤ 512) (hC : ∀ i, i < 5 ∨ 29 ≤ i → C'.1 i = C.1 i) (h3 : M'.1 3 = M.1 3) (h5 : M'.1 5 = M.1 5) (h6 : M'.1 6 = M.1 6) (h7 : M'.1 0 7 = M.1 0 7) (h13 : M'.1 0 13 = M.1 0 13) (h14 : M'.1 0 14 = M.1 0 14) : rR m' C' M' := by
  obtain ⟨q1, q2, q3, q4, q5⟩ := h
  refine ⟨fun j hj => ?_, tR_fr q2 (hC 1 (by omega)) (hC 2 (by omega)) h7 h6, ?_, ?_, ?_⟩
  · rw [hC 4 (by omega), h5]
    obtain ⟨k1, k2⟩ := q1 j hj
    refine ⟨k1, ?_⟩
    rcases k2 with k2 | ⟨k2, k3⟩
    · exact Or.inl k2
    · exact Or.inr ⟨k2, pR_fr k3 h1 h2 (fun i hi _ => hC i (by omega)) (by rw [h3])⟩
  · rw [hC 0 (by omega), h13]; exact q3
  · rw [hC 0 (by omega), h14]; exact q4
  · unfold dR; rw [hC 29 (by omega), hC 37 (by omega), hC 42 (by omega), hC 36 (by omega), hC 30 (by omega)]; exact q5
theorem RR_fr {m : Nat} {C M C' M' : uSt} (h : RR m C M) (hm : m < 512) (hC : ∀ i, i < 5 ∨ 15 ≤ i → C'.1 i = C.1 i) (h1 : M'.1 1 = M.1 1) (h3 : M'.1 3 = M.1 3) (h5 : M'.1 5 = M.1 5) (h6 : M'.1 6 = M.1 6) (h7 : M'.1 0 7 = M.1 0 7) (h13 : M'.1 0 13 = M.1 0 13) (h14 : M'.1 0 14 = M.1 0 14) : RR (m + 1) C' M' :=
  ⟨pR_fr h.1 (Nat.le_succ m) hm (fun i hi _ => hC i (Or.inr hi)) h1, rR_fr h.2 (Nat.le_succ m) hm (fun i hi => hC i (by omega)) h3 h5 h6 h7 h13 h14⟩
/-! the reference's thrown -/
def tC (M : uSt) : uSt := sI M 0 0 0
theorem tC_t (M : uSt) : (tC M).1 0 0 = 0 := by unfold tC; rw [sI_r, if_pos rfl]
theorem tC_n (M : uSt) {i : Nat} (h : i ≠ 0) : (tC M).1 i = M.1 i := sI_n h
theorem tC_f (M : uSt) {j : Nat} (h : j ≠ 0) : (tC M).1 0 j = M.1 0 j := by unfold tC; rw [sI_r, if_neg h]
theorem plt {a b : Nat} (h : a < b) (hb : b < 2147483648) : nI a < nI b := by rw [zlt (by omega) hb]; exact h
theorem nplt {a b : Nat} (h : b ≤ a) (ha : a < 2147483648) : ¬ nI a < nI b := by rw [zlt ha (by omega)]; omega
theorem ple {a b : Nat} (h : a ≤ b) (hb : b < 2147483648) : nI a ≤ nI b := by rw [zle (by omega) hb]; exact h
theorem nple {a b : Nat} (h : b < a) (ha : a < 2147483648) : ¬ nI a ≤ nI b := by rw [zle ha (by omega)]; omega
theorem peqn {a b : Nat} (h : a ≠ b) (ha : a < 2147483648) (hb : b < 2147483648) : ¬ nI a = nI b := by rw [zeq ha hb]; exact h
theorem qmay1 {st : uSt} {x p : Int32} (h : st.1 0 0 = 0) (hx : ¬ x = 0) : fX8_may x p st = some (1, st) := by
  rw [fX8_may]
  simp only [oj1]
  rw [if_neg hx, if_pos h]
theorem qmay0 {st : uSt} {p : Int32} (h : st.1 0 0 = 0) (hp : ¬ p = 0) : fX8_may 0 p st = some (0, sI st 0 0 p) := by
  rw [fX8_may]
  simp only [oj1, ol, if_true]
  rw [if_pos h, sI_r, if_pos rfl, if_neg hp]
theorem qisIn_lo {p lo hi : Int32} (h : p < lo) : fX8_isIn p lo hi = some 0 := by rw [fX8_isIn, if_pos h]
theorem qisIn {k lo hi : Nat} (h1 : k < 2147483648) (h2 : lo < 2147483648) (h3 : hi < 2147483648) : fX8_isIn (nI k) (nI lo) (nI hi) = some (if lo ≤ k ∧ k ≤ hi then 1 else 0) := by
  simp (disch := omega) only [fX8_isIn, zlt]
  by_cases q1 : k < lo
  · rw [if_pos q1, if_neg (by omega)]
  · rw [if_neg q1]
    by_cases q2 : hi < k
    · rw [if_pos q2, if_neg (by omega)]
    · rw [if_neg q2, if_pos (by omega)]
theorem qisIn1 {k lo hi : Nat} (h1 : k < 2147483648) (h2 : lo ≤ k) (h3 : k ≤ hi) (h4 : hi < 2147483648) : fX8_isIn (nI k) (nI lo) (nI hi) = some 1 := by rw [qisIn h1 (by omega) h4, if_pos ⟨h2, h3⟩]
theorem qisInN {k lo hi : Nat} (h1 : k < 2147483648) (h2 : hi < k) (h4 : lo < 2147483648) : fX8_isIn (nI k) (nI lo) (nI hi) = some 0 := by rw [qisIn h1 h4 (by omega), if_neg (by omega)]
theorem zn0 (p : Int32) : p < 0 ∨ ∃ k, k < 2147483648 ∧ p = nI k := by
  by_cases h : p < 0
  · exact Or.inl h
  · exact Or.inr (nI_of h)
theorem zneg_lt {p : Int32} {k : Nat} (h : p < 0) (hk : k < 2147483648) : p < nI k := by
  rw [Int32.lt_iff_toInt_lt] at h ⊢
  rw [zI hk]
  have : (0 : Int32).toInt = 0 := rfl
  omega
theorem nlt0 {k : Nat} (h : k < 2147483648) : ¬ nI k < 0 := by
  rw [lit, zlt h (by decide)]; omega
theorem isB1 : isB 1 = true := by decide
theorem isB0 : isB 0 = true := by decide
theorem qidx_lo {p : Int32} (h : p < 0) (x : Int32) : ob (fX8_isIn p 0 x) (fun x_1 => og (isB x_1) (some x_1)) = some 0 := by
  rw [qisIn_lo h]
  simp only [ob, isB0, og]
theorem qidx1 {k d : Nat} (hk : k < d) (hd : d < 2147483648) : ob (fX8_isIn (nI k) 0 (nI d - 1)) (fun x_1 => og (isB x_1) (some x_1)) = some 1 := by
  rw [show fX8_isIn (nI k) 0 (nI d - 1) = some 1 by rw [lit, show (1 : Int32) = nI 1 from rfl, zsub (by omega)]; exact qisIn1 (by omega) (by omega) (by omega) (by omega)]
  simp only [ob, isB1, og]
theorem qidxN {k d : Nat} (hk : k < 2147483648) (h : d ≤ k) : ob (fX8_isIn (nI k) 0 (nI d - 1)) (fun x_1 => og (isB x_1) (some x_1)) = some 0 := by
  have e : fX8_isIn (nI k) 0 (nI d - 1) = some 0 := by
    rw [fX8_isIn, if_neg (nlt0 hk)]
    by_cases q : d = 0
    · subst q
      rw [show nI 0 - 1 = (-1 : Int32) by decide, if_pos (zmm hk)]
    · rw [show nI d - 1 = nI (d - 1) from zsub (a := d) (b := 1) (by omega), if_pos (plt (by omega) hk)]
  rw [e]
  simp only [ob, isB0, og]
/-! endings -/
section END
variable {m : Nat} {C M : uSt} {F G : uSt → Option (Int32 × uSt)}
theorem RR_tC (h : RR m C M) (hm : m < 512) (k : Int32) : RR (m + 1) C (sI (tC M) 0 0 k) := by
  have e : ∀ j, j ≠ 0 → (sI (tC M) 0 0 k).1 0 j = M.1 0 j := fun j hj => by rw [sI_r, if_neg hj, tC_f M hj]
  have e2 : ∀ i, i ≠ 0 → (sI (tC M) 0 0 k).1 i = M.1 i := fun i hi => by rw [sI_n hi, tC_n M hi]
  exact RR_fr h hm (fun _ _ => rfl) (e2 1 (by decide)) (e2 3 (by decide)) (e2 5 (by decide)) (e2 6 (by decide)) (e 7 (by decide)) (e 13 (by decide)) (e 14 (by decide))
theorem RR_t (h : RR m C M) (hm : m < 512) : RR (m + 1) C (tC M) :=
  RR_fr h hm (fun _ _ => rfl) (tC_n M (by decide)) (tC_n M (by decide)) (tC_n M (by decide)) (tC_n M (by decide)) (tC_f M (by decide)) (tC_f M (by decide)) (tC_f M (by decide))
theorem endE (h : RR m C M) (hm : m < 512) {k r : Int32} (hk : ¬ k = 0) (hF : F C = some (k, C)) (hG : G M = some (r, sI (tC M) 0 0 k)) : cKI F G (RR (m + 1)) C M :=
  ⟨k, C, r, _, hF, hG, by rw [sI_r, if_pos rfl], fun e => absurd e hk, RR_tC h hm k⟩
theorem endEB (h : RR m C M) (hm : m < 512) {k r : Int32} (hk : ¬ k = 0) (hF : F C = some (k, C)) (hG : G M = some (r, sI (tC M) 0 0 k)) : cKB F G (RR (m + 1)) C M :=
  ⟨k, C, r, _, hF, hG, by rw [sI_r, if_pos rfl], fun e => absurd e hk, RR_tC h hm k⟩
theorem sL_r {st : uSt} {i k : Nat} {v : Int64} : (sL st i k v).2.1 i k = v := by
  show (if i = i then vp_updL (st.2.1 i) k v else st.2.1 i) k = v
  rw [if_pos rfl]
  unfold vp_updL
  rw [if_pos rfl]
theorem endQ (h : RR m C M) (hm : m < 512) {v : Int32} (hF : F C = some (0, sL C 71 0 v.toInt64)) (hG : G M = some (v, tC M)) : cKI F G (RR (m + 1)) C M :=
  ⟨0, _, v, _, hF, hG, tC_t M, fun _ => sL_r, RR_t (C := sL C 71 0 v.toInt64) h hm⟩
/-- the general good end -/
theorem endG {C' M' : uSt} {v : Int32} (hF : F C = some (0, sL C' 71 0 v.toInt64)) (hG : G M = some (v, M')) (ht : M'.1 0 0 = 0) (hR : RR (m + 1) C' M') : cKI F G (RR (m + 1)) C M :=
  ⟨0, _, v, _, hF, hG, ht, fun _ => sL_r, hR⟩
theorem endGB {C' M' : uSt} {v : Int32} (hF : F C = some (0, sL C' 71 0 (if v = 0 then 0 else 1))) (hG : G M = some (v, M')) (ht : M'.1 0 0 = 0) (hR : RR (m + 1) C' M') : cKB F G (RR (m + 1)) C M :=
  ⟨0, _, v, _, hF, hG, ht, fun _ => sL_r, hR⟩
end END
