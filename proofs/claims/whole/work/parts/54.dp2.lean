/-! PURE PART 25: the reference takes a block -/
section Q25
variable {D : Tb} {B g : Int} {c0 c1 c2 : Nat}
theorem Pt_ext {b0 b1 b2 d0 d1 d2 t : Nat} (h0 : qv D 0 c0 b0 t = qv D 0 c0 d0 t) (h1 : qv D 1 c1 b1 t = qv D 1 c1 d1 t) (h2 : qv D 2 c2 b2 t = qv D 2 c2 d2 t) : Pt D c0 c1 c2 g b0 b1 b2 t = Pt D c0 c1 c2 g d0 d1 d2 t := by
  unfold Pt
  rw [h0, h1, h2]
theorem qv_same {s c b t : Nat} (h : t ≠ b + c ∨ D s b = -1) : qv D s c (b + 1) t = qv D s c b t := by
  unfold qv
  by_cases q : c ≤ t ∧ t - c < b
  · rw [if_pos q, if_pos (by omega)]
  · rw [if_neg q]
    by_cases q2 : c ≤ t ∧ t - c < b + 1
    · rw [if_pos q2]
      rcases h with h | h
      · omega
      · rw [show t - c = b by omega]; exact h
    · rw [if_neg q2]
theorem qv_new {s c b t : Nat} (h : t = b + c) : qv D s c (b + 1) t = D s b ∧ qv D s c b t = -1 := by
  unfold qv
  refine ⟨?_, if_neg (by omega)⟩
  rw [if_pos (by omega), show t - c = b by omega]
theorem Pt_0 (hb : bD D B) (hB : 0 ≤ B) (hg : 0 ≤ g) {b b1 b2 t : Nat} (h : t = b + c0) (hD : D 0 b ≠ -1) : max (Pt D c0 c1 c2 g b b1 b2 t) (D 0 b + g) = Pt D c0 c1 c2 g (b + 1) b1 b2 t := by
  unfold Pt
  rw [(qv_new (D := D) (s := 0) h).1, (qv_new (D := D) (s := 0) h).2]
  have h1 := bD_qv hb hB 1 c1 b1 t
  have h2 := bD_qv hb hB 2 c2 b2 t
  have h0 := hb 0 b
  generalize qv D 1 c1 b1 t = y at *
  generalize qv D 2 c2 b2 t = z at *
  generalize D 0 b = x at *
  split <;> split <;> omega
theorem Pt_1 (hb : bD D B) (hB : 0 ≤ B) (hg : 0 ≤ g) {b b0 b2 t : Nat} (h : t = b + c1) (hD : D 1 b ≠ -1) : max (Pt D c0 c1 c2 g b0 b b2 t) (D 1 b + g) = Pt D c0 c1 c2 g b0 (b + 1) b2 t := by
  unfold Pt
  rw [(qv_new (D := D) (s := 1) h).1, (qv_new (D := D) (s := 1) h).2]
  have h1 := bD_qv hb hB 0 c0 b0 t
  have h2 := bD_qv hb hB 2 c2 b2 t
  have h0 := hb 1 b
  generalize qv D 0 c0 b0 t = y at *
  generalize qv D 2 c2 b2 t = z at *
  generalize D 1 b = x at *
  split <;> split <;> omega
theorem Pt_2 (hb : bD D B) (hB : 0 ≤ B) (hg : 0 ≤ g) {b b0 b1 t : Nat} (h : t = b + c2) (hD : D 2 b ≠ -1) : max (Pt D c0 c1 c2 g b0 b1 b t) (D 2 b + g) = Pt D c0 c1 c2 g b0 b1 (b + 1) t := by
  unfold Pt
  rw [(qv_new (D := D) (s := 2) h).1, (qv_new (D := D) (s := 2) h).2]
  have h1 := bD_qv hb hB 0 c0 b0 t
  have h2 := bD_qv hb hB 1 c1 b1 t
  have h0 := hb 2 b
  generalize qv D 0 c0 b0 t = y at *
  generalize qv D 1 c1 b1 t = z at *
  generalize D 2 b = x at *
  split <;> split <;> omega
/-- what a step of the innermost loop does to the new row -/
def gP (f : Nat → Nat → Int64) (P : Nat → Int) : Prop := ∀ t, t ≤ 500 → f 8 (3 * t + 2) = jI (P t)
theorem t148 {st : uSt} {l2 L : Int32} {at' e s c : Nat} {P P' : Nat → Int} (ke : uSt → Option (Unit × uSt)) (fu : Nat) (hb : bD D B) (hB : B + g ≤ 1000000000000) (hg : 0 ≤ g) (hs : s < 3) (he : e ≤ 500) (hat : at' < 100) (hL : L = nI at')
    (hto : ∀ (K : Int32 → Option (Unit × uSt)), og (inB (L + (2 : Int32)) 109) (oj1 (fun (v_17 : Int32) => oj1 (fun (v_19 : Int32) => ol (((nI e + (st.1 1 (L + (2 : Int32)).toNatClampNeg)) + v_17) + v_19) K) (fun j_18 => (if nI s = 0 then og (inB (L + (0 : Int32)) 109) ((j_18 (st.1 1 (L + (0 : Int32)).toNatClampNeg))) else (j_18 (0 : Int32))))) (fun j_16 => oj0 (og (inB (L + (1 : Int32)) 109) ((j_16 (st.1 1 (L + (1 : Int32)).toNatClampNeg)))) (fun j_26 => (if nI s = (2 : Int32) then (if l2 = 0 then j_26 else (j_16 (0 : Int32))) else j_26)))) = K (nI (e + c)))
    (hc : c ≤ 1000) (h7 : st.2.1 7 (3 * e + s) = jI (D s e)) (hP : gP st.2.1 P) (hPo : ∀ t, okI (P t)) (hsame : ∀ t, t ≤ 500 → (t ≠ e + c ∨ D s e = -1) → P' t = P t) (hnew : D s e ≠ -1 → e + c ≤ 500 → max (P (e + c)) (D s e + g) = P' (e + c)) : ∃ st', fX8_takesBlock_148 l2 L (jI g) (nI e) ke (fu + 1) st (nI s) = fX8_takesBlock_148 l2 L (jI g) (nI e) ke fu st' (nI (s + 1)) ∧ st'.1 = st.1 ∧ st'.2.1 7 = st.2.1 7 ∧ gP st'.2.1 P' ∧ ∀ i, i % 3 ≠ 2 → st'.2.1 8 i = st.2.1 8 i := by
  have o1 := bD_ok hb (by omega) s e
  rw [fX8_takesBlock_148, if_neg (show ¬ (3 : Int32) ≤ nI s from nple (a := 3) (by omega) (by decide))]
  refine (fun (H : ∃ st', (fun l8_20 => og (inB (((3 : Int32) * nI e) + nI s) 1503) ((if (lg_cmp (st.2.1 7 (((3 : Int32) * nI e) + nI s).toNatClampNeg) (-1 : Int64)) = 0 then ol (nI s + 1) (fun l7_21 => fX8_takesBlock_148 l2 L (jI g) (nI e) ke fu st l7_21) else (if l8_20 ≤ (500 : Int32) then og (inB (((3 : Int32) * l8_20) + (2 : Int32)) 1503) (og (inB (((3 : Int32) * nI e) + nI s) 1503) (ob (fX8_greater (st.2.1 8 (((3 : Int32) * l8_20) + (2 : Int32)).toNatClampNeg) ((st.2.1 7 (((3 : Int32) * nI e) + nI s).toNatClampNeg) + (jI g))) (fun x_22 => og (inB (((3 : Int32) * l8_20) + (2 : Int32)) 1503) (ol (sL st 8 (((3 : Int32) * l8_20) + (2 : Int32)).toNatClampNeg x_22) (fun st_23 => ol (nI s + 1) (fun l7_24 => fX8_takesBlock_148 l2 L (jI g) (nI e) ke fu st_23 l7_24)))))) else ol (nI s + 1) (fun l7_25 => fX8_takesBlock_148 l2 L (jI g) (nI e) ke fu st l7_25))))) (nI (e + c)) = fX8_takesBlock_148 l2 L (jI g) (nI e) ke fu st' (nI (s + 1)) ∧ st'.1 = st.1 ∧ st'.2.1 7 = st.2.1 7 ∧ gP st'.2.1 P' ∧ ∀ i, i % 3 ≠ 2 → st'.2.1 8 i = st.2.1 8 i) => by
      obtain ⟨st', k1, k2⟩ := H
      exact ⟨st', (hto _).trans k1, k2⟩) ?_
  have ei : ((3 : Int32) * nI e) + nI s = nI (3 * e + s) := by rw [z3, zadd]
  simp only []
  rw [ei, zin (by omega) (by omega), zcl (by omega), og_t, h7]
  by_cases q : D s e = -1
  · rw [if_pos ((lg_cmp_eq _ _).mpr (by rw [q, jI_m1])), ol_e, zinc]
    exact ⟨st, rfl, rfl, rfl, fun t ht => by rw [hsame t ht (Or.inr q)]; exact hP t ht, fun _ _ => rfl⟩
  · rw [if_neg (fun h => q ((jI_eq o1 ok_m1).mp (by rw [← jI_m1]; exact (lg_cmp_eq _ _).mp h)))]
    by_cases q2 : e + c ≤ 500
    · have hD := hb s e
      have o2 : okI (D s e + g) := ⟨by omega, by omega⟩
      rw [if_pos (show nI (e + c) ≤ (500 : Int32) from ple (b := 500) q2 (by decide)), z32, zin (by omega) (by omega), zcl (by omega), og_t, og_t, hP _ q2, jI_add, qgreater (hPo _) o2, ob_s, og_t, ol_e, ol_e, zinc, hnew q q2]
      refine ⟨_, rfl, rfl, sL_n (by decide), fun t ht => ?_, fun i hi => ?_⟩
      · rw [sL_g]
        by_cases qt : t = e + c
        · rw [if_pos (by omega), qt]
        · rw [if_neg (by omega), hsame t ht (Or.inl qt)]; exact hP t ht
      · rw [sL_g, if_neg (by omega)]
    · rw [if_neg (show ¬ nI (e + c) ≤ (500 : Int32) from nple (b := 500) (by omega) (by omega)), ol_e, zinc]
      exact ⟨st, rfl, rfl, rfl, fun t ht => by rw [hsame t ht (Or.inl (by omega))]; exact hP t ht, fun _ _ => rfl⟩
end Q25
