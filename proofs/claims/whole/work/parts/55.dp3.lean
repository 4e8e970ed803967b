/-! PURE PART 26: the reference takes a block: the loops -/
section Q26
variable {D : Tb} {B g : Int} {c0 c1 c2 : Nat}
theorem ite_mx {t e : Nat} {x : Int} (hx : -1 ≤ x) : max (if t < e then x else -1) x = x := by split <;> omega
theorem t57 {l2 : Int32} {at' : Nat} (hb : bD D B) (hB0 : 0 ≤ B) (hB : B + g ≤ 1000000000000) (hg : 0 ≤ g) (hat : at' < 100) (h0 : c0 ≤ 1000) (h1 : c1 ≤ 1000) (h2 : c2 ≤ 1000) (T : Nat → Nat → Int32) (hto : ∀ (st : uSt), st.1 = T → ∀ e s, s < 3 → ∀ (K : Int32 → Option (Unit × uSt)), og (inB (nI at' + (2 : Int32)) 109) (oj1 (fun (v_17 : Int32) => oj1 (fun (v_19 : Int32) => ol (((nI e + (st.1 1 (nI at' + (2 : Int32)).toNatClampNeg)) + v_17) + v_19) K) (fun j_18 => (if nI s = 0 then og (inB (nI at' + (0 : Int32)) 109) ((j_18 (st.1 1 (nI at' + (0 : Int32)).toNatClampNeg))) else (j_18 (0 : Int32))))) (fun j_16 => oj0 (og (inB (nI at' + (1 : Int32)) 109) ((j_16 (st.1 1 (nI at' + (1 : Int32)).toNatClampNeg)))) (fun j_26 => (if nI s = (2 : Int32) then (if l2 = 0 then j_26 else (j_16 (0 : Int32))) else j_26)))) = K (nI (e + (if s = 0 then c0 else if s = 1 then c1 else c2)))) (ke : uSt → Option (Unit × uSt)) : ∀ j e fu (st : uSt), e + j = 501 → j < fu → st.1 = T → gT st.2.1 D → gP st.2.1 (Pt D c0 c1 c2 g e e e) → (∀ t, t ≤ 500 → st.2.1 8 (3 * t) = jI (if t < e then D 0 t else -1) ∧ st.2.1 8 (3 * t + 1) = jI (if t < e then max (D 1 t) (D 2 t) else -1)) → ∃ st', fX8_takesBlock_57 l2 (nI at') (jI g) ke fu st (nI e) = ke st' ∧ st'.1 = T ∧ gP st'.2.1 (Pt D c0 c1 c2 g 501 501 501) ∧ ∀ t, t ≤ 500 → st'.2.1 8 (3 * t) = jI (D 0 t) ∧ st'.2.1 8 (3 * t + 1) = jI (max (D 1 t) (D 2 t)) := by
  intro j
  induction j with
  | zero =>
    intro e fu st he hf hT h7 hP h8
    obtain ⟨fu, rfl⟩ : ∃ x, fu = x + 1 := ⟨fu - 1, by omega⟩
    obtain rfl : e = 501 := by omega
    refine ⟨st, by rw [fX8_takesBlock_57, if_pos (show (500 : Int32) < nI 501 by decide)], hT, hP, fun t ht => ?_⟩
    obtain ⟨k1, k2⟩ := h8 t ht
    rw [if_pos (by omega)] at k1 k2
    exact ⟨k1, k2⟩
  | succ j ih =>
    intro e fu st he hf hT h7 hP h8
    obtain ⟨fu, rfl⟩ : ∃ x, fu = x + 1 := ⟨fu - 1, by omega⟩
    have o0 := bD_ok hb (by omega) 0 e
    have o1 := bD_ok hb (by omega) 1 e
    have o2 := bD_ok hb (by omega) 2 e
    obtain ⟨k1, k2⟩ := h8 e (by omega)
    rw [if_neg (by omega)] at k1 k2
    have m0 : max (-1) (D 0 e) = D 0 e := by have := o0.1; omega
    have m1 : max (-1) (max (D 1 e) (D 2 e)) = max (D 1 e) (D 2 e) := by have := o1.1; omega
    have e70 := h7 0 e (by decide) (by omega)
    rw [Nat.add_zero] at e70
    have Pok : ∀ b0 b1 b2 t, okI (Pt D c0 c1 c2 g b0 b1 b2 t) := fun b0 b1 b2 t => by
      have := bD_Pt hb hB0 hg c0 c1 c2 b0 b1 b2 t
      exact ⟨this.1, by omega⟩
    -- the two rows that are carried over
    let S1 : uSt := sL (sL st 8 (3 * e) (jI (D 0 e))) 8 (3 * e + 1) (jI (max (D 1 e) (D 2 e)))
    have S11 : S1.1 = T := hT
    have S17 : S1.2.1 7 = st.2.1 7 := by show (sL (sL st 8 _ _) 8 _ _).2.1 7 = _; rw [sL_n (by decide), sL_n (by decide)]
    have S1P : gP S1.2.1 (Pt D c0 c1 c2 g e e e) := fun t ht => by
      show (sL (sL st 8 _ _) 8 _ _).2.1 8 _ = _
      rw [sL_g, if_neg (by omega), sL_g, if_neg (by omega)]; exact hP t ht
    have S18 : ∀ t, t ≤ 500 → S1.2.1 8 (3 * t) = jI (if t < e + 1 then D 0 t else -1) ∧ S1.2.1 8 (3 * t + 1) = jI (if t < e + 1 then max (D 1 t) (D 2 t) else -1) := fun t ht => by
      obtain ⟨k3, k4⟩ := h8 t ht
      refine ⟨?_, ?_⟩
      · show (sL (sL st 8 _ _) 8 _ _).2.1 8 _ = _
        rw [sL_g, if_neg (by omega), sL_g]
        by_cases q : t = e
        · rw [if_pos (by omega), if_pos (by omega), q]
        · rw [if_neg (by omega), k3]
          by_cases q2 : t < e
          · rw [if_pos q2, if_pos (by omega)]
          · rw [if_neg q2, if_neg (by omega)]
      · show (sL (sL st 8 _ _) 8 _ _).2.1 8 _ = _
        rw [sL_g]
        by_cases q : t = e
        · rw [if_pos (by omega), if_pos (by omega), q]
        · rw [if_neg (by omega), sL_g, if_neg (by omega), k4]
          by_cases q2 : t < e
          · rw [if_pos q2, if_pos (by omega)]
          · rw [if_neg q2, if_neg (by omega)]
    let K : uSt → Option (Unit × uSt) := fun st_27 => ol (nI e + 1) (fun l6_28 => fX8_takesBlock_57 l2 (nI at') (jI g) ke fu st_27 l6_28)
    obtain ⟨S2, a1, a2, a3, a4, a5⟩ := t148 (c := c0) (P' := Pt D c0 c1 c2 g (e + 1) e e) (l2 := l2) K 4999 hb hB hg (show 0 < 3 by decide) (show e ≤ 500 by omega) hat rfl (fun K => (hto S1 S11 e 0 (by decide) K)) h0 (by rw [S17]; exact h7 0 e (by decide) (by omega)) S1P (Pok e e e) (fun t ht h => Pt_ext (qv_same h) rfl rfl) (fun h _ => Pt_0 hb hB0 hg rfl h)
    obtain ⟨S3, b1, b2, b3, b4, b5⟩ := t148 (c := c1) (P' := Pt D c0 c1 c2 g (e + 1) (e + 1) e) (l2 := l2) K 4998 hb hB hg (show 1 < 3 by decide) (show e ≤ 500 by omega) hat rfl (fun K => (hto S2 (a2.trans S11) e 1 (by decide) K)) h1 (by rw [a3, S17]; exact h7 1 e (by decide) (by omega)) a4 (Pok _ _ _) (fun t ht h => Pt_ext rfl (qv_same h) rfl) (fun h _ => Pt_1 hb hB0 hg rfl h)
    obtain ⟨S4, d1, d2, d3, d4, d5⟩ := t148 (c := c2) (P' := Pt D c0 c1 c2 g (e + 1) (e + 1) (e + 1)) (l2 := l2) K 4997 hb hB hg (show 2 < 3 by decide) (show e ≤ 500 by omega) hat rfl (fun K => (hto S3 (b2.trans (a2.trans S11)) e 2 (by decide) K)) h2 (by rw [b3, a3, S17]; exact h7 2 e (by decide) (by omega)) b4 (Pok _ _ _) (fun t ht h => Pt_ext rfl rfl (qv_same h)) (fun h _ => Pt_2 hb hB0 hg rfl h)
    have S47 : S4.2.1 7 = st.2.1 7 := by rw [d3, b3, a3, S17]
    obtain ⟨st', f1, f2, f3, f4⟩ := ih (e + 1) fu S4 (by omega) (by omega) (by rw [d2, b2, a2, S11]) (fun s t hs ht => by rw [S47]; exact h7 s t hs ht) d4 (fun t ht => by
      rw [d5 _ (by omega), b5 _ (by omega), a5 _ (by omega), d5 _ (by omega), b5 _ (by omega), a5 _ (by omega)]
      exact S18 t ht)
    refine ⟨st', ?_, f2, f3, f4⟩
    rw [fX8_takesBlock_57, if_neg (show ¬ (500 : Int32) < nI e from nplt (a := 500) (by omega) (by decide)), z31, z32, z3, zin (by omega) (by omega), zin (by omega) (by omega), zin (by omega) (by omega), zcl (by omega), zcl (by omega), zcl (by omega), og_t, og_t, k1, e70, qgreater ok_m1 o0, m0, ob_s, og_t, ol_e, og_t, og_t, og_t, sL_n (by decide), h7 1 e (by decide) (by omega), h7 2 e (by decide) (by omega), qgreater o1 o2, ob_s, sL_g, if_neg (by omega), k2, qgreater ok_m1 (ok_max o1 o2), m1, ob_s, og_t, ol_e]
    have A : fX8_takesBlock_148 l2 (nI at') (jI g) (nI e) K FU S1 0 = K S4 := by
      rw [show FU = 4999 + 1 from rfl, show (0 : Int32) = nI 0 from rfl, a1, show (4999 : Nat) = 4998 + 1 from rfl, b1, show (4998 : Nat) = 4997 + 1 from rfl, d1, show (4997 : Nat) = 4996 + 1 from rfl, fX8_takesBlock_148, if_pos (show (3 : Int32) ≤ nI (2 + 1) by decide)]
    refine A.trans ?_
    show ol (nI e + 1) _ = _
    rw [ol_e, zinc]
    exact f1
end Q26
