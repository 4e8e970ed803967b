/-! PURE PART 32: the best set, on both sides -/
section Q32
variable {m : Nat} {C M st : uSt} {a : Nat → Nat} {n : Nat} {w : Nat → Nat → Nat}
def iV (x : Int) : Int32 := if x = -1 then -1 else nI x.toNat
theorem bT_v {F : Nat} (hO : oB n a w) (e : Nat) : okI (bT a w F n e) ∧ bT a w F n e ≤ 100000000000 ∧ -1 ≤ vl (bT a w F n) e ∧ vl (bT a w F n) e ≤ 2376 ∧ sh (bT a w F n e) / 16777216 = vl (bT a w F n) e ∧ okI (sh (bT a w F n e)) := by
  rcases bT_set (F := F) hO e with h | ⟨p, -, -, h⟩
  · have : vl (bT a w F n) e = -1 := by unfold vl; rw [if_pos h]
    rw [this, h]
    exact ⟨ok_m1, by decide, by decide, by decide, by decide, ok_m1⟩
  · obtain ⟨h1, h2, h3, h4, h5⟩ := vl_rk (D := bT a w F n) hO.1 hO h
    have hb : bT a w F n e ≤ 100000000000 := by
      rw [h]
      unfold rkS
      omega
    rw [h1, h2]
    exact ⟨⟨by omega, by omega⟩, hb, by omega, by omega, rfl, sh_ok (by omega) hb⟩
theorem iV_le {x y : Int} (hx : -1 ≤ x ∧ x ≤ 2376) (hy : -1 ≤ y ∧ y ≤ 2376) : iV x ≤ iV y ↔ x ≤ y := by
  unfold iV
  by_cases q1 : x = -1
  · rw [if_pos q1]
    by_cases q2 : y = -1
    · rw [if_pos q2]; exact ⟨fun _ => by omega, fun _ => Int32.le_refl _⟩
    · rw [if_neg q2]; exact ⟨fun _ => by omega, fun _ => Int32.le_of_lt (zmm (by omega))⟩
  · rw [if_neg q1]
    by_cases q2 : y = -1
    · rw [if_pos q2]
      refine ⟨fun h => ?_, fun h => by omega⟩
      have h2 := zmm (a := x.toNat) (by omega)
      rw [Int32.le_iff_toInt_le] at h
      rw [Int32.lt_iff_toInt_lt] at h2
      omega
    · rw [if_neg q2, zle (by omega) (by omega)]
      omega
theorem qvalueBy {F e : Nat} (hO : oB n a w) (he : e ≤ 500) (h : st.2.1 9 e = jI (bT a w F n e)) : fX8_valueBy (nI e) st = some (iV (vl (bT a w F n) e)) := by
  rw [fX8_valueBy, zin (by omega) (by omega), zcl (by omega), og_t, og_t, h]
  obtain ⟨v1, v2, v3, v4, v5, v6⟩ := bT_v (F := F) hO e
  unfold iV
  by_cases q : bT a w F n e = -1
  · have e1 : vl (bT a w F n) e = -1 := by unfold vl; rw [if_pos q]
    rw [e1, if_pos rfl, q, if_pos ((lg_cmp_eq _ _).mpr jI_m1.symm)]
  · have e1 : vl (bT a w F n) e = (bT a w F n e + 16777215) / 16777216 := by unfold vl; rw [if_neg q]
    have hp := v1.1
    rw [if_neg (fun h => q ((jI_eq v1 ok_m1).mp (by rw [← jI_m1]; exact (lg_cmp_eq _ _).mp h)))]
    rw [if_neg (by omega), show (16777216 : Int64) = jI 16777216 by decide, show (1 : Int64) = jI 1 by decide, jI_add, j_sub, show bT a w F n e + 16777216 - 1 = bT a w F n e + 16777215 by omega, j_shr ⟨by omega, by omega⟩, ← e1]
    obtain ⟨v, hv⟩ : ∃ v : Nat, vl (bT a w F n) e = v := ⟨(vl (bT a w F n) e).toNat, by omega⟩
    rw [hv, j_t32 (by omega)]
    rfl
theorem least_l {F E : Nat} (hO : oB n a w) (hE : E ≤ 500) (h : ∀ e, e ≤ 500 → st.2.1 9 e = jI (bT a w F n e)) (ke : Int32 → Option Int32) : ∀ j e at' fu, e + j = E + 1 → at' ≤ E → j < fu → fX8_leastOf_4 (nI E) st ke fu (nI at') (nI e) = ke (nI (lO (bT a w F n) j at' e)) := by
  intro j
  induction j with
  | zero =>
    intro e at' fu he ha hf
    obtain ⟨fu, rfl⟩ : ∃ x, fu = x + 1 := ⟨fu - 1, by omega⟩
    rw [fX8_leastOf_4, if_pos (plt (by omega) (by omega))]
    rfl
  | succ j ih =>
    intro e at' fu he ha hf
    obtain ⟨fu, rfl⟩ : ∃ x, fu = x + 1 := ⟨fu - 1, by omega⟩
    obtain ⟨-, -, v3, v4, -, -⟩ := bT_v (F := F) hO e
    obtain ⟨-, -, u3, u4, -, -⟩ := bT_v (F := F) hO at'
    rw [fX8_leastOf_4, if_neg (nplt (by omega) (by omega)), qvalueBy hO (by omega) (h e (by omega)), ob_s, qvalueBy hO (by omega) (h at' (by omega)), ob_s, oj1_e, lO]
    by_cases q : vl (bT a w F n) e ≤ vl (bT a w F n) at'
    · rw [if_pos ((iV_le ⟨v3, v4⟩ ⟨u3, u4⟩).mpr q), if_pos q]
      dsimp only
      rw [ol_e, zinc]
      exact ih (e + 1) at' fu (by omega) ha (by omega)
    · rw [if_neg (fun h => q ((iV_le ⟨v3, v4⟩ ⟨u3, u4⟩).mp h)), if_neg q]
      dsimp only
      rw [ol_e, zinc]
      exact ih (e + 1) e fu (by omega) (by omega) (by omega)
theorem best_l {F E : Nat} (hO : oB n a w) (hE : E ≤ 500) (h : ∀ e, e ≤ E → C.2.1 6 e = jI (sh (bT a w F n e))) (ke : Int64 → Option (Int32 × uSt)) : ∀ j e at' fu, e + j = E + 1 → at' ≤ E → j < fu → fX4_best_50 15 (nI E) C ke fu (jI (sh (bT a w F n at'))) (nI e) = ke (jI (sh (bT a w F n (lO (bT a w F n) j at' e)))) := by
  intro j
  induction j with
  | zero =>
    intro e at' fu he ha hf
    obtain ⟨fu, rfl⟩ : ∃ x, fu = x + 1 := ⟨fu - 1, by omega⟩
    rw [fX4_best_50, if_pos (plt (by omega) (by omega))]
    rfl
  | succ j ih =>
    intro e at' fu he ha hf
    obtain ⟨fu, rfl⟩ : ∃ x, fu = x + 1 := ⟨fu - 1, by omega⟩
    obtain ⟨-, -, v3, v4, v5, v6⟩ := bT_v (F := F) hO e
    obtain ⟨-, -, u3, u4, u5, u6⟩ := bT_v (F := F) hO at'
    rw [fX4_best_50, if_neg (nplt (by omega) (by omega)), zin (by omega) (by omega), zcl (by omega), og_t, og_t, h e (by omega), j_shr v6, j_shr u6, v5, u5, lO]
    by_cases q : vl (bT a w F n) e ≤ vl (bT a w F n) at'
    · rw [if_pos ((lg_cmp_le _ _).mpr ((jI_le ⟨v3, by omega⟩ ⟨u3, by omega⟩).mpr q)), if_pos q, ol_e, zinc]
      exact ih (e + 1) at' fu (by omega) ha (by omega)
    · rw [if_neg (fun h => q ((jI_le ⟨v3, by omega⟩ ⟨u3, by omega⟩).mp ((lg_cmp_le _ _).mp h))), if_neg q, ol_e, ol_e, zinc]
      exact ih (e + 1) e fu (by omega) (by omega) (by omega)
/-- the best set of both sides -/
theorem best_both {F E : Nat} (hd : cDv C.1 (15 + 3) a) (hc : cCa C.1 (15 + 8) n w) (hg : gR (st.1 1) a n w) (hO : oB n a w) (hD : oD a) (hE : E ≤ 500) : ∃ (p : Nat → Bool) (C' M' : uSt) (e : Nat), e ≤ 500 ∧ fX4_best 15 (nI (bS (usD F w) n)) (nI E) C = some (nI (bS p n), C') ∧ C'.1 = C.1 ∧ fX8_weighs (nI F) st = some ((), M') ∧ M'.1 = st.1 ∧ fX8_leastOf (nI E) M' = some (nI e) ∧ fX8_valueBy (nI e) M' = some (nI (vU w p n)) ∧ fX8_bestOf (nI E) M' = some (nI (bS p n)) ∧ eS a w p n ≤ E ∧ (E = 0 → vU w p n = 0) := by
  have hn := hO.1
  obtain ⟨M', m1, m2, m3⟩ := qweighs (F := F) hg hO hD
  have hlo : fX8_leastOf (nI E) M' = some (nI (lO (bT a w F n) E 0 1)) := by
    rw [fX8_leastOf]
    exact least_l hO hE m3 _ E 1 0 FU (by omega) (by omega) (FU_lt (by omega))
  obtain ⟨l1, l2, l3⟩ := lO_ok (bT a w F n) E 0 1
  have hle : lO (bT a w F n) E 0 1 ≤ E := by omega
  have hmx : ∀ i, i ≤ E → vl (bT a w F n) i ≤ vl (bT a w F n) (lO (bT a w F n) E 0 1) := fun i hi => by
    by_cases q : i = 0
    · rw [q]; exact l1
    · exact l2 i (by omega) (by omega)
  have h0 := bT_0 (F := F) hO
  have v0 : 0 ≤ vl (bT a w F n) 0 := by unfold vl; rw [if_neg (by omega)]; omega
  generalize hat : lO (bT a w F n) E 0 1 = at' at *
  have hv := hmx 0 (by omega)
  have hset : ∃ p : Nat → Bool, (∀ k, p k = true → k < n ∧ usD F w k = true) ∧ eS a w p n = at' ∧ bT a w F n at' = rkS w p n := by
    rcases bT_set (F := F) hO at' with h | h
    · have : vl (bT a w F n) at' = -1 := by unfold vl; rw [if_pos h]
      omega
    · exact h
  obtain ⟨p, p1, p2, p3⟩ := hset
  obtain ⟨r1, r2, r3, r4, r5⟩ := vl_rk (D := bT a w F n) hn hO p3
  have hvb : fX8_valueBy (nI at') M' = some (nI (vU w p n)) := by
    rw [qvalueBy hO (by omega) (m3 at' (by omega)), r1]
    unfold iV
    rw [if_neg (by omega)]
    rfl
  have hbo : fX8_bestOf (nI E) M' = some (nI (bS p n)) := by
    rw [fX8_bestOf, hlo, ob_s, hvb, ob_s, zin (by omega) (by omega), zcl (by omega), og_t, (val_t (v := vU w p n) (by omega)).1, m3 at' (by omega), show mg (refT a w F n) 0 at' = bT a w F n at' from rfl, p3, j_sub]
    unfold rkS
    rw [show (vU w p n : Int) * 16777216 - ((vU w p n : Int) * 16777216 - (bS p n : Int)) = (bS p n : Int) by omega, j_t32 (by omega)]
  have hz : E = 0 → vU w p n = 0 := by
    intro e0
    have e1 : at' = 0 := by omega
    rw [e1] at p2
    rcases Nat.eq_zero_or_pos (vU w p n) with q | q
    · exact q
    · have hne : bS p n ≠ 0 := by
        intro e2
        have : ∀ k, k < n → p k = false := fun k hk => by
          have := bS_bit p n k
          rw [e2, Nat.zero_testBit] at this
          simpa [hk] using this.symm
        have e3 := vU_ext (w := w) (p := p) (q := fun _ => false) n this
        have e4 : ∀ b, vU w (fun _ => false) b = 0 := by
          intro b
          induction b with
          | zero => rfl
          | succ b ih => rw [vU, ih]; rfl
        rw [e4] at e3
        omega
      obtain ⟨k, hk, pk⟩ := bS_ne p n hne
      have := eS_pos hO hD p pk n (Nat.le_refl _) hk
      omega
  by_cases qf : eS a w (usD F w) n ≤ E
  · -- all usable blocks fit
    have hf := bT_full (F := F) hO (show eS a w (usD F w) n ≤ 500 by omega)
    have hfn := rk_nn hO (usD F w) n (Nat.le_refl _)
    have hs2 : ∃ q : Nat → Bool, (∀ k, q k = true → k < n ∧ usD F w k = true) ∧ eS a w q n = eS a w (usD F w) n ∧ bT a w F n (eS a w (usD F w) n) = rkS w q n := by
      rcases bT_set (F := F) hO (eS a w (usD F w) n) with h | h
      · omega
      · exact h
    obtain ⟨q, q1, q2, q3⟩ := hs2
    obtain ⟨t1, t2, t3, t4, t5⟩ := vl_rk (D := bT a w F n) hn hO q3
    have hge : vU w (usD F w) n ≤ vU w q n := by
      have b1 := bS_lt24 (usD F w) hn
      have b2 : (0 : Int) ≤ (bS q n : Int) := by omega
      rw [q3] at hf
      unfold rkS at hf
      omega
    have hvm := hmx _ qf
    rw [t1, r1] at hvm
    have hpu := vU_sub (w := w) (a := a) hO (p := p) (q := usD F w) n (Nat.le_refl _) (fun k _ hk => (p1 k hk).2)
    have hpe := hpu.2 (by omega)
    have hbe : bS p n = bS (usD F w) n := by
      have : ∀ j, j ≤ n → bS p j = bS (usD F w) j := by
        intro j
        induction j with
        | zero => intro _; rfl
        | succ j ih => intro hj; rw [bS, bS, ih (by omega), hpe j (by omega)]
      exact this n (Nat.le_refl _)
    refine ⟨p, C, M', at', by omega, ?_, rfl, m1, m2, hlo, hvb, hbo, by omega, hz⟩
    rw [fX4_best, qX2_energyIn hd hc hO hD, eS_b _ hn, ob_s, if_neg (nplt qf (by have := eS_le hO hD (usD F w) n (Nat.le_refl _); omega)), hbe]
  · obtain ⟨C', c1, c2, c3⟩ := qrank (F := F) (l := E) hd hc hO hD hE
    have hEl := eS_le hO hD (usD F w) n (Nat.le_refl _)
    refine ⟨p, C', M', at', by omega, ?_, c2, m1, m2, hlo, hvb, hbo, by omega, hz⟩
    have lim : (if (0 : Int32) < ((if (500 : Int32) < nI E then (500 : Int32) else nI E)) then ((if (500 : Int32) < nI E then (500 : Int32) else nI E)) else (0 : Int32)) = nI E := by
      rw [if_neg (show ¬ (500 : Int32) < nI E from nplt (a := 500) (by omega) (by decide))]
      by_cases q : E = 0
      · rw [q]; rfl
      · rw [if_pos (show (0 : Int32) < nI E from plt (a := 0) (by omega) (by omega))]
    rw [fX4_best, qX2_energyIn hd hc hO hD, eS_b _ hn, ob_s, if_pos (plt (by omega) (by omega)), lim, ol_e, c1, obV_st, c3 0 (by omega), ol_e]
    refine (best_l (F := F) hO hE c3 _ E 1 0 FU (by omega) (by omega) (FU_lt (by omega))).trans ?_
    rw [hat]
    obtain ⟨y, hy⟩ : ∃ y : Nat, sh (bT a w F n at') = y := ⟨(sh (bT a w F n at')).toNat, by unfold sh; split <;> omega⟩
    have hy2 : y % 16777216 = 16777215 - bS p n := by
      unfold sh at hy
      rw [if_neg (by omega), p3] at hy
      unfold rkS at hy
      omega
    rw [hy, j_and, hy2, show (16777215 : Int64) = jI 16777215 by decide, j_sub, show (16777215 : Int) - ((16777215 - bS p n : Nat) : Int) = (bS p n : Int) by omega, j_t32 (by omega)]
end Q32
