/-! PURE PART 19: a set is flushed; clean, flushDevice -/
section Q19
variable {m : Nat} {C M st : uSt} {a : Nat → Nat} {n : Nat} {w : Nat → Nat → Nat}
theorem cS_ca {st' : uSt} {s n' : Nat} {w' : Nat → Nat → Nat} (h : cS st.1 s a n w) (hc : cCa st'.1 (s + 8) n' w') (ho : ∀ i, i < s + 8 ∨ s + 8 + 5 ≤ i → st'.1 i = st.1 i) : cS st'.1 s a n' w' := by
  obtain ⟨k1, k2, k3, k4, k5, k6, k7⟩ := h
  refine ⟨?_, ?_, ?_, hc, ?_, ?_, ?_⟩
  · unfold cBt; rw [ho _ (by omega)]; exact k1
  · unfold cRu; rw [ho _ (by omega)]; exact k2
  · unfold cDv; rw [ho _ (by omega), ho _ (by omega), ho _ (by omega), ho _ (by omega), ho _ (by omega)]; exact k3
  · unfold cTt; rw [ho _ (by omega)]; exact k5
  · rw [ho _ (by omega)]; exact k6
  · rw [ho _ (by omega)]; exact k7
theorem oK_sel {q : Nat → Bool} (h : oK m a n w) : oK m a (cn q n) (wSel q n w) := ⟨h.1, h.2.1, h.2.2.1, oB_sel q h.2.2.2⟩
def flA (a : Nat → Nat) (e b v : Nat) : Nat → Nat := ua (ua (spd a e) 31 (a 31 + b)) 33 (a 33 + v)
theorem flC (p : Nat → Bool) {E : Nat} (hE : eS a w p n = E) (hc : cS C.1 15 a n w) (hk : oK m a n w) (he : E ≤ a 1) : ∃ C', fX7_flushSet (nI (bS p n)) C = some (nI (vU w p n), C') ∧ cS C'.1 15 (flA a E (bc (bS p n)) (vU w p n)) (cn (pNo p) n) (wSel (pNo p) n w) ∧ ∀ i, i < 15 ∨ 29 ≤ i → C'.1 i = C.1 i := by
  obtain ⟨hn, h9, hp⟩ := oK_p hk
  obtain ⟨s0, s1, s2, s3, s4, s5, s6, s7, s8, s9, s10, s11, s12, s13⟩ := hk.2.1
  have hm5 := hk.1
  obtain ⟨C1, e1, e2, e3⟩ := qspend (e := E) hc.1 ⟨s0, s1⟩ (by omega) he (by omega) ⟨s6, s7⟩
  have c1 : cS C1.1 15 (spd a E) n w := cS_bat hc h9 e2 e3 (fun i => spd_o)
  obtain ⟨C2, f1, f2, f3⟩ := qrm_sel (nI (bS p n)) p c1.2.2.2.1 hn (hb_bS p hn)
  have c2 := cS_ca c1 f2 f3
  have t2 : C2.1 (15 + 13) 2 = nI (a 31) := by rw [c2.2.2.2.2.1 2 (by decide), spd_o (by decide) (by decide) (by decide)]
  have t4 : C2.1 (15 + 13) 4 = nI (a 33) := by rw [c2.2.2.2.2.1 4 (by decide), spd_o (by decide) (by decide) (by decide)]
  have h9' : spd a E 9 ≤ 5 := by rw [spd_o (by decide) (by decide) (by decide)]; exact h9
  have key : fX7_flushSet (nI (bS p n)) C = some (nI (vU w p n), sI (sI C2 (15 + 13) 2 (C2.1 (15 + 13) 2 + nI (bc (bS p n)))) (15 + 13) 4 ((sI C2 (15 + 13) 2 (C2.1 (15 + 13) 2 + nI (bc (bS p n)))).1 (15 + 13) 4 + nI (vU w p n))) := by
    rw [fX7_flushSet, qX1_valueIn hc.2.2.2.1 hn, vU_b _ hn, qX2_energyIn hc.2.2.1 hc.2.2.2.1 hk.2.2.2 hk.2.2.1, eS_b _ hn, hE, qbitCount (bS_lt24 p hn)]
    simp only [ob, ol]
    rw [e1]
    simp only [obV]
    rw [f1]
  generalize bc (bS p n) = b at key ⊢
  have c3 := cS_tot (j := 2) (v := a 31 + b) (x := C2.1 (15 + 13) 2 + nI b) c2 h9' (by decide) (by rw [t2, zadd])
  have c4 := cS_tot (j := 4) (v := a 33 + vU w p n) (x := (sI C2 (15 + 13) 2 (C2.1 (15 + 13) 2 + nI b)).1 (15 + 13) 4 + nI (vU w p n)) c3 (by rw [ua_n (by decide)]; exact h9') (by decide) (by rw [sI_r, if_neg (by decide), t4, zadd])
  exact ⟨_, key, c4, fun i hi => by rw [sI_n (by omega), sI_n (by omega), f3 i (by omega), e3 i (by omega)]⟩
theorem flM (p : Nat → Bool) {E : Nat} (hE : eS a w p n = E) (hg : gR (st.1 1) a n w) (hk : oK m a n w) (he : E ≤ a 1) : ∃ M', fX8_flushes (nI (bS p n)) st = some (nI (vU w p n), M') ∧ gR (M'.1 1) (flA a E (bc (bS p n)) (vU w p n)) (cn (pNo p) n) (wSel (pNo p) n w) ∧ ∀ i, i ≠ 1 → M'.1 i = st.1 i := by
  obtain ⟨hn, h9, hp⟩ := oK_p hk
  obtain ⟨s0, s1, s2, s3, s4, s5, s6, s7, s8, s9, s10, s11, s12, s13⟩ := hk.2.1
  have hm5 := hk.1
  obtain ⟨M1, g1, g2, g3⟩ := qdrains (e := E) hg ⟨s0, s1⟩ (by omega) he (by omega) ⟨s6, s7⟩
  have u31 : M1.1 1 31 = nI (a 31) := by rw [g2.1 31 (by decide), spd_o (by decide) (by decide) (by decide)]
  have u33 : M1.1 1 33 = nI (a 33) := by rw [g2.1 33 (by decide), spd_o (by decide) (by decide) (by decide)]
  have key : fX8_flushes (nI (bS p n)) st = obV (fX8_allGo (nI (bS p n)) (sI (sI M1 1 31 (M1.1 1 31 + nI (bc (bS p n)))) 1 33 ((sI M1 1 31 (M1.1 1 31 + nI (bc (bS p n)))).1 1 33 + nI (vU w p n)))) (fun st_8 => some (nI (vU w p n), st_8)) := by
    rw [fX8_flushes, qX8_valueIn hg hn, vU_b _ hn, qX8_energyIn hg hk.2.2.2 hk.2.2.1, eS_b _ hn, hE, qbits (bS_lt24 p hn)]
    simp only [ob, ol]
    rw [g1]
    rfl
  generalize bc (bS p n) = b at key ⊢
  have g4 := gR_sI (j := 31) (v := a 31 + b) (x := M1.1 1 31 + nI b) g2 (by decide) (by rw [u31, zadd])
  have g5 := gR_sI (j := 33) (v := a 33 + vU w p n) (x := (sI M1 1 31 (M1.1 1 31 + nI b)).1 1 33 + nI (vU w p n)) g4 (by decide) (by rw [sI_r, if_neg (by decide), u33, zadd])
  obtain ⟨M2, h1, h2, h3⟩ := qallGo (nI (bS p n)) p g5 hn (hb_bS p hn)
  exact ⟨M2, by rw [key, h1]; rfl, h2, fun i hi => by rw [h3 i hi, sI_n hi, sI_n hi, g3 i hi]⟩
theorem flush_both (p : Nat → Bool) (hc : cS C.1 15 a n w) (hg : gR (st.1 1) a n w) (hk : oK m a n w) (hm : m < 512) (h27 : a 27 = 0) (he : eS a w p n ≤ a 1) : ∃ C' M', fX7_flushSet (nI (bS p n)) C = some (nI (vU w p n), C') ∧ fX8_flushes (nI (bS p n)) st = some (nI (vU w p n), M') ∧ pR (m + 1) 15 C'.1 (M'.1 1) ∧ (∀ i, i < 15 ∨ 29 ≤ i → C'.1 i = C.1 i) ∧ ∀ i, i ≠ 1 → M'.1 i = st.1 i := by
  obtain ⟨E, hE⟩ : ∃ E, eS a w p n = E := ⟨_, rfl⟩
  rw [hE] at he
  obtain ⟨C', e1, e2, e3⟩ := flC p hE hc hk he
  obtain ⟨M', g1, g2, g3⟩ := flM p hE hg hk he
  have T := oT_spd (oT_of hk.2.1) h27 he
  have D : oD (spd a E) := oD_e hk.2.2.1 (fun i _ _ => spd_o (by omega) (by omega) (by omega)) (by rw [spd_o (by decide) (by decide) (by decide)]; exact hk.2.2.1.2.1)
  have B : oB n (spd a E) w := oB_e hk.2.2.2 (spd_o (by decide) (by decide) (by decide))
  have K : oK (m + 1) (spd a E) n w := ⟨hm, oS_of T, D, B⟩
  exact ⟨C', M', e1, g1, ⟨_, _, _, e2, g2, oK_sel (oK_tot (j := 4) (oK_tot (j := 2) K))⟩, e3, g3⟩
end Q19
