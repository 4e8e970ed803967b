/-! PURE PART 44: load: the two readers as wholes -/
section Q44
variable {b : Nat → Nat} {L m : Nat} {C M : uSt}
theorem zrep (x : Int32) : x = nI x.toUInt32.toNat := by
  apply Int32.toBitVec_inj.mp
  show x.toBitVec = BitVec.ofNat 32 x.toUInt32.toBitVec.toNat
  simp
theorem zval {x : Int32} {z : Nat} (h : x = nI z) (hz : z < 2147483648) : x.toUInt32.toNat = z := by
  rw [h]
  show (BitVec.ofNat 32 z).toNat = z
  rw [BitVec.toNat_ofNat]
  omega
/-- the class's reader from its start -/
def cp0S (C : uSt) : uSt := sI (sI (sI (sI (sI (sI (sI (sI C 1 2 0) 1 3 (-1)) 1 6 0) 31 0 0) 31 1 24) 31 2 0) 31 3 0) 32 0 0
theorem read_both (hL : L ≤ 400) (h1 : C.1 1 1 = nI L) (h2 : ∀ k, k < L → b k < 256 ∧ C.1 2 k = sB (b k) ∧ M.1 6 k = nI (b k)) (T1 : uSt) (p0 : T1.1 0 8 = nI L) (p1 : T1.1 0 9 = nI 0) (p2 : T1.1 0 13 = 0) (p3 : T1.1 0 14 = -1) (p4 : T1.1 6 = M.1 6) (p5 : ∀ i, i < 109 → T1.1 2 i = nI (aP i)) (ke' : uSt → Option (Int32 × uSt)) : ∃ C4 M4, (∀ z, (if (C4.1 1 4) = 0 then some ((), C4) else obV (fX5_refuse (1 : Int32) C4) (fun st_10 => some ((), st_10))) = z → fX5_readInto 29 C = z) ∧ (obV (fX8_token T1) (fun st_8 => obV (fX8_battery st_8) (fun st_9 => obV (fX8_settings st_9) (fun st_10 => fX8_load_49 ke' FU st_10)))) = ke' M4 ∧ pX b L C4 M4 ∧ (∀ i, i ≠ 1 → i < 30 ∨ 36 ≤ i → C4.1 i = C.1 i) ∧ (∀ j, 5 ≤ j → C4.1 30 j = C.1 30 j) ∧ (∀ i, i ≠ 0 → i ≠ 2 → M4.1 i = T1.1 i) ∧ M4.1 0 0 = T1.1 0 0 ∧ M4.1 0 7 = T1.1 0 7 ∧ (∀ j, 25 ≤ j → M4.1 2 j = T1.1 2 j) ∧ (pG b L C4 M4 → (∃ z0 z1 z2 z3 z4, (C4.1 30 0 = nI z0 ∧ C4.1 30 1 = nI z1 ∧ C4.1 30 2 = nI z2 ∧ C4.1 30 3 = nI z3 ∧ C4.1 30 4 = nI z4) ∧ (M4.1 2 0 = nI z0 ∧ M4.1 2 1 = nI z1 ∧ M4.1 2 2 = nI z2 ∧ M4.1 2 3 = nI z3 ∧ M4.1 2 4 = nI z4) ∧ 1 ≤ z0 ∧ z0 ≤ 500 ∧ z1 ≤ z0 ∧ z2 ≤ 50 ∧ 1 ≤ z3 ∧ z3 ≤ 50 ∧ 1 ≤ z4 ∧ z4 ≤ 1000) ∧ ruI C4 M4 ∧ ∃ k, k ≤ 5 ∧ dvI C4 M4 k) := by
  have S : ∀ i, i ≠ 1 → i ≠ 31 → i ≠ 32 → (cp0S C).1 i = C.1 i := fun i a c d => by unfold cp0S; rw [sI_n d, sI_n c, sI_n c, sI_n c, sI_n c, sI_n a, sI_n a, sI_n a]
  have ht : tx b L (cp0S C) T1 := ⟨hL, h1, p0, fun k hk => by rw [S 2 (by decide) (by decide) (by decide), p4]; exact h2 k hk⟩
  obtain ⟨C1, M1, t1, t2, t3, t4, t5⟩ := tok_both ht rfl p2 rfl p3 (Nat.zero_le L) rfl p1
  obtain ⟨C2, M2, b1, b2, b3, b4, b5, b6, b7, b8, b9, b10, b11, b12⟩ := bat_both t3
  have E7 : ∀ z, obV (fX5_readSettings (29 + 2) C2) (fun st_8 => obV (fX5_readDevices (29 + 3) st_8) (fun st_9 => (if (st_9.1 1 4) = 0 then some ((), st_9) else obV (fX5_refuse (1 : Int32) st_9) (fun st_10 => some ((), st_10))))) = z → fX5_readInto 29 C = z := by
    intro z hz
    have t1 : fX5_readToken (sI (sI (sI (sI (sI (sI (sI (sI C 1 2 0) 1 3 (-1)) 1 6 0) 31 0 0) 31 1 24) 31 2 0) 31 3 0) 32 0 0) = some ((), C1) := t1
    have b1 : fX5_readBattery (29 + 1) C1 = some ((), C2) := b1
    rw [fX5_readInto, ol_e, ol_e, ol_e, fX3_setDefaults, ol_e, ol_e, ol_e, ol_e, obV_st, ol_e, t1, obV_st, b1, obV_st]
    exact hz
  have E8 : (obV (fX8_token T1) (fun st_8 => obV (fX8_battery st_8) (fun st_9 => obV (fX8_settings st_9) (fun st_10 => fX8_load_49 ke' FU st_10)))) = obV (fX8_settings M2) (fun st_10 => fX8_load_49 ke' FU st_10) := by
    rw [t2, obV_st, b2, obV_st]
  have FC2 : ∀ i, i ≠ 1 → i < 30 ∨ 36 ≤ i → C2.1 i = C.1 i := fun i a c => by rw [b4 i a (by omega), t4.1 i a, S i a (by omega) (by omega)]
  have F30 : ∀ j, 5 ≤ j → C2.1 30 j = C.1 30 j := fun j hj => by rw [b6 j hj, t4.1 30 (by decide), S 30 (by decide) (by decide) (by decide)]
  have FM2 : ∀ i, i ≠ 0 → i ≠ 2 → M2.1 i = T1.1 i := fun i a c => by rw [b7 i a c, t5.1 i a]
  have R2 : ∀ j, 5 ≤ j → M2.1 2 j = T1.1 2 j := fun j hj => by rw [b11 j hj, t5.1 2 (by decide)]
  have dE : ∀ {A B : uSt}, pE A B → fX5_readDevices (29 + 3) A = some ((), A) ∧ fX8_load_49 ke' FU B = ke' B := by
    intro A B e
    obtain ⟨f1, f2⟩ := word_E (w := 1) e
    have f2 : fX8_isWord 9 B = some 0 := f2
    refine ⟨?_, ?_⟩
    · rw [fX5_readDevices, show FU = 4999 + 1 from rfl, fX5_readDevices_2, if_neg (by decide), f1, ob_s, if_pos rfl]
    · rw [show FU = 4999 + 1 from rfl, fX8_load_49, f2, ob_s, if_pos rfl]
  rcases b3 with g | g
  · have ru : ruI C2 M2 := ⟨0, 24, 0, 0, by rw [b4 31 (by decide) (by decide), t4.1 31 (by decide)]; rfl, by rw [R2 5 (by decide), p5 5 (by decide)]; rfl, by rw [b4 31 (by decide) (by decide), t4.1 31 (by decide)]; rfl, by rw [R2 6 (by decide), p5 6 (by decide)]; rfl, by rw [b4 31 (by decide) (by decide), t4.1 31 (by decide)]; rfl, by rw [R2 7 (by decide), p5 7 (by decide)]; rfl, by rw [b4 31 (by decide) (by decide), t4.1 31 (by decide)]; rfl, by rw [R2 8 (by decide), p5 8 (by decide)]; rfl, by decide, by decide, by decide, by decide⟩
    have r0 : ru0 C2 M2 := ⟨by rw [b4 31 (by decide) (by decide), t4.1 31 (by decide)]; rfl, by rw [R2 7 (by decide), p5 7 (by decide)]; rfl, by rw [R2 8 (by decide), p5 8 (by decide)]; rfl⟩
    obtain ⟨tt, -, -, hx⟩ := set_G g
    obtain ⟨C3, M3, s1, s2, s3, s4, s5⟩ := sets_l 4 0 0 FU FU C2 M2 _ (by decide) (by decide) (by decide) (Or.inl g) (fun _ => ⟨ru, fun _ => r0⟩) hx (FU_lt (by decide)) (FU_lt (by decide))
    have s1 : fX5_readSettings (29 + 2) C2 = some ((), C3) := by rw [fX5_readSettings]; exact s1
    have s2 : fX8_settings M2 = some ((), M3) := by rw [fX8_settings, hx, ob_s]; exact s2
    obtain ⟨q1, q2, q3, q4, q5, q6, q7⟩ := s4
    have bat3 : ∀ A B : uSt, A.1 30 = C2.1 30 → (∀ j, j < 5 → B.1 2 j = M2.1 2 j) → ∃ z0 z1 z2 z3 z4, (A.1 30 0 = nI z0 ∧ A.1 30 1 = nI z1 ∧ A.1 30 2 = nI z2 ∧ A.1 30 3 = nI z3 ∧ A.1 30 4 = nI z4) ∧ (B.1 2 0 = nI z0 ∧ B.1 2 1 = nI z1 ∧ B.1 2 2 = nI z2 ∧ B.1 2 3 = nI z3 ∧ B.1 2 4 = nI z4) ∧ 1 ≤ z0 ∧ z0 ≤ 500 ∧ z1 ≤ z0 ∧ z2 ≤ 50 ∧ 1 ≤ z3 ∧ z3 ≤ 50 ∧ 1 ≤ z4 ∧ z4 ≤ 1000 := by
      intro A B e1 e2
      rw [e1, e2 0 (by decide), e2 1 (by decide), e2 2 (by decide), e2 3 (by decide), e2 4 (by decide)]
      exact b12 g
    rcases s3 with g3 | g3
    · have dv0 : dvI C3 M3 0 := ⟨by rw [q1 32 (by decide) (by decide), b4 32 (by decide) (by decide), t4.1 32 (by decide)]; rfl, by rw [q7 9 (by omega), R2 9 (by decide), p5 9 (by decide)]; rfl, fun i hi => absurd hi (Nat.not_lt_zero i)⟩
      obtain ⟨C4, M4, d1, d2, d3, d4, d5⟩ := dev_l (b := b) (L := L) ke' 6 0 FU FU C3 M3 (by decide) (Or.inl g3) (fun _ => ⟨by decide, dv0⟩) (FU_lt (by decide)) (FU_lt (by decide))
      obtain ⟨u1, u2, u3, u4, u5, u6, u7⟩ := d4
      have d1 : fX5_readDevices (29 + 3) C3 = some ((), C4) := by rw [fX5_readDevices]; exact d1
      refine ⟨C4, M4, fun z hz => E7 z (by rw [s1, obV_st, d1, obV_st]; exact hz), by rw [E8, s2, obV_st]; exact d2, d3, fun i a c => by rw [u1 i a (by omega), q1 i a (by omega), FC2 i a c], fun j hj => by rw [u1 30 (by decide) (by omega), q1 30 (by decide) (by decide), F30 j hj], fun i a c => by rw [u3 i a c, q3 i a c, FM2 i a c], by rw [u4, q4, b8, t5.2.1], by rw [u5, q5, b9, t5.2.2.1], fun j hj => by rw [u7 j (by omega), q7 j (by omega), R2 j (by omega)], fun gg => ⟨bat3 C4 M4 (by rw [u1 30 (by decide) (by omega), q1 30 (by decide) (by decide)]) (fun j hj => by rw [u7 j (by omega), q7 j (by omega)]), ?_, d5 gg⟩⟩
      have r3 := s5 g3
      unfold ruI at r3 ⊢
      rw [u1 31 (by decide) (by omega), u7 5 (by omega), u7 6 (by omega), u7 7 (by omega), u7 8 (by omega)]
      exact r3
    · obtain ⟨k1, k2⟩ := dE g3
      exact ⟨C3, M3, fun z hz => E7 z (by rw [s1, obV_st, k1, obV_st]; exact hz), by rw [E8, s2, obV_st]; exact k2, Or.inr g3, fun i a c => by rw [q1 i a (by omega), FC2 i a c], fun j hj => by rw [q1 30 (by decide) (by decide), F30 j hj], fun i a c => by rw [q3 i a c, FM2 i a c], by rw [q4, b8, t5.2.1], by rw [q5, b9, t5.2.2.1], fun j hj => by rw [q7 j (by omega), R2 j (by omega)], fun gg => absurd g3 (fun e => not_GE gg e)⟩
  · obtain ⟨e1, e2⟩ := set_E g
    obtain ⟨k1, k2⟩ := dE g
    have s1 : fX5_readSettings (29 + 2) C2 = some ((), C2) := by rw [fX5_readSettings, show FU = 4999 + 1 from rfl, fX5_readSettings_4, if_neg (by decide), e1, ob_s, if_pos rfl]
    have s2 : fX8_settings M2 = some ((), M2) := by rw [fX8_settings, e2, ob_s, show FU = 4999 + 1 from rfl, fX8_settings_7, if_pos rfl]
    exact ⟨C2, M2, fun z hz => E7 z (by rw [s1, obV_st, k1, obV_st]; exact hz), by rw [E8, s2, obV_st]; exact k2, Or.inr g, FC2, F30, FM2, by rw [b8, t5.2.1], by rw [b9, t5.2.2.1], fun j hj => R2 j (by omega), fun gg => absurd g (fun e => not_GE gg e)⟩
end Q44
