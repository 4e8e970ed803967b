/-! PURE PART 31: the full set; the choice -/
section Q31
variable {m : Nat} {C : uSt} {a : Nat → Nat} {n : Nat} {w : Nat → Nat → Nat}
theorem rk_nn (hO : oB n a w) (p : Nat → Bool) : ∀ b, b ≤ n → 0 ≤ rkS w p b := by
  intro b
  induction b with
  | zero => intro _; unfold rkS; simp [vU, bS]
  | succ b ih =>
    intro hb
    have h1 := ih (by omega)
    have h2 := gn_b hO (show b < n by omega)
    unfold rkS gn at *
    rw [vU, bS]
    by_cases q : p b = true
    · rw [if_pos q, if_pos q, Int.natCast_add, Int.natCast_add, Int.natCast_pow, show ((2 : Nat) : Int) = 2 from rfl]
      simp only [Int.add_mul]
      omega
    · rw [if_neg q, if_neg q, Nat.add_zero, Nat.add_zero]
      exact h1
theorem eS_mono (p : Nat → Bool) {b c : Nat} (h : b ≤ c) : eS a w p b ≤ eS a w p c := by
  induction c with
  | zero => obtain rfl : b = 0 := by omega
            exact Nat.le_refl _
  | succ c ih =>
    by_cases q : b = c + 1
    · rw [q]; exact Nat.le_refl _
    · have := ih (by omega)
      rw [eS]
      omega
theorem mg_ge (D : Tb) {t e : Nat} (ht : t < 3) : D t e ≤ mg D 0 e := by
  show D t e ≤ max (D 0 e) (max (D 1 e) (D 2 e))
  rcases (show t = 0 ∨ t = 1 ∨ t = 2 by omega) with rfl | rfl | rfl <;> omega
theorem full_l {F : Nat} (hO : oB n a w) : ∀ b, b ≤ n → eS a w (usD F w) b ≤ 500 → rkS w (usD F w) b ≤ refT a w F b (if 0 < b ∧ usD F w (b - 1) = true then 2 else 0) (eS a w (usD F w) b) := by
  have hinc := inc_all hO.2.2
  intro b
  induction b with
  | zero => intro _ _; unfold rkS; simp [vU, bS, refT, eS]
  | succ b ih =>
    intro hb he
    have hm : eS a w (usD F w) b ≤ eS a w (usD F w) (b + 1) := eS_mono (a := a) (w := w) (usD F w) (Nat.le_succ b)
    have h1 := ih (by omega) (by omega)
    have hnn := rk_nn hO (usD F w) b (by omega)
    have hbX := refT_b hO F b (by omega)
    have hbX : bD (if 0 < b ∧ w 0 (b - 1) / 100 = w 0 b / 100 then refT a w F b else mg (refT a w F b)) (1660944384 * b) := by
      split
      · exact hbX
      · exact bD_mg hbX (by omega)
    have usb : usD F w b = !(F.testBit (w 0 b / 100)) := rfl
    rw [Nat.add_sub_cancel, refT]
    by_cases qF : F.testBit (w 0 b / 100) = true
    · have ub : usD F w b = false := by rw [usb, qF]; rfl
      obtain ⟨x1, x2⟩ := ext_off (a := a) (w := w) ub
      rw [if_pos qF, if_neg (show ¬ (0 < b + 1 ∧ usD F w b = true) from fun h => by rw [ub] at h; exact absurd h.2 (by decide)), x1, x2]
      by_cases qs : 0 < b ∧ w 0 (b - 1) / 100 = w 0 b / 100
      · rw [if_pos qs]
        rw [if_neg (show ¬ (0 < b ∧ usD F w (b - 1) = true) from fun h => by
          have e2 : usD F w (b - 1) = usD F w b := by unfold usD; rw [qs.2]
          rw [e2, ub] at h
          exact absurd h.2 (by decide))] at h1
        exact h1
      · rw [if_neg qs]
        exact Int.le_trans h1 (mg_ge _ (by split <;> omega))
    · have ub : usD F w b = true := by rw [usb]; simpa using qF
      rw [if_neg qF, if_pos (show 0 < b + 1 ∧ usD F w b = true from ⟨by omega, ub⟩)]
      -- how the full set lies before b
      have st : ∃ s, s < 3 ∧ stC w (usD F w) b s ∧ rkS w (usD F w) b ≤ (if 0 < b ∧ w 0 (b - 1) / 100 = w 0 b / 100 then refT a w F b else mg (refT a w F b)) s (eS a w (usD F w) b) := by
        by_cases qs : 0 < b ∧ w 0 (b - 1) / 100 = w 0 b / 100
        · have e2 : usD F w (b - 1) = true := by rw [← ub]; unfold usD; rw [qs.2]
          rw [if_pos ⟨qs.1, e2⟩] at h1
          exact ⟨2, by decide, Or.inr (Or.inr ⟨rfl, qs.1, qs.2, e2⟩), by rw [if_pos qs]; exact h1⟩
        · refine ⟨0, by decide, Or.inl ⟨rfl, fun k hk _ hd => ?_⟩, by rw [if_neg qs]; exact Int.le_trans h1 (mg_ge _ (by split <;> omega))⟩
          have g1 := hinc b k hk (by omega)
          have g2 := hinc b (b - 1) (by omega) (by omega)
          have g3 : w 0 k ≤ w 0 (b - 1) := by
            rcases Nat.eq_or_lt_of_le (show k ≤ b - 1 by omega) with e | e
            · rw [e]; exact Nat.le_refl _
            · exact Nat.le_of_lt (hinc _ _ e (by omega))
          exact qs ⟨by omega, by omega⟩
      obtain ⟨s, hs, hst, hle⟩ := st
      have hec := eC_st (a := a) hO (show b < n by omega) hst
      have hx1 : eS a w (usD F w) (b + 1) = eS a w (usD F w) b + kS a w b s := by rw [eS, if_pos ub, hec]
      have hx2 : rkS w (usD F w) (b + 1) = rkS w (usD F w) b + gn w b := by
        unfold rkS gn
        rw [vU, bS, if_pos ub, if_pos ub, Int.natCast_add, Int.natCast_add, Int.natCast_pow, show ((2 : Nat) : Int) = 2 from rfl]
        simp only [Int.add_mul]
        omega
      rw [hx1] at he ⊢
      rw [hx2]
      generalize (if 0 < b ∧ w 0 (b - 1) / 100 = w 0 b / 100 then refT a w F b else mg (refT a w F b)) = Y at hle hbX ⊢
      unfold tkB tk
      rw [if_neg (by decide), if_neg (by decide)]
      have hq : qv Y s (kS a w b s) 501 (eS a w (usD F w) b + kS a w b s) = Y s (eS a w (usD F w) b) := by
        unfold qv
        rw [if_pos (by omega), Nat.add_sub_cancel]
      have hge : Y s (eS a w (usD F w) b) ≤ max (max (qv Y 0 (k0 a (w 0 b / 100)) 501 (eS a w (usD F w) b + kS a w b s)) (qv Y 1 (k1 a (w 0 b / 100)) 501 (eS a w (usD F w) b + kS a w b s))) (qv Y 2 (k2 a (w 0 b / 100) (nxt w b)) 501 (eS a w (usD F w) b + kS a w b s)) := by
        rw [← hq]
        rcases (show s = 0 ∨ s = 1 ∨ s = 2 by omega) with rfl | rfl | rfl
        · show qv Y 0 (k0 a (w 0 b / 100)) 501 (eS a w (usD F w) b + k0 a (w 0 b / 100)) ≤ _
          show _ ≤ max (max (qv Y 0 (k0 a (w 0 b / 100)) 501 (eS a w (usD F w) b + k0 a (w 0 b / 100))) _) _
          omega
        · show qv Y 1 (k1 a (w 0 b / 100)) 501 (eS a w (usD F w) b + k1 a (w 0 b / 100)) ≤ _
          show _ ≤ max (max _ (qv Y 1 (k1 a (w 0 b / 100)) 501 (eS a w (usD F w) b + k1 a (w 0 b / 100)))) _
          omega
        · show qv Y 2 (k2 a (w 0 b / 100) (nxt w b)) 501 (eS a w (usD F w) b + k2 a (w 0 b / 100) (nxt w b)) ≤ _
          show _ ≤ max _ (qv Y 2 (k2 a (w 0 b / 100) (nxt w b)) 501 (eS a w (usD F w) b + k2 a (w 0 b / 100) (nxt w b)))
          omega
      unfold Pt
      rw [if_neg (by omega)]
      omega
theorem ref_0 {F : Nat} (hO : oB n a w) : ∀ b, b ≤ n → 0 ≤ refT a w F b 0 0 := by
  intro b
  induction b with
  | zero => intro _; exact Int.le_refl 0
  | succ b ih =>
    intro hb
    have h1 := ih (by omega)
    have h2 : 0 ≤ (if 0 < b ∧ w 0 (b - 1) / 100 = w 0 b / 100 then refT a w F b else mg (refT a w F b)) 0 0 := by
      split
      · exact h1
      · exact Int.le_trans h1 (mg_ge _ (by decide))
    rw [refT]
    split
    · exact h2
    · exact h2
/-- the best of each energy -/
def bT (a : Nat → Nat) (w : Nat → Nat → Nat) (F n : Nat) (e : Nat) : Int := mg (refT a w F n) 0 e
theorem bT_set {F : Nat} (hO : oB n a w) (e : Nat) : bT a w F n e = -1 ∨ ∃ p : Nat → Bool, (∀ k, p k = true → k < n ∧ usD F w k = true) ∧ eS a w p n = e ∧ bT a w F n e = rkS w p n := by
  by_cases q : bT a w F n e = -1
  · exact Or.inl q
  · obtain ⟨-, t, t1, t2, t3⟩ := mg_ne (D := refT a w F n) (s := 0) (e := e) q
    obtain ⟨p, p1, p2, p3, -⟩ := tl_all (F := F) hO n (Nat.le_refl _) t e t1 t3
    exact Or.inr ⟨p, p1, p2, by unfold bT; rw [← t2]; exact p3⟩
theorem bT_full {F : Nat} (hO : oB n a w) (h : eS a w (usD F w) n ≤ 500) : rkS w (usD F w) n ≤ bT a w F n (eS a w (usD F w) n) := Int.le_trans (full_l (F := F) hO n (Nat.le_refl _) h) (mg_ge _ (by split <;> omega))
theorem bT_0 {F : Nat} (hO : oB n a w) : 0 ≤ bT a w F n 0 := Int.le_trans (ref_0 (F := F) hO n (Nat.le_refl _)) (mg_ge _ (by decide))
def vl (D : Nat → Int) (e : Nat) : Int := if D e = -1 then -1 else (D e + 16777215) / 16777216
theorem vl_rk (hn : n ≤ 24) {D : Nat → Int} {e : Nat} {p : Nat → Bool} (hO : oB n a w) (h : D e = rkS w p n) : vl D e = vU w p n ∧ sh (D e) / 16777216 = vU w p n ∧ 0 ≤ D e ∧ vU w p n ≤ 2376 ∧ (bS p n : Int) < 16777216 := by
  have h1 := rk_nn hO p n (Nat.le_refl _)
  have h2 := bS_lt24 p hn
  have h3 := vU_le hO p n (Nat.le_refl _)
  have h4 : (vU w p n : Int) ≤ 2376 := by omega
  have h5 : (bS p n : Int) < 16777216 := by omega
  unfold vl sh
  rw [h]
  unfold rkS at *
  rw [if_neg (by omega), if_neg (by omega)]
  omega
theorem vU_sub (hO : oB n a w) {p q : Nat → Bool} : ∀ b, b ≤ n → (∀ k, k < b → p k = true → q k = true) → vU w p b ≤ vU w q b ∧ (vU w p b = vU w q b → ∀ k, k < b → p k = q k) := by
  intro b
  induction b with
  | zero => intro _ _; exact ⟨Nat.le_refl _, fun _ k hk => absurd hk (by omega)⟩
  | succ b ih =>
    intro hb h
    obtain ⟨h1, h2⟩ := ih (by omega) (fun k hk => h k (by omega))
    have hv := (hO.2.1 b (by omega)).2.1
    rw [vU, vU]
    cases qp : p b
    · cases qq : q b
      · refine ⟨by simpa using h1, fun e k hk => ?_⟩
        by_cases qk : k = b
        · rw [qk, qp, qq]
        · exact h2 (by simpa using e) k (by omega)
      · refine ⟨by simp; omega, fun e => ?_⟩
        simp at e
        omega
    · have qq := h b (by omega) qp
      rw [qq]
      refine ⟨by simp; exact h1, fun e k hk => ?_⟩
      by_cases qk : k = b
      · rw [qk, qp, qq]
      · exact h2 (by simpa using e) k (by omega)
/-- the least energy of the greatest value: from e on, j energies, best so far at -/
def lO (D : Nat → Int) : Nat → Nat → Nat → Nat
  | 0, at', _ => at'
  | j + 1, at', e => if vl D e ≤ vl D at' then lO D j at' (e + 1) else lO D j e (e + 1)
theorem lO_ok (D : Nat → Int) : ∀ j at' e, vl D at' ≤ vl D (lO D j at' e) ∧ (∀ i, e ≤ i → i < e + j → vl D i ≤ vl D (lO D j at' e)) ∧ (lO D j at' e = at' ∨ (e ≤ lO D j at' e ∧ lO D j at' e < e + j)) := by
  intro j
  induction j with
  | zero => intro at' e; exact ⟨Int.le_refl _, fun i h1 h2 => absurd h2 (by omega), Or.inl rfl⟩
  | succ j ih =>
    intro at' e
    rw [lO]
    by_cases q : vl D e ≤ vl D at'
    · rw [if_pos q]
      obtain ⟨h1, h2, h3⟩ := ih at' (e + 1)
      refine ⟨h1, fun i hi hi2 => ?_, ?_⟩
      · by_cases qi : i = e
        · rw [qi]; omega
        · exact h2 i (by omega) (by omega)
      · rcases h3 with h3 | h3
        · exact Or.inl h3
        · exact Or.inr ⟨by omega, by omega⟩
    · rw [if_neg q]
      obtain ⟨h1, h2, h3⟩ := ih e (e + 1)
      refine ⟨by omega, fun i hi hi2 => ?_, ?_⟩
      · by_cases qi : i = e
        · rw [qi]; exact h1
        · exact h2 i (by omega) (by omega)
      · rcases h3 with h3 | h3
        · exact Or.inr ⟨by omega, by omega⟩
        · exact Or.inr ⟨by omega, by omega⟩
/-! longs -/
theorem j_shr {x : Int} (h : okI x) : (jI x) >>> ((24 : Int32).toInt64 &&& 63) = jI (x / 16777216) := by
  have h1 := h.1
  have h2 := h.2
  apply Int64.toInt_inj.mp
  rw [jI_t (show okI (x / 16777216) from ⟨by omega, by omega⟩)]
  have e : ((jI x) >>> ((24 : Int32).toInt64 &&& 63)).toBitVec = (jI x).toBitVec.sshiftRight 24 := by
    rw [Int64.toBitVec_shiftRight]
    have : (((24 : Int32).toInt64 &&& 63).toBitVec.smod 64) = 24#64 := by decide
    rw [this]
    rfl
  show ((jI x) >>> ((24 : Int32).toInt64 &&& 63)).toBitVec.toInt = _
  rw [e, BitVec.toInt_sshiftRight]
  show (jI x).toInt >>> 24 = _
  rw [jI_t h, Int.shiftRight_eq_div_pow]
  rfl
theorem j_bv (x : Nat) : (jI (x : Int)).toBitVec = BitVec.ofNat 64 x := by
  show BitVec.ofInt 64 (x : Int) = _
  exact BitVec.ofInt_natCast 64 x
theorem j_t32 {x : Nat} (h : x < 2147483648) : (jI (x : Int)).toInt32 = nI x := by
  apply Int32.toBitVec_inj.mp
  apply BitVec.eq_of_toNat_eq
  show ((jI (x : Int)).toBitVec.signExtend 32).toNat = (BitVec.ofNat 32 x).toNat
  first | rw [BitVec.signExtend_eq_setWidth_of_le _ (by decide)] | rw [BitVec.signExtend_eq_setWidth_of_lt _ (by decide)]
  rw [BitVec.toNat_setWidth, j_bv, BitVec.toNat_ofNat, BitVec.toNat_ofNat]
  omega
theorem j_and {x : Nat} : jI (x : Int) &&& 16777215 = jI ((x % 16777216 : Nat) : Int) := by
  apply Int64.toBitVec_inj.mp
  rw [Int64.toBitVec_and, j_bv, j_bv, show (16777215 : Int64).toBitVec = BitVec.ofNat 64 16777215 from rfl, ← BitVec.ofNat_and]
  congr 1
  exact Nat.and_two_pow_sub_one_eq_mod x 24
theorem j_sub (x y : Int) : jI x - jI y = jI (x - y) := by
  unfold jI
  rw [Int64.ofInt_sub]
theorem val_tab : ((List.range 2377).all fun v => decide (((nI v).toInt64 <<< ((24 : Int32).toInt64 &&& 63)) = jI ((v : Int) * 16777216) ∧ (nI v).toInt64 = jI (v : Int))) = true := by decide +kernel
theorem val_t {v : Nat} (h : v ≤ 2376) : ((nI v).toInt64 <<< ((24 : Int32).toInt64 &&& 63)) = jI ((v : Int) * 16777216) ∧ (nI v).toInt64 = jI (v : Int) := of_decide_eq_true (List.all_eq_true.mp val_tab v (List.mem_range.mpr (by omega)))
end Q31
