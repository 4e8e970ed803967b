/-! PURE PART 8: the number of bits -/
theorem and_sp {b c : Nat} (hb : b < 256) (hc : c < 256) (q r : Nat) : (b + 256 * q) &&& (c + 256 * r) = (b &&& c) + 256 * (q &&& r) := by
  have e1 : ((b + 256 * q) &&& (c + 256 * r)) / 2 ^ 8 = q &&& r := by
    rw [Nat.and_div_two_pow]
    rw [show (b + 256 * q) / 2 ^ 8 = q by omega, show (c + 256 * r) / 2 ^ 8 = r by omega]
  have e2 : ((b + 256 * q) &&& (c + 256 * r)) % 2 ^ 8 = b &&& c := by
    rw [Nat.and_mod_two_pow]
    rw [show (b + 256 * q) % 2 ^ 8 = b by omega, show (c + 256 * r) % 2 ^ 8 = c by omega]
  omega
def pA1 (M x : Nat) : Nat := x - ((x / 2) &&& M)
def pA2 (M y : Nat) : Nat := (y &&& M) + ((y / 4) &&& M)
def pA3 (M z : Nat) : Nat := (z + z / 16) &&& M
def pc8 (b : Nat) : Nat := b % 2 + b / 2 % 2 + b / 4 % 2 + b / 8 % 2 + b / 16 % 2 + b / 32 % 2 + b / 64 % 2 + b / 128 % 2
theorem pA1_tab : ((List.range 256).all fun b => decide (((b / 2 + 128) &&& 85) = ((b / 2) &&& 85) ∧ ((b / 2) &&& 85) ≤ b)) = true := by decide +kernel
theorem pA2_tab : ((List.range 256).all fun b => decide (((b / 4 + 64) &&& 51) = ((b / 4) &&& 51) ∧ ((b / 4 + 128) &&& 51) = ((b / 4) &&& 51) ∧ ((b / 4 + 192) &&& 51) = ((b / 4) &&& 51) ∧ pA2 51 b < 256)) = true := by decide +kernel
theorem pA12_tab : ((List.range 256).all fun b => decide (pA1 85 b < 256 ∧ pA3 15 (pA2 51 (pA1 85 b)) = pc8 b ∧ pA2 51 (pA1 85 b) % 16 ≤ 4 ∧ pA2 51 (pA1 85 b) / 16 ≤ 4)) = true := by decide +kernel
theorem pA1_b {b : Nat} (h : b < 256) : ((b / 2 + 128) &&& 85) = ((b / 2) &&& 85) ∧ ((b / 2) &&& 85) ≤ b := of_decide_eq_true (List.all_eq_true.mp pA1_tab b (List.mem_range.mpr h))
theorem pA2_b {b : Nat} (h : b < 256) : ((b / 4 + 64) &&& 51) = ((b / 4) &&& 51) ∧ ((b / 4 + 128) &&& 51) = ((b / 4) &&& 51) ∧ ((b / 4 + 192) &&& 51) = ((b / 4) &&& 51) ∧ pA2 51 b < 256 := of_decide_eq_true (List.all_eq_true.mp pA2_tab b (List.mem_range.mpr h))
theorem pA12_b {b : Nat} (h : b < 256) : pA1 85 b < 256 ∧ pA3 15 (pA2 51 (pA1 85 b)) = pc8 b ∧ pA2 51 (pA1 85 b) % 16 ≤ 4 ∧ pA2 51 (pA1 85 b) / 16 ≤ 4 := of_decide_eq_true (List.all_eq_true.mp pA12_tab b (List.mem_range.mpr h))
theorem pA1_sp {b : Nat} (hb : b < 256) (q M : Nat) (hq : ((q / 2) &&& M) ≤ q) : pA1 (85 + 256 * M) (b + 256 * q) = pA1 85 b + 256 * pA1 M q := by
  unfold pA1
  obtain ⟨t1, t2⟩ := pA1_b hb
  have e : (b + 256 * q) / 2 = (b / 2 + 128 * (q % 2)) + 256 * (q / 2) := by omega
  rw [e, and_sp (by omega) (by decide)]
  have : ((b / 2 + 128 * (q % 2)) &&& 85) = ((b / 2) &&& 85) := by
    rcases (show q % 2 = 0 ∨ q % 2 = 1 by omega) with z | z <;> rw [z]
    · rw [Nat.mul_zero, Nat.add_zero]
    · exact t1
  rw [this]
  generalize (b / 2) &&& 85 = u at t2 ⊢
  generalize (q / 2) &&& M = v at hq ⊢
  omega
theorem pA2_sp {b : Nat} (hb : b < 256) (q M : Nat) : pA2 (51 + 256 * M) (b + 256 * q) = pA2 51 b + 256 * pA2 M q := by
  unfold pA2
  obtain ⟨t1, t2, t3, -⟩ := pA2_b hb
  have e : (b + 256 * q) / 4 = (b / 4 + 64 * (q % 4)) + 256 * (q / 4) := by omega
  rw [e, and_sp hb (by decide) q M, and_sp (b := b / 4 + 64 * (q % 4)) (by omega) (by decide)]
  have : ((b / 4 + 64 * (q % 4)) &&& 51) = ((b / 4) &&& 51) := by
    rcases (show q % 4 = 0 ∨ q % 4 = 1 ∨ q % 4 = 2 ∨ q % 4 = 3 by omega) with z | z | z | z <;> rw [z]
    · rw [Nat.mul_zero, Nat.add_zero]
    · exact t1
    · exact t2
    · exact t3
  rw [this]
  omega
theorem and15 (x : Nat) : x &&& 15 = x % 16 := Nat.and_two_pow_sub_one_eq_mod x 4
theorem and63n (x : Nat) : x &&& 63 = x % 64 := Nat.and_two_pow_sub_one_eq_mod x 6
theorem pA3_sp {b : Nat} (hb : b < 256) (h1 : b % 16 ≤ 4) (h2 : b / 16 ≤ 4) (q M : Nat) (hq : q % 16 ≤ 4) : pA3 (15 + 256 * M) (b + 256 * q) = pA3 15 b + 256 * pA3 M q := by
  unfold pA3
  have e : b + 256 * q + (b + 256 * q) / 16 = ((b % 16 + b / 16) + 16 * (b / 16 + q % 16)) + 256 * (q + q / 16) := by omega
  rw [e, and_sp (by omega) (by decide), and15, and15]
  omega
theorem pop24 {x : Nat} (hx : x < 16777216) : pA3 252645135 (pA2 858993459 (pA1 1431655765 x)) = pc8 (x % 256) + 256 * pc8 (x / 256 % 256) + 65536 * pc8 (x / 65536) := by
  obtain ⟨b0, b1, b2, h0, h1, h2, rfl⟩ : ∃ b0 b1 b2, b0 < 256 ∧ b1 < 256 ∧ b2 < 256 ∧ x = b0 + 256 * (b1 + 256 * b2) := ⟨x % 256, x / 256 % 256, x / 65536, by omega, by omega, by omega, by omega⟩
  rw [show (b0 + 256 * (b1 + 256 * b2)) % 256 = b0 by omega, show (b0 + 256 * (b1 + 256 * b2)) / 256 % 256 = b1 by omega, show (b0 + 256 * (b1 + 256 * b2)) / 65536 = b2 by omega]
  obtain ⟨u0, v0, w0, z0⟩ := pA12_b h0
  obtain ⟨u1, v1, w1, z1⟩ := pA12_b h1
  obtain ⟨u2, v2, w2, z2⟩ := pA12_b h2
  have k2 : ∀ M, M % 256 = 85 → pA1 M b2 = pA1 85 b2 := by
    intro M hM
    unfold pA1
    have : (b2 / 2) &&& M = (b2 / 2) &&& 85 := by
      have e := and_sp (b := b2 / 2) (c := 85) (by omega) (by decide) 0 (M / 256)
      rw [Nat.zero_and, show 85 + 256 * (M / 256) = M by omega] at e
      simpa using e
    rw [this]
  have l2 : (b2 / 2 &&& 21845) ≤ b2 := Nat.le_trans Nat.and_le_left (by omega)
  have e1 : pA1 1431655765 (b0 + 256 * (b1 + 256 * b2)) = pA1 85 b0 + 256 * (pA1 85 b1 + 256 * pA1 85 b2) := by
    rw [show (1431655765 : Nat) = 85 + 256 * (85 + 256 * 21845) by decide, pA1_sp h0 _ _ (Nat.le_trans Nat.and_le_left (by omega)), pA1_sp h1 _ _ l2, k2 21845 (by decide)]
  have k3 : ∀ y M, y < 256 → M % 256 = 51 → pA2 M y = pA2 51 y := by
    intro y M hy hM
    unfold pA2
    have e : ∀ z, z < 256 → z &&& M = z &&& 51 := by
      intro z hz
      have e := and_sp (b := z) (c := 51) hz (by decide) 0 (M / 256)
      rw [Nat.zero_and, show 51 + 256 * (M / 256) = M by omega] at e
      simpa using e
    rw [e y hy, e (y / 4) (by omega)]
  have e2 : pA2 858993459 (pA1 85 b0 + 256 * (pA1 85 b1 + 256 * pA1 85 b2)) = pA2 51 (pA1 85 b0) + 256 * (pA2 51 (pA1 85 b1) + 256 * pA2 51 (pA1 85 b2)) := by
    rw [show (858993459 : Nat) = 51 + 256 * (51 + 256 * 13107) by decide, pA2_sp u0, pA2_sp u1, k3 _ 13107 u2 (by decide)]
  have k4 : ∀ y M, y < 240 → M % 256 = 15 → pA3 M y = pA3 15 y := by
    intro y M hy hM
    unfold pA3
    have e := and_sp (b := y + y / 16) (c := 15) (by omega) (by decide) 0 (M / 256)
    rw [Nat.zero_and, show 15 + 256 * (M / 256) = M by omega] at e
    simpa using e
  have f0 := (pA2_b u0).2.2.2
  have f1 := (pA2_b u1).2.2.2
  have f2 := (pA2_b u2).2.2.2
  rw [e1, e2, show (252645135 : Nat) = 15 + 256 * (15 + 256 * 3855) by decide, pA3_sp f0 w0 z0 _ _ (by omega), pA3_sp f1 w1 z1 _ _ w2, k4 _ 3855 (by omega) (by decide), v0, v1, v2]
  omega
/-- the bits of a set's number -/
def bc (x : Nat) : Nat := pc8 (x % 256) + pc8 (x / 256 % 256) + pc8 (x / 65536)
theorem pc8_le (b : Nat) : pc8 b ≤ 8 := by unfold pc8; omega
theorem zshr {x k : Nat} (h : x < 2147483648) (hk : k < 32) : ((nI x).toUInt32 >>> ((nI k).toUInt32 &&& Int32.toUInt32 31)).toInt32 = nI (x / 2 ^ k) := by
  apply Int32.toBitVec_inj.mp
  show ((nI x).toUInt32 >>> ((nI k).toUInt32 &&& Int32.toUInt32 31)).toBitVec = BitVec.ofNat 32 (x / 2 ^ k)
  have ek : ((nI k).toUInt32 &&& Int32.toUInt32 31) = UInt32.ofNat k := by
    have : ((List.range 32).all fun k => decide (((nI k).toUInt32 &&& Int32.toUInt32 31) = UInt32.ofNat k)) = true := by decide +kernel
    exact of_decide_eq_true (List.all_eq_true.mp this k (List.mem_range.mpr hk))
  rw [ek, UInt32.toBitVec_shiftRight]
  apply BitVec.eq_of_toNat_eq
  have e1 : ((UInt32.ofNat k).toBitVec % 32).toNat = k := by
    have : ((List.range 32).all fun k => decide (((UInt32.ofNat k).toBitVec % 32).toNat = k)) = true := by decide +kernel
    exact of_decide_eq_true (List.all_eq_true.mp this k (List.mem_range.mpr hk))
  show ((nI x).toBitVec >>> ((UInt32.ofNat k).toBitVec % 32)).toNat = _
  rw [BitVec.ushiftRight_eq', BitVec.toNat_ushiftRight, e1, nI_bv, BitVec.toNat_ofNat, BitVec.toNat_ofNat, Nat.shiftRight_eq_div_pow, Nat.mod_eq_of_lt (by omega), Nat.mod_eq_of_lt (Nat.lt_of_le_of_lt (Nat.div_le_self _ _) (by omega))]
theorem popE {p0 p1 p2 : Nat} (h0 : p0 ≤ 8) (h1 : p1 ≤ 8) (h2 : p2 ≤ 8) : (p0 + 256 * p1 + 65536 * p2 + (p0 + 256 * p1 + 65536 * p2) / 2 ^ 8 + (p0 + 256 * p1 + 65536 * p2 + (p0 + 256 * p1 + 65536 * p2) / 2 ^ 8) / 2 ^ 16) % 64 = p0 + p1 + p2 := by
  have e1 : (p0 + 256 * p1 + 65536 * p2) / 2 ^ 8 = p1 + 256 * p2 := by omega
  rw [e1]
  have e2 : (p0 + 256 * p1 + 65536 * p2 + (p1 + 256 * p2)) / 2 ^ 16 = p2 := by omega
  rw [e2]
  omega
theorem qbitCount {x : Nat} (hx : x < 16777216) : fJ6_bitCount_0f7a4 (nI x) = some (nI (bc x)) := by
  have hp := pop24 hx
  have b0 := pc8_le (x % 256)
  have b1 := pc8_le (x / 256 % 256)
  have b2 := pc8_le (x / 65536)
  have h1 : x / 2 &&& 1431655765 ≤ x := Nat.le_trans Nat.and_le_left (by omega)
  have l1 : pA1 1431655765 x < 16777216 := by unfold pA1; omega
  have l2 : pA2 858993459 (pA1 1431655765 x) < 33554432 := by
    unfold pA2
    have := Nat.and_le_left (n := pA1 1431655765 x) (m := 858993459)
    have := Nat.and_le_left (n := pA1 1431655765 x / 4) (m := 858993459)
    omega
  rw [fJ6_bitCount_0f7a4]
  simp only [ol]
  rw [show (1 : Int32) = nI 1 from rfl, zshr (by omega) (by decide), show (1431655765 : Int32) = nI 1431655765 from rfl, zand, zsub (show x / 2 ^ 1 &&& 1431655765 ≤ x by exact h1), show x - (x / 2 ^ 1 &&& 1431655765) = pA1 1431655765 x from rfl]
  rw [show (2 : Int32) = nI 2 from rfl, zshr (by omega) (by decide), show (858993459 : Int32) = nI 858993459 from rfl, zand, zand, zadd, show (pA1 1431655765 x &&& 858993459) + (pA1 1431655765 x / 2 ^ 2 &&& 858993459) = pA2 858993459 (pA1 1431655765 x) from rfl]
  rw [show (4 : Int32) = nI 4 from rfl, zshr (by omega) (by decide), zadd, show (252645135 : Int32) = nI 252645135 from rfl, zand, show (pA2 858993459 (pA1 1431655765 x) + pA2 858993459 (pA1 1431655765 x) / 2 ^ 4 &&& 252645135) = pA3 252645135 (pA2 858993459 (pA1 1431655765 x)) from rfl, hp]
  rw [show (8 : Int32) = nI 8 from rfl, zshr (by omega) (by decide), zadd, show (16 : Int32) = nI 16 from rfl, zshr (by omega) (by decide), zadd, show (63 : Int32) = nI 63 from rfl, zand, and63n]
  rw [popE b0 b1 b2]
  rfl
theorem zbit1 {x k : Nat} (hk : k < 32) : (nI x >>> (nI k &&& 31)) &&& 1 = nI (x / 2 ^ k % 2) := by
  rw [zhas _ hk, hb_nI hk]
  have : x.testBit k = decide (x / 2 ^ k % 2 = 1) := by rw [Nat.testBit_eq_decide_div_mod_eq]
  rw [this]
  rcases (show x / 2 ^ k % 2 = 0 ∨ x / 2 ^ k % 2 = 1 by omega) with z | z <;> rw [z]
  · rfl
  · rfl
theorem qbits_4 {x : Nat} {s : Nat → Nat} (hs : ∀ k, s (k + 1) = s k + x / 2 ^ k % 2) (ke : Int32 → Option Int32) : ∀ m k fu, k + m = 24 → m < fu → fX8_bits_4 (nI x) ke fu (nI (s k)) (nI k) = ke (nI (s 24)) := by
  intro m
  induction m with
  | zero =>
    intro k fu hk hf
    obtain ⟨fu, rfl⟩ : ∃ x, fu = x + 1 := ⟨fu - 1, by omega⟩
    obtain rfl : k = 24 := by omega
    rw [fX8_bits_4, if_pos (show (24 : Int32) ≤ nI 24 from Int32.le_refl _)]
  | succ m ih =>
    intro k fu hk hf
    obtain ⟨fu, rfl⟩ : ∃ x, fu = x + 1 := ⟨fu - 1, by omega⟩
    rw [fX8_bits_4, if_neg (show ¬ (24 : Int32) ≤ nI k from nple (a := 24) (by omega) (by decide)), zbit1 (by omega)]
    simp only [ol]
    rw [zadd, ← hs, zinc]
    exact ih (k + 1) fu (by omega) (by omega)
def sb (x : Nat) : Nat → Nat
  | 0 => 0
  | k + 1 => sb x k + x / 2 ^ k % 2
theorem md2 (x d e : Nat) : x % (d * (2 * e)) / d % 2 = x / d % 2 := by rw [Nat.mod_mul_right_div_self, Nat.mod_mul_right_mod]
theorem pc8_mod (x : Nat) : pc8 (x % 256) = pc8 x := by
  unfold pc8
  have h : ∀ d e, d * (2 * e) = 256 → x % 256 / d % 2 = x / d % 2 := fun d e hd => by rw [← hd]; exact md2 x d e
  have h1 := h 1 128 rfl
  rw [Nat.div_one, Nat.div_one] at h1
  rw [h1, h 2 64 rfl, h 4 32 rfl, h 8 16 rfl, h 16 8 rfl, h 32 4 rfl, h 64 2 rfl, h 128 1 rfl]
theorem sb_8 (x k : Nat) : sb x (k + 8) = sb x k + pc8 (x / 2 ^ k) := by
  unfold pc8
  simp only [sb, Nat.pow_succ, ← Nat.div_div_eq_div_mul, Nat.add_assoc]
  simp only [Nat.div_div_eq_div_mul, Nat.mul_assoc, Nat.reduceMul]
theorem sb_bc (x : Nat) : sb x 24 = bc x := by
  rw [show (24 : Nat) = 0 + 8 + 8 + 8 from rfl, sb_8, sb_8, sb_8, bc, pc8_mod, pc8_mod]
  simp only [sb, Nat.zero_add, Nat.reduceAdd, Nat.reducePow, Nat.div_one]
theorem qbits {x : Nat} (hx : x < 16777216) : fX8_bits (nI x) = some (nI (bc x)) := by
  have e : fX8_bits (nI x) = some (nI (sb x 24)) := qbits_4 (s := sb x) (fun k => rfl) _ 24 0 FU (by omega) (FU_lt (by omega))
  rw [e, sb_bc]
