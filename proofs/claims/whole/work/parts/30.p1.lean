/-! PURE PART 1: numbers. -/
theorem lit (n : Nat) : (OfNat.ofNat n : Int32) = nI (OfNat.ofNat n) := rfl
theorem zle {a b : Nat} (ha : a < 2147483648) (hb : b < 2147483648) : (nI a ≤ nI b) = (a ≤ b) := propext (nI_leI ha hb)
theorem zlt {a b : Nat} (ha : a < 2147483648) (hb : b < 2147483648) : (nI a < nI b) = (a < b) := propext (nI_ltI ha hb)
theorem zeq {a b : Nat} (ha : a < 2147483648) (hb : b < 2147483648) : (nI a = nI b) = (a = b) := propext (nI_eq ha hb)
theorem zadd (a b : Nat) : nI a + nI b = nI (a + b) := nI_add a b
theorem zsub {a b : Nat} (h : b ≤ a) : nI a - nI b = nI (a - b) := by unfold nI; rw [Int32.ofNat_sub _ _ h]
theorem zmul (a b : Nat) : nI a * nI b = nI (a * b) := by unfold nI; rw [Int32.ofNat_mul]
theorem zin {a n : Nat} (h : a < n) (hn : a < 2147483648) : inB (nI a) n = true := by
  unfold inB
  rw [nI_toInt hn]
  simp
  omega
theorem zcl {a : Nat} (h : a < 2147483648) : (nI a).toNatClampNeg = a := nI_clamp h
theorem zI {a : Nat} (h : a < 2147483648) : (nI a).toInt = (a : Int) := nI_toInt h
theorem zm1 : (-1 : Int32).toInt = -1 := by decide
theorem zneg {a : Nat} (h : a < 2147483648) : ¬ nI a = -1 := fun e => by
  have := congrArg Int32.toInt e
  rw [zI h, zm1] at this
  omega
theorem zneg' {a : Nat} (h : a < 2147483648) : (nI a = -1) = False := eq_false (zneg h)
theorem zmm {a : Nat} (h : a < 2147483648) : (-1 : Int32) < nI a := by
  rw [Int32.lt_iff_toInt_lt, zI h, zm1]
  omega
theorem zdec (k : Nat) : nI (k + 1) + (-1) = nI k := by
  have h : nI (k + 1) = nI k + 1 := nI_succ k
  rw [h, Int32.add_assoc]
  show nI k + (1 + -1) = nI k
  rw [show (1 + -1 : Int32) = 0 by decide, Int32.add_zero]
theorem zinc (k : Nat) : nI k + 1 = nI (k + 1) := (nI_succ k).symm
theorem zdiv {a b : Nat} (ha : a < 2147483648) (hb : b < 2147483648) : nI a / nI b = nI (a / b) := by
  apply Int32.toInt_inj.mp
  have h1 : a / b ≤ a := Nat.div_le_self a b
  rw [Int32.toInt_div, zI ha, zI hb, zI (by omega)]
  show ((a : Int).tdiv b).bmod _ = _
  rw [Int.tdiv_eq_ediv_of_nonneg (by omega)]
  have e : (a : Int) / (b : Int) = ((a / b : Nat) : Int) := by simp
  rw [e]
  generalize a / b = q at h1
  rw [Int.bmod_eq_of_le (by omega) (by omega)]
theorem zbig (x : Int32) : ∃ a : Nat, a < 4294967296 ∧ x = nI a := ⟨x.toUInt32.toNat, x.toUInt32.toNat_lt, by
  apply Int32.toBitVec_inj.mp
  show x.toBitVec = BitVec.ofNat 32 x.toUInt32.toBitVec.toNat
  simp⟩
/-! bits -/
def hb (s : Int32) (k : Nat) : Bool := s.toBitVec.getLsbD k
theorem nI_bv (n : Nat) : (nI n).toBitVec = BitVec.ofNat 32 n := rfl
theorem zmask {k : Nat} (h : k < 32) : nI k &&& 31 = nI k := by
  have : ((List.range 32).all fun k => decide (nI k &&& 31 = nI k)) = true := by decide +kernel
  exact of_decide_eq_true (List.all_eq_true.mp this k (List.mem_range.mpr h))
theorem zbit {k : Nat} (h : k < 31) : (1 : Int32) <<< (nI k &&& 31) = nI (2 ^ k) := by
  have : ((List.range 31).all fun k => decide ((1 : Int32) <<< (nI k &&& 31) = nI (2 ^ k))) = true := by decide +kernel
  exact of_decide_eq_true (List.all_eq_true.mp this k (List.mem_range.mpr h))
theorem zhas (s : Int32) {k : Nat} (h : k < 32) : (s >>> (nI k &&& 31)) &&& 1 = if hb s k then 1 else 0 := by
  rw [zmask h]
  apply Int32.toBitVec_inj.mp
  have e : (s >>> nI k).toBitVec = s.toBitVec.sshiftRight k := by
    rw [Int32.toBitVec_shiftRight]
    have : ((nI k).toBitVec.smod 32) = BitVec.ofNat 32 k := by
      have : ((List.range 32).all fun k => decide ((nI k).toBitVec.smod 32 = BitVec.ofNat 32 k)) = true := by decide +kernel
      exact of_decide_eq_true (List.all_eq_true.mp this k (List.mem_range.mpr h))
    rw [this]
    show s.toBitVec.sshiftRight (BitVec.ofNat 32 k).toNat = _
    rw [BitVec.toNat_ofNat, Nat.mod_eq_of_lt (by omega)]
  rw [Int32.toBitVec_and, e]
  apply BitVec.eq_of_getLsbD_eq
  intro i hi
  rw [BitVec.getLsbD_and, BitVec.getLsbD_sshiftRight]
  by_cases h0 : i = 0
  · subst h0
    simp only [hb]
    by_cases hq : s.toBitVec.getLsbD k = true
    · simp [hq, h]
    · have hq : s.toBitVec.getLsbD k = false := by simpa using hq
      simp only [hq]
      rw [if_pos (by omega), Nat.add_zero, hq]
      rfl
  · have e1 : (1 : Int32).toBitVec.getLsbD i = false := by
      show (1#32).getLsbD i = false
      rw [BitVec.getLsbD_one]
      simp [h0]
    rw [e1]
    cases hq : hb s k
    · simp
    · simp only [if_true]
      rw [e1]; simp
theorem hb_nI {S k : Nat} (hk : k < 32) : hb (nI S) k = S.testBit k := by
  unfold hb
  rw [nI_bv, BitVec.getLsbD_ofNat]
  simp [hk]
theorem zor {x y : Nat} : nI x ||| nI y = nI (x ||| y) := by
  apply Int32.toBitVec_inj.mp
  rw [Int32.toBitVec_or, nI_bv, nI_bv, nI_bv, BitVec.ofNat_or]
theorem zand {x y : Nat} : nI x &&& nI y = nI (x &&& y) := by
  apply Int32.toBitVec_inj.mp
  rw [Int32.toBitVec_and, nI_bv, nI_bv, nI_bv, BitVec.ofNat_and]
