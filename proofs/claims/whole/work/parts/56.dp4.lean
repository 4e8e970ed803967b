/-! PURE PART 27: the reference weighs -/
def k0 (a : Nat → Nat) (d : Nat) : Nat := a (10 + 3 * d + 2) + a (10 + 3 * d + 1) + a (10 + 3 * d)
def k1 (a : Nat → Nat) (d : Nat) : Nat := a (10 + 3 * d + 2) + a (10 + 3 * d + 1)
def k2 (a : Nat → Nat) (d x : Nat) : Nat := if x = 0 then a (10 + 3 * d + 2) + a (10 + 3 * d + 1) else a (10 + 3 * d + 2)
def gn (w : Nat → Nat → Nat) (k : Nat) : Int := (w 1 k : Int) * 16777216 - (2 : Int) ^ k
def nxt (w : Nat → Nat → Nat) (b : Nat) : Nat := if 0 < b ∧ w 0 (b - 1) / 100 = w 0 b / 100 ∧ w 0 (b - 1) + 1 = w 0 b then 1 else 0
def tkB (a : Nat → Nat) (w : Nat → Nat → Nat) (b x : Nat) (X : Tb) : Tb := tk X (k0 a (w 0 b / 100)) (k1 a (w 0 b / 100)) (k2 a (w 0 b / 100) x) (gn w b)
def refT (a : Nat → Nat) (w : Nat → Nat → Nat) (F : Nat) : Nat → Tb
  | 0 => fun s e => if s = 0 ∧ e = 0 then 0 else -1
  | b + 1 => if F.testBit (w 0 b / 100) then (if 0 < b ∧ w 0 (b - 1) / 100 = w 0 b / 100 then refT a w F b else mg (refT a w F b)) else tkB a w b (nxt w b) (if 0 < b ∧ w 0 (b - 1) / 100 = w 0 b / 100 then refT a w F b else mg (refT a w F b))
theorem pow_le24 {k : Nat} (h : k < 24) : (1 : Int) ≤ (2 : Int) ^ k ∧ (2 : Int) ^ k ≤ 8388608 := by
  have : ((List.range 24).all fun k => decide ((1 : Int) ≤ (2 : Int) ^ k ∧ (2 : Int) ^ k ≤ 8388608)) = true := by decide +kernel
  exact of_decide_eq_true (List.all_eq_true.mp this k (List.mem_range.mpr h))
theorem gn_b {n k : Nat} {a : Nat → Nat} {w : Nat → Nat → Nat} (hB : oB n a w) (hk : k < n) : 8388608 ≤ gn w k ∧ gn w k ≤ 1660944384 := by
  obtain ⟨-, h1, h2⟩ := hB.2.1 k hk
  have := pow_le24 (show k < 24 by have := hB.1; omega)
  unfold gn
  omega
theorem refT_b {n : Nat} {a : Nat → Nat} {w : Nat → Nat → Nat} (hB : oB n a w) (F : Nat) : ∀ b, b ≤ n → bD (refT a w F b) (1660944384 * b) := by
  intro b
  induction b with
  | zero => intro _ s e; show -1 ≤ (if s = 0 ∧ e = 0 then (0 : Int) else -1) ∧ (if s = 0 ∧ e = 0 then (0 : Int) else -1) ≤ 1660944384 * ((0 : Nat) : Int); split <;> omega
  | succ b ih =>
    intro hb
    have h := ih (by omega)
    have hX : bD (if 0 < b ∧ w 0 (b - 1) / 100 = w 0 b / 100 then refT a w F b else mg (refT a w F b)) (1660944384 * b) := by
      split
      · exact h
      · exact bD_mg h (by omega)
    have hg := gn_b hB (show b < n by omega)
    rw [refT]
    split
    · intro s e
      have := hX s e
      omega
    · intro s e
      have := bD_tk hX (by omega) (show 0 ≤ gn w b by omega) (k0 a (w 0 b / 100)) (k1 a (w 0 b / 100)) (k2 a (w 0 b / 100) (nxt w b)) s e
      unfold tkB
      omega
theorem gain_v : ((List.range 100).all fun v => decide (((nI v).toInt64 <<< ((24 : Int32).toInt64 &&& 63)) = jI ((v : Int) * 16777216))) = true := by decide +kernel
theorem gain_k : ((List.range 24).all fun k => decide (((1 : Int64) <<< ((nI k).toInt64 &&& 63)) = jI ((2 : Int) ^ k))) = true := by decide +kernel
theorem qgain {w : Nat → Nat → Nat} {k : Nat} (hv : w 1 k ≤ 99) (hk : k < 24) : ((nI (w 1 k)).toInt64 <<< ((24 : Int32).toInt64 &&& 63)) - ((1 : Int64) <<< ((nI k).toInt64 &&& 63)) = jI (gn w k) := by
  rw [of_decide_eq_true (List.all_eq_true.mp gain_v (w 1 k) (List.mem_range.mpr (by omega))), of_decide_eq_true (List.all_eq_true.mp gain_k k (List.mem_range.mpr hk))]
  unfold jI gn
  rw [Int64.ofInt_sub]
theorem oj1_e {A β : Type} {K : A → Option β} {T : (A → Option β) → Option β} : oj1 K T = T K := rfl
theorem oj0_e {β : Type} {K : Option β} {T : Option β → Option β} : oj0 K T = T K := rfl
section Q27
variable {m : Nat} {st : uSt} {a : Nat → Nat} {n : Nat} {w : Nat → Nat → Nat}
theorem qtakes {D : Tb} {B : Int} {k x : Nat} (hg : gR (st.1 1) a n w) (hO : oB n a w) (hD : oD a) (hk : k < n) (hx : x ≤ 1) (hb : bD D B) (hB0 : 0 ≤ B) (hB : B ≤ 100000000000) (h : gT st.2.1 D) : ∃ st', fX8_takesBlock (nI k) (nI x) st = some ((), st') ∧ st'.1 = st.1 ∧ gT st'.2.1 (tkB a w k x D) := by
  have hn := hO.1
  have h9 := hD.1
  obtain ⟨w0, w1, w2⟩ := hO.2.1 k hk
  have hp : ∀ k, k < n → w 0 k < 500 := fun k hk => by have := (hO.2.1 k hk).1; omega
  obtain ⟨d1, d2, d3, d4⟩ := hD.2.2 (w 0 k / 100) (by omega)
  have hgn := gn_b hO hk
  have g0 := hg.1 (10 + 3 * (w 0 k / 100)) (by omega)
  have g1 := hg.1 (10 + 3 * (w 0 k / 100) + 1) (by omega)
  have g2 := hg.1 (10 + 3 * (w 0 k / 100) + 2) (by omega)
  have e10 : (10 : Int32) + ((3 : Int32) * nI (w 0 k / 100)) = nI (10 + 3 * (w 0 k / 100)) := by rw [z3]; exact zadd 10 _
  obtain ⟨S1, a1, a2, a3, -, a5⟩ := f30_l (l2 := nI x) (l3 := nI (10 + 3 * (w 0 k / 100))) (l4 := jI (gn w k)) (fun st_8 => fX8_takesBlock_57 (nI x) (nI (10 + 3 * (w 0 k / 100))) (jI (gn w k)) (fun st_29 => fX8_takesBlock_293 (fun st_33 => some ((), st_33)) FU st_29 (0 : Int32)) FU st_8 (0 : Int32)) 1503 0 FU st (by omega) (FU_lt (by omega))
  have hto : ∀ (S : uSt), S.1 = st.1 → ∀ e s, s < 3 → ∀ (K : Int32 → Option (Unit × uSt)), og (inB (nI (10 + 3 * (w 0 k / 100)) + (2 : Int32)) 109) (oj1 (fun (v_17 : Int32) => oj1 (fun (v_19 : Int32) => ol (((nI e + (S.1 1 (nI (10 + 3 * (w 0 k / 100)) + (2 : Int32)).toNatClampNeg)) + v_17) + v_19) K) (fun j_18 => (if nI s = 0 then og (inB (nI (10 + 3 * (w 0 k / 100)) + (0 : Int32)) 109) ((j_18 (S.1 1 (nI (10 + 3 * (w 0 k / 100)) + (0 : Int32)).toNatClampNeg))) else (j_18 (0 : Int32))))) (fun j_16 => oj0 (og (inB (nI (10 + 3 * (w 0 k / 100)) + (1 : Int32)) 109) ((j_16 (S.1 1 (nI (10 + 3 * (w 0 k / 100)) + (1 : Int32)).toNatClampNeg)))) (fun j_26 => (if nI s = (2 : Int32) then (if nI x = 0 then j_26 else (j_16 (0 : Int32))) else j_26)))) = K (nI (e + (if s = 0 then k0 a (w 0 k / 100) else if s = 1 then k1 a (w 0 k / 100) else k2 a (w 0 k / 100) x))) := by
    intro S hS e s hs K
    rw [hS, Int32.add_zero, show nI (10 + 3 * (w 0 k / 100)) + (1 : Int32) = nI (10 + 3 * (w 0 k / 100) + 1) from zadd _ 1, show nI (10 + 3 * (w 0 k / 100)) + (2 : Int32) = nI (10 + 3 * (w 0 k / 100) + 2) from zadd _ 2, zin (by omega) (by omega), zin (by omega) (by omega), zin (by omega) (by omega), zcl (by omega), zcl (by omega), zcl (by omega), g0, g1, g2]
    simp only [og, oj1, oj0, ol, zadd, Int32.add_zero]
    unfold k0 k1 k2
    rcases (show s = 0 ∨ s = 1 ∨ s = 2 by omega) with rfl | rfl | rfl
    · rw [if_pos (show nI 0 = (0 : Int32) from rfl), if_neg (show ¬ nI 0 = (2 : Int32) by decide), if_pos rfl]
      exact congrArg (fun z => K (nI z)) (by omega)
    · rw [if_neg (show ¬ nI 1 = (0 : Int32) by decide), if_neg (show ¬ nI 1 = (2 : Int32) by decide), if_neg (by decide), if_pos rfl]
      exact congrArg (fun z => K (nI z)) (by omega)
    · rcases (show x = 0 ∨ x = 1 by omega) with rfl | rfl
      · rw [if_pos (show nI 2 = (2 : Int32) from rfl), if_pos (show nI 0 = (0 : Int32) from rfl), if_neg (show ¬ nI 2 = (0 : Int32) by decide), if_neg (show ¬ (2 : Nat) = 0 by decide), if_neg (show ¬ (2 : Nat) = 1 by decide), if_pos (show (0 : Nat) = 0 from rfl)]
        exact congrArg (fun z => K (nI z)) (by omega)
      · rw [if_pos (show nI 2 = (2 : Int32) from rfl), if_neg (show ¬ nI 1 = (0 : Int32) by decide), if_neg (show ¬ nI 2 = (0 : Int32) by decide), if_neg (show ¬ (2 : Nat) = 0 by decide), if_neg (show ¬ (2 : Nat) = 1 by decide), if_neg (show ¬ (1 : Nat) = 0 by decide)]
  have hc0 : k0 a (w 0 k / 100) ≤ 1000 := by unfold k0; omega
  have hc1 : k1 a (w 0 k / 100) ≤ 1000 := by unfold k1; omega
  have hc2 : k2 a (w 0 k / 100) x ≤ 1000 := by unfold k2; split <;> omega
  have qz : ∀ s c t, qv D s c 0 t = -1 := fun s c t => by unfold qv; rw [if_neg (by omega)]
  obtain ⟨S2, b1, b2, b3, b4⟩ := t57 (l2 := nI x) (at' := 10 + 3 * (w 0 k / 100)) hb hB0 (g := gn w k) (by omega) (by omega) (by omega) hc0 hc1 hc2 st.1 hto (fun st_29 => fX8_takesBlock_293 (fun st_33 => some ((), st_33)) FU st_29 (0 : Int32)) 501 0 FU S1 (by omega) (FU_lt (by omega)) a2 (fun s e hs he => by rw [a5 7 (by decide)]; exact h s e hs he) (fun t ht => by
      rw [a3 _ (by omega) (by omega)]
      unfold Pt
      rw [qz, qz, qz, if_pos (by decide)]
      exact jI_m1) (fun t ht => by
      rw [a3 _ (by omega) (by omega), a3 _ (by omega) (by omega), if_neg (by omega), if_neg (by omega)]
      exact ⟨jI_m1, jI_m1⟩)
  obtain ⟨S3, c1, c2, c3, -⟩ := f293_l (fun st_33 => some ((), st_33)) 1503 0 FU S2 (by omega) (FU_lt (by omega))
  refine ⟨S3, ?_, by rw [c2, b2], fun s e hs he => ?_⟩
  · rw [fX8_takesBlock, qdev hg hn hp hk, ob_s, e10, ol_e, qof1 hg hn hk, ob_s, qgain w2 (by omega), ol_e]
    refine a1.trans (b1.trans c1)
  · rw [c3 _ (by omega) (by omega)]
    unfold tkB tk
    rcases (show s = 0 ∨ s = 1 ∨ s = 2 by omega) with rfl | rfl | rfl
    · rw [if_pos rfl]; exact (b4 e he).1
    · rw [if_neg (by decide), if_pos rfl]; exact (b4 e he).2
    · rw [if_neg (by decide), if_neg (by decide)]; exact b3 e he
theorem w33 {F : Nat} (hg : gR (st.1 1) a n w) (hO : oB n a w) (hD : oD a) (ke : uSt → Option (Unit × uSt)) : ∀ j b fu (S : uSt), b + j = n → j < fu → S.1 = st.1 → gT S.2.1 (refT a w F b) → ∃ S', fX8_weighs_33 (nI F) ke fu S (nI b) = ke S' ∧ S'.1 = st.1 ∧ gT S'.2.1 (refT a w F n) := by
  have hn := hO.1
  have h9 := hD.1
  have hp : ∀ k, k < n → w 0 k < 500 := fun k hk => by have := (hO.2.1 k hk).1; omega
  intro j
  induction j with
  | zero =>
    intro b fu S hb hf hS hT
    obtain ⟨fu, rfl⟩ : ∃ x, fu = x + 1 := ⟨fu - 1, by omega⟩
    obtain rfl : b = n := by omega
    exact ⟨S, by rw [fX8_weighs_33, hS, hg.2.1, if_pos (Int32.le_refl _)], hS, hT⟩
  | succ j ih =>
    intro b fu S hb hf hS hT
    obtain ⟨fu, rfl⟩ : ∃ x, fu = x + 1 := ⟨fu - 1, by omega⟩
    have hbn : b < n := by omega
    have hbd := refT_b hO F b (by omega)
    have hgS : gR (S.1 1) a n w := by rw [hS]; exact hg
    have w0 := hp b hbn
    -- after the merge, if any
    have step : ∀ (v : Int32) (S1 : uSt), S1.1 = st.1 → gT S1.2.1 (if 0 < b ∧ w 0 (b - 1) / 100 = w 0 b / 100 then refT a w F b else mg (refT a w F b)) → (v = if 0 < b ∧ w 0 (b - 1) / 100 = w 0 b / 100 then 1 else 0) → ∃ S', (ob (fX8_deviceOf (nI b) S1) (fun x_12 => ob (fX8_has (nI F) x_12) (fun x_13 => (if x_13 = 0 then oj1 (fun (v_15 : Int32) => obV (fX8_takesBlock (nI b) v_15 S1) (fun st_16 => ol (nI b + 1) (fun l2_17 => fX8_weighs_33 (nI F) ke fu st_16 l2_17))) (fun j_14 => oj0 ((j_14 (0 : Int32))) (fun j_18 => (if v = 0 then j_18 else ob (fX8_of (nI b - (1 : Int32)) (0 : Int32) S1) (fun x_19 => ob (fX8_of (nI b) (0 : Int32) S1) (fun x_20 => (if (x_19 + (1 : Int32)) = x_20 then (j_14 (1 : Int32)) else j_18)))))) else ol (nI b + 1) (fun l2_21 => fX8_weighs_33 (nI F) ke fu S1 l2_21))))) = ke S' ∧ S'.1 = st.1 ∧ gT S'.2.1 (refT a w F n) := by
      intro v S1 h1 hT1 hv
      have hg1 : gR (S1.1 1) a n w := by rw [h1]; exact hg
      have hbX : bD (if 0 < b ∧ w 0 (b - 1) / 100 = w 0 b / 100 then refT a w F b else mg (refT a w F b)) (1660944384 * b) := by
        split
        · exact hbd
        · exact bD_mg hbd (by omega)
      rw [qdev hg1 hn hp hbn, ob_s, qhas _ (by omega), ob_s, hb_nI (by omega)]
      by_cases qf : F.testBit (w 0 b / 100) = true
      · rw [if_pos qf, if_neg (by decide), ol_e, zinc]
        refine ih (b + 1) fu S1 (by omega) (by omega) h1 ?_
        rw [refT, if_pos qf]
        exact hT1
      · rw [if_neg qf, if_pos rfl]
        obtain ⟨S2, t1, t2, t3⟩ := qtakes (k := b) (x := nxt w b) hg1 hO hD hbn (by unfold nxt; split <;> omega) hbX (by omega) (by omega) hT1
        obtain ⟨S3, u1, u2, u3⟩ := ih (b + 1) fu S2 (by omega) (by omega) (by rw [t2, h1]) (by rw [refT, if_neg qf]; exact t3)
        refine ⟨S3, ?_, u2, u3⟩
        have R : ∀ v_15 : Int32, v_15 = nI (nxt w b) → obV (fX8_takesBlock (nI b) v_15 S1) (fun st_16 => ol (nI b + 1) (fun l2_17 => fX8_weighs_33 (nI F) ke fu st_16 l2_17)) = ke S3 := by
          intro v_15 e
          rw [e, t1, obV_st, ol_e, zinc]
          exact u1
        simp only [oj1, oj0]
        by_cases q1 : 0 < b ∧ w 0 (b - 1) / 100 = w 0 b / 100
        · rw [hv, if_pos q1, if_neg (by decide), show nI b - 1 = nI (b - 1) from zsub (a := b) (b := 1) (by omega), qof0 hg1 hn (by omega), ob_s, qof0 hg1 hn hbn, ob_s, zinc]
          have w1 := hp (b - 1) (by omega)
          by_cases q2 : w 0 (b - 1) + 1 = w 0 b
          · rw [if_pos (by rw [q2])]
            exact R 1 (by unfold nxt; rw [if_pos ⟨q1.1, q1.2, q2⟩]; rfl)
          · rw [if_neg (peqn q2 (by omega) (by omega))]
            exact R 0 (by unfold nxt; rw [if_neg (fun h => q2 h.2.2)]; rfl)
        · rw [hv, if_neg q1, if_pos rfl]
          exact R 0 (by unfold nxt; rw [if_neg (fun h => q1 ⟨h.1, h.2.1⟩)]; rfl)
    rw [fX8_weighs_33, hgS.2.1, if_neg (nI_ge hbn (by omega))]
    have mgd : ¬ (0 < b ∧ w 0 (b - 1) / 100 = w 0 b / 100) → ∃ S', (obV (fX8_merges S) (fun st_22 => (ob (fX8_deviceOf (nI b) st_22) (fun x_12 => ob (fX8_has (nI F) x_12) (fun x_13 => (if x_13 = 0 then oj1 (fun (v_15 : Int32) => obV (fX8_takesBlock (nI b) v_15 st_22) (fun st_16 => ol (nI b + 1) (fun l2_17 => fX8_weighs_33 (nI F) ke fu st_16 l2_17))) (fun j_14 => oj0 ((j_14 (0 : Int32))) (fun j_18 => (if (0 : Int32) = 0 then j_18 else ob (fX8_of (nI b - (1 : Int32)) (0 : Int32) st_22) (fun x_19 => ob (fX8_of (nI b) (0 : Int32) st_22) (fun x_20 => (if (x_19 + (1 : Int32)) = x_20 then (j_14 (1 : Int32)) else j_18)))))) else ol (nI b + 1) (fun l2_21 => fX8_weighs_33 (nI F) ke fu st_22 l2_21))))))) = ke S' ∧ S'.1 = st.1 ∧ gT S'.2.1 (refT a w F n) := by
      intro q
      obtain ⟨S1, m1, m2, m3⟩ := qmerges hbd (by omega) hT
      rw [m1, obV_st]
      exact step 0 S1 (by rw [m2, hS]) (by rw [if_neg q]; exact m3) (by rw [if_neg q])
    have same : (0 < b ∧ w 0 (b - 1) / 100 = w 0 b / 100) → _ := fun q => step 1 S hS (by rw [if_pos q]; exact hT) (by rw [if_pos q])
    by_cases q0 : b = 0
    · subst q0
      exact mgd (by omega)
    · have w1 := hp (b - 1) (by omega)
      have hle : ¬ nI b ≤ (0 : Int32) := nple (b := 0) (by omega) (by omega)
      have em : nI b - 1 = nI (b - 1) := zsub (a := b) (b := 1) (by omega)
      by_cases q : w 0 (b - 1) / 100 = w 0 b / 100
      · obtain ⟨S', z1, z2⟩ := same ⟨by omega, q⟩
        refine ⟨S', ?_, z2⟩
        rw [oj1_e, oj0_e, if_neg hle, em, qdev hgS hn hp (by omega), ob_s, qdev hgS hn hp hbn, ob_s, if_pos (by rw [q])]
        dsimp only
        rw [oj1_e, if_neg (by decide)]
        rw [em] at z1
        exact z1
      · obtain ⟨S', z1, z2⟩ := mgd (fun h => q h.2)
        refine ⟨S', ?_, z2⟩
        rw [oj1_e, oj0_e, if_neg hle, em, qdev hgS hn hp (by omega), ob_s, qdev hgS hn hp hbn, ob_s, if_neg (peqn q (by omega) (by omega))]
        dsimp only
        rw [oj1_e, if_pos rfl]
        rw [em] at z1
        exact z1
theorem qweighs {F : Nat} (hg : gR (st.1 1) a n w) (hO : oB n a w) (hD : oD a) : ∃ S', fX8_weighs (nI F) st = some ((), S') ∧ S'.1 = st.1 ∧ ∀ e, e ≤ 500 → S'.2.1 9 e = jI (mg (refT a w F n) 0 e) := by
  have hn := hO.1
  obtain ⟨S1, a1, a2, a3, -⟩ := f2_l (l1 := nI F) (fun st_4 => ol (sL st_4 7 0 (0 : Int64)) (fun st_5 => fX8_weighs_33 (nI F) (fun st_26 => obV (fX8_merges st_26) (fun st_27 => fX8_weighs_134 (fun st_31 => some ((), st_31)) FU st_27 (0 : Int32))) FU st_5 (0 : Int32))) 1503 0 FU st (by omega) (FU_lt (by omega))
  obtain ⟨S2, b1, b2, b3⟩ := w33 (F := F) hg hO hD (fun st_26 => obV (fX8_merges st_26) (fun st_27 => fX8_weighs_134 (fun st_31 => some ((), st_31)) FU st_27 (0 : Int32))) n 0 FU (sL S1 7 0 0) (by omega) (FU_lt (by omega)) a2 (fun s e hs he => by
    rw [sL_g]
    show _ = jI (if s = 0 ∧ e = 0 then (0 : Int) else -1)
    by_cases q : s = 0 ∧ e = 0
    · rw [if_pos (by omega), if_pos q]; exact jI_0
    · rw [if_neg (by omega), if_neg q, a3 _ (by omega) (by omega)]; exact jI_m1)
  obtain ⟨S3, c1, c2, c3⟩ := qmerges (refT_b hO F n (Nat.le_refl _)) (by omega) b3
  obtain ⟨S4, d1, d2, d3, -⟩ := f134_l (fun st_31 => some ((), st_31)) 501 0 FU S3 (by omega) (FU_lt (by omega))
  refine ⟨S4, ?_, by rw [d2, c2, b2], fun e he => ?_⟩
  · rw [fX8_weighs]
    refine a1.trans ?_
    rw [ol_e]
    refine b1.trans ?_
    rw [c1, obV_st]
    exact d1
  · rw [d3 e (by omega) (by omega)]
    exact c3 0 e (by decide) he
end Q27
