/-! PURE PART 29: the class ranks -/
section Q29
variable {m : Nat} {C : uSt} {a : Nat → Nat} {n : Nat} {w : Nat → Nat → Nat}
theorem fill_l {r : Nat} {v : Int64} (ke : uSt → Option (Unit × uSt)) : ∀ j k fu (st : uSt), k + j = 501 → j < fu → ∃ st', fJ7_fill_d0a16_6 r v 501 ke fu st (nI k) = ke st' ∧ st'.1 = st.1 ∧ (∀ i, k ≤ i → i < 501 → st'.2.1 r i = v) ∧ (∀ i, i < k → st'.2.1 r i = st.2.1 r i) ∧ ∀ i, i ≠ r → st'.2.1 i = st.2.1 i := by
  intro j
  induction j with
  | zero =>
    intro k fu st hk hf
    obtain ⟨fu, rfl⟩ : ∃ x, fu = x + 1 := ⟨fu - 1, by omega⟩
    obtain rfl : k = 501 := by omega
    exact ⟨st, by rw [fJ7_fill_d0a16_6, if_pos (show (501 : Int32) ≤ nI 501 from Int32.le_refl _)], rfl, fun i h1 h2 => absurd h2 (by omega), fun _ _ => rfl, fun _ _ => rfl⟩
  | succ j ih =>
    intro k fu st hk hf
    obtain ⟨fu, rfl⟩ : ∃ x, fu = x + 1 := ⟨fu - 1, by omega⟩
    obtain ⟨st', e1, e2, e3, e4, e5⟩ := ih (k + 1) fu (sL st r k v) (by omega) (by omega)
    refine ⟨st', ?_, e2, fun i h1 h2 => ?_, fun i hi => ?_, fun i hi => by rw [e5 i hi, sL_n hi]⟩
    · rw [fJ7_fill_d0a16_6, if_neg (show ¬ (501 : Int32) ≤ nI k from nple (a := 501) (by omega) (by decide)), zin (by omega) (by omega), zcl (by omega), og_t, ol_e, ol_e, zinc]
      exact e1
    · by_cases q : i = k
      · rw [q, e4 k (by omega), sL_g, if_pos rfl]
      · exact e3 i (by omega) h2
    · rw [e4 i (by omega), sL_g, if_neg (by omega)]
theorem qfill (r : Nat) (v : Int64) (st : uSt) : ∃ st', fJ7_fill_d0a16 r v st = some ((), st') ∧ st'.1 = st.1 ∧ (∀ i, i < 501 → st'.2.1 r i = v) ∧ ∀ i, i ≠ r → st'.2.1 i = st.2.1 i := by
  obtain ⟨st', e1, e2, e3, -, e5⟩ := fill_l (r := r) (v := v) (fun st_5 => some ((), st_5)) 501 0 FU st (by omega) (FU_lt (by omega))
  exact ⟨st', by rw [fJ7_fill_d0a16]; exact e1, e2, fun i hi => e3 i (by omega) hi, e5⟩
/-- the energy of one block -/
theorem eS_one {k : Nat} : ∀ j, lS (fun i => decide (i = k)) j = (if k < j then k + 1 else 0) ∧ eS a w (fun i => decide (i = k)) j = if k < j then eC a w 0 k else 0 := by
  intro j
  induction j with
  | zero => exact ⟨rfl, rfl⟩
  | succ j ih =>
    obtain ⟨h1, h2⟩ := ih
    rw [lS, eS, h2, h1]
    by_cases q : j = k
    · subst q
      simp
    · have e : decide (j = k) = false := by simp [q]
      rw [e]
      simp only [Bool.false_eq_true, if_false, Nat.add_zero]
      by_cases q2 : k < j
      · have q3 : k < j + 1 := by omega
        simp only [q2, q3, if_true, and_self]
      · have q3 : ¬ k < j + 1 := by omega
        simp only [q2, q3, if_false, and_self]
theorem qsingle (hd : cDv C.1 (15 + 3) a) (hc : cCa C.1 (15 + 8) n w) (hO : oB n a w) (hD : oD a) {k : Nat} (hk : k < n) : fX2_energyIn (15 + 3) (15 + 8) ((1 : Int32) <<< (nI k &&& 31)) C = some (nI (k0 a (w 0 k / 100))) := by
  have hn := hO.1
  rw [qX2_energyIn hd hc hO hD, eS_ext (q := fun i => decide (i = k)) n (fun i hi => by
    rw [zbit (by omega), hb_nI (by omega), Nat.testBit_two_pow]
    by_cases q : k = i
    · simp [q]
    · have : ¬ i = k := fun h => q h.symm
      simp [q, this]), (eS_one n).2, if_pos hk]
  congr 2
  unfold eC k0
  rw [if_pos (Or.inl rfl)]
  omega
theorem k_b (hD : oD a) {d : Nat} (h : d < a 9) : 1 ≤ a (10 + 3 * d + 2) ∧ a (10 + 3 * d + 2) ≤ k1 a d ∧ k1 a d ≤ k0 a d ∧ k0 a d ≤ 300 := by
  obtain ⟨d1, d2, d3, d4⟩ := hD.2.2 d h
  unfold k0 k1
  omega
theorem qconsider {D : Tb} {B : Int} {k x l S R : Nat} (hd : cDv C.1 (15 + 3) a) (hc : cCa C.1 (15 + 8) n w) (hO : oB n a w) (hD : oD a) (hk : k < n) (hx : x ≤ 1) (hb : bD D B) (hB0 : 0 ≤ B) (hB : B ≤ 50000000000) (hl : l ≤ 500) (hz : zT D S) (hR : R = min l (S + k0 a (w 0 k / 100))) (h : cT6 C.2.1 l D) : ∃ C', fX4_considerBlock 15 (nI k) (nI x) (nI R) C = some ((), C') ∧ C'.1 = C.1 ∧ cT6 C'.2.1 l (tkB a w k x D) := by
  have hn := hO.1
  obtain ⟨w0, w1, w2⟩ := hO.2.1 k hk
  have h9 := hD.1
  have hgn := gn_b hO hk
  obtain ⟨b1, b2, b3, b4⟩ := k_b hD (show w 0 k / 100 < a 9 by omega)
  obtain ⟨c1, -, c3, -⟩ := hc.2 k hk
  obtain ⟨v1, v2, v3⟩ := hd.2.1 (w 0 k / 100) (by omega)
  obtain ⟨C', e1, e2, e3, e4, e5⟩ := cb_l (D := D) (B := B) (g := gn w k) (c0 := k0 a (w 0 k / 100)) (c1 := k1 a (w 0 k / 100)) (wr := a (10 + 3 * (w 0 k / 100) + 2)) (x := x) 15 hb hB0 (by omega) (by omega) ⟨by omega, by omega⟩ ⟨by omega, by omega⟩ ⟨by omega, by omega⟩ hx (R := R) (by omega) (C.2.1 6) (fun st_19 => some ((), st_19)) (R + 1) FU C (nI R) (Nat.le_refl _) (zinc R) (FU_lt (by omega)) rfl (fun e he => (h e (by omega)).1) (fun e he => (h e (by omega)).2) (fun e h1 h2 => absurd h2 (by omega))
  have k2e : (if x = 0 then k1 a (w 0 k / 100) else a (10 + 3 * (w 0 k / 100) + 2)) = k2 a (w 0 k / 100) x := rfl
  rw [k2e] at e4
  refine ⟨C', ?_, e2, fun e he => ?_⟩
  · rw [fX4_considerBlock, zin (by omega) (by omega), zcl (by omega), og_t, c1, ol_e, zin (by omega) (by omega), zcl (by omega), og_t, v3, ol_e, og_t, v2, zadd, ol_e, og_t, v1, zadd, ol_e, og_t, c3, qgain w2 (by omega), ol_e]
    exact e1
  · unfold tkB tk
    rw [if_pos rfl, if_neg (by decide), if_pos rfl, if_neg (by decide), if_neg (by decide), e3]
    refine ⟨(h e he).1, ?_⟩
    by_cases q : e ≤ R
    · exact e4 e q
    · obtain ⟨y7, y8⟩ := e5 e (by omega)
      rw [y7, y8, (h e he).2.1, (h e he).2.2]
      have z := zT_tk (g := gn w k) (c0 := k0 a (w 0 k / 100)) (c1 := k1 a (w 0 k / 100)) (c2 := k2 a (w 0 k / 100) x) hz b3 (by unfold k2; unfold k1 at b3; unfold k0 at *; split <;> omega)
      have z2 := z 2 e (by omega)
      have z2 : Pt D (k0 a (w 0 k / 100)) (k1 a (w 0 k / 100)) (k2 a (w 0 k / 100) x) (gn w k) 501 501 501 e = -1 := z2
      rw [z2, hz 1 e (by omega), hz 2 e (by omega)]
      exact ⟨rfl, rfl⟩
/-- where the class stands before block b -/
def rkI (a : Nat → Nat) (w : Nat → Nat → Nat) (F l b : Nat) (f : Nat → Nat → Int64) (l4 l5 : Int32) : Prop := ∃ X S, cT6 f l X ∧ bD X (1660944384 * b) ∧ zT X S ∧ S ≤ 300 * b ∧ l5 = nI (min l S) ∧ mg (refT a w F b) = mg X ∧ ((0 < b ∧ usD F w (b - 1) = true ∧ X = refT a w F b ∧ l4 = nI (b - 1)) ∨ (l4 = -1 ∧ X = mg X ∧ (0 < b → usD F w (b - 1) = false)) ∨ ∃ q, q + 1 < b ∧ usD F w (b - 1) = false ∧ l4 = nI q ∧ w 0 q / 100 < w 0 (b - 1) / 100)
theorem bD_up {D : Tb} {B B' : Int} (h : bD D B) (hB : B ≤ B') : bD D B' := fun s e => ⟨(h s e).1, Int.le_trans (h s e).2 hB⟩
theorem rk_l {F l : Nat} (hd : cDv C.1 (15 + 3) a) (hc : cCa C.1 (15 + 8) n w) (hO : oB n a w) (hD : oD a) (hl : l ≤ 500) (ke : uSt → Int32 → Option (Unit × uSt)) : ∀ j b fu (T : uSt) l4 l5, b + j = n → j < fu → T.1 = C.1 → rkI a w F l b T.2.1 l4 l5 → ∃ T' l4' l5', fX4_rank_48 15 (nI (bS (usD F w) n)) (nI l) ke fu T l4 l5 (nI b) = ke T' l5' ∧ T'.1 = C.1 ∧ rkI a w F l n T'.2.1 l4' l5' := by
  have hn := hO.1
  have h9 := hD.1
  have hp : ∀ k, k < n → w 0 k < 500 := fun k hk => by have := (hO.2.1 k hk).1; omega
  have hinc := inc_all hO.2.2
  intro j
  induction j with
  | zero =>
    intro b fu T l4 l5 hb hf hT hI
    obtain ⟨fu, rfl⟩ : ∃ x, fu = x + 1 := ⟨fu - 1, by omega⟩
    obtain rfl : b = n := by omega
    exact ⟨T, l4, l5, by rw [fX4_rank_48, hT, hc.1, if_pos (Int32.le_refl _)], hT, hI⟩
  | succ j ih =>
    intro b fu T l4 l5 hb hf hT hI
    obtain ⟨fu, rfl⟩ : ∃ x, fu = x + 1 := ⟨fu - 1, by omega⟩
    have hbn : b < n := by omega
    have w0 := hp b hbn
    have hwb := (hO.2.1 b hbn).1
    have hrb := refT_b hO F b (by omega)
    obtain ⟨X, S, x1, x2, x3, x4, x5, x6, x7⟩ := hI
    have hcT : cCa T.1 (15 + 8) n w := by rw [hT]; exact hc
    obtain ⟨ub, -, -, -⟩ := hcT.2 b hbn
    rw [fX4_rank_48, hT, hc.1, if_neg (nI_ge hbn (by omega)), zhas _ (by omega), bS_hb _ hbn hn]
    have usb : usD F w b = !(F.testBit (w 0 b / 100)) := rfl
    by_cases qu : usD F w b = true
    · have qF : ¬ F.testBit (w 0 b / 100) = true := by rw [usb] at qu; simpa using qu
      rw [if_pos qu, if_neg (by decide), oj1_e]
      -- the rest, once the device is left
      have rest : ∀ (T1 : uSt) (X1 : Tb) (x : Nat), T1.1 = C.1 → cT6 T1.2.1 l X1 → bD X1 (1660944384 * b) → zT X1 S → tkB a w b x X1 = refT a w F (b + 1) → x ≤ 1 → ∃ T' l4' l5', ob (fX2_energyIn (15 + 3) (15 + 8) ((1 : Int32) <<< (nI b &&& 31)) T1) (fun x_14 => ol ((if (l5 + x_14) < nI l then (l5 + x_14) else nI l)) (fun l5_15 => obV (fX4_considerBlock 15 (nI b) (nI x) l5_15 T1) (fun st_16 => ol (nI b + 1) (fun l6_18 => fX4_rank_48 15 (nI (bS (usD F w) n)) (nI l) ke fu st_16 (nI b) l5_15 l6_18)))) = ke T' l5' ∧ T'.1 = C.1 ∧ rkI a w F l n T'.2.1 l4' l5' := by
        intro T1 X1 x t1 t2 t3 t4 t5 hx
        have hd1 : cDv T1.1 (15 + 3) a := by rw [t1]; exact hd
        have hc1 : cCa T1.1 (15 + 8) n w := by rw [t1]; exact hc
        obtain ⟨kb1, kb2, kb3, kb4⟩ := k_b hD (show w 0 b / 100 < a 9 by omega)
        have er : (if (l5 + nI (k0 a (w 0 b / 100))) < nI l then (l5 + nI (k0 a (w 0 b / 100))) else nI l) = nI (min l (S + k0 a (w 0 b / 100))) := by
          rw [x5, zadd]
          by_cases q : min l S + k0 a (w 0 b / 100) < l
          · rw [if_pos (plt q (by omega))]; congr 1; omega
          · rw [if_neg (nplt (by omega) (by omega))]; congr 1; omega
        obtain ⟨T2, u1, u2, u3⟩ := qconsider (k := b) (x := x) (l := l) (S := S) (R := min l (S + k0 a (w 0 b / 100))) hd1 hc1 hO hD hbn hx t3 (by omega) (by omega) hl t4 rfl t2
        rw [t5] at u3
        have hg := gn_b hO hbn
        have zz : zT (refT a w F (b + 1)) (S + k0 a (w 0 b / 100)) := by
          rw [← t5]
          exact zT_tk t4 kb3 (by unfold k2; unfold k1 at kb3; unfold k0 at *; split <;> omega)
        obtain ⟨T', l4', l5', v1, v2, v3⟩ := ih (b + 1) fu T2 (nI b) (nI (min l (S + k0 a (w 0 b / 100)))) (by omega) (by omega) (by rw [u2, t1]) ⟨refT a w F (b + 1), S + k0 a (w 0 b / 100), u3, refT_b hO F (b + 1) (by omega), zz, by omega, rfl, rfl, Or.inl ⟨by omega, qu, rfl, rfl⟩⟩
        refine ⟨T', l4', l5', ?_, v2, v3⟩
        rw [qsingle hd1 hc1 hO hD hbn, ob_s, er, ol_e, u1, obV_st, ol_e, zinc]
        exact v1
      have rT : refT a w F (b + 1) = tkB a w b (nxt w b) (if 0 < b ∧ w 0 (b - 1) / 100 = w 0 b / 100 then refT a w F b else mg (refT a w F b)) := by rw [refT, if_neg qF]
      -- a new device, or the first
      have newd : ¬ (0 < b ∧ w 0 (b - 1) / 100 = w 0 b / 100) → tkB a w b 0 (mg X) = refT a w F (b + 1) := by
        intro q
        rw [rT, if_neg q, x6, show nxt w b = 0 by unfold nxt; rw [if_neg (fun h => q ⟨h.1, h.2.1⟩)]]
      have leave : ∀ q, q < b → l4 = nI q → w 0 q / 100 < w 0 b / 100 → ¬ (0 < b ∧ w 0 (b - 1) / 100 = w 0 b / 100) → ∃ T' l4' l5', (if l4 = (-1 : Int32) then (oj1 (fun (v_12 : Int32) => ob (fX2_energyIn (15 + 3) (15 + 8) ((1 : Int32) <<< (nI b &&& 31)) T) (fun x_14 => ol ((if (l5 + x_14) < nI l then (l5 + x_14) else nI l)) (fun l5_15 => obV (fX4_considerBlock 15 (nI b) v_12 l5_15 T) (fun st_16 => ol (nI b + 1) (fun l6_18 => fX4_rank_48 15 (nI (bS (usD F w) n)) (nI l) ke fu st_16 (nI b) l5_15 l6_18))))) (fun j_11 => oj0 ((j_11 (0 : Int32))) (fun j_19 => (if l4 = (-1 : Int32) then j_19 else ob (fX1_isFollowedBy (15 + 8) l4 (nI b) T) (fun x_20 => (if x_20 = 0 then j_19 else (j_11 (1 : Int32)))))))) else og (inB l4 24) (og (inB (nI b) 24) ((if (C.1 ((15 + 8) + 1) l4.toNatClampNeg) = (C.1 ((15 + 8) + 1) (nI b).toNatClampNeg) then (oj1 (fun (v_12 : Int32) => ob (fX2_energyIn (15 + 3) (15 + 8) ((1 : Int32) <<< (nI b &&& 31)) T) (fun x_14 => ol ((if (l5 + x_14) < nI l then (l5 + x_14) else nI l)) (fun l5_15 => obV (fX4_considerBlock 15 (nI b) v_12 l5_15 T) (fun st_16 => ol (nI b + 1) (fun l6_18 => fX4_rank_48 15 (nI (bS (usD F w) n)) (nI l) ke fu st_16 (nI b) l5_15 l6_18))))) (fun j_11 => oj0 ((j_11 (0 : Int32))) (fun j_19 => (if l4 = (-1 : Int32) then j_19 else ob (fX1_isFollowedBy (15 + 8) l4 (nI b) T) (fun x_20 => (if x_20 = 0 then j_19 else (j_11 (1 : Int32)))))))) else obV (fX4_leaveDevice l5 T) (fun st_21 => (oj1 (fun (v_12 : Int32) => ob (fX2_energyIn (15 + 3) (15 + 8) ((1 : Int32) <<< (nI b &&& 31)) st_21) (fun x_14 => ol ((if (l5 + x_14) < nI l then (l5 + x_14) else nI l)) (fun l5_15 => obV (fX4_considerBlock 15 (nI b) v_12 l5_15 st_21) (fun st_16 => ol (nI b + 1) (fun l6_18 => fX4_rank_48 15 (nI (bS (usD F w) n)) (nI l) ke fu st_16 (nI b) l5_15 l6_18))))) (fun j_11 => oj0 ((j_11 (0 : Int32))) (fun j_19 => (if l4 = (-1 : Int32) then j_19 else ob (fX1_isFollowedBy (15 + 8) l4 (nI b) st_21) (fun x_20 => (if x_20 = 0 then j_19 else (j_11 (1 : Int32))))))))))))) = ke T' l5' ∧ T'.1 = C.1 ∧ rkI a w F l n T'.2.1 l4' l5' := by
        intro q hq e4 hdv hns
        have wq := hp q (by omega)
        obtain ⟨T1, u1, u2, u3⟩ := qleave (C := T) (R := min l S) (l := l) (S := S) x2 (by omega) hl rfl x3 x1
        obtain ⟨cq, -, -, -⟩ := hc.2 q (by omega)
        obtain ⟨cb, -, -, -⟩ := hc.2 b hbn
        have hcT1 : cCa T1.1 (15 + 8) n w := by rw [u2, hT]; exact hc
        obtain ⟨T', l4', l5', v1, v2, v3⟩ := rest T1 (mg X) 0 (by rw [u2, hT]) u3 (bD_mg x2 (by omega)) (zT_mg x3) (newd hns) (by decide)
        refine ⟨T', l4', l5', ?_, v2, v3⟩
        rw [e4, if_neg (zneg (by omega)), zin (by omega) (by omega), zin (by omega) (by omega), zcl (by omega), zcl (by omega), og_t, og_t, cq, cb, if_neg (peqn (by omega) (by omega) (by omega)), x5, u1, obV_st, oj1_e, oj0_e, if_neg (zneg (by omega)), qX1_followed hcT1 hn hp (by omega) hbn, ob_s, if_neg (show ¬ (w 0 q / 100 = w 0 b / 100 ∧ w 0 q + 1 = w 0 b) from fun h => by omega), if_pos rfl]
        rw [x5] at v1
        exact v1
      rcases x7 with ⟨y1, y2, y3, y4⟩ | ⟨y1, y2, y3⟩ | ⟨q, y1, y2, y3, y4⟩
      · have wq := hp (b - 1) (by omega)
        have wlt := hinc b (b - 1) (by omega) hbn
        by_cases qs : w 0 (b - 1) / 100 = w 0 b / 100
        · obtain ⟨cq, -, -, -⟩ := hc.2 (b - 1) (by omega)
          obtain ⟨cb, -, -, -⟩ := hc.2 b hbn
          obtain ⟨T', l4', l5', v1, v2, v3⟩ := rest T X (nxt w b) hT x1 x2 x3 (by rw [rT, if_pos ⟨y1, qs⟩, y3]) (by unfold nxt; split <;> omega)
          refine ⟨T', l4', l5', ?_, v2, v3⟩
          rw [y4, if_neg (zneg (by omega)), zin (by omega) (by omega), zin (by omega) (by omega), zcl (by omega), zcl (by omega), og_t, og_t, cq, cb, if_pos (by rw [qs])]
          dsimp only
          rw [oj1_e, oj0_e, if_neg (zneg (by omega)), qX1_followed hcT hn hp (by omega) hbn, ob_s]
          by_cases qn : w 0 (b - 1) + 1 = w 0 b
          · rw [if_pos (show w 0 (b - 1) / 100 = w 0 b / 100 ∧ w 0 (b - 1) + 1 = w 0 b from ⟨qs, qn⟩), if_neg (by decide)]
            rw [show nxt w b = 1 by unfold nxt; rw [if_pos ⟨y1, qs, qn⟩]] at v1
            exact v1
          · rw [if_neg (show ¬ (w 0 (b - 1) / 100 = w 0 b / 100 ∧ w 0 (b - 1) + 1 = w 0 b) from fun h => qn h.2), if_pos rfl]
            rw [show nxt w b = 0 by unfold nxt; rw [if_neg (fun h => qn h.2.2)]] at v1
            exact v1
        · exact leave (b - 1) (by omega) y4 (by omega) (fun h => qs h.2)
      · have hns : ¬ (0 < b ∧ w 0 (b - 1) / 100 = w 0 b / 100) := by
          intro h
          have e1 := y3 h.1
          have e2 : usD F w (b - 1) = usD F w b := by unfold usD; rw [h.2]
          rw [e2, qu] at e1
          exact absurd e1 (by decide)
        obtain ⟨T', l4', l5', v1, v2, v3⟩ := rest T X 0 hT x1 x2 x3 (by rw [y2]; exact newd hns) (by decide)
        refine ⟨T', l4', l5', ?_, v2, v3⟩
        rw [y1, if_pos rfl]
        dsimp only
        rw [oj1_e, oj0_e, if_pos rfl]
        exact v1
      · have wlt := hinc b (b - 1) (by omega) hbn
        refine leave q (by omega) y3 (by omega) (fun h => ?_)
        have e2 : usD F w (b - 1) = usD F w b := by unfold usD; rw [h.2]
        rw [e2, qu] at y2
        exact absurd y2 (by decide)
    · have quf : usD F w b = false := by simpa using qu
      have qF : F.testBit (w 0 b / 100) = true := by rw [usb] at quf; simpa using quf
      rw [if_neg qu, if_pos rfl, ol_e, zinc]
      refine ih (b + 1) fu T l4 l5 (by omega) (by omega) hT ⟨X, S, x1, bD_up x2 (by omega), x3, by omega, x5, ?_, ?_⟩
      · rw [refT, if_pos qF]
        split
        · exact x6
        · rw [mg_mg hrb]; exact x6
      · rw [Nat.add_sub_cancel]
        rcases x7 with ⟨y1, y2, y3, y4⟩ | ⟨y1, y2, y3⟩ | ⟨q, y1, y2, y3, y4⟩
        · refine Or.inr (Or.inr ⟨b - 1, by omega, quf, y4, ?_⟩)
          have wlt := hinc b (b - 1) (by omega) hbn
          have : w 0 (b - 1) / 100 ≠ w 0 b / 100 := fun h => by
            have e2 : usD F w (b - 1) = usD F w b := by unfold usD; rw [h]
            rw [e2] at y2
            exact qu y2
          omega
        · exact Or.inr (Or.inl ⟨y1, y2, fun _ => quf⟩)
        · have wlt := hinc b (b - 1) (by omega) hbn
          exact Or.inr (Or.inr ⟨q, by omega, quf, y3, by omega⟩)
end Q29
