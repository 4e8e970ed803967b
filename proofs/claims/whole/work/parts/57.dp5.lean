/-! PURE PART 28: the class ranks: its loops -/
def sh (x : Int) : Int := if x < 0 then -1 else x + 16777215
theorem sh_max {x y : Int} (hx : -1 ≤ x) (hy : -1 ≤ y) : max (sh x) (sh y) = sh (max x y) := by
  unfold sh
  repeat' split
  all_goals omega
theorem sh_ok {x : Int} (h : -1 ≤ x) (h2 : x ≤ 100000000000) : okI (sh x) := by
  unfold sh
  split
  · exact ok_m1
  · exact ⟨by omega, by omega⟩
theorem sh_m1 : sh (-1) = -1 := rfl
def cT6 (f : Nat → Nat → Int64) (l : Nat) (D : Tb) : Prop := ∀ e, e ≤ l → f 6 e = jI (sh (D 0 e)) ∧ f 7 e = jI (sh (D 1 e)) ∧ f 8 e = jI (sh (D 2 e))
def zT (D : Tb) (S : Nat) : Prop := ∀ s e, S < e → D s e = -1
section Q28
variable {st : uSt} {D : Tb} {B g : Int}
theorem qrankAt {rw' e c : Nat} (he : e ≤ 500) (hc : c ≤ 1000) : fX4_rankAt rw' (nI e - nI c) st = some (if c ≤ e then st.2.1 rw' (e - c) else -1) := by
  rw [fX4_rankAt, oj0_e]
  by_cases q : c ≤ e
  · rw [if_pos q, zsub q, if_neg (nlt0 (by omega)), if_neg (show ¬ (501 : Int32) ≤ nI (e - c) from nple (a := 501) (by omega) (by decide)), zin (by omega) (by omega), zcl (by omega), og_t]
  · rw [if_neg q, if_pos (show nI e - nI c < 0 by
      rw [Int32.lt_iff_toInt_lt, zsubI (by omega) (by omega)]
      show _ < (0 : Int)
      omega)]
theorem cb_l {c0 c1 wr x : Nat} (sb : Nat) (hb : bD D B) (hB0 : 0 ≤ B) (hB : B + g ≤ 100000000000) (hg : 0 ≤ g) (h0 : 1 ≤ c0 ∧ c0 ≤ 1000) (h1 : 1 ≤ c1 ∧ c1 ≤ 1000) (h2 : 1 ≤ wr ∧ wr ≤ 1000) (hx : x ≤ 1) {R : Nat} (hR : R ≤ 500) (f6 : Nat → Int64) (ke : uSt → Option (Unit × uSt)) : ∀ t fu (S : uSt) l, t ≤ R + 1 → l + 1 = nI t → t < fu → S.2.1 6 = f6 → (∀ e, e ≤ R → f6 e = jI (sh (D 0 e))) → (∀ e, e < t → S.2.1 7 e = jI (sh (D 1 e)) ∧ S.2.1 8 e = jI (sh (D 2 e))) → (∀ e, t ≤ e → e ≤ R → S.2.1 7 e = jI (sh (max (D 1 e) (D 2 e))) ∧ S.2.1 8 e = jI (sh (Pt D c0 c1 (if x = 0 then c1 else wr) g 501 501 501 e))) → ∃ S', fX4_considerBlock_76 sb (nI x) (nI wr) (nI c1) (nI c0) (jI g) ke fu S l = ke S' ∧ S'.1 = S.1 ∧ S'.2.1 6 = f6 ∧ (∀ e, e ≤ R → S'.2.1 7 e = jI (sh (max (D 1 e) (D 2 e))) ∧ S'.2.1 8 e = jI (sh (Pt D c0 c1 (if x = 0 then c1 else wr) g 501 501 501 e))) ∧ ∀ e, R < e → S'.2.1 7 e = S.2.1 7 e ∧ S'.2.1 8 e = S.2.1 8 e := by
  intro t
  induction t with
  | zero =>
    intro fu S l ht hl hf hS h6 h7 h8
    obtain ⟨fu, rfl⟩ : ∃ x, fu = x + 1 := ⟨fu - 1, by omega⟩
    have el : l = -1 := by
      have : l + 1 + -1 = nI 0 + -1 := by rw [hl]
      rw [Int32.add_assoc, show (1 : Int32) + -1 = 0 by decide, Int32.add_zero] at this
      rw [this]; decide
    subst el
    exact ⟨S, by rw [fX4_considerBlock_76, if_pos (by decide)], rfl, hS, fun e he => h8 e (by omega) he, fun _ _ => ⟨rfl, rfl⟩⟩
  | succ t ih =>
    intro fu S l ht hl hf hS h6 h7 h8
    obtain ⟨fu, rfl⟩ : ∃ x, fu = x + 1 := ⟨fu - 1, by omega⟩
    have el : l = nI t := by
      have : l + 1 + -1 = nI (t + 1) + -1 := by rw [hl]
      rw [Int32.add_assoc, show (1 : Int32) + -1 = 0 by decide, Int32.add_zero, zdec] at this
      exact this
    subst el
    have hl2 : nI t + -1 + 1 = nI t := by rw [Int32.add_assoc, show (-1 : Int32) + 1 = 0 by decide, Int32.add_zero]
    have ok : ∀ s e, okI (sh (D s e)) := fun s e => sh_ok (hb s e).1 (by have := (hb s e).2; omega)
    have rA : ∀ r s c, c ≤ 1000 → (∀ e, e < t → S.2.1 r e = jI (sh (D s e))) → 1 ≤ c → fX4_rankAt r (nI t - nI c) S = some (jI (sh (qv D s c 501 t))) := by
      intro r s c hc hr hc1
      rw [qrankAt (by omega) hc]
      unfold qv
      by_cases q : c ≤ t
      · rw [if_pos q, if_pos (by omega), hr (t - c) (by omega)]
      · rw [if_neg q, if_neg (by omega), jI_m1, sh_m1]
    have q0 := bD_qv hb hB0 0 c0 501 t
    have q1 := bD_qv hb hB0 1 c1 501 t
    have q2 := bD_qv hb hB0 2 (if x = 0 then c1 else wr) 501 t
    have okq : ∀ z : Int, -1 ≤ z → z ≤ B → okI (sh z) := fun z h1 h2 => sh_ok h1 (by omega)
    have e0 := rA 6 0 c0 h0.2 (fun e he => by rw [hS]; exact h6 e (by omega)) h0.1
    have e1 := rA 7 1 c1 h1.2 (fun e he => (h7 e (by omega)).1) h1.1
    have e2 := rA 8 2 (if x = 0 then c1 else wr) (by split <;> omega) (fun e he => (h7 e (by omega)).2) (by split <;> omega)
    obtain ⟨k7, k8⟩ := h7 t (by omega)
    obtain ⟨S', f1, f2, f3, f4, f5⟩ := ih fu (sL (sL S 7 t (jI (sh (max (D 1 t) (D 2 t))))) 8 t (jI (sh (Pt D c0 c1 (if x = 0 then c1 else wr) g 501 501 501 t)))) (nI t + -1) (by omega) hl2 (by omega) (by rw [sL_n (by decide), sL_n (by decide)]; exact hS) h6 (fun e he => by
        rw [sL_n (show 7 ≠ 8 by decide), sL_g, if_neg (by omega), sL_g, if_neg (by omega), sL_n (show 8 ≠ 7 by decide)]
        exact h7 e (by omega)) (fun e h3 h4 => by
        rw [sL_n (show 7 ≠ 8 by decide), sL_g, sL_g, sL_n (show 8 ≠ 7 by decide)]
        by_cases q : e = t
        · rw [if_pos q, if_pos q, q]; exact ⟨rfl, rfl⟩
        · rw [if_neg q, if_neg q]; exact h8 e (by omega) h4)
    refine ⟨S', ?_, f2, f3, f4, fun e he => ?_⟩
    · have step : ∀ c2, -1 ≤ qv D 2 c2 501 t → qv D 2 c2 501 t ≤ B → fX4_rankAt 8 (nI t - nI c2) S = some (jI (sh (qv D 2 c2 501 t))) → ob (fX4_rankAt 8 (nI t - nI c2) S) (fun x_12 => ol ((if x_12 < jI (max (sh (qv D 0 c0 501 t)) (sh (qv D 1 c1 501 t))) then jI (max (sh (qv D 0 c0 501 t)) (sh (qv D 1 c1 501 t))) else x_12)) (fun l12_13 => og (inB (nI t) 501) (og (inB (nI t) 501) (og (inB (nI t) 501) (ol (sL S 7 (nI t).toNatClampNeg ((if (S.2.1 8 (nI t).toNatClampNeg) < (S.2.1 7 (nI t).toNatClampNeg) then (S.2.1 7 (nI t).toNatClampNeg) else (S.2.1 8 (nI t).toNatClampNeg)))) (fun st_14 => oj1 (fun (v_16 : Int64) => og (inB (nI t) 501) (ol (sL st_14 8 (nI t).toNatClampNeg v_16) (fun st_17 => ol (nI t + (-1)) (fun l11_18 => fX4_considerBlock_76 sb (nI x) (nI wr) (nI c1) (nI c0) (jI g) ke fu st_17 l11_18)))) (fun j_15 => (if 0 ≤ (lg_cmp l12_13 (0 : Int64)) then (j_15 (l12_13 + jI g)) else (j_15 (-1 : Int64)))))))))) = fX4_considerBlock_76 sb (nI x) (nI wr) (nI c1) (nI c0) (jI g) ke fu (sL (sL S 7 t (jI (sh (max (D 1 t) (D 2 t))))) 8 t (jI (sh (Pt D c0 c1 c2 g 501 501 501 t)))) (nI t + -1) := by
        intro c2 p1 p2 e2
        rw [e2, ob_s, jI_max (ok_max (okq _ q0.1 q0.2) (okq _ q1.1 q1.2)) (okq _ p1 p2), ol_e, zin (by omega) (by omega), zcl (by omega), og_t, og_t, og_t, k7, k8, jI_max (ok 1 t) (ok 2 t), sh_max (hb 1 t).1 (hb 2 t).1, ol_e, oj1_e, sh_max q0.1 q1.1, sh_max (by omega) p1]
        have V : (if 0 ≤ (lg_cmp (jI (sh (max (max (qv D 0 c0 501 t) (qv D 1 c1 501 t)) (qv D 2 c2 501 t)))) (0 : Int64)) then jI (sh (max (max (qv D 0 c0 501 t) (qv D 1 c1 501 t)) (qv D 2 c2 501 t))) + jI g else (-1 : Int64)) = jI (sh (Pt D c0 c1 c2 g 501 501 501 t)) := by
          unfold Pt
          have qm : -1 ≤ max (max (qv D 0 c0 501 t) (qv D 1 c1 501 t)) (qv D 2 c2 501 t) ∧ max (max (qv D 0 c0 501 t) (qv D 1 c1 501 t)) (qv D 2 c2 501 t) ≤ B := by omega
          generalize max (max (qv D 0 c0 501 t) (qv D 1 c1 501 t)) (qv D 2 c2 501 t) = v at qm ⊢
          by_cases qv0 : v < 0
          · rw [if_pos qv0, show sh v = -1 by unfold sh; rw [if_pos qv0], sh_m1, if_neg (fun h => by have h := (lg_cmp_ge _ _).mp h; rw [jI_0, jI_le ok_0 ok_m1] at h; omega)]
            exact jI_m1
          · rw [if_neg qv0, if_pos ((lg_cmp_ge _ _).mpr (by rw [jI_0, jI_le ok_0 (okq v qm.1 qm.2)]; unfold sh; rw [if_neg qv0]; omega)), jI_add]
            congr 1
            unfold sh
            rw [if_neg qv0, if_neg (by omega)]
            omega
        rw [← V]
        split
        · dsimp only
          rw [og_t, ol_e, ol_e]
        · dsimp only
          rw [og_t, ol_e, ol_e]
      rw [fX4_considerBlock_76, if_neg (nlt0 (by omega)), e0, ob_s, e1, ob_s, jI_max (okq _ q0.1 q0.2) (okq _ q1.1 q1.2), ol_e, oj1_e]
      rcases (show x = 0 ∨ x = 1 by omega) with rfl | rfl
      · rw [if_pos (show nI 0 = (0 : Int32) from rfl)]
        exact (step c1 q2.1 q2.2 e2).trans f1
      · rw [if_neg (show ¬ nI 1 = (0 : Int32) by decide)]
        exact (step wr q2.1 q2.2 e2).trans f1
    · rw [(f5 e he).1, (f5 e he).2, sL_n (show 7 ≠ 8 by decide), sL_g, if_neg (by omega), sL_g, if_neg (by omega), sL_n (show 8 ≠ 7 by decide)]
      exact ⟨rfl, rfl⟩
theorem lv_l (hb : bD D B) (hB : B ≤ 100000000000) {R l : Nat} (hR : R ≤ l) (hl : l ≤ 500) (ke : uSt → Option (Unit × uSt)) : ∀ j e fu (S : uSt), e + j = R + 1 → j < fu → (∀ i, i < e → S.2.1 6 i = jI (sh (mg D 0 i)) ∧ S.2.1 7 i = -1 ∧ S.2.1 8 i = -1) → (∀ i, e ≤ i → i ≤ l → S.2.1 6 i = jI (sh (D 0 i)) ∧ S.2.1 7 i = jI (sh (D 1 i)) ∧ S.2.1 8 i = jI (sh (D 2 i))) → ∃ S', fX4_leaveDevice_2 (nI R) ke fu S (nI e) = ke S' ∧ S'.1 = S.1 ∧ (∀ i, i ≤ R → S'.2.1 6 i = jI (sh (mg D 0 i)) ∧ S'.2.1 7 i = -1 ∧ S'.2.1 8 i = -1) ∧ ∀ i, R < i → i ≤ l → S'.2.1 6 i = jI (sh (D 0 i)) ∧ S'.2.1 7 i = jI (sh (D 1 i)) ∧ S'.2.1 8 i = jI (sh (D 2 i)) := by
  intro j
  induction j with
  | zero =>
    intro e fu S he hf h1 h2
    obtain ⟨fu, rfl⟩ : ∃ x, fu = x + 1 := ⟨fu - 1, by omega⟩
    refine ⟨S, by rw [fX4_leaveDevice_2, if_pos (plt (by omega) (by omega))], rfl, fun i hi => h1 i (by omega), fun i hi hi2 => h2 i (by omega) hi2⟩
  | succ j ih =>
    intro e fu S he hf h1 h2
    obtain ⟨fu, rfl⟩ : ∃ x, fu = x + 1 := ⟨fu - 1, by omega⟩
    have ok : ∀ s e, okI (sh (D s e)) := fun s e => sh_ok (hb s e).1 (by have := (hb s e).2; omega)
    obtain ⟨k6, k7, k8⟩ := h2 e (Nat.le_refl _) (by omega)
    obtain ⟨S', f1, f2, f3, f4⟩ := ih (e + 1) fu (sL (sL (sL S 6 e (jI (sh (mg D 0 e)))) 7 e (-1)) 8 e (-1)) (by omega) (by omega) (fun i hi => by
        rw [sL_n (show 6 ≠ 8 by decide), sL_n (show 6 ≠ 7 by decide), sL_g, sL_n (show 7 ≠ 8 by decide), sL_g, sL_g, sL_n (show 8 ≠ 7 by decide), sL_n (show 8 ≠ 6 by decide), sL_n (show 7 ≠ 6 by decide)]
        by_cases q : i = e
        · rw [if_pos q, if_pos q, if_pos q, q]; exact ⟨rfl, rfl, rfl⟩
        · rw [if_neg q, if_neg q, if_neg q]; exact h1 i (by omega)) (fun i hi hi2 => by
        rw [sL_n (show 6 ≠ 8 by decide), sL_n (show 6 ≠ 7 by decide), sL_g, if_neg (by omega), sL_n (show 7 ≠ 8 by decide), sL_g, if_neg (by omega), sL_g, if_neg (by omega), sL_n (show 8 ≠ 7 by decide), sL_n (show 8 ≠ 6 by decide), sL_n (show 7 ≠ 6 by decide)]
        exact h2 i (by omega) hi2)
    refine ⟨S', ?_, f2, f3, f4⟩
    rw [fX4_leaveDevice_2, if_neg (nplt (by omega) (by omega)), zin (by omega) (by omega), zcl (by omega), og_t, og_t, og_t, og_t, k6, k7, k8, jI_max (ok 1 e) (ok 2 e), jI_max (ok 0 e) (ok_max (ok 1 e) (ok 2 e)), sh_max (hb 1 e).1 (hb 2 e).1, sh_max (hb 0 e).1 (by have := (hb 1 e).1; omega), ol_e, og_t, ol_e, og_t, ol_e, ol_e, zinc]
    exact f1
theorem qleave {R l S : Nat} {C : uSt} (hb : bD D B) (hB : B ≤ 100000000000) (hl : l ≤ 500) (hR : R = min l S) (hz : zT D S) (h : cT6 C.2.1 l D) : ∃ C', fX4_leaveDevice (nI R) C = some ((), C') ∧ C'.1 = C.1 ∧ cT6 C'.2.1 l (mg D) := by
  obtain ⟨C', e1, e2, e3, e4⟩ := lv_l hb hB (R := R) (l := l) (by omega) hl (fun st_6 => some ((), st_6)) (R + 1) 0 FU C (by omega) (FU_lt (by omega)) (fun i hi => absurd hi (by omega)) (fun i _ hi => h i hi)
  refine ⟨C', by rw [fX4_leaveDevice]; exact e1, e2, fun e he => ?_⟩
  have m1 : mg D 1 e = -1 := rfl
  have m2 : mg D 2 e = -1 := rfl
  rw [m1, m2, sh_m1, ← jI_m1]
  by_cases q : e ≤ R
  · exact e3 e q
  · obtain ⟨x1, x2, x3⟩ := e4 e (by omega) he
    rw [x1, x2, x3, hz 1 e (by omega), hz 2 e (by omega), hz 0 e (by omega), sh_m1, ← jI_m1]
    refine ⟨?_, rfl, rfl⟩
    show _ = jI (sh (max (D 0 e) (max (D 1 e) (D 2 e))))
    rw [hz 1 e (by omega), hz 2 e (by omega), hz 0 e (by omega)]
    exact jI_m1
theorem zT_mg {S : Nat} (h : zT D S) : zT (mg D) S := by
  intro s e he
  unfold mg
  rw [h 0 e he, h 1 e he, h 2 e he]
  split <;> rfl
theorem zT_tk {S c0 c1 c2 : Nat} (h : zT D S) (h1 : c1 ≤ c0) (h2 : c2 ≤ c0) : zT (tk D c0 c1 c2 g) (S + c0) := by
  intro s e he
  have q : ∀ s c, c ≤ c0 → qv D s c 501 e = -1 := fun s c hc => by
    unfold qv
    split
    · exact h s _ (by omega)
    · rfl
  unfold tk Pt
  rw [h 0 e (by omega), h 1 e (by omega), h 2 e (by omega), q 0 c0 (Nat.le_refl _), q 1 c1 h1, q 2 c2 h2]
  repeat' split
  all_goals first | rfl | omega
end Q28
