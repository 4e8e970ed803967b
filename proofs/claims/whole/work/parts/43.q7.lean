/-! PURE PART 14: time passes -/
section Q14
variable {m : Nat} {C M st : uSt} {a : Nat → Nat} {n : Nat} {w : Nat → Nat → Nat}
/-- all blocks -/
theorem all_hb {k n : Nat} (hk : k < n) (hn : n ≤ 24) : hb ((1 : Int32) <<< (nI n &&& 31) - 1) k = true := by
  rw [zbit (by omega), show nI (2 ^ n) - 1 = nI (2 ^ n - 1) from zsub (b := 1) (Nat.one_le_two_pow), hb_nI (by omega), Nat.testBit_two_pow_sub_one]
  simp [hk]
theorem spd_o {e j : Nat} (h0 : j ≠ 0) (h1 : j ≠ 1) (h28 : j ≠ 28) : spd a e j = a j := by
  unfold spd; rw [if_neg h0, if_neg h1, if_neg h28]
theorem spd_0 (e : Nat) : spd a e 0 = spc a e := rfl
theorem spd_28 (e : Nat) : spd a e 28 = a 28 + e := rfl
theorem spd_1 (e : Nat) : spd a e 1 ≤ a 1 - e ∧ spd a e 1 ≤ spc a e := by
  show (if spc a e < a 1 - e then spc a e else a 1 - e) ≤ _ ∧ (if spc a e < a 1 - e then spc a e else a 1 - e) ≤ _
  split <;> omega
/-- within advance: everything but the bound on the discharge -/
def oT (m : Nat) (a : Nat → Nat) : Prop := (1 ≤ a 0 ∧ a 0 ≤ 500 ∧ a 1 ≤ a 0 ∧ a 2 ≤ 50 ∧ 1 ≤ a 3 ∧ a 3 ≤ 50 ∧ 1 ≤ a 4 ∧ a 4 ≤ 1000 ∧ a 5 ≤ 200 ∧ a 6 ≤ 24 ∧ a 7 ≤ 2 ∧ a 8 ≤ 99) ∧ ((a 27 = 1 ∧ a 28 ≤ 500 * m) ∨ (a 27 = 0 ∧ a 28 + a 1 ≤ 500 * (m + 1)))
theorem oT_of (h : oS m a) : oT m a := by
  obtain ⟨s0, s1, s2, s3, s4, s5, s6, s7, s8, s9, s10, s11, s12, s13⟩ := h
  refine ⟨⟨s0, s1, s2, s3, s4, s5, s6, s7, s8, s9, s10, s11⟩, ?_⟩
  by_cases q : a 27 = 1
  · exact Or.inl ⟨q, s13⟩
  · exact Or.inr ⟨by omega, by omega⟩
theorem oS_of (h : oT m a) : oS (m + 1) a := by
  obtain ⟨⟨s0, s1, s2, s3, s4, s5, s6, s7, s8, s9, s10, s11⟩, q⟩ := h
  refine ⟨s0, s1, s2, s3, s4, s5, s6, s7, s8, s9, s10, s11, ?_, ?_⟩
  · rcases q with q | q <;> omega
  · rcases q with q | q <;> omega
theorem oT_spd {e : Nat} (h : oT m a) (h27 : a 27 = 0) (he : e ≤ a 1) : oT m (spd a e) := by
  obtain ⟨⟨s0, s1, s2, s3, s4, s5, s6, s7, s8, s9, s10, s11⟩, q⟩ := h
  have r := spc_range (a := a) (e := e) s0
  have r1 := spd_1 (a := a) e
  refine ⟨⟨r.1, ?_, r1.2, ?_, ?_, ?_, ?_, ?_, ?_, ?_, ?_, ?_⟩, Or.inr ⟨?_, ?_⟩⟩
  · rw [spd_0]; omega
  all_goals first | (rw [spd_o (by decide) (by decide) (by decide)]; assumption) | skip
  rw [spd_28]
  omega
/-- the two sides during advance: x lost so far -/
def aR (m : Nat) (C0 M0 C M : uSt) (x : Nat) : Prop := ∃ a n w, cS C.1 15 (ua a 34 (a 34 + x)) n w ∧ gR (M.1 1) a n w ∧ oT m a ∧ oD a ∧ oB n a w ∧ (∀ i, i < 15 ∨ 29 ≤ i → C.1 i = C0.1 i) ∧ ∀ i, i ≠ 1 → M.1 i = M0.1 i
theorem ua_n {j v i : Nat} (h : i ≠ j) : ua a j v i = a i := by unfold ua; rw [if_neg h]
theorem ua_s {j v : Nat} : ua a j v j = v := by unfold ua; rw [if_pos rfl]
theorem cS_time {s : Nat} {x : Int32} {v : Nat} (h : cS st.1 s a n w) (h9 : a 9 ≤ 5) (hx : x = nI v) : cS (sI st s 5 x).1 s (ua a 26 v) n w := by
  obtain ⟨k1, k2, k3, k4, k5, k6, k7⟩ := h
  refine ⟨cBt_e k1 (sI_n (by omega)) (fun i hi => ua_n (by omega)), cRu_e k2 (sI_n (by omega)) (fun i _ _ => ua_n (by omega)), cDv_e k3 h9 (fun i _ _ => sI_n (by omega)) (fun i _ _ => ua_n (by omega)), cCa_e k4 (fun i _ _ => sI_n (by omega)), cTt_e k5 (sI_n (by omega)) (fun i _ _ => ua_n (by omega)), ?_, ?_⟩
  · rw [sI_r, if_pos rfl, ua_s, hx]
  · rw [sI_r, if_neg (by decide), ua_n (by decide)]; exact k7
theorem cS_bat {st' : uSt} {s : Nat} {a' : Nat → Nat} (h : cS st.1 s a n w) (h9 : a 9 ≤ 5) (hb : cBt st'.1 (s + 1) a') (ho : ∀ i, i ≠ s + 1 → st'.1 i = st.1 i) (ea : ∀ i, i ≠ 0 → i ≠ 1 → i ≠ 28 → a' i = a i) : cS st'.1 s a' n w := by
  obtain ⟨k1, k2, k3, k4, k5, k6, k7⟩ := h
  refine ⟨hb, cRu_e k2 (ho _ (by omega)) (fun i _ _ => ea i (by omega) (by omega) (by omega)), cDv_e k3 h9 (fun i _ _ => ho i (by omega)) (fun i _ _ => ea i (by omega) (by omega) (by omega)), cCa_e k4 (fun i _ _ => ho i (by omega)), cTt_e k5 (ho _ (by omega)) (fun i _ _ => ea i (by omega) (by omega) (by omega)), ?_, ?_⟩
  · rw [ho _ (by omega), ea 26 (by decide) (by decide) (by decide)]; exact k6
  · rw [ho _ (by omega), ea 27 (by decide) (by decide) (by decide)]; exact k7
theorem cS_n0 {s : Nat} (h : cS st.1 s a n w) : cS (sI st (s + 8) 0 0).1 s a 0 w := by
  obtain ⟨k1, k2, k3, k4, k5, k6, k7⟩ := h
  refine ⟨?_, ?_, ?_, ⟨by rw [sI_r, if_pos rfl]; rfl, fun k hk => absurd hk (by omega)⟩, ?_, ?_, ?_⟩
  · unfold cBt; rw [sI_n (by omega)]; exact k1
  · unfold cRu; rw [sI_n (by omega)]; exact k2
  · unfold cDv; rw [sI_n (by omega), sI_n (by omega), sI_n (by omega), sI_n (by omega), sI_n (by omega)]; exact k3
  · unfold cTt; rw [sI_n (by omega)]; exact k5
  · rw [sI_n (by omega)]; exact k6
  · rw [sI_n (by omega)]; exact k7
theorem gR_n0 (h : gR (st.1 1) a n w) : gR ((sI st 1 36 0).1 1) a 0 w := by
  refine ⟨fun j hj => ?_, by rw [sI_r, if_pos rfl]; rfl, fun k hk => absurd hk (by omega)⟩
  rw [sI_r, if_neg (by omega)]
  exact h.1 j hj
theorem cS_ea {f : Nat → Nat → Int32} {s : Nat} {a' : Nat → Nat} (h : cS f s a n w) (h9 : a 9 ≤ 5) (e : ∀ i, i < 36 → a' i = a i) : cS f s a' n w := by
  obtain ⟨k1, k2, k3, k4, k5, k6, k7⟩ := h
  exact ⟨cBt_e k1 rfl (fun i hi => e i (by omega)), cRu_e k2 rfl (fun i _ _ => e i (by omega)), cDv_e k3 h9 (fun i _ _ => rfl) (fun i _ _ => e i (by omega)), k4, cTt_e k5 rfl (fun i _ _ => e i (by omega)), by rw [e 26 (by decide)]; exact k6, by rw [e 27 (by decide)]; exact k7⟩
set_option maxHeartbeats 1000000 in
theorem minute_both {C0 M0 : uSt} {x : Nat} (hm : m < 512) (h : aR m C0 M0 C M x) : ∃ y C' , fX6_passMinute 15 C = some (nI y, C') ∧ ∀ (ke : uSt → Int32 → Option (Int32 × uSt)) fu (L k : Int32), ¬ L ≤ k → ∃ M', fX8_advance_27 L ke (fu + 1) M (nI x) k = fX8_advance_27 L ke fu M' (nI (x + y)) (k + 1) ∧ aR m C0 M0 C' M' (x + y) := by
  obtain ⟨a, n, w, hc, hg, hT, hD, hB, fC, fM⟩ := h
  obtain ⟨⟨s0, s1, s2, s3, s4, s5, s6, s7, s8, s9, s10, s11⟩, hT2⟩ := id hT
  have hn := hB.1
  have h9 := hD.1
  have h9' : (ua a 34 (a 34 + x)) 9 ≤ 5 := h9
  have t5 : C.1 15 5 = nI (a 26) := hc.2.2.2.2.2.1
  have c1 := cS_time (v := a 26 + 1) (x := C.1 15 5 + 1) hc h9' (by rw [t5]; exact zinc _)
  have g1 := gR_sI (j := 26) (v := a 26 + 1) (x := M.1 1 26 + 1) hg (by decide) (by rw [hg.1 26 (by decide)]; exact zinc _)
  have oc1 : ∀ i, i ≠ 15 → (sI C 15 5 (C.1 15 5 + 1)).1 i = C.1 i := fun i hi => sI_n hi
  generalize eC1 : sI C 15 5 (C.1 15 5 + 1) = C1 at c1 oc1
  have og1 : ∀ i, i ≠ 1 → (sI M 1 26 (M.1 1 26 + 1)).1 i = M.1 i := fun i hi => sI_n hi
  generalize eM1 : sI M 1 26 (M.1 1 26 + 1) = M1 at g1 og1
  have t6 : C1.1 15 6 = nI (a 27) := c1.2.2.2.2.2.2
  have g27 : M1.1 1 27 = nI (a 27) := g1.1 27 (by decide)
  have bt1 : cBt C1.1 (15 + 1) (ua a 26 (a 26 + 1)) := cBt_e c1.1 rfl (fun i hi => by unfold ua; rw [if_neg (by omega), if_neg (by omega), if_neg (by omega)])
  rcases hT2 with ⟨q27, q28⟩ | ⟨q27, q28⟩
  · -- on
    let c' : Nat := if a 0 < a 1 + a 2 then a 0 else a 1 + a 2
    have hc' : c' ≤ a 0 := by show (if a 0 < a 1 + a 2 then a 0 else a 1 + a 2) ≤ a 0; split <;> omega
    refine ⟨0, sI C1 (15 + 1) 1 (nI c'), ?_, fun ke fu L k hL => ⟨sI M1 1 1 (nI c'), ?_, ?_⟩⟩
    · rw [fX6_passMinute]
      simp only [ol]
      rw [eC1, t6, q27, if_neg (show ¬ nI 1 = (0 : Int32) by decide), fX0_chargeForMinute]
      simp only [ol]
      obtain ⟨b0, b1, b2, -⟩ := bt1
      rw [b0, b1, b2, show ua a 26 (a 26 + 1) 0 = a 0 from rfl, show ua a 26 (a 26 + 1) 1 = a 1 from rfl, show ua a 26 (a 26 + 1) 2 = a 2 from rfl, zadd]
      simp only [obV]
      show some ((0 : Int32), _) = some (nI 0, sI C1 (15 + 1) 1 (nI (if a 0 < a 1 + a 2 then a 0 else a 1 + a 2)))
      by_cases q : a 0 < a 1 + a 2
      · rw [if_pos (plt q (by omega)), if_pos q]; rfl
      · rw [if_neg (nplt (by omega) (by omega)), if_neg q]; rfl
    · rw [fX8_advance_27, if_neg hL]
      simp only [ol, oj1]
      rw [eM1, g27, q27, if_pos (show nI 1 = (1 : Int32) from rfl)]
      have e0 : M1.1 1 0 = nI (a 0) := g1.1 0 (by decide)
      have e1 : M1.1 1 1 = nI (a 1) := g1.1 1 (by decide)
      have e2 : M1.1 1 2 = nI (a 2) := g1.1 2 (by decide)
      rw [e0, e1, e2, zadd]
      have p1 : ∀ v, (sI M1 1 1 v).1 1 27 = 1 := fun v => by rw [sI_r, if_neg (by decide), g27, q27]; rfl
      by_cases q : a 0 ≤ a 1 + a 2
      · rw [if_pos (ple q (by omega)), p1, if_pos rfl]
        have : c' = a 0 := by show (if a 0 < a 1 + a 2 then a 0 else a 1 + a 2) = a 0; split <;> omega
        rw [this]; rfl
      · rw [if_neg (nple (by omega) (by omega)), p1, if_pos rfl]
        have : c' = a 1 + a 2 := by show (if a 0 < a 1 + a 2 then a 0 else a 1 + a 2) = a 1 + a 2; split <;> omega
        rw [this]; rfl
    · refine ⟨ua (ua a 26 (a 26 + 1)) 1 c', n, w, ?_, gR_sI g1 (by decide) rfl, ⟨⟨s0, s1, hc', s3, s4, s5, s6, s7, s8, s9, s10, s11⟩, Or.inl ⟨q27, q28⟩⟩, oD_e hD (fun i _ _ => by rw [ua_n (by omega), ua_n (by omega)]) hD.2.1, oB_e hB rfl, fun i hi => by rw [sI_n (by omega), oc1 i (by omega)]; exact fC i hi, fun i hi => by rw [sI_n hi, og1 i hi]; exact fM i hi⟩
      refine cS_ea (a := ua (ua (ua a 34 (a 34 + x)) 26 (a 26 + 1)) 1 c') (cS_bat c1 h9 ?_ (fun i hi => sI_n hi) (fun i _ h1 _ => ua_n h1)) h9 (fun i hi => ?_)
      · obtain ⟨b0, b1, b2, b3, b4, b5⟩ := bt1
        unfold cBt
        simp only [sI_r, Nat.reduceEqDiff, if_true, if_false, Nat.zero_ne_one]
        exact ⟨b0, rfl, b2, b3, b4, b5⟩
      · unfold ua
        by_cases i34 : i = 34
        · subst i34; rfl
        · rw [if_neg i34]
          by_cases i1 : i = 1
          · rw [if_pos i1, if_pos i1]
          · rw [if_neg i1, if_neg i1]
            by_cases i26 : i = 26
            · rw [if_pos i26, if_pos i26]
            · rw [if_neg i26, if_neg i26, if_neg i34]
  · -- off
    have q28' : a 28 ≤ 300000 := by omega
    obtain ⟨C2, f1, f2, f3⟩ := qdrain (b := 15 + 1) bt1 ⟨s0, s1⟩ q28' (Nat.le_trans s2 s1) s5 ⟨s6, s7⟩
    obtain ⟨M2, g2, g3, g4⟩ := qminute g1 ⟨s0, s1⟩ q28' (Nat.le_trans s2 s1) s5 ⟨s6, s7⟩
    have c2 : cS C2.1 15 (ua (spd (ua a 26 (a 26 + 1)) (mnD (ua a 26 (a 26 + 1)))) 34 (a 34 + x)) n w := by
      refine cS_bat c1 h9 (cBt_e f2 rfl (fun i hi => ua_n (by omega))) f3 (fun i h0 h1 h28 => ?_)
      unfold ua
      by_cases i34 : i = 34
      · subst i34; rfl
      · rw [if_neg i34, if_neg i34]
        exact spd_o h0 h1 h28
    have T2 : oT m (spd (ua a 26 (a 26 + 1)) (mnD (ua a 26 (a 26 + 1)))) := oT_spd (a := ua a 26 (a 26 + 1)) hT q27 (mnD_le _)
    have D2 : oD (spd (ua a 26 (a 26 + 1)) (mnD (ua a 26 (a 26 + 1)))) := oD_e hD (fun i _ _ => by rw [spd_o (by omega) (by omega) (by omega), ua_n (by omega)]) hD.2.1
    have B2 : oB n (spd (ua a 26 (a 26 + 1)) (mnD (ua a 26 (a 26 + 1)))) w := oB_e hB rfl
    have z27 : spd (ua a 26 (a 26 + 1)) (mnD (ua a 26 (a 26 + 1))) 27 = 0 := q27
    have z34 : spd (ua a 26 (a 26 + 1)) (mnD (ua a 26 (a 26 + 1))) 34 = a 34 := rfl
    rw [← z34] at c2
    generalize spd (ua a 26 (a 26 + 1)) (mnD (ua a 26 (a 26 + 1))) = A at *
    have x1 : C2.1 (15 + 1) 1 = nI (A 1) := c2.1.2.1
    have y1 : M2.1 1 1 = nI (A 1) := g3.1 1 (by decide)
    have y27 : M2.1 1 27 = nI 0 := by rw [g3.1 27 (by decide), z27]
    have T1 := T2.1.2.2.1
    have T0 := T2.1.2.1
    have eA : ∀ ke fu (L k : Int32), ¬ L ≤ k → fX8_advance_27 L ke (fu + 1) M (nI x) k = (if (nI (A 1)) ≤ 0 then ob (fX8_all M2) (fun x_11 => ob (fX8_valueIn x_11 M2) (fun x_12 => fX8_advance_27 L ke fu (sI (sI M2 1 32 ((M2.1 1 32) + (M2.1 1 36))) 1 36 0) (nI x + x_12) (k + 1))) else fX8_advance_27 L ke fu M2 (nI x) (k + 1)) := by
      intro ke fu L k hL
      rw [fX8_advance_27, if_neg hL]
      simp only [ol, oj1]
      rw [eM1, g27, q27, if_neg (show ¬ nI 0 = (1 : Int32) by decide), g2]
      simp only [obV]
      rw [y27, if_neg (show ¬ nI 0 = (1 : Int32) by decide), y1]
    have eP : fX6_passMinute 15 C = (if nI (A 1) = 0 then obS (fX6_loseAll 15 C2) (fun x_4 st_3 => some (x_4, st_3)) else some ((0 : Int32), C2)) := by
      rw [fX6_passMinute]
      simp only [ol]
      rw [eC1, t6, q27, if_pos (show nI 0 = (0 : Int32) from rfl), f1]
      simp only [obV]
      rw [x1]
    by_cases q : A 1 = 0
    · refine ⟨vU w (fun _ => true) n, sI (sI (sI C2 (15 + 13) 3 (C2.1 (15 + 13) 3 + nI n)) (15 + 13) 5 ((sI C2 (15 + 13) 3 (C2.1 (15 + 13) 3 + nI n)).1 (15 + 13) 5 + nI (vU w (fun _ => true) n))) (15 + 8) 0 0, ?_, fun ke fu L k hL => ⟨sI (sI M2 1 32 ((M2.1 1 32) + (M2.1 1 36))) 1 36 0, ?_, ?_⟩⟩
      · rw [eP, q, if_pos (show nI 0 = (0 : Int32) from rfl), fX6_loseAll, fX1_allBlocks]
        simp only [ob]
        rw [qX1_valueIn c2.2.2.2.1 hn, c2.2.2.2.1.1, vU_ext n (fun k hk => all_hb hk hn)]
        simp only [ol, obS]
      · rw [eA ke fu L k hL, q, if_pos (show nI 0 ≤ (0 : Int32) by decide), fX8_all]
        simp only [ob]
        rw [qX8_valueIn g3 hn, g3.2.1, vU_ext n (fun k hk => all_hb hk hn)]
        simp only []
        rw [zadd]
      · have k3 : C2.1 (15 + 13) 3 = nI (A 32) := c2.2.2.2.2.1 3 (by decide)
        have k5 : C2.1 (15 + 13) 5 = nI (A 34 + x) := c2.2.2.2.2.1 5 (by decide)
        have u1 := cS_tot (j := 3) (v := A 32 + n) (x := C2.1 (15 + 13) 3 + nI n) c2 D2.1 (by decide) (by rw [k3, zadd])
        have u2 := cS_tot (j := 5) (v := A 34 + x + vU w (fun _ => true) n) (x := (sI C2 (15 + 13) 3 (C2.1 (15 + 13) 3 + nI n)).1 (15 + 13) 5 + nI (vU w (fun _ => true) n)) u1 D2.1 (by decide) (by rw [sI_r, if_neg (by decide), k5, zadd])
        have u3 := cS_n0 u2
        have v1 := gR_sI (j := 32) (v := A 32 + n) (x := M2.1 1 32 + M2.1 1 36) g3 (by decide) (by rw [g3.1 32 (by decide), g3.2.1, zadd])
        have v2 := gR_n0 v1
        refine ⟨ua A 32 (A 32 + n), 0, w, cS_ea u3 D2.1 (fun i hi => ?_), v2, T2, oD_e D2 (fun i _ _ => ua_n (by omega)) D2.2.1, ⟨by omega, fun k hk => absurd hk (by omega), fun k hk => absurd hk (by omega)⟩, fun i hi => ?_, fun i hi => ?_⟩
        · unfold ua
          by_cases i34 : i = 34
          · subst i34
            show A 34 + (x + vU w (fun _ => true) n) = A 34 + x + vU w (fun _ => true) n
            omega
          · rw [if_neg i34]
            by_cases i32 : i = 32
            · subst i32; rfl
            · rw [if_neg i32, if_neg (by omega), if_neg (by omega), if_neg i34]
        · rw [sI_n (by omega), sI_n (by omega), sI_n (by omega), f3 i (by omega), oc1 i (by omega)]; exact fC i hi
        · rw [sI_n hi, sI_n hi, g4 i hi, og1 i hi]; exact fM i hi
    · refine ⟨0, C2, ?_, fun ke fu L k hL => ⟨M2, ?_, ?_⟩⟩
      · rw [eP, if_neg (show ¬ nI (A 1) = (0 : Int32) from peqn (b := 0) q (by omega) (by decide))]; rfl
      · rw [eA ke fu L k hL, if_neg (show ¬ nI (A 1) ≤ (0 : Int32) from nple (b := 0) (by omega) (by omega))]; rfl
      · exact ⟨A, n, w, c2, g3, T2, D2, B2, fun i hi => by rw [f3 i (by omega), oc1 i (by omega)]; exact fC i hi, fun i hi => by rw [g4 i hi, og1 i hi]; exact fM i hi⟩
end Q14
