/-! PURE PART 22: write, wouldCache: the calls -/
section Q22
variable {m : Nat} {C M st : uSt} {a : Nat → Nat} {n : Nat} {w : Nat → Nat → Nat}
theorem wr_or (hc : cS C.1 15 a n w) (hg : gR ((tC M).1 1) a n w) (hk : oK m a n w) (x y z : Int32) : (∃ e s, ((e = 1 ∧ s = "java/lang/IndexOutOfBoundsException") ∨ (e = 2 ∧ s = "java/lang/IllegalArgumentException") ∨ (e = 3 ∧ s = "java/lang/IllegalStateException")) ∧ fX7_requireWritable x y z C = some (.inr s, C) ∧ fX8_mayWrite x y z (tC M) = some (0, sI (tC M) 0 0 e)) ∨ ∃ k j v, k < a 9 ∧ j < 100 ∧ (1 ≤ v ∧ v ≤ 99) ∧ x = nI k ∧ y = nI j ∧ z = nI v ∧ fX7_requireWritable x y z C = some (.inl (), C) ∧ fX8_mayWrite x y z (tC M) = some (1, tC M) := by
  obtain ⟨hn, h9, hp⟩ := oK_p hk
  have s12 := hk.2.1.2.2.2.2.2.2.2.2.2.2.2.2.1
  rcases plc_or hc hg hk x y with ⟨e1, e2⟩ | ⟨k, j, hk1, hj, rfl, rfl, e0, e1, e2⟩
  · refine Or.inl ⟨1, _, Or.inl ⟨rfl, rfl⟩, ?_, ?_⟩
    · rw [fX7_requireWritable]
      rcases e1 with e1 | ⟨e1, e3⟩
      · rw [e1]; rfl
      · rw [e1]; simp only [ox]; rw [e3]
    · rw [fX8_mayWrite, e2, ob_s, qmay0 (tC_t M) (by decide), obS_s, if_pos rfl]
  · have d4 := hc.2.2.1.2.2 k (by omega)
    have E7 : fX7_requireWritable (nI k) (nI j) z C = (if z < (1 : Int32) then some (.inr "java/lang/IllegalArgumentException", C) else (if z ≤ (99 : Int32) then (if nI (a 27) = 0 then some (.inr "java/lang/IllegalStateException", C) else (if (if (a 25).testBit k then nI 1 else nI 0) = 0 then some (.inl (), C) else some (.inr "java/lang/IllegalStateException", C))) else some (.inr "java/lang/IllegalArgumentException", C))) := by
      rw [fX7_requireWritable, e0]
      simp only [ox]
      rw [e1]
      simp only [oj0]
      rw [hc.2.2.2.2.2.2, zin (by omega) (by omega), zcl (by omega), d4]
      rfl
    have E8 : ∀ b r, fX8_isIn z 1 99 = some b → (if b = 0 then some ((0 : Int32), sI (tC M) 0 0 2) else if nI (a 27) = 1 then (if (a 25).testBit k then some ((0 : Int32), sI (tC M) 0 0 3) else some ((1 : Int32), tC M)) else some ((0 : Int32), sI (tC M) 0 0 3)) = r → (b = 0 ∨ b = 1) → fX8_mayWrite (nI k) (nI j) z (tC M) = r := by
      intro b r hb hr h01
      rw [fX8_mayWrite, e2, ob_s, qmay1 (tC_t M) (by decide), obS_s, if_neg (by decide), hb, ob_s]
      rcases h01 with rfl | rfl
      · rw [qmay0 (tC_t M) (by decide), obS_s, if_pos rfl, ← hr, if_pos rfl]
      · rw [qmay1 (tC_t M) (by decide), obS_s, if_neg (by decide)]
        rw [if_neg (by decide)] at hr
        simp only [oj1, oj0]
        rw [hg.1 27 (by decide), qfail hg (by omega), ob_s, qmay0 (tC_t M) (by decide), qmay1 (tC_t M) (by decide), ← hr]
        simp only [obS, if_true, one0, if_false]
        by_cases q1 : nI (a 27) = 1
        · rw [if_pos q1, if_pos q1]
          cases (a 25).testBit k <;> rfl
        · rw [if_neg q1, if_neg q1]
    have bad2 : (z < 1 ∨ ¬ z ≤ 99) → fX8_isIn z 1 99 = some 0 → ∃ e s, ((e = 1 ∧ s = "java/lang/IndexOutOfBoundsException") ∨ (e = 2 ∧ s = "java/lang/IllegalArgumentException") ∨ (e = 3 ∧ s = "java/lang/IllegalStateException")) ∧ fX7_requireWritable (nI k) (nI j) z C = some (.inr s, C) ∧ fX8_mayWrite (nI k) (nI j) z (tC M) = some (0, sI (tC M) 0 0 e) := by
      intro q e
      refine ⟨2, _, Or.inr (Or.inl ⟨rfl, rfl⟩), ?_, E8 0 _ e (if_pos rfl) (Or.inl rfl)⟩
      rw [E7]
      by_cases q1 : z < 1
      · rw [if_pos q1]
      · rw [if_neg q1, if_neg (by rcases q with q | q; exact absurd q q1; exact q)]
    rcases zn0 z with q | ⟨v, hv, rfl⟩
    · exact Or.inl (bad2 (Or.inl (zneg_lt (k := 1) q (by decide))) (qisIn_lo (zneg_lt (k := 1) q (by decide))))
    · by_cases q1 : v < 1
      · exact Or.inl (bad2 (Or.inl (plt (b := 1) q1 (by decide))) (qisIn_lo (plt (b := 1) q1 (by decide))))
      · by_cases q2 : v ≤ 99
        · have ei : fX8_isIn (nI v) 1 99 = some 1 := qisIn1 (lo := 1) (hi := 99) hv (by omega) q2 (by decide)
          rw [if_neg (show ¬ nI v < (1 : Int32) from nplt (b := 1) (by omega) hv), if_pos (show nI v ≤ (99 : Int32) from ple (b := 99) q2 (by decide))] at E7
          by_cases q3 : a 27 = 0
          · refine Or.inl ⟨3, _, Or.inr (Or.inr ⟨rfl, rfl⟩), by rw [E7, q3, if_pos (show nI 0 = (0 : Int32) from rfl)], E8 1 _ ei ?_ (Or.inr rfl)⟩
            rw [if_neg (by decide), q3, if_neg (show ¬ nI 0 = (1 : Int32) by decide)]
          · have q3 : a 27 = 1 := by omega
            rw [q3, if_neg (show ¬ nI 1 = (0 : Int32) by decide)] at E7
            cases q4 : (a 25).testBit k
            · rw [q4] at E7
              refine Or.inr ⟨k, j, v, hk1, hj, ⟨by omega, q2⟩, rfl, rfl, rfl, by rw [E7]; rfl, E8 1 _ ei ?_ (Or.inr rfl)⟩
              rw [if_neg (by decide), q3, if_pos (show nI 1 = (1 : Int32) from rfl), q4]
              rfl
            · rw [q4] at E7
              refine Or.inl ⟨3, _, Or.inr (Or.inr ⟨rfl, rfl⟩), by rw [E7]; rfl, E8 1 _ ei ?_ (Or.inr rfl)⟩
              rw [if_neg (by decide), q3, if_pos (show nI 1 = (1 : Int32) from rfl), q4]
              rfl
        · exact Or.inl (bad2 (Or.inr (nple (b := 99) (by omega) hv)) (qisInN (lo := 1) (hi := 99) hv (by omega) (by decide)))
theorem cn_one (j : Nat) : ∀ i, cn (pNo (fun k => decide (k = j))) i = if i ≤ j then i else i - 1 := by
  intro i
  induction i with
  | zero => rw [if_pos (by omega)]; rfl
  | succ i ih =>
    have e : (if pNo (fun k => decide (k = j)) i = true then 1 else 0) = if i = j then 0 else 1 := by unfold pNo; by_cases q : i = j <;> simp [q]
    rw [cn, ih, e]
    repeat' split
    all_goals omega
theorem qdrop {c d x j : Nat} (hc : cCa st.1 c n w) (hd : d < 5) (hx : x < 100) (hn : n ≤ 24) (hp : ∀ k, k < n → w 0 k < 500) (hj : j < n) (hix : ixF w (100 * d + x) n 0 = nI j) : ∃ st', fX1_drop c (nI d) (nI x) st = some ((), st') ∧ cCa st'.1 c (n - 1) (wDel j w) ∧ ∀ i, i < c ∨ c + 5 ≤ i → st'.1 i = st.1 i := by
  obtain ⟨S, e1, e2, e3, e4⟩ := qrm ((1 : Int32) <<< (nI j &&& 31)) (fun k => decide (k = j)) hc hn (fun k hk => by rw [zbit (by omega), hb_nI (by omega), Nat.testBit_two_pow]; by_cases q : j = k <;> simp [q]; exact fun h => q h.symm)
  refine ⟨S, ?_, ⟨?_, fun k hk => ?_⟩, e4⟩
  · rw [fX1_drop, qX1_indexOf hc hn hp hd hx, hix, ob_s, if_neg (zneg (by omega)), e1]
    rfl
  · rw [e2, cn_one, if_neg (by omega)]
  · unfold wDel
    by_cases q : k < j
    · have := e3 k (by omega) (by simp; omega)
      rw [cn_one, if_pos (by omega)] at this
      rw [if_pos q, if_pos q, if_pos q]
      exact this
    · have := e3 (k + 1) (by omega) (by simp; omega)
      rw [cn_one, if_neg (by omega), Nat.add_sub_cancel] at this
      rw [if_neg q, if_neg q, if_neg q]
      exact this
theorem oB_del {j : Nat} (h : oB n a w) (hj : j < n) : oB (n - 1) a (wDel j w) := by
  obtain ⟨h1, h2, h3⟩ := h
  have hi := inc_all h3
  refine ⟨by omega, fun k hk => ?_, fun k hk => ?_⟩
  · unfold wDel
    by_cases q : k < j
    · rw [if_pos q, if_pos q]; exact h2 k (by omega)
    · rw [if_neg q, if_neg q]; exact h2 (k + 1) (by omega)
  · unfold wDel
    by_cases q : k + 1 < j
    · rw [if_pos (by omega), if_pos q]; exact hi _ _ (by omega) (by omega)
    · by_cases q2 : k < j
      · rw [if_pos q2, if_neg q]; exact hi _ _ (by omega) (by omega)
      · rw [if_neg q2, if_neg q]; exact hi _ _ (by omega) (by omega)
theorem errB {F : uSt → Option ((Int32 ⊕ String) × uSt)} {L G : uSt → Option (Int32 × uSt)} (h : RR m C M) (hm : m < 512) {e : Int32} {s : String} (hes : (e = 1 ∧ s = "java/lang/IndexOutOfBoundsException") ∨ (e = 2 ∧ s = "java/lang/IllegalArgumentException") ∨ (e = 3 ∧ s = "java/lang/IllegalStateException")) (hF : F C = some (.inr s, C)) (hL : L C = olx (F C) (fun x_1 st_2 => oj1 (fun (v_6 : Int64) => ol (sL st_2 71 0 v_6) (fun st_7 => some ((0 : Int32), st_7))) (fun j_5 => (if x_1 = 0 then (j_5 (0 : Int64)) else (j_5 (1 : Int64))))) (fun E_3 st_2 => if E_3 = "java/lang/IndexOutOfBoundsException" then some ((1 : Int32), st_2) else if E_3 = "java/lang/IllegalArgumentException" then some ((2 : Int32), st_2) else if E_3 = "java/lang/IllegalStateException" then some ((3 : Int32), st_2) else none)) (hG : G M = some (0, sI (tC M) 0 0 e)) : cKB L G (RR (m + 1)) C M := by
  rw [hF] at hL
  simp only [olx] at hL
  rcases hes with ⟨rfl, rfl⟩ | ⟨rfl, rfl⟩ | ⟨rfl, rfl⟩
  · exact endEB h hm (by decide) (by rw [hL, if_pos rfl]) hG
  · exact endEB h hm (by decide) (by rw [hL, if_neg (by decide), if_pos rfl]) hG
  · exact endEB h hm (by decide) (by rw [hL, if_neg (by decide), if_neg (by decide), if_pos rfl]) hG
theorem c_wouldCache (h : RR m C M) (hm : m < 512) (x y z : Int32) : cKB (fL_wouldCache x y z) (fX8_wouldCache x y z) (RR (m + 1)) C M := by
  obtain ⟨a, n, w, hc, hg, hk⟩ := RR_un h
  obtain ⟨hn, h9, hp⟩ := oK_p hk
  rcases wr_or hc hg hk x y z with ⟨e, s, hes, e1, e2⟩ | ⟨k, j, v, hk1, hj, hv, rfl, rfl, rfl, e1, e2⟩
  · refine errB h hm hes (F := fX7_wouldCache x y z) ?_ (by rw [fL_wouldCache]) ?_
    · rw [fX7_wouldCache, e1]; rfl
    · rw [fX8_wouldCache, ol_tC, e2, obS_s, if_pos rfl]
  · obtain ⟨M1, g1, g2, g3⟩ := l_would20 (l1 := nI k) (l2 := nI j) (l3 := nI v) (fun st_7 => obS (fX8_lays (nI k) (nI j) (nI v) st_7) (fun x_9 st_8 => fX8_wouldCache_59 x_9 (fun st_14 => og (isB x_9) (some (x_9, st_14))) FU st_8 (0 : Int32))) 109 0 FU (tC M) (by omega) (FU_lt (by omega))
    have hM1 : gR (M1.1 1) a n w := by rw [g3 1 (by decide)]; exact hg
    obtain ⟨r, C', M2, r01, f1, f2, f3, f4, -⟩ := lays_both hc hM1 hk hk1 hj hv
    obtain ⟨M3, o1, o2, o3⟩ := l_would59 (l4 := r) (fun st_14 => og (isB r) (some (r, st_14))) 109 0 FU M2 (by omega) (FU_lt (by omega))
    have ir : isB r = true := by rcases r01 with rfl | rfl <;> decide
    refine endGB (C' := C') (M' := M3) (v := r) ?_ ?_ ?_ ?_
    · rw [fL_wouldCache, fX7_wouldCache, e1]
      simp only [ox]
      rw [f1, obS_s, ir, og_t]
      simp only [olx, oj1, ol]
      split <;> rfl
    · rw [fX8_wouldCache, ol_tC, e2, obS_s, if_neg (by decide)]
      refine g1.trans ?_
      rw [f3, obS_s]
      refine o1.trans ?_
      rw [ir, og_t]
    · rw [o3 0 (by decide), f4 0 (by decide), g3 0 (by decide)]; exact tC_t M
    · refine RR_now h hm ⟨a, n, w, cS_fr hc (fun i h1 _ => f2 i (by omega)), gR_cp hg hn (fun i hi => ?_), oK_mono hk (Nat.le_succ m) hm⟩ (fun i hi => f2 i (by omega)) (fun i i1 _ i4 => by rw [o3 i i1, f4 i i1, g3 i i4])
      rw [o2 i hi, if_pos (by omega), f4 4 (by decide), g2 i hi, if_pos (by omega)]
theorem c_write (h : RR m C M) (hm : m < 512) (x y z : Int32) : cKB (fL_write x y z) (fX8_write x y z) (RR (m + 1)) C M := by
  obtain ⟨a, n, w, hc, hg, hk⟩ := RR_un h
  obtain ⟨hn, h9, hp⟩ := oK_p hk
  rcases wr_or hc hg hk x y z with ⟨e, s, hes, e1, e2⟩ | ⟨k, j, v, hk1, hj, hv, rfl, rfl, rfl, e1, e2⟩
  · refine errB h hm hes (F := fX7_write x y z) ?_ (by rw [fL_write]) ?_
    · rw [fX7_write, e1]; rfl
    · rw [fX8_write, ol_tC, e2, obS_s, if_pos rfl]
  · obtain ⟨r, C1, M1, r01, f1, f2, f3, f4, f5⟩ := lays_both hc hg hk hk1 hj hv
    have c1 : cS C1.1 15 a n w := cS_fr hc (fun i h1 _ => f2 i (by omega))
    have hd5 : k < 5 := by omega
    have E8 : fX8_write (nI k) (nI j) (nI v) M = ob (fX8_blockAt (nI k) (nI j) M1) (fun x_7 => oj1 (fun (st_10 : uSt) => oj1 (fun (v_12 : Int32) => og (inB ((29 : Int32) + v_12) 109) (og (inB ((29 : Int32) + v_12) 109) (ol (sI st_10 1 ((29 : Int32) + v_12).toNatClampNeg ((st_10.1 1 ((29 : Int32) + v_12).toNatClampNeg) + (1 : Int32))) (fun st_13 => og (isB r) (some (r, st_13)))))) (fun j_11 => (if r = 0 then (j_11 (1 : Int32)) else (j_11 (0 : Int32))))) (fun j_9 => (if r = 0 then (if x_7 = (-1 : Int32) then (j_9 M1) else obV (fX8_goes x_7 M1) (fun st_14 => (j_9 st_14))) else (j_9 M1)))) := by
      rw [fX8_write, ol_tC, e2, obS_s, if_neg (by decide), f3, obS_s]
    have E7 : fX7_write (nI k) (nI j) (nI v) C = (if r = 0 then obV (fX1_drop (15 + 8) (nI k) (nI j) C1) (fun st_6 => ol (sI st_6 (15 + 13) 1 ((st_6.1 (15 + 13) 1) + (1 : Int32))) (fun st_7 => og (isB r) (some (.inl r, st_7)))) else obV (fX1_put (15 + 8) (nI k) (nI j) (nI v) (C1.1 15 5) C1) (fun st_8 => ol (sI st_8 (15 + 13) 0 ((st_8.1 (15 + 13) 0) + (1 : Int32))) (fun st_9 => og (isB r) (some (.inl r, st_9))))) := by
      rw [fX7_write, e1]
      simp only [ox]
      rw [f1, obS_s]
    have F1 : ∀ i, i < 5 ∨ 29 ≤ i → C1.1 i = C.1 i := fun i hi => f2 i (by omega)
    -- the common end: a total grows
    have fin : ∀ (t : Nat) (C2 M2 : uSt) (n' : Nat) (w' : Nat → Nat → Nat), t ≤ 1 → cS C2.1 15 a n' w' → gR (M2.1 1) a n' w' → oB n' a w' → (∀ i, i < 5 ∨ 29 ≤ i → C2.1 i = C1.1 i) → (∀ i, i ≠ 1 → M2.1 i = M1.1 i) → fX7_write (nI k) (nI j) (nI v) C = some (.inl r, sI C2 (15 + 13) t ((C2.1 (15 + 13) t) + (1 : Int32))) → fX8_write (nI k) (nI j) (nI v) M = some (r, sI M2 1 (29 + t) ((M2.1 1 (29 + t)) + (1 : Int32))) → cKB (fL_write (nI k) (nI j) (nI v)) (fX8_write (nI k) (nI j) (nI v)) (RR (m + 1)) C M := by
      intro t C2 M2 n' w' ht c2 g2 b2 o1 o2 k7 k8
      have tt : C2.1 (15 + 13) t = nI (a (29 + t)) := c2.2.2.2.2.1 t (by omega)
      have c3 := cS_tot (j := t) (v := a (29 + t) + 1) (x := C2.1 (15 + 13) t + 1) c2 h9 (by omega) (by rw [tt]; exact zinc _)
      have g3 := gR_sI (j := 29 + t) (v := a (29 + t) + 1) (x := M2.1 1 (29 + t) + 1) g2 (by omega) (by rw [g2.1 (29 + t) (by omega)]; exact zinc _)
      have K : oK (m + 1) a n' w' := ⟨hm, (oK_mono hk (Nat.le_succ m) hm).2.1, hk.2.2.1, b2⟩
      refine endGB (C' := sI C2 (15 + 13) t ((C2.1 (15 + 13) t) + (1 : Int32))) (M' := sI M2 1 (29 + t) ((M2.1 1 (29 + t)) + (1 : Int32))) (v := r) ?_ k8 ?_ ?_
      · rw [fL_write, k7]
        simp only [olx, oj1, ol]
        split <;> rfl
      · rw [sI_n (by decide), o2 0 (by decide), f4 0 (by decide)]; exact tC_t M
      · exact RR_now h hm ⟨_, _, _, c3, g3, oK_tot K⟩ (fun i hi => by rw [sI_n (by omega), o1 i hi, F1 i hi]) (fun i i1 _ _ => by rw [sI_n i1, o2 i i1, f4 i i1])
    rcases f5 with ⟨rfl, g5⟩ | ⟨rfl, f5⟩
    · rw [qX8_blockAt g5 hn hp hd5 hj, ob_s] at E8
      simp only [oj1, if_true] at E8
      rw [if_pos rfl] at E7
      rcases ixF_or w (100 * k + j) n 0 with ⟨i, -, i2, i3, i4, i5⟩ | ⟨i1, i2⟩
      · have i2 : i < n := by omega
        obtain ⟨C2, p1, p2, p3⟩ := qdrop c1.2.2.2.1 hd5 hj hn hp i2 i3
        obtain ⟨M2, o1, o2, o3⟩ := qgoes g5 hn i2
        rw [p1, obV_st, ol_e, isB0, og_t] at E7
        rw [i3, if_neg (zneg (by omega)), o1] at E8
        exact fin 1 C2 M2 (n - 1) (wDel i w) (Nat.le_refl _) (cS_ca c1 p2 p3) o2 (oB_del hk.2.2.2 i2) (fun i hi => p3 i (by omega)) o3 E7 E8
      · rw [show fX1_drop (15 + 8) (nI k) (nI j) C1 = some ((), C1) by rw [fX1_drop, qX1_indexOf c1.2.2.2.1 hn hp hd5 hj, i1, ob_s, if_pos rfl], obV_st, ol_e, isB0, og_t] at E7
        rw [i1, if_pos rfl] at E8
        exact fin 1 C1 M1 n w (Nat.le_refl _) c1 g5 hk.2.2.2 (fun _ _ => rfl) (fun _ _ => rfl) E7 E8
    · rw [if_neg (by decide), show C1.1 15 5 = nI (a 26) from c1.2.2.2.2.2.1] at E7
      have E8' : fX8_write (nI k) (nI j) (nI v) M = some (1, sI M1 1 29 ((M1.1 1 29) + (1 : Int32))) → fX8_write (nI k) (nI j) (nI v) M = some (1, sI M1 1 (29 + 0) ((M1.1 1 (29 + 0)) + (1 : Int32))) := id
      rcases f5 with ⟨i1, i2, i3, g5⟩ | ⟨i, i2, i3, g5⟩
      · have hp' : ∀ q, q < n + 1 → wIns (insP w (100 * k + j) n) (nwB (100 * k + j) v (a 26)) w 0 q < 500 := fun q hq => by
          have := ((oB_ins (pl := 100 * k + j) (v := v) (tm := a 26) hk.2.2.2 i3 (by omega) hv i2).2.1 q hq).1
          omega
        rw [qX8_blockAt g5 (by omega) hp' hd5 hj, ob_s] at E8
        simp only [oj1] at E8
        rw [if_neg (by decide), if_neg (by decide)] at E8
        obtain ⟨C2, p1, p2, p3⟩ := qput (v := v) (tm := a 26) c1.2.2.2.1 hd5 hj i3 hp i1
        rw [p1, obV_st, ol_e, isB1, og_t] at E7
        exact fin 0 C2 M1 (n + 1) _ (by omega) (cS_ca c1 p2 p3) g5 (oB_ins hk.2.2.2 i3 (by omega) hv i2) (fun i hi => p3 i (by omega)) (fun _ _ => rfl) E7 E8
      · have hp' : ∀ q, q < n → wUpd i v w 0 q < 500 := fun q hq => by
          unfold wUpd
          rw [if_neg (by omega)]
          exact hp q hq
        rw [qX8_blockAt g5 hn hp' hd5 hj, ob_s] at E8
        simp only [oj1] at E8
        rw [if_neg (by decide), if_neg (by decide)] at E8
        obtain ⟨C2, p1, p2, p3⟩ := qput_k (v := v) (tm := a 26) c1.2.2.2.1 hd5 hj hn hp i2 i3
        rw [p1, obV_st, ol_e, isB1, og_t] at E7
        exact fin 0 C2 M1 n _ (by omega) (cS_ca c1 p2 p3) g5 (oB_upd hk.2.2.2 hv) (fun i hi => p3 i (by omega)) (fun _ _ => rfl) E7 E8
end Q22
