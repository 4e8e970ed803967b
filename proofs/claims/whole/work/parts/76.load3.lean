/-! PURE PART 46: load -/
section Q46
variable {m : Nat} {C M : uSt}
theorem l71 (ke : uSt → Option ((Int32 ⊕ String) × uSt)) (st : uSt) : ∃ st', fX7_load_71 ke FU st 0 = ke st' ∧ (∀ j, j < 2 → st'.1 4 j = 0) ∧ ∀ i, i ≠ 4 → st'.1 i = st.1 i := by
  refine ⟨sI (sI st 4 0 0) 4 1 0, ?_, fun j hj => ?_, fun i hi => by rw [sI_n hi, sI_n hi]⟩
  · rw [show FU = 4997 + 1 + 1 + 1 from rfl, show (0 : Int32) = nI 0 from rfl, fX7_load_71, if_neg (by decide), zin (by decide) (by decide), zcl (by decide), og_t, ol_e, ol_e, zinc, fX7_load_71, if_neg (by decide), zin (by decide) (by decide), zcl (by decide), og_t, ol_e, ol_e, zinc, fX7_load_71, if_pos (by decide)]
    rfl
  · rw [sI_r, sI_r]
    rcases (show j = 0 ∨ j = 1 by omega) with rfl | rfl <;> rfl
theorem c_load (h : RR m C M) (hm : m < 512) : cKI fL_load fX8_load (RR (m + 1)) C M := by
  obtain ⟨L, hL, t1, t2, t3⟩ := h.2.2.1
  obtain ⟨b, hb⟩ : ∃ b : Nat → Nat, ∀ k, k < L → b k < 256 ∧ C.1 2 k = sB (b k) ∧ M.1 6 k = nI (b k) :=
    ⟨fun k => if hk : k < L then Classical.choose (t3 k hk) else 0, fun k hk => by simp only [hk, dite_true]; exact Classical.choose_spec (t3 k hk)⟩
  obtain ⟨T1, p1, p2, p3⟩ := qplain (sI (sI (sI (sI (sI (tC M) 0 8 (nI L)) 0 7 0) 0 9 0) 0 13 0) 0 14 (-1))
  have T0o : ∀ i, i ≠ 0 → i ≠ 2 → T1.1 i = M.1 i := fun i a c => by rw [p3 i c, sI_n a, sI_n a, sI_n a, sI_n a, sI_n a, tC_n M a]
  have T00 : T1.1 0 = (sI (sI (sI (sI (sI (tC M) 0 8 (nI L)) 0 7 0) 0 9 0) 0 13 0) 0 14 (-1)).1 0 := p3 0 (by decide)
  obtain ⟨C4, M4, r1, r2, r3, r4, r5, r6, r7, r8, r9, r10⟩ := read_both (b := b) hL t1 hb T1 (by rw [T00]; rfl) (by rw [T00]; rfl) (by rw [T00]; rfl) (by rw [T00]; rfl) (T0o 6 (by decide) (by decide)) p2 keL
  have t00 : T1.1 0 0 = 0 := by rw [T00, sI_r, if_neg (by decide), sI_r, if_neg (by decide), sI_r, if_neg (by decide), sI_r, if_neg (by decide), sI_r, if_neg (by decide)]; exact tC_t M
  have t07 : T1.1 0 7 = nI 0 := by rw [T00]; rfl
  have E8 : fX8_load M = keL M4 := by
    have q : (tC M).1 0 7 = nI L := by rw [tC_f M (by decide)]; exact t2
    rw [fX8_load, ol_tC, q, ol_e, ol_e, ol_e, ol_e, ol_e, p1, obV_st]
    exact r2
  have fM4 : ∀ i, i ≠ 0 → i ≠ 2 → M4.1 i = M.1 i := fun i a c => by rw [r6 i a c, T0o i a c]
  rcases r3 with g | g
  · obtain ⟨ht, h2, h13, h3, h14, s, e, kd, g1, g2, g3, g4, g5, g6, g7, g8, g9, -⟩ := id g
    by_cases qk : kd = 0
    · sorry
    · obtain ⟨C5, M5, u1, u2, u3, u4, u5⟩ := ref_G (c := 1) ⟨by decide, by decide⟩ g
      have u1 : fX5_refuse 1 C4 = some ((), C5) := u1
      have u2 : fX8_fails 1 M4 = some ((), M5) := u2
      have nk : ¬ nI kd = (0 : Int32) := peqn (b := 0) qk (by omega) (by decide)
      have k5 := keL_E u3 (by rw [u5.2.1, r7]; exact t00)
      refine load_E h hm u3 (r1 _ (by rw [g7, if_neg nk, u1, obV_st])) ?_ (fun i a c => by rw [u4.1 i a, r4 i a c]) (by rw [u4.1 30 (by decide), r5 5 (by decide)]) (fun i a c => by rw [u5.1 i a, fM4 i a c]) (by rw [u5.2.2.1, r8]; exact t07)
      rw [E8, ← k5]
      unfold keL
      rw [right_G g, ob_s, oj1_e, if_pos rfl, g8, if_neg nk, u2, obV_st, wrong_E u3, ob_s, oj1_e, if_neg (by decide)]
  · obtain ⟨C5, u1, u2, u3, u4⟩ := ref_E (c := 1) g
    have k4 : C4.1 1 4 = nI 4 := by obtain ⟨_, _, _, _, _, _, _, _, q⟩ := g; exact q
    exact load_E h hm u3 (r1 _ (by rw [k4, if_neg (by decide), u1, obV_st])) (by rw [E8]; exact keL_E u3 (by rw [r7]; exact t00)) (fun i a c => by rw [u4.1 i a, r4 i a c]) (by rw [u4.1 30 (by decide), r5 5 (by decide)]) fM4 (by rw [r8]; exact t07)
end Q46
