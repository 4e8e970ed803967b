/-! PURE PART 36: the two readers: a token -/
def bLe (x : Nat) : Bool := decide (97 ≤ x) && decide (x ≤ 122)
def bDi (x : Nat) : Bool := decide (48 ≤ x) && decide (x ≤ 57)
def bBl (x : Nat) : Bool := decide (x = 10) || decide (x = 32)
theorem by_tab : ((List.range 256).all fun x => decide (fX5_isBlank (sB x) = some (if bBl x then 1 else 0) ∧ fX5_isLetter (sB x) = some (if bLe x then 1 else 0) ∧ fX5_isDigit (sB x) = some (if bDi x then 1 else 0) ∧ fX8_isLetter (nI x) = some (if bLe x then 1 else 0) ∧ fX8_isDigit (nI x) = some (if bDi x then 1 else 0) ∧ (bBl x = true ↔ (nI x = 10 ∨ nI x = 32)) ∧ (sB x = 59 ↔ nI x = 59) ∧ ¬ nI x = -1 ∧ (x < 128 → sB x = nI x) ∧ (128 ≤ x → sB x < 0))) = true := by decide +kernel
theorem by_b {x : Nat} (h : x < 256) : fX5_isBlank (sB x) = some (if bBl x then 1 else 0) ∧ fX5_isLetter (sB x) = some (if bLe x then 1 else 0) ∧ fX5_isDigit (sB x) = some (if bDi x then 1 else 0) ∧ fX8_isLetter (nI x) = some (if bLe x then 1 else 0) ∧ fX8_isDigit (nI x) = some (if bDi x then 1 else 0) ∧ (bBl x = true ↔ (nI x = 10 ∨ nI x = 32)) ∧ (sB x = 59 ↔ nI x = 59) ∧ ¬ nI x = -1 ∧ (x < 128 → sB x = nI x) ∧ (128 ≤ x → sB x < 0) := of_decide_eq_true (List.all_eq_true.mp by_tab x (List.mem_range.mpr h))
def tx (b : Nat → Nat) (L : Nat) (C M : uSt) : Prop := L ≤ 400 ∧ C.1 1 1 = nI L ∧ M.1 0 8 = nI L ∧ ∀ k, k < L → b k < 256 ∧ C.1 2 k = sB (b k) ∧ M.1 6 k = nI (b k)
def cF (C C' : uSt) : Prop := (∀ i, i ≠ 1 → C'.1 i = C.1 i) ∧ C'.1 1 1 = C.1 1 1
def mF (M M' : uSt) : Prop := (∀ i, i ≠ 0 → M'.1 i = M.1 i) ∧ M'.1 0 0 = M.1 0 0 ∧ M'.1 0 7 = M.1 0 7 ∧ M'.1 0 8 = M.1 0 8
theorem tx_fr {b : Nat → Nat} {L : Nat} {C M C' M' : uSt} (h : tx b L C M) (hc : cF C C') (hm : mF M M') : tx b L C' M' := by
  unfold tx
  rw [hc.2, hc.1 2 (by decide), hm.2.2.2, hm.1 6 (by decide)]
  exact h
def scn (f : Nat → Bool) : Nat → Nat → Nat
  | 0, i => i
  | j + 1, i => if f i then scn f j (i + 1) else i
theorem scn_ok (f : Nat → Bool) : ∀ j i, i ≤ scn f j i ∧ scn f j i ≤ i + j ∧ ∀ k, i ≤ k → k < scn f j i → f k = true := by
  intro j
  induction j with
  | zero => intro i; exact ⟨Nat.le_refl _, Nat.le_refl _, fun k h1 h2 => absurd h2 (by show ¬ k < i; omega)⟩
  | succ j ih =>
    intro i
    rw [scn]
    by_cases q : f i = true
    · rw [if_pos q]
      obtain ⟨h1, h2, h3⟩ := ih (i + 1)
      refine ⟨by omega, by omega, fun k h4 h5 => ?_⟩
      by_cases e : k = i
      · rw [e]; exact q
      · exact h3 k (by omega) h5
    · rw [if_neg q]
      exact ⟨Nat.le_refl _, by omega, fun k h1 h2 => absurd h2 (by omega)⟩
section Q36
variable {b : Nat → Nat} {L : Nat} {C M : uSt}
theorem r8_l (ke : uSt → Option (Unit × uSt)) : ∀ j i fu (C : uSt), tx b L C M → i + j = L → j < fu → C.1 1 5 = nI i → ∃ C', fX5_readToken_8 ke fu C = ke C' ∧ C'.1 1 5 = nI (scn (fun k => bBl (b k)) j i) ∧ (∀ q, q ≠ 5 → C'.1 1 q = C.1 1 q) ∧ ∀ q, q ≠ 1 → C'.1 q = C.1 q := by
  intro j
  induction j with
  | zero =>
    intro i fu C ht hi hf h
    obtain ⟨fu, rfl⟩ : ∃ x, fu = x + 1 := ⟨fu - 1, by omega⟩
    refine ⟨C, ?_, h, fun _ _ => rfl, fun _ _ => rfl⟩
    rw [fX5_readToken_8, ht.2.1, h, if_pos (ple (by omega) (by have := ht.1; omega))]
  | succ j ih =>
    intro i fu C ht hi hf h
    obtain ⟨fu, rfl⟩ : ∃ x, fu = x + 1 := ⟨fu - 1, by omega⟩
    have hL := ht.1
    obtain ⟨b1, b2, b3⟩ := ht.2.2.2 i (by omega)
    rw [fX5_readToken_8, ht.2.1, h, if_neg (nple (by omega) (by omega)), zin (by omega) (by omega), zcl (by omega), og_t, b2, (by_b b1).1, ob_s, scn]
    by_cases q : bBl (b i) = true
    · rw [if_pos q, if_neg (by decide), ol_e, zinc]
      obtain ⟨C', e1, e2, e3, e4⟩ := ih (i + 1) fu (sI C 1 5 (nI (i + 1))) ⟨hL, by rw [sI_r, if_neg (by decide)]; exact ht.2.1, ht.2.2.1, fun k hk => by rw [sI_n (by decide)]; exact ht.2.2.2 k hk⟩ (by omega) (by omega) (by rw [sI_r, if_pos rfl])
      refine ⟨C', e1, by rw [if_pos q]; exact e2, fun p hp => by rw [e3 p hp, sI_r, if_neg hp], fun p hp => by rw [e4 p hp, sI_n hp]⟩
    · rw [if_neg q, if_pos rfl]
      exact ⟨C, rfl, by rw [if_neg q]; exact h, fun _ _ => rfl, fun _ _ => rfl⟩
theorem r94_l (ke : uSt → Option (Unit × uSt)) : ∀ j i fu (C : uSt), tx b L C M → i + j = L → j < fu → C.1 1 6 = nI i → ∃ C', fX5_readToken_94 ke fu C = ke C' ∧ C'.1 1 6 = nI (scn (fun k => bLe (b k)) j i) ∧ (∀ q, q ≠ 6 → C'.1 1 q = C.1 1 q) ∧ ∀ q, q ≠ 1 → C'.1 q = C.1 q := by
  intro j
  induction j with
  | zero =>
    intro i fu C ht hi hf h
    obtain ⟨fu, rfl⟩ : ∃ x, fu = x + 1 := ⟨fu - 1, by omega⟩
    refine ⟨C, ?_, h, fun _ _ => rfl, fun _ _ => rfl⟩
    rw [fX5_readToken_94, ht.2.1, h, if_pos (ple (by omega) (by have := ht.1; omega))]
  | succ j ih =>
    intro i fu C ht hi hf h
    obtain ⟨fu, rfl⟩ : ∃ x, fu = x + 1 := ⟨fu - 1, by omega⟩
    have hL := ht.1
    obtain ⟨b1, b2, b3⟩ := ht.2.2.2 i (by omega)
    rw [fX5_readToken_94, ht.2.1, h, if_neg (nple (by omega) (by omega)), zin (by omega) (by omega), zcl (by omega), og_t, b2, (by_b b1).2.1, ob_s, scn]
    by_cases q : bLe (b i) = true
    · rw [if_pos q, if_neg (by decide), ol_e, zinc]
      obtain ⟨C', e1, e2, e3, e4⟩ := ih (i + 1) fu (sI C 1 6 (nI (i + 1))) ⟨hL, by rw [sI_r, if_neg (by decide)]; exact ht.2.1, ht.2.2.1, fun k hk => by rw [sI_n (by decide)]; exact ht.2.2.2 k hk⟩ (by omega) (by omega) (by rw [sI_r, if_pos rfl])
      refine ⟨C', e1, by rw [if_pos q]; exact e2, fun p hp => by rw [e3 p hp, sI_r, if_neg hp], fun p hp => by rw [e4 p hp, sI_n hp]⟩
    · rw [if_neg q, if_pos rfl]
      exact ⟨C, rfl, by rw [if_neg q]; exact h, fun _ _ => rfl, fun _ _ => rfl⟩
theorem r148_l (ke : uSt → Option (Unit × uSt)) : ∀ j i fu (C : uSt), tx b L C M → i + j = L → j < fu → C.1 1 6 = nI i → ∃ C', fX5_readToken_148 ke fu C = ke C' ∧ C'.1 1 6 = nI (scn (fun k => bDi (b k)) j i) ∧ (∀ q, q ≠ 6 → C'.1 1 q = C.1 1 q) ∧ ∀ q, q ≠ 1 → C'.1 q = C.1 q := by
  intro j
  induction j with
  | zero =>
    intro i fu C ht hi hf h
    obtain ⟨fu, rfl⟩ : ∃ x, fu = x + 1 := ⟨fu - 1, by omega⟩
    refine ⟨C, ?_, h, fun _ _ => rfl, fun _ _ => rfl⟩
    rw [fX5_readToken_148, ht.2.1, h, if_pos (ple (by omega) (by have := ht.1; omega))]
  | succ j ih =>
    intro i fu C ht hi hf h
    obtain ⟨fu, rfl⟩ : ∃ x, fu = x + 1 := ⟨fu - 1, by omega⟩
    have hL := ht.1
    obtain ⟨b1, b2, b3⟩ := ht.2.2.2 i (by omega)
    rw [fX5_readToken_148, ht.2.1, h, if_neg (nple (by omega) (by omega)), zin (by omega) (by omega), zcl (by omega), og_t, b2, (by_b b1).2.2.1, ob_s, scn]
    by_cases q : bDi (b i) = true
    · rw [if_pos q, if_neg (by decide), ol_e, zinc]
      obtain ⟨C', e1, e2, e3, e4⟩ := ih (i + 1) fu (sI C 1 6 (nI (i + 1))) ⟨hL, by rw [sI_r, if_neg (by decide)]; exact ht.2.1, ht.2.2.1, fun k hk => by rw [sI_n (by decide)]; exact ht.2.2.2 k hk⟩ (by omega) (by omega) (by rw [sI_r, if_pos rfl])
      refine ⟨C', e1, by rw [if_pos q]; exact e2, fun p hp => by rw [e3 p hp, sI_r, if_neg hp], fun p hp => by rw [e4 p hp, sI_n hp]⟩
    · rw [if_neg q, if_pos rfl]
      exact ⟨C, rfl, by rw [if_neg q]; exact h, fun _ _ => rfl, fun _ _ => rfl⟩
/-! the reference -/
theorem qat (ht : tx b L C M) {i : Nat} (hi : i ≤ 1000) : fX8_at (nI i) M = some (if i < L then nI (b i) else -1) := by
  have hL := ht.1
  rw [fX8_at, ht.2.2.1]
  by_cases q : i < L
  · rw [if_neg (nple q (by omega)), zin (by omega) (by omega), zcl (by omega), og_t, (ht.2.2.2 i q).2.2, if_pos q]
  · rw [if_pos (ple (by omega) (by omega)), if_neg q]
theorem tx_9 (ht : tx b L C M) {j : Nat} {v : Int32} (h : j ≠ 8) : tx b L C (sI M 0 j v) := ⟨ht.1, ht.2.1, by rw [sI_r, if_neg (fun e => h e.symm)]; exact ht.2.2.1, fun k hk => by rw [sI_n (by decide)]; exact ht.2.2.2 k hk⟩
theorem t0_l (ke : uSt → Option (Unit × uSt)) : ∀ j i fu (M : uSt), tx b L C M → i + j = L → j < fu → M.1 0 9 = nI i → ∃ M', fX8_token_0 ke fu M = ke M' ∧ M'.1 0 9 = nI (scn (fun k => bBl (b k)) j i) ∧ (∀ q, q ≠ 9 → M'.1 0 q = M.1 0 q) ∧ ∀ q, q ≠ 0 → M'.1 q = M.1 q := by
  intro j
  induction j with
  | zero =>
    intro i fu M ht hi hf h
    obtain ⟨fu, rfl⟩ : ∃ x, fu = x + 1 := ⟨fu - 1, by omega⟩
    have hL := ht.1
    refine ⟨M, ?_, h, fun _ _ => rfl, fun _ _ => rfl⟩
    rw [fX8_token_0, h, qat ht (by omega), if_neg (by omega), ob_s, oj0_e, if_neg (by decide), ob_s, if_neg (by decide)]
  | succ j ih =>
    intro i fu M ht hi hf h
    obtain ⟨fu, rfl⟩ : ∃ x, fu = x + 1 := ⟨fu - 1, by omega⟩
    have hL := ht.1
    obtain ⟨b1, b2, b3⟩ := ht.2.2.2 i (by omega)
    have hbl := (by_b b1).2.2.2.2.2.1
    rw [fX8_token_0, h, qat ht (by omega), if_pos (by omega), ob_s, oj0_e, ob_s, ol_e, zinc, scn]
    by_cases q : bBl (b i) = true
    · obtain ⟨M', e1, e2, e3, e4⟩ := ih (i + 1) fu (sI M 0 9 (nI (i + 1))) (tx_9 ht (by decide)) (by omega) (by omega) (by rw [sI_r, if_pos rfl])
      refine ⟨M', ?_, by rw [if_pos q]; exact e2, fun p hp => by rw [e3 p hp, sI_r, if_neg hp], fun p hp => by rw [e4 p hp, sI_n hp]⟩
      rcases hbl.mp q with q1 | q1
      · rw [if_pos q1]; exact e1
      · by_cases q2 : nI (b i) = 10
        · rw [if_pos q2]; exact e1
        · rw [if_neg q2, if_pos q1]; exact e1
    · refine ⟨M, ?_, by rw [if_neg q]; exact h, fun _ _ => rfl, fun _ _ => rfl⟩
      rw [if_neg (fun e => q (hbl.mpr (Or.inl e))), if_neg (fun e => q (hbl.mpr (Or.inr e)))]
theorem t76_l (ke : uSt → Option (Unit × uSt)) : ∀ j i fu (M : uSt), tx b L C M → i + j = L → j < fu → M.1 0 9 = nI i → ∃ M', fX8_token_76 ke fu M = ke M' ∧ M'.1 0 9 = nI (scn (fun k => bLe (b k)) j i) ∧ (∀ q, q ≠ 9 → M'.1 0 q = M.1 0 q) ∧ ∀ q, q ≠ 0 → M'.1 q = M.1 q := by
  intro j
  induction j with
  | zero =>
    intro i fu M ht hi hf h
    obtain ⟨fu, rfl⟩ : ∃ x, fu = x + 1 := ⟨fu - 1, by omega⟩
    have hL := ht.1
    refine ⟨M, ?_, h, fun _ _ => rfl, fun _ _ => rfl⟩
    rw [fX8_token_76, h, qat ht (by omega), if_neg (by omega), ob_s, show fX8_isLetter (-1) = some 0 by decide, ob_s, if_pos rfl]
  | succ j ih =>
    intro i fu M ht hi hf h
    obtain ⟨fu, rfl⟩ : ∃ x, fu = x + 1 := ⟨fu - 1, by omega⟩
    have hL := ht.1
    obtain ⟨b1, b2, b3⟩ := ht.2.2.2 i (by omega)
    rw [fX8_token_76, h, qat ht (by omega), if_pos (by omega), ob_s, (by_b b1).2.2.2.1, ob_s, ol_e, zinc, scn]
    by_cases q : bLe (b i) = true
    · obtain ⟨M', e1, e2, e3, e4⟩ := ih (i + 1) fu (sI M 0 9 (nI (i + 1))) (tx_9 ht (by decide)) (by omega) (by omega) (by rw [sI_r, if_pos rfl])
      refine ⟨M', ?_, by rw [if_pos q]; exact e2, fun p hp => by rw [e3 p hp, sI_r, if_neg hp], fun p hp => by rw [e4 p hp, sI_n hp]⟩
      rw [if_pos q, if_neg (by decide)]; exact e1
    · refine ⟨M, ?_, by rw [if_neg q]; exact h, fun _ _ => rfl, fun _ _ => rfl⟩
      rw [if_neg q, if_pos rfl]
/-- the number that the first digits say -/
def nm (b : Nat → Nat) (s : Nat) : Nat → Nat
  | 0 => 0
  | k + 1 => 10 * nm b s k + (b (s + k) - 48)
theorem t123_l {s : Nat} (ke : uSt → Option (Unit × uSt)) : ∀ j i fu (M : uSt), tx b L C M → i + j = L → j < fu → s ≤ i → M.1 0 9 = nI i → M.1 0 10 = nI s → M.1 0 12 = nI (nm b s (min (i - s) 4)) → ∃ M', fX8_token_123 ke fu M = ke M' ∧ M'.1 0 9 = nI (scn (fun k => bDi (b k)) j i) ∧ M'.1 0 12 = nI (nm b s (min (scn (fun k => bDi (b k)) j i - s) 4)) ∧ (∀ q, q ≠ 9 → q ≠ 12 → M'.1 0 q = M.1 0 q) ∧ ∀ q, q ≠ 0 → M'.1 q = M.1 q := by
  intro j
  induction j with
  | zero =>
    intro i fu M ht hi hf hs h h10 h12
    obtain ⟨fu, rfl⟩ : ∃ x, fu = x + 1 := ⟨fu - 1, by omega⟩
    have hL := ht.1
    refine ⟨M, ?_, h, h12, fun _ _ _ => rfl, fun _ _ => rfl⟩
    rw [fX8_token_123, h, qat ht (by omega), if_neg (by omega), ob_s, show fX8_isDigit (-1) = some 0 by decide, ob_s, if_pos rfl]
  | succ j ih =>
    intro i fu M ht hi hf hs h h10 h12
    obtain ⟨fu, rfl⟩ : ∃ x, fu = x + 1 := ⟨fu - 1, by omega⟩
    have hL := ht.1
    obtain ⟨b1, b2, b3⟩ := ht.2.2.2 i (by omega)
    rw [fX8_token_123, h, qat ht (by omega), if_pos (by omega), ob_s, (by_b b1).2.2.2.2.1, ob_s, oj1_e, h10, zsub hs, scn]
    by_cases q : bDi (b i) = true
    · have hd : 48 ≤ b i ∧ b i ≤ 57 := by unfold bDi at q; simpa using q
      rw [if_pos q, if_pos q, if_neg (by decide)]
      by_cases q4 : 4 ≤ i - s
      · obtain ⟨M', e1, e2, e3, e4, e5⟩ := ih (i + 1) fu (sI M 0 9 (nI (i + 1))) (tx_9 ht (by decide)) (by omega) (by omega) (by omega) (by rw [sI_r, if_pos rfl]) (by rw [sI_r, if_neg (by decide)]; exact h10) (by rw [sI_r, if_neg (by decide), h12, show min (i + 1 - s) 4 = min (i - s) 4 by omega])
        refine ⟨M', ?_, e2, e3, fun p h9 h12 => by rw [e4 p h9 h12, sI_r, if_neg h9], fun p hp => by rw [e5 p hp, sI_n hp]⟩
        rw [if_pos (show (4 : Int32) ≤ nI (i - s) from ple (a := 4) q4 (by omega))]
        dsimp only
        rw [ol_e, h, zinc]
        exact e1
      · obtain ⟨M', e1, e2, e3, e4, e5⟩ := ih (i + 1) fu (sI (sI M 0 12 (nI (nm b s (i + 1 - s)))) 0 9 (nI (i + 1))) (tx_9 (tx_9 ht (by decide)) (by decide)) (by omega) (by omega) (by omega) (by rw [sI_r, if_pos rfl]) (by rw [sI_r, if_neg (by decide), sI_r, if_neg (by decide)]; exact h10) (by rw [sI_r, if_neg (by decide), sI_r, if_pos rfl, show min (i + 1 - s) 4 = i + 1 - s by omega])
        refine ⟨M', ?_, e2, e3, fun p h9 h12 => by rw [e4 p h9 h12, sI_r, if_neg h9, sI_r, if_neg h12], fun p hp => by rw [e5 p hp, sI_n hp, sI_n hp]⟩
        have en : (((10 : Int32) * (M.1 0 12)) + nI (b i)) - (48 : Int32) = nI (nm b s (i + 1 - s)) := by
          rw [h12, show min (i - s) 4 = i - s by omega, show i + 1 - s = (i - s) + 1 by omega, nm, show s + (i - s) = i by omega, show (10 : Int32) = nI 10 from rfl, show (48 : Int32) = nI 48 from rfl, zmul, zadd, zsub (by omega)]
          congr 1
          omega
        rw [if_neg (show ¬ (4 : Int32) ≤ nI (i - s) from nple (a := 4) (by omega) (by decide)), ob_s, en, ol_e]
        dsimp only
        rw [ol_e, sI_r, if_neg (by decide), h, zinc]
        exact e1
    · refine ⟨M, ?_, by rw [if_neg q]; exact h, by rw [if_neg q]; exact h12, fun _ _ _ => rfl, fun _ _ => rfl⟩
      rw [if_neg q, if_pos rfl]
end Q36
