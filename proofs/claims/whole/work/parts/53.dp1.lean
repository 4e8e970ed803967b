/-! PURE PART 24: the weighing: an ideal table, and the reference's -/
def jI (x : Int) : Int64 := Int64.ofInt x
def okI (x : Int) : Prop := -1 ≤ x ∧ x ≤ 1000000000000
theorem jI_t {x : Int} (h : okI x) : (jI x).toInt = x := by
  unfold jI
  rw [Int64.toInt_ofInt, show Int64.size = 18446744073709551616 from rfl]
  have := h.1
  have := h.2
  exact Int.bmod_eq_of_le (by omega) (by omega)
theorem jI_le {x y : Int} (hx : okI x) (hy : okI y) : jI x ≤ jI y ↔ x ≤ y := by rw [Int64.le_iff_toInt_le, jI_t hx, jI_t hy]
theorem jI_lt {x y : Int} (hx : okI x) (hy : okI y) : jI x < jI y ↔ x < y := by rw [Int64.lt_iff_toInt_lt, jI_t hx, jI_t hy]
theorem jI_eq {x y : Int} (hx : okI x) (hy : okI y) : jI x = jI y ↔ x = y := by rw [← Int64.toInt_inj, jI_t hx, jI_t hy]
theorem jI_m1 : (-1 : Int64) = jI (-1) := by decide
theorem jI_0 : (0 : Int64) = jI 0 := by decide
theorem ok_m1 : okI (-1) := ⟨by decide, by decide⟩
theorem ok_0 : okI 0 := ⟨by decide, by decide⟩
theorem ok_max {x y : Int} (hx : okI x) (hy : okI y) : okI (max x y) := by
  obtain ⟨a1, a2⟩ := hx
  obtain ⟨b1, b2⟩ := hy
  exact ⟨by omega, by omega⟩
theorem jI_add (x y : Int) : jI x + jI y = jI (x + y) := by
  unfold jI
  rw [Int64.ofInt_add]
theorem jI_max {x y : Int} (hx : okI x) (hy : okI y) : (if jI y < jI x then jI x else jI y) = jI (max x y) := by
  by_cases q : y < x
  · rw [if_pos ((jI_lt hy hx).mpr q), Int.max_eq_left (by omega)]
  · rw [if_neg (fun h => q ((jI_lt hy hx).mp h)), Int.max_eq_right (by omega)]
theorem qgreater {x y : Int} (hx : okI x) (hy : okI y) : fX8_greater (jI x) (jI y) = some (jI (max x y)) := by
  rw [fX8_greater]
  by_cases q : x ≤ y
  · rw [if_pos ((lg_cmp_le _ _).mpr ((jI_le hx hy).mpr q)), Int.max_eq_right q]
  · rw [if_neg (fun h => q ((jI_le hx hy).mp ((lg_cmp_le _ _).mp h))), Int.max_eq_left (by omega)]
theorem sL_g {st : uSt} {i k j : Nat} {v : Int64} : (sL st i k v).2.1 i j = if j = k then v else st.2.1 i j := by
  rw [sL_s]; rfl
theorem sL_n {st : uSt} {i k i' : Nat} {v : Int64} (h : i' ≠ i) : (sL st i k v).2.1 i' = st.2.1 i' := (sL_o i' h).2.1
theorem sL_1 {st : uSt} {i k : Nat} {v : Int64} : (sL st i k v).1 = st.1 := rfl
abbrev Tb : Type := Nat → Nat → Int
def mg (D : Tb) : Tb := fun s e => if s = 0 then max (D 0 e) (max (D 1 e) (D 2 e)) else -1
def qv (D : Tb) (s c b t : Nat) : Int := if c ≤ t ∧ t - c < b then D s (t - c) else -1
def Pt (D : Tb) (c0 c1 c2 : Nat) (g : Int) (b0 b1 b2 t : Nat) : Int := if max (max (qv D 0 c0 b0 t) (qv D 1 c1 b1 t)) (qv D 2 c2 b2 t) < 0 then -1 else max (max (qv D 0 c0 b0 t) (qv D 1 c1 b1 t)) (qv D 2 c2 b2 t) + g
def tk (D : Tb) (c0 c1 c2 : Nat) (g : Int) : Tb := fun s e => if s = 0 then D 0 e else if s = 1 then max (D 1 e) (D 2 e) else Pt D c0 c1 c2 g 501 501 501 e
def bD (D : Tb) (B : Int) : Prop := ∀ s e, -1 ≤ D s e ∧ D s e ≤ B
theorem bD_ok {D : Tb} {B : Int} (h : bD D B) (hB : B ≤ 1000000000000) (s e : Nat) : okI (D s e) := ⟨(h s e).1, Int.le_trans (h s e).2 hB⟩
theorem bD_qv {D : Tb} {B : Int} (h : bD D B) (hB : 0 ≤ B) (s c b t : Nat) : -1 ≤ qv D s c b t ∧ qv D s c b t ≤ B := by
  unfold qv
  split
  · exact h s _
  · omega
theorem bD_Pt {D : Tb} {B g : Int} (h : bD D B) (hB : 0 ≤ B) (hg : 0 ≤ g) (c0 c1 c2 b0 b1 b2 t : Nat) : -1 ≤ Pt D c0 c1 c2 g b0 b1 b2 t ∧ Pt D c0 c1 c2 g b0 b1 b2 t ≤ B + g := by
  unfold Pt
  have h0 := bD_qv h hB 0 c0 b0 t
  have h1 := bD_qv h hB 1 c1 b1 t
  have h2 := bD_qv h hB 2 c2 b2 t
  generalize qv D 0 c0 b0 t = x at *
  generalize qv D 1 c1 b1 t = y at *
  generalize qv D 2 c2 b2 t = z at *
  split <;> omega
theorem bD_mg {D : Tb} {B : Int} (h : bD D B) (hB : 0 ≤ B) : bD (mg D) B := by
  intro s e
  unfold mg
  have h0 := h 0 e
  have h1 := h 1 e
  have h2 := h 2 e
  split <;> omega
theorem bD_tk {D : Tb} {B g : Int} (h : bD D B) (hB : 0 ≤ B) (hg : 0 ≤ g) (c0 c1 c2 : Nat) : bD (tk D c0 c1 c2 g) (B + g) := by
  intro s e
  unfold tk
  have h0 := h 0 e
  have h1 := h 1 e
  have h2 := h 2 e
  have h3 := bD_Pt h hB hg c0 c1 c2 501 501 501 e
  repeat' split
  all_goals omega
theorem mg_mg {D : Tb} {B : Int} (h : bD D B) : mg (mg D) = mg D := by
  funext s e
  have h0 := h 0 e
  unfold mg
  by_cases q : s = 0
  · simp only [q, if_true]
    rw [if_neg (by decide), if_neg (by decide)]
    omega
  · simp only [q, if_false]
/-! the reference's merges -/
def gT (f : Nat → Nat → Int64) (D : Tb) : Prop := ∀ s e, s < 3 → e ≤ 500 → f 7 (3 * e + s) = jI (D s e)
theorem z3 (e : Nat) : (3 : Int32) * nI e = nI (3 * e) := zmul 3 e
theorem z31 (e : Nat) : (3 : Int32) * nI e + 1 = nI (3 * e + 1) := by rw [z3]; exact zadd _ 1
theorem z32 (e : Nat) : (3 : Int32) * nI e + 2 = nI (3 * e + 2) := by rw [z3]; exact zadd _ 2
theorem mg_l {D : Tb} {B : Int} (hb : bD D B) (hB : B ≤ 1000000000000) (ke : uSt → Option (Unit × uSt)) : ∀ j l fu (st : uSt), l + j = 501 → j < fu → (∀ s e, s < 3 → l ≤ e → e ≤ 500 → st.2.1 7 (3 * e + s) = jI (D s e)) → ∃ st', fX8_merges_2 ke fu st (nI l) = ke st' ∧ st'.1 = st.1 ∧ (∀ s e, s < 3 → l ≤ e → e ≤ 500 → st'.2.1 7 (3 * e + s) = jI (mg D s e)) ∧ ∀ i, i < 3 * l → st'.2.1 7 i = st.2.1 7 i := by
  intro j
  induction j with
  | zero =>
    intro l fu st hl hf h
    obtain ⟨fu, rfl⟩ : ∃ x, fu = x + 1 := ⟨fu - 1, by omega⟩
    obtain rfl : l = 501 := by omega
    exact ⟨st, by rw [fX8_merges_2, if_pos (show (500 : Int32) < nI 501 by decide)], rfl, fun s e _ h1 h2 => absurd h2 (by omega), fun _ _ => rfl⟩
  | succ j ih =>
    intro l fu st hl hf h
    obtain ⟨fu, rfl⟩ : ∃ x, fu = x + 1 := ⟨fu - 1, by omega⟩
    have o0 := bD_ok hb hB 0 l
    have o1 := bD_ok hb hB 1 l
    have o2 := bD_ok hb hB 2 l
    obtain ⟨st', e1, e2, e3, e4⟩ := ih (l + 1) fu (sL (sL (sL st 7 (3 * l) (jI (mg D 0 l))) 7 (3 * l + 1) (-1)) 7 (3 * l + 2) (-1)) (by omega) (by omega) (fun s e hs h1 h2 => by
      rw [sL_g, if_neg (by omega), sL_g, if_neg (by omega), sL_g, if_neg (by omega)]
      exact h s e hs (by omega) h2)
    refine ⟨st', ?_, e2, fun s e hs h1 h2 => ?_, fun i hi => ?_⟩
    · have h0 := h 0 l (by decide) (Nat.le_refl _) (by omega)
      rw [Nat.add_zero] at h0
      rw [fX8_merges_2, if_neg (show ¬ (500 : Int32) < nI l from nplt (a := 500) (by omega) (by decide)), z31, z32, z3, zin (by omega) (by omega), zin (by omega) (by omega), zin (by omega) (by omega), zcl (by omega), zcl (by omega), zcl (by omega), h0, h 1 l (by decide) (Nat.le_refl _) (by omega), h 2 l (by decide) (Nat.le_refl _) (by omega), og_t, og_t, og_t, qgreater o1 o2, ob_s, qgreater o0 (ok_max o1 o2), ob_s, og_t, ol_e, og_t, ol_e, og_t, ol_e, ol_e, zinc]
      exact e1
    · by_cases q : e = l
      · subst q
        rw [e4 (3 * e + s) (by omega)]
        rcases (show s = 0 ∨ s = 1 ∨ s = 2 by omega) with rfl | rfl | rfl
        · rw [sL_g, if_neg (by omega), sL_g, if_neg (by omega), sL_g, if_pos (by omega)]
        · rw [sL_g, if_neg (by omega), sL_g, if_pos (by omega)]; exact jI_m1
        · rw [sL_g, if_pos (by omega)]; exact jI_m1
      · exact e3 s e hs (by omega) h2
    · rw [e4 i (by omega), sL_g, if_neg (by omega), sL_g, if_neg (by omega), sL_g, if_neg (by omega)]
theorem qmerges {st : uSt} {D : Tb} {B : Int} (hb : bD D B) (hB : B ≤ 1000000000000) (h : gT st.2.1 D) : ∃ st', fX8_merges st = some ((), st') ∧ st'.1 = st.1 ∧ gT st'.2.1 (mg D) := by
  obtain ⟨st', e1, e2, e3, -⟩ := mg_l hb hB (fun st_8 => some ((), st_8)) 501 0 FU st (by omega) (FU_lt (by omega)) (fun s e hs _ he => h s e hs he)
  exact ⟨st', by rw [fX8_merges]; exact e1, e2, fun s e hs he => e3 s e hs (by omega) he⟩
/-! fills and copies -/
theorem f30_l {l2 l3 : Int32} {l4 : Int64} (ke : uSt → Option (Unit × uSt)) : ∀ j k fu (st : uSt), k + j = 1503 → j < fu → ∃ st', fX8_takesBlock_30 l2 l3 l4 ke fu st (nI k) = ke st' ∧ st'.1 = st.1 ∧ (∀ i, k ≤ i → i < 1503 → st'.2.1 8 i = -1) ∧ (∀ i, i < k → st'.2.1 8 i = st.2.1 8 i) ∧ ∀ r, r ≠ 8 → st'.2.1 r = st.2.1 r := by
  intro j
  induction j with
  | zero =>
    intro k fu st hk hf
    obtain ⟨fu, rfl⟩ : ∃ x, fu = x + 1 := ⟨fu - 1, by omega⟩
    obtain rfl : k = 1503 := by omega
    exact ⟨st, by rw [fX8_takesBlock_30, if_pos (show (1503 : Int32) ≤ nI 1503 from Int32.le_refl _)], rfl, fun i h1 h2 => absurd h2 (by omega), fun _ _ => rfl, fun _ _ => rfl⟩
  | succ j ih =>
    intro k fu st hk hf
    obtain ⟨fu, rfl⟩ : ∃ x, fu = x + 1 := ⟨fu - 1, by omega⟩
    obtain ⟨st', e1, e2, e3, e4, e5⟩ := ih (k + 1) fu (sL st 8 k (-1)) (by omega) (by omega)
    refine ⟨st', ?_, e2, fun i h1 h2 => ?_, fun i hi => ?_, fun r hr => by rw [e5 r hr, sL_n hr]⟩
    · rw [fX8_takesBlock_30, if_neg (show ¬ (1503 : Int32) ≤ nI k from nple (a := 1503) (by omega) (by decide)), zin (by omega) (by omega), zcl (by omega), og_t, ol_e, ol_e, zinc]
      exact e1
    · by_cases q : i = k
      · rw [q, e4 k (by omega), sL_g, if_pos rfl]
      · exact e3 i (by omega) h2
    · rw [e4 i (by omega), sL_g, if_neg (by omega)]
theorem f2_l {l1 : Int32} (ke : uSt → Option (Unit × uSt)) : ∀ j k fu (st : uSt), k + j = 1503 → j < fu → ∃ st', fX8_weighs_2 l1 ke fu st (nI k) = ke st' ∧ st'.1 = st.1 ∧ (∀ i, k ≤ i → i < 1503 → st'.2.1 7 i = -1) ∧ (∀ i, i < k → st'.2.1 7 i = st.2.1 7 i) := by
  intro j
  induction j with
  | zero =>
    intro k fu st hk hf
    obtain ⟨fu, rfl⟩ : ∃ x, fu = x + 1 := ⟨fu - 1, by omega⟩
    obtain rfl : k = 1503 := by omega
    exact ⟨st, by rw [fX8_weighs_2, if_pos (show (1503 : Int32) ≤ nI 1503 from Int32.le_refl _)], rfl, fun i h1 h2 => absurd h2 (by omega), fun _ _ => rfl⟩
  | succ j ih =>
    intro k fu st hk hf
    obtain ⟨fu, rfl⟩ : ∃ x, fu = x + 1 := ⟨fu - 1, by omega⟩
    obtain ⟨st', e1, e2, e3, e4⟩ := ih (k + 1) fu (sL st 7 k (-1)) (by omega) (by omega)
    refine ⟨st', ?_, e2, fun i h1 h2 => ?_, fun i hi => ?_⟩
    · rw [fX8_weighs_2, if_neg (show ¬ (1503 : Int32) ≤ nI k from nple (a := 1503) (by omega) (by decide)), zin (by omega) (by omega), zcl (by omega), og_t, ol_e, ol_e, zinc]
      exact e1
    · by_cases q : i = k
      · rw [q, e4 k (by omega), sL_g, if_pos rfl]
      · exact e3 i (by omega) h2
    · rw [e4 i (by omega), sL_g, if_neg (by omega)]
theorem f293_l (ke : uSt → Option (Unit × uSt)) : ∀ j k fu (st : uSt), k + j = 1503 → j < fu → ∃ st', fX8_takesBlock_293 ke fu st (nI k) = ke st' ∧ st'.1 = st.1 ∧ (∀ i, k ≤ i → i < 1503 → st'.2.1 7 i = st.2.1 8 i) ∧ ∀ i, i < k → st'.2.1 7 i = st.2.1 7 i := by
  intro j
  induction j with
  | zero =>
    intro k fu st hk hf
    obtain ⟨fu, rfl⟩ : ∃ x, fu = x + 1 := ⟨fu - 1, by omega⟩
    obtain rfl : k = 1503 := by omega
    exact ⟨st, by rw [fX8_takesBlock_293, if_pos (show (1503 : Int32) ≤ nI 1503 from Int32.le_refl _)], rfl, fun i h1 h2 => absurd h2 (by omega), fun _ _ => rfl⟩
  | succ j ih =>
    intro k fu st hk hf
    obtain ⟨fu, rfl⟩ : ∃ x, fu = x + 1 := ⟨fu - 1, by omega⟩
    obtain ⟨st', e1, e2, e3, e4⟩ := ih (k + 1) fu (sL st 7 k (st.2.1 8 k)) (by omega) (by omega)
    refine ⟨st', ?_, e2, fun i h1 h2 => ?_, fun i hi => ?_⟩
    · rw [fX8_takesBlock_293, if_neg (show ¬ (1503 : Int32) ≤ nI k from nple (a := 1503) (by omega) (by decide)), zin (by omega) (by omega), zcl (by omega), og_t, og_t, ol_e, ol_e, zinc]
      exact e1
    · by_cases q : i = k
      · rw [q, e4 k (by omega), sL_g, if_pos rfl]
      · rw [e3 i (by omega) h2, sL_n (by decide)]
    · rw [e4 i (by omega), sL_g, if_neg (by omega)]
theorem f134_l (ke : uSt → Option (Unit × uSt)) : ∀ j k fu (st : uSt), k + j = 501 → j < fu → ∃ st', fX8_weighs_134 ke fu st (nI k) = ke st' ∧ st'.1 = st.1 ∧ (∀ i, k ≤ i → i < 501 → st'.2.1 9 i = st.2.1 7 (3 * i)) ∧ ∀ i, i < k → st'.2.1 9 i = st.2.1 9 i := by
  intro j
  induction j with
  | zero =>
    intro k fu st hk hf
    obtain ⟨fu, rfl⟩ : ∃ x, fu = x + 1 := ⟨fu - 1, by omega⟩
    obtain rfl : k = 501 := by omega
    exact ⟨st, by rw [fX8_weighs_134, if_pos (show (500 : Int32) < nI 501 by decide)], rfl, fun i h1 h2 => absurd h2 (by omega), fun _ _ => rfl⟩
  | succ j ih =>
    intro k fu st hk hf
    obtain ⟨fu, rfl⟩ : ∃ x, fu = x + 1 := ⟨fu - 1, by omega⟩
    obtain ⟨st', e1, e2, e3, e4⟩ := ih (k + 1) fu (sL st 9 k (st.2.1 7 (3 * k))) (by omega) (by omega)
    refine ⟨st', ?_, e2, fun i h1 h2 => ?_, fun i hi => ?_⟩
    · rw [fX8_weighs_134, if_neg (show ¬ (500 : Int32) < nI k from nplt (a := 500) (by omega) (by decide)), z3, zin (by omega) (by omega), zin (by omega) (by omega), zcl (by omega), zcl (by omega), og_t, og_t, ol_e, ol_e, zinc]
      exact e1
    · by_cases q : i = k
      · rw [q, e4 k (by omega), sL_g, if_pos rfl]
      · rw [e3 i (by omega) h2, sL_n (by decide)]
    · rw [e4 i (by omega), sL_g, if_neg (by omega)]
