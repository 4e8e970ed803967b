/-! PURE PART 20: a block comes -/
section Q20
variable {m : Nat} {C M st : uSt} {a : Nat → Nat} {n : Nat} {w : Nat → Nat → Nat}
theorem ob_s {α β : Type} {x : α} {k : α → Option β} : ob (some x) k = k x := rfl
theorem ol_e {α β : Type} {x : α} {k : α → Option β} : ol x k = k x := rfl
theorem og_t {β : Type} {x : Option β} : og true x = x := rfl
theorem obS_s {α β : Type} {x : α} {S : uSt} {k : α → uSt → Option β} : obS (some (x, S)) k = k x S := rfl
def insP (w : Nat → Nat → Nat) (pl : Nat) : Nat → Nat
  | 0 => 0
  | n + 1 => if pl < w 0 n then insP w pl n else n + 1
def nwB (pl v tm : Nat) : Nat → Nat := fun i => if i = 0 then pl else if i = 1 then v else tm
def wIns (pos : Nat) (nw : Nat → Nat) (w : Nat → Nat → Nat) : Nat → Nat → Nat := fun i k => if k < pos then w i k else if k = pos then nw i else w i (k - 1)
def wUpd (j v : Nat) (w : Nat → Nat → Nat) : Nat → Nat → Nat := fun i k => if i = 1 ∧ k = j then v else w i k
theorem insP_ok (w : Nat → Nat → Nat) (pl : Nat) : ∀ n, insP w pl n ≤ n ∧ (∀ i, insP w pl n ≤ i → i < n → pl < w 0 i) ∧ (0 < insP w pl n → w 0 (insP w pl n - 1) ≤ pl) := by
  intro n
  induction n with
  | zero => exact ⟨Nat.le_refl _, fun i _ h => absurd h (by omega), fun h => absurd h (Nat.lt_irrefl 0)⟩
  | succ n ih =>
    obtain ⟨h1, h2, h3⟩ := ih
    rw [insP]
    by_cases q : pl < w 0 n
    · rw [if_pos q]
      refine ⟨by omega, fun i hi hn => ?_, h3⟩
      by_cases e : i = n
      · subst e; exact q
      · exact h2 i hi (by omega)
    · rw [if_neg q]
      exact ⟨Nat.le_refl _, fun i h4 h5 => absurd h5 (by omega), fun _ => by rw [Nat.add_sub_cancel]; omega⟩
theorem oB_ins {pl v tm : Nat} (h : oB n a w) (hn : n < 24) (hp : pl < 100 * a 9) (hv : 1 ≤ v ∧ v ≤ 99) (hne : ∀ i, i < n → w 0 i ≠ pl) : oB (n + 1) a (wIns (insP w pl n) (nwB pl v tm) w) := by
  obtain ⟨p1, p2, p3⟩ := insP_ok w pl n
  obtain ⟨h1, h2, h3⟩ := h
  generalize insP w pl n = P at *
  refine ⟨by omega, fun k hk => ?_, fun k hk => ?_⟩
  · unfold wIns
    by_cases q1 : k < P
    · rw [if_pos q1, if_pos q1]; exact h2 k (by omega)
    · rw [if_neg q1, if_neg q1]
      by_cases q2 : k = P
      · rw [if_pos q2, if_pos q2]; exact ⟨hp, hv⟩
      · rw [if_neg q2, if_neg q2]; exact h2 (k - 1) (by omega)
  · unfold wIns
    by_cases q1 : k + 1 < P
    · rw [if_pos (by omega), if_pos q1]; exact h3 k (by omega)
    · by_cases q2 : k + 1 = P
      · rw [if_pos (by omega), if_neg (by omega), if_pos q2]
        show w 0 k < pl
        have := p3 (by omega)
        have e : P - 1 = k := by omega
        rw [e] at this
        have := hne k (by omega)
        omega
      · by_cases q3 : k = P
        · rw [if_neg (by omega), if_pos q3, if_neg (by omega), if_neg (by omega), Nat.add_sub_cancel]
          exact p2 k (by omega) (by omega)
        · rw [if_neg (by omega), if_neg q3, if_neg (by omega), if_neg (by omega), Nat.add_sub_cancel]
          have := h3 (k - 1) (by omega)
          rw [show k - 1 + 1 = k by omega] at this
          exact this
theorem oB_upd {j v : Nat} (h : oB n a w) (hv : 1 ≤ v ∧ v ≤ 99) : oB n a (wUpd j v w) := by
  obtain ⟨h1, h2, h3⟩ := h
  refine ⟨h1, fun k hk => ?_, fun k hk => ?_⟩
  · unfold wUpd
    rw [if_neg (by omega)]
    refine ⟨(h2 k hk).1, ?_⟩
    by_cases q : k = j
    · rw [if_pos ⟨rfl, q⟩]; exact hv
    · rw [if_neg (by omega)]; exact (h2 k hk).2
  · unfold wUpd
    rw [if_neg (by omega), if_neg (by omega)]
    exact h3 k hk
theorem qbehind {c d x k i : Nat} (hd : d < 5) (hx : x < 100) (hk : k < 24) (hw : w 0 i < 500) (h : cVal st.1 c w k i) : fX1_isBehind c (nI k) (nI d) (nI x) st = some (if 100 * d + x < w 0 i then 1 else 0) := by
  obtain ⟨h1, h2, -, -⟩ := h
  rw [fX1_isBehind, zin (by omega) (by omega), zcl (by omega), h1, h2]
  simp only [og]
  by_cases q1 : d < w 0 i / 100
  · rw [if_pos (plt q1 (by omega)), if_pos (by omega)]
  · rw [if_neg (nplt (by omega) (by omega))]
    by_cases q2 : w 0 i / 100 = d
    · rw [if_pos (by rw [q2])]
      by_cases q3 : w 0 i % 100 ≤ x
      · rw [if_pos (ple q3 (by omega)), if_neg (by omega)]
      · rw [if_neg (nple (by omega) (by omega)), if_pos (by omega)]
    · rw [if_neg (peqn q2 (by omega) (by omega)), if_neg (by omega)]
theorem put_l {c d x : Nat} (l3 l4 : Int32) (hd : d < 5) (hx : x < 100) (hn : n < 24) (hp : ∀ k, k < n → w 0 k < 500) (ke : uSt → Int32 → Option (Unit × uSt)) : ∀ t fu (st : uSt), t ≤ n → t < fu → (∀ i, i < t → cVal st.1 c w i i) → (∀ i, t ≤ i → i < n → cVal st.1 c w (i + 1) i) → ∃ st', fX1_put_39 c (nI d) (nI x) l3 l4 ke fu st (nI t) = ke st' (nI (insP w (100 * d + x) t)) ∧ (∀ i, i < insP w (100 * d + x) t → cVal st'.1 c w i i) ∧ (∀ i, insP w (100 * d + x) t ≤ i → i < n → cVal st'.1 c w (i + 1) i) ∧ ∀ i, i ≤ c ∨ c + 5 ≤ i → st'.1 i = st.1 i := by
  intro t
  induction t with
  | zero =>
    intro fu st ht hf h1 h2
    obtain ⟨fu, rfl⟩ : ∃ x, fu = x + 1 := ⟨fu - 1, by omega⟩
    exact ⟨st, by rw [fX1_put_39, if_pos (by decide)]; rfl, h1, h2, fun _ _ => rfl⟩
  | succ t ih =>
    intro fu st ht hf h1 h2
    obtain ⟨fu, rfl⟩ : ∃ x, fu = x + 1 := ⟨fu - 1, by omega⟩
    rw [fX1_put_39, if_neg (show ¬ nI (t + 1) ≤ (0 : Int32) from nple (b := 0) (by omega) (by omega)), show nI (t + 1) - 1 = nI t from zsub (a := t + 1) (b := 1) (by omega), qbehind hd hx (by omega) (hp t (by omega)) (h1 t (by omega)), insP]
    simp only [ob, ol]
    by_cases q : 100 * d + x < w 0 t
    · rw [if_pos q, if_pos q]
      simp only [one0, if_false]
      obtain ⟨S, f0, f1, f2⟩ := cpBlock (st := st) (c := c) (c2 := c) (k := t + 1) (k2 := t) (by omega) (by omega)
      have f1 := f1 (by omega)
      rw [f0]
      simp only [obV]
      rw [zdec]
      obtain ⟨st', g1, g2, g3, g4⟩ := ih fu S (by omega) (by omega) (fun i hi => by
        obtain ⟨x1, x2, x3, x4⟩ := f1 i
        unfold cVal
        rw [x1, x2, x3, x4, if_neg (by omega), if_neg (by omega), if_neg (by omega), if_neg (by omega)]
        exact h1 i (by omega)) (fun i hi hi2 => by
        obtain ⟨x1, x2, x3, x4⟩ := f1 (i + 1)
        unfold cVal
        rw [x1, x2, x3, x4]
        by_cases qi : i = t
        · rw [if_pos (by omega), if_pos (by omega), if_pos (by omega), if_pos (by omega), qi]
          exact h1 t (by omega)
        · rw [if_neg (by omega), if_neg (by omega), if_neg (by omega), if_neg (by omega)]
          exact h2 i (by omega) hi2)
      exact ⟨st', g1, g2, g3, fun i hi => by rw [g4 i hi, f2 i hi]⟩
    · rw [if_neg q, if_neg q, if_pos rfl]
      exact ⟨st, rfl, h1, h2, fun _ _ => rfl⟩
theorem qput {c d x v tm : Nat} (hc : cCa st.1 c n w) (hd : d < 5) (hx : x < 100) (hn : n < 24) (hp : ∀ k, k < n → w 0 k < 500) (hix : ixF w (100 * d + x) n 0 = -1) : ∃ st', fX1_put c (nI d) (nI x) (nI v) (nI tm) st = some ((), st') ∧ cCa st'.1 c (n + 1) (wIns (insP w (100 * d + x) n) (nwB (100 * d + x) v tm) w) ∧ ∀ i, i < c ∨ c + 5 ≤ i → st'.1 i = st.1 i := by
  obtain ⟨S, e1, e2, e3, e4⟩ := put_l (c := c) (w := w) (nI v) (nI tm) hd hx hn hp (fun st_8 l6_7 => og (inB l6_7 24) (ol (sI st_8 (c + 1) l6_7.toNatClampNeg (nI d)) (fun st_9 => og (inB l6_7 24) (ol (sI st_9 (c + 2) l6_7.toNatClampNeg (nI x)) (fun st_10 => og (inB l6_7 24) (ol (sI st_10 (c + 3) l6_7.toNatClampNeg (nI v)) (fun st_11 => og (inB l6_7 24) (ol (sI st_11 (c + 4) l6_7.toNatClampNeg (nI tm)) (fun st_12 => ol (sI st_12 c 0 ((st_12.1 c 0) + (1 : Int32))) (fun st_13 => some ((), st_13))))))))))) n FU st (Nat.le_refl _) (FU_lt (by omega)) (fun i hi => hc.2 i hi) (fun i h1 h2 => absurd h2 (by omega))
  have pl := (insP_ok w (100 * d + x) n).1
  generalize insP w (100 * d + x) n = P at *
  have E : fX1_put c (nI d) (nI x) (nI v) (nI tm) st = some ((), sI (sI (sI (sI (sI S (c + 1) P (nI d)) (c + 2) P (nI x)) (c + 3) P (nI v)) (c + 4) P (nI tm)) c 0 (nI (n + 1))) := by
    rw [fX1_put, qX1_indexOf hc (by omega) hp hd hx, hix, hc.1, ob_s, if_pos rfl, if_pos (show nI n < (24 : Int32) from plt (b := 24) hn (by decide)), ol_e, e1]
    rw [zin (by omega) (by omega), zcl (by omega)]
    simp only [og, ol]
    rw [sI_n (by omega), sI_n (by omega), sI_n (by omega), sI_n (by omega), e4 c (by omega), hc.1, zinc]
  refine ⟨_, E, ⟨by rw [sI_r, if_pos rfl], fun k hk => ?_⟩, fun i hi => by rw [sI_n (by omega), sI_n (by omega), sI_n (by omega), sI_n (by omega), sI_n (by omega), e4 i (by omega)]⟩
  have y1 : (sI (sI (sI (sI (sI S (c + 1) P (nI d)) (c + 2) P (nI x)) (c + 3) P (nI v)) (c + 4) P (nI tm)) c 0 (nI (n + 1))).1 (c + 1) k = if k = P then nI d else S.1 (c + 1) k := by rw [sI_n (by omega), sI_n (by omega), sI_n (by omega), sI_n (by omega), sI_r]
  have y2 : (sI (sI (sI (sI (sI S (c + 1) P (nI d)) (c + 2) P (nI x)) (c + 3) P (nI v)) (c + 4) P (nI tm)) c 0 (nI (n + 1))).1 (c + 2) k = if k = P then nI x else S.1 (c + 2) k := by rw [sI_n (by omega), sI_n (by omega), sI_n (by omega), sI_r, sI_n (by omega)]
  have y3 : (sI (sI (sI (sI (sI S (c + 1) P (nI d)) (c + 2) P (nI x)) (c + 3) P (nI v)) (c + 4) P (nI tm)) c 0 (nI (n + 1))).1 (c + 3) k = if k = P then nI v else S.1 (c + 3) k := by rw [sI_n (by omega), sI_n (by omega), sI_r, sI_n (by omega), sI_n (by omega)]
  have y4 : (sI (sI (sI (sI (sI S (c + 1) P (nI d)) (c + 2) P (nI x)) (c + 3) P (nI v)) (c + 4) P (nI tm)) c 0 (nI (n + 1))).1 (c + 4) k = if k = P then nI tm else S.1 (c + 4) k := by rw [sI_n (by omega), sI_r, sI_n (by omega), sI_n (by omega), sI_n (by omega)]
  rw [y1, y2, y3, y4]
  unfold wIns
  by_cases q2 : k = P
  · subst q2
    simp only [if_true, Nat.lt_irrefl, if_false]
    refine ⟨?_, ?_, rfl, rfl⟩
    · show nI d = nI ((100 * d + x) / 100)
      congr 1; omega
    · show nI x = nI ((100 * d + x) % 100)
      congr 1; omega
  · simp only [q2, if_false]
    by_cases q1 : k < P
    · simp only [q1, if_true]; exact e2 k q1
    · simp only [q1, if_false]
      have := e3 (k - 1) (by omega) (by omega)
      rw [show k - 1 + 1 = k by omega] at this
      exact this
theorem qput_k {c d x v tm j : Nat} (hc : cCa st.1 c n w) (hd : d < 5) (hx : x < 100) (hn : n ≤ 24) (hp : ∀ k, k < n → w 0 k < 500) (hj : j < n) (hix : ixF w (100 * d + x) n 0 = nI j) : ∃ st', fX1_put c (nI d) (nI x) (nI v) (nI tm) st = some ((), st') ∧ cCa st'.1 c n (wUpd j v w) ∧ ∀ i, i < c ∨ c + 5 ≤ i → st'.1 i = st.1 i := by
  refine ⟨sI st (c + 3) j (nI v), ?_, ⟨by rw [sI_n (by omega)]; exact hc.1, fun k hk => ?_⟩, fun i hi => sI_n (by omega)⟩
  · rw [fX1_put, qX1_indexOf hc hn hp hd hx, hix, ob_s, if_neg (zneg (by omega)), zin (by omega) (by omega), zcl (by omega), og_t, ol_e]
  · obtain ⟨h1, h2, h3, h4⟩ := hc.2 k hk
    rw [sI_n (show c + 1 ≠ c + 3 by omega), sI_n (show c + 2 ≠ c + 3 by omega), sI_n (show c + 4 ≠ c + 3 by omega), sI_r]
    unfold wUpd
    rw [if_neg (by omega), if_neg (show ¬ (2 = 1 ∧ k = j) by omega)]
    refine ⟨h1, h2, ?_, h4⟩
    by_cases q : k = j
    · rw [if_pos q, if_pos ⟨rfl, q⟩]
    · rw [if_neg q, if_neg (by omega)]; exact h3
/-! the reference -/
theorem qofR {k i : Nat} (hk : k < 24) (hi : i < 3) : fX8_of (nI k) (nI i) st = some (st.1 1 (37 + 3 * k + i)) := by
  rw [fX8_of, show ((37 : Int32) + ((3 : Int32) * nI k)) + nI i = nI (37 + 3 * k + i) by rw [show (37 : Int32) = nI 37 from rfl, show (3 : Int32) = nI 3 from rfl, zmul, zadd, zadd], zin (by omega) (by omega), zcl (by omega)]
  rfl
theorem c39_l {t : Nat} (l3 l4 : Int32) (ht : t + 1 < 24) (ke : uSt → Option (Unit × uSt)) : ∀ j k fu (st : uSt), k + j = 3 → j < fu → ∃ st', fX8_comes_39 l3 l4 (nI (t + 1)) ke fu st (nI k) = ke st' ∧ (∀ i, st'.1 1 i = if 37 + 3 * (t + 1) + k ≤ i ∧ i < 37 + 3 * (t + 1) + 3 then st.1 1 (i - 3) else st.1 1 i) ∧ ∀ i, i ≠ 1 → st'.1 i = st.1 i := by
  intro j
  induction j with
  | zero =>
    intro k fu st hk hf
    obtain ⟨fu, rfl⟩ : ∃ x, fu = x + 1 := ⟨fu - 1, by omega⟩
    obtain rfl : k = 3 := by omega
    refine ⟨st, ?_, fun i => by rw [if_neg (by omega)], fun _ _ => rfl⟩
    rw [fX8_comes_39, if_pos (show (3 : Int32) ≤ nI 3 from Int32.le_refl _)]
  | succ j ih =>
    intro k fu st hk hf
    obtain ⟨fu, rfl⟩ : ∃ x, fu = x + 1 := ⟨fu - 1, by omega⟩
    obtain ⟨st', e1, e2, e3⟩ := ih (k + 1) fu (sI st 1 (37 + 3 * (t + 1) + k) (st.1 1 (37 + 3 * t + k))) (by omega) (by omega)
    refine ⟨st', ?_, fun i => ?_, fun i hi => by rw [e3 i hi, sI_n hi]⟩
    · rw [fX8_comes_39, if_neg (show ¬ (3 : Int32) ≤ nI k from nple (a := 3) (by omega) (by decide)), show nI (t + 1) - 1 = nI t from zsub (a := t + 1) (b := 1) (by omega), qofR (by omega) (by omega)]
      simp only [ob]
      rw [show ((37 : Int32) + ((3 : Int32) * nI (t + 1))) + nI k = nI (37 + 3 * (t + 1) + k) by rw [show (37 : Int32) = nI 37 from rfl, show (3 : Int32) = nI 3 from rfl, zmul, zadd, zadd], zin (by omega) (by omega), zcl (by omega)]
      simp only [og, ol, zinc]
      exact e1
    · rw [e2 i, sI_r, sI_r]
      by_cases q : i = 37 + 3 * (t + 1) + k
      · rw [if_neg (by omega), if_pos q, if_pos (by omega), q, show 37 + 3 * (t + 1) + k - 3 = 37 + 3 * t + k by omega]
      · by_cases q2 : 37 + 3 * (t + 1) + k ≤ i ∧ i < 37 + 3 * (t + 1) + 3
        · rw [if_pos (by omega), if_neg (by omega), if_pos q2]
        · rw [if_neg (by omega), if_neg q, if_neg q2]
theorem comes_l {pl : Nat} (l3 : Int32) (hpl : pl < 500) (hn : n < 24) (hp : ∀ k, k < n → w 0 k < 500) (ke : uSt → Int32 → Option (Unit × uSt)) : ∀ t fu (st : uSt), t ≤ n → t < fu → (∀ i, i < t → ∀ x, x < 3 → st.1 1 (37 + 3 * i + x) = nI (w x i)) → (∀ i, t ≤ i → i < n → ∀ x, x < 3 → st.1 1 (37 + 3 * (i + 1) + x) = nI (w x i)) → ∃ st', fX8_comes_17 l3 (nI pl) ke fu st (nI t) = ke st' (nI (insP w pl t)) ∧ (∀ i, i < insP w pl t → ∀ x, x < 3 → st'.1 1 (37 + 3 * i + x) = nI (w x i)) ∧ (∀ i, insP w pl t ≤ i → i < n → ∀ x, x < 3 → st'.1 1 (37 + 3 * (i + 1) + x) = nI (w x i)) ∧ (∀ i, i < 37 → st'.1 1 i = st.1 1 i) ∧ ∀ i, i ≠ 1 → st'.1 i = st.1 i := by
  intro t
  induction t with
  | zero =>
    intro fu st ht hf h1 h2
    obtain ⟨fu, rfl⟩ : ∃ x, fu = x + 1 := ⟨fu - 1, by omega⟩
    exact ⟨st, by rw [fX8_comes_17, if_pos (by decide)]; rfl, h1, h2, fun _ _ => rfl, fun _ _ => rfl⟩
  | succ t ih =>
    intro fu st ht hf h1 h2
    obtain ⟨fu, rfl⟩ : ∃ x, fu = x + 1 := ⟨fu - 1, by omega⟩
    have hw := hp t (by omega)
    rw [fX8_comes_17, if_neg (show ¬ nI (t + 1) ≤ (0 : Int32) from nple (b := 0) (by omega) (by omega)), show nI (t + 1) - 1 = nI t from zsub (a := t + 1) (b := 1) (by omega), show fX8_of (nI t) 0 st = some (nI (w 0 t)) by rw [show (0 : Int32) = nI 0 from rfl, qofR (by omega) (by decide), h1 t (by omega) 0 (by decide)], insP]
    simp only [ob]
    by_cases q : pl < w 0 t
    · rw [if_pos q, if_neg (nple q (by omega))]
      obtain ⟨S, f0, f1, f2⟩ := c39_l l3 (nI pl) (t := t) (by omega) (fun st_8 => ol (nI (t + 1) + (-1)) (fun l5_9 => fX8_comes_17 l3 (nI pl) ke fu st_8 l5_9)) 3 0 FU st (by omega) (FU_lt (by omega))
      obtain ⟨st', g1, g2, g3, g4, g5⟩ := ih fu S (by omega) (by omega) (fun i hi x hx => by
        rw [f1, if_neg (by omega)]
        exact h1 i (by omega) x hx) (fun i hi hi2 x hx => by
        rw [f1]
        by_cases qi : i = t
        · rw [if_pos (by omega), show 37 + 3 * (i + 1) + x - 3 = 37 + 3 * t + x by omega, qi]
          exact h1 t (by omega) x hx
        · rw [if_neg (by omega)]
          exact h2 i (by omega) hi2 x hx)
      refine ⟨st', ?_, g2, g3, fun i hi => by rw [g4 i hi, f1, if_neg (by omega)], fun i hi => by rw [g5 i hi, f2 i hi]⟩
      refine Eq.trans f0 ?_
      simp only [ol]
      rw [zdec]
      exact g1
    · rw [if_neg q, if_pos (ple (by omega) (by omega))]
      exact ⟨st, rfl, h1, h2, fun _ _ => rfl, fun _ _ => rfl⟩
theorem qcomes {d x v : Nat} (hg : gR (st.1 1) a n w) (hd : d < 5) (hx : x < 100) (hn : n < 24) (hp : ∀ k, k < n → w 0 k < 500) : ∃ st', fX8_comes (nI d) (nI x) (nI v) st = some ((), st') ∧ gR (st'.1 1) a (n + 1) (wIns (insP w (100 * d + x) n) (nwB (100 * d + x) v (a 26)) w) ∧ ∀ i, i ≠ 1 → st'.1 i = st.1 i := by
  obtain ⟨S, e1, e2, e3, e4, e5⟩ := comes_l (pl := 100 * d + x) (nI v) (by omega) hn hp (fun st_11 l5_10 => og (inB ((37 : Int32) + ((3 : Int32) * l5_10)) 109) (ol (sI st_11 1 ((37 : Int32) + ((3 : Int32) * l5_10)).toNatClampNeg (nI (100 * d + x))) (fun st_12 => og (inB (((37 : Int32) + ((3 : Int32) * l5_10)) + (1 : Int32)) 109) (ol (sI st_12 1 (((37 : Int32) + ((3 : Int32) * l5_10)) + (1 : Int32)).toNatClampNeg (nI v)) (fun st_13 => og (inB (((37 : Int32) + ((3 : Int32) * l5_10)) + (2 : Int32)) 109) (ol (sI st_13 1 (((37 : Int32) + ((3 : Int32) * l5_10)) + (2 : Int32)).toNatClampNeg (st_13.1 1 26)) (fun st_14 => ol (sI st_14 1 36 ((st_14.1 1 36) + (1 : Int32))) (fun st_15 => some ((), st_15))))))))) n FU st (Nat.le_refl _) (FU_lt (by omega)) (fun i hi x hx => hg.2.2 i hi x hx) (fun i h1 h2 => absurd h2 (by omega))
  have pl := (insP_ok w (100 * d + x) n).1
  have h26 : S.1 1 26 = nI (a 26) := by rw [e4 26 (by decide)]; exact hg.1 26 (by decide)
  have h36 : S.1 1 36 = nI n := by rw [e4 36 (by decide)]; exact hg.2.1
  generalize insP w (100 * d + x) n = P at *
  have E : fX8_comes (nI d) (nI x) (nI v) st = some ((), sI (sI (sI (sI S 1 (37 + 3 * P) (nI (100 * d + x))) 1 (37 + 3 * P + 1) (nI v)) 1 (37 + 3 * P + 2) (nI (a 26))) 1 36 (nI (n + 1))) := by
    rw [fX8_comes, show ((100 : Int32) * nI d) + nI x = nI (100 * d + x) by rw [show (100 : Int32) = nI 100 from rfl, zmul, zadd], hg.2.1]
    rw [ol_e, ol_e, e1]
    rw [show (37 : Int32) + ((3 : Int32) * nI P) = nI (37 + 3 * P) by rw [show (37 : Int32) = nI 37 from rfl, show (3 : Int32) = nI 3 from rfl, zmul, zadd], show nI (37 + 3 * P) + (1 : Int32) = nI (37 + 3 * P + 1) from zadd _ 1, show nI (37 + 3 * P) + (2 : Int32) = nI (37 + 3 * P + 2) from zadd _ 2, zin (by omega) (by omega), zin (by omega) (by omega), zin (by omega) (by omega), zcl (by omega), zcl (by omega), zcl (by omega)]
    simp only [og, ol]
    rw [sI_r, if_neg (by omega), sI_r, if_neg (by omega), h26, sI_r, if_neg (by omega), sI_r, if_neg (by omega), sI_r, if_neg (by omega), h36, zinc]
  refine ⟨_, E, ⟨fun j hj => ?_, by rw [sI_r, if_pos rfl], fun k hk i hi => ?_⟩, fun i hi => by rw [sI_n hi, sI_n hi, sI_n hi, sI_n hi, e5 i hi]⟩
  · rw [sI_r, if_neg (by omega), sI_r, if_neg (by omega), sI_r, if_neg (by omega), sI_r, if_neg (by omega), e4 j (by omega)]; exact hg.1 j hj
  · rw [sI_r, if_neg (by omega), sI_r, sI_r, sI_r]
    unfold wIns
    by_cases q2 : k = P
    · subst q2
      rw [if_neg (show ¬ k < k by omega), if_pos rfl]
      unfold nwB
      rcases (show i = 0 ∨ i = 1 ∨ i = 2 by omega) with rfl | rfl | rfl
      · rw [if_neg (by omega), if_neg (by omega), if_pos (by omega), if_pos rfl]
      · rw [if_neg (by omega), if_pos (by omega), if_neg (by omega), if_pos rfl]
      · rw [if_pos (by omega), if_neg (by omega), if_neg (by omega)]
    · rw [if_neg (by omega), if_neg (by omega), if_neg (by omega), if_neg q2]
      by_cases q1 : k < P
      · rw [if_pos q1]; exact e2 k q1 i hi
      · rw [if_neg q1]
        have := e3 (k - 1) (by omega) (by omega) i hi
        rw [show k - 1 + 1 = k by omega] at this
        exact this
theorem gR_upd {j v : Nat} (hg : gR (st.1 1) a n w) (hj : j < n) : gR ((sI st 1 (37 + 3 * j + 1) (nI v)).1 1) a n (wUpd j v w) := by
  refine ⟨fun i hi => by rw [sI_r, if_neg (by omega)]; exact hg.1 i hi, by rw [sI_r, if_neg (by omega)]; exact hg.2.1, fun k hk i hi => ?_⟩
  rw [sI_r]
  unfold wUpd
  by_cases q : i = 1 ∧ k = j
  · rw [if_pos (by omega), if_pos q]
  · rw [if_neg (by omega), if_neg q]; exact hg.2.2 k hk i hi
end Q20
