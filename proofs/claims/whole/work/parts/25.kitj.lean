/-! THE LAW'S OWN WORLD: the class's cells and the reference's side by side. -/
def jA (base : Nat) : Nat → Prop := fun q => base ≤ q ∧ ¬ (base + 71 ≤ q ∧ q < base + 81)
def jB (base : Nat) : Nat → Prop := fun q => base + 71 ≤ q ∧ q ≠ base + 81 ∧ q ≠ base + 82
def vC (D : va_G) (base : Nat) (cB cI cJ cZ cD cO : ClassId) (sK sV : Nat → Nat) : uV := (D, cT cB cI cJ cZ cD cO, shC (fun i => base + perm i) cB cI cJ cZ cD cO, fun i => base + perm i, 73, jA base, sK, sV)
def vJ (D : va_G) (base : Nat) (cB cI cJ cZ cD cO : ClassId) (sK sV : Nat → Nat) : uV := (D, cT cB cI cJ cZ cD cO, fun i f g d => if i < 73 then shC (fun i => base + perm i) cB cI cJ cZ cD cO i f g d else shM (fun i => base + 71 + i) cI cJ cZ (i - 73) f g d, fun i => if i < 73 then base + perm i else base + 71 + (i - 73), 83, cR base, sK, sV)
def jS (a b : uSt) : uSt := (fun i => if i < 73 then a.1 i else b.1 (i - 73), fun i => if i < 73 then a.2.1 i else b.2.1 (i - 73), fun i => if i < 73 then a.2.2 i else b.2.2 (i - 73))
theorem perm_lt (i : Nat) (h : i < 73) : perm i < 71 ∨ perm i = 81 ∨ perm i = 82 := by
  unfold perm
  repeat' split
  all_goals omega
theorem perm_inj (i j : Nat) (hi : i < 73) (hj : j < 73) (h : perm i = perm j) : i = j := by
  have e : ((List.range 73).all fun i => (List.range 73).all fun j => decide (perm i = perm j → i = j)) = true := by decide +kernel
  exact of_decide_eq_true (List.all_eq_true.mp (List.all_eq_true.mp e i (List.mem_range.mpr hi)) j (List.mem_range.mpr hj)) h
theorem uH_at {V : uV} {st : uSt} {H : Heap} (h : uH V st H) {i : Nat} (hi : i < vN V) : va_at (vD V) vwCl (vA V i, vS V i (st.1 i) (st.2.1 i) (st.2.2 i)) H := h i _ (uL_get hi)
section KJ
variable {D : va_G} {base : Nat} {cB cI cJ cZ cD cO : ClassId} {sK sV : Nat → Nat}
theorem vC_ok {l : Launch} (hl : l.stackTraces = false) : uWC l (vC D base cB cI cJ cZ cD cO sK sV) := by
  refine ⟨hl, ⟨fun i j hi hj h => ?_, fun i hi => ?_⟩, cB, cI, cJ, cZ, cD, cO, rfl, rfl, rfl⟩
  · have h : base + perm i = base + perm j := h
    exact perm_inj i j hi hj (by omega)
  · have := perm_lt i hi
    show base ≤ base + perm i ∧ ¬ (base + 71 ≤ base + perm i ∧ base + perm i < base + 81)
    omega
theorem vMj_ok {l : Launch} (hl : l.stackTraces = false) : uWM l (vM D (base + 71) cI cJ cZ (jB base) sK sV) := vM_ok hl (fun i hi => by show base + 71 ≤ base + 71 + i ∧ base + 71 + i ≠ base + 81 ∧ base + 71 + i ≠ base + 82; omega)
theorem vJ_ok : uVok (vJ D base cB cI cJ cZ cD cO sK sV) := by
  refine ⟨fun i j hi hj h => ?_, fun i hi => ?_⟩
  · have h : (if i < 73 then base + perm i else base + 71 + (i - 73)) = (if j < 73 then base + perm j else base + 71 + (j - 73)) := h
    have hi : i < 83 := hi
    have hj : j < 83 := hj
    by_cases h1 : i < 73
    · have p1 := perm_lt i h1
      by_cases h2 : j < 73
      · rw [if_pos h1, if_pos h2] at h
        exact perm_inj i j h1 h2 (by omega)
      · rw [if_pos h1, if_neg h2] at h
        omega
    · by_cases h2 : j < 73
      · have p2 := perm_lt j h2
        rw [if_neg h1, if_pos h2] at h
        omega
      · rw [if_neg h1, if_neg h2] at h
        omega
  · show base ≤ (if i < 73 then base + perm i else base + 71 + (i - 73))
    split <;> omega
theorem jH_C {a b : uSt} {H : Heap} (h : uH (vJ D base cB cI cJ cZ cD cO sK sV) (jS a b) H) : uH (vC D base cB cI cJ cZ cD cO sK sV) a H := by
  refine uH_of fun i hi => ?_
  have hi : i < 73 := hi
  have := uH_at h (show i < 83 by omega)
  simp only [vJ, vA, vS, vD, jS, if_pos hi] at this
  exact this
theorem jH_M {a b : uSt} {H : Heap} (h : uH (vJ D base cB cI cJ cZ cD cO sK sV) (jS a b) H) : uH (vM D (base + 71) cI cJ cZ (jB base) sK sV) b H := by
  refine uH_of fun i hi => ?_
  have hi : i < 10 := hi
  have := uH_at h (show i + 73 < 83 by omega)
  simp only [vJ, vA, vS, vD, jS, if_neg (show ¬ i + 73 < 73 by omega), Nat.add_sub_cancel] at this
  exact this
theorem jH_mk {a b : uSt} {H : Heap} (h1 : uH (vC D base cB cI cJ cZ cD cO sK sV) a H) (h2 : uH (vM D (base + 71) cI cJ cZ (jB base) sK sV) b H) : uH (vJ D base cB cI cJ cZ cD cO sK sV) (jS a b) H := by
  refine uH_of fun i hi => ?_
  have hi : i < 83 := hi
  by_cases hc : i < 73
  · have := uH_at h1 hc
    simp only [vJ, vA, vS, vD, jS, if_pos hc]
    exact this
  · have := uH_at h2 (show i - 73 < 10 by omega)
    simp only [vJ, vA, vS, vD, jS, if_neg hc]
    exact this
theorem jH_size {a b : uSt} {H : Heap} (h : uH (vJ D base cB cI cJ cZ cD cO sK sV) (jS a b) H) : base + 83 ≤ H.size := by
  have := (uH_at h (show 72 < 83 by decide)).lt
  have e : base + 82 < H.size := this
  omega
def jSub (V V2 : uV) : Prop := vD V = vD V2 ∧ vK V = vK V2 ∧ vV V = vV V2 ∧ (∀ U, va_K (vD V2) vwCl (vT V2) U → va_K (vD V) vwCl (vT V) U) ∧ (∀ q, vR V q → vR V2 q)
def jGo (V V2 : uV) (st st2 st' st2' : uSt) : Prop := (∀ H, uH V2 st2 H → uH V st H ∧ ∀ q, H.size ≤ q → vR V q) ∧ (∀ H H', uH V2 st2 H → uH V st' H' → (∀ q, q < H.size → ¬ vR V q → H'[q]? = H[q]?) → uH V2 st2' H')
theorem jSub_C : jSub (vC D base cB cI cJ cZ cD cO sK sV) (vJ D base cB cI cJ cZ cD cO sK sV) := ⟨rfl, rfl, rfl, fun U h => h, fun q h => h.1⟩
theorem jSub_M : jSub (vM D (base + 71) cI cJ cZ (jB base) sK sV) (vJ D base cB cI cJ cZ cD cO sK sV) := ⟨rfl, rfl, rfl, fun U h => va_K.sub h [1, 2, 3] rfl, fun q h => by have := h.1; show base ≤ q; omega⟩
theorem jGo_C (a b a' : uSt) : jGo (vC D base cB cI cJ cZ cD cO sK sV) (vJ D base cB cI cJ cZ cD cO sK sV) a (jS a b) a' (jS a' b) := by
  refine ⟨fun H h => ⟨jH_C h, fun q hq => ?_⟩, fun H H' h h' hk => jH_mk h' (uH_of fun i hi => ?_)⟩
  · have := jH_size h
    show base ≤ q ∧ ¬ (base + 71 ≤ q ∧ q < base + 81)
    omega
  · have hz := jH_size h
    have hi : i < 10 := hi
    exact (uH_at (jH_M h) hi).kept (hk _ (by show base + 71 + i < H.size; omega) (by show ¬ (base ≤ base + 71 + i ∧ ¬ (base + 71 ≤ base + 71 + i ∧ base + 71 + i < base + 81)); omega))
theorem jGo_M (a b b' : uSt) : jGo (vM D (base + 71) cI cJ cZ (jB base) sK sV) (vJ D base cB cI cJ cZ cD cO sK sV) b (jS a b) b' (jS a b') := by
  refine ⟨fun H h => ⟨jH_M h, fun q hq => ?_⟩, fun H H' h h' hk => jH_mk (uH_of fun i hi => ?_) h'⟩
  · have := jH_size h
    show base + 71 ≤ q ∧ q ≠ base + 81 ∧ q ≠ base + 82
    omega
  · have hz := jH_size h
    have hi : i < 73 := hi
    have hp := perm_lt i hi
    exact (uH_at (jH_C h) hi).kept (hk _ (by show base + perm i < H.size; omega) (by show ¬ (base + 71 ≤ base + perm i ∧ base + perm i ≠ base + 81 ∧ base + perm i ≠ base + 82); omega))
theorem jOut : uArL (vJ D base cB cI cJ cZ cD cO sK sV) 71 1 := ⟨cJ, 2, ⟨(by show 71 < 83; decide), fun f g d => rfl⟩, rfl⟩
theorem jOutD : uArD (vJ D base cB cI cJ cZ cD cO sK sV) 72 1 := ⟨cD, 4, ⟨(by show 72 < 83; decide), fun f g d => rfl⟩, rfl⟩
end KJ
section JX
variable {M : uM} {V V2 : uV} {cc : ByteArray} {nL : Nat} {own : String} {rf rl rc rs : Nat} {Q : State → Prop} {cells slots pc pc' : Nat} {lv : List (Nat × Value)} {stk : List Value} {st st2 st' st2' : uSt}
theorem uPre_atJ (C : uCx M V2 cc nL own rf rl rc rs) (hs : jSub V V2) (hg : jGo V V2 st st2 st' st2') {H : Heap} {locs : List Loc} {args : List Value} (hP : uH V2 st2 H) (hS : va_S (vR V2) (mS M).heap H locs) : ∀ U : State, U.heap = H → (mS M).WarmedH U.vm → uPre V args st args.toArray U := fun U hU hW => by
  obtain ⟨s1, s2, s3, s4, s5⟩ := hs
  refine ⟨rfl, by rw [hU]; exact (hg.1 H hP).1, va_K.moved hW.alike (s4 _ C.k), fun q hq => (hg.1 H hP).2 q (by rw [← hU]; exact hq), ?_⟩
  rw [s2, s3]
  exact uG_narrow (uG_step C.g hW (fun q h1 h2 => by rw [hU]; exact hS.2.1 q h1 h2)) s5
theorem ux_runJ (hs : jSub V V2) (hg : jGo V V2 st st2 st' st2') {H : Heap} {locs : List Loc} {ls : Array Slot} {a : Array Value} {ov : Option Value} {mc ms : Nat} {stk0 rest : List Value} (hr : va_Run (mP M) (mL M) (mE M) (mR M) (mS M) (mM M) (mA M) (mB M) (mT M) (mC M) H locs cells slots mc ms (F0 (mM M) pc ls stk0) rest (uQ V ov st' a) (vR V)) (hP : uH V2 st2 H) (hS : va_S (vR V2) (mS M).heap H locs) (hl : lv_has ls nL lv)
    (k : uW M V2 Q nL (cells + mc) (slots + ms) (pc + 3) lv (ov.toList ++ rest) st2') : W (mP M) (mL M) (mE M) (mR M) (mS M) (mM M) (mA M) (mB M) (mT M) (mC M) H locs cells slots Q (F0 (mM M) pc ls stk0) := by
  intro T hT X
  obtain ⟨v, st₀, t, T', L, h0, X', hL, e1, e2, ⟨hv, hw, hz, hk⟩, st⟩ := hr T hT X
  cases hv
  rw [h0] at hz hk
  obtain ⟨t2, a1, b1⟩ := k T'.heap (locs ++ L) ls (by rw [e1]; exact hg.2 H t.heap hP hw hk)
    ⟨Nat.le_trans hS.1 (by rw [e1]; exact hz), fun q h1 h2 => by rw [e1, hk q (Nat.lt_of_lt_of_le h1 hS.1) (fun h3 => h2 (hs.2.2.2.2 q h3))]; exact hS.2.1 q h1 h2, fun q hq => by
      rcases List.mem_append.mp hq with h | h
      · exact hS.2.2 q h
      · exact hs.2.2.2.2 _ (hL q h)⟩ hl T' rfl X'
  exact ⟨t2, st t2 a1, b1⟩
theorem jx_callV (C : uCx M V2 cc nL own rf rl rc rs) (hs : jSub V V2) (hg : jGo V V2 st st2 st' st2') {index n ci id : Nat} {Cn : String} {T : u_T} {Nf : Nat} {fs : (Nat → Int32) → List Value} {y : MethodName} {cc' : ByteArray} {nL' rf' rl' mc ms : Nat} {ret : Option FieldType} {As : List Value} {ov : Option Value} (cv : uCV own index Cn y cc' nL' ret n) (hd : uD 3 cc pc (.invokevirtual index) pc') (hob : uOb V id ci fs) (hc : vwCl[ci]? = some (Cn, T, Nf))
    (hM : uMet (mL M) V y cc' nL' ret rf' rl' mc ms (.ref (vA V id) :: As) st ov st') (hn : As.length = n) (hw : (stk.map fun v => v.category).sum ≤ 8) (hR : rf' + 1 ≤ rf ∧ 8 + (nL' + 11) + rl' ≤ rl) (hf : cells + mc ≤ rc ∧ slots + ms ≤ rs)
    (k : uW M V2 Q nL (cells + mc) (slots + ms) pc' lv (ov.toList ++ stk) st2') {stk0 : List Value} (h0 : stk0 = As.reverse ++ .ref (vA V id) :: stk) : uW M V2 Q nL cells slots pc lv stk0 st2 := by
  obtain ⟨hd, rfl⟩ := hd
  subst h0
  intro H locs ls hP hS hl
  obtain ⟨r1, r2, r3, r4⟩ := C.room
  exact ux_runJ hs hg (va_runV (As := As) (rest := stk) ⟨C.1, C.2.1, C.maxL, C.own, C.words⟩ hM (cwV n C.words cv.good rfl rfl rfl cv.2 ⟨Nat.le_trans hR.1 r1, Nat.le_trans hR.2 r2⟩) ⟨uPre_blind, va_recv (hs.2.2.2.1 _ C.k) (hg.1 H hP).1 hc ((uL_get hob.1).trans (by rw [hob.2])), uPre_atJ C hs hg hP hS⟩ rfl hn hl.1 rfl (lv_room hw) hd ⟨Nat.le_trans hf.1 r3, Nat.le_trans hf.2 r4⟩) hP hS hl k
def uCSH (own : String) (index : Nat) (y : MethodName) (cc : ByteArray) (nL : Nat) (ret : Option FieldType) (hh : List (Nat × Nat × Nat × Nat)) (n : Nat) : Prop :=
  (∀ w ∈ ([.methodLink own index y, .static y, .initialized y.cls, .codeWith y cc nL ret hh] : List Cond), w ∈ gw) ∧ (y.cls ≠ "java/lang/invoke/MethodHandle" ∧ y.cls ≠ "java/lang/invoke/VarHandle" ∧ (parseMethodDescriptor y.desc).map (fun d => d.parameters.length) = some n)
theorem uCSH.good {own : String} {index nL n : Nat} {y : MethodName} {cc : ByteArray} {ret : Option FieldType} {hh : List (Nat × Nat × Nat × Nat)} (h : uCSH own index y cc nL ret hh n) : GoodIn gw (va_wsS own index y (Cond.codeWith y cc nL ret hh :: gw)) := by
  refine gw_goodIn fun w hw => ?_
  unfold va_wsS at hw
  rcases List.mem_append.mp hw with hw | hw
  · exact h.1 w (List.mem_append_left [_] hw)
  · rcases List.mem_cons.mp hw with rfl | hw
    · exact h.1 _ (by simp)
    · exact hw
theorem jx_callH (C : uCx M V2 cc nL own rf rl rc rs) (hs : jSub V V2) (hg : jGo V V2 st st2 st' st2') {index n : Nat} {y : MethodName} {cc' : ByteArray} {nL' rf' rl' mc ms : Nat} {ret : Option FieldType} {hh : List (Nat × Nat × Nat × Nat)} {As : List Value} {ov : Option Value} (cv : uCSH own index y cc' nL' ret hh n) (hd : uD 3 cc pc (.invokestatic index) pc')
    (hM : uMetH (mL M) V y cc' nL' ret hh rf' rl' mc ms As st ov st') (hn : As.length = n) (hw : (stk.map fun v => v.category).sum ≤ 8) (hR : rf' + 1 ≤ rf ∧ 8 + (nL' + 11) + rl' ≤ rl) (hf : cells + mc ≤ rc ∧ slots + ms ≤ rs)
    (k : uW M V2 Q nL (cells + mc) (slots + ms) pc' lv (ov.toList ++ stk) st2') {stk0 : List Value} (h0 : stk0 = As.reverse ++ stk) : uW M V2 Q nL cells slots pc lv stk0 st2 := by
  obtain ⟨hd, rfl⟩ := hd
  subst h0
  intro H locs ls hP hS hl
  obtain ⟨r1, r2, r3, r4⟩ := C.room
  exact ux_runJ hs hg (vx_runSW (As := As) (rest := stk) (hh := hh) ⟨C.1, C.2.1, C.maxL, C.own, C.words⟩ hM (vx_cwSW n C.words cv.good rfl rfl rfl cv.2 ⟨Nat.le_trans hR.1 r1, Nat.le_trans hR.2 r2⟩) ⟨uPre_blind, uPre_atJ C hs hg hP hS⟩ rfl hn hl.1 rfl (lv_room hw) hd ⟨Nat.le_trans hf.1 r3, Nat.le_trans hf.2 r4⟩) hP hS hl k
/-- the script -/
theorem jx_sld (C : uCx M V cc nL own rf rl rc rs) {b L : Nat} {xs : Nat → Int32} (hX : va_X b L xs (mS M) (mS M).heap) (hbl : b < (mS M).heap.size) (hbA : ¬ vR V b) {i x : Int32} (hin : vp_in i L) (hx : xs i.toNatClampNeg = x) (hd : uD 1 cc pc (.iaload) pc') (k : uW M V Q nL cells slots pc' lv (.int x :: stk) st) : uW M V Q nL cells slots pc lv (.int i :: .ref b :: stk) st := by
  obtain ⟨hd, rfl⟩ := hd
  subst hx
  intro H locs ls hP hS hl
  exact va_sld C.1 C.2.1 hX hbl hbA hS hin hd (k H locs ls hP hS hl)
theorem jx_slen (C : uCx M V cc nL own rf rl rc rs) {b L : Nat} {xs : Nat → Int32} (hX : va_X b L xs (mS M) (mS M).heap) (hbl : b < (mS M).heap.size) (hbA : ¬ vR V b) (hd : uD 1 cc pc (.arraylength) pc') (k : uW M V Q nL cells slots pc' lv (.int (Int32.ofNat L) :: stk) st) : uW M V Q nL cells slots pc lv (.ref b :: stk) st := by
  obtain ⟨hd, rfl⟩ := hd
  intro H locs ls hP hS hl
  exact va_slen C.1 C.2.1 hX hbl hbA hS hd (k H locs ls hP hS hl)
end JX
section JY
variable {M : uM} {V : uV} {cc : ByteArray} {nL : Nat} {own : String} {rf rl rc rs : Nat} {Q : State → Prop} {cells slots pc pc' : Nat} {lv : List (Nat × Value)} {stk : List Value} {st : uSt}
theorem jx_istore (C : uCx M V cc nL own rf rl rc rs) {i : Nat} {x : Int32} {lv' : List (Nat × Value)} (hd : uD 2 cc pc (.istore i) pc') (hf : (i, Value.int x) :: lv.filter (fun q => !(q.1 == i) && !(q.1 + 1 == i && q.2.category == 2)) = lv') (hn : i < nL) (k : uW M V Q nL cells slots pc' lv' stk st) : uW M V Q nL cells slots pc lv (.int x :: stk) st := by
  obtain ⟨hd, rfl⟩ := hd
  intro H locs ls hP hS hl
  exact lv_istore C.1 C.2.1 hd hl hn hf (fun ls hl => k H locs ls hP hS hl)
theorem jx_dstore (C : uCx M V cc nL own rf rl rc rs) {i : Nat} {x : UInt64} {lv' : List (Nat × Value)} (hd : uD 2 cc pc (.dstore i) pc') (hf : (i, Value.double x) :: lv.filter (fun q => !(q.1 == i) && (!(q.1 == i + 1) && !(q.1 + 1 == i && q.2.category == 2))) = lv') (hn : i + 1 < nL) (k : uW M V Q nL cells slots pc' lv' stk st) : uW M V Q nL cells slots pc lv (.double x :: stk) st := by
  obtain ⟨hd, rfl⟩ := hd
  intro H locs ls hP hS hl
  exact lv_dstore C.1 C.2.1 hd hl hn hf (fun ls hl => k H locs ls hP hS hl)
theorem jx_iinc (C : uCx M V cc nL own rf rl rc rs) {i : Nat} {m9 : Int} {x v : Int32} {lv' : List (Nat × Value)} (hd : uD 3 cc pc (.iinc i m9) pc') (j : Nat) (hj : lv[j]? = some (i, .int x)) (hv : x + Int32.ofInt m9 = v) (hf : (i, Value.int v) :: lv.filter (fun q => !(q.1 == i) && !(q.1 + 1 == i && q.2.category == 2)) = lv') (hn : i < nL) (k : uW M V Q nL cells slots pc' lv' stk st) : uW M V Q nL cells slots pc lv stk st := by
  obtain ⟨hd, rfl⟩ := hd
  intro H locs ls hP hS hl
  exact lv_iinc C.1 C.2.1 hd hl hj hv hn hf (fun ls hl => k H locs ls hP hS hl)
theorem jx_ifeq_t (C : uCx M V cc nL own rf rl rc rs) {tgt : Nat} {x : Int32} (hd : uJ cc pc (fun o => .ifCond .eq o) tgt pc') (hx : x = 0) (k : uW M V Q nL cells slots tgt lv stk st) : uW M V Q nL cells slots pc lv (.int x :: stk) st := ux_if_eq (a := some ()) (b := none) C hd (if_pos hx) (fun _ => k) (fun h => by cases h)
theorem jx_ifeq_f (C : uCx M V cc nL own rf rl rc rs) {tgt : Nat} {x : Int32} (hd : uJ cc pc (fun o => .ifCond .eq o) tgt pc') (hx : ¬ x = 0) (k : uW M V Q nL cells slots pc' lv stk st) : uW M V Q nL cells slots pc lv (.int x :: stk) st := ux_if_eq (a := none) (b := some ()) C hd (if_neg hx) (fun h => by cases h) (fun _ => k)
theorem jx_ifne_f (C : uCx M V cc nL own rf rl rc rs) {tgt : Nat} {x : Int32} (hd : uJ cc pc (fun o => .ifCond .ne o) tgt pc') (hx : x = 0) (k : uW M V Q nL cells slots pc' lv stk st) : uW M V Q nL cells slots pc lv (.int x :: stk) st := ux_if_ne (a := some ()) (b := none) C hd (if_pos hx) (fun _ => k) (fun h => by cases h)
theorem jx_ifne_t (C : uCx M V cc nL own rf rl rc rs) {tgt : Nat} {x : Int32} (hd : uJ cc pc (fun o => .ifCond .ne o) tgt pc') (hx : ¬ x = 0) (k : uW M V Q nL cells slots tgt lv stk st) : uW M V Q nL cells slots pc lv (.int x :: stk) st := ux_if_ne (a := none) (b := some ()) C hd (if_neg hx) (fun h => by cases h) (fun _ => k)
theorem jx_same (C : uCx M V cc nL own rf rl rc rs) {tgt : Nat} {x y : Int32} (hd : uJ cc pc (fun o => .if_icmp .eq o) tgt pc') (hx : x = y) (k : uW M V Q nL cells slots tgt lv stk st) : uW M V Q nL cells slots pc lv (.int y :: .int x :: stk) st := ux_icmp_eq (a := some ()) (b := none) C hd (if_pos hx) (fun _ => k) (fun h => by cases h)
theorem jx_gt_t (C : uCx M V cc nL own rf rl rc rs) {tgt : Nat} {x y : Int32} (hd : uJ cc pc (fun o => .if_icmp .gt o) tgt pc') (hx : y < x) (k : uW M V Q nL cells slots tgt lv stk st) : uW M V Q nL cells slots pc lv (.int y :: .int x :: stk) st := ux_icmp_gt (a := some ()) (b := none) C hd (if_pos hx) (fun _ => k) (fun h => by cases h)
theorem jx_gt_f (C : uCx M V cc nL own rf rl rc rs) {tgt : Nat} {x y : Int32} (hd : uJ cc pc (fun o => .if_icmp .gt o) tgt pc') (hx : ¬ y < x) (k : uW M V Q nL cells slots pc' lv stk st) : uW M V Q nL cells slots pc lv (.int y :: .int x :: stk) st := ux_icmp_gt (a := none) (b := some ()) C hd (if_neg hx) (fun h => by cases h) (fun _ => k)
theorem jx_dald (C : uCx M V cc nL own rf rl rc rs) {id n j : Nat} {i : Int32} (ar : uArD V id n) (hd : uD 1 cc pc (.daload) pc') (hi : inB i n = true) (hj : i.toNatClampNeg = j) (k : uW M V Q nL cells slots pc' lv (.double (st.2.2 id j) :: stk) st) : uW M V Q nL cells slots pc lv (.int i :: .ref (vA V id) :: stk) st := by
  obtain ⟨hd, rfl⟩ := hd
  obtain ⟨cA, t0, ⟨h1, h2⟩, h3⟩ := ar
  subst hj
  intro H locs ls hP hS hl
  exact va_dald C.1 C.2.1 C.k hP id t0 ((uL_get h1).trans (by rw [h2])) h3 (inB_in hi) hd (k H locs ls hP hS hl)
theorem jx_dcmp (C : uCx M V cc nL own rf rl rc rs) {x y : UInt64} {op : CmpOp} (hd : uD 1 cc pc (.dcmp op) pc') (k : uW M V Q nL cells slots pc' lv (.int (Op.cmpValue (FP.dcmp x y) op) :: stk) st) : uW M V Q nL cells slots pc lv (.double y :: .double x :: stk) st := by
  obtain ⟨hd, rfl⟩ := hd
  intro H locs ls hP hS hl
  exact lv_dcmp C.1 C.2.1 hd (k H locs ls hP hS hl)
end JY
theorem lg_same {x y : Int64} (h : x = y) : lg_cmp x y = 0 := by
  subst h
  unfold lg_cmp
  simp
theorem jin {i L k : Nat} {c : Int32} {xs : Nat → Int32} (hk : nI k = c) (h : i + k < L) (hL : L ≤ 3072) : vp_in (nI i + c) L ∧ xs (nI i + c).toNatClampNeg = xs (i + k) := by
  subst hk
  have e : nI i + nI k = nI (i + k) := by unfold nI; rw [Int32.ofNat_add]
  rw [e]
  exact ⟨vp_in_nI h (by omega), by rw [nI_clamp (by omega)]⟩
theorem jin0 {i L : Nat} {xs : Nat → Int32} (h : i < L) (hL : L ≤ 3072) : vp_in (nI i) L ∧ xs (nI i).toNatClampNeg = xs i := ⟨vp_in_nI h (by omega), by rw [nI_clamp (by omega)]⟩
/-! what a call of the law needs: both sides answer, alike -/
def cKI (F G : uSt → Option (Int32 × uSt)) (P : uSt → uSt → Prop) (a c : uSt) : Prop := ∃ k a1 r c1, F a = some (k, a1) ∧ G c = some (r, c1) ∧ c1.1 0 0 = k ∧ (k = 0 → a1.2.1 71 0 = r.toInt64) ∧ P a1 c1
def cKB (F G : uSt → Option (Int32 × uSt)) (P : uSt → uSt → Prop) (a c : uSt) : Prop := ∃ k a1 r c1, F a = some (k, a1) ∧ G c = some (r, c1) ∧ c1.1 0 0 = k ∧ (k = 0 → a1.2.1 71 0 = if r = 0 then 0 else 1) ∧ P a1 c1
def cKD (F : uSt → Option (Int32 × uSt)) (G : uSt → Option (UInt64 × uSt)) (P : uSt → uSt → Prop) (a c : uSt) : Prop := ∃ k a1 r c1, F a = some (k, a1) ∧ G c = some (r, c1) ∧ c1.1 0 0 = k ∧ (k = 0 → a1.2.2 72 0 = r) ∧ P a1 c1
def cKV (F : uSt → Option (Int32 × uSt)) (G : uSt → Option (Unit × uSt)) (P : uSt → uSt → Prop) (a c : uSt) : Prop := ∃ k a1 r c1, F a = some (k, a1) ∧ G c = some (r, c1) ∧ c1.1 0 0 = k ∧ P a1 c1
/-- plain answers: with and without a change of state -/
def cQ0 (F : uSt → Option Int32) (G : uSt → Option (Int32 × uSt)) (P : uSt → uSt → Prop) (a c : uSt) : Prop := ∃ r c1, F a = some r ∧ G c = some (r, c1) ∧ P a c1
def cQ1 (F G : uSt → Option (Int32 × uSt)) (P : uSt → uSt → Prop) (a c : uSt) : Prop := ∃ r a1 c1, F a = some (r, a1) ∧ G c = some (r, c1) ∧ P a1 c1
def bz (x : Int32) : Int32 := if x = 0 then 0 else 1
