/-! THE CLAIM OUT OF ONE WALK OF THE LAW'S BODY. Your part is whole_start (and what it stands on); all else here is the same for every law, but numbers. -/
def R_law : String := "FlushPlannerLaw"
def lw_P (b : Addr) (xs : List Int32) (args : Array Value) (s : State) : Prop := args = #[.ref b] ∧ s.IntsAt b xs ∧ xs.length ≤ 3072 ∧ (Jvm.Cond.and given_1 narrow_1).before args s = true
/-- what a walk over the start with the record d0 says of its end, said of the start itself -/
theorem lw_closed {s t : State} {o : Outcome} {d0 : Drawn} {L : List Loc} {k n : Nat} (hd0 : s.drawn.sameBut d0 lw_cs) (hv : ∃ v, o = .returned v) (hW : (s.setDrawn d0).WarmedH t.vm) (hs : (s.setDrawn d0).sameButNew ({ t with vm := s.vm } : State) L k n) : State.butDraws s t lw_cs (fun t1 => Framed s o t1 L k n) := by
  have h2 : t.drawn = d0 := congrArg State.drawn hs.1
  refine ⟨⟨hv, hW, State.sameButNew.setDrawn hs s.drawn⟩, ?_, by decide⟩
  rw [h2]
  exact hd0
def lw_Q (_ : Array Value) (s : State) (o : Outcome) (t : State) : Prop := o = .returned (some (.int 1)) ∧ State.butDraws s t lw_cs (fun t1 => Framed s o t1 [] 601024 7293034)
def lw_Z (below : List Frame) (a : Array Value) (s : State) : State → Prop := fun t => ∃ o, t.status = .running ∧ Ended t below o ∧ lw_Q a s o t
/-- the law's own end, with 1 on the stack, nothing written that was there before, its room as the claim has it; d0: the record of draws at this point (at the entry s.drawn: begin with 'refine W.base ?_' and 'have hd0 := Drawn.sameBut.refl s.drawn lw_cs') -/
theorem lw_ret {p : Program} {l : Launch} {e : Env} {s : State} {m : MethodId} {below : List Frame} {meth : Method} {c : Code} {b : Nat} {d0 : Drawn} (hd0 : s.drawn.sameBut d0 lw_cs) (hx : p.tables.exec = Jvm.exec) (hb : c.code = code) (hr : meth.sig.returnType = ret) (hlocks : meth.locks = false) {pc : Nat} {H : Heap} {ls : Array Slot} (hdg : decode code pc = .ok (.ireturn, 1)) : W p l e room_1 (s.setDrawn d0) m #[Value.ref b] below meth c H [] 601024 7293034 (lw_Z below #[Value.ref b] s) (F0 m pc ls [.int 1]) := by
  intro T hT X
  obtain ⟨fs, hret, hrun, hended, hW, hframe⟩ := X.leave (v := some (.int 1)) (hlocks := hlocks) (fun h => by rw [hr] at h; cases h)
  have hmeth' : T.vm.method? m = some meth := X.method'
  refine ⟨T.setFrames fs, ?_, .returned (some (.int 1)), hrun, hended, rfl, lw_closed hd0 ⟨_, rfl⟩ hW hframe⟩
  jvm_step X.here [X.here.top, hx, hb, hdg, hmeth', hr, ret, narrow_b1]
  (try refine ⟨rfl, ?_⟩); (try refine ⟨rfl, ?_⟩)
  first | (intro acts; rw [hret _ acts rfl rfl rfl]) | rw [hret _ _ rfl rfl rfl]
  exact Steps.refl _
/-- what holds at the law's entry: the machine, the code, the tables' words (any of lw_tbl by 'hts w (by decide +kernel)'), the script of L ints xs at the cell b, what the Statement gives of the start (any of its parts by flat_of_before) -/
def lw_At (p : Program) (s : State) (m : MethodId) (meth : Method) (c : Code) (b L : Nat) (xs : Nat → Int32) : Prop :=
  p.tables.exec = Jvm.exec ∧ c.code = code ∧ meth.sig.returnType = ret ∧ c.maxLocals = 9 ∧ s.vm.findClass R_law = some m.cls ∧ (∀ w ∈ lw_tbl, w.before #[Value.ref b] s = true) ∧ va_X b L xs s s.heap ∧ b < s.heap.size ∧ meth.locks = false ∧ (Jvm.Cond.and given_1 narrow_1).before #[Value.ref b] s = true
/-- what the law asks of a relation between the two sides -/
def lwCases (R : Nat → uSt → uSt → Prop) : Prop := ∀ n, n < 512 → ∀ a c, R n a c → R (n + 1) a c ∧ ∀ x1 x2 x3 x4 x5 : Int32, cKI (fL_append x1 x2 x3 x4 x5) (fX8_append x1 x2 x3 x4 x5) (R (n + 1)) a c ∧ cKI (fL_truncate x1) (fX8_truncate x1) (R (n + 1)) a c ∧ cKI (fL_load) (fX8_load) (R (n + 1)) a c ∧ cQ0 (fX7_errorCode) (fX8_errorCode) (R (n + 1)) a c ∧ cQ0 (fX7_errorPosition) (fX8_errorPosition) (R (n + 1)) a c ∧ cKI (fL_report x1) (fX8_report x1) (R (n + 1)) a c ∧ cKI (fL_device x1 x2) (fX8_device x1 x2) (R (n + 1)) a c ∧ cKI (fL_block x1 x2) (fX8_block x1 x2) (R (n + 1)) a c ∧ cKI (fL_find x1 x2) (fX8_find x1 x2) (R (n + 1)) a c ∧ cKI (fL_oldest) (fX8_oldest) (R (n + 1)) a c ∧ cKI (fL_total x1) (fX8_total x1) (R (n + 1)) a c ∧ cKB (fL_write x1 x2 x3) (fX8_write x1 x2 x3) (R (n + 1)) a c ∧ cKB (fL_wouldCache x1 x2 x3) (fX8_wouldCache x1 x2 x3) (R (n + 1)) a c ∧ cKI (fL_clean x1) (fX8_clean x1) (R (n + 1)) a c ∧ cKB (fL_setFailed x1 (bz x2)) (fX8_setFailed x1 (bz x2)) (R (n + 1)) a c ∧ cKI (fL_setMode x1 x2) (fX8_setMode x1 x2) (R (n + 1)) a c ∧ cQ1 (fX7_setPower (bz x1)) (fX8_setPower (bz x1)) (R (n + 1)) a c ∧ cKI (fL_advance x1) (fX8_advance x1) (R (n + 1)) a c ∧ cKI (fL_flush) (fX8_flush) (R (n + 1)) a c ∧ cKI (fL_flushDevice x1) (fX8_flushDevice x1) (R (n + 1)) a c ∧ cQ0 (fX7_need) (fX8_need) (R (n + 1)) a c ∧ cKI (fL_energyOf x1) (fX8_energyOf x1) (R (n + 1)) a c ∧ cKI (fL_valueOf x1) (fX8_valueOf x1) (R (n + 1)) a c ∧ cKI (fL_bestSet x1) (fX8_bestSet x1) (R (n + 1)) a c ∧ cKI (fL_bestValue x1) (fX8_bestValue x1) (R (n + 1)) a c ∧ cKI (fL_greedySet x1) (fX8_greedySet x1) (R (n + 1)) a c ∧ cKD (fL_quality x1) (fX8_quality x1) (R (n + 1)) a c ∧ cKI (fL_energyFor x1) (fX8_energyFor x1) (R (n + 1)) a c ∧ cKI (fL_extra x1) (fX8_extra x1) (R (n + 1)) a c ∧ cQ1 (fX7_minutesLeft) (fX8_minutesLeft) (R (n + 1)) a c ∧ cKI (fL_valueAfter x1) (fX8_valueAfter x1) (R (n + 1)) a c ∧ cQ0 (fX7_minutesToSafety) (fX8_minutesToSafety) (R (n + 1)) a c ∧ cKI (fL_gainOfRepair x1) (fX8_gainOfRepair x1) (R (n + 1)) a c ∧ cKI (fL_costliest) (fX8_costliest) (R (n + 1)) a c ∧ cKV (fL_save x1) (fX8_save x1) (R (n + 1)) a c ∧ cKV (fL_restore x1) (fX8_restore x1) (R (n + 1)) a c
theorem jgt {i L : Nat} (hi : i ≤ 4000) (hL : L ≤ 3072) : (nI L - 6 < nI i) ↔ (L < i + 6) := by
  have e : (nI L - 6).toInt = (L : Int) - 6 := by
    rw [Int32.toInt_sub, nI_toInt (by omega)]
    show ((L : Int) - 6).bmod (2 ^ 32) = _
    rw [Int.bmod_eq_of_le (by omega) (by omega)]
  rw [Int32.lt_iff_toInt_lt, e, nI_toInt (by omega)]
  omega
theorem and63 (x : Int32) : (∃ n : Nat, n < 36 ∧ x &&& 63 = nI n) ∨ ((x &&& 63).toInt < 0 ∨ 35 < (x &&& 63).toInt) := by
  by_cases h1 : (x &&& 63).toInt < 0
  · exact Or.inr (Or.inl h1)
  · by_cases h2 : 35 < (x &&& 63).toInt
    · exact Or.inr (Or.inr h2)
    · obtain ⟨j, hj, e⟩ := nI_of (x := x &&& 63) (fun h => h1 (by have := Int32.lt_iff_toInt_lt.mp h; simpa using this))
      refine Or.inl ⟨j, ?_, e⟩
      rw [e, nI_toInt hj] at h2
      omega
set_option maxRecDepth 100000 in
set_option maxHeartbeats 4000000 in
theorem law_loop {M : uM} {D : va_G} {base : Nat} {cB cI cJ cZ cD cO : ClassId} {sK sV : Nat → Nat} {b L : Nat} {xs : Nat → Int32} {Q : State → Prop} {R : Nat → uSt → uSt → Prop} (hR : lwCases R) (C : uCx M (vJ D base cB cI cJ cZ cD cO sK sV) cL_law 9 RL 15 560 601024 7293034) (hX : va_X b L xs (mS M) (mS M).heap) (hbl : b < (mS M).heap.size) (hbb : ¬ base ≤ b) (hL : L ≤ 3072)
    (hend : ∀ (cells slots i : Nat) (a c : uSt), cells ≤ 601024 → slots ≤ 7293034 → uW M (vJ D base cB cI cJ cZ cD cO sK sV) Q 9 cells slots 2122 [(5, .int (nI i)), (4, .ref (vA (vC D base cB cI cJ cZ cD cO sK sV) 72)), (3, .ref (vA (vC D base cB cI cJ cZ cD cO sK sV) 71)), (2, .ref (vA (vM D (base + 71) cI cJ cZ (jB base) sK sV) 0)), (1, .ref (vA (vC D base cB cI cJ cZ cD cO sK sV) 0)), (0, .ref b)] [] (jS a c)) :
    ∀ (k j : Nat) (a c : uSt), j + k = 512 → R j a c → uW M (vJ D base cB cI cJ cZ cD cO sK sV) Q 9 (83 + 8 * j) (10000 + 60 * j) 28 [(5, .int (nI (6 * j))), (4, .ref (vA (vC D base cB cI cJ cZ cD cO sK sV) 72)), (3, .ref (vA (vC D base cB cI cJ cZ cD cO sK sV) 71)), (2, .ref (vA (vM D (base + 71) cI cJ cZ (jB base) sK sV) 0)), (1, .ref (vA (vC D base cB cI cJ cZ cD cO sK sV) 0)), (0, .ref b)] [] (jS a c) := by
  intro k
  induction k with
  | zero =>
    intro j a c hj hr
    refine ux_iload C dL_law_28 0 rfl ?_
    refine ux_aload_n C dL_law_30 5 rfl ?_
    refine jx_slen C hX hbl hbb dL_law_31 ?_
    refine ux_bipush (v := 6) C dL_law_32 (by decide) ?_
    refine ux_isub C dL_law_34 ?_
    refine jx_gt_t C dL_law_35 ((jgt (by omega) hL).mpr (by omega)) ?_
    exact hend _ _ _ _ _ (by omega) (by omega)
  | succ k ih =>
    intro j a c hj hr
    refine ux_iload C dL_law_28 0 rfl ?_
    refine ux_aload_n C dL_law_30 5 rfl ?_
    refine jx_slen C hX hbl hbb dL_law_31 ?_
    refine ux_bipush (v := 6) C dL_law_32 (by decide) ?_
    refine ux_isub C dL_law_34 ?_
    by_cases hz : L < 6 * j + 6
    · refine jx_gt_t C dL_law_35 ((jgt (by omega) hL).mpr hz) ?_
      exact hend _ _ _ _ _ (by omega) (by omega)
    refine jx_gt_f C dL_law_35 (fun h => hz ((jgt (by omega) hL).mp h)) ?_
    refine ux_aload_n C dL_law_38 5 rfl ?_
    refine ux_iload C dL_law_39 0 rfl ?_
    refine jx_sld C hX hbl hbb (jin0 (xs := xs) (i := 6 * j) (by omega) hL).1 (jin0 (xs := xs) (i := 6 * j) (by omega) hL).2 dL_law_41 ?_
    refine ux_bipush (v := 63) C dL_law_42 (by decide) ?_
    refine ux_iand C dL_law_44 ?_
    obtain ⟨hid, hcs⟩ := hR j (by omega) a c hr
    have K : ∀ a1 c1, R (j + 1) a1 c1 → uW M (vJ D base cB cI cJ cZ cD cO sK sV) Q 9 (83 + 8 * j + 8) (10000 + 60 * j + 60) 2116 [(5, .int (nI (6 * j))), (4, .ref (vA (vC D base cB cI cJ cZ cD cO sK sV) 72)), (3, .ref (vA (vC D base cB cI cJ cZ cD cO sK sV) 71)), (2, .ref (vA (vM D (base + 71) cI cJ cZ (jB base) sK sV) 0)), (1, .ref (vA (vC D base cB cI cJ cZ cD cO sK sV) 0)), (0, .ref b)] [] (jS a1 c1) := by
      intro a1 c1 h1
      refine jx_iinc C dL_law_2116 0 rfl (v := nI (6 * (j + 1))) (by show nI (6 * j) + nI 6 = _; rw [nI_add]; rfl) rfl (Nat.le_of_ble_eq_true rfl) ?_
      refine ux_goto C dL_law_2119 ?_
      exact ih (j + 1) a1 c1 (by omega) h1
    have hc := hcs (xs (6 * j + 1)) (xs (6 * j + 2)) (xs (6 * j + 3)) (xs (6 * j + 4)) (xs (6 * j + 5))
    rcases and63 (xs (6 * j)) with ⟨n, hn, e⟩ | ho
    · match n, hn with
      | 0, _ =>
        refine ux_tsIn (v := 0) (tgt := 204) (off := 159) C dL_law_45 (e.trans rfl) (by decide) (by decide) rfl (by decide) ?_
        exact lc_0 C hX hbl hbb hL (i := 6 * j) (by omega) rfl rfl rfl rfl rfl (by omega) (by omega) hc.1 K
      | 1, _ =>
        refine ux_tsIn (v := 1) (tgt := 308) (off := 263) C dL_law_45 (e.trans rfl) (by decide) (by decide) rfl (by decide) ?_
        exact lc_1 C hX hbl hbb hL (i := 6 * j) (by omega) rfl (by omega) (by omega) hc.2.1 K
      | 2, _ =>
        refine ux_tsIn (v := 2) (tgt := 364) (off := 319) C dL_law_45 (e.trans rfl) (by decide) (by decide) rfl (by decide) ?_
        exact lc_2 C hX hbl hbb hL (i := 6 * j) (by omega) (by omega) (by omega) hc.2.2.1 K
      | 3, _ =>
        refine ux_tsIn (v := 3) (tgt := 408) (off := 363) C dL_law_45 (e.trans rfl) (by decide) (by decide) rfl (by decide) ?_
        exact lc_3 C hX hbl hbb hL (i := 6 * j) (by omega) (by omega) (by omega) hc.2.2.2.1 K
      | 4, _ =>
        refine ux_tsIn (v := 4) (tgt := 421) (off := 376) C dL_law_45 (e.trans rfl) (by decide) (by decide) rfl (by decide) ?_
        exact lc_4 C hX hbl hbb hL (i := 6 * j) (by omega) (by omega) (by omega) hc.2.2.2.2.1 K
      | 5, _ =>
        refine ux_tsIn (v := 5) (tgt := 434) (off := 389) C dL_law_45 (e.trans rfl) (by decide) (by decide) rfl (by decide) ?_
        exact lc_5 C hX hbl hbb hL (i := 6 * j) (by omega) rfl (by omega) (by omega) hc.2.2.2.2.2.1 K
      | 6, _ =>
        refine ux_tsIn (v := 6) (tgt := 490) (off := 445) C dL_law_45 (e.trans rfl) (by decide) (by decide) rfl (by decide) ?_
        exact lc_6 C hX hbl hbb hL (i := 6 * j) (by omega) rfl rfl (by omega) (by omega) hc.2.2.2.2.2.2.1 K
      | 7, _ =>
        refine ux_tsIn (v := 7) (tgt := 558) (off := 513) C dL_law_45 (e.trans rfl) (by decide) (by decide) rfl (by decide) ?_
        exact lc_7 C hX hbl hbb hL (i := 6 * j) (by omega) rfl rfl (by omega) (by omega) hc.2.2.2.2.2.2.2.1 K
      | 8, _ =>
        refine ux_tsIn (v := 8) (tgt := 626) (off := 581) C dL_law_45 (e.trans rfl) (by decide) (by decide) rfl (by decide) ?_
        exact lc_8 C hX hbl hbb hL (i := 6 * j) (by omega) rfl rfl (by omega) (by omega) hc.2.2.2.2.2.2.2.2.1 K
      | 9, _ =>
        refine ux_tsIn (v := 9) (tgt := 694) (off := 649) C dL_law_45 (e.trans rfl) (by decide) (by decide) rfl (by decide) ?_
        exact lc_9 C hX hbl hbb hL (i := 6 * j) (by omega) (by omega) (by omega) hc.2.2.2.2.2.2.2.2.2.1 K
      | 10, _ =>
        refine ux_tsIn (v := 10) (tgt := 738) (off := 693) C dL_law_45 (e.trans rfl) (by decide) (by decide) rfl (by decide) ?_
        exact lc_10 C hX hbl hbb hL (i := 6 * j) (by omega) rfl (by omega) (by omega) hc.2.2.2.2.2.2.2.2.2.2.1 K
      | 11, _ =>
        refine ux_tsIn (v := 11) (tgt := 794) (off := 749) C dL_law_45 (e.trans rfl) (by decide) (by decide) rfl (by decide) ?_
        exact lc_11 C hX hbl hbb hL (i := 6 * j) (by omega) rfl rfl rfl (by omega) (by omega) hc.2.2.2.2.2.2.2.2.2.2.2.1 K
      | 12, _ =>
        refine ux_tsIn (v := 12) (tgt := 881) (off := 836) C dL_law_45 (e.trans rfl) (by decide) (by decide) rfl (by decide) ?_
        exact lc_12 C hX hbl hbb hL (i := 6 * j) (by omega) rfl rfl rfl (by omega) (by omega) hc.2.2.2.2.2.2.2.2.2.2.2.2.1 K
      | 13, _ =>
        refine ux_tsIn (v := 13) (tgt := 968) (off := 923) C dL_law_45 (e.trans rfl) (by decide) (by decide) rfl (by decide) ?_
        exact lc_13 C hX hbl hbb hL (i := 6 * j) (by omega) rfl (by omega) (by omega) hc.2.2.2.2.2.2.2.2.2.2.2.2.2.1 K
      | 14, _ =>
        refine ux_tsIn (v := 14) (tgt := 1024) (off := 979) C dL_law_45 (e.trans rfl) (by decide) (by decide) rfl (by decide) ?_
        exact lc_14 C hX hbl hbb hL (i := 6 * j) (by omega) rfl rfl (by omega) (by omega) hc.2.2.2.2.2.2.2.2.2.2.2.2.2.2.1 K
      | 15, _ =>
        refine ux_tsIn (v := 15) (tgt := 1115) (off := 1070) C dL_law_45 (e.trans rfl) (by decide) (by decide) rfl (by decide) ?_
        exact lc_15 C hX hbl hbb hL (i := 6 * j) (by omega) rfl rfl (by omega) (by omega) hc.2.2.2.2.2.2.2.2.2.2.2.2.2.2.2.1 K
      | 16, _ =>
        refine ux_tsIn (v := 16) (tgt := 1183) (off := 1138) C dL_law_45 (e.trans rfl) (by decide) (by decide) rfl (by decide) ?_
        exact lc_16 C hX hbl hbb hL (i := 6 * j) (by omega) rfl (by omega) (by omega) hc.2.2.2.2.2.2.2.2.2.2.2.2.2.2.2.2.1 K
      | 17, _ =>
        refine ux_tsIn (v := 17) (tgt := 1224) (off := 1179) C dL_law_45 (e.trans rfl) (by decide) (by decide) rfl (by decide) ?_
        exact lc_17 C hX hbl hbb hL (i := 6 * j) (by omega) rfl (by omega) (by omega) hc.2.2.2.2.2.2.2.2.2.2.2.2.2.2.2.2.2.1 K
      | 18, _ =>
        refine ux_tsIn (v := 18) (tgt := 1280) (off := 1235) C dL_law_45 (e.trans rfl) (by decide) (by decide) rfl (by decide) ?_
        exact lc_18 C hX hbl hbb hL (i := 6 * j) (by omega) (by omega) (by omega) hc.2.2.2.2.2.2.2.2.2.2.2.2.2.2.2.2.2.2.1 K
      | 19, _ =>
        refine ux_tsIn (v := 19) (tgt := 1324) (off := 1279) C dL_law_45 (e.trans rfl) (by decide) (by decide) rfl (by decide) ?_
        exact lc_19 C hX hbl hbb hL (i := 6 * j) (by omega) rfl (by omega) (by omega) hc.2.2.2.2.2.2.2.2.2.2.2.2.2.2.2.2.2.2.2.1 K
      | 20, _ =>
        refine ux_tsIn (v := 20) (tgt := 1380) (off := 1335) C dL_law_45 (e.trans rfl) (by decide) (by decide) rfl (by decide) ?_
        exact lc_20 C hX hbl hbb hL (i := 6 * j) (by omega) (by omega) (by omega) hc.2.2.2.2.2.2.2.2.2.2.2.2.2.2.2.2.2.2.2.2.1 K
      | 21, _ =>
        refine ux_tsIn (v := 21) (tgt := 1393) (off := 1348) C dL_law_45 (e.trans rfl) (by decide) (by decide) rfl (by decide) ?_
        exact lc_21 C hX hbl hbb hL (i := 6 * j) (by omega) rfl (by omega) (by omega) hc.2.2.2.2.2.2.2.2.2.2.2.2.2.2.2.2.2.2.2.2.2.1 K
      | 22, _ =>
        refine ux_tsIn (v := 22) (tgt := 1449) (off := 1404) C dL_law_45 (e.trans rfl) (by decide) (by decide) rfl (by decide) ?_
        exact lc_22 C hX hbl hbb hL (i := 6 * j) (by omega) rfl (by omega) (by omega) hc.2.2.2.2.2.2.2.2.2.2.2.2.2.2.2.2.2.2.2.2.2.2.1 K
      | 23, _ =>
        refine ux_tsIn (v := 23) (tgt := 1505) (off := 1460) C dL_law_45 (e.trans rfl) (by decide) (by decide) rfl (by decide) ?_
        exact lc_23 C hX hbl hbb hL (i := 6 * j) (by omega) rfl (by omega) (by omega) hc.2.2.2.2.2.2.2.2.2.2.2.2.2.2.2.2.2.2.2.2.2.2.2.1 K
      | 24, _ =>
        refine ux_tsIn (v := 24) (tgt := 1561) (off := 1516) C dL_law_45 (e.trans rfl) (by decide) (by decide) rfl (by decide) ?_
        exact lc_24 C hX hbl hbb hL (i := 6 * j) (by omega) rfl (by omega) (by omega) hc.2.2.2.2.2.2.2.2.2.2.2.2.2.2.2.2.2.2.2.2.2.2.2.2.1 K
      | 25, _ =>
        refine ux_tsIn (v := 25) (tgt := 1617) (off := 1572) C dL_law_45 (e.trans rfl) (by decide) (by decide) rfl (by decide) ?_
        exact lc_25 C hX hbl hbb hL (i := 6 * j) (by omega) rfl (by omega) (by omega) hc.2.2.2.2.2.2.2.2.2.2.2.2.2.2.2.2.2.2.2.2.2.2.2.2.2.1 K
      | 26, _ =>
        refine ux_tsIn (v := 26) (tgt := 1673) (off := 1628) C dL_law_45 (e.trans rfl) (by decide) (by decide) rfl (by decide) ?_
        exact lc_26 C hX hbl hbb hL (i := 6 * j) (by omega) rfl (by omega) (by omega) hc.2.2.2.2.2.2.2.2.2.2.2.2.2.2.2.2.2.2.2.2.2.2.2.2.2.2.1 K
      | 27, _ =>
        refine ux_tsIn (v := 27) (tgt := 1750) (off := 1705) C dL_law_45 (e.trans rfl) (by decide) (by decide) rfl (by decide) ?_
        exact lc_27 C hX hbl hbb hL (i := 6 * j) (by omega) rfl (by omega) (by omega) hc.2.2.2.2.2.2.2.2.2.2.2.2.2.2.2.2.2.2.2.2.2.2.2.2.2.2.2.1 K
      | 28, _ =>
        refine ux_tsIn (v := 28) (tgt := 1806) (off := 1761) C dL_law_45 (e.trans rfl) (by decide) (by decide) rfl (by decide) ?_
        exact lc_28 C hX hbl hbb hL (i := 6 * j) (by omega) rfl (by omega) (by omega) hc.2.2.2.2.2.2.2.2.2.2.2.2.2.2.2.2.2.2.2.2.2.2.2.2.2.2.2.2.1 K
      | 29, _ =>
        refine ux_tsIn (v := 29) (tgt := 1862) (off := 1817) C dL_law_45 (e.trans rfl) (by decide) (by decide) rfl (by decide) ?_
        exact lc_29 C hX hbl hbb hL (i := 6 * j) (by omega) (by omega) (by omega) hc.2.2.2.2.2.2.2.2.2.2.2.2.2.2.2.2.2.2.2.2.2.2.2.2.2.2.2.2.2.1 K
      | 30, _ =>
        refine ux_tsIn (v := 30) (tgt := 1875) (off := 1830) C dL_law_45 (e.trans rfl) (by decide) (by decide) rfl (by decide) ?_
        exact lc_30 C hX hbl hbb hL (i := 6 * j) (by omega) rfl (by omega) (by omega) hc.2.2.2.2.2.2.2.2.2.2.2.2.2.2.2.2.2.2.2.2.2.2.2.2.2.2.2.2.2.2.1 K
      | 31, _ =>
        refine ux_tsIn (v := 31) (tgt := 1931) (off := 1886) C dL_law_45 (e.trans rfl) (by decide) (by decide) rfl (by decide) ?_
        exact lc_31 C hX hbl hbb hL (i := 6 * j) (by omega) (by omega) (by omega) hc.2.2.2.2.2.2.2.2.2.2.2.2.2.2.2.2.2.2.2.2.2.2.2.2.2.2.2.2.2.2.2.1 K
      | 32, _ =>
        refine ux_tsIn (v := 32) (tgt := 1944) (off := 1899) C dL_law_45 (e.trans rfl) (by decide) (by decide) rfl (by decide) ?_
        exact lc_32 C hX hbl hbb hL (i := 6 * j) (by omega) rfl (by omega) (by omega) hc.2.2.2.2.2.2.2.2.2.2.2.2.2.2.2.2.2.2.2.2.2.2.2.2.2.2.2.2.2.2.2.2.1 K
      | 33, _ =>
        refine ux_tsIn (v := 33) (tgt := 2000) (off := 1955) C dL_law_45 (e.trans rfl) (by decide) (by decide) rfl (by decide) ?_
        exact lc_33 C hX hbl hbb hL (i := 6 * j) (by omega) (by omega) (by omega) hc.2.2.2.2.2.2.2.2.2.2.2.2.2.2.2.2.2.2.2.2.2.2.2.2.2.2.2.2.2.2.2.2.2.1 K
      | 34, _ =>
        refine ux_tsIn (v := 34) (tgt := 2044) (off := 1999) C dL_law_45 (e.trans rfl) (by decide) (by decide) rfl (by decide) ?_
        exact lc_34 C hX hbl hbb hL (i := 6 * j) (by omega) rfl (by omega) (by omega) hc.2.2.2.2.2.2.2.2.2.2.2.2.2.2.2.2.2.2.2.2.2.2.2.2.2.2.2.2.2.2.2.2.2.2.1 K
      | 35, _ =>
        refine ux_tsIn (v := 35) (tgt := 2080) (off := 2035) C dL_law_45 (e.trans rfl) (by decide) (by decide) rfl (by decide) ?_
        exact lc_35 C hX hbl hbb hL (i := 6 * j) (by omega) rfl (by omega) (by omega) hc.2.2.2.2.2.2.2.2.2.2.2.2.2.2.2.2.2.2.2.2.2.2.2.2.2.2.2.2.2.2.2.2.2.2.2 K
      | n + 36, h => exact absurd h (by omega)
    · refine ux_tsOut (tgt := 2116) C dL_law_45 ho (by decide) ?_
      refine ux_widen (k := 83 + 8 * j + 8) (n := 10000 + 60 * j + 60) (by omega) (by omega) ?_
      exact K a c hid
