section LS
variable {M : uM} {D : va_G} {tys : List (ClassId × FieldType)} {base : Nat} {cc : ByteArray} {nL : Nat} {own : String} {rf rl rc rs : Nat} {Q : State → Prop} {cells slots pc pc' : Nat} {lv : List (Nat × Value)} {stk : List Value} {n : Nat} {cf : Nat → va_E}
theorem cw_astore_n (C : cCx M D tys base cc nL own rf rl rc rs) {kf : Fin 4} {x : Nat} {lv' : List (Nat × Value)} (hd : uD 1 cc pc (.astore_n kf) pc') (hf : ((kf : Nat), Value.ref x) :: lv.filter (fun q => !(q.1 == (kf : Nat)) && !(q.1 + 1 == (kf : Nat) && q.2.category == 2)) = lv') (hn : (kf : Nat) < nL) (k : cW M D base Q nL cells slots pc' lv' stk n cf) : cW M D base Q nL cells slots pc lv (.ref x :: stk) n cf := by
  obtain ⟨hd, rfl⟩ := hd
  intro H locs ls hP hS hl
  exact lv_astore_n C.1 C.2.1 hd rfl hl hn hf (fun ls hl => k H locs ls hP hS hl)
theorem cw_astore (C : cCx M D tys base cc nL own rf rl rc rs) {i x : Nat} {lv' : List (Nat × Value)} (hd : uD 2 cc pc (.astore i) pc') (hf : (i, Value.ref x) :: lv.filter (fun q => !(q.1 == i) && !(q.1 + 1 == i && q.2.category == 2)) = lv') (hn : i < nL) (k : cW M D base Q nL cells slots pc' lv' stk n cf) : cW M D base Q nL cells slots pc lv (.ref x :: stk) n cf := by
  obtain ⟨hd, rfl⟩ := hd
  intro H locs ls hP hS hl
  exact lv_astore C.1 C.2.1 hd hl hn hf (fun ls hl => k H locs ls hP hS hl)
theorem cw_istore (C : cCx M D tys base cc nL own rf rl rc rs) {i : Nat} {x : Int32} {lv' : List (Nat × Value)} (hd : uD 2 cc pc (.istore i) pc') (hf : (i, Value.int x) :: lv.filter (fun q => !(q.1 == i) && !(q.1 + 1 == i && q.2.category == 2)) = lv') (hn : i < nL) (k : cW M D base Q nL cells slots pc' lv' stk n cf) : cW M D base Q nL cells slots pc lv (.int x :: stk) n cf := by
  obtain ⟨hd, rfl⟩ := hd
  intro H locs ls hP hS hl
  exact lv_istore C.1 C.2.1 hd hl hn hf (fun ls hl => k H locs ls hP hS hl)
/-- a constructor called by the law -/
def uCI (own : String) (index : Nat) (y : MethodName) (cc : ByteArray) (nL : Nat) : Prop :=
  (∀ w ∈ ([.methodLink own index y, .instanceMethod y, .initialized y.cls, .code y cc nL none] : List Cond), w ∈ gw) ∧ y.name = "<init>" ∧ (y.cls ≠ "java/lang/invoke/MethodHandle" ∧ y.cls ≠ "java/lang/invoke/VarHandle" ∧ (parseMethodDescriptor y.desc).map (fun d => d.parameters.length) = some 0)
theorem uCI.good {own : String} {index nL : Nat} {y : MethodName} {cc : ByteArray} (h : uCI own index y cc nL) : GoodIn gw (Cond.code y cc nL none :: gw) := by
  refine gw_goodIn fun w hw => ?_
  rcases List.mem_cons.mp hw with rfl | hw
  · exact h.1 _ (by simp)
  · exact hw
theorem cw_callI (C : cCx M D tys base cc nL own rf rl rc rs) {index i n' : Nat} {y : MethodName} {cc' : ByteArray} {nL' rf' rl' mc ms : Nat} {post : (Nat → va_E) → Prop} (cv : uCI own index y cc' nL') (hd : uD 3 cc pc (.invokespecial index) pc') (hM : cMet (mL M) D tys base y cc' nL' rf' rl' mc ms i n cf n' post) (hw : (stk.map fun v => v.category).sum ≤ 8) (hR : rf' + 1 ≤ rf ∧ 8 + (nL' + 11) + rl' ≤ rl) (hf : cells + mc ≤ rc ∧ slots + ms ≤ rs)
    (k : ∀ cf', post cf' → cW M D base Q nL (cells + mc) (slots + ms) pc' lv stk n' cf') : cW M D base Q nL cells slots pc lv (.ref (base + i) :: stk) n cf := by
  obtain ⟨hd, rfl⟩ := hd
  obtain ⟨hx, hb, hml, hown, hts, hK, hbs, hlk, hE, r1, r2, r3, r4⟩ := C
  have hg := cv.good
  obtain ⟨v2, v3, v4⟩ := cv
  intro H locs ls hP hS hl
  exact cw_run (va_runI (As := []) (rest := stk) ⟨hx, hb, hml, hown, hts⟩ hM (cwI 0 hts hg rfl rfl rfl (hts _ (v2 _ (by simp))) (hts _ (v2 _ (by simp))) (hts _ (v2 _ (by simp))) v3 v4 ⟨Nat.le_trans hR.1 r1, Nat.le_trans hR.2 r2⟩) ⟨cPre_blind, fun U hU hW => ⟨rfl, by rw [hU]; exact hP, va_K.moved hW.alike hK, cE_step hE hW⟩⟩ rfl rfl hl.1 rfl (lv_room hw) hd ⟨Nat.le_trans hf.1 r3, Nat.le_trans hf.2 r4⟩) hS hl k
theorem cw_callM {cB cI cJ cZ cD cO : ClassId} {sK sV : Nat → Nat} (C : cCx M D (cT cB cI cJ cZ cD cO) base cc nL own rf rl rc rs) (hlt : (mL M).stackTraces = false) (hG : uG sK sV (cR base) (mS M)) (hbase : (mS M).heap.size = base) {index : Nat} (cv : uCI own index yX8_init cX8_init 1) (hd : uD 3 cc pc (.invokespecial index) pc') (h0 : cf 71 = .inr (8, [.int 0, .null, .null, .null, .null, .null, .null, .int 0, .int 0, .int 0, .int 0, .int 0, .int 0, .int 0, .int 0, .null, .null, .null])) {s9 : uSt} (hI : fX8_init stM0 = some ((), s9)) (hw : (stk.map fun v => v.category).sum ≤ 8) (hR : 2 ≤ rf ∧ 41 ≤ rl) (hf : 72 + 9 ≤ rc ∧ slots + 4454 ≤ rs)
    (k : ∀ cf' : Nat → va_E, (∀ x, x < 71 → cf' x = cf x) → (∀ i, i < 10 → cf' (71 + i) = shM (fun i => base + 71 + i) cI cJ cZ i (s9.1 i) (s9.2.1 i) (s9.2.2 i)) → cW M D base Q nL (72 + 9) (slots + 4454) pc' lv stk 81 cf') : cW M D base Q nL 72 slots pc lv (.ref (base + 71) :: stk) 72 cf := by
  obtain ⟨hd, rfl⟩ := hd
  obtain ⟨hx, hb, hml, hown, hts, hK, hbs, hlk, hE, r1, r2, r3, r4⟩ := C
  have hg := cv.good
  obtain ⟨v2, v3, v4⟩ := cv
  intro H locs ls hP hS hl
  have hP1 : cH D (base + 71) 1 (fun x => cf (71 + x)) H := ⟨by rw [hP.1], fun j hj => by have := hP.2 (71 + j) (by omega); rw [← Nat.add_assoc] at this; exact this⟩
  have hr := va_runI (p := mP M) (l := mL M) (e := mE M) (R := mR M) (s := mS M) (m := mM M) (args := mA M) (below := mB M) (meth := mT M) (c := mC M) (H := H) (locs := locs) (cells := 72) (slots := slots) (g := F0 (mM M) pc ls (.ref (base + 71) :: stk)) (As := []) (rest := stk) ⟨hx, hb, hml, hown, hts⟩ (kc_X8 hlt (sK := sK) (sV := sV) (cf0 := fun x => cf (71 + x)) h0 hI) (cwI 0 hts hg rfl rfl rfl (hts _ (v2 _ (by simp))) (hts _ (v2 _ (by simp))) (hts _ (v2 _ (by simp))) v3 v4 ⟨Nat.le_trans hR.1 r1, Nat.le_trans hR.2 r2⟩) ⟨mPre_blind, fun U hU hW => ⟨rfl, by rw [hU]; exact hP1, va_K.moved hW.alike hK, cE_step hE hW, uG_narrow (uG_step hG hW (fun q h1 h2 => by rw [hU]; exact hS.2.1 q h1 h2)) (fun q hq => Nat.le_trans (Nat.le_add_right base 71) hq)⟩⟩ rfl rfl hl.1 rfl (lv_room hw) hd ⟨Nat.le_trans hf.1 r3, Nat.le_trans hf.2 r4⟩
  intro T hT X
  obtain ⟨v, st₀, t, T', L, h0', X', hL, e1, e2, ⟨hv, hu, hz, hk⟩, st⟩ := hr T hT X
  cases hv
  rw [h0'] at hz hk
  have hsz : T'.heap.size ≤ base + (72 + 9) := by have := X'.same.2.2.1; rw [hbase] at this; exact this
  have hlast := (uH_at hu (show 9 < 10 by decide)).lt
  have hlast : base + 71 + 9 < t.heap.size := hlast
  rw [← e1] at hlast hu
  obtain ⟨t2, a1, b1⟩ := k (fun x => if x < 71 then cf x else shM (fun i => base + 71 + i) cI cJ cZ (x - 71) (s9.1 (x - 71)) (s9.2.1 (x - 71)) (s9.2.2 (x - 71))) (fun x hx => if_pos hx) (fun i hi => by rw [if_neg (by omega), Nat.add_sub_cancel_left]) T'.heap (locs ++ L) ls
    ⟨by omega, fun x hx => by
      by_cases hc : x < 71
      · simp only [if_pos hc]
        exact (hP.2 x (by omega)).kept (by rw [e1]; exact hk _ (by show base + x < H.size; rw [hP.1]; omega) (by show ¬ base + 71 ≤ base + x; omega))
      · simp only [if_neg hc]
        have := uH_at hu (show x - 71 < 10 by omega)
        have e : base + 71 + (x - 71) = base + x := by omega
        have this : va_at D vwCl (base + 71 + (x - 71), _) T'.heap := this
        rw [e] at this
        exact this⟩
    ⟨Nat.le_trans hS.1 (by rw [e1]; exact hz), fun q h1 h2 => by rw [e1, hk q (Nat.lt_of_lt_of_le h1 hS.1) (fun h3 => h2 (Nat.le_trans (Nat.le_add_right base 71) h3))]; exact hS.2.1 q h1 h2, fun q hq => by
      rcases List.mem_append.mp hq with h | h
      · exact hS.2.2 q h
      · exact Nat.le_trans (Nat.le_add_right base 71) (hL q h)⟩ hl T' rfl X'
  exact ⟨t2, st t2 a1, b1⟩
end LS
theorem ci_115 : uCI RL 115 yX7_init cX7_init 2 := ⟨gw_pl [109, 110, 83, 111] (by decide +kernel) (by decide +kernel), rfl, by decide +kernel⟩
theorem ci_118 : uCI RL 118 yX8_init cX8_init 1 := ⟨gw_pl [1086, 1087, 91, 1088] (by decide +kernel) (by decide +kernel), rfl, by decide +kernel⟩
theorem saved_cell (cO : ClassId) (base : Nat) : vp_cell cO (2, .inr (.inr (.inr (.inr (va_up (va_up (fun _ => none) 0 (some (base + 43))) 1 (some (base + 57))))))) = vp_cell cO (2, .inr (.inr (.inr (.inr (fun j => some (base + perm (43 + 14 * j))))))) := by
  rw [vp_cell_q, vp_cell_q]
  rfl
set_option maxRecDepth 100000 in
set_option maxHeartbeats 4000000 in
theorem whole_startR {R : Nat → uSt → uSt → Prop} (hR : lwCases R) {s9 : uSt} (hI : fX8_init stM0 = some ((), s9)) (h0 : R 0 stC0 s9) {p : Program} {e : Env} {s : State} {m : MethodId} {below : List Frame} {meth : Method} {c : Code} (l : Launch) (hflags : l.flags = flags0) {b L : Nat} {xs : Nat → Int32} (hL : L ≤ 3072) (C0 : lw_At p s m meth c b L xs) : W p l e room_1 s m #[Value.ref b] below meth c s.heap [] 0 0 (lw_Z below #[Value.ref b] s) (entryFrame m ([Value.ref b] : List Value).toArray 9) := by
  obtain ⟨hx, hb, hr, hml, hown, hts, hX, hbl, hlocks, hgv⟩ := id C0
  have ht : l.stackTraces = false := by unfold Launch.stackTraces; rw [hflags]; decide
  have hg : ∀ w ∈ gw, w.before #[Value.ref b] s = true := fun w hw => hts w (gw_tbl hw)
  obtain ⟨D, cB, cI, cJ, cZ, cD, cO, hK⟩ := k_start hts
  obtain ⟨sK, sV, hG⟩ := ug_start hts (flat_of_before _ hgv)
  have hE := ce_start hts
  generalize hbase : s.heap.size = base at *
  have C : cCx (p, l, e, room_1, s, m, #[Value.ref b], below, meth, c) D (cT cB cI cJ cZ cD cO) base cL_law 9 RL 15 560 601024 7293034 := ⟨hx, hb, hml, hown, hg, hK, Nat.le_of_eq hbase.symm, hlocks, hE, ⟨Nat.le_refl _, Nat.le_refl _, Nat.le_refl _, Nat.le_refl _⟩⟩
  have C2 : uCx (p, l, e, room_1, s, m, #[Value.ref b], below, meth, c) (vJ D base cB cI cJ cZ cD cO sK sV) cL_law 9 RL 15 560 601024 7293034 := ⟨hx, hb, hml, hown, hg, hK, vJ_ok, fun q hq => by rw [← hbase]; exact hq, hlocks, hG, ⟨Nat.le_refl _, Nat.le_refl _, Nat.le_refl _, Nat.le_refl _⟩, ht⟩
  have hbb : ¬ base ≤ b := Nat.not_le.mpr hbl
  have hl := lv_entry ([.ref b]) (n := 9) (Nat.le_of_ble_eq_true rfl)
  rw [lg_entry_eq]
  suffices hW : cW (p, l, e, room_1, s, m, #[Value.ref b], below, meth, c) D base (lw_Z below #[Value.ref b] s) 9 0 0 0 [(0, .ref b)] [] 0 (fun _ => .inr (0, [])) from hW s.heap [] _ ⟨hbase, fun j hj => absurd hj (Nat.not_lt_zero _)⟩ va_S.rf hl
  refine cw_new C nw_L_8 rfl dL_law_0 ⟨(Nat.le_of_ble_eq_true rfl), (Nat.le_of_ble_eq_true rfl)⟩ fun cf1 e1 o1 => ?_
  refine cw_dup C dL_law_3 rfl ?_
  refine cw_callI C ci_115 dL_law_4 (kc_X7 e1) (Nat.le_of_ble_eq_true rfl) ⟨(Nat.le_of_ble_eq_true rfl), (Nat.le_of_ble_eq_true rfl)⟩ ⟨(Nat.le_of_ble_eq_true rfl), (Nat.le_of_ble_eq_true rfl)⟩ fun cf2 p12 => ?_
  obtain ⟨p1, p2⟩ := p12
  refine cw_astore_n C dL_law_7 rfl (Nat.le_of_ble_eq_true rfl) ?_
  refine cw_new C nw_L_116 rfl dL_law_8 ⟨(Nat.le_of_ble_eq_true rfl), (Nat.le_of_ble_eq_true rfl)⟩ fun cf3 e3 o3 => ?_
  refine cw_dup C dL_law_11 rfl ?_
  refine cw_callM C ht hG hbase ci_118 dL_law_12 e3 hI (Nat.le_of_ble_eq_true rfl) ⟨(Nat.le_of_ble_eq_true rfl), (Nat.le_of_ble_eq_true rfl)⟩ ⟨(Nat.le_of_ble_eq_true rfl), (Nat.le_of_ble_eq_true rfl)⟩ fun cf4 q1 q2 => ?_
  refine cw_astore_n C dL_law_15 rfl (Nat.le_of_ble_eq_true rfl) ?_
  refine cw_iconst C dL_law_16 (v := (1 : Int32)) (by decide) ?_
  refine cw_newa C (atype := .long) ac_long (t0 := 2) rfl id dL_law_17 (a0 := (1, .inr (.inl (fun _ => 0)))) (fun _ => rfl) (by decide) rfl (by decide) ⟨(Nat.le_of_ble_eq_true rfl), (Nat.le_of_ble_eq_true rfl)⟩ fun cf5 e5 o5 => ?_
  refine cw_astore_n C dL_law_19 rfl (Nat.le_of_ble_eq_true rfl) ?_
  refine cw_iconst C dL_law_20 (v := (1 : Int32)) (by decide) ?_
  refine cw_newa C (atype := .double) ac_double (t0 := 4) rfl id dL_law_21 (a0 := (1, .inr (.inr (.inr (.inl (fun _ => 0)))))) (fun _ => rfl) (by decide) rfl (by decide) ⟨(Nat.le_of_ble_eq_true rfl), (Nat.le_of_ble_eq_true rfl)⟩ fun cf6 e6 o6 => ?_
  refine cw_astore C dL_law_23 rfl (Nat.le_of_ble_eq_true rfl) ?_
  refine cw_iconst C dL_law_25 (v := (0 : Int32)) (by decide) ?_
  refine cw_istore C dL_law_26 rfl (Nat.le_of_ble_eq_true rfl) ?_
  have hend : ∀ (cells slots i : Nat) (a c9 : uSt), cells ≤ 601024 → slots ≤ 7293034 → uW (p, l, e, room_1, s, m, #[Value.ref b], below, meth, c) (vJ D base cB cI cJ cZ cD cO sK sV) (lw_Z below #[Value.ref b] s) 9 cells slots 2122 [(5, .int (nI i)), (4, .ref (vA (vC D base cB cI cJ cZ cD cO sK sV) 72)), (3, .ref (vA (vC D base cB cI cJ cZ cD cO sK sV) 71)), (2, .ref (vA (vM D (base + 71) cI cJ cZ (jB base) sK sV) 0)), (1, .ref (vA (vC D base cB cI cJ cZ cD cO sK sV) 0)), (0, .ref b)] [] (jS a c9) := by
    intro cells slots i a c9 h1 h2
    refine ux_iconst (v := 1) C2 dL_law_2122 (by decide) ?_
    intro H locs ls hP hS hl
    refine va_forget (fun q hq => by have := hS.2.2 q hq; rw [← hbase] at this; exact this) (W.widen h1 h2 ?_)
    exact lw_ret (Drawn.sameBut.refl s.drawn lw_cs) hx hb hr hlocks dL_law_2123.1
  intro H locs ls hP hS hl
  have hC : uH (vC D base cB cI cJ cZ cD cO sK sV) stC0 H := by
    refine uH_of fun i hi => ?_
    have hi : i < 73 := hi
    have hp := perm_lt i hi
    have hat := hP.2 (perm i) (by omega)
    show va_at D vwCl (base + perm i, shC (fun i => base + perm i) cB cI cJ cZ cD cO i (stC0.1 i) (stC0.2.1 i) (stC0.2.2 i)) H
    by_cases h3 : i = 3
    · subst h3
      have e9 : cf6 31 = _ := (o6 31 (by decide)).trans ((o5 31 (by decide)).trans ((q1 31 (by decide)).trans ((o3 31 (by decide)).trans p2)))
      have hat : va_at D vwCl (base + 31, cf6 31) H := hat
      rw [e9] at hat
      have hat : H[base + 31]? = some _ := hat
      show H[base + 31]? = some (vp_cell _ _)
      rw [hat, saved_cell]
    by_cases h71 : i < 71
    · have hp2 : perm i < 71 := by unfold perm; repeat' split
                                   all_goals omega
      rw [o6 _ (by omega), o5 _ (by omega), q1 _ hp2, o3 _ (by omega), p1 i h71 h3] at hat
      exact hat
    · rcases (show i = 71 ∨ i = 72 by omega) with rfl | rfl
      · have e9 : cf6 81 = _ := (o6 81 (by decide)).trans e5
        have hat : va_at D vwCl (base + 81, cf6 81) H := hat
        rw [e9] at hat
        exact hat
      · have hat : va_at D vwCl (base + 82, cf6 82) H := hat
        rw [e6] at hat
        exact hat
  have hMo : uH (vM D (base + 71) cI cJ cZ (jB base) sK sV) s9 H := by
    refine uH_of fun i hi => ?_
    have hi : i < 10 := hi
    have hat := hP.2 (71 + i) (by omega)
    rw [o6 _ (by omega), o5 _ (by omega), q2 i hi, ← Nat.add_assoc] at hat
    exact hat
  exact ux_widen (k := 83 + 8 * 0) (n := 10000 + 60 * 0) (Nat.le_of_ble_eq_true rfl) (Nat.le_of_ble_eq_true rfl) (law_loop hR C2 hX (by show b < s.heap.size; rw [hbase]; exact hbl) hbb hL hend 512 0 stC0 s9 rfl h0) H locs ls (jH_mk hC hMo) hS hl
