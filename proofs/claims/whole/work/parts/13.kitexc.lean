/-! METHODS THAT MAY THROW. The answer is a value or the name of a class; both with the world behind it. -/
def xI : Int32 ⊕ String → Option Value ⊕ String
  | .inl r => .inl (some (.int r))
  | .inr E => .inr E
def xV : Unit ⊕ String → Option Value ⊕ String
  | .inl _ => .inl none
  | .inr E => .inr E
def xD : UInt64 ⊕ String → Option Value ⊕ String
  | .inl r => .inl (some (.double r))
  | .inr E => .inr E
def uQX (V : uV) (res : Option Value ⊕ String) (st' : uSt) : Array Value → State → Outcome → State → Prop := fun a s o t => ∃ ov, res = .inl ov ∧ uQ V ov st' a s o t
def uXC (V : uV) (res : Option Value ⊕ String) (st' : uSt) : String → State → State → Prop := fun E s t => res = .inr E ∧ uH V st' t.heap ∧ va_F (vR V) s t
def uMetX (l : Launch) (V : uV) (y : MethodName) (cc : ByteArray) (nL : Nat) (ret : Option FieldType) (rf rl mc ms : Nat) (args : List Value) (st : uSt) (res : Option Value ⊕ String) (st' : uSt) : Prop :=
  vx_Met l y (Cond.code y cc nL ret :: gw) { frames := rf, cells := mc, slots := ms, locals := rl } (uPre V args st) (uQX V res st') (uXC V res st') mc ms (vR V)
def uEndX (M : uM) (V : uV) (mc ms : Nat) (res : Option Value ⊕ String) (st' : uSt) : State → Prop := vx_MQ (mB M) (uQX V res st') (uXC V res st') (mA M) (mS M) mc ms (vR V)
/-- behind a call that may throw -/
def oxk {α β : Type} (x : α ⊕ String) (st : uSt) (k : α → uSt → Option ((β ⊕ String) × uSt)) : Option ((β ⊕ String) × uSt) := match x with
  | .inl a => k a st
  | .inr E => some (.inr E, st)
theorem ox_some {α β : Type} {m : Option ((α ⊕ String) × uSt)} {k : α → uSt → Option ((β ⊕ String) × uSt)} {r : (β ⊕ String) × uSt} (h : ox m k = some r) : ∃ x st, m = some (x, st) ∧ oxk x st k = some r := by
  rcases m with _ | ⟨x, st⟩
  · cases h
  · rcases x with a | E
    · exact ⟨.inl a, st, rfl, h⟩
    · exact ⟨.inr E, st, rfl, h⟩
section UXX
variable {M : uM} {V : uV} {cc : ByteArray} {nL : Nat} {own : String} {rf rl rc rs : Nat} {Q : State → Prop} {cells slots pc pc' : Nat} {lv : List (Nat × Value)} {stk : List Value} {st : uSt}
theorem ux_metX {l : Launch} {V : uV} {y : MethodName} {cc : ByteArray} {nL : Nat} {ret : Option FieldType} {rf rl mc ms : Nat} {args : List Value} {st : uSt} {res : Option Value ⊕ String} {st' : uSt} {lv : List (Nat × Value)} (ht : l.stackTraces = false) (hok : uVok V) (hy : plainName y.cls = true) (hlv : lv_args 0 args = lv) (hlen : (lg_sl args).length ≤ nL)
    (body : ∀ M : uM, mL M = l → (mT M).sig.returnType = ret → uCx M V cc nL y.cls rf rl mc ms → (∀ x ∈ (mC M).exceptionTable.toList, False) → uW M V (uEndX M V mc ms res st') nL 0 0 0 lv [] st) : uMetX l V y cc nL ret rf rl mc ms args st res st' := by
  refine vx_ofW (cc := cc) (maxL := nL) (ret := ret) hy rfl ?_
  intro p e s m args' below meth c s₁ B hml hT hv
  obtain ⟨rfl, hP, hK, hA, hG⟩ := hv
  have hts := atoms_spec (ws := Cond.code y cc nL ret :: gw) B.pre
  have hl := lv_entry args (n := nL) hlen
  rw [hlv] at hl
  rw [lg_entry_eq]
  exact body (p, l, e, { frames := rf, cells := mc, slots := ms, locals := rl }, s, m, args.toArray, below, meth, c) rfl B.returns ⟨B.exec, B.bytes, hml, findClass_of_methodNamed B.named, fun w hw => hts w (List.mem_cons_of_mem _ hw), hK, hok, hA, B.notSynchronized, hG, ⟨Nat.le_refl _, Nat.le_refl _, Nat.le_refl _, Nat.le_refl _⟩, ht⟩ hT s.heap [] _ hP va_S.rf hl
theorem ux_iretX (C : uCx M V cc nL own rf rl rc rs) {v : Int32} {r : Int32 ⊕ String} {st' : uSt} {mc ms : Nat} (hr : (mT M).sig.returnType = some .int) (hd : uD 1 cc pc (.ireturn) pc') (h : some (.inl v, st) = some (r, st')) (hc : cells ≤ mc) (hs : slots ≤ ms) : uW M V (uEndX M V mc ms (xI r) st') nL cells slots pc lv [.int v] st := by
  obtain ⟨hd, -⟩ := hd
  cases h
  intro H locs ls hP hS hl
  refine W.widen hc hs (vx_ret ?_)
  exact W.iret C.1 C.2.1 hr (fun t ht _ => ⟨_, rfl, rfl, by rw [ht]; exact hP, hS.F ht⟩) hS.2.2 hd C.locks
theorem ux_zretX (C : uCx M V cc nL own rf rl rc rs) {v : Int32} {r : Int32 ⊕ String} {st' : uSt} {mc ms : Nat} (hr : (mT M).sig.returnType = some .boolean) (hd : uD 1 cc pc (.ireturn) pc') (h : og (isB v) (some (.inl v, st)) = some (r, st')) (hc : cells ≤ mc) (hs : slots ≤ ms) : uW M V (uEndX M V mc ms (xI r) st') nL cells slots pc lv [.int v] st := by
  obtain ⟨hd, -⟩ := hd
  obtain ⟨g1, g2⟩ := og_some h
  cases g2
  intro H locs ls hP hS hl
  refine W.widen hc hs (vx_ret ?_)
  exact W.zret C.1 C.2.1 hr (isB_nar g1) (fun t ht _ => ⟨_, rfl, rfl, by rw [ht]; exact hP, hS.F ht⟩) hS.2.2 hd C.locks
theorem ux_vretX (C : uCx M V cc nL own rf rl rc rs) {r : Unit ⊕ String} {st' : uSt} {mc ms : Nat} (hr : (mT M).sig.returnType = none) (hd : uD 1 cc pc (.return_) pc') (h : some (.inl (), st) = some (r, st')) (hc : cells ≤ mc) (hs : slots ≤ ms) : uW M V (uEndX M V mc ms (xV r) st') nL cells slots pc lv [] st := by
  obtain ⟨hd, -⟩ := hd
  cases h
  intro H locs ls hP hS hl
  refine W.widen hc hs (vx_ret ?_)
  exact W.vret C.1 C.2.1 hr (fun t ht _ => ⟨_, rfl, rfl, by rw [ht]; exact hP, hS.F ht⟩) hS.2.2 hd C.locks
/-- what a throw of 'cls' needs of the tables (own's pool: ik the class, is the text, ic the constructor) -/
def uTh (own : String) (ik is ic : Nat) (cls : String) : Prop := ∃ (text : String) (names : List String), names.length = 2 ∧ Bundle.fit cls = true ∧ (∀ n ∈ names, Bundle.fit n = true) ∧ Cond.classLink own ik cls ∈ gw ∧ Cond.initialized cls ∈ gw ∧ (own, is, text) ∈ uTx ∧ (∀ w ∈ vx_atS own ic cls names, w ∈ gw ∨ (∃ x ∈ uDecl, w = .declares x) ∨ ∃ q ∈ uCast, w = .castable q.1 q.2) ∧ ∀ w ∈ vx_atS own ic cls names, vx_ot w = true
theorem uTh.words (C : uCx M V cc nL own rf rl rc rs) {ic : Nat} {cls : String} {names : List String} (h : ∀ w ∈ vx_atS own ic cls names, w ∈ gw ∨ (∃ x ∈ uDecl, w = .declares x) ∨ ∃ q ∈ uCast, w = .castable q.1 q.2) : ∀ w ∈ vx_atS own ic cls names, w.before (mA M) (mS M) = true := by
  intro w hw
  rcases h w hw with h1 | ⟨x, hx, rfl⟩ | ⟨q, hq, rfl⟩
  · exact C.words w h1
  · exact va_Nw.use rfl (C.g.2.1 x hx)
  · exact va_Nw.use rfl (C.g.2.2.1 q hq)
theorem gw_ot {w : Cond} (h : w ∈ gw) : vx_ot w = true := by
  simp only [vx_ot, gw_good h, Bool.or_true]
theorem ux_throwS (C : uCx M V cc nL own rf rl rc rs) {ik is ic : Nat} {cls : String} (th : uTh own ik is ic cls) (hT : ∀ x ∈ (mC M).exceptionTable.toList, False) (d0 : uD 3 cc pc (.new ik) (pc + 3)) (d3 : uD 1 cc (pc + 3) (.dup) (pc + 4)) (d4 : uD 2 cc (pc + 4) (.ldc is) (pc + 6)) (d6 : uD 3 cc (pc + 6) (.invokespecial ic) (pc + 9)) (d9 : uD 1 cc (pc + 9) (.athrow) (pc + 10)) {β : Type} {f : β ⊕ String → Option Value ⊕ String} (hf : ∀ E, f (.inr E) = .inr E) {r : β ⊕ String} {st' : uSt} {mc ms : Nat} (h : some (.inr cls, st) = some (r, st')) (hw : (stk.map fun v => v.category).sum ≤ 8) (hR : 6 ≤ rf ∧ 90 ≤ rl) (hc : cells + 1 ≤ mc ∧ slots + 6 ≤ ms) (hm : mc ≤ rc ∧ ms ≤ rs) : uW M V (uEndX M V mc ms (f r) st') nL cells slots pc lv stk st := by
  cases h
  obtain ⟨text, names, hlen, g1, g2, g3, g4, g5, g6, g7⟩ := th
  obtain ⟨sa, hsa⟩ := C.g.2.2.2.2.1 _ g5
  obtain ⟨r1, r2, r3, r4⟩ := C.room
  intro H locs ls hP hS hl
  refine vx_throwS (A := vR V) (names := names) (text := text) C.1 C.2.1 C.traces C.own g1 g2 (C.words _ g3) (C.words _ g4) hsa (uTh.words C g6) (fun w hw => ?_) C.g.1.1 C.g.1.2 hS (hl.1.trans C.maxL.symm) d0.1 d3.1 d4.1 d6.1 d9.1 (fun x hx => (hT x hx).elim) (by rw [hlen]; omega) (by rw [hlen]; omega) (by omega) (by omega) C.locks (fun t hvm hz hk => ?_) hS.2.2 hc.1 hc.2
  · rcases List.mem_cons.mp hw with rfl | hw
    · exact gw_ot g3
    · rcases List.mem_cons.mp hw with rfl | hw
      · exact gw_ot g4
      · exact g7 w hw
  · refine ⟨hf cls, ?_, ?_⟩
    · exact va_P.kept hP (fun k q hq => hk q.1 (hP k q hq).lt)
    · exact ⟨Nat.le_trans hS.1 hz, fun q h1 h2 => (hk q (Nat.lt_of_lt_of_le h1 hS.1)).trans (hS.2.1 q h1 h2)⟩
theorem ux_throwSW (C : uCx M V cc nL own rf rl rc rs) {ik is ic : Nat} {cls : String} (th : uTh own ik is ic cls) (hT : ∀ x ∈ (mC M).exceptionTable.toList, False) (d0 : uD 3 cc pc (.new ik) (pc + 3)) (d3 : uD 1 cc (pc + 3) (.dup) (pc + 4)) (d4 : uD 3 cc (pc + 4) (.ldc_w is) (pc + 7)) (d6 : uD 3 cc (pc + 7) (.invokespecial ic) (pc + 10)) (d9 : uD 1 cc (pc + 10) (.athrow) (pc + 11)) {β : Type} {f : β ⊕ String → Option Value ⊕ String} (hf : ∀ E, f (.inr E) = .inr E) {r : β ⊕ String} {st' : uSt} {mc ms : Nat} (h : some (.inr cls, st) = some (r, st')) (hw : (stk.map fun v => v.category).sum ≤ 8) (hR : 6 ≤ rf ∧ 90 ≤ rl) (hc : cells + 1 ≤ mc ∧ slots + 6 ≤ ms) (hm : mc ≤ rc ∧ ms ≤ rs) : uW M V (uEndX M V mc ms (f r) st') nL cells slots pc lv stk st := by
  cases h
  obtain ⟨text, names, hlen, g1, g2, g3, g4, g5, g6, g7⟩ := th
  obtain ⟨sa, hsa⟩ := C.g.2.2.2.2.1 _ g5
  obtain ⟨r1, r2, r3, r4⟩ := C.room
  intro H locs ls hP hS hl
  refine vx_throwSW (A := vR V) (names := names) (text := text) C.1 C.2.1 C.traces C.own g1 g2 (C.words _ g3) (C.words _ g4) hsa (uTh.words C g6) (fun w hw => ?_) C.g.1.1 C.g.1.2 hS (hl.1.trans C.maxL.symm) d0.1 d3.1 d4.1 d6.1 d9.1 (fun x hx => (hT x hx).elim) (by rw [hlen]; omega) (by rw [hlen]; omega) (by omega) (by omega) C.locks (fun t hvm hz hk => ?_) hS.2.2 hc.1 hc.2
  · rcases List.mem_cons.mp hw with rfl | hw
    · exact gw_ot g3
    · rcases List.mem_cons.mp hw with rfl | hw
      · exact gw_ot g4
      · exact g7 w hw
  · refine ⟨hf cls, ?_, ?_⟩
    · exact va_P.kept hP (fun k q hq => hk q.1 (hP k q hq).lt)
    · exact ⟨Nat.le_trans hS.1 hz, fun q h1 h2 => (hk q (Nat.lt_of_lt_of_le h1 hS.1)).trans (hS.2.1 q h1 h2)⟩
theorem ux_runX {H : Heap} {locs : List Loc} {ls : Array Slot} {a : Array Value} {res : Option Value ⊕ String} {st' : uSt} {mc ms : Nat} {stk0 rest : List Value} (hr : vx_Run (mP M) (mL M) (mE M) (mR M) (mS M) (mM M) (mA M) (mB M) (mT M) (mC M) H locs cells slots mc ms (F0 (mM M) pc ls stk0) rest (uQX V res st' a) (uXC V res st') (vR V)) (hS : va_S (vR V) (mS M).heap H locs) (hl : lv_has ls nL lv)
    (kr : ∀ ov, res = .inl ov → uW M V Q nL (cells + mc) (slots + ms) (pc + 3) lv (ov.toList ++ rest) st')
    (kx : ∀ (E : String) (ce : Cell) (q : Addr) (H1 : Heap) (locs1 : List Loc), res = .inr E → uH V st' H1 → va_S (vR V) (mS M).heap H1 locs1 → H1[q]? = some ce → ce.vm = .none → (mS M).vm.findClass E = some ce.cls → vx_W (mP M) (mL M) (mE M) (mR M) (mS M) (mM M) (mA M) (mB M) (mT M) (mC M) H1 locs1 (cells + mc) (slots + ms) Q (F0 (mM M) pc ls rest) q) : W (mP M) (mL M) (mE M) (mR M) (mS M) (mM M) (mA M) (mB M) (mT M) (mC M) H locs cells slots Q (F0 (mM M) pc ls stk0) := by
  intro T hT X
  rcases hr T hT X with ⟨v, st₀, t, T', L, h0, X', hL, e1, e2, ⟨ov, hres, hv, hw, hz, hk⟩, st⟩ | ⟨q, st₀, t, T', L, E, ce, h0, X', hL, e1, e2, ⟨hres, hw, hz, hk⟩, hce, hcv, hcl, st⟩
  · cases hv
    rw [h0] at hz hk
    obtain ⟨t2, a1, b1⟩ := kr _ hres T'.heap (locs ++ L) ls (by rw [e1]; exact hw)
      ⟨Nat.le_trans hS.1 (by rw [e1]; exact hz), fun q h1 h2 => by rw [e1, hk q (Nat.lt_of_lt_of_le h1 hS.1) h2]; exact hS.2.1 q h1 h2, fun q hq => by
        rcases List.mem_append.mp hq with h | h
        · exact hS.2.2 q h
        · exact hL q h⟩ hl T' rfl X'
    exact ⟨t2, st t2 a1, b1⟩
  · rw [h0] at hz hk
    obtain ⟨t2, a1, b1⟩ := kx E ce q T'.heap (locs ++ L) hres (by rw [e1]; exact hw)
      ⟨Nat.le_trans hS.1 (by rw [e1]; exact hz), fun q h1 h2 => by rw [e1, hk q (Nat.lt_of_lt_of_le h1 hS.1) h2]; exact hS.2.1 q h1 h2, fun q hq => by
        rcases List.mem_append.mp hq with h | h
        · exact hS.2.2 q h
        · exact hL q h⟩ (by rw [e1]; exact hce) hcv hcl T' rfl X'
    exact ⟨t2, st.trans a1, b1⟩
/-- what is thrown goes on to the caller -/
theorem ux_outX (C : uCx M V cc nL own rf rl rc rs) (hT : ∀ x ∈ (mC M).exceptionTable.toList, False) {E : String} {ce : Cell} {q : Addr} {H : Heap} {locs : List Loc} {ls : Array Slot} {mc ms : Nat} {rest : List Value} {st' : uSt} (hP : uH V st' H) (hS : va_S (vR V) (mS M).heap H locs) (hce : H[q]? = some ce) (hcv : ce.vm = .none) (hcl : (mS M).vm.findClass E = some ce.cls) (hc : cells ≤ mc) (hs : slots ≤ ms) : vx_W (mP M) (mL M) (mE M) (mR M) (mS M) (mM M) (mA M) (mB M) (mT M) (mC M) H locs cells slots (uEndX M V mc ms (.inr E) st') (F0 (mM M) pc ls rest) q :=
  vx_out (fun x hx => (hT x hx).elim) C.locks hce hcv hcl (fun t ht _ => ⟨rfl, by rw [ht]; exact hP, hS.F ht⟩) hS.2.2 hc hs
variable {index n ci id : Nat} {Cn : String} {T : u_T} {Nf : Nat} {fs : (Nat → Int32) → List Value} {y : MethodName} {cc' : ByteArray} {nL' rf' rl' mc ms mc9 ms9 : Nat} {ret : Option FieldType} {As : List Value} {st' s9 : uSt}
theorem ux_callVXi (C : uCx M V cc nL own rf rl rc rs) {x : Int32 ⊕ String} {β : Type} {f : β ⊕ String → Option Value ⊕ String} {r : β ⊕ String} {kk : Int32 → uSt → Option ((β ⊕ String) × uSt)} (cv : uCV own index Cn y cc' nL' ret n) (hd : uD 3 cc pc (.invokevirtual index) pc') (hs : uOb V id ci fs) (hc : vwCl[ci]? = some (Cn, T, Nf)) (hM : uMetX (mL M) V y cc' nL' ret rf' rl' mc ms (.ref (vA V id) :: As) st (xI x) st') (hn : As.length = n) (hw : (stk.map fun v => v.category).sum ≤ 8) (hR : rf' + 1 ≤ rf ∧ 8 + (nL' + 11) + rl' ≤ rl) (hf : cells + mc ≤ rc ∧ slots + ms ≤ rs) (hq : cells + mc ≤ mc9 ∧ slots + ms ≤ ms9) (hx : ∀ E, f (.inr E) = .inr E) (hT : ∀ x ∈ (mC M).exceptionTable.toList, False) (h : oxk x st' kk = some (r, s9)) (k : ∀ a, kk a st' = some (r, s9) → uW M V (uEndX M V mc9 ms9 (f r) s9) nL (cells + mc) (slots + ms) pc' lv (.int a :: stk) st') {stk0 : List Value} (h0 : stk0 = As.reverse ++ .ref (vA V id) :: stk) : uW M V (uEndX M V mc9 ms9 (f r) s9) nL cells slots pc lv stk0 st := by
  obtain ⟨hd, rfl⟩ := hd
  subst h0
  intro H locs ls hP hS hl
  obtain ⟨r1, r2, r3, r4⟩ := C.room
  refine ux_runX (vx_runV (As := As) (rest := stk) ⟨C.1, C.2.1, C.maxL, C.own, C.words⟩ hM (cwV n C.words cv.good rfl rfl rfl cv.2 ⟨Nat.le_trans hR.1 r1, Nat.le_trans hR.2 r2⟩) ⟨uPre_blind, va_recv C.k hP hc ((uL_get hs.1).trans (by rw [hs.2])), uPre_at C hP hS⟩ rfl hn hl.1 rfl (lv_room hw) hd ⟨Nat.le_trans hf.1 r3, Nat.le_trans hf.2 r4⟩) hS hl (fun ov hov => ?_) (fun E ce q H1 locs1 hE hP1 hS1 g1 g2 g3 => ?_)
  · rcases x with a | E
    · cases hov
      exact k a h
    · cases hov
  · rcases x with a | E
    · cases hE
    · cases hE
      cases h
      rw [hx]
      exact ux_outX C hT hP1 hS1 g1 g2 g3 hq.1 hq.2
theorem ux_callVXv (C : uCx M V cc nL own rf rl rc rs) {x : Unit ⊕ String} {β : Type} {f : β ⊕ String → Option Value ⊕ String} {r : β ⊕ String} {kk : Unit → uSt → Option ((β ⊕ String) × uSt)} (cv : uCV own index Cn y cc' nL' ret n) (hd : uD 3 cc pc (.invokevirtual index) pc') (hs : uOb V id ci fs) (hc : vwCl[ci]? = some (Cn, T, Nf)) (hM : uMetX (mL M) V y cc' nL' ret rf' rl' mc ms (.ref (vA V id) :: As) st (xV x) st') (hn : As.length = n) (hw : (stk.map fun v => v.category).sum ≤ 8) (hR : rf' + 1 ≤ rf ∧ 8 + (nL' + 11) + rl' ≤ rl) (hf : cells + mc ≤ rc ∧ slots + ms ≤ rs) (hq : cells + mc ≤ mc9 ∧ slots + ms ≤ ms9) (hx : ∀ E, f (.inr E) = .inr E) (hT : ∀ x ∈ (mC M).exceptionTable.toList, False) (h : oxk x st' kk = some (r, s9)) (k : ∀ a, kk a st' = some (r, s9) → uW M V (uEndX M V mc9 ms9 (f r) s9) nL (cells + mc) (slots + ms) pc' lv stk st') {stk0 : List Value} (h0 : stk0 = As.reverse ++ .ref (vA V id) :: stk) : uW M V (uEndX M V mc9 ms9 (f r) s9) nL cells slots pc lv stk0 st := by
  obtain ⟨hd, rfl⟩ := hd
  subst h0
  intro H locs ls hP hS hl
  obtain ⟨r1, r2, r3, r4⟩ := C.room
  refine ux_runX (vx_runV (As := As) (rest := stk) ⟨C.1, C.2.1, C.maxL, C.own, C.words⟩ hM (cwV n C.words cv.good rfl rfl rfl cv.2 ⟨Nat.le_trans hR.1 r1, Nat.le_trans hR.2 r2⟩) ⟨uPre_blind, va_recv C.k hP hc ((uL_get hs.1).trans (by rw [hs.2])), uPre_at C hP hS⟩ rfl hn hl.1 rfl (lv_room hw) hd ⟨Nat.le_trans hf.1 r3, Nat.le_trans hf.2 r4⟩) hS hl (fun ov hov => ?_) (fun E ce q H1 locs1 hE hP1 hS1 g1 g2 g3 => ?_)
  · rcases x with a | E
    · cases hov
      exact k a h
    · cases hov
  · rcases x with a | E
    · cases hE
    · cases hE
      cases h
      rw [hx]
      exact ux_outX C hT hP1 hS1 g1 g2 g3 hq.1 hq.2
end UXX
