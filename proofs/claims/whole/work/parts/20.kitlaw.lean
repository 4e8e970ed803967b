/-! METHODS WITH A TABLE OF THEIR OWN (the law's helpers): they catch what the class throws. -/
def uMetH (l : Launch) (V : uV) (y : MethodName) (cc : ByteArray) (nL : Nat) (ret : Option FieldType) (hh : List (Nat × Nat × Nat × Nat)) (rf rl mc ms : Nat) (args : List Value) (st : uSt) (ov : Option Value) (st' : uSt) : Prop :=
  Met l y (Cond.codeWith y cc nL ret hh :: gw) { frames := rf, cells := mc, slots := ms, locals := rl } (uPre V args st) (uQ V ov st') mc ms (vR V)
def olx {α β : Type} (m : Option ((α ⊕ String) × uSt)) (k : α → uSt → Option β) (x : String → uSt → Option β) : Option β := match m with
  | some (.inl a, st) => k a st
  | some (.inr E, st) => x E st
  | none => none
def olk {α β : Type} (v : α ⊕ String) (st : uSt) (k : α → uSt → Option β) (x : String → uSt → Option β) : Option β := match v with
  | .inl a => k a st
  | .inr E => x E st
theorem olx_some {α β : Type} {m : Option ((α ⊕ String) × uSt)} {k : α → uSt → Option β} {x : String → uSt → Option β} {r : β} (h : olx m k x = some r) : ∃ v st, m = some (v, st) ∧ olk v st k x = some r := by
  rcases m with _ | ⟨v, st⟩
  · cases h
  · rcases v with a | E
    · exact ⟨.inl a, st, rfl, h⟩
    · exact ⟨.inr E, st, rfl, h⟩
/-- q of the class E is thrown over the frame at pc -/
def uWx (M : uM) (V : uV) (Q : State → Prop) (nL cells slots pc : Nat) (lv : List (Nat × Value)) (stk : List Value) (st : uSt) (E : String) (q : Addr) : Prop :=
  ∀ (H : Heap) (locs : List Loc) (ls : Array Slot) (ce : Cell), uH V st H → va_S (vR V) (mS M).heap H locs → lv_has ls nL lv → H[q]? = some ce → ce.vm = .none → (mS M).vm.findClass E = some ce.cls →
    vx_W (mP M) (mL M) (mE M) (mR M) (mS M) (mM M) (mA M) (mB M) (mT M) (mC M) H locs cells slots Q (F0 (mM M) pc ls stk) q
section UXL
variable {M : uM} {V : uV} {cc : ByteArray} {nL : Nat} {own : String} {rf rl rc rs : Nat} {Q : State → Prop} {cells slots pc pc' : Nat} {lv : List (Nat × Value)} {stk : List Value} {st : uSt}
theorem ux_metH {l : Launch} {V : uV} {y : MethodName} {cc : ByteArray} {nL : Nat} {ret : Option FieldType} {hh : List (Nat × Nat × Nat × Nat)} {rf rl mc ms : Nat} {args : List Value} {st : uSt} {ov : Option Value} {st' : uSt} {lv : List (Nat × Value)} (ht : l.stackTraces = false) (hok : uVok V) (hy : plainName y.cls = true) (hlv : lv_args 0 args = lv) (hlen : (lg_sl args).length ≤ nL)
    (body : ∀ M : uM, mL M = l → (mT M).sig.returnType = ret → uCx M V cc nL y.cls rf rl mc ms → (mC M).exceptionTable.toList = tableOf hh → uW M V (uEnd M V mc ms ov st') nL 0 0 0 lv [] st) : uMetH l V y cc nL ret hh rf rl mc ms args st ov st' := by
  refine va_MetW (cc := cc) (maxL := nL) (ret := ret) (hh := hh) hy rfl ?_
  intro p e s m args' below meth c s₁ B hml hv
  obtain ⟨rfl, hP, hK, hA, hG⟩ := hv
  have hts := atoms_spec (ws := Cond.codeWith y cc nL ret hh :: gw) B.pre
  have hl := lv_entry args (n := nL) hlen
  rw [hlv] at hl
  rw [lg_entry_eq]
  exact body (p, l, e, { frames := rf, cells := mc, slots := ms, locals := rl }, s, m, args.toArray, below, meth, c) rfl B.returns ⟨B.exec, B.bytes, hml, findClass_of_methodNamed B.named, fun w hw => hts w (List.mem_cons_of_mem _ hw), hK, hok, hA, B.notSynchronized, hG, ⟨Nat.le_refl _, Nat.le_refl _, Nat.le_refl _, Nat.le_refl _⟩, ht⟩ (vx_table (x := y) B (hts _ List.mem_cons_self)) s.heap [] _ hP va_S.rf hl
theorem ux_catch (C : uCx M V cc nL own rf rl rc rs) {hh : List (Nat × Nat × Nat × Nat)} (hTab : (mC M).exceptionTable.toList = tableOf hh) {E : String} {q : Addr} (pre : List (Nat × Nat × Nat × Nat)) (x : Nat × Nat × Nat × Nat) (suf : List (Nat × Nat × Nat × Nat)) (hsplit : hh = pre ++ x :: suf) (hpass : ∀ z ∈ pre, z.2.2.2 ≠ 0 ∧ ∃ nm, Cond.classLink own z.2.2.2 nm ∈ gw ∧ (E, nm) ∈ uNc) (hx : covers ⟨x.1, x.2.1, x.2.2.1, x.2.2.2⟩ pc = true) (h0 : x.2.2.2 ≠ 0) (hlink : Cond.classLink own x.2.2.2 E ∈ gw) (hcast : (E, E) ∈ uCast) (k : uW M V Q nL cells slots x.2.2.1 lv [.ref q] st) : uWx M V Q nL cells slots pc lv stk st E q := by
  intro H locs ls ce hP hS hl hce hcv hcl
  refine vx_catch (own := own) C.own (tableOf pre) ⟨x.1, x.2.1, x.2.2.1, x.2.2.2⟩ (tableOf suf) (by rw [hTab, hsplit]; simp [tableOf]) (fun z hz => ?_) hx h0 (C.words _ hlink) (va_Nw.use rfl (C.g.2.2.1 _ hcast)) hce hcv hcl (k H locs ls hP hS hl)
  obtain ⟨w, hw, rfl⟩ := List.mem_map.mp hz
  obtain ⟨h1, nm, h2, h3⟩ := hpass w hw
  exact Or.inr ⟨h1, nm, C.words _ h2, C.g.2.2.2.1 _ h3⟩
theorem ux_astore_n (C : uCx M V cc nL own rf rl rc rs) {kf : Fin 4} {x : Nat} {lv' : List (Nat × Value)} (hd : uD 1 cc pc (.astore_n kf) pc') (hf : ((kf : Nat), Value.ref x) :: lv.filter (fun q => !(q.1 == (kf : Nat)) && !(q.1 + 1 == (kf : Nat) && q.2.category == 2)) = lv') (hn : (kf : Nat) < nL) (k : uW M V Q nL cells slots pc' lv' stk st) : uW M V Q nL cells slots pc lv (.ref x :: stk) st := by
  obtain ⟨hd, rfl⟩ := hd
  intro H locs ls hP hS hl
  exact lv_astore_n C.1 C.2.1 hd rfl hl hn hf (fun ls hl => k H locs ls hP hS hl)
theorem ux_astore (C : uCx M V cc nL own rf rl rc rs) {i x : Nat} {lv' : List (Nat × Value)} (hd : uD 2 cc pc (.astore i) pc') (hf : (i, Value.ref x) :: lv.filter (fun q => !(q.1 == i) && !(q.1 + 1 == i && q.2.category == 2)) = lv') (hn : i < nL) (k : uW M V Q nL cells slots pc' lv' stk st) : uW M V Q nL cells slots pc lv (.ref x :: stk) st := by
  obtain ⟨hd, rfl⟩ := hd
  intro H locs ls hP hS hl
  exact lv_astore C.1 C.2.1 hd hl hn hf (fun ls hl => k H locs ls hP hS hl)
variable {index n ci id : Nat} {Cn : String} {T : u_T} {Nf : Nat} {fs : (Nat → Int32) → List Value} {y : MethodName} {cc' : ByteArray} {nL' rf' rl' mc ms : Nat} {ret : Option FieldType} {As : List Value} {st' : uSt}
theorem ux_callC (C : uCx M V cc nL own rf rl rc rs) {res : Option Value ⊕ String} (cv : uCV own index Cn y cc' nL' ret n) (hd : uD 3 cc pc (.invokevirtual index) pc') (hs : uOb V id ci fs) (hc : vwCl[ci]? = some (Cn, T, Nf)) (hM : uMetX (mL M) V y cc' nL' ret rf' rl' mc ms (.ref (vA V id) :: As) st res st') (hn : As.length = n) (hw : (stk.map fun v => v.category).sum ≤ 8) (hR : rf' + 1 ≤ rf ∧ 8 + (nL' + 11) + rl' ≤ rl) (hf : cells + mc ≤ rc ∧ slots + ms ≤ rs)
    (kr : ∀ ov, res = .inl ov → uW M V Q nL (cells + mc) (slots + ms) pc' lv (ov.toList ++ stk) st') (kx : ∀ E q, res = .inr E → uWx M V Q nL (cells + mc) (slots + ms) pc lv stk st' E q) {stk0 : List Value} (h0 : stk0 = As.reverse ++ .ref (vA V id) :: stk) : uW M V Q nL cells slots pc lv stk0 st := by
  obtain ⟨hd, rfl⟩ := hd
  subst h0
  intro H locs ls hP hS hl
  obtain ⟨r1, r2, r3, r4⟩ := C.room
  exact ux_runX (vx_runV (As := As) (rest := stk) ⟨C.1, C.2.1, C.maxL, C.own, C.words⟩ hM (cwV n C.words cv.good rfl rfl rfl cv.2 ⟨Nat.le_trans hR.1 r1, Nat.le_trans hR.2 r2⟩) ⟨uPre_blind, va_recv C.k hP hc ((uL_get hs.1).trans (by rw [hs.2])), uPre_at C hP hS⟩ rfl hn hl.1 rfl (lv_room hw) hd ⟨Nat.le_trans hf.1 r3, Nat.le_trans hf.2 r4⟩) hS hl kr (fun E ce q H1 locs1 hE hP1 hS1 g1 g2 g3 => kx E q hE H1 locs1 ls ce hP1 hS1 hl g1 g2 g3)
theorem ux_callCi (C : uCx M V cc nL own rf rl rc rs) {β : Type} {r : β} {x : Int32 ⊕ String} {kk : Int32 → uSt → Option β} {kx9 : String → uSt → Option β} (cv : uCV own index Cn y cc' nL' ret n) (hd : uD 3 cc pc (.invokevirtual index) pc') (hs : uOb V id ci fs) (hc : vwCl[ci]? = some (Cn, T, Nf)) (hM : uMetX (mL M) V y cc' nL' ret rf' rl' mc ms (.ref (vA V id) :: As) st (xI x) st') (hn : As.length = n) (hw : (stk.map fun v => v.category).sum ≤ 8) (hR : rf' + 1 ≤ rf ∧ 8 + (nL' + 11) + rl' ≤ rl) (hf : cells + mc ≤ rc ∧ slots + ms ≤ rs) (h : olk x st' kk kx9 = some r)
    (kr : ∀ a, kk a st' = some r → uW M V Q nL (cells + mc) (slots + ms) pc' lv (.int a :: stk) st') (kx : ∀ E q, kx9 E st' = some r → uWx M V Q nL (cells + mc) (slots + ms) pc lv stk st' E q) {stk0 : List Value} (h0 : stk0 = As.reverse ++ .ref (vA V id) :: stk) : uW M V Q nL cells slots pc lv stk0 st := by
  refine ux_callC C cv hd hs hc hM hn hw hR hf (fun ov hov => ?_) (fun E q hE => ?_) h0
  · rcases x with a | E
    · cases hov
      exact kr a h
    · cases hov
  · rcases x with a | E
    · cases hE
    · cases hE
      exact kx E q h
theorem ux_callCv (C : uCx M V cc nL own rf rl rc rs) {β : Type} {r : β} {x : Unit ⊕ String} {kk : Unit → uSt → Option β} {kx9 : String → uSt → Option β} (cv : uCV own index Cn y cc' nL' ret n) (hd : uD 3 cc pc (.invokevirtual index) pc') (hs : uOb V id ci fs) (hc : vwCl[ci]? = some (Cn, T, Nf)) (hM : uMetX (mL M) V y cc' nL' ret rf' rl' mc ms (.ref (vA V id) :: As) st (xV x) st') (hn : As.length = n) (hw : (stk.map fun v => v.category).sum ≤ 8) (hR : rf' + 1 ≤ rf ∧ 8 + (nL' + 11) + rl' ≤ rl) (hf : cells + mc ≤ rc ∧ slots + ms ≤ rs) (h : olk x st' kk kx9 = some r)
    (kr : ∀ a, kk a st' = some r → uW M V Q nL (cells + mc) (slots + ms) pc' lv stk st') (kx : ∀ E q, kx9 E st' = some r → uWx M V Q nL (cells + mc) (slots + ms) pc lv stk st' E q) {stk0 : List Value} (h0 : stk0 = As.reverse ++ .ref (vA V id) :: stk) : uW M V Q nL cells slots pc lv stk0 st := by
  refine ux_callC C cv hd hs hc hM hn hw hR hf (fun ov hov => ?_) (fun E q hE => ?_) h0
  · rcases x with a | E
    · cases hov
      exact kr a h
    · cases hov
  · rcases x with a | E
    · cases hE
    · cases hE
      exact kx E q h
theorem ux_callCd (C : uCx M V cc nL own rf rl rc rs) {β : Type} {r : β} {x : UInt64 ⊕ String} {kk : UInt64 → uSt → Option β} {kx9 : String → uSt → Option β} (cv : uCV own index Cn y cc' nL' ret n) (hd : uD 3 cc pc (.invokevirtual index) pc') (hs : uOb V id ci fs) (hc : vwCl[ci]? = some (Cn, T, Nf)) (hM : uMetX (mL M) V y cc' nL' ret rf' rl' mc ms (.ref (vA V id) :: As) st (xD x) st') (hn : As.length = n) (hw : (stk.map fun v => v.category).sum ≤ 8) (hR : rf' + 1 ≤ rf ∧ 8 + (nL' + 11) + rl' ≤ rl) (hf : cells + mc ≤ rc ∧ slots + ms ≤ rs) (h : olk x st' kk kx9 = some r)
    (kr : ∀ a, kk a st' = some r → uW M V Q nL (cells + mc) (slots + ms) pc' lv (.double a :: stk) st') (kx : ∀ E q, kx9 E st' = some r → uWx M V Q nL (cells + mc) (slots + ms) pc lv stk st' E q) {stk0 : List Value} (h0 : stk0 = As.reverse ++ .ref (vA V id) :: stk) : uW M V Q nL cells slots pc lv stk0 st := by
  refine ux_callC C cv hd hs hc hM hn hw hR hf (fun ov hov => ?_) (fun E q hE => ?_) h0
  · rcases x with a | E
    · cases hov
      exact kr a h
    · cases hov
  · rcases x with a | E
    · cases hE
    · cases hE
      exact kx E q h
end UXL
theorem clL_8 : Cond.classLink RL 8 "FlushPlanner" ∈ gw := gw_at 107 (by decide +kernel) (by decide +kernel)
theorem clL_13 : Cond.classLink RL 13 "java/lang/IllegalStateException" ∈ gw := gw_at 440 (by decide +kernel) (by decide +kernel)
theorem clL_19 : Cond.classLink RL 19 "java/lang/IndexOutOfBoundsException" ∈ gw := gw_at 520 (by decide +kernel) (by decide +kernel)
theorem clL_25 : Cond.classLink RL 25 "java/lang/IllegalArgumentException" ∈ gw := gw_at 544 (by decide +kernel) (by decide +kernel)
theorem clL_40 : Cond.classLink RL 40 "java/util/NoSuchElementException" ∈ gw := gw_at 760 (by decide +kernel) (by decide +kernel)
theorem clL_116 : Cond.classLink RL 116 "FlushPlannerModel" ∈ gw := gw_at 1084 (by decide +kernel) (by decide +kernel)
