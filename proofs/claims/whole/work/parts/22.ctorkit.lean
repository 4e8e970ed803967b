def uNest : List (String × Nat × MethodName × String) := [(RX7, 9, yX5_init, "FlushPlanner"), (RX7, 25, yX6_init, "FlushPlanner"), (RX6, 11, yX0_init, "FlushPlanner"), (RX6, 20, yX3_init, "FlushPlanner"), (RX6, 27, yX2_init, "FlushPlanner"), (RX6, 34, yX1_init, "FlushPlanner"), (RX7, 43, yX4_init, "FlushPlanner"), (RX7, 50, yX0_init, "FlushPlanner"), (RX7, 57, yX1_init, "FlushPlanner")]
/-! CONSTRUCTORS. What is made lies in a row behind 'base': the j-th made cell at base + j holds cf j. -/
def cH (D : va_G) (base n : Nat) (cf : Nat → va_E) (H : Heap) : Prop := H.size = base + n ∧ ∀ j : Nat, j < n → va_at D vwCl (base + j, cf j) H
def cE (U : State) : Prop := (∀ q ∈ uNest, va_Nw (.methodLinkNest q.1 q.2.1 q.2.2.1 q.2.2.2) U) ∧ va_AO "FlushPlanner$State" U
theorem cE_step {s U : State} (h : cE s) (hW : s.WarmedH U.vm) : cE U := ⟨fun q hq => va_Nw.warmM hW (h.1 q hq), va_AO.moved hW.alike h.2⟩
abbrev cR (base : Nat) : Nat → Prop := fun q => base ≤ q
def cCx (M : uM) (D : va_G) (tys : List (ClassId × FieldType)) (base : Nat) (cc : ByteArray) (nL : Nat) (own : String) (rf rl rc rs : Nat) : Prop :=
  (mP M).tables.exec = Jvm.exec ∧ (mC M).code = cc ∧ (mC M).maxLocals = nL ∧ (mS M).vm.findClass own = some (mM M).cls ∧ (∀ w ∈ gw, w.before (mA M) (mS M) = true) ∧
  va_K D vwCl tys (mS M) ∧ base ≤ (mS M).heap.size ∧ (mT M).locks = false ∧ cE (mS M) ∧ (rf ≤ (mR M).frames ∧ rl ≤ (mR M).locals ∧ rc ≤ (mR M).cells ∧ rs ≤ (mR M).slots)
def cW (M : uM) (D : va_G) (base : Nat) (Q : State → Prop) (nL cells slots pc : Nat) (lv : List (Nat × Value)) (stk : List Value) (n : Nat) (cf : Nat → va_E) : Prop :=
  ∀ (H : Heap) (locs : List Loc) (ls : Array Slot), cH D base n cf H → va_S (cR base) (mS M).heap H locs → lv_has ls nL lv →
    W (mP M) (mL M) (mE M) (mR M) (mS M) (mM M) (mA M) (mB M) (mT M) (mC M) H locs cells slots Q (F0 (mM M) pc ls stk)
def cPre (D : va_G) (tys : List (ClassId × FieldType)) (base i n : Nat) (cf : Nat → va_E) : Array Value → State → Prop := va_Pc [.ref (base + i)] (fun U => cH D base n cf U.heap ∧ va_K D vwCl tys U ∧ cE U)
theorem cPre_blind {D : va_G} {tys : List (ClassId × FieldType)} {base i n : Nat} {cf : Nat → va_E} : FrameBlind (cPre D tys base i n cf) := by
  intro a U g mk h
  obtain ⟨h1, h2, h3, h4⟩ := h
  exact ⟨h1, h2, va_K.moved (u := U) (U := U.calling g mk a) (Vm.Alike.refl U.vm) h3, cE_step (U := U.calling g mk a) h4 (State.WarmedH.refl U)⟩
def cQ (D : va_G) (base n' : Nat) (post : (Nat → va_E) → Prop) : Array Value → State → Outcome → State → Prop := fun _ s o t => o = .returned none ∧ (∃ cf', post cf' ∧ cH D base n' cf' t.heap) ∧ va_F (cR base) s t
def cMet (l : Launch) (D : va_G) (tys : List (ClassId × FieldType)) (base : Nat) (y : MethodName) (cc : ByteArray) (nL rf rl mc ms i n : Nat) (cf : Nat → va_E) (n' : Nat) (post : (Nat → va_E) → Prop) : Prop :=
  Met l y (Cond.code y cc nL none :: gw) { frames := rf, cells := mc, slots := ms, locals := rl } (cPre D tys base i n cf) (cQ D base n' post) mc ms (cR base)
section CWR
variable {M : uM} {D : va_G} {tys : List (ClassId × FieldType)} {base : Nat} {cc : ByteArray} {nL : Nat} {own : String} {rf rl rc rs : Nat} {Q : State → Prop} {cells slots pc pc' : Nat} {lv : List (Nat × Value)} {stk : List Value} {n : Nat} {cf : Nat → va_E}
theorem cw_aload_n (C : cCx M D tys base cc nL own rf rl rc rs) {kf : Fin 4} {x : Nat} (hd : uD 1 cc pc (.aload_n kf) pc') (j : Nat) (hj : lv[j]? = some ((kf : Nat), .ref x)) (k : cW M D base Q nL cells slots pc' lv (.ref x :: stk) n cf) : cW M D base Q nL cells slots pc lv stk n cf := by
  obtain ⟨hd, rfl⟩ := hd
  intro H locs ls hP hS hl
  exact lv_aload_n C.1 C.2.1 hd rfl (lv_at hl j hj) (k H locs ls hP hS hl)
theorem cw_iload_n (C : cCx M D tys base cc nL own rf rl rc rs) {kf : Fin 4} {x : Int32} (hd : uD 1 cc pc (.iload_n kf) pc') (j : Nat) (hj : lv[j]? = some ((kf : Nat), .int x)) (k : cW M D base Q nL cells slots pc' lv (.int x :: stk) n cf) : cW M D base Q nL cells slots pc lv stk n cf := by
  obtain ⟨hd, rfl⟩ := hd
  intro H locs ls hP hS hl
  exact lv_iload_n C.1 C.2.1 hd rfl (lv_at hl j hj) (k H locs ls hP hS hl)
theorem cw_iconst (C : cCx M D tys base cc nL own rf rl rc rs) {m9 : Int} {v : Int32} (hd : uD 1 cc pc (.iconst m9) pc') (hv : Int32.ofInt m9 = v) (k : cW M D base Q nL cells slots pc' lv (.int v :: stk) n cf) : cW M D base Q nL cells slots pc lv stk n cf := by
  obtain ⟨hd, rfl⟩ := hd
  intro H locs ls hP hS hl
  exact lv_iconst C.1 C.2.1 hd hv (k H locs ls hP hS hl)
theorem cw_bipush (C : cCx M D tys base cc nL own rf rl rc rs) {m9 : Int} {v : Int32} (hd : uD 2 cc pc (.bipush m9) pc') (hv : (Int8.ofInt m9).toInt32 = v) (k : cW M D base Q nL cells slots pc' lv (.int v :: stk) n cf) : cW M D base Q nL cells slots pc lv stk n cf := by
  obtain ⟨hd, rfl⟩ := hd
  intro H locs ls hP hS hl
  exact lv_bipush C.1 C.2.1 hd hv (k H locs ls hP hS hl)
theorem cw_sipush (C : cCx M D tys base cc nL own rf rl rc rs) {m9 : Int} {v : Int32} (hd : uD 3 cc pc (.sipush m9) pc') (hv : (Int16.ofInt m9).toInt32 = v) (k : cW M D base Q nL cells slots pc' lv (.int v :: stk) n cf) : cW M D base Q nL cells slots pc lv stk n cf := by
  obtain ⟨hd, rfl⟩ := hd
  intro H locs ls hP hS hl
  exact lv_sipush C.1 C.2.1 hd hv (k H locs ls hP hS hl)
theorem cw_dup (C : cCx M D tys base cc nL own rf rl rc rs) {v : Value} (hd : uD 1 cc pc (.dup) pc') (hv : v.category = 1) (k : cW M D base Q nL cells slots pc' lv (v :: v :: stk) n cf) : cW M D base Q nL cells slots pc lv (v :: stk) n cf := by
  obtain ⟨hd, rfl⟩ := hd
  intro H locs ls hP hS hl
  exact lv_dup C.1 C.2.1 hd hv (k H locs ls hP hS hl)
theorem cw_goto (C : cCx M D tys base cc nL own rf rl rc rs) {tgt : Nat} (hd : uJ cc pc (fun o => .goto o) tgt pc') (k : cW M D base Q nL cells slots tgt lv stk n cf) : cW M D base Q nL cells slots pc lv stk n cf := by
  obtain ⟨off, hd, ht, rfl⟩ := hd
  intro H locs ls hP hS hl
  exact lv_goto C.1 C.2.1 hd ht (k H locs ls hP hS hl)
theorem cw_icmp_ge (C : cCx M D tys base cc nL own rf rl rc rs) {tgt : Nat} {x y : Int32} (hd : uJ cc pc (fun o => .if_icmp .ge o) tgt pc') (kt : y ≤ x → cW M D base Q nL cells slots tgt lv stk n cf) (kf : ¬ y ≤ x → cW M D base Q nL cells slots pc' lv stk n cf) : cW M D base Q nL cells slots pc lv (.int y :: .int x :: stk) n cf := by
  obtain ⟨off, hd, ht, rfl⟩ := hd
  intro H locs ls hP hS hl
  exact lv_icmp_ge C.1 C.2.1 hd ht (fun c1 => kt c1 H locs ls hP hS hl) (fun c1 => kf c1 H locs ls hP hS hl)
theorem cw_istore_n (C : cCx M D tys base cc nL own rf rl rc rs) {kf : Fin 4} {x : Int32} {lv' : List (Nat × Value)} (hd : uD 1 cc pc (.istore_n kf) pc') (hf : ((kf : Nat), Value.int x) :: lv.filter (fun q => !(q.1 == (kf : Nat)) && !(q.1 + 1 == (kf : Nat) && q.2.category == 2)) = lv') (hn : (kf : Nat) < nL) (k : cW M D base Q nL cells slots pc' lv' stk n cf) : cW M D base Q nL cells slots pc lv (.int x :: stk) n cf := by
  obtain ⟨hd, rfl⟩ := hd
  intro H locs ls hP hS hl
  exact lv_istore_n C.1 C.2.1 hd rfl hl hn hf (fun ls hl => k H locs ls hP hS hl)
theorem cw_iinc (C : cCx M D tys base cc nL own rf rl rc rs) {i : Nat} {m9 : Int} {x v : Int32} {lv' : List (Nat × Value)} (hd : uD 3 cc pc (.iinc i m9) pc') (j : Nat) (hj : lv[j]? = some (i, .int x)) (hv : x + Int32.ofInt m9 = v) (hf : (i, Value.int v) :: lv.filter (fun q => !(q.1 == i) && !(q.1 + 1 == i && q.2.category == 2)) = lv') (hn : i < nL) (k : cW M D base Q nL cells slots pc' lv' stk n cf) : cW M D base Q nL cells slots pc lv stk n cf := by
  obtain ⟨hd, rfl⟩ := hd
  intro H locs ls hP hS hl
  exact lv_iinc C.1 C.2.1 hd hl hj hv hn hf (fun ls hl => k H locs ls hP hS hl)
theorem cw_objInit (C : cCx M D tys base cc nL own rf rl rc rs) {idx a : Nat} (hw : ∀ w ∈ ([.methodLink own idx objectInit, .instanceMethod objectInit, .code objectInit ⟨#[0xb1]⟩ 1 none] : List Cond), w ∈ gw) (hd : uD 3 cc pc (.invokespecial idx) pc') (hs : (stk.map fun v => v.category).sum ≤ 8) (hR : 1 ≤ rf ∧ 20 ≤ rl) (k : cW M D base Q nL cells slots pc' lv stk n cf) : cW M D base Q nL cells slots pc lv (.ref a :: stk) n cf := by
  obtain ⟨hd, rfl⟩ := hd
  intro H locs ls hP hS hl
  obtain ⟨r1, r2, r3, r4⟩ := C.2.2.2.2.2.2.2.2.2
  refine W.objInit C.1 C.2.1 C.2.2.2.1 (C.2.2.2.2.1 _ (hw _ (by simp))) (C.2.2.2.2.1 _ (hw _ (by simp))) (C.2.2.2.2.1 _ (hw _ (by simp))) rfl (hl.1.trans C.2.2.1.symm) rfl hd (Nat.le_trans hR.1 r1) ?_ (k H locs ls hP hS hl)
  show 2 * 0 + _ + 12 ≤ _
  omega
/-- a field of an object that was made: an int or boolean -/
theorem cw_put (C : cCx M D tys base cc nL own rf rl rc rs) {index ci j i : Nat} {fs : List Value} {v : Value} {ty : FieldType} (f : uFp own index ci j ty) (hd : uD 3 cc pc (.putfield index) pc') (hi : i < n) (hcf : cf i = .inr (ci, fs)) (hn : narrow ty v = v) (hfit : fits ty v = true) (hl : j < fs.length)
    (k : ∀ cf' : Nat → va_E, cf' i = .inr (ci, fs.set j v) → (∀ x, x ≠ i → cf' x = cf x) → cW M D base Q nL cells slots pc' lv stk n cf') : cW M D base Q nL cells slots pc lv (v :: .ref (base + i) :: stk) n cf := by
  obtain ⟨hd, rfl⟩ := hd
  obtain ⟨Cn, T, Nf, ty0, h1, h2, h3, h4, h5, h6, h7, h8⟩ := f
  obtain ⟨hx, hb, hml, hown, hts, hK, hbs, hlk, hE, hrm⟩ := C
  intro H locs ls hP hS hl9
  have hap := va_apart (own := own) hts h3 ty0 h5 h6 hK h1
  have hat := hP.2 i hi
  rw [hcf] at hat
  obtain ⟨r, g1, cell, q1, q2, q3, q4⟩ := hat
  have hr : r = (Cn, T, Nf) := Option.some.inj (g1.symm.trans h1)
  subst hr
  obtain ⟨hSl, hfc, kC, hkC, hkind⟩ := hK.1 ci _ h1
  obtain ⟨cf9, kf, fi, f, hi9, hsl⟩ := hSl j h2
  have hlay := hts _ (h3 _ (u_in_lay h2))
  unfold u_lay at hlay
  rw [if_neg (by rw [h7]; decide)] at hlay
  have hst := (u_facts hfc hkC (u_lays hts h3 h2) hi9).1
  have h69 := u_store hfc hkC hkind hlay hi9 h8 hn hfit
  refine W.putK hx hb (f := f) ⟨hown, hts _ h4, ⟨_, _, _, hi9⟩, hst⟩ (by rw [q2]; exact h69) q1 q3 (by rw [hsl]; exact k2_hasslot (q4 j h2)) rfl rfl hd fun H' e1 e2 e3 => ?_
  rw [hsl] at e1 ⊢
  refine k (fun x => if x = i then .inr (ci, fs.set j v) else cf x) (if_pos rfl) (fun x hx => if_neg hx) H' _ ls ⟨e2.trans hP.1, fun x hx => ?_⟩ (hS.put e2 e3 (Nat.le_add_right _ _)) hl9
  by_cases hxi : x = i
  · subst hxi
    dsimp only
    rw [if_pos rfl]
    exact ⟨_, h1, t_OB.to (V := updV (vp_V fs) j v) ⟨_, e1, q2, q3, t_set q4 hap h2 v⟩ (fun j9 _ => vp_updV_set hl v j9)⟩
  · dsimp only
    rw [if_neg hxi]
    exact (hP.2 x hx).kept (e3 _ (by show base + x ≠ base + i; omega))
/-- a final field, in its class's constructor -/
def uFf (own : String) (index ci k : Nat) (ty : FieldType) : Prop := ∃ (Cn : String) (T : u_T) (Nf : Nat) (ty0 : Nat → FieldType), vwCl[ci]? = some (Cn, T, Nf) ∧ k < Nf ∧ (∀ w ∈ u_ws Cn T Nf, w ∈ gw) ∧ Cond.fieldLink own index (T k).1 (T k).2.1 (T k).2.2.1 ∈ gw ∧ (∀ k, k < Nf → parseFieldDescriptor (T k).2.2.1 = some (ty0 k)) ∧ (∀ a, a < Nf → ∀ b, b < Nf → a ≠ b → (T a).2.1 ≠ (T b).2.1) ∧ (T k).2.2.2 = true ∧ parseFieldDescriptor (T k).2.2.1 = some ty ∧ (T k).1 = own
theorem cw_putF (C : cCx M D tys base cc nL own rf rl rc rs) (hin : (mT M).name = "<init>") {index ci j i : Nat} {fs : List Value} {v : Value} {ty : FieldType} (f : uFf own index ci j ty) (hd : uD 3 cc pc (.putfield index) pc') (hi : i < n) (hcf : cf i = .inr (ci, fs)) (hn : narrow ty v = v) (hfit : fits ty v = true) (hl : j < fs.length)
    (k : ∀ cf' : Nat → va_E, cf' i = .inr (ci, fs.set j v) → (∀ x, x ≠ i → cf' x = cf x) → cW M D base Q nL cells slots pc' lv stk n cf') : cW M D base Q nL cells slots pc lv (v :: .ref (base + i) :: stk) n cf := by
  obtain ⟨hd, rfl⟩ := hd
  obtain ⟨Cn, T, Nf, ty0, h1, h2, h3, h4, h5, h6, h7, h8, hdecl⟩ := f
  obtain ⟨hx, hb, hml, hown, hts, hK, hbs, hlk, hE, hrm⟩ := C
  intro H locs ls hP hS hl9
  have hap := va_apart (own := own) hts h3 ty0 h5 h6 hK h1
  have hat := hP.2 i hi
  rw [hcf] at hat
  obtain ⟨r, g1, cell, q1, q2, q3, q4⟩ := hat
  have hr : r = (Cn, T, Nf) := Option.some.inj (g1.symm.trans h1)
  subst hr
  obtain ⟨hSl, hfc, kC, hkC, hkind⟩ := hK.1 ci _ h1
  obtain ⟨cf9, kf, fi, f, hi9, hsl⟩ := hSl j h2
  have hlay := hts _ (h3 _ (u_in_lay h2))
  unfold u_lay at hlay
  rw [if_pos h7] at hlay
  have hst := (u_facts hfc hkC (u_lays hts h3 h2) hi9).1
  have hcf9 : (mM M).cls = cf9 := by
    obtain ⟨_, _, c', _, _, _, -, -, hf', -, -, -, hown2, -⟩ := Cond.laysFinal_spec hlay
    have e1 : c' = cf9 := by have := hi9.symm.trans hf'; simp at this; exact this.1.symm
    rw [hdecl] at hown2
    rw [← e1]; exact Option.some.inj (hown.symm.trans hown2)
  have h69 := u_fits hfc hkC hkind (Or.inr hlay) hi9 h8 hn hfit
  refine W.putFinK hx hb hown (hts _ h4) hi9 hst hcf9 hin (by rw [q2]; exact h69) q1 q3 (by rw [hsl]; exact k2_hasslot (q4 j h2)) rfl rfl hd fun H' e1 e2 e3 => ?_
  rw [hsl] at e1 ⊢
  refine k (fun x => if x = i then .inr (ci, fs.set j v) else cf x) (if_pos rfl) (fun x hx => if_neg hx) H' _ ls ⟨e2.trans hP.1, fun x hx => ?_⟩ (hS.put e2 e3 (Nat.le_add_right _ _)) hl9
  by_cases hxi : x = i
  · subst hxi
    dsimp only
    rw [if_pos rfl]
    exact ⟨_, h1, t_OB.to (V := updV (vp_V fs) j v) ⟨_, e1, q2, q3, t_set q4 hap h2 v⟩ (fun j9 _ => vp_updV_set hl v j9)⟩
  · dsimp only
    rw [if_neg hxi]
    exact (hP.2 x hx).kept (e3 _ (by show base + x ≠ base + i; omega))
/-- the next cell is made -/
theorem cH_push {cf' : Nat → va_E} {H H1 : Heap} {e : va_E} (hP : cH D base n cf H) (z : H1.size = H.size + 1) (o : ∀ q, q < H.size → H1[q]? = H[q]?) (he : va_at D vwCl (base + n, e) H1) (h1 : cf' n = e) (h2 : ∀ x, x ≠ n → cf' x = cf x) : cH D base (n + 1) cf' H1 := by
  refine ⟨by rw [z, hP.1]; rfl, fun x hx => ?_⟩
  by_cases hxn : x = n
  · subst hxn
    rw [h1]
    exact he
  · rw [h2 x hxn]
    have hlt : x < n := by omega
    exact (hP.2 x hlt).kept (o _ (by show base + x < H.size; rw [hP.1]; omega))
theorem cS_push {s : State} {H H1 : Heap} {locs : List Loc} (hS : va_S (cR base) s.heap H locs) (z : H1.size = H.size + 1) (o : ∀ q, q < H.size → H1[q]? = H[q]?) : va_S (cR base) s.heap H1 locs := ⟨Nat.le_trans hS.1 (by omega), fun q h1 h2 => (o q (Nat.lt_of_lt_of_le h1 hS.1)).trans (hS.2.1 q h1 h2), hS.2.2⟩
theorem cw_newa (C : cCx M D tys base cc nL own rf rl rc rs) {atype : ArrayType} (hw : Cond.arrayClass (newarray.typeOf atype) ∈ gw) {cA : ClassId} {t0 : Nat} (ht : tys[t0]? = some (cA, newarray.typeOf atype)) (hra : va_RA (mS M) cA (newarray.typeOf atype) → (mS M).vm.findClass ("[" ++ (newarray.typeOf atype).toString) = some cA) (hd : uD 2 cc pc (.newarray atype) pc') {m9 : Int32} {N' : Nat} {a0 : vp_A} (ha : ∀ cA : ClassId, vp_cell cA a0 = arrV cA N' (fun _ => defaultValue (newarray.typeOf atype))) (hn : ¬ m9 < 0) (hN : m9.toNatClampNeg = N') (hb9 : N' * componentBytes (newarray.typeOf atype) ≤ 536870912) (hf : cells + 1 ≤ rc ∧ slots + N' ≤ rs)
    (k : ∀ cf' : Nat → va_E, cf' n = .inl (cA, a0) → (∀ x, x ≠ n → cf' x = cf x) → cW M D base Q nL (cells + 1) (slots + N') pc' lv (.ref (base + n) :: stk) (n + 1) cf') : cW M D base Q nL cells slots pc lv (.int m9 :: stk) n cf := by
  obtain ⟨hd, rfl⟩ := hd
  obtain ⟨hx, hb, hml, hown, hts, hK, hbs, hlk, hE, r1, r2, r3, r4⟩ := C
  intro H locs ls hP hS hl
  refine va_newaK (N := N') hx hb (hts _ hw) (g := F0 (mM M) pc ls (.int m9 :: stk)) rfl hd rfl hn hN hb9 (Nat.le_trans hf.1 r3) (Nat.le_trans hf.2 r4) hP.1 fun H1 cA9 e1 z1 o1 _ hNm => ?_
  have hc : cA9 = cA := Option.some.inj (hNm.symm.trans (hra (hK.2 t0 _ ht).2))
  subst hc
  have z : H1.size = H.size + 1 := by rw [z1, hP.1]
  have o : ∀ q, q < H.size → H1[q]? = H[q]? := fun q hq => o1 q (by rw [← hP.1]; exact hq)
  exact k (fun x => if x = n then .inl (cA9, a0) else cf x) (if_pos rfl) (fun x hx => if_neg hx) H1 locs ls (cH_push hP z o (by show H1[base + n]? = some (vp_cell cA9 a0); rw [ha]; exact e1) (if_pos rfl) (fun x hx => if_neg hx)) (cS_push hS z o) hl
/-- what 'new' needs of the tables -/
def uNw (own : String) (index ci : Nat) (fs : List Value) : Prop := ∃ (Cn : String) (T : u_T) (Nf : Nat) (ty0 : Nat → FieldType), vwCl[ci]? = some (Cn, T, Nf) ∧ fs.length = Nf ∧ (∀ w ∈ u_ws Cn T Nf, w ∈ gw) ∧ (∀ k, k < Nf → parseFieldDescriptor (T k).2.2.1 = some (ty0 k)) ∧ Cond.classLink own index Cn ∈ gw ∧ Cond.instantiable Cn Nf ∈ gw ∧ Cond.initialized Cn ∈ gw ∧ ∀ j, j < Nf → defaultValue (ty0 j) = vp_V fs j
theorem cw_new (C : cCx M D tys base cc nL own rf rl rc rs) {index ci Nf : Nat} {fs : List Value} (f : uNw own index ci fs) (hNf : fs.length = Nf) (hd : uD 3 cc pc (.new index) pc') (hf : cells + 1 ≤ rc ∧ slots + Nf ≤ rs)
    (k : ∀ cf' : Nat → va_E, cf' n = .inr (ci, fs) → (∀ x, x ≠ n → cf' x = cf x) → cW M D base Q nL (cells + 1) (slots + Nf) pc' lv (.ref (base + n) :: stk) (n + 1) cf') : cW M D base Q nL cells slots pc lv stk n cf := by
  obtain ⟨hd, rfl⟩ := hd
  obtain ⟨Cn, T, Nf', ty0, h1, h2, h3, h4, h5, h6, h7, h8⟩ := f
  have : Nf' = Nf := h2.symm.trans hNf
  subst this
  obtain ⟨hx, hb, hml, hown, hts, hK, hbs, hlk, hE, r1, r2, r3, r4⟩ := C
  intro H locs ls hP hS hl
  have hKn := hK.1 ci _ h1
  refine W.newcK hx hb hown (hts _ h5) (hts _ h6) (hts _ h7) (g := F0 (mM M) pc ls stk) rfl hd (Nat.le_trans hf.1 r3) (Nat.le_trans hf.2 r4) hKn.2.1 hP.1 fun H1 kC hkC e1 z1 o1 => ?_
  have z : H1.size = H.size + 1 := by rw [z1, hP.1]
  have o : ∀ q, q < H.size → H1[q]? = H[q]? := fun q hq => o1 q (by rw [← hP.1]; exact hq)
  exact k (fun x => if x = n then .inr (ci, fs) else cf x) (if_pos rfl) (fun x hx => if_neg hx) H1 locs ls (cH_push (e := .inr (ci, fs)) hP z o ⟨_, h1, (u_born ty0 hts h3 hKn hkC e1 h4).to h8⟩ (if_pos rfl) (fun x hx => if_neg hx)) (cS_push hS z o) hl
theorem cw_newq (C : cCx M D tys base cc nL own rf rl rc rs) {index t0 : Nat} {cA : ClassId} (hw : Cond.classLink own index "FlushPlanner$State" ∈ gw) (ht : tys[t0]? = some (cA, .object "FlushPlanner$State")) (hd : uD 3 cc pc (.anewarray index) pc') {m9 : Int32} {N' : Nat} (hn : ¬ m9 < 0) (hN : m9.toNatClampNeg = N') (hb9 : N' * 4 ≤ 536870912) (hf : cells + 1 ≤ rc ∧ slots + N' ≤ rs)
    (k : ∀ cf' : Nat → va_E, cf' n = .inl (cA, N', .inr (.inr (.inr (.inr (fun _ => none))))) → (∀ x, x ≠ n → cf' x = cf x) → cW M D base Q nL (cells + 1) (slots + N') pc' lv (.ref (base + n) :: stk) (n + 1) cf') : cW M D base Q nL cells slots pc lv (.int m9 :: stk) n cf := by
  obtain ⟨hd, rfl⟩ := hd
  obtain ⟨hx, hb, hml, hown, hts, hK, hbs, hlk, hE, r1, r2, r3, r4⟩ := C
  subst hN
  intro H locs ls hP hS hl
  refine W.anew hx hb hown (hts _ hw) (va_AO.use hE.2) (g := F0 (mM M) pc ls (.int m9 :: stk)) rfl hd rfl hn hb9 (Nat.le_trans hf.1 r3) (Nat.le_trans hf.2 r4) fun cA9 kA comp f1 f2 f3 f4 => ?_
  have hc : cA9 = cA := by
    obtain ⟨_, _, _, _, _, h9⟩ := (hK.2 t0 _ ht).2
    exact Option.some.inj (f1.symm.trans h9)
  subst hc
  generalize hH1 : H.push ({ cls := cA9, slots := Array.replicate m9.toNatClampNeg .null, vm := .none } : Cell) = H1
  have z : H1.size = H.size + 1 := by rw [← hH1, Array.size_push]
  have e1 : H1[H.size]? = some (arrV cA9 m9.toNatClampNeg (fun _ => .null)) := by rw [← hH1, Array.getElem?_push_size, ← arrV_new]
  have o : ∀ q : Nat, q < H.size → H1[q]? = H[q]? := fun q hq => by rw [← hH1, Array.getElem?_push, if_neg (Nat.ne_of_lt hq)]
  rw [hP.1] at e1 ⊢
  exact k (fun x => if x = n then .inl (cA9, m9.toNatClampNeg, .inr (.inr (.inr (.inr (fun _ => none))))) else cf x) (if_pos rfl) (fun x hx => if_neg hx) H1 locs ls (cH_push hP z o (by show H1[base + n]? = some (vp_cell _ _); rw [vp_cell_q]; exact e1) (if_pos rfl) (fun x hx => if_neg hx)) (cS_push hS z o) hl
theorem cw_aast (C : cCx M D tys base cc nL own rf rl rc rs) {t0 i iv ci N' j9 : Nat} {cA : ClassId} {r : vw_C} {vs : List Value} {f : Nat → Option Nat} (hi : i < n) (hcf : cf i = .inl (cA, N', .inr (.inr (.inr (.inr f))))) (ht : tys[t0]? = some (cA, .object r.1)) (hiv : iv < n) (hcv : cf iv = .inr (ci, vs)) (hc : vwCl[ci]? = some r) (hd : uD 1 cc pc (.aastore) pc') {m9 : Int32} (hin : inB m9 N' = true) (hj : m9.toNatClampNeg = j9)
    (k : ∀ cf' : Nat → va_E, cf' i = .inl (cA, N', .inr (.inr (.inr (.inr (va_up f j9 (some (base + iv))))))) → (∀ x, x ≠ i → cf' x = cf x) → cW M D base Q nL cells slots pc' lv stk n cf') : cW M D base Q nL cells slots pc lv (.ref (base + iv) :: .int m9 :: .ref (base + i) :: stk) n cf := by
  obtain ⟨hd, rfl⟩ := hd
  subst hj
  obtain ⟨hx, hb, hml, hown, hts, hK, hbs, hlk, hE, hrm⟩ := C
  intro H locs ls hP hS hl
  have hlt : m9.toNatClampNeg < N' := inB_lt hin
  have h0 : ¬ m9 < 0 := fun q => inB_in hin (Or.inl q)
  have ha := hP.2 i hi
  rw [hcf] at ha
  have hv := hP.2 iv hiv
  rw [hcv] at hv
  obtain ⟨r', hr', cellV, g1, g2, g3, -⟩ := hv
  have hcls := (hK.1 ci r hc).2
  obtain ⟨kA, comp, k1, k2, k3, -⟩ := (hK.2 t0 _ ht).2
  have hcomp : comp = D.1 ci := Option.some.inj (k3.symm.trans hcls.1)
  subst hcomp
  obtain ⟨kC, hkC, -⟩ := hcls.2
  refine W.aast hx hb ha (fun q h => by cases h) (fun h => by cases h) k1 k2 rfl hkC ⟨h0, by show _ < (arrV _ _ _).slots.size; rw [arrV_size]; exact hlt⟩ g1 (fun q h => by rw [g3] at h; cases h) (by rw [g2]; exact hkC) (by rw [g2]; exact va_assign hcls) rfl rfl hd fun H1 e z oq => ?_
  refine k (fun x => if x = i then .inl (cA, N', .inr (.inr (.inr (.inr (va_up f m9.toNatClampNeg (some (base + iv))))))) else cf x) (if_pos rfl) (fun x hx => if_neg hx) H1 _ ls ⟨z.trans hP.1, fun x hx => ?_⟩ (hS.put z oq (Nat.le_add_right _ _)) hl
  by_cases hxi : x = i
  · subst hxi
    dsimp only
    rw [if_pos rfl]
    show H1[base + x]? = some (vp_cell _ _)
    rw [e]
    rw [vp_cell_q, vp_cell_q, arrV_store]
    congr 2
    funext q
    by_cases hq : q = m9.toNatClampNeg
    · subst hq
      simp [updV, va_up, va_rf]
    · simp [updV, va_up, hq]
  · dsimp only
    rw [if_neg hxi]
    exact (hP.2 x hx).kept (oq _ (by show base + x ≠ base + i; omega))
theorem cw_get (C : cCx M D tys base cc nL own rf rl rc rs) {index ci j i : Nat} {fs : List Value} {v : Value} (f : uF own index ci j) (hd : uD 3 cc pc (.getfield index) pc') (hi : i < n) (hcf : cf i = .inr (ci, fs)) (hv : fs[j]? = some v) (k : cW M D base Q nL cells slots pc' lv (v :: stk) n cf) : cW M D base Q nL cells slots pc lv (.ref (base + i) :: stk) n cf := by
  obtain ⟨hd, rfl⟩ := hd
  obtain ⟨Cn, T, Nf, h1, h2, h3, h4⟩ := f
  obtain ⟨hx, hb, hml, hown, hts, hK, hbs, hlk, hE, hrm⟩ := C
  intro H locs ls hP hS hl
  have hat := hP.2 i hi
  rw [hcf] at hat
  have hP1 : va_P D vwCl [(base + i, .inr (ci, fs))] H := fun k q hk => by
    have hz : k < 1 := (List.getElem?_eq_some_iff.mp hk).1
    rw [show k = 0 by omega] at hk
    cases hk
    exact hat
  exact va_get (D := D) hx hb hts h3 hown hK hP1 0 rfl h1 j h2 (hts _ h4) (fun _ h9 => h9) hv hd (k H locs ls hP hS hl)
theorem cw_vret (C : cCx M D tys base cc nL own rf rl rc rs) {post : (Nat → va_E) → Prop} {n' mc ms : Nat} (hr : (mT M).sig.returnType = none) (hd : uD 1 cc pc (.return_) pc') (hp : post cf) (hn : n = n') (hc : cells ≤ mc) (hs : slots ≤ ms) : cW M D base (MQ (mB M) (cQ D base n' post) (mA M) (mS M) mc ms (cR base)) nL cells slots pc lv [] n cf := by
  obtain ⟨hd, -⟩ := hd
  subst hn
  intro H locs ls hP hS hl
  refine W.widen hc hs ?_
  exact W.vret C.1 C.2.1 hr (fun t ht _ => ⟨rfl, ⟨cf, hp, by rw [ht]; exact hP⟩, hS.F ht⟩) hS.2.2 hd C.2.2.2.2.2.2.2.1
theorem cw_run {H : Heap} {locs : List Loc} {ls : Array Slot} {a : Array Value} {n' mc ms : Nat} {post : (Nat → va_E) → Prop} {stk0 rest : List Value} (hr : va_Run (mP M) (mL M) (mE M) (mR M) (mS M) (mM M) (mA M) (mB M) (mT M) (mC M) H locs cells slots mc ms (F0 (mM M) pc ls stk0) rest (cQ D base n' post a) (cR base)) (hS : va_S (cR base) (mS M).heap H locs) (hl : lv_has ls nL lv)
    (k : ∀ cf', post cf' → cW M D base Q nL (cells + mc) (slots + ms) (pc + 3) lv rest n' cf') : W (mP M) (mL M) (mE M) (mR M) (mS M) (mM M) (mA M) (mB M) (mT M) (mC M) H locs cells slots Q (F0 (mM M) pc ls stk0) := by
  intro T hT X
  obtain ⟨v, st₀, t, T', L, h0, X', hL, e1, e2, ⟨hv, ⟨cf', hp, hw⟩, hz, hk⟩, st⟩ := hr T hT X
  cases hv
  rw [h0] at hz hk
  obtain ⟨t2, a1, b1⟩ := k cf' hp T'.heap (locs ++ L) ls (by rw [e1]; exact hw)
    ⟨Nat.le_trans hS.1 (by rw [e1]; exact hz), fun q h1 h2 => by rw [e1, hk q (Nat.lt_of_lt_of_le h1 hS.1) h2]; exact hS.2.1 q h1 h2, fun q hq => by
      rcases List.mem_append.mp hq with h | h
      · exact hS.2.2 q h
      · exact hL q h⟩ hl T' rfl X'
  exact ⟨t2, st t2 a1, b1⟩
/-- a constructor of a nest mate -/
def uCN (own : String) (index : Nat) (y : MethodName) (host : String) (cc : ByteArray) (nL : Nat) : Prop :=
  (own, index, y, host) ∈ uNest ∧ (∀ w ∈ ([.instanceMethod y, .initialized y.cls, .code y cc nL none] : List Cond), w ∈ gw) ∧ y.name = "<init>" ∧ (y.cls ≠ "java/lang/invoke/MethodHandle" ∧ y.cls ≠ "java/lang/invoke/VarHandle" ∧ (parseMethodDescriptor y.desc).map (fun d => d.parameters.length) = some 0)
theorem cw_call (C : cCx M D tys base cc nL own rf rl rc rs) {index i n' : Nat} {y : MethodName} {host : String} {cc' : ByteArray} {nL' rf' rl' mc ms : Nat} {post : (Nat → va_E) → Prop} (cv : uCN own index y host cc' nL') (hd : uD 3 cc pc (.invokespecial index) pc') (hM : cMet (mL M) D tys base y cc' nL' rf' rl' mc ms i n cf n' post) (hw : (stk.map fun v => v.category).sum ≤ 8) (hR : rf' + 1 ≤ rf ∧ 8 + (nL' + 11) + rl' ≤ rl) (hf : cells + mc ≤ rc ∧ slots + ms ≤ rs)
    (k : ∀ cf', post cf' → cW M D base Q nL (cells + mc) (slots + ms) pc' lv stk n' cf') : cW M D base Q nL cells slots pc lv (.ref (base + i) :: stk) n cf := by
  obtain ⟨hd, rfl⟩ := hd
  obtain ⟨hx, hb, hml, hown, hts, hK, hbs, hlk, hE, r1, r2, r3, r4⟩ := C
  obtain ⟨v1, v2, v3, v4⟩ := cv
  intro H locs ls hP hS hl
  refine cw_run (va_runIN (As := []) (rest := stk) ⟨hx, hb, hml, hown, hts⟩ hM ⟨va_cnB 0 hts (gw_goodIn fun w hw => ?_) rfl rfl rfl (hE.1 _ v1) (hts _ (v2 _ (by simp))) v4 ⟨Nat.le_trans hR.1 r1, Nat.le_trans hR.2 r2⟩, v3, hts _ (v2 _ (by simp))⟩ ⟨cPre_blind, fun U hU hW => ⟨rfl, by rw [hU]; exact hP, va_K.moved hW.alike hK, cE_step hE hW⟩⟩ rfl rfl hl.1 rfl (lv_room hw) hd ⟨Nat.le_trans hf.1 r3, Nat.le_trans hf.2 r4⟩) hS hl k
  rcases List.mem_cons.mp hw with rfl | hw
  · exact v2 _ (by simp)
  · exact hw
theorem cw_met {l : Launch} {y : MethodName} {cc : ByteArray} {nL rf rl mc ms i n n' : Nat} {cf : Nat → va_E} {post : (Nat → va_E) → Prop} (hy : plainName y.cls = true) (hN : y.name = "<init>") (hlen : 1 ≤ nL) (hi : i < n)
    (body : ∀ M : uM, mL M = l → (mT M).sig.returnType = none → cCx M D tys base cc nL y.cls rf rl mc ms → (mT M).name = "<init>" → cW M D base (MQ (mB M) (cQ D base n' post) (mA M) (mS M) mc ms (cR base)) nL 0 0 0 [(0, .ref (base + i))] [] n cf) : cMet l D tys base y cc nL rf rl mc ms i n cf n' post := by
  refine Met.ofW (cc := cc) (maxL := nL) (ret := none) hy rfl ?_
  intro p e s m args' below meth c s₁ B hml hv
  obtain ⟨rfl, hP, hK, hE⟩ := hv
  have hts := atoms_spec (ws := Cond.code y cc nL none :: gw) B.pre
  have hl := lv_entry [.ref (base + i)] (n := nL) hlen
  rw [lg_entry_eq]
  exact body (p, l, e, { frames := rf, cells := mc, slots := ms, locals := rl }, s, m, _, below, meth, c) rfl B.returns ⟨B.exec, B.bytes, hml, findClass_of_methodNamed B.named, fun w hw => hts w (List.mem_cons_of_mem _ hw), hK, by show base ≤ s.heap.size; rw [hP.1]; exact Nat.le_add_right _ _, B.notSynchronized, hE, ⟨Nat.le_refl _, Nat.le_refl _, Nat.le_refl _, Nat.le_refl _⟩⟩ ((name_of_methodNamed B.named B.method).1.trans hN) s.heap [] _ hP va_S.rf hl
end CWR

theorem cn_X7_9 : uCN RX7 9 yX5_init "FlushPlanner" cX5_init 1 := ⟨by simp [uNest], gw_pl [118, 84, 119] (by decide +kernel) (by decide +kernel), rfl, by decide +kernel⟩
theorem cn_X7_25 : uCN RX7 25 yX6_init "FlushPlanner" cX6_init 1 := ⟨by simp [uNest], gw_pl [150, 85, 151] (by decide +kernel) (by decide +kernel), rfl, by decide +kernel⟩
theorem cn_X6_11 : uCN RX6 11 yX0_init "FlushPlanner" cX0_init 1 := ⟨by simp [uNest], gw_pl [156, 86, 157] (by decide +kernel) (by decide +kernel), rfl, by decide +kernel⟩
theorem cn_X6_20 : uCN RX6 20 yX3_init "FlushPlanner" cX3_init 1 := ⟨by simp [uNest], gw_pl [193, 87, 194] (by decide +kernel) (by decide +kernel), rfl, by decide +kernel⟩
theorem cn_X6_27 : uCN RX6 27 yX2_init "FlushPlanner" cX2_init 1 := ⟨by simp [uNest], gw_pl [220, 88, 221] (by decide +kernel) (by decide +kernel), rfl, by decide +kernel⟩
theorem cn_X6_34 : uCN RX6 34 yX1_init "FlushPlanner" cX1_init 1 := ⟨by simp [uNest], gw_pl [257, 89, 258] (by decide +kernel) (by decide +kernel), rfl, by decide +kernel⟩
theorem cn_X7_43 : uCN RX7 43 yX4_init "FlushPlanner" cX4_init 1 := ⟨by simp [uNest], gw_pl [326, 90, 327] (by decide +kernel) (by decide +kernel), rfl, by decide +kernel⟩
theorem cn_X7_50 : uCN RX7 50 yX0_init "FlushPlanner" cX0_init 1 := ⟨by simp [uNest], gw_pl [156, 86, 157] (by decide +kernel) (by decide +kernel), rfl, by decide +kernel⟩
theorem cn_X7_57 : uCN RX7 57 yX1_init "FlushPlanner" cX1_init 1 := ⟨by simp [uNest], gw_pl [257, 89, 258] (by decide +kernel) (by decide +kernel), rfl, by decide +kernel⟩
theorem ff_X7_10 : uFf RX7 10 7 0 (.object "FlushPlanner$SetupText") := ⟨RX7, TX7, 10, tyX7, rfl, by decide, lay7, gw_at 344 (by decide +kernel) (by decide +kernel), tyX7_ok, nmX7, rfl, by decide +kernel, rfl⟩
theorem ff_X7_26 : uFf RX7 26 7 3 (.object "FlushPlanner$State") := ⟨RX7, TX7, 10, tyX7, rfl, by decide, lay7, gw_at 347 (by decide +kernel) (by decide +kernel), tyX7_ok, nmX7, rfl, by decide +kernel, rfl⟩
theorem ff_X7_30 : uFf RX7 30 7 4 (.object "FlushPlanner$State") := ⟨RX7, TX7, 10, tyX7, rfl, by decide, lay7, gw_at 348 (by decide +kernel) (by decide +kernel), tyX7_ok, nmX7, rfl, by decide +kernel, rfl⟩
theorem ff_X7_33 : uFf RX7 33 7 5 (.array (.object "FlushPlanner$State")) := ⟨RX7, TX7, 10, tyX7, rfl, by decide, lay7, gw_at 349 (by decide +kernel) (by decide +kernel), tyX7_ok, nmX7, rfl, by decide +kernel, rfl⟩
theorem ff_X7_37 : uFf RX7 37 7 6 (.array .boolean) := ⟨RX7, TX7, 10, tyX7, rfl, by decide, lay7, gw_at 350 (by decide +kernel) (by decide +kernel), tyX7_ok, nmX7, rfl, by decide +kernel, rfl⟩
theorem ff_X7_44 : uFf RX7 44 7 7 (.object "FlushPlanner$Search") := ⟨RX7, TX7, 10, tyX7, rfl, by decide, lay7, gw_at 351 (by decide +kernel) (by decide +kernel), tyX7_ok, nmX7, rfl, by decide +kernel, rfl⟩
theorem ff_X7_51 : uFf RX7 51 7 8 (.object "FlushPlanner$Battery") := ⟨RX7, TX7, 10, tyX7, rfl, by decide, lay7, gw_at 352 (by decide +kernel) (by decide +kernel), tyX7_ok, nmX7, rfl, by decide +kernel, rfl⟩
theorem ff_X7_58 : uFf RX7 58 7 9 (.object "FlushPlanner$Cache") := ⟨RX7, TX7, 10, tyX7, rfl, by decide, lay7, gw_at 353 (by decide +kernel) (by decide +kernel), tyX7_ok, nmX7, rfl, by decide +kernel, rfl⟩
theorem ff_X1_15 : uFf RX1 15 1 1 (.array .int) := ⟨RX1, TX1, 5, tyX1, rfl, by decide, lay1, gw_at 265 (by decide +kernel) (by decide +kernel), tyX1_ok, nmX1, rfl, by decide +kernel, rfl⟩
theorem ff_X1_19 : uFf RX1 19 1 2 (.array .int) := ⟨RX1, TX1, 5, tyX1, rfl, by decide, lay1, gw_at 270 (by decide +kernel) (by decide +kernel), tyX1_ok, nmX1, rfl, by decide +kernel, rfl⟩
theorem ff_X1_22 : uFf RX1 22 1 3 (.array .int) := ⟨RX1, TX1, 5, tyX1, rfl, by decide, lay1, gw_at 272 (by decide +kernel) (by decide +kernel), tyX1_ok, nmX1, rfl, by decide +kernel, rfl⟩
theorem ff_X1_25 : uFf RX1 25 1 4 (.array .int) := ⟨RX1, TX1, 5, tyX1, rfl, by decide, lay1, gw_at 275 (by decide +kernel) (by decide +kernel), tyX1_ok, nmX1, rfl, by decide +kernel, rfl⟩
theorem ff_X2_15 : uFf RX2 15 2 1 (.array .int) := ⟨RX2, TX2, 5, tyX2, rfl, by decide, lay2, gw_at 226 (by decide +kernel) (by decide +kernel), tyX2_ok, nmX2, rfl, by decide +kernel, rfl⟩
theorem ff_X2_19 : uFf RX2 19 2 2 (.array .int) := ⟨RX2, TX2, 5, tyX2, rfl, by decide, lay2, gw_at 230 (by decide +kernel) (by decide +kernel), tyX2_ok, nmX2, rfl, by decide +kernel, rfl⟩
theorem ff_X2_22 : uFf RX2 22 2 3 (.array .int) := ⟨RX2, TX2, 5, tyX2, rfl, by decide, lay2, gw_at 234 (by decide +kernel) (by decide +kernel), tyX2_ok, nmX2, rfl, by decide +kernel, rfl⟩
theorem ff_X2_25 : uFf RX2 25 2 4 (.array .boolean) := ⟨RX2, TX2, 5, tyX2, rfl, by decide, lay2, gw_at 238 (by decide +kernel) (by decide +kernel), tyX2_ok, nmX2, rfl, by decide +kernel, rfl⟩
theorem ff_X4_11 : uFf RX4 11 4 0 (.array .long) := ⟨RX4, TX4, 3, tyX4, rfl, by decide, lay4, gw_at 329 (by decide +kernel) (by decide +kernel), tyX4_ok, nmX4, rfl, by decide +kernel, rfl⟩
theorem ff_X4_15 : uFf RX4 15 4 1 (.array .long) := ⟨RX4, TX4, 3, tyX4, rfl, by decide, lay4, gw_at 330 (by decide +kernel) (by decide +kernel), tyX4_ok, nmX4, rfl, by decide +kernel, rfl⟩
theorem ff_X4_18 : uFf RX4 18 4 2 (.array .long) := ⟨RX4, TX4, 3, tyX4, rfl, by decide, lay4, gw_at 331 (by decide +kernel) (by decide +kernel), tyX4_ok, nmX4, rfl, by decide +kernel, rfl⟩
theorem ff_X5_9 : uFf RX5 9 5 0 (.array .byte) := ⟨RX5, TX5, 7, tyX5, rfl, by decide, lay5, gw_at 121 (by decide +kernel) (by decide +kernel), tyX5_ok, nmX5, rfl, by decide +kernel, rfl⟩
theorem ff_X6_12 : uFf RX6 12 6 0 (.object "FlushPlanner$Battery") := ⟨RX6, TX6, 7, tyX6, rfl, by decide, lay6, gw_at 288 (by decide +kernel) (by decide +kernel), tyX6_ok, nmX6, rfl, by decide +kernel, rfl⟩
theorem ff_X6_21 : uFf RX6 21 6 1 (.object "FlushPlanner$Rules") := ⟨RX6, TX6, 7, tyX6, rfl, by decide, lay6, gw_at 291 (by decide +kernel) (by decide +kernel), tyX6_ok, nmX6, rfl, by decide +kernel, rfl⟩
theorem ff_X6_28 : uFf RX6 28 6 2 (.object "FlushPlanner$Devices") := ⟨RX6, TX6, 7, tyX6, rfl, by decide, lay6, gw_at 294 (by decide +kernel) (by decide +kernel), tyX6_ok, nmX6, rfl, by decide +kernel, rfl⟩
theorem ff_X6_35 : uFf RX6 35 6 3 (.object "FlushPlanner$Cache") := ⟨RX6, TX6, 7, tyX6, rfl, by decide, lay6, gw_at 298 (by decide +kernel) (by decide +kernel), tyX6_ok, nmX6, rfl, by decide +kernel, rfl⟩
theorem ff_X6_39 : uFf RX6 39 6 4 (.array .int) := ⟨RX6, TX6, 7, tyX6, rfl, by decide, lay6, gw_at 301 (by decide +kernel) (by decide +kernel), tyX6_ok, nmX6, rfl, by decide +kernel, rfl⟩
theorem ff_X8_7 : uFf RX8 7 8 1 (.array .int) := ⟨RX8, TX8, 18, tyX8, rfl, by decide, lay8, gw_at 1099 (by decide +kernel) (by decide +kernel), tyX8_ok, nmX8, rfl, by decide +kernel, rfl⟩
theorem ff_X8_13 : uFf RX8 13 8 2 (.array .int) := ⟨RX8, TX8, 18, tyX8, rfl, by decide, lay8, gw_at 1100 (by decide +kernel) (by decide +kernel), tyX8_ok, nmX8, rfl, by decide +kernel, rfl⟩
theorem ff_X8_16 : uFf RX8 16 8 3 (.array .int) := ⟨RX8, TX8, 18, tyX8, rfl, by decide, lay8, gw_at 1101 (by decide +kernel) (by decide +kernel), tyX8_ok, nmX8, rfl, by decide +kernel, rfl⟩
theorem ff_X8_19 : uFf RX8 19 8 4 (.array .int) := ⟨RX8, TX8, 18, tyX8, rfl, by decide, lay8, gw_at 1102 (by decide +kernel) (by decide +kernel), tyX8_ok, nmX8, rfl, by decide +kernel, rfl⟩
theorem ff_X8_22 : uFf RX8 22 8 5 (.array .boolean) := ⟨RX8, TX8, 18, tyX8, rfl, by decide, lay8, gw_at 1103 (by decide +kernel) (by decide +kernel), tyX8_ok, nmX8, rfl, by decide +kernel, rfl⟩
theorem ff_X8_26 : uFf RX8 26 8 6 (.array .int) := ⟨RX8, TX8, 18, tyX8, rfl, by decide, lay8, gw_at 1104 (by decide +kernel) (by decide +kernel), tyX8_ok, nmX8, rfl, by decide +kernel, rfl⟩
theorem ff_X8_33 : uFf RX8 33 8 15 (.array .long) := ⟨RX8, TX8, 18, tyX8, rfl, by decide, lay8, gw_at 1113 (by decide +kernel) (by decide +kernel), tyX8_ok, nmX8, rfl, by decide +kernel, rfl⟩
theorem ff_X8_37 : uFf RX8 37 8 16 (.array .long) := ⟨RX8, TX8, 18, tyX8, rfl, by decide, lay8, gw_at 1114 (by decide +kernel) (by decide +kernel), tyX8_ok, nmX8, rfl, by decide +kernel, rfl⟩
theorem ff_X8_40 : uFf RX8 40 8 17 (.array .long) := ⟨RX8, TX8, 18, tyX8, rfl, by decide, lay8, gw_at 1115 (by decide +kernel) (by decide +kernel), tyX8_ok, nmX8, rfl, by decide +kernel, rfl⟩
theorem nw_L_8 : uNw RL 8 7 [.null, .int 0, .int 0, .null, .null, .null, .null, .null, .null, .null] := ⟨RX7, TX7, 10, tyX7, rfl, rfl, lay7, tyX7_ok, gw_at 107 (by decide +kernel) (by decide +kernel), gw_at 108 (by decide +kernel) (by decide +kernel), gw_at 83 (by decide +kernel) (by decide +kernel), by decide +kernel⟩
theorem clk_L_8 : Cond.classLink RL 8 "FlushPlanner" ∈ gw := gw_at 107 (by decide +kernel) (by decide +kernel)
theorem nw_X7_7 : uNw RX7 7 5 [.null, .int 0, .int 0, .int 0, .int 0, .int 0, .int 0] := ⟨RX5, TX5, 7, tyX5, rfl, rfl, lay5, tyX5_ok, gw_at 115 (by decide +kernel) (by decide +kernel), gw_at 116 (by decide +kernel) (by decide +kernel), gw_at 84 (by decide +kernel) (by decide +kernel), by decide +kernel⟩
theorem clk_X7_7 : Cond.classLink RX7 7 "FlushPlanner$SetupText" ∈ gw := gw_at 115 (by decide +kernel) (by decide +kernel)
theorem nw_X7_23 : uNw RX7 23 6 [.null, .null, .null, .null, .null, .int 0, .int 0] := ⟨RX6, TX6, 7, tyX6, rfl, rfl, lay6, tyX6_ok, gw_at 147 (by decide +kernel) (by decide +kernel), gw_at 148 (by decide +kernel) (by decide +kernel), gw_at 85 (by decide +kernel) (by decide +kernel), by decide +kernel⟩
theorem clk_X7_23 : Cond.classLink RX7 23 "FlushPlanner$State" ∈ gw := gw_at 147 (by decide +kernel) (by decide +kernel)
theorem nw_X6_9 : uNw RX6 9 0 [.int 0, .int 0, .int 0, .int 0, .int 0, .int 0] := ⟨RX0, TX0, 6, tyX0, rfl, rfl, lay0, tyX0_ok, gw_at 153 (by decide +kernel) (by decide +kernel), gw_at 154 (by decide +kernel) (by decide +kernel), gw_at 86 (by decide +kernel) (by decide +kernel), by decide +kernel⟩
theorem clk_X6_9 : Cond.classLink RX6 9 "FlushPlanner$Battery" ∈ gw := gw_at 153 (by decide +kernel) (by decide +kernel)
theorem nw_X6_18 : uNw RX6 18 3 [.int 0, .int 0, .int 0, .int 0] := ⟨RX3, TX3, 4, tyX3, rfl, rfl, lay3, tyX3_ok, gw_at 190 (by decide +kernel) (by decide +kernel), gw_at 191 (by decide +kernel) (by decide +kernel), gw_at 87 (by decide +kernel) (by decide +kernel), by decide +kernel⟩
theorem clk_X6_18 : Cond.classLink RX6 18 "FlushPlanner$Rules" ∈ gw := gw_at 190 (by decide +kernel) (by decide +kernel)
theorem nw_X6_25 : uNw RX6 25 2 [.int 0, .null, .null, .null, .null] := ⟨RX2, TX2, 5, tyX2, rfl, rfl, lay2, tyX2_ok, gw_at 217 (by decide +kernel) (by decide +kernel), gw_at 218 (by decide +kernel) (by decide +kernel), gw_at 88 (by decide +kernel) (by decide +kernel), by decide +kernel⟩
theorem clk_X6_25 : Cond.classLink RX6 25 "FlushPlanner$Devices" ∈ gw := gw_at 217 (by decide +kernel) (by decide +kernel)
theorem nw_X6_32 : uNw RX6 32 1 [.int 0, .null, .null, .null, .null] := ⟨RX1, TX1, 5, tyX1, rfl, rfl, lay1, tyX1_ok, gw_at 254 (by decide +kernel) (by decide +kernel), gw_at 255 (by decide +kernel) (by decide +kernel), gw_at 89 (by decide +kernel) (by decide +kernel), by decide +kernel⟩
theorem clk_X6_32 : Cond.classLink RX6 32 "FlushPlanner$Cache" ∈ gw := gw_at 254 (by decide +kernel) (by decide +kernel)
theorem nw_X7_41 : uNw RX7 41 4 [.null, .null, .null] := ⟨RX4, TX4, 3, tyX4, rfl, rfl, lay4, tyX4_ok, gw_at 323 (by decide +kernel) (by decide +kernel), gw_at 324 (by decide +kernel) (by decide +kernel), gw_at 90 (by decide +kernel) (by decide +kernel), by decide +kernel⟩
theorem clk_X7_41 : Cond.classLink RX7 41 "FlushPlanner$Search" ∈ gw := gw_at 323 (by decide +kernel) (by decide +kernel)
theorem nw_X7_48 : uNw RX7 48 0 [.int 0, .int 0, .int 0, .int 0, .int 0, .int 0] := ⟨RX0, TX0, 6, tyX0, rfl, rfl, lay0, tyX0_ok, gw_at 340 (by decide +kernel) (by decide +kernel), gw_at 154 (by decide +kernel) (by decide +kernel), gw_at 86 (by decide +kernel) (by decide +kernel), by decide +kernel⟩
theorem clk_X7_48 : Cond.classLink RX7 48 "FlushPlanner$Battery" ∈ gw := gw_at 340 (by decide +kernel) (by decide +kernel)
theorem nw_X7_55 : uNw RX7 55 1 [.int 0, .null, .null, .null, .null] := ⟨RX1, TX1, 5, tyX1, rfl, rfl, lay1, tyX1_ok, gw_at 342 (by decide +kernel) (by decide +kernel), gw_at 255 (by decide +kernel) (by decide +kernel), gw_at 89 (by decide +kernel) (by decide +kernel), by decide +kernel⟩
theorem clk_X7_55 : Cond.classLink RX7 55 "FlushPlanner$Cache" ∈ gw := gw_at 342 (by decide +kernel) (by decide +kernel)
theorem nw_L_116 : uNw RL 116 8 [.int 0, .null, .null, .null, .null, .null, .null, .int 0, .int 0, .int 0, .int 0, .int 0, .int 0, .int 0, .int 0, .null, .null, .null] := ⟨RX8, TX8, 18, tyX8, rfl, rfl, lay8, tyX8_ok, gw_at 1084 (by decide +kernel) (by decide +kernel), gw_at 1085 (by decide +kernel) (by decide +kernel), gw_at 91 (by decide +kernel) (by decide +kernel), by decide +kernel⟩
theorem clk_L_116 : Cond.classLink RL 116 "FlushPlannerModel" ∈ gw := gw_at 1084 (by decide +kernel) (by decide +kernel)
theorem oi_X7_1 : ∀ w ∈ ([.methodLink RX7 1 objectInit, .instanceMethod objectInit, .code objectInit ⟨#[0xb1]⟩ 1 none] : List Cond), w ∈ gw := gw_pl [112, 113, 114] (by decide +kernel) (by decide +kernel)
theorem oi_X0_1 : ∀ w ∈ ([.methodLink RX0 1 objectInit, .instanceMethod objectInit, .code objectInit ⟨#[0xb1]⟩ 1 none] : List Cond), w ∈ gw := gw_pl [158, 113, 114] (by decide +kernel) (by decide +kernel)
theorem oi_X1_3 : ∀ w ∈ ([.methodLink RX1 3 objectInit, .instanceMethod objectInit, .code objectInit ⟨#[0xb1]⟩ 1 none] : List Cond), w ∈ gw := gw_pl [259, 113, 114] (by decide +kernel) (by decide +kernel)
theorem oi_X2_3 : ∀ w ∈ ([.methodLink RX2 3 objectInit, .instanceMethod objectInit, .code objectInit ⟨#[0xb1]⟩ 1 none] : List Cond), w ∈ gw := gw_pl [222, 113, 114] (by decide +kernel) (by decide +kernel)
theorem oi_X3_3 : ∀ w ∈ ([.methodLink RX3 3 objectInit, .instanceMethod objectInit, .code objectInit ⟨#[0xb1]⟩ 1 none] : List Cond), w ∈ gw := gw_pl [195, 113, 114] (by decide +kernel) (by decide +kernel)
theorem oi_X4_5 : ∀ w ∈ ([.methodLink RX4 5 objectInit, .instanceMethod objectInit, .code objectInit ⟨#[0xb1]⟩ 1 none] : List Cond), w ∈ gw := gw_pl [328, 113, 114] (by decide +kernel) (by decide +kernel)
theorem oi_X5_3 : ∀ w ∈ ([.methodLink RX5 3 objectInit, .instanceMethod objectInit, .code objectInit ⟨#[0xb1]⟩ 1 none] : List Cond), w ∈ gw := gw_pl [120, 113, 114] (by decide +kernel) (by decide +kernel)
theorem oi_X6_3 : ∀ w ∈ ([.methodLink RX6 3 objectInit, .instanceMethod objectInit, .code objectInit ⟨#[0xb1]⟩ 1 none] : List Cond), w ∈ gw := gw_pl [152, 113, 114] (by decide +kernel) (by decide +kernel)
theorem oi_X8_1 : ∀ w ∈ ([.methodLink RX8 1 objectInit, .instanceMethod objectInit, .code objectInit ⟨#[0xb1]⟩ 1 none] : List Cond), w ∈ gw := gw_pl [1089, 113, 114] (by decide +kernel) (by decide +kernel)
theorem ac_byte : Cond.arrayClass .byte ∈ gw := gw_at 146 (by decide +kernel) (by decide +kernel)
theorem ac_int : Cond.arrayClass .int ∈ gw := gw_at 252 (by decide +kernel) (by decide +kernel)
theorem ac_long : Cond.arrayClass .long ∈ gw := gw_at 339 (by decide +kernel) (by decide +kernel)
theorem ac_boolean : Cond.arrayClass .boolean ∈ gw := gw_at 253 (by decide +kernel) (by decide +kernel)
theorem ac_double : Cond.arrayClass .double ∈ gw := gw_at 1523 (by decide +kernel) (by decide +kernel)
