/-! rows for written numbers: nothing is guarded, nothing is named -/
section UXK
variable {M : uM} {V : uV} {cc : ByteArray} {nL : Nat} {own : String} {rf rl rc rs : Nat} {Q : State → Prop} {cells slots pc pc' : Nat} {lv : List (Nat × Value)} {stk : List Value} {st : uSt}
theorem ux_ialdK (C : uCx M V cc nL own rf rl rc rs) {id n j : Nat} {i : Int32} (ar : uAr V id .int n) (hd : uD 1 cc pc (.iaload) pc') (hi : inB i n = true) (hj : i.toNatClampNeg = j) (k : uW M V Q nL cells slots pc' lv (.int (st.1 id j) :: stk) st) : uW M V Q nL cells slots pc lv (.int i :: .ref (vA V id) :: stk) st := by
  subst hj
  exact ux_iald (β := Unit) (a := some ()) (r := ()) C ar hd (by rw [hi]; rfl) (fun _ => k)
theorem ux_zaldK (C : uCx M V cc nL own rf rl rc rs) {id n j : Nat} {i : Int32} (ar : uAr V id .boolean n) (hd : uD 1 cc pc (.baload) pc') (hi : inB i n = true) (hj : i.toNatClampNeg = j) (k : uW M V Q nL cells slots pc' lv (.int (st.1 id j) :: stk) st) : uW M V Q nL cells slots pc lv (.int i :: .ref (vA V id) :: stk) st := by
  subst hj
  exact ux_zald (β := Unit) (a := some ()) (r := ()) C ar hd (by rw [hi]; rfl) (fun _ => k)
theorem ux_laldK (C : uCx M V cc nL own rf rl rc rs) {id n j : Nat} {i : Int32} (ar : uArL V id n) (hd : uD 1 cc pc (.laload) pc') (hi : inB i n = true) (hj : i.toNatClampNeg = j) (k : uW M V Q nL cells slots pc' lv (.long (st.2.1 id j) :: stk) st) : uW M V Q nL cells slots pc lv (.int i :: .ref (vA V id) :: stk) st := by
  subst hj
  exact ux_lald (β := Unit) (a := some ()) (r := ()) C ar hd (by rw [hi]; rfl) (fun _ => k)
theorem ux_iastK (C : uCx M V cc nL own rf rl rc rs) {id n j : Nat} {i x : Int32} {β : Type} {b : uSt → Option β} {r : β} (ar : uAr V id .int n) (hd : uD 1 cc pc (.iastore) pc') (hi : inB i n = true) (hj : i.toNatClampNeg = j) (h : ol (sI st id j x) b = some r) (k : ∀ st', b st' = some r → uW M V Q nL cells slots pc' lv stk st') : uW M V Q nL cells slots pc lv (.int x :: .int i :: .ref (vA V id) :: stk) st := by
  subst hj
  exact ux_iast C ar hd (by rw [hi]; exact h) k
theorem ux_lastK (C : uCx M V cc nL own rf rl rc rs) {id n j : Nat} {i : Int32} {x : Int64} {β : Type} {b : uSt → Option β} {r : β} (ar : uArL V id n) (hd : uD 1 cc pc (.lastore) pc') (hi : inB i n = true) (hj : i.toNatClampNeg = j) (h : ol (sL st id j x) b = some r) (k : ∀ st', b st' = some r → uW M V Q nL cells slots pc' lv stk st') : uW M V Q nL cells slots pc lv (.long x :: .int i :: .ref (vA V id) :: stk) st := by
  subst hj
  exact ux_last C ar hd (by rw [hi]; exact h) k
theorem ux_dastK (C : uCx M V cc nL own rf rl rc rs) {id n j : Nat} {i : Int32} {x : UInt64} {β : Type} {b : uSt → Option β} {r : β} (ar : uArD V id n) (hd : uD 1 cc pc (.dastore) pc') (hi : inB i n = true) (hj : i.toNatClampNeg = j) (h : ol (sD st id j x) b = some r) (k : ∀ st', b st' = some r → uW M V Q nL cells slots pc' lv stk st') : uW M V Q nL cells slots pc lv (.double x :: .int i :: .ref (vA V id) :: stk) st := by
  subst hj
  exact ux_dast C ar hd (by rw [hi]; exact h) k
/-- a written truth value into a boolean array, at any place -/
theorem ux_zastB (C : uCx M V cc nL own rf rl rc rs) {id n : Nat} {i x : Int32} {β : Type} {b : uSt → Option β} {r : β} (ar : uAr V id .boolean n) (hd : uD 1 cc pc (.bastore) pc') (hx : vp_nar .boolean x = x) (h : og (inB i n) (ol (sI st id i.toNatClampNeg x) b) = some r) (k : ∀ st', b st' = some r → uW M V Q nL cells slots pc' lv stk st') : uW M V Q nL cells slots pc lv (.int x :: .int i :: .ref (vA V id) :: stk) st := ux_zast C ar hd (by rw [hx]; exact h) k
theorem ux_zastK (C : uCx M V cc nL own rf rl rc rs) {id n j : Nat} {i x : Int32} {β : Type} {b : uSt → Option β} {r : β} (ar : uAr V id .boolean n) (hd : uD 1 cc pc (.bastore) pc') (hx : vp_nar .boolean x = x) (hi : inB i n = true) (hj : i.toNatClampNeg = j) (h : ol (sI st id j x) b = some r) (k : ∀ st', b st' = some r → uW M V Q nL cells slots pc' lv stk st') : uW M V Q nL cells slots pc lv (.int x :: .int i :: .ref (vA V id) :: stk) st := by
  subst hj
  exact ux_zastB C ar hd hx (by rw [hi]; exact h) k
theorem ux_idivK (C : uCx M V cc nL own rf rl rc rs) {x y : Int32} (hd : uD 1 cc pc (.idiv) pc') (hy : nzB y = true) (k : uW M V Q nL cells slots pc' lv (.int (x / y) :: stk) st) : uW M V Q nL cells slots pc lv (.int y :: .int x :: stk) st := ux_idiv (β := Unit) (a := some ()) (r := ()) C hd (by rw [hy]; rfl) (fun _ => k)
theorem ux_iremK (C : uCx M V cc nL own rf rl rc rs) {x y : Int32} (hd : uD 1 cc pc (.irem) pc') (hy : nzB y = true) (k : uW M V Q nL cells slots pc' lv (.int (x - x / y * y) :: stk) st) : uW M V Q nL cells slots pc lv (.int y :: .int x :: stk) st := ux_irem (β := Unit) (a := some ()) (r := ()) C hd (by rw [hy]; rfl) (fun _ => k)
theorem ux_iincK (C : uCx M V cc nL own rf rl rc rs) {i : Nat} {n : Int} {x m9 : Int32} {β : Type} {b : Int32 → Option β} {r : β} (hd : uD 3 cc pc (.iinc i n) pc') (hm : Int32.ofInt n = m9) (j : Nat) (hj : lv[j]? = some (i, .int x)) (f : Int32 → List (Nat × Value)) (hf : ∀ z, (i, Value.int z) :: lv.filter (fun q => !(q.1 == i) && !(q.1 + 1 == i && q.2.category == 2)) = f z) (hn : i < nL) (h : ol (x + m9) b = some r) (k : ∀ z, b z = some r → uW M V Q nL cells slots pc' (f z) stk st) : uW M V Q nL cells slots pc lv stk st := by
  subst hm
  exact ux_iinc C hd j hj f hf hn h k
theorem ux_istoreK_n (C : uCx M V cc nL own rf rl rc rs) {kf : Fin 4} {x : Int32} {lv' : List (Nat × Value)} (hd : uD 1 cc pc (.istore_n kf) pc') (hf : ((kf : Nat), Value.int x) :: lv.filter (fun q => !(q.1 == (kf : Nat)) && !(q.1 + 1 == (kf : Nat) && q.2.category == 2)) = lv') (hn : (kf : Nat) < nL) (k : uW M V Q nL cells slots pc' lv' stk st) : uW M V Q nL cells slots pc lv (.int x :: stk) st := by
  obtain ⟨hd, rfl⟩ := hd
  intro H locs ls hP hS hl
  exact lv_istore_n C.1 C.2.1 hd rfl hl hn hf (fun ls hl => k H locs ls hP hS hl)
theorem ux_istoreK (C : uCx M V cc nL own rf rl rc rs) {i : Nat} {x : Int32} {lv' : List (Nat × Value)} (hd : uD 2 cc pc (.istore i) pc') (hf : (i, Value.int x) :: lv.filter (fun q => !(q.1 == i) && !(q.1 + 1 == i && q.2.category == 2)) = lv') (hn : i < nL) (k : uW M V Q nL cells slots pc' lv' stk st) : uW M V Q nL cells slots pc lv (.int x :: stk) st := by
  obtain ⟨hd, rfl⟩ := hd
  intro H locs ls hP hS hl
  exact lv_istore C.1 C.2.1 hd hl hn hf (fun ls hl => k H locs ls hP hS hl)
theorem ux_zretK (C : uCx M V cc nL own rf rl rc rs) {v r : Int32} {mc ms : Nat} (hr : (mT M).sig.returnType = some .boolean) (hd : uD 1 cc pc (.ireturn) pc') (hv : isB v = true) (h : some v = some r) (hc : cells ≤ mc) (hs : slots ≤ ms) : uW M V (uEnd M V mc ms (some (.int r)) st) nL cells slots pc lv [.int v] st := ux_zret C hr hd (by rw [hv]; exact h) hc hs
theorem ux_zretSK (C : uCx M V cc nL own rf rl rc rs) {v r : Int32} {st' : uSt} {mc ms : Nat} (hr : (mT M).sig.returnType = some .boolean) (hd : uD 1 cc pc (.ireturn) pc') (hv : isB v = true) (h : some (v, st) = some (r, st')) (hc : cells ≤ mc) (hs : slots ≤ ms) : uW M V (uEnd M V mc ms (some (.int r)) st') nL cells slots pc lv [.int v] st := ux_zretS C hr hd (by rw [hv]; exact h) hc hs
end UXK
