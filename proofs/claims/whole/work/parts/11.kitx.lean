/-! STRINGS, copies, and what throws. -/
section UXS
variable {M : uM} {V : uV} {cc : ByteArray} {nL : Nat} {own : String} {rf rl rc rs : Nat} {Q : State → Prop} {cells slots pc pc' : Nat} {lv : List (Nat × Value)} {stk : List Value} {st : uSt}
theorem uCx.str (C : uCx M V cc nL own rf rl rc rs) {i : Nat} (hi : i < 16) : va_O "java/lang/String" (vK V i) (vR V) (mS M) (mS M).heap ∧ va_OF "java/lang/String" "coder" "B" (.int 0) (vK V i) (vR V) (mS M) (mS M).heap ∧ va_OF "java/lang/String" "value" "[B" (.ref (vV V i)) (vK V i) (vR V) (mS M) (mS M).heap ∧ va_T .byte (vV V i) (uLen i) (fun j => .int (uCh i j)) (vR V) (mS M) (mS M).heap := C.g.2.2.2.2.2.2.1 i hi
theorem ux_sgetv (C : uCx M V cc nL own rf rl rc rs) {i index : Nat} (hi : i < 16) (hw : Cond.fieldLink own index "java/lang/String" "value" "[B" ∈ gw) (hd : uD 3 cc pc (.getfield index) pc') (k : uW M V Q nL cells slots pc' lv (.ref (vV V i) :: stk) st) : uW M V Q nL cells slots pc lv (.ref (vK V i) :: stk) st := by
  obtain ⟨hd, rfl⟩ := hd
  intro H locs ls hP hS hl
  exact vk_getf C.1 C.2.1 (C.str hi).2.2.1 hS C.own (C.words _ hw) (fun _ h => h) hd (k H locs ls hP hS hl)
theorem ux_sgetc (C : uCx M V cc nL own rf rl rc rs) {i index : Nat} (hi : i < 16) (hw : Cond.fieldLink own index "java/lang/String" "coder" "B" ∈ gw) (hd : uD 3 cc pc (.getfield index) pc') (k : uW M V Q nL cells slots pc' lv (.int 0 :: stk) st) : uW M V Q nL cells slots pc lv (.ref (vK V i) :: stk) st := by
  obtain ⟨hd, rfl⟩ := hd
  intro H locs ls hP hS hl
  exact vk_getf C.1 C.2.1 (C.str hi).2.1 hS C.own (C.words _ hw) (fun _ h => h) hd (k H locs ls hP hS hl)
theorem ux_gcomp (C : uCx M V cc nL own rf rl rc rs) {index : Nat} (hw : Cond.fieldLink own index "java/lang/String" "COMPACT_STRINGS" "Z" ∈ gw) (hd : uD 3 cc pc (.getstatic index) pc') (k : uW M V Q nL cells slots pc' lv (.int 1 :: stk) st) : uW M V Q nL cells slots pc lv stk st := by
  obtain ⟨hd, rfl⟩ := hd
  intro H locs ls hP hS hl
  exact va_gets C.1 C.2.1 C.g.2.2.2.2.2.2.2.1 hS C.own (C.words _ hw) (fun _ h => h) hd (k H locs ls hP hS hl)
theorem ux_gfmt (C : uCx M V cc nL own rf rl rc rs) {index : Nat} (hw : Cond.fieldLink own index "jdk/internal/util/Preconditions" "SIOOBE_FORMATTER" "Ljava/util/function/BiFunction;" ∈ gw) (hd : uD 3 cc pc (.getstatic index) pc') (k : ∀ v : Value, (v = .null ∨ ∃ t, v = .ref t) → uW M V Q nL cells slots pc' lv (v :: stk) st) : uW M V Q nL cells slots pc lv stk st := by
  obtain ⟨hd, rfl⟩ := hd
  intro H locs ls hP hS hl
  rcases C.g.2.2.2.2.2.2.2.2 with hz | ⟨t, hz⟩
  · exact va_gets C.1 C.2.1 hz hS C.own (C.words _ hw) (fun _ h => h) hd (k _ (Or.inl rfl) H locs ls hP hS hl)
  · exact va_gets C.1 C.2.1 hz hS C.own (C.words _ hw) (fun _ h => h) hd (k _ (Or.inr ⟨t, rfl⟩) H locs ls hP hS hl)
theorem ux_slen (C : uCx M V cc nL own rf rl rc rs) {i : Nat} (hi : i < 16) (hd : uD 1 cc pc (.arraylength) pc') (k : uW M V Q nL cells slots pc' lv (.int (nI (uLen i)) :: stk) st) : uW M V Q nL cells slots pc lv (.ref (vV V i) :: stk) st := by
  obtain ⟨hd, rfl⟩ := hd
  intro H locs ls hP hS hl
  exact va_tlen C.1 C.2.1 (C.str hi).2.2.2 hS rfl hd (k H locs ls hP hS hl)
theorem ux_sbald (C : uCx M V cc nL own rf rl rc rs) {i : Nat} {j : Int32} (hi : i < 16) (hd : uD 1 cc pc (.baload) pc') (hj : inB j (uLen i) = true) (k : uW M V Q nL cells slots pc' lv (.int (uCh i j.toNatClampNeg) :: stk) st) : uW M V Q nL cells slots pc lv (.int j :: .ref (vV V i) :: stk) st := by
  obtain ⟨hd, rfl⟩ := hd
  intro H locs ls hP hS hl
  exact va_tb C.1 C.2.1 (C.str hi).2.2.2 hS (inB_in hj) rfl hd (k H locs ls hP hS hl)
theorem ux_i2c (C : uCx M V cc nL own rf rl rc rs) {x : Int32} (hd : uD 1 cc pc (.i2c) pc') (k : uW M V Q nL cells slots pc' lv (.int (x.toUInt32 % 65536).toInt32 :: stk) st) : uW M V Q nL cells slots pc lv (.int x :: stk) st := by
  obtain ⟨hd, rfl⟩ := hd
  intro H locs ls hP hS hl
  exact lv_i2c C.1 C.2.1 hd rfl (k H locs ls hP hS hl)
/-- an answer of a small type that is as it is -/
theorem ux_sret (C : uCx M V cc nL own rf rl rc rs) {v : Int32} {ty : FieldType} {mc ms : Nat} (hr : (mT M).sig.returnType = some ty) (hn : narrow ty (.int v) = .int v) (hd : uD 1 cc pc (.ireturn) pc') (hc : cells ≤ mc) (hs : slots ≤ ms) : uW M V (uEnd M V mc ms (some (.int v)) st) nL cells slots pc lv [.int v] st := by
  obtain ⟨hd, -⟩ := hd
  intro H locs ls hP hS hl
  refine W.widen hc hs ?_
  exact W.zret C.1 C.2.1 hr hn (fun t ht _ => ⟨rfl, by rw [ht]; exact hP, hS.F ht⟩) hS.2.2 hd C.locks
theorem ux_vret0 (C : uCx M V cc nL own rf rl rc rs) {mc ms : Nat} (hr : (mT M).sig.returnType = none) (hd : uD 1 cc pc (.return_) pc') (hc : cells ≤ mc) (hs : slots ≤ ms) : uW M V (uEnd M V mc ms none st) nL cells slots pc lv [] st := ux_vret C hr hd rfl hc hs
theorem ux_callTi (C : uCx M V cc nL own rf rl rc rs) {index n i : Nat} {y : MethodName} {cc' : ByteArray} {nL' rf' rl' mc ms : Nat} {ret : Option FieldType} {As : List Value} {r : Int32} {st' : uSt} (cv : uCV own index "java/lang/String" y cc' nL' ret n) (hd : uD 3 cc pc (.invokevirtual index) pc') (hi : i < 16)
    (hM : uMet (mL M) V y cc' nL' ret rf' rl' mc ms (.ref (vK V i) :: As) st (some (.int r)) st') (hn : As.length = n) (hw : (stk.map fun v => v.category).sum ≤ 8) (hR : rf' + 1 ≤ rf ∧ 8 + (nL' + 11) + rl' ≤ rl) (hf : cells + mc ≤ rc ∧ slots + ms ≤ rs)
    (k : uW M V Q nL (cells + mc) (slots + ms) pc' lv (.int r :: stk) st') {stk0 : List Value} (h0 : stk0 = As.reverse ++ .ref (vK V i) :: stk) : uW M V Q nL cells slots pc lv stk0 st := by
  obtain ⟨hd, rfl⟩ := hd
  subst h0
  intro H locs ls hP hS hl
  obtain ⟨r1, r2, r3, r4⟩ := C.room
  exact ux_run (va_runV (As := As) (rest := stk) ⟨C.1, C.2.1, C.maxL, C.own, C.words⟩ hM (cwV n C.words cv.good rfl rfl rfl cv.2 ⟨Nat.le_trans hR.1 r1, Nat.le_trans hR.2 r2⟩) ⟨uPre_blind, va_Orecv (C.str hi).1 hS, uPre_at C hP hS⟩ rfl hn hl.1 rfl (lv_room hw) hd ⟨Nat.le_trans hf.1 r3, Nat.le_trans hf.2 r4⟩) hS hl k
end UXS
def fJ0_length_8abf5 (w : Nat) : Option Int32 := some (nI (uLen w))
def fJ0_charAt_5068e (w : Nat) (p1 : Int32) : Option Int32 := og (inB p1 (uLen w)) (some ((uCh w p1.toNatClampNeg &&& 255).toUInt32 % 65536).toInt32)
section STRS
variable {l : Launch} {V : uV} {w : Nat} {st : uSt}
theorem kJ0_coder (ht : l.stackTraces = false) (hok : uVok V) (hw : w < 16) : uMet l V yJ0_coder_7d493 cJ0_coder_7d493 1 (some .byte) 0 0 0 0 [.ref (vK V w)] st (some (.int 0)) st := by
  refine ux_met ht hok (by decide) rfl (Nat.le_of_ble_eq_true rfl) (fun M hL hr C => ?_)
  have C : uCx M V cJ0_coder_7d493 1 RJ0 0 0 0 0 := C
  refine ux_gcomp C (gw_at 591 (by decide +kernel) (by decide +kernel)) dJ0_coder_7d493_0 ?_
  refine ux_if_eq (β := Unit) (a := none) (b := some ()) (r := ()) C dJ0_coder_7d493_3 (by decide) (fun h => nomatch h) (fun _ => ?_)
  refine ux_aload_n C dJ0_coder_7d493_6 0 rfl ?_
  refine ux_sgetc C hw (gw_at 1541 (by decide +kernel) (by decide +kernel)) dJ0_coder_7d493_7 ?_
  refine ux_goto C dJ0_coder_7d493_10 ?_
  exact ux_sret C hr (by decide) dJ0_coder_7d493_14 (Nat.le_refl _) (Nat.le_refl _)
theorem kJ0_length_8abf5 (ht : l.stackTraces = false ∧ uVok V) (hw : w < 16) {r : Int32} (h : fJ0_length_8abf5 w = some r) : uMet l V yJ0_length_8abf5 cJ0_length_8abf5 1 (some .int) 1 20 0 0 [.ref (vK V w)] st (some (.int r)) st := by
  refine ux_met ht.1 ht.2 (by decide) rfl (Nat.le_of_ble_eq_true rfl) (fun M hL hr C => ?_)
  subst hL
  have C : uCx M V cJ0_length_8abf5 1 RJ0 1 20 0 0 := C
  refine ux_aload_n C dJ0_length_8abf5_0 0 rfl ?_
  refine ux_sgetv C hw (gw_at 1540 (by decide +kernel) (by decide +kernel)) dJ0_length_8abf5_1 ?_
  refine ux_slen C hw dJ0_length_8abf5_4 ?_
  refine ux_aload_n C dJ0_length_8abf5_5 0 rfl ?_
  refine ux_callTi C cv_J0_335 dJ0_length_8abf5_6 hw (kJ0_coder ht.1 ht.2 hw) rfl (Nat.le_of_ble_eq_true rfl) ⟨Nat.le_of_ble_eq_true rfl, Nat.le_of_ble_eq_true rfl⟩ ⟨Nat.le_of_ble_eq_true rfl, Nat.le_of_ble_eq_true rfl⟩ ?_ rfl
  refine ux_ishr C dJ0_length_8abf5_9 ?_
  exact ux_iret C hr dJ0_length_8abf5_10 (by rw [sb_shr0]; exact h) (Nat.le_refl _) (Nat.le_refl _)
theorem kJ0_isLatin1 (ht : l.stackTraces = false) (hok : uVok V) (hw : w < 16) : uMet l V yJ0_isLatin1_aae02 cJ0_isLatin1_aae02 1 (some .boolean) 0 0 0 0 [.ref (vK V w)] st (some (.int 1)) st := by
  refine ux_met ht hok (by decide) rfl (Nat.le_of_ble_eq_true rfl) (fun M hL hr C => ?_)
  have C : uCx M V cJ0_isLatin1_aae02 1 RJ0 0 0 0 0 := C
  refine ux_gcomp C (gw_at 591 (by decide +kernel) (by decide +kernel)) dJ0_isLatin1_aae02_0 ?_
  refine ux_if_eq (β := Unit) (a := none) (b := some ()) (r := ()) C dJ0_isLatin1_aae02_3 (by decide) (fun h => nomatch h) (fun _ => ?_)
  refine ux_aload_n C dJ0_isLatin1_aae02_6 0 rfl ?_
  refine ux_sgetc C hw (gw_at 1541 (by decide +kernel) (by decide +kernel)) dJ0_isLatin1_aae02_7 ?_
  refine ux_if_ne (β := Unit) (a := some ()) (b := none) (r := ()) C dJ0_isLatin1_aae02_10 (by decide) (fun _ => ?_) (fun h => nomatch h)
  refine ux_iconst (v := 1) C dJ0_isLatin1_aae02_13 (by decide) ?_
  refine ux_goto C dJ0_isLatin1_aae02_14 ?_
  exact ux_sret C hr (by decide) dJ0_isLatin1_aae02_18 (Nat.le_refl _) (Nat.le_refl _)
theorem kJ3_checkIndex (ht : l.stackTraces = false) (hok : uVok V) {k n : Int32} {v : Value} (hv : v = .null ∨ ∃ t, v = .ref t) (h0 : ¬ k < 0) (h1 : k < n) : uMet l V yJ3_checkIndex_8e157 cJ3_checkIndex_8e157 3 (some .int) 0 0 0 0 [.int k, .int n, v] st (some (.int k)) st := by
  refine ux_met (lv := [(0, .int k), (1, .int n), (2, v)]) ht hok (by decide) (by rcases hv with rfl | ⟨t, rfl⟩ <;> rfl) (by rcases hv with rfl | ⟨t, rfl⟩ <;> exact Nat.le_of_ble_eq_true rfl) (fun M hL hr C => ?_)
  have C : uCx M V cJ3_checkIndex_8e157 3 RJ3 0 0 0 0 := C
  refine ux_iload_n C dJ3_checkIndex_8e157_0 0 rfl ?_
  refine ux_if_lt (β := Unit) (a := none) (b := some ()) (r := ()) C dJ3_checkIndex_8e157_1 (if_neg h0) (fun h => nomatch h) (fun _ => ?_)
  refine ux_iload_n C dJ3_checkIndex_8e157_4 0 rfl ?_
  refine ux_iload_n C dJ3_checkIndex_8e157_5 1 rfl ?_
  refine ux_icmp_lt (β := Unit) (a := some ()) (b := none) (r := ()) C dJ3_checkIndex_8e157_6 (if_pos h1) (fun _ => ?_) (fun h => nomatch h)
  refine ux_iload_n C dJ3_checkIndex_8e157_16 0 rfl ?_
  exact ux_iret C hr dJ3_checkIndex_8e157_17 rfl (Nat.le_refl _) (Nat.le_refl _)
theorem kJ0_checkIndex (ht : l.stackTraces = false) (hok : uVok V) {k n : Int32} (h0 : ¬ k < 0) (h1 : k < n) : uMet l V yJ0_checkIndex_df160 cJ0_checkIndex_df160 2 none 1 22 0 0 [.int k, .int n] st none st := by
  refine ux_met ht hok (by decide) rfl (Nat.le_of_ble_eq_true rfl) (fun M hL hr C => ?_)
  subst hL
  have C : uCx M V cJ0_checkIndex_df160 2 RJ0 1 22 0 0 := C
  refine ux_iload_n C dJ0_checkIndex_df160_0 0 rfl ?_
  refine ux_iload_n C dJ0_checkIndex_df160_1 1 rfl ?_
  refine ux_gfmt C (gw_at 607 (by decide +kernel) (by decide +kernel)) dJ0_checkIndex_df160_2 (fun v hv => ?_)
  refine ux_callSi C cs_J0_1059 dJ0_checkIndex_df160_5 (kJ3_checkIndex ht hok hv h0 h1) rfl (Nat.le_of_ble_eq_true rfl) ⟨Nat.le_of_ble_eq_true rfl, Nat.le_of_ble_eq_true rfl⟩ ⟨Nat.le_of_ble_eq_true rfl, Nat.le_of_ble_eq_true rfl⟩ ?_ rfl
  refine ux_pop C dJ0_checkIndex_df160_8 rfl ?_
  exact ux_vret0 C hr dJ0_checkIndex_df160_9 (Nat.le_refl _) (Nat.le_refl _)
theorem inB_ends {k : Int32} {n : Nat} (h : inB k n = true) (hn : n < 2 ^ 31) : ¬ k < 0 ∧ k < nI n := by
  simp only [inB, Bool.and_eq_true, decide_eq_true_eq] at h
  rw [Int32.lt_iff_toInt_lt, Int32.lt_iff_toInt_lt, nI_toInt hn]
  refine ⟨?_, h.2⟩
  show ¬ k.toInt < 0
  omega
theorem uLen_lt (hw : w < 16) : uLen w < 2 ^ 31 := (by decide : ∀ w, w < 16 → uLen w < 2 ^ 31) w hw
theorem kJ1_charAt (ht : l.stackTraces = false) (hok : uVok V) (hw : w < 16) {k : Int32} (hk : inB k (uLen w) = true) : uMet l V yJ1_charAt_3b067 cJ1_charAt_3b067 2 (some .char) 2 43 0 0 [.ref (vV V w), .int k] st (some (.int ((uCh w k.toNatClampNeg &&& 255).toUInt32 % 65536).toInt32)) st := by
  refine ux_met ht hok (by decide) rfl (Nat.le_of_ble_eq_true rfl) (fun M hL hr C => ?_)
  subst hL
  have C : uCx M V cJ1_charAt_3b067 2 RJ1 2 43 0 0 := C
  obtain ⟨g0, g1⟩ := inB_ends hk (uLen_lt hw)
  refine ux_iload_n C dJ1_charAt_3b067_0 1 rfl ?_
  refine ux_aload_n C dJ1_charAt_3b067_1 0 rfl ?_
  refine ux_slen C hw dJ1_charAt_3b067_2 ?_
  refine ux_callSv C cs_J1_9 dJ1_charAt_3b067_3 (kJ0_checkIndex ht hok g0 g1) rfl (Nat.le_of_ble_eq_true rfl) ⟨Nat.le_of_ble_eq_true rfl, Nat.le_of_ble_eq_true rfl⟩ ⟨Nat.le_of_ble_eq_true rfl, Nat.le_of_ble_eq_true rfl⟩ ?_ rfl
  refine ux_aload_n C dJ1_charAt_3b067_6 0 rfl ?_
  refine ux_iload_n C dJ1_charAt_3b067_7 1 rfl ?_
  refine ux_sbald C hw dJ1_charAt_3b067_8 hk ?_
  refine ux_sipush (v := 255) C dJ1_charAt_3b067_9 (by decide) ?_
  refine ux_iand C dJ1_charAt_3b067_12 ?_
  refine ux_i2c C dJ1_charAt_3b067_13 ?_
  exact ux_sret C hr (pk_nc _) dJ1_charAt_3b067_14 (Nat.le_refl _) (Nat.le_refl _)
theorem kJ0_charAt_5068e (ht : l.stackTraces = false ∧ uVok V) (hw : w < 16) {p1 r : Int32} (h : fJ0_charAt_5068e w p1 = some r) : uMet l V yJ0_charAt_5068e cJ0_charAt_5068e 2 (some .char) 3 64 0 0 [.ref (vK V w), .int p1] st (some (.int r)) st := by
  obtain ⟨hk, h⟩ := og_some h
  cases h
  refine ux_met ht.1 ht.2 (by decide) rfl (Nat.le_of_ble_eq_true rfl) (fun M hL hr C => ?_)
  subst hL
  have C : uCx M V cJ0_charAt_5068e 2 RJ0 3 64 0 0 := C
  refine ux_aload_n C dJ0_charAt_5068e_0 0 rfl ?_
  refine ux_callTi C cv_J0_492 dJ0_charAt_5068e_1 hw (kJ0_isLatin1 ht.1 ht.2 hw) rfl (Nat.le_of_ble_eq_true rfl) ⟨Nat.le_of_ble_eq_true rfl, Nat.le_of_ble_eq_true rfl⟩ ⟨Nat.le_of_ble_eq_true rfl, Nat.le_of_ble_eq_true rfl⟩ ?_ rfl
  refine ux_if_eq (β := Unit) (a := none) (b := some ()) (r := ()) C dJ0_charAt_5068e_4 (by decide) (fun h => nomatch h) (fun _ => ?_)
  refine ux_aload_n C dJ0_charAt_5068e_7 0 rfl ?_
  refine ux_sgetv C hw (gw_at 1540 (by decide +kernel) (by decide +kernel)) dJ0_charAt_5068e_8 ?_
  refine ux_iload_n C dJ0_charAt_5068e_11 1 rfl ?_
  refine ux_callSi C cs_J0_495 dJ0_charAt_5068e_12 (kJ1_charAt ht.1 ht.2 hw hk) rfl (Nat.le_of_ble_eq_true rfl) ⟨Nat.le_of_ble_eq_true rfl, Nat.le_of_ble_eq_true rfl⟩ ⟨Nat.le_of_ble_eq_true rfl, Nat.le_of_ble_eq_true rfl⟩ ?_ rfl
  exact ux_sret C hr (pk_nc _) dJ0_charAt_5068e_15 (Nat.le_refl _) (Nat.le_refl _)
end STRS
section UXY
variable {M : uM} {V : uV} {cc : ByteArray} {nL : Nat} {own : String} {rf rl rc rs : Nat} {Q : State → Prop} {cells slots pc pc' : Nat} {lv : List (Nat × Value)} {stk : List Value} {st : uSt}
theorem inB_lt {i : Int32} {n : Nat} (h : inB i n = true) : i.toNatClampNeg < n := Nat.not_le.mp fun q => inB_in h (Or.inr q)
theorem ux_aald (C : uCx M V cc nL own rf rl rc rs) {id n : Nat} {Cn : String} {w : Nat → Nat} {i : Int32} (ar : uArR V id n Cn w) (hd : uD 1 cc pc (.aaload) pc') (h : inB i n = true) (k : uW M V Q nL cells slots pc' lv (.ref (vA V (w i.toNatClampNeg)) :: stk) st) : uW M V Q nL cells slots pc lv (.int i :: .ref (vA V id) :: stk) st := by
  obtain ⟨hd, rfl⟩ := hd
  obtain ⟨cA, t0, ⟨h1, h2⟩, h3⟩ := ar
  intro H locs ls hP hS hl
  exact va_aldq (f := fun j => some (vA V (w j))) C.1 C.2.1 C.k hP id t0 ((uL_get h1).trans (by rw [h2])) h3 (inB_in h) hd (k H locs ls hP hS hl)
theorem ux_copyi (C : uCx M V cc nL own rf rl rc rs) {index id0 id1 n0 n1 : Nat} {sp dp n : Int32} {β : Type} {b : uSt → Option β} {r : β} (cv : ∀ w ∈ ([.methodLink own index arraycopyName, .native arraycopyName, .static arraycopyName, .initialized "java/lang/System"] : List Cond), w ∈ gw) (a0 : uAr V id0 .int n0) (a1 : uAr V id1 .int n1) (hd : uD 3 cc pc (.invokestatic index) pc')
    (h1 : ¬ sp < 0) (h2 : ¬ dp < 0) (h3 : ¬ n < 0) (h4 : sp.toNatClampNeg + n.toNatClampNeg ≤ n0) (h5 : dp.toNatClampNeg + n.toNatClampNeg ≤ n1) (hw : (stk.map fun v => v.category).sum ≤ 8) (hR : 1 ≤ rf ∧ 8 + (nativeFrameWords "java/lang/System" "arraycopy" 5 + 11) ≤ rl)
    (h : ol (sC st id1 (va_cpy (st.1 id0) (st.1 id1) sp.toNatClampNeg dp.toNatClampNeg n.toNatClampNeg)) b = some r) (k : ∀ st', b st' = some r → uW M V Q nL cells slots pc' lv stk st') : uW M V Q nL cells slots pc lv (.int n :: .int dp :: .ref (vA V id1) :: .int sp :: .ref (vA V id0) :: stk) st := by
  obtain ⟨hd, rfl⟩ := hd
  obtain ⟨cA, t0, ⟨g1, g2⟩, g3⟩ := a0
  obtain ⟨cB, t1, ⟨f1, f2⟩, f3⟩ := a1
  intro H locs ls hP hS hl
  obtain ⟨r1, r2, r3, r4⟩ := C.room
  refine va_copyi (A := vR V) C.1 C.2.1 (C.maxL.trans hl.1.symm) C.own (C.words _ (cv _ (by simp))) (C.words _ (cv _ (by simp))) (C.words _ (cv _ (by simp))) (C.words _ (cv _ (by simp))) C.k hP (uL_D C.ok.1 C.ok.2) hS id0 id1 t0 t1 ((uL_get g1).trans (by rw [g2])) ((uL_get f1).trans (by rw [f2])) g3 f3 rfl h1 h2 h3 h4 h5 (fun _ _ => rfl) (Nat.le_trans hR.1 r1) (by omega) hd (fun H1 locs1 hP1 _ hS1 => ?_)
  rw [uL_set (st' := sC st id1 (va_cpy (st.1 id0) (st.1 id1) sp.toNatClampNeg dp.toNatClampNeg n.toNatClampNeg)) f1 (by rw [sC_s]; exact f2 _ _ _) sC_o] at hP1
  exact k _ h H1 locs1 ls hP1 hS1 hl
end UXY
theorem ac_X6_64 : ∀ w ∈ ([.methodLink RX6 64 arraycopyName, .native arraycopyName, .static arraycopyName, .initialized "java/lang/System"] : List Cond), w ∈ gw := gw_pl [707, 709, 708, 102] (by decide +kernel) (by decide +kernel)
