/-! THE WORLD BY STATIC NUMBERS. Every object and array of the class (and of the reference) has a number; a state is what they hold. uW: the walk at a pc, the world holding st. A pure function beside the walk (h : f .. = some r) tells what is computed. -/
def gw : List Cond := lw_tbl.filter goodWord
theorem gw_at {w : Cond} (i : Nat) (h : lw_tbl[i]? = some w) (g : goodWord w = true) : w ∈ gw := List.mem_filter.mpr ⟨List.mem_of_getElem? h, g⟩
theorem gw_tbl {w : Cond} (h : w ∈ gw) : w ∈ lw_tbl := (List.mem_filter.mp h).1
theorem gw_good {w : Cond} (h : w ∈ gw) : goodWord w = true := (List.mem_filter.mp h).2
theorem gw_goodIn {ws : List Cond} (h : ∀ w ∈ ws, w ∈ gw) : GoodIn gw ws := fun w hw => ⟨h w hw, good_of_word (gw_good (h w hw))⟩
abbrev uSt : Type := (Nat → Nat → Int32) × (Nat → Nat → Int64) × (Nat → Nat → UInt64)
def sI (st : uSt) (id k : Nat) (v : Int32) : uSt := (fun i => if i = id then upd (st.1 id) k v else st.1 i, st.2)
def sL (st : uSt) (id k : Nat) (v : Int64) : uSt := (st.1, fun i => if i = id then vp_updL (st.2.1 id) k v else st.2.1 i, st.2.2)
def sD (st : uSt) (id k : Nat) (v : UInt64) : uSt := (st.1, st.2.1, fun i => if i = id then vf_upd (st.2.2 id) k v else st.2.2 i)
def sC (st : uSt) (id : Nat) (row : Nat → Int32) : uSt := (fun i => if i = id then row else st.1 i, st.2)
abbrev uSh : Type := Nat → (Nat → Int32) → (Nat → Int64) → (Nat → UInt64) → va_E
def uL (sh : uSh) (ad : Nat → Nat) (N : Nat) (st : uSt) : va_W := (List.range N).map fun i => (ad i, sh i (st.1 i) (st.2.1 i) (st.2.2 i))
theorem uL_get {sh : uSh} {ad : Nat → Nat} {N : Nat} {st : uSt} {id : Nat} (h : id < N) : (uL sh ad N st)[id]? = some (ad id, sh id (st.1 id) (st.2.1 id) (st.2.2 id)) := by
  simp [uL, h]
theorem uL_of {sh : uSh} {ad : Nat → Nat} {N : Nat} {st : uSt} {k : Nat} {q : Nat × va_E} (h : (uL sh ad N st)[k]? = some q) : k < N ∧ q = (ad k, sh k (st.1 k) (st.2.1 k) (st.2.2 k)) := by
  have hl := (List.getElem?_eq_some_iff.mp h).1
  simp only [uL, List.length_map, List.length_range] at hl
  rw [uL_get hl] at h
  exact ⟨hl, (Option.some.inj h).symm⟩
theorem uL_set {sh : uSh} {ad : Nat → Nat} {N : Nat} {st st' : uSt} {id : Nat} {e : va_E} (h : id < N) (he : sh id (st'.1 id) (st'.2.1 id) (st'.2.2 id) = e) (ho : ∀ i, i ≠ id → st'.1 i = st.1 i ∧ st'.2.1 i = st.2.1 i ∧ st'.2.2 i = st.2.2 i) : (uL sh ad N st).set id (ad id, e) = uL sh ad N st' := by
  apply List.ext_getElem?
  intro j
  by_cases hj : j = id
  · subst hj
    rw [uL_get h, he, List.getElem?_set_self (by simp [uL]; exact h)]
  · rw [List.getElem?_set_ne (Ne.symm hj)]
    by_cases hN : j < N
    · obtain ⟨h1, h2, h3⟩ := ho j hj
      rw [uL_get hN, uL_get hN, h1, h2, h3]
    · have a1 : (uL sh ad N st).length ≤ j := by simp [uL]; omega
      have a2 : (uL sh ad N st').length ≤ j := by simp [uL]; omega
      rw [List.getElem?_eq_none a1, List.getElem?_eq_none a2]
theorem uL_D {sh : uSh} {ad : Nat → Nat} {N : Nat} {st : uSt} {A : Nat → Prop} (hi : ∀ i j, i < N → j < N → ad i = ad j → i = j) (hA : ∀ i, i < N → A (ad i)) : va_D A (uL sh ad N st) := by
  refine ⟨fun i j x y hx hy e => ?_, fun k q hk => ?_⟩
  · obtain ⟨h1, rfl⟩ := uL_of hx
    obtain ⟨h2, rfl⟩ := uL_of hy
    exact hi i j h1 h2 e
  · obtain ⟨h1, rfl⟩ := uL_of hk
    exact hA k h1
theorem sI_o {st : uSt} {id k : Nat} {v : Int32} : ∀ i, i ≠ id → (sI st id k v).1 i = st.1 i ∧ (sI st id k v).2.1 i = st.2.1 i ∧ (sI st id k v).2.2 i = st.2.2 i := fun i h => ⟨by simp [sI, h], rfl, rfl⟩
theorem sL_o {st : uSt} {id k : Nat} {v : Int64} : ∀ i, i ≠ id → (sL st id k v).1 i = st.1 i ∧ (sL st id k v).2.1 i = st.2.1 i ∧ (sL st id k v).2.2 i = st.2.2 i := fun i h => ⟨rfl, by simp [sL, h], rfl⟩
theorem sD_o {st : uSt} {id k : Nat} {v : UInt64} : ∀ i, i ≠ id → (sD st id k v).1 i = st.1 i ∧ (sD st id k v).2.1 i = st.2.1 i ∧ (sD st id k v).2.2 i = st.2.2 i := fun i h => ⟨rfl, rfl, by simp [sD, h]⟩
theorem sC_o {st : uSt} {id : Nat} {row : Nat → Int32} : ∀ i, i ≠ id → (sC st id row).1 i = st.1 i ∧ (sC st id row).2.1 i = st.2.1 i ∧ (sC st id row).2.2 i = st.2.2 i := fun i h => ⟨by simp [sC, h], rfl, rfl⟩
theorem sI_s {st : uSt} {id k : Nat} {v : Int32} : (sI st id k v).1 id = upd (st.1 id) k v := by simp [sI]
theorem sL_s {st : uSt} {id k : Nat} {v : Int64} : (sL st id k v).2.1 id = vp_updL (st.2.1 id) k v := by simp [sL]
theorem sD_s {st : uSt} {id k : Nat} {v : UInt64} : (sD st id k v).2.2 id = vf_upd (st.2.2 id) k v := by simp [sD]
theorem sC_s {st : uSt} {id : Nat} {row : Nat → Int32} : (sC st id row).1 id = row := by simp [sC]
/-! pure steps -/
def ol {α β : Type} (x : α) (k : α → Option β) : Option β := k x
def og {β : Type} (c : Bool) (a : Option β) : Option β := match c with
  | true => a
  | false => none
def ob {α β : Type} (m : Option α) (k : α → Option β) : Option β := match m with
  | some a => k a
  | none => none
/-- a call that may throw: the class thrown goes on -/
def ox {α β : Type} (m : Option ((α ⊕ String) × uSt)) (k : α → uSt → Option ((β ⊕ String) × uSt)) : Option ((β ⊕ String) × uSt) := match m with
  | some (.inl a, st) => k a st
  | some (.inr E, st) => some (.inr E, st)
  | none => none
def inB (i : Int32) (n : Nat) : Bool := decide (0 ≤ i.toInt) && decide (i.toInt < n)
def nzB (i : Int32) : Bool := decide (i ≠ 0)
def isB (i : Int32) : Bool := decide (i = 0) || decide (i = 1)
theorem inB_in {i : Int32} {n : Nat} (h : inB i n = true) : vp_in i n := by
  simp only [inB, Bool.and_eq_true, decide_eq_true_eq] at h
  exact vp_in_iff.mpr h
theorem og_some {β : Type} {c : Bool} {a : Option β} {r : β} (h : og c a = some r) : c = true ∧ a = some r := by
  cases c
  · cases h
  · exact ⟨rfl, h⟩
theorem ob_some {α β : Type} {m : Option α} {k : α → Option β} {r : β} (h : ob m k = some r) : ∃ a, m = some a ∧ k a = some r := by
  cases m with
  | none => cases h
  | some a => exact ⟨a, rfl, h⟩
theorem isB_nar {i : Int32} (h : isB i = true) : narrow .boolean (.int i) = .int i := by
  simp only [isB, Bool.or_eq_true, decide_eq_true_eq] at h
  rcases h with rfl | rfl <;> rfl
theorem isB_fits {i : Int32} (h : isB i = true) : fits .boolean (.int i) = true := by
  simp only [isB, Bool.or_eq_true, decide_eq_true_eq] at h
  rcases h with rfl | rfl <;> decide

def uDecl : List MethodName := [⟨"java/lang/RuntimeException", "<init>", "()V"⟩, ⟨"java/lang/RuntimeException", "<init>", "(Ljava/lang/String;)V"⟩, ⟨"java/lang/Exception", "<init>", "()V"⟩, ⟨"java/lang/Exception", "<init>", "(Ljava/lang/String;)V"⟩, ⟨"java/lang/Throwable", "<init>", "()V"⟩, ⟨"java/lang/Throwable", "<init>", "(Ljava/lang/String;)V"⟩]
def uCast : List (String × String) := [("java/lang/IllegalStateException", "java/lang/IllegalStateException"), ("java/lang/IndexOutOfBoundsException", "java/lang/IndexOutOfBoundsException"), ("java/lang/IllegalArgumentException", "java/lang/IllegalArgumentException"), ("java/util/NoSuchElementException", "java/util/NoSuchElementException")]
def uTx : List (String × Nat × String) := [("FlushPlanner", 85, "the text would be too long"), ("FlushPlanner", 96, "no such length"), ("FlushPlanner", 111, "the text has an error"), ("FlushPlanner", 152, "no such report"), ("FlushPlanner", 307, "no such device"), ("FlushPlanner", 311, "no such dirty block"), ("FlushPlanner", 309, "no such address"), ("FlushPlanner", 210, "the block is not dirty"), ("FlushPlanner", 213, "no block is dirty"), ("FlushPlanner", 215, "no such total"), ("FlushPlanner", 282, "value out of range"), ("FlushPlanner", 322, "the device cannot be written"), ("FlushPlanner", 236, "the device cannot be cleaned"), ("FlushPlanner", 241, "no such mode"), ("FlushPlanner", 243, "no such threshold"), ("FlushPlanner", 245, "minutes out of range"), ("FlushPlanner", 251, "the power is on"), ("FlushPlanner", 263, "the device cannot be flushed"), ("FlushPlanner", 318, "the set has other than dirty blocks"), ("FlushPlanner", 320, "energy out of range"), ("FlushPlanner", 280, "the best set has no value"), ("FlushPlanner", 287, "no energy is enough"), ("FlushPlanner", 289, "the block is on a failed device"), ("FlushPlanner", 300, "there is no such device"), ("FlushPlanner", 313, "no such slot"), ("FlushPlanner", 305, "nothing is saved there")]
def uWd : List (String × Nat × String) := [("FlushPlanner$SetupText", 77, "battery"), ("FlushPlanner$SetupText", 142, "device"), ("FlushPlanner$SetupText", 114, "reserve"), ("FlushPlanner$SetupText", 120, "slots"), ("FlushPlanner$SetupText", 122, "mode"), ("FlushPlanner$SetupText", 131, "value"), ("FlushPlanner$SetupText", 138, "off"), ("FlushPlanner$SetupText", 140, "strict"), ("FlushPlannerModel", 117, "battery"), ("FlushPlannerModel", 155, "device"), ("FlushPlannerModel", 135, "reserve"), ("FlushPlannerModel", 137, "slots"), ("FlushPlannerModel", 139, "mode"), ("FlushPlannerModel", 133, "value"), ("FlushPlannerModel", 131, "off"), ("FlushPlannerModel", 129, "strict")]
def uNc : List (String × String) := [("java/lang/IllegalStateException", "java/lang/IndexOutOfBoundsException"), ("java/lang/IllegalStateException", "java/lang/IllegalArgumentException"), ("java/lang/IllegalStateException", "java/util/NoSuchElementException"), ("java/lang/IndexOutOfBoundsException", "java/lang/IllegalStateException"), ("java/lang/IndexOutOfBoundsException", "java/lang/IllegalArgumentException"), ("java/lang/IndexOutOfBoundsException", "java/util/NoSuchElementException"), ("java/lang/IllegalArgumentException", "java/lang/IllegalStateException"), ("java/lang/IllegalArgumentException", "java/lang/IndexOutOfBoundsException"), ("java/lang/IllegalArgumentException", "java/util/NoSuchElementException"), ("java/util/NoSuchElementException", "java/lang/IllegalStateException"), ("java/util/NoSuchElementException", "java/lang/IndexOutOfBoundsException"), ("java/util/NoSuchElementException", "java/lang/IllegalArgumentException")]
/-- the bytes of the words that the setup is read by: 0 to 7 of the class, 8 to 15 of the reference -/
def uByt : List (List Int32) := [[98, 97, 116, 116, 101, 114, 121], [100, 101, 118, 105, 99, 101], [114, 101, 115, 101, 114, 118, 101], [115, 108, 111, 116, 115], [109, 111, 100, 101], [118, 97, 108, 117, 101], [111, 102, 102], [115, 116, 114, 105, 99, 116], [98, 97, 116, 116, 101, 114, 121], [100, 101, 118, 105, 99, 101], [114, 101, 115, 101, 114, 118, 101], [115, 108, 111, 116, 115], [109, 111, 100, 101], [118, 97, 108, 117, 101], [111, 102, 102], [115, 116, 114, 105, 99, 116]]
def uLen (i : Nat) : Nat := (uByt.getD i []).length
def uCh (i j : Nat) : Int32 := (uByt.getD i []).getD j 0
/-- what stays all the while beside the world: the statics that a throw reads, words that the tables keep, the texts -/
def uG (sK sV : Nat → Nat) (A : Nat → Prop) (U : State) : Prop :=
  (vx_Zq Bundle.tN "UNASSIGNED_STACK" Bundle.steD A U U.heap ∧ vx_Zq Bundle.tN "SUPPRESSED_SENTINEL" Bundle.listD A U U.heap) ∧
  (∀ x ∈ uDecl, va_Nw (.declares x) U) ∧ (∀ q ∈ uCast, va_Nw (.castable q.1 q.2) U) ∧ (∀ q ∈ uNc, va_Nc q.1 q.2 U) ∧
  (∀ q ∈ uTx, ∃ sa, vk_R q.1 q.2.1 q.2.2 sa U) ∧ (∀ (i : Nat) (q : String × Nat × String), uWd[i]? = some q → vk_R q.1 q.2.1 q.2.2 (sK i) U) ∧
  (∀ i : Nat, i < 16 → va_O "java/lang/String" (sK i) A U U.heap ∧ va_OF "java/lang/String" "coder" "B" (.int 0) (sK i) A U U.heap ∧ va_OF "java/lang/String" "value" "[B" (.ref (sV i)) (sK i) A U U.heap ∧ va_T .byte (sV i) (uLen i) (fun j => .int (uCh i j)) A U U.heap) ∧
  va_Z "java/lang/String" "COMPACT_STRINGS" "Z" (.int 1) A U U.heap ∧ va_Zq "jdk/internal/util/Preconditions" "SIOOBE_FORMATTER" "Ljava/util/function/BiFunction;" A U U.heap
theorem uG_step {sK sV : Nat → Nat} {A : Nat → Prop} {s U : State} (h : uG sK sV A s) (hW : s.WarmedH U.vm) (hk : ∀ q : Nat, q < s.heap.size → ¬ A q → U.heap[q]? = s.heap[q]?) : uG sK sV A U := by
  obtain ⟨⟨h1, h2⟩, h3, h4, h5, h6, h7, h8, h9, h10⟩ := h
  refine ⟨⟨vx_Zq.moved hW.alike (h1.kept hk), vx_Zq.moved hW.alike (h2.kept hk)⟩, fun x hx => va_Nw.warmD hW (h3 x hx), fun q hq => va_Nw.warmC hW (h4 q hq), fun q hq => va_Nc.moved hW.alike (h5 q hq), fun q hq => ?_, fun i q hq => vk_R.warm hW (h7 i q hq), fun i hi => ?_, va_Z.moved hW.alike (h9.kept hk), va_Zq.moved hW.alike (h10.kept hk)⟩
  · obtain ⟨sa, h⟩ := h6 q hq
    exact ⟨sa, vk_R.warm hW h⟩
  · obtain ⟨a1, a2, a3, a4⟩ := h8 i hi
    exact ⟨va_O.moved hW.alike (a1.kept hk), va_OF.moved hW.alike (a2.kept hk), va_OF.moved hW.alike (a3.kept hk), va_T.moved hW.alike (a4.kept hk)⟩
theorem uG_narrow {sK sV : Nat → Nat} {A B : Nat → Prop} {U : State} (h : uG sK sV A U) (hAB : ∀ q, B q → A q) : uG sK sV B U := by
  obtain ⟨⟨h1, h2⟩, h3, h4, h5, h6, h7, h8, h9, h10⟩ := h
  refine ⟨⟨h1.narrow hAB, h2.narrow hAB⟩, h3, h4, h5, h6, h7, fun i hi => ?_, h9.narrow hAB, h10.narrow hAB⟩
  obtain ⟨a1, a2, a3, a4⟩ := h8 i hi
  exact ⟨a1.narrow hAB, a2.narrow hAB, a3.narrow hAB, a4.narrow hAB⟩
/-! the machine at hand, the world at hand -/
abbrev uM : Type := Program × Launch × Env × Room × State × MethodId × Array Value × List Frame × Method × Code
def mP (M : uM) : Program := M.1
def mL (M : uM) : Launch := M.2.1
def mE (M : uM) : Env := M.2.2.1
def mR (M : uM) : Room := M.2.2.2.1
def mS (M : uM) : State := M.2.2.2.2.1
def mM (M : uM) : MethodId := M.2.2.2.2.2.1
def mA (M : uM) : Array Value := M.2.2.2.2.2.2.1
def mB (M : uM) : List Frame := M.2.2.2.2.2.2.2.1
def mT (M : uM) : Method := M.2.2.2.2.2.2.2.2.1
def mC (M : uM) : Code := M.2.2.2.2.2.2.2.2.2
abbrev uV : Type := va_G × List (ClassId × FieldType) × uSh × (Nat → Nat) × Nat × (Nat → Prop) × (Nat → Nat) × (Nat → Nat)
def vD (V : uV) : va_G := V.1
def vT (V : uV) : List (ClassId × FieldType) := V.2.1
def vS (V : uV) : uSh := V.2.2.1
def vA (V : uV) : Nat → Nat := V.2.2.2.1
def vN (V : uV) : Nat := V.2.2.2.2.1
def vR (V : uV) : Nat → Prop := V.2.2.2.2.2.1
def vK (V : uV) : Nat → Nat := V.2.2.2.2.2.2.1
def vV (V : uV) : Nat → Nat := V.2.2.2.2.2.2.2
/-- the numbers are apart and lie where the method may write -/
def uVok (V : uV) : Prop := (∀ i j, i < vN V → j < vN V → vA V i = vA V j → i = j) ∧ (∀ i, i < vN V → vR V (vA V i))
def uH (V : uV) (st : uSt) (H : Heap) : Prop := va_P (vD V) vwCl (uL (vS V) (vA V) (vN V) st) H
def uCx (M : uM) (V : uV) (cc : ByteArray) (nL : Nat) (own : String) (rf rl rc rs : Nat) : Prop :=
  (mP M).tables.exec = Jvm.exec ∧ (mC M).code = cc ∧ (mC M).maxLocals = nL ∧ (mS M).vm.findClass own = some (mM M).cls ∧ (∀ w ∈ gw, w.before (mA M) (mS M) = true) ∧
  va_K (vD V) vwCl (vT V) (mS M) ∧ uVok V ∧ (∀ q : Nat, (mS M).heap.size ≤ q → vR V q) ∧ (mT M).locks = false ∧ uG (vK V) (vV V) (vR V) (mS M) ∧
  (rf ≤ (mR M).frames ∧ rl ≤ (mR M).locals ∧ rc ≤ (mR M).cells ∧ rs ≤ (mR M).slots) ∧ (mL M).stackTraces = false
theorem uCx.exec {M : uM} {V : uV} {cc : ByteArray} {nL : Nat} {own : String} {rf rl rc rs : Nat} (C : uCx M V cc nL own rf rl rc rs) : (mP M).tables.exec = Jvm.exec := C.1
theorem uCx.bytes {M : uM} {V : uV} {cc : ByteArray} {nL : Nat} {own : String} {rf rl rc rs : Nat} (C : uCx M V cc nL own rf rl rc rs) : (mC M).code = cc := C.2.1
theorem uCx.maxL {M : uM} {V : uV} {cc : ByteArray} {nL : Nat} {own : String} {rf rl rc rs : Nat} (C : uCx M V cc nL own rf rl rc rs) : (mC M).maxLocals = nL := C.2.2.1
theorem uCx.own {M : uM} {V : uV} {cc : ByteArray} {nL : Nat} {own : String} {rf rl rc rs : Nat} (C : uCx M V cc nL own rf rl rc rs) : (mS M).vm.findClass own = some (mM M).cls := C.2.2.2.1
theorem uCx.words {M : uM} {V : uV} {cc : ByteArray} {nL : Nat} {own : String} {rf rl rc rs : Nat} (C : uCx M V cc nL own rf rl rc rs) : ∀ w ∈ gw, w.before (mA M) (mS M) = true := C.2.2.2.2.1
theorem uCx.k {M : uM} {V : uV} {cc : ByteArray} {nL : Nat} {own : String} {rf rl rc rs : Nat} (C : uCx M V cc nL own rf rl rc rs) : va_K (vD V) vwCl (vT V) (mS M) := C.2.2.2.2.2.1
theorem uCx.ok {M : uM} {V : uV} {cc : ByteArray} {nL : Nat} {own : String} {rf rl rc rs : Nat} (C : uCx M V cc nL own rf rl rc rs) : uVok V := C.2.2.2.2.2.2.1
theorem uCx.new {M : uM} {V : uV} {cc : ByteArray} {nL : Nat} {own : String} {rf rl rc rs : Nat} (C : uCx M V cc nL own rf rl rc rs) : ∀ q : Nat, (mS M).heap.size ≤ q → vR V q := C.2.2.2.2.2.2.2.1
theorem uCx.locks {M : uM} {V : uV} {cc : ByteArray} {nL : Nat} {own : String} {rf rl rc rs : Nat} (C : uCx M V cc nL own rf rl rc rs) : (mT M).locks = false := C.2.2.2.2.2.2.2.2.1
theorem uCx.g {M : uM} {V : uV} {cc : ByteArray} {nL : Nat} {own : String} {rf rl rc rs : Nat} (C : uCx M V cc nL own rf rl rc rs) : uG (vK V) (vV V) (vR V) (mS M) := C.2.2.2.2.2.2.2.2.2.1
theorem uCx.room {M : uM} {V : uV} {cc : ByteArray} {nL : Nat} {own : String} {rf rl rc rs : Nat} (C : uCx M V cc nL own rf rl rc rs) : rf ≤ (mR M).frames ∧ rl ≤ (mR M).locals ∧ rc ≤ (mR M).cells ∧ rs ≤ (mR M).slots := C.2.2.2.2.2.2.2.2.2.2.1
theorem uCx.traces {M : uM} {V : uV} {cc : ByteArray} {nL : Nat} {own : String} {rf rl rc rs : Nat} (C : uCx M V cc nL own rf rl rc rs) : (mL M).stackTraces = false := C.2.2.2.2.2.2.2.2.2.2.2
def uW (M : uM) (V : uV) (Q : State → Prop) (nL cells slots pc : Nat) (lv : List (Nat × Value)) (stk : List Value) (st : uSt) : Prop :=
  ∀ (H : Heap) (locs : List Loc) (ls : Array Slot), uH V st H → va_S (vR V) (mS M).heap H locs → lv_has ls nL lv →
    W (mP M) (mL M) (mE M) (mR M) (mS M) (mM M) (mA M) (mB M) (mT M) (mC M) H locs cells slots Q (F0 (mM M) pc ls stk)
/-- a call's start -/
def uPre (V : uV) (args : List Value) (st : uSt) : Array Value → State → Prop := va_Pc args (fun U => uH V st U.heap ∧ va_K (vD V) vwCl (vT V) U ∧ (∀ q : Nat, U.heap.size ≤ q → vR V q) ∧ uG (vK V) (vV V) (vR V) U)
theorem uPre_blind {V : uV} {args : List Value} {st : uSt} : FrameBlind (uPre V args st) := by
  intro a U g mk h
  obtain ⟨h1, h2, h3, h4, h5⟩ := h
  exact ⟨h1, h2, va_K.moved (u := U) (U := U.calling g mk a) (Vm.Alike.refl U.vm) h3, h4, uG_step (U := U.calling g mk a) h5 (State.WarmedH.refl U) (fun _ _ _ => rfl)⟩
def uQ (V : uV) (ov : Option Value) (st' : uSt) : Array Value → State → Outcome → State → Prop := fun _ s o t => o = .returned ov ∧ uH V st' t.heap ∧ va_F (vR V) s t
/-- a method that returns: what it answers, the world behind it -/
def uMet (l : Launch) (V : uV) (y : MethodName) (cc : ByteArray) (nL : Nat) (ret : Option FieldType) (rf rl mc ms : Nat) (args : List Value) (st : uSt) (ov : Option Value) (st' : uSt) : Prop :=
  Met l y (Cond.code y cc nL ret :: gw) { frames := rf, cells := mc, slots := ms, locals := rl } (uPre V args st) (uQ V ov st') mc ms (vR V)
def uEnd (M : uM) (V : uV) (mc ms : Nat) (ov : Option Value) (st' : uSt) : State → Prop := MQ (mB M) (uQ V ov st') (mA M) (mS M) mc ms (vR V)
section UXR
variable {M : uM} {V : uV} {cc : ByteArray} {nL : Nat} {own : String} {rf rl rc rs : Nat} {Q : State → Prop} {cells slots pc pc' : Nat} {lv : List (Nat × Value)} {stk : List Value} {st : uSt}

theorem ux_iadd (C : uCx M V cc nL own rf rl rc rs) {x y : Int32} (hd : uD 1 cc pc (.iadd) pc') (k : uW M V Q nL cells slots pc' lv (.int (x + y) :: stk) st) : uW M V Q nL cells slots pc lv (.int y :: .int x :: stk) st := by
  obtain ⟨hd, rfl⟩ := hd
  intro H locs ls hP hS hl
  exact lv_iadd C.1 C.2.1 hd (k H locs ls hP hS hl)
theorem ux_isub (C : uCx M V cc nL own rf rl rc rs) {x y : Int32} (hd : uD 1 cc pc (.isub) pc') (k : uW M V Q nL cells slots pc' lv (.int (x - y) :: stk) st) : uW M V Q nL cells slots pc lv (.int y :: .int x :: stk) st := by
  obtain ⟨hd, rfl⟩ := hd
  intro H locs ls hP hS hl
  exact lv_isub C.1 C.2.1 hd (k H locs ls hP hS hl)
theorem ux_imul (C : uCx M V cc nL own rf rl rc rs) {x y : Int32} (hd : uD 1 cc pc (.imul) pc') (k : uW M V Q nL cells slots pc' lv (.int (x * y) :: stk) st) : uW M V Q nL cells slots pc lv (.int y :: .int x :: stk) st := by
  obtain ⟨hd, rfl⟩ := hd
  intro H locs ls hP hS hl
  exact lv_imul C.1 C.2.1 hd (k H locs ls hP hS hl)
theorem ux_iand (C : uCx M V cc nL own rf rl rc rs) {x y : Int32} (hd : uD 1 cc pc (.iand) pc') (k : uW M V Q nL cells slots pc' lv (.int (x &&& y) :: stk) st) : uW M V Q nL cells slots pc lv (.int y :: .int x :: stk) st := by
  obtain ⟨hd, rfl⟩ := hd
  intro H locs ls hP hS hl
  exact lv_iand C.1 C.2.1 hd (k H locs ls hP hS hl)
theorem ux_ior (C : uCx M V cc nL own rf rl rc rs) {x y : Int32} (hd : uD 1 cc pc (.ior) pc') (k : uW M V Q nL cells slots pc' lv (.int (x ||| y) :: stk) st) : uW M V Q nL cells slots pc lv (.int y :: .int x :: stk) st := by
  obtain ⟨hd, rfl⟩ := hd
  intro H locs ls hP hS hl
  exact lv_ior C.1 C.2.1 hd (k H locs ls hP hS hl)
theorem ux_ixor (C : uCx M V cc nL own rf rl rc rs) {x y : Int32} (hd : uD 1 cc pc (.ixor) pc') (k : uW M V Q nL cells slots pc' lv (.int (x ^^^ y) :: stk) st) : uW M V Q nL cells slots pc lv (.int y :: .int x :: stk) st := by
  obtain ⟨hd, rfl⟩ := hd
  intro H locs ls hP hS hl
  exact lv_ixor C.1 C.2.1 hd (k H locs ls hP hS hl)
theorem ux_ishl (C : uCx M V cc nL own rf rl rc rs) {x y : Int32} (hd : uD 1 cc pc (.ishl) pc') (k : uW M V Q nL cells slots pc' lv (.int (x <<< (y &&& 31)) :: stk) st) : uW M V Q nL cells slots pc lv (.int y :: .int x :: stk) st := by
  obtain ⟨hd, rfl⟩ := hd
  intro H locs ls hP hS hl
  exact lv_ishl C.1 C.2.1 hd (k H locs ls hP hS hl)
theorem ux_ishr (C : uCx M V cc nL own rf rl rc rs) {x y : Int32} (hd : uD 1 cc pc (.ishr) pc') (k : uW M V Q nL cells slots pc' lv (.int (x >>> (y &&& 31)) :: stk) st) : uW M V Q nL cells slots pc lv (.int y :: .int x :: stk) st := by
  obtain ⟨hd, rfl⟩ := hd
  intro H locs ls hP hS hl
  exact lv_ishr C.1 C.2.1 hd (k H locs ls hP hS hl)
theorem ux_iushr (C : uCx M V cc nL own rf rl rc rs) {x y : Int32} (hd : uD 1 cc pc (.iushr) pc') (k : uW M V Q nL cells slots pc' lv (.int ((x.toUInt32 >>> (y.toUInt32 &&& Int32.toUInt32 31)).toInt32) :: stk) st) : uW M V Q nL cells slots pc lv (.int y :: .int x :: stk) st := by
  obtain ⟨hd, rfl⟩ := hd
  intro H locs ls hP hS hl
  exact lv_iushr C.1 C.2.1 hd rfl (k H locs ls hP hS hl)
theorem ux_ladd (C : uCx M V cc nL own rf rl rc rs) {x y : Int64} (hd : uD 1 cc pc (.ladd) pc') (k : uW M V Q nL cells slots pc' lv (.long (x + y) :: stk) st) : uW M V Q nL cells slots pc lv (.long y :: .long x :: stk) st := by
  obtain ⟨hd, rfl⟩ := hd
  intro H locs ls hP hS hl
  exact lv_ladd C.1 C.2.1 hd (k H locs ls hP hS hl)
theorem ux_lsub (C : uCx M V cc nL own rf rl rc rs) {x y : Int64} (hd : uD 1 cc pc (.lsub) pc') (k : uW M V Q nL cells slots pc' lv (.long (x - y) :: stk) st) : uW M V Q nL cells slots pc lv (.long y :: .long x :: stk) st := by
  obtain ⟨hd, rfl⟩ := hd
  intro H locs ls hP hS hl
  exact lv_lsub C.1 C.2.1 hd (k H locs ls hP hS hl)
theorem ux_land (C : uCx M V cc nL own rf rl rc rs) {x y : Int64} (hd : uD 1 cc pc (.land) pc') (k : uW M V Q nL cells slots pc' lv (.long (x &&& y) :: stk) st) : uW M V Q nL cells slots pc lv (.long y :: .long x :: stk) st := by
  obtain ⟨hd, rfl⟩ := hd
  intro H locs ls hP hS hl
  exact lv_land C.1 C.2.1 hd (k H locs ls hP hS hl)
theorem ux_lshl (C : uCx M V cc nL own rf rl rc rs) {x : Int64} {y : Int32} (hd : uD 1 cc pc (.lshl) pc') (k : uW M V Q nL cells slots pc' lv (.long (x <<< (y.toInt64 &&& 63)) :: stk) st) : uW M V Q nL cells slots pc lv (.int y :: .long x :: stk) st := by
  obtain ⟨hd, rfl⟩ := hd
  intro H locs ls hP hS hl
  exact lv_lshl C.1 C.2.1 hd rfl (k H locs ls hP hS hl)
theorem ux_lshr (C : uCx M V cc nL own rf rl rc rs) {x : Int64} {y : Int32} (hd : uD 1 cc pc (.lshr) pc') (k : uW M V Q nL cells slots pc' lv (.long (x >>> (y.toInt64 &&& 63)) :: stk) st) : uW M V Q nL cells slots pc lv (.int y :: .long x :: stk) st := by
  obtain ⟨hd, rfl⟩ := hd
  intro H locs ls hP hS hl
  exact lv_lshr C.1 C.2.1 hd rfl (k H locs ls hP hS hl)
theorem ux_lcmp (C : uCx M V cc nL own rf rl rc rs) {x y : Int64} (hd : uD 1 cc pc (.lcmp) pc') (k : uW M V Q nL cells slots pc' lv (.int (lg_cmp x y) :: stk) st) : uW M V Q nL cells slots pc lv (.long y :: .long x :: stk) st := by
  obtain ⟨hd, rfl⟩ := hd
  intro H locs ls hP hS hl
  exact W.lcmp C.1 C.2.1 hd (k H locs ls hP hS hl)
theorem ux_i2l (C : uCx M V cc nL own rf rl rc rs) {x : Int32} (hd : uD 1 cc pc (.i2l) pc') (k : uW M V Q nL cells slots pc' lv (.long x.toInt64 :: stk) st) : uW M V Q nL cells slots pc lv (.int x :: stk) st := by
  obtain ⟨hd, rfl⟩ := hd
  intro H locs ls hP hS hl
  exact lv_i2l C.1 C.2.1 hd rfl (k H locs ls hP hS hl)
theorem ux_l2i (C : uCx M V cc nL own rf rl rc rs) {x : Int64} (hd : uD 1 cc pc (.l2i) pc') (k : uW M V Q nL cells slots pc' lv (.int x.toInt32 :: stk) st) : uW M V Q nL cells slots pc lv (.long x :: stk) st := by
  obtain ⟨hd, rfl⟩ := hd
  intro H locs ls hP hS hl
  exact lv_l2i C.1 C.2.1 hd rfl (k H locs ls hP hS hl)
theorem ux_i2b (C : uCx M V cc nL own rf rl rc rs) {x : Int32} (hd : uD 1 cc pc (.i2b) pc') (k : uW M V Q nL cells slots pc' lv (.int x.toInt8.toInt32 :: stk) st) : uW M V Q nL cells slots pc lv (.int x :: stk) st := by
  obtain ⟨hd, rfl⟩ := hd
  intro H locs ls hP hS hl
  exact lv_i2b C.1 C.2.1 hd rfl (k H locs ls hP hS hl)
theorem ux_i2d (C : uCx M V cc nL own rf rl rc rs) {x : Int32} (hd : uD 1 cc pc (.i2d) pc') (k : uW M V Q nL cells slots pc' lv (.double (FP.i2d x) :: stk) st) : uW M V Q nL cells slots pc lv (.int x :: stk) st := by
  obtain ⟨hd, rfl⟩ := hd
  intro H locs ls hP hS hl
  exact lv_i2d C.1 C.2.1 hd (k H locs ls hP hS hl)
theorem ux_iconst (C : uCx M V cc nL own rf rl rc rs) {n : Int} {v : Int32} (hd : uD 1 cc pc (.iconst n) pc') (hv : Int32.ofInt n = v) (k : uW M V Q nL cells slots pc' lv (.int v :: stk) st) : uW M V Q nL cells slots pc lv stk st := by
  obtain ⟨hd, rfl⟩ := hd
  intro H locs ls hP hS hl
  exact lv_iconst C.1 C.2.1 hd hv (k H locs ls hP hS hl)
theorem ux_bipush (C : uCx M V cc nL own rf rl rc rs) {n : Int} {v : Int32} (hd : uD 2 cc pc (.bipush n) pc') (hv : (Int8.ofInt n).toInt32 = v) (k : uW M V Q nL cells slots pc' lv (.int v :: stk) st) : uW M V Q nL cells slots pc lv stk st := by
  obtain ⟨hd, rfl⟩ := hd
  intro H locs ls hP hS hl
  exact lv_bipush C.1 C.2.1 hd hv (k H locs ls hP hS hl)
theorem ux_sipush (C : uCx M V cc nL own rf rl rc rs) {n : Int} {v : Int32} (hd : uD 3 cc pc (.sipush n) pc') (hv : (Int16.ofInt n).toInt32 = v) (k : uW M V Q nL cells slots pc' lv (.int v :: stk) st) : uW M V Q nL cells slots pc lv stk st := by
  obtain ⟨hd, rfl⟩ := hd
  intro H locs ls hP hS hl
  exact lv_sipush C.1 C.2.1 hd hv (k H locs ls hP hS hl)
theorem ux_lconst (C : uCx M V cc nL own rf rl rc rs) {n : Fin 2} {v : Int64} (hd : uD 1 cc pc (.lconst n) pc') (hv : Int64.ofNat (n : Nat) = v) (k : uW M V Q nL cells slots pc' lv (.long v :: stk) st) : uW M V Q nL cells slots pc lv stk st := by
  obtain ⟨hd, rfl⟩ := hd
  intro H locs ls hP hS hl
  exact lv_lconst C.1 C.2.1 hd hv (k H locs ls hP hS hl)
theorem ux_dup (C : uCx M V cc nL own rf rl rc rs) {v : Value} (hd : uD 1 cc pc (.dup) pc') (hv : v.category = 1) (k : uW M V Q nL cells slots pc' lv (v :: v :: stk) st) : uW M V Q nL cells slots pc lv (v :: stk) st := by
  obtain ⟨hd, rfl⟩ := hd
  intro H locs ls hP hS hl
  exact lv_dup C.1 C.2.1 hd hv (k H locs ls hP hS hl)
theorem ux_pop (C : uCx M V cc nL own rf rl rc rs) {v : Value} (hd : uD 1 cc pc (.pop) pc') (hv : v.category = 1) (k : uW M V Q nL cells slots pc' lv stk st) : uW M V Q nL cells slots pc lv (v :: stk) st := by
  obtain ⟨hd, rfl⟩ := hd
  intro H locs ls hP hS hl
  exact lv_pop C.1 C.2.1 hd hv (k H locs ls hP hS hl)
theorem ux_iload_n (C : uCx M V cc nL own rf rl rc rs) {kf : Fin 4} {x : Int32} (hd : uD 1 cc pc (.iload_n kf) pc') (j : Nat) (hj : lv[j]? = some ((kf : Nat), .int x)) (k : uW M V Q nL cells slots pc' lv (.int x :: stk) st) : uW M V Q nL cells slots pc lv stk st := by
  obtain ⟨hd, rfl⟩ := hd
  intro H locs ls hP hS hl
  exact lv_iload_n C.1 C.2.1 hd rfl (lv_at hl j hj) (k H locs ls hP hS hl)
theorem ux_iload (C : uCx M V cc nL own rf rl rc rs) {i : Nat} {x : Int32} (hd : uD 2 cc pc (.iload i) pc') (j : Nat) (hj : lv[j]? = some (i, .int x)) (k : uW M V Q nL cells slots pc' lv (.int x :: stk) st) : uW M V Q nL cells slots pc lv stk st := by
  obtain ⟨hd, rfl⟩ := hd
  intro H locs ls hP hS hl
  exact lv_iload C.1 C.2.1 hd (lv_at hl j hj) (k H locs ls hP hS hl)
theorem ux_aload_n (C : uCx M V cc nL own rf rl rc rs) {kf : Fin 4} {x : Nat} (hd : uD 1 cc pc (.aload_n kf) pc') (j : Nat) (hj : lv[j]? = some ((kf : Nat), .ref x)) (k : uW M V Q nL cells slots pc' lv (.ref x :: stk) st) : uW M V Q nL cells slots pc lv stk st := by
  obtain ⟨hd, rfl⟩ := hd
  intro H locs ls hP hS hl
  exact lv_aload_n C.1 C.2.1 hd rfl (lv_at hl j hj) (k H locs ls hP hS hl)
theorem ux_aload (C : uCx M V cc nL own rf rl rc rs) {i : Nat} {x : Nat} (hd : uD 2 cc pc (.aload i) pc') (j : Nat) (hj : lv[j]? = some (i, .ref x)) (k : uW M V Q nL cells slots pc' lv (.ref x :: stk) st) : uW M V Q nL cells slots pc lv stk st := by
  obtain ⟨hd, rfl⟩ := hd
  intro H locs ls hP hS hl
  exact lv_aload C.1 C.2.1 hd (lv_at hl j hj) (k H locs ls hP hS hl)
theorem ux_lload_n (C : uCx M V cc nL own rf rl rc rs) {kf : Fin 4} {x : Int64} (hd : uD 1 cc pc (.lload_n kf) pc') (j : Nat) (hj : lv[j]? = some ((kf : Nat), .long x)) (k : uW M V Q nL cells slots pc' lv (.long x :: stk) st) : uW M V Q nL cells slots pc lv stk st := by
  obtain ⟨hd, rfl⟩ := hd
  intro H locs ls hP hS hl
  exact lv_lload_n C.1 C.2.1 hd rfl (lv_at hl j hj) (k H locs ls hP hS hl)
theorem ux_lload (C : uCx M V cc nL own rf rl rc rs) {i : Nat} {x : Int64} (hd : uD 2 cc pc (.lload i) pc') (j : Nat) (hj : lv[j]? = some (i, .long x)) (k : uW M V Q nL cells slots pc' lv (.long x :: stk) st) : uW M V Q nL cells slots pc lv stk st := by
  obtain ⟨hd, rfl⟩ := hd
  intro H locs ls hP hS hl
  exact lv_lload C.1 C.2.1 hd (lv_at hl j hj) (k H locs ls hP hS hl)
theorem ux_dload_n (C : uCx M V cc nL own rf rl rc rs) {kf : Fin 4} {x : UInt64} (hd : uD 1 cc pc (.dload_n kf) pc') (j : Nat) (hj : lv[j]? = some ((kf : Nat), .double x)) (k : uW M V Q nL cells slots pc' lv (.double x :: stk) st) : uW M V Q nL cells slots pc lv stk st := by
  obtain ⟨hd, rfl⟩ := hd
  intro H locs ls hP hS hl
  exact lv_dload_n C.1 C.2.1 hd rfl (lv_at hl j hj) (k H locs ls hP hS hl)
theorem ux_dload (C : uCx M V cc nL own rf rl rc rs) {i : Nat} {x : UInt64} (hd : uD 2 cc pc (.dload i) pc') (j : Nat) (hj : lv[j]? = some (i, .double x)) (k : uW M V Q nL cells slots pc' lv (.double x :: stk) st) : uW M V Q nL cells slots pc lv stk st := by
  obtain ⟨hd, rfl⟩ := hd
  intro H locs ls hP hS hl
  exact lv_dload C.1 C.2.1 hd (lv_at hl j hj) (k H locs ls hP hS hl)
theorem ux_istore_n (C : uCx M V cc nL own rf rl rc rs) {kf : Fin 4} {x : Int32} {β : Type} {b : Int32 → Option β} {r : β} (hd : uD 1 cc pc (.istore_n kf) pc') (f : Int32 → List (Nat × Value)) (hf : ∀ z, ((kf : Nat), Value.int z) :: lv.filter (fun q => !(q.1 == (kf : Nat)) && !(q.1 + 1 == (kf : Nat) && q.2.category == 2)) = f z) (hn : (kf : Nat) < nL) (h : ol x b = some r) (k : ∀ z, b z = some r → uW M V Q nL cells slots pc' (f z) stk st) : uW M V Q nL cells slots pc lv (.int x :: stk) st := by
  obtain ⟨hd, rfl⟩ := hd
  intro H locs ls hP hS hl
  exact lv_istore_n C.1 C.2.1 hd rfl hl hn (hf x) (fun ls hl => k x h H locs ls hP hS hl)
theorem ux_istore (C : uCx M V cc nL own rf rl rc rs) {i : Nat} {x : Int32} {β : Type} {b : Int32 → Option β} {r : β} (hd : uD 2 cc pc (.istore i) pc') (f : Int32 → List (Nat × Value)) (hf : ∀ z, (i, Value.int z) :: lv.filter (fun q => !(q.1 == i) && !(q.1 + 1 == i && q.2.category == 2)) = f z) (hn : i < nL) (h : ol x b = some r) (k : ∀ z, b z = some r → uW M V Q nL cells slots pc' (f z) stk st) : uW M V Q nL cells slots pc lv (.int x :: stk) st := by
  obtain ⟨hd, rfl⟩ := hd
  intro H locs ls hP hS hl
  exact lv_istore C.1 C.2.1 hd hl hn (hf x) (fun ls hl => k x h H locs ls hP hS hl)
theorem ux_iinc (C : uCx M V cc nL own rf rl rc rs) {i : Nat} {n : Int} {x : Int32} {β : Type} {b : Int32 → Option β} {r : β} (hd : uD 3 cc pc (.iinc i n) pc') (j : Nat) (hj : lv[j]? = some (i, .int x)) (f : Int32 → List (Nat × Value)) (hf : ∀ z, (i, Value.int z) :: lv.filter (fun q => !(q.1 == i) && !(q.1 + 1 == i && q.2.category == 2)) = f z) (hn : i < nL) (h : ol (x + Int32.ofInt n) b = some r) (k : ∀ z, b z = some r → uW M V Q nL cells slots pc' (f z) stk st) : uW M V Q nL cells slots pc lv stk st := by
  obtain ⟨hd, rfl⟩ := hd
  intro H locs ls hP hS hl
  exact lv_iinc C.1 C.2.1 hd hl hj rfl hn (hf _) (fun ls hl => k _ h H locs ls hP hS hl)
theorem ux_lstore (C : uCx M V cc nL own rf rl rc rs) {i : Nat} {x : Int64} {β : Type} {b : Int64 → Option β} {r : β} (hd : uD 2 cc pc (.lstore i) pc') (f : Int64 → List (Nat × Value)) (hf : ∀ z, (i, Value.long z) :: lv.filter (fun q => !(q.1 == i) && (!(q.1 == i + 1) && !(q.1 + 1 == i && q.2.category == 2))) = f z) (hn : i + 1 < nL) (h : ol x b = some r) (k : ∀ z, b z = some r → uW M V Q nL cells slots pc' (f z) stk st) : uW M V Q nL cells slots pc lv (.long x :: stk) st := by
  obtain ⟨hd, rfl⟩ := hd
  intro H locs ls hP hS hl
  exact lv_lstore C.1 C.2.1 hd hl hn (hf x) (fun ls hl => k x h H locs ls hP hS hl)
theorem ux_goto (C : uCx M V cc nL own rf rl rc rs) {tgt : Nat} (hd : uJ cc pc (fun o => .goto o) tgt pc') (k : uW M V Q nL cells slots tgt lv stk st) : uW M V Q nL cells slots pc lv stk st := by
  obtain ⟨off, hd, ht, rfl⟩ := hd
  intro H locs ls hP hS hl
  exact lv_goto C.1 C.2.1 hd ht (k H locs ls hP hS hl)
theorem ux_if_eq (C : uCx M V cc nL own rf rl rc rs) {tgt : Nat} {x : Int32} {β : Type} {a b : Option β} {r : β} (hd : uJ cc pc (fun o => .ifCond .eq o) tgt pc') (h : (if x = 0 then a else b) = some r) (kt : a = some r → uW M V Q nL cells slots tgt lv stk st) (kf : b = some r → uW M V Q nL cells slots pc' lv stk st) : uW M V Q nL cells slots pc lv (.int x :: stk) st := by
  obtain ⟨off, hd, ht, rfl⟩ := hd
  intro H locs ls hP hS hl
  refine lv_if_eq C.1 C.2.1 hd ht (fun c1 => ?_) (fun c1 => ?_)
  · rw [if_pos c1] at h
    exact kt h H locs ls hP hS hl
  · rw [if_neg c1] at h
    exact kf h H locs ls hP hS hl
theorem ux_if_lt (C : uCx M V cc nL own rf rl rc rs) {tgt : Nat} {x : Int32} {β : Type} {a b : Option β} {r : β} (hd : uJ cc pc (fun o => .ifCond .lt o) tgt pc') (h : (if x < 0 then a else b) = some r) (kt : a = some r → uW M V Q nL cells slots tgt lv stk st) (kf : b = some r → uW M V Q nL cells slots pc' lv stk st) : uW M V Q nL cells slots pc lv (.int x :: stk) st := by
  obtain ⟨off, hd, ht, rfl⟩ := hd
  intro H locs ls hP hS hl
  refine lv_if_lt C.1 C.2.1 hd ht (fun c1 => ?_) (fun c1 => ?_)
  · rw [if_pos c1] at h
    exact kt h H locs ls hP hS hl
  · rw [if_neg c1] at h
    exact kf h H locs ls hP hS hl
theorem ux_if_ge (C : uCx M V cc nL own rf rl rc rs) {tgt : Nat} {x : Int32} {β : Type} {a b : Option β} {r : β} (hd : uJ cc pc (fun o => .ifCond .ge o) tgt pc') (h : (if 0 ≤ x then a else b) = some r) (kt : a = some r → uW M V Q nL cells slots tgt lv stk st) (kf : b = some r → uW M V Q nL cells slots pc' lv stk st) : uW M V Q nL cells slots pc lv (.int x :: stk) st := by
  obtain ⟨off, hd, ht, rfl⟩ := hd
  intro H locs ls hP hS hl
  refine lv_if_ge C.1 C.2.1 hd ht (fun c1 => ?_) (fun c1 => ?_)
  · rw [if_pos c1] at h
    exact kt h H locs ls hP hS hl
  · rw [if_neg c1] at h
    exact kf h H locs ls hP hS hl
theorem ux_if_gt (C : uCx M V cc nL own rf rl rc rs) {tgt : Nat} {x : Int32} {β : Type} {a b : Option β} {r : β} (hd : uJ cc pc (fun o => .ifCond .gt o) tgt pc') (h : (if 0 < x then a else b) = some r) (kt : a = some r → uW M V Q nL cells slots tgt lv stk st) (kf : b = some r → uW M V Q nL cells slots pc' lv stk st) : uW M V Q nL cells slots pc lv (.int x :: stk) st := by
  obtain ⟨off, hd, ht, rfl⟩ := hd
  intro H locs ls hP hS hl
  refine lv_if_gt C.1 C.2.1 hd ht (fun c1 => ?_) (fun c1 => ?_)
  · rw [if_pos c1] at h
    exact kt h H locs ls hP hS hl
  · rw [if_neg c1] at h
    exact kf h H locs ls hP hS hl
theorem ux_if_le (C : uCx M V cc nL own rf rl rc rs) {tgt : Nat} {x : Int32} {β : Type} {a b : Option β} {r : β} (hd : uJ cc pc (fun o => .ifCond .le o) tgt pc') (h : (if x ≤ 0 then a else b) = some r) (kt : a = some r → uW M V Q nL cells slots tgt lv stk st) (kf : b = some r → uW M V Q nL cells slots pc' lv stk st) : uW M V Q nL cells slots pc lv (.int x :: stk) st := by
  obtain ⟨off, hd, ht, rfl⟩ := hd
  intro H locs ls hP hS hl
  refine lv_if_le C.1 C.2.1 hd ht (fun c1 => ?_) (fun c1 => ?_)
  · rw [if_pos c1] at h
    exact kt h H locs ls hP hS hl
  · rw [if_neg c1] at h
    exact kf h H locs ls hP hS hl
theorem ux_icmp_eq (C : uCx M V cc nL own rf rl rc rs) {tgt : Nat} {x y : Int32} {β : Type} {a b : Option β} {r : β} (hd : uJ cc pc (fun o => .if_icmp .eq o) tgt pc') (h : (if x = y then a else b) = some r) (kt : a = some r → uW M V Q nL cells slots tgt lv stk st) (kf : b = some r → uW M V Q nL cells slots pc' lv stk st) : uW M V Q nL cells slots pc lv (.int y :: .int x :: stk) st := by
  obtain ⟨off, hd, ht, rfl⟩ := hd
  intro H locs ls hP hS hl
  refine lv_icmp_eq C.1 C.2.1 hd ht (fun c1 => ?_) (fun c1 => ?_)
  · rw [if_pos c1] at h
    exact kt h H locs ls hP hS hl
  · rw [if_neg c1] at h
    exact kf h H locs ls hP hS hl
theorem ux_icmp_lt (C : uCx M V cc nL own rf rl rc rs) {tgt : Nat} {x y : Int32} {β : Type} {a b : Option β} {r : β} (hd : uJ cc pc (fun o => .if_icmp .lt o) tgt pc') (h : (if x < y then a else b) = some r) (kt : a = some r → uW M V Q nL cells slots tgt lv stk st) (kf : b = some r → uW M V Q nL cells slots pc' lv stk st) : uW M V Q nL cells slots pc lv (.int y :: .int x :: stk) st := by
  obtain ⟨off, hd, ht, rfl⟩ := hd
  intro H locs ls hP hS hl
  refine lv_icmp_lt C.1 C.2.1 hd ht (fun c1 => ?_) (fun c1 => ?_)
  · rw [if_pos c1] at h
    exact kt h H locs ls hP hS hl
  · rw [if_neg c1] at h
    exact kf h H locs ls hP hS hl
theorem ux_icmp_ge (C : uCx M V cc nL own rf rl rc rs) {tgt : Nat} {x y : Int32} {β : Type} {a b : Option β} {r : β} (hd : uJ cc pc (fun o => .if_icmp .ge o) tgt pc') (h : (if y ≤ x then a else b) = some r) (kt : a = some r → uW M V Q nL cells slots tgt lv stk st) (kf : b = some r → uW M V Q nL cells slots pc' lv stk st) : uW M V Q nL cells slots pc lv (.int y :: .int x :: stk) st := by
  obtain ⟨off, hd, ht, rfl⟩ := hd
  intro H locs ls hP hS hl
  refine lv_icmp_ge C.1 C.2.1 hd ht (fun c1 => ?_) (fun c1 => ?_)
  · rw [if_pos c1] at h
    exact kt h H locs ls hP hS hl
  · rw [if_neg c1] at h
    exact kf h H locs ls hP hS hl
theorem ux_icmp_gt (C : uCx M V cc nL own rf rl rc rs) {tgt : Nat} {x y : Int32} {β : Type} {a b : Option β} {r : β} (hd : uJ cc pc (fun o => .if_icmp .gt o) tgt pc') (h : (if y < x then a else b) = some r) (kt : a = some r → uW M V Q nL cells slots tgt lv stk st) (kf : b = some r → uW M V Q nL cells slots pc' lv stk st) : uW M V Q nL cells slots pc lv (.int y :: .int x :: stk) st := by
  obtain ⟨off, hd, ht, rfl⟩ := hd
  intro H locs ls hP hS hl
  refine lv_icmp_gt C.1 C.2.1 hd ht (fun c1 => ?_) (fun c1 => ?_)
  · rw [if_pos c1] at h
    exact kt h H locs ls hP hS hl
  · rw [if_neg c1] at h
    exact kf h H locs ls hP hS hl
theorem ux_icmp_le (C : uCx M V cc nL own rf rl rc rs) {tgt : Nat} {x y : Int32} {β : Type} {a b : Option β} {r : β} (hd : uJ cc pc (fun o => .if_icmp .le o) tgt pc') (h : (if x ≤ y then a else b) = some r) (kt : a = some r → uW M V Q nL cells slots tgt lv stk st) (kf : b = some r → uW M V Q nL cells slots pc' lv stk st) : uW M V Q nL cells slots pc lv (.int y :: .int x :: stk) st := by
  obtain ⟨off, hd, ht, rfl⟩ := hd
  intro H locs ls hP hS hl
  refine lv_icmp_le C.1 C.2.1 hd ht (fun c1 => ?_) (fun c1 => ?_)
  · rw [if_pos c1] at h
    exact kt h H locs ls hP hS hl
  · rw [if_neg c1] at h
    exact kf h H locs ls hP hS hl
theorem ux_if_ne (C : uCx M V cc nL own rf rl rc rs) {tgt : Nat} {x : Int32} {β : Type} {a b : Option β} {r : β} (hd : uJ cc pc (fun o => .ifCond .ne o) tgt pc') (h : (if x = 0 then a else b) = some r) (kf : a = some r → uW M V Q nL cells slots pc' lv stk st) (kt : b = some r → uW M V Q nL cells slots tgt lv stk st) : uW M V Q nL cells slots pc lv (.int x :: stk) st := by
  obtain ⟨off, hd, ht, rfl⟩ := hd
  intro H locs ls hP hS hl
  refine lv_if_ne C.1 C.2.1 hd ht (fun c1 => ?_) (fun c1 => ?_)
  · rw [if_neg c1] at h
    exact kt h H locs ls hP hS hl
  · rw [if_pos (c1)] at h
    exact kf h H locs ls hP hS hl
theorem ux_icmp_ne (C : uCx M V cc nL own rf rl rc rs) {tgt : Nat} {x y : Int32} {β : Type} {a b : Option β} {r : β} (hd : uJ cc pc (fun o => .if_icmp .ne o) tgt pc') (h : (if x = y then a else b) = some r) (kf : a = some r → uW M V Q nL cells slots pc' lv stk st) (kt : b = some r → uW M V Q nL cells slots tgt lv stk st) : uW M V Q nL cells slots pc lv (.int y :: .int x :: stk) st := by
  obtain ⟨off, hd, ht, rfl⟩ := hd
  intro H locs ls hP hS hl
  refine lv_icmp_ne C.1 C.2.1 hd ht (fun c1 => ?_) (fun c1 => ?_)
  · rw [if_neg c1] at h
    exact kt h H locs ls hP hS hl
  · rw [if_pos (c1)] at h
    exact kf h H locs ls hP hS hl
theorem ux_idiv (C : uCx M V cc nL own rf rl rc rs) {x y : Int32} {β : Type} {a : Option β} {r : β} (hd : uD 1 cc pc (.idiv) pc') (h : og (nzB y) a = some r) (k : a = some r → uW M V Q nL cells slots pc' lv (.int (x / y) :: stk) st) : uW M V Q nL cells slots pc lv (.int y :: .int x :: stk) st := by
  obtain ⟨hd, rfl⟩ := hd
  obtain ⟨h1, h2⟩ := og_some h
  intro H locs ls hP hS hl
  exact lv_idiv C.1 C.2.1 hd (by simpa [nzB] using h1) (k h2 H locs ls hP hS hl)
theorem ux_irem (C : uCx M V cc nL own rf rl rc rs) {x y : Int32} {β : Type} {a : Option β} {r : β} (hd : uD 1 cc pc (.irem) pc') (h : og (nzB y) a = some r) (k : a = some r → uW M V Q nL cells slots pc' lv (.int (x - x / y * y) :: stk) st) : uW M V Q nL cells slots pc lv (.int y :: .int x :: stk) st := by
  obtain ⟨hd, rfl⟩ := hd
  obtain ⟨h1, h2⟩ := og_some h
  intro H locs ls hP hS hl
  exact lv_irem C.1 C.2.1 hd (by simpa [nzB] using h1) (k h2 H locs ls hP hS hl)
theorem ux_dup2 (C : uCx M V cc nL own rf rl rc rs) {v w : Value} (hd : uD 1 cc pc (.dup2) pc') (hv : v.category = 1) (hw : w.category = 1) (k : uW M V Q nL cells slots pc' lv (v :: w :: v :: w :: stk) st) : uW M V Q nL cells slots pc lv (v :: w :: stk) st := by
  obtain ⟨hd, rfl⟩ := hd
  intro H locs ls hP hS hl
  exact lv_dup2_11 C.1 C.2.1 hd hv hw (k H locs ls hP hS hl)
theorem ux_sub {lv' : List (Nat × Value)} (ks : List Nat) (hl' : lv_pick lv ks = lv') (k : uW M V Q nL cells slots pc lv' stk st) : uW M V Q nL cells slots pc lv stk st := fun H locs ls hP hS hl => k H locs ls hP hS (lv_sub hl ks hl')
theorem ux_widen {k n : Nat} (h1 : cells ≤ k) (h2 : slots ≤ n) (kk : uW M V Q nL k n pc lv stk st) : uW M V Q nL cells slots pc lv stk st := fun H locs ls hP hS hl => W.widen h1 h2 (kk H locs ls hP hS hl)
theorem ux_ldcw (C : uCx M V cc nL own rf rl rc rs) {index : Nat} {v : Int32} (hw : Cond.constant own index v ∈ gw) (hd : uD 3 cc pc (.ldc_w index) pc') (k : uW M V Q nL cells slots pc' lv (.int v :: stk) st) : uW M V Q nL cells slots pc lv stk st := by
  obtain ⟨hd, rfl⟩ := hd
  intro H locs ls hP hS hl
  exact lv_ldcw C.1 C.2.1 C.own (C.words _ hw) hd (k H locs ls hP hS hl)
theorem ux_ldc2 (C : uCx M V cc nL own rf rl rc rs) {index : Nat} {v : Int64} (hw : Cond.constantLong own index v ∈ gw) (hd : uD 3 cc pc (.ldc2_w index) pc') (k : uW M V Q nL cells slots pc' lv (.long v :: stk) st) : uW M V Q nL cells slots pc lv stk st := by
  obtain ⟨hd, rfl⟩ := hd
  intro H locs ls hP hS hl
  exact lv_ldc2 C.1 C.2.1 C.own (C.words _ hw) hd (k H locs ls hP hS hl)
theorem ux_ldcS (C : uCx M V cc nL own rf rl rc rs) {index i : Nat} {tx : String} (hw : uWd[i]? = some (own, index, tx)) (hd : uD 2 cc pc (.ldc index) pc') (k : uW M V Q nL cells slots pc' lv (.ref (vK V i) :: stk) st) : uW M V Q nL cells slots pc lv stk st := by
  obtain ⟨hd, rfl⟩ := hd
  intro H locs ls hP hS hl
  exact va_ldcS C.1 C.2.1 C.own (C.g.2.2.2.2.2.1 i _ hw) hd (k H locs ls hP hS hl)
/-- a field's link: of the class ci, its place k -/
def uF (own : String) (index ci k : Nat) : Prop := ∃ (Cn : String) (T : u_T) (Nf : Nat), vwCl[ci]? = some (Cn, T, Nf) ∧ k < Nf ∧ (∀ w ∈ u_ws Cn T Nf, w ∈ gw) ∧ Cond.fieldLink own index (T k).1 (T k).2.1 (T k).2.2.1 ∈ gw
def uFp (own : String) (index ci k : Nat) (ty : FieldType) : Prop := ∃ (Cn : String) (T : u_T) (Nf : Nat) (ty0 : Nat → FieldType), vwCl[ci]? = some (Cn, T, Nf) ∧ k < Nf ∧ (∀ w ∈ u_ws Cn T Nf, w ∈ gw) ∧ Cond.fieldLink own index (T k).1 (T k).2.1 (T k).2.2.1 ∈ gw ∧ (∀ k, k < Nf → parseFieldDescriptor (T k).2.2.1 = some (ty0 k)) ∧ (∀ a, a < Nf → ∀ b, b < Nf → a ≠ b → (T a).2.1 ≠ (T b).2.1) ∧ (T k).2.2.2 = false ∧ parseFieldDescriptor (T k).2.2.1 = some ty
/-- an object of the world: of the class ci, its fields by the row of its ints -/
def uOb (V : uV) (id ci : Nat) (fs : (Nat → Int32) → List Value) : Prop := id < vN V ∧ ∀ f g d, vS V id f g d = .inr (ci, fs f)
theorem ux_get (C : uCx M V cc nL own rf rl rc rs) {index ci j id : Nat} {fs : (Nat → Int32) → List Value} {v : Value} (f : uF own index ci j) (hd : uD 3 cc pc (.getfield index) pc') (hs : uOb V id ci fs) (hv : (fs (st.1 id))[j]? = some v) (k : uW M V Q nL cells slots pc' lv (v :: stk) st) : uW M V Q nL cells slots pc lv (.ref (vA V id) :: stk) st := by
  obtain ⟨hd, rfl⟩ := hd
  obtain ⟨Cn, T, Nf, h1, h2, h3, h4⟩ := f
  intro H locs ls hP hS hl
  exact va_get (D := vD V) C.1 C.2.1 C.words h3 C.own C.k hP id ((uL_get hs.1).trans (by rw [hs.2])) h1 j h2 (C.words _ h4) (fun _ h9 => h9) hv hd (k H locs ls hP hS hl)
theorem ux_put (C : uCx M V cc nL own rf rl rc rs) {index ci j id : Nat} {fs : (Nat → Int32) → List Value} {v : Int32} {ty : FieldType} {β : Type} {b : uSt → Option β} {r : β} (f : uFp own index ci j ty) (hd : uD 3 cc pc (.putfield index) pc') (hn : narrow ty (.int v) = .int v) (hfit : fits ty (.int v) = true) (hs : uOb V id ci fs) (hl : j < (fs (st.1 id)).length) (hs' : fs (upd (st.1 id) j v) = (fs (st.1 id)).set j (.int v))
    (h : ol (sI st id j v) b = some r) (k : ∀ st', b st' = some r → uW M V Q nL cells slots pc' lv stk st') : uW M V Q nL cells slots pc lv (.int v :: .ref (vA V id) :: stk) st := by
  obtain ⟨hd, rfl⟩ := hd
  obtain ⟨Cn, T, Nf, ty0, h1, h2, h3, h4, h5, h6, h7, h8⟩ := f
  intro H locs ls hP hS hl9
  refine va_put (D := vD V) (A := vR V) C.1 C.2.1 C.words h3 ty0 h5 h6 C.own C.k hP (uL_D C.ok.1 C.ok.2) hS id ((uL_get hs.1).trans (by rw [hs.2])) h1 j h2 (C.words _ h4) (fun _ h9 => h9) h7 h8 hn hfit hl hd (fun H1 locs1 hP1 _ hS1 => ?_)
  rw [uL_set (st' := sI st id j v) hs.1 (by rw [sI_s, ← hs']; exact hs.2 _ _ _) sI_o] at hP1
  exact k _ h H1 locs1 ls hP1 hS1 hl9
/-- an int field: any int fits -/
theorem ux_puti (C : uCx M V cc nL own rf rl rc rs) {index ci j id : Nat} {fs : (Nat → Int32) → List Value} {v : Int32} {β : Type} {b : uSt → Option β} {r : β} (f : uFp own index ci j .int) (hd : uD 3 cc pc (.putfield index) pc') (hs : uOb V id ci fs) (hl : j < (fs (st.1 id)).length) (hs' : fs (upd (st.1 id) j v) = (fs (st.1 id)).set j (.int v))
    (h : ol (sI st id j v) b = some r) (k : ∀ st', b st' = some r → uW M V Q nL cells slots pc' lv stk st') : uW M V Q nL cells slots pc lv (.int v :: .ref (vA V id) :: stk) st := ux_put C f hd rfl rfl hs hl hs' h k
/-- a boolean field: 0 or 1 -/
theorem ux_putz (C : uCx M V cc nL own rf rl rc rs) {index ci j id : Nat} {fs : (Nat → Int32) → List Value} {v : Int32} {β : Type} {b : uSt → Option β} {r : β} (f : uFp own index ci j .boolean) (hd : uD 3 cc pc (.putfield index) pc') (hs : uOb V id ci fs) (hl : j < (fs (st.1 id)).length) (hs' : fs (upd (st.1 id) j v) = (fs (st.1 id)).set j (.int v))
    (h : og (isB v) (ol (sI st id j v) b) = some r) (k : ∀ st', b st' = some r → uW M V Q nL cells slots pc' lv stk st') : uW M V Q nL cells slots pc lv (.int v :: .ref (vA V id) :: stk) st := ux_put C f hd (isB_nar (og_some h).1) (isB_fits (og_some h).1) hs hl hs' (og_some h).2 k
/-- an array of the world: of ints, booleans, bytes (ty), n long -/
def uAr (V : uV) (id : Nat) (ty : FieldType) (n : Nat) : Prop := ∃ (cA : ClassId) (t0 : Nat), (id < vN V ∧ ∀ f g d, vS V id f g d = .inl (cA, n, .inl f)) ∧ (vT V)[t0]? = some (cA, ty)
def uArL (V : uV) (id : Nat) (n : Nat) : Prop := ∃ (cA : ClassId) (t0 : Nat), (id < vN V ∧ ∀ f g d, vS V id f g d = .inl (cA, n, .inr (.inl g))) ∧ (vT V)[t0]? = some (cA, .long)
def uArD (V : uV) (id : Nat) (n : Nat) : Prop := ∃ (cA : ClassId) (t0 : Nat), (id < vN V ∧ ∀ f g d, vS V id f g d = .inl (cA, n, .inr (.inr (.inr (.inl d))))) ∧ (vT V)[t0]? = some (cA, .double)
theorem ux_iald (C : uCx M V cc nL own rf rl rc rs) {id n : Nat} {i : Int32} {β : Type} {a : Option β} {r : β} (ar : uAr V id .int n) (hd : uD 1 cc pc (.iaload) pc') (h : og (inB i n) a = some r) (k : a = some r → uW M V Q nL cells slots pc' lv (.int (st.1 id i.toNatClampNeg) :: stk) st) : uW M V Q nL cells slots pc lv (.int i :: .ref (vA V id) :: stk) st := by
  obtain ⟨hd, rfl⟩ := hd
  obtain ⟨cA, t0, ⟨h1, h2⟩, h3⟩ := ar
  obtain ⟨g1, g2⟩ := og_some h
  intro H locs ls hP hS hl
  exact va_iald C.1 C.2.1 C.k hP id t0 ((uL_get h1).trans (by rw [h2])) h3 (inB_in g1) hd (k g2 H locs ls hP hS hl)
theorem ux_bald (C : uCx M V cc nL own rf rl rc rs) {id n : Nat} {i : Int32} {β : Type} {a : Option β} {r : β} (ar : uAr V id .byte n) (hd : uD 1 cc pc (.baload) pc') (h : og (inB i n) a = some r) (k : a = some r → uW M V Q nL cells slots pc' lv (.int (st.1 id i.toNatClampNeg) :: stk) st) : uW M V Q nL cells slots pc lv (.int i :: .ref (vA V id) :: stk) st := by
  obtain ⟨hd, rfl⟩ := hd
  obtain ⟨cA, t0, ⟨h1, h2⟩, h3⟩ := ar
  obtain ⟨g1, g2⟩ := og_some h
  intro H locs ls hP hS hl
  exact va_bald C.1 C.2.1 C.k hP id t0 ((uL_get h1).trans (by rw [h2])) h3 (inB_in g1) hd (k g2 H locs ls hP hS hl)
theorem ux_zald (C : uCx M V cc nL own rf rl rc rs) {id n : Nat} {i : Int32} {β : Type} {a : Option β} {r : β} (ar : uAr V id .boolean n) (hd : uD 1 cc pc (.baload) pc') (h : og (inB i n) a = some r) (k : a = some r → uW M V Q nL cells slots pc' lv (.int (st.1 id i.toNatClampNeg) :: stk) st) : uW M V Q nL cells slots pc lv (.int i :: .ref (vA V id) :: stk) st := by
  obtain ⟨hd, rfl⟩ := hd
  obtain ⟨cA, t0, ⟨h1, h2⟩, h3⟩ := ar
  obtain ⟨g1, g2⟩ := og_some h
  intro H locs ls hP hS hl
  exact va_zald C.1 C.2.1 C.k hP id t0 ((uL_get h1).trans (by rw [h2])) h3 (inB_in g1) hd (k g2 H locs ls hP hS hl)
theorem ux_lald (C : uCx M V cc nL own rf rl rc rs) {id n : Nat} {i : Int32} {β : Type} {a : Option β} {r : β} (ar : uArL V id n) (hd : uD 1 cc pc (.laload) pc') (h : og (inB i n) a = some r) (k : a = some r → uW M V Q nL cells slots pc' lv (.long (st.2.1 id i.toNatClampNeg) :: stk) st) : uW M V Q nL cells slots pc lv (.int i :: .ref (vA V id) :: stk) st := by
  obtain ⟨hd, rfl⟩ := hd
  obtain ⟨cA, t0, ⟨h1, h2⟩, h3⟩ := ar
  obtain ⟨g1, g2⟩ := og_some h
  intro H locs ls hP hS hl
  exact va_lald C.1 C.2.1 C.k hP id t0 ((uL_get h1).trans (by rw [h2])) h3 (inB_in g1) hd (k g2 H locs ls hP hS hl)
theorem ux_iast (C : uCx M V cc nL own rf rl rc rs) {id n : Nat} {i x : Int32} {β : Type} {b : uSt → Option β} {r : β} (ar : uAr V id .int n) (hd : uD 1 cc pc (.iastore) pc') (h : og (inB i n) (ol (sI st id i.toNatClampNeg x) b) = some r) (k : ∀ st', b st' = some r → uW M V Q nL cells slots pc' lv stk st') : uW M V Q nL cells slots pc lv (.int x :: .int i :: .ref (vA V id) :: stk) st := by
  obtain ⟨hd, rfl⟩ := hd
  obtain ⟨cA, t0, ⟨h1, h2⟩, h3⟩ := ar
  obtain ⟨g1, g2⟩ := og_some h
  intro H locs ls hP hS hl
  refine va_iast (A := vR V) C.1 C.2.1 C.k hP (uL_D C.ok.1 C.ok.2) hS id t0 ((uL_get h1).trans (by rw [h2])) h3 (inB_in g1) hd (fun H1 locs1 hP1 _ hS1 => ?_)
  rw [uL_set (st' := sI st id i.toNatClampNeg x) h1 (by rw [sI_s]; exact h2 _ _ _) sI_o] at hP1
  exact k _ g2 H1 locs1 ls hP1 hS1 hl
theorem ux_bast (C : uCx M V cc nL own rf rl rc rs) {id n : Nat} {i x : Int32} {β : Type} {b : uSt → Option β} {r : β} (ar : uAr V id .byte n) (hd : uD 1 cc pc (.bastore) pc') (h : og (inB i n) (ol (sI st id i.toNatClampNeg (vp_nar .byte x)) b) = some r) (k : ∀ st', b st' = some r → uW M V Q nL cells slots pc' lv stk st') : uW M V Q nL cells slots pc lv (.int x :: .int i :: .ref (vA V id) :: stk) st := by
  obtain ⟨hd, rfl⟩ := hd
  obtain ⟨cA, t0, ⟨h1, h2⟩, h3⟩ := ar
  obtain ⟨g1, g2⟩ := og_some h
  intro H locs ls hP hS hl
  refine va_bast (A := vR V) C.1 C.2.1 C.k hP (uL_D C.ok.1 C.ok.2) hS id t0 ((uL_get h1).trans (by rw [h2])) h3 (inB_in g1) hd (fun H1 locs1 hP1 _ hS1 => ?_)
  rw [uL_set (st' := sI st id i.toNatClampNeg (vp_nar .byte x)) h1 (by rw [sI_s]; exact h2 _ _ _) sI_o] at hP1
  exact k _ g2 H1 locs1 ls hP1 hS1 hl
theorem ux_zast (C : uCx M V cc nL own rf rl rc rs) {id n : Nat} {i x : Int32} {β : Type} {b : uSt → Option β} {r : β} (ar : uAr V id .boolean n) (hd : uD 1 cc pc (.bastore) pc') (h : og (inB i n) (ol (sI st id i.toNatClampNeg (vp_nar .boolean x)) b) = some r) (k : ∀ st', b st' = some r → uW M V Q nL cells slots pc' lv stk st') : uW M V Q nL cells slots pc lv (.int x :: .int i :: .ref (vA V id) :: stk) st := by
  obtain ⟨hd, rfl⟩ := hd
  obtain ⟨cA, t0, ⟨h1, h2⟩, h3⟩ := ar
  obtain ⟨g1, g2⟩ := og_some h
  intro H locs ls hP hS hl
  refine va_zast (A := vR V) C.1 C.2.1 C.k hP (uL_D C.ok.1 C.ok.2) hS id t0 ((uL_get h1).trans (by rw [h2])) h3 (inB_in g1) hd (fun H1 locs1 hP1 _ hS1 => ?_)
  rw [uL_set (st' := sI st id i.toNatClampNeg (vp_nar .boolean x)) h1 (by rw [sI_s]; exact h2 _ _ _) sI_o] at hP1
  exact k _ g2 H1 locs1 ls hP1 hS1 hl
theorem ux_last (C : uCx M V cc nL own rf rl rc rs) {id n : Nat} {i : Int32} {x : Int64} {β : Type} {b : uSt → Option β} {r : β} (ar : uArL V id n) (hd : uD 1 cc pc (.lastore) pc') (h : og (inB i n) (ol (sL st id i.toNatClampNeg x) b) = some r) (k : ∀ st', b st' = some r → uW M V Q nL cells slots pc' lv stk st') : uW M V Q nL cells slots pc lv (.long x :: .int i :: .ref (vA V id) :: stk) st := by
  obtain ⟨hd, rfl⟩ := hd
  obtain ⟨cA, t0, ⟨h1, h2⟩, h3⟩ := ar
  obtain ⟨g1, g2⟩ := og_some h
  intro H locs ls hP hS hl
  refine va_last (A := vR V) C.1 C.2.1 C.k hP (uL_D C.ok.1 C.ok.2) hS id t0 ((uL_get h1).trans (by rw [h2])) h3 (inB_in g1) hd (fun H1 locs1 hP1 _ hS1 => ?_)
  rw [uL_set (st' := sL st id i.toNatClampNeg x) h1 (by rw [sL_s]; exact h2 _ _ _) sL_o] at hP1
  exact k _ g2 H1 locs1 ls hP1 hS1 hl
theorem ux_dast (C : uCx M V cc nL own rf rl rc rs) {id n : Nat} {i : Int32} {x : UInt64} {β : Type} {b : uSt → Option β} {r : β} (ar : uArD V id n) (hd : uD 1 cc pc (.dastore) pc') (h : og (inB i n) (ol (sD st id i.toNatClampNeg x) b) = some r) (k : ∀ st', b st' = some r → uW M V Q nL cells slots pc' lv stk st') : uW M V Q nL cells slots pc lv (.double x :: .int i :: .ref (vA V id) :: stk) st := by
  obtain ⟨hd, rfl⟩ := hd
  obtain ⟨cA, t0, ⟨h1, h2⟩, h3⟩ := ar
  obtain ⟨g1, g2⟩ := og_some h
  intro H locs ls hP hS hl
  refine va_dast (A := vR V) C.1 C.2.1 C.k hP (uL_D C.ok.1 C.ok.2) hS id t0 ((uL_get h1).trans (by rw [h2])) h3 (inB_in g1) hd (fun H1 locs1 hP1 _ hS1 => ?_)
  rw [uL_set (st' := sD st id i.toNatClampNeg x) h1 (by rw [sD_s]; exact h2 _ _ _) sD_o] at hP1
  exact k _ g2 H1 locs1 ls hP1 hS1 hl
theorem ux_alenL (C : uCx M V cc nL own rf rl rc rs) {id n : Nat} {v : Int32} (ar : uArL V id n) (hd : uD 1 cc pc (.arraylength) pc') (hv : Int32.ofNat n = v) (k : uW M V Q nL cells slots pc' lv (.int v :: stk) st) : uW M V Q nL cells slots pc lv (.ref (vA V id) :: stk) st := by
  obtain ⟨hd, rfl⟩ := hd
  obtain ⟨cA, t0, ⟨h1, h2⟩, h3⟩ := ar
  intro H locs ls hP hS hl
  exact va_alen C.1 C.2.1 C.k hP id t0 ((uL_get h1).trans (by rw [h2])) h3 hv hd (k H locs ls hP hS hl)
/-! returns -/
theorem ux_iret (C : uCx M V cc nL own rf rl rc rs) {v r : Int32} {mc ms : Nat} (hr : (mT M).sig.returnType = some .int) (hd : uD 1 cc pc (.ireturn) pc') (h : some v = some r) (hc : cells ≤ mc) (hs : slots ≤ ms) : uW M V (uEnd M V mc ms (some (.int r)) st) nL cells slots pc lv [.int v] st := by
  obtain ⟨hd, -⟩ := hd
  cases h
  intro H locs ls hP hS hl
  refine W.widen hc hs ?_
  exact W.iret C.1 C.2.1 hr (fun t ht _ => ⟨rfl, by rw [ht]; exact hP, hS.F ht⟩) hS.2.2 hd C.locks
theorem ux_iretS (C : uCx M V cc nL own rf rl rc rs) {v r : Int32} {st' : uSt} {mc ms : Nat} (hr : (mT M).sig.returnType = some .int) (hd : uD 1 cc pc (.ireturn) pc') (h : some (v, st) = some (r, st')) (hc : cells ≤ mc) (hs : slots ≤ ms) : uW M V (uEnd M V mc ms (some (.int r)) st') nL cells slots pc lv [.int v] st := by
  cases h
  exact ux_iret C hr hd rfl hc hs
theorem ux_zret (C : uCx M V cc nL own rf rl rc rs) {v r : Int32} {mc ms : Nat} (hr : (mT M).sig.returnType = some .boolean) (hd : uD 1 cc pc (.ireturn) pc') (h : og (isB v) (some v) = some r) (hc : cells ≤ mc) (hs : slots ≤ ms) : uW M V (uEnd M V mc ms (some (.int r)) st) nL cells slots pc lv [.int v] st := by
  obtain ⟨hd, -⟩ := hd
  obtain ⟨g1, g2⟩ := og_some h
  cases g2
  intro H locs ls hP hS hl
  refine W.widen hc hs ?_
  exact W.zret C.1 C.2.1 hr (isB_nar g1) (fun t ht _ => ⟨rfl, by rw [ht]; exact hP, hS.F ht⟩) hS.2.2 hd C.locks
theorem ux_zretS (C : uCx M V cc nL own rf rl rc rs) {v r : Int32} {st' : uSt} {mc ms : Nat} (hr : (mT M).sig.returnType = some .boolean) (hd : uD 1 cc pc (.ireturn) pc') (h : og (isB v) (some (v, st)) = some (r, st')) (hc : cells ≤ mc) (hs : slots ≤ ms) : uW M V (uEnd M V mc ms (some (.int r)) st') nL cells slots pc lv [.int v] st := by
  obtain ⟨g1, g2⟩ := og_some h
  cases g2
  exact ux_zret (r := v) C hr hd (by rw [g1]; rfl) hc hs
theorem ux_lret (C : uCx M V cc nL own rf rl rc rs) {v r : Int64} {mc ms : Nat} (hr : (mT M).sig.returnType = some .long) (hd : uD 1 cc pc (.lreturn) pc') (h : some v = some r) (hc : cells ≤ mc) (hs : slots ≤ ms) : uW M V (uEnd M V mc ms (some (.long r)) st) nL cells slots pc lv [.long v] st := by
  obtain ⟨hd, -⟩ := hd
  cases h
  intro H locs ls hP hS hl
  refine W.widen hc hs ?_
  exact W.lret C.1 C.2.1 hr (fun t ht _ => ⟨rfl, by rw [ht]; exact hP, hS.F ht⟩) hS.2.2 hd C.locks
theorem ux_vret (C : uCx M V cc nL own rf rl rc rs) {st' : uSt} {mc ms : Nat} (hr : (mT M).sig.returnType = none) (hd : uD 1 cc pc (.return_) pc') (h : some ((), st) = some ((), st')) (hc : cells ≤ mc) (hs : slots ≤ ms) : uW M V (uEnd M V mc ms none st') nL cells slots pc lv [] st := by
  obtain ⟨hd, -⟩ := hd
  cases h
  intro H locs ls hP hS hl
  refine W.widen hc hs ?_
  exact W.vret C.1 C.2.1 hr (fun t ht _ => ⟨rfl, by rw [ht]; exact hP, hS.F ht⟩) hS.2.2 hd C.locks
/-! calls of methods that return -/
/-- what a call needs of the tables: by the receiver's class -/
def uCV (own : String) (index : Nat) (Cn : String) (y : MethodName) (cc : ByteArray) (nL : Nat) (ret : Option FieldType) (n : Nat) : Prop :=
  (∀ w ∈ ([.methodLink own index y, .instanceMethod y, .selects Cn y y, .initialized Cn, .code y cc nL ret] : List Cond), w ∈ gw) ∧ (y.cls = Cn ∧ y.cls ≠ "java/lang/invoke/MethodHandle" ∧ y.cls ≠ "java/lang/invoke/VarHandle" ∧ (parseMethodDescriptor y.desc).map (fun d => d.parameters.length) = some n)
def uCS (own : String) (index : Nat) (y : MethodName) (cc : ByteArray) (nL : Nat) (ret : Option FieldType) (n : Nat) : Prop :=
  (∀ w ∈ ([.methodLink own index y, .static y, .initialized y.cls, .code y cc nL ret] : List Cond), w ∈ gw) ∧ (y.cls ≠ "java/lang/invoke/MethodHandle" ∧ y.cls ≠ "java/lang/invoke/VarHandle" ∧ (parseMethodDescriptor y.desc).map (fun d => d.parameters.length) = some n)
theorem uCV.good {own Cn : String} {index nL n : Nat} {y : MethodName} {cc : ByteArray} {ret : Option FieldType} (h : uCV own index Cn y cc nL ret n) : GoodIn gw (wsV own index Cn y (Cond.code y cc nL ret :: gw)) := by
  refine gw_goodIn fun w hw => ?_
  unfold wsV at hw
  rcases List.mem_append.mp hw with hw | hw
  · exact h.1 w (List.mem_append_left [_] hw)
  · rcases List.mem_cons.mp hw with rfl | hw
    · exact h.1 _ (by simp)
    · exact hw
theorem uCS.good {own : String} {index nL n : Nat} {y : MethodName} {cc : ByteArray} {ret : Option FieldType} (h : uCS own index y cc nL ret n) : GoodIn gw (va_wsS own index y (Cond.code y cc nL ret :: gw)) := by
  refine gw_goodIn fun w hw => ?_
  unfold va_wsS at hw
  rcases List.mem_append.mp hw with hw | hw
  · exact h.1 w (List.mem_append_left [_] hw)
  · rcases List.mem_cons.mp hw with rfl | hw
    · exact h.1 _ (by simp)
    · exact hw
theorem uPre_at (C : uCx M V cc nL own rf rl rc rs) {H : Heap} {locs : List Loc} {args : List Value} (hP : uH V st H) (hS : va_S (vR V) (mS M).heap H locs) : ∀ U : State, U.heap = H → (mS M).WarmedH U.vm → uPre V args st args.toArray U := fun U hU hW =>
  ⟨rfl, by rw [hU]; exact hP, va_K.moved hW.alike C.k, fun q hq => C.new q (Nat.le_trans hS.1 (by rw [← hU]; exact hq)), uG_step C.g hW (fun q h1 h2 => by rw [hU]; exact hS.2.1 q h1 h2)⟩
theorem ux_run {H : Heap} {locs : List Loc} {ls : Array Slot} {a : Array Value} {ov : Option Value} {st' : uSt} {mc ms : Nat} {stk0 rest : List Value} (hr : va_Run (mP M) (mL M) (mE M) (mR M) (mS M) (mM M) (mA M) (mB M) (mT M) (mC M) H locs cells slots mc ms (F0 (mM M) pc ls stk0) rest (uQ V ov st' a) (vR V)) (hS : va_S (vR V) (mS M).heap H locs) (hl : lv_has ls nL lv)
    (k : uW M V Q nL (cells + mc) (slots + ms) (pc + 3) lv (ov.toList ++ rest) st') : W (mP M) (mL M) (mE M) (mR M) (mS M) (mM M) (mA M) (mB M) (mT M) (mC M) H locs cells slots Q (F0 (mM M) pc ls stk0) := by
  intro T hT X
  obtain ⟨v, st₀, t, T', L, h0, X', hL, e1, e2, ⟨hv, hw, hz, hk⟩, st⟩ := hr T hT X
  cases hv
  rw [h0] at hz hk
  obtain ⟨t2, a1, b1⟩ := k T'.heap (locs ++ L) ls (by rw [e1]; exact hw)
    ⟨Nat.le_trans hS.1 (by rw [e1]; exact hz), fun q h1 h2 => by rw [e1, hk q (Nat.lt_of_lt_of_le h1 hS.1) h2]; exact hS.2.1 q h1 h2, fun q hq => by
      rcases List.mem_append.mp hq with h | h
      · exact hS.2.2 q h
      · exact hL q h⟩ hl T' rfl X'
  exact ⟨t2, st t2 a1, b1⟩
theorem ux_callV (C : uCx M V cc nL own rf rl rc rs) {index n ci id : Nat} {Cn : String} {T : u_T} {Nf : Nat} {fs : (Nat → Int32) → List Value} {y : MethodName} {cc' : ByteArray} {nL' rf' rl' mc ms : Nat} {ret : Option FieldType} {As : List Value} {ov : Option Value} {st' : uSt} (cv : uCV own index Cn y cc' nL' ret n) (hd : uD 3 cc pc (.invokevirtual index) pc') (hs : uOb V id ci fs) (hc : vwCl[ci]? = some (Cn, T, Nf))
    (hM : uMet (mL M) V y cc' nL' ret rf' rl' mc ms (.ref (vA V id) :: As) st ov st') (hn : As.length = n) (hw : (stk.map fun v => v.category).sum ≤ 8) (hR : rf' + 1 ≤ rf ∧ 8 + (nL' + 11) + rl' ≤ rl) (hf : cells + mc ≤ rc ∧ slots + ms ≤ rs)
    (k : uW M V Q nL (cells + mc) (slots + ms) pc' lv (ov.toList ++ stk) st') {stk0 : List Value} (h0 : stk0 = As.reverse ++ .ref (vA V id) :: stk) : uW M V Q nL cells slots pc lv stk0 st := by
  obtain ⟨hd, rfl⟩ := hd
  subst h0
  intro H locs ls hP hS hl
  obtain ⟨r1, r2, r3, r4⟩ := C.room
  refine ux_run (va_runV (As := As) (rest := stk) ⟨C.1, C.2.1, C.maxL, C.own, C.words⟩ hM (cwV n C.words cv.good rfl rfl rfl cv.2 ⟨Nat.le_trans hR.1 r1, Nat.le_trans hR.2 r2⟩) ⟨uPre_blind, va_recv C.k hP hc ((uL_get hs.1).trans (by rw [hs.2])), uPre_at C hP hS⟩ rfl hn hl.1 rfl (lv_room hw) hd ⟨Nat.le_trans hf.1 r3, Nat.le_trans hf.2 r4⟩) hS hl k
theorem ux_callS (C : uCx M V cc nL own rf rl rc rs) {index n : Nat} {y : MethodName} {cc' : ByteArray} {nL' rf' rl' mc ms : Nat} {ret : Option FieldType} {As : List Value} {ov : Option Value} {st' : uSt} (cv : uCS own index y cc' nL' ret n) (hd : uD 3 cc pc (.invokestatic index) pc')
    (hM : uMet (mL M) V y cc' nL' ret rf' rl' mc ms As st ov st') (hn : As.length = n) (hw : (stk.map fun v => v.category).sum ≤ 8) (hR : rf' + 1 ≤ rf ∧ 8 + (nL' + 11) + rl' ≤ rl) (hf : cells + mc ≤ rc ∧ slots + ms ≤ rs)
    (k : uW M V Q nL (cells + mc) (slots + ms) pc' lv (ov.toList ++ stk) st') {stk0 : List Value} (h0 : stk0 = As.reverse ++ stk) : uW M V Q nL cells slots pc lv stk0 st := by
  obtain ⟨hd, rfl⟩ := hd
  subst h0
  intro H locs ls hP hS hl
  obtain ⟨r1, r2, r3, r4⟩ := C.room
  refine ux_run (va_runS (As := As) (rest := stk) ⟨C.1, C.2.1, C.maxL, C.own, C.words⟩ hM (va_cwS n C.words cv.good rfl rfl rfl cv.2 ⟨Nat.le_trans hR.1 r1, Nat.le_trans hR.2 r2⟩) ⟨uPre_blind, uPre_at C hP hS⟩ rfl hn hl.1 rfl (lv_room hw) hd ⟨Nat.le_trans hf.1 r3, Nat.le_trans hf.2 r4⟩) hS hl k
theorem ux_mmax (C : uCx M V cc nL own rf rl rc rs) {index : Nat} {x y : Int32} (cv : ∀ w ∈ ([.methodLink own index Lib.Math.max.name, .static Lib.Math.max.name, .initialized "java/lang/Math", .code Lib.Math.max.name Lib.Math.max.code 2 (some .int)] : List Cond), w ∈ gw) (hd : uD 3 cc pc (.invokestatic index) pc') (hw : (stk.map fun v => v.category).sum ≤ 8) (hR : 1 ≤ rf ∧ 21 ≤ rl) (hf : cells ≤ rc ∧ slots ≤ rs) (k : uW M V Q nL cells slots pc' lv (.int (if x < y then y else x) :: stk) st) : uW M V Q nL cells slots pc lv (.int y :: .int x :: stk) st := by
  obtain ⟨hd, rfl⟩ := hd
  intro H locs ls hP hS hl
  obtain ⟨r1, r2, r3, r4⟩ := C.room
  exact va_mmax C.1 C.2.1 (C.maxL.trans hl.1.symm) C.own (C.words _ (cv _ (by simp))) (C.words _ (cv _ (by simp))) (C.words _ (cv _ (by simp))) (C.words _ (cv _ (by simp))) (Nat.le_trans hR.1 r1) (by omega) (Nat.le_trans hf.1 r3) (Nat.le_trans hf.2 r4) hd (k H locs ls hP hS hl)
theorem ux_mmin (C : uCx M V cc nL own rf rl rc rs) {index : Nat} {x y : Int32} (cv : ∀ w ∈ ([.methodLink own index Lib.Math.min.name, .static Lib.Math.min.name, .initialized "java/lang/Math", .code Lib.Math.min.name Lib.Math.min.code 2 (some .int)] : List Cond), w ∈ gw) (hd : uD 3 cc pc (.invokestatic index) pc') (hw : (stk.map fun v => v.category).sum ≤ 8) (hR : 1 ≤ rf ∧ 21 ≤ rl) (hf : cells ≤ rc ∧ slots ≤ rs) (k : uW M V Q nL cells slots pc' lv (.int (if y < x then y else x) :: stk) st) : uW M V Q nL cells slots pc lv (.int y :: .int x :: stk) st := by
  obtain ⟨hd, rfl⟩ := hd
  intro H locs ls hP hS hl
  obtain ⟨r1, r2, r3, r4⟩ := C.room
  exact va_mmin C.1 C.2.1 (C.maxL.trans hl.1.symm) C.own (C.words _ (cv _ (by simp))) (C.words _ (cv _ (by simp))) (C.words _ (cv _ (by simp))) (C.words _ (cv _ (by simp))) (Nat.le_trans hR.1 r1) (by omega) (Nat.le_trans hf.1 r3) (Nat.le_trans hf.2 r4) hd (k H locs ls hP hS hl)
theorem ux_mmaxL (C : uCx M V cc nL own rf rl rc rs) {index : Nat} {x y : Int64} (cv : ∀ w ∈ ([.methodLink own index Lib.MathLoose.max_long.x, .static Lib.MathLoose.max_long.x, .initialized "java/lang/Math", .code Lib.MathLoose.max_long.x Lib.MathLoose.max_long.code 4 (some .long)] : List Cond), w ∈ gw) (hd : uD 3 cc pc (.invokestatic index) pc') (hw : (stk.map fun v => v.category).sum ≤ 8) (hR : 1 ≤ rf ∧ 23 ≤ rl) (hf : cells ≤ rc ∧ slots ≤ rs) (k : uW M V Q nL cells slots pc' lv (.long (if y < x then x else y) :: stk) st) : uW M V Q nL cells slots pc lv (.long y :: .long x :: stk) st := by
  obtain ⟨hd, rfl⟩ := hd
  intro H locs ls hP hS hl
  obtain ⟨r1, r2, r3, r4⟩ := C.room
  exact va_mmax_long C.1 C.2.1 (C.maxL.trans hl.1.symm) C.own (C.words _ (cv _ (by simp))) (C.words _ (cv _ (by simp))) (C.words _ (cv _ (by simp))) (C.words _ (cv _ (by simp))) (Nat.le_trans hR.1 r1) (by omega) (Nat.le_trans hf.1 r3) (Nat.le_trans hf.2 r4) hd (k H locs ls hP hS hl)
/-- a body, from its entry -/
theorem ux_met {l : Launch} {V : uV} {y : MethodName} {cc : ByteArray} {nL : Nat} {ret : Option FieldType} {rf rl mc ms : Nat} {args : List Value} {st : uSt} {ov : Option Value} {st' : uSt} {lv : List (Nat × Value)} (ht : l.stackTraces = false) (hok : uVok V) (hy : plainName y.cls = true) (hlv : lv_args 0 args = lv) (hlen : (lg_sl args).length ≤ nL)
    (body : ∀ M : uM, mL M = l → (mT M).sig.returnType = ret → uCx M V cc nL y.cls rf rl mc ms → uW M V (uEnd M V mc ms ov st') nL 0 0 0 lv [] st) : uMet l V y cc nL ret rf rl mc ms args st ov st' := by
  refine Met.ofW (cc := cc) (maxL := nL) (ret := ret) hy rfl ?_
  intro p e s m args' below meth c s₁ B hml hv
  obtain ⟨rfl, hP, hK, hA, hG⟩ := hv
  have hts := atoms_spec (ws := Cond.code y cc nL ret :: gw) B.pre
  have hl := lv_entry args (n := nL) hlen
  rw [hlv] at hl
  rw [lg_entry_eq]
  exact body (p, l, e, { frames := rf, cells := mc, slots := ms, locals := rl }, s, m, args.toArray, below, meth, c) rfl B.returns ⟨B.exec, B.bytes, hml, findClass_of_methodNamed B.named, fun w hw => hts w (List.mem_cons_of_mem _ hw), hK, hok, hA, B.notSynchronized, hG, ⟨Nat.le_refl _, Nat.le_refl _, Nat.le_refl _, Nat.le_refl _⟩, ht⟩ s.heap [] _ hP va_S.rf hl

end UXR
section UXC
variable {M : uM} {V : uV} {cc : ByteArray} {nL : Nat} {own : String} {rf rl rc rs : Nat} {Q : State → Prop} {cells slots pc pc' : Nat} {lv : List (Nat × Value)} {stk : List Value} {st : uSt}
variable {index n ci id : Nat} {Cn : String} {T : u_T} {Nf : Nat} {fs : (Nat → Int32) → List Value} {y : MethodName} {cc' : ByteArray} {nL' rf' rl' mc ms : Nat} {ret : Option FieldType} {As : List Value} {st' : uSt}
theorem ux_callVi (C : uCx M V cc nL own rf rl rc rs) {r : Int32} (cv : uCV own index Cn y cc' nL' ret n) (hd : uD 3 cc pc (.invokevirtual index) pc') (hs : uOb V id ci fs) (hc : vwCl[ci]? = some (Cn, T, Nf)) (hM : uMet (mL M) V y cc' nL' ret rf' rl' mc ms (.ref (vA V id) :: As) st (some (.int r)) st') (hn : As.length = n) (hw : (stk.map fun v => v.category).sum ≤ 8) (hR : rf' + 1 ≤ rf ∧ 8 + (nL' + 11) + rl' ≤ rl) (hf : cells + mc ≤ rc ∧ slots + ms ≤ rs) (k : uW M V Q nL (cells + mc) (slots + ms) pc' lv (.int r :: stk) st') {stk0 : List Value} (h0 : stk0 = As.reverse ++ .ref (vA V id) :: stk) : uW M V Q nL cells slots pc lv stk0 st := ux_callV C cv hd hs hc hM hn hw hR hf k h0
theorem ux_callVv (C : uCx M V cc nL own rf rl rc rs) (cv : uCV own index Cn y cc' nL' ret n) (hd : uD 3 cc pc (.invokevirtual index) pc') (hs : uOb V id ci fs) (hc : vwCl[ci]? = some (Cn, T, Nf)) (hM : uMet (mL M) V y cc' nL' ret rf' rl' mc ms (.ref (vA V id) :: As) st none st') (hn : As.length = n) (hw : (stk.map fun v => v.category).sum ≤ 8) (hR : rf' + 1 ≤ rf ∧ 8 + (nL' + 11) + rl' ≤ rl) (hf : cells + mc ≤ rc ∧ slots + ms ≤ rs) (k : uW M V Q nL (cells + mc) (slots + ms) pc' lv stk st') {stk0 : List Value} (h0 : stk0 = As.reverse ++ .ref (vA V id) :: stk) : uW M V Q nL cells slots pc lv stk0 st := ux_callV C cv hd hs hc hM hn hw hR hf k h0
theorem ux_callSi (C : uCx M V cc nL own rf rl rc rs) {r : Int32} (cv : uCS own index y cc' nL' ret n) (hd : uD 3 cc pc (.invokestatic index) pc') (hM : uMet (mL M) V y cc' nL' ret rf' rl' mc ms As st (some (.int r)) st') (hn : As.length = n) (hw : (stk.map fun v => v.category).sum ≤ 8) (hR : rf' + 1 ≤ rf ∧ 8 + (nL' + 11) + rl' ≤ rl) (hf : cells + mc ≤ rc ∧ slots + ms ≤ rs) (k : uW M V Q nL (cells + mc) (slots + ms) pc' lv (.int r :: stk) st') {stk0 : List Value} (h0 : stk0 = As.reverse ++ stk) : uW M V Q nL cells slots pc lv stk0 st := ux_callS C cv hd hM hn hw hR hf k h0
theorem ux_callSl (C : uCx M V cc nL own rf rl rc rs) {r : Int64} (cv : uCS own index y cc' nL' ret n) (hd : uD 3 cc pc (.invokestatic index) pc') (hM : uMet (mL M) V y cc' nL' ret rf' rl' mc ms As st (some (.long r)) st') (hn : As.length = n) (hw : (stk.map fun v => v.category).sum ≤ 8) (hR : rf' + 1 ≤ rf ∧ 8 + (nL' + 11) + rl' ≤ rl) (hf : cells + mc ≤ rc ∧ slots + ms ≤ rs) (k : uW M V Q nL (cells + mc) (slots + ms) pc' lv (.long r :: stk) st') {stk0 : List Value} (h0 : stk0 = As.reverse ++ stk) : uW M V Q nL cells slots pc lv stk0 st := ux_callS C cv hd hM hn hw hR hf k h0
theorem ux_callSv (C : uCx M V cc nL own rf rl rc rs) (cv : uCS own index y cc' nL' ret n) (hd : uD 3 cc pc (.invokestatic index) pc') (hM : uMet (mL M) V y cc' nL' ret rf' rl' mc ms As st none st') (hn : As.length = n) (hw : (stk.map fun v => v.category).sum ≤ 8) (hR : rf' + 1 ≤ rf ∧ 8 + (nL' + 11) + rl' ≤ rl) (hf : cells + mc ≤ rc ∧ slots + ms ≤ rs) (k : uW M V Q nL (cells + mc) (slots + ms) pc' lv stk st') {stk0 : List Value} (h0 : stk0 = As.reverse ++ stk) : uW M V Q nL cells slots pc lv stk0 st := ux_callS C cv hd hM hn hw hR hf k h0
theorem ux_tsOut (C : uCx M V cc nL own rf rl rc rs) {dflt lo hi : Int} {offs : Array Int} {len tgt : Nat} {x : Int32} (hd : uD len cc pc (.tableswitch dflt lo hi offs) pc') (h : x.toInt < lo ∨ hi < x.toInt) (ht : (pc : Int) + dflt = (tgt : Int)) (k : uW M V Q nL cells slots tgt lv stk st) : uW M V Q nL cells slots pc lv (.int x :: stk) st := fun H locs ls hP hS hl => lv_tableOut C.1 C.2.1 hd.1 h ht (k H locs ls hP hS hl)
theorem ux_tsIn (C : uCx M V cc nL own rf rl rc rs) {dflt lo hi : Int} {offs : Array Int} {len tgt : Nat} {x v : Int32} {off : Int} (hd : uD len cc pc (.tableswitch dflt lo hi offs) pc') (hx : x = v) (h1 : ¬ v.toInt < lo) (h2 : ¬ hi < v.toInt) (ho : offs[(v.toInt - lo).toNat]? = some off) (ht : (pc : Int) + off = (tgt : Int)) (k : uW M V Q nL cells slots tgt lv stk st) : uW M V Q nL cells slots pc lv (.int x :: stk) st := by
  subst hx
  exact fun H locs ls hP hS hl => lv_tableIn C.1 C.2.1 hd.1 h1 h2 ho ht (k H locs ls hP hS hl)
end UXC
/-! pure steps, further ones -/
def FU : Nat := 5000
def obS {α β : Type} (m : Option (α × uSt)) (k : α → uSt → Option β) : Option β := match m with
  | some a => k a.1 a.2
  | none => none
def obV {β : Type} (m : Option (Unit × uSt)) (k : uSt → Option β) : Option β := match m with
  | some a => k a.2
  | none => none
theorem obS_some {α β : Type} {m : Option (α × uSt)} {k : α → uSt → Option β} {r : β} (h : obS m k = some r) : ∃ a st, m = some (a, st) ∧ k a st = some r := by
  cases m with
  | none => cases h
  | some a => exact ⟨a.1, a.2, rfl, h⟩
theorem obV_some {β : Type} {m : Option (Unit × uSt)} {k : uSt → Option β} {r : β} (h : obV m k = some r) : ∃ st, m = some ((), st) ∧ k st = some r := by
  cases m with
  | none => cases h
  | some a => exact ⟨a.2, rfl, h⟩
def oj0 {β : Type} (K : Option β) (B : Option β → Option β) : Option β := B K
theorem oj0_some {β : Type} {K : Option β} {B : Option β → Option β} {r : β} (h : oj0 K B = some r) : ∃ j : Option β, (j = some r → K = some r) ∧ B j = some r := ⟨K, fun h => h, h⟩
def oj1 {A1 β : Type} (K : A1 → Option β) (B : (A1 → Option β) → Option β) : Option β := B K
theorem oj1_some {A1 β : Type} {K : A1 → Option β} {B : (A1 → Option β) → Option β} {r : β} (h : oj1 K B = some r) : ∃ j : A1 → Option β, (∀ (a1 : A1), j a1 = some r → K a1 = some r) ∧ B j = some r := ⟨K, fun _ h => h, h⟩
def oj2 {A1 A2 β : Type} (K : A1 → A2 → Option β) (B : (A1 → A2 → Option β) → Option β) : Option β := B K
theorem oj2_some {A1 A2 β : Type} {K : A1 → A2 → Option β} {B : (A1 → A2 → Option β) → Option β} {r : β} (h : oj2 K B = some r) : ∃ j : A1 → A2 → Option β, (∀ (a1 : A1) (a2 : A2), j a1 a2 = some r → K a1 a2 = some r) ∧ B j = some r := ⟨K, fun _ _ h => h, h⟩
def oj3 {A1 A2 A3 β : Type} (K : A1 → A2 → A3 → Option β) (B : (A1 → A2 → A3 → Option β) → Option β) : Option β := B K
theorem oj3_some {A1 A2 A3 β : Type} {K : A1 → A2 → A3 → Option β} {B : (A1 → A2 → A3 → Option β) → Option β} {r : β} (h : oj3 K B = some r) : ∃ j : A1 → A2 → A3 → Option β, (∀ (a1 : A1) (a2 : A2) (a3 : A3), j a1 a2 a3 = some r → K a1 a2 a3 = some r) ∧ B j = some r := ⟨K, fun _ _ _ h => h, h⟩
def oj4 {A1 A2 A3 A4 β : Type} (K : A1 → A2 → A3 → A4 → Option β) (B : (A1 → A2 → A3 → A4 → Option β) → Option β) : Option β := B K
theorem oj4_some {A1 A2 A3 A4 β : Type} {K : A1 → A2 → A3 → A4 → Option β} {B : (A1 → A2 → A3 → A4 → Option β) → Option β} {r : β} (h : oj4 K B = some r) : ∃ j : A1 → A2 → A3 → A4 → Option β, (∀ (a1 : A1) (a2 : A2) (a3 : A3) (a4 : A4), j a1 a2 a3 a4 = some r → K a1 a2 a3 a4 = some r) ∧ B j = some r := ⟨K, fun _ _ _ _ h => h, h⟩
def oj5 {A1 A2 A3 A4 A5 β : Type} (K : A1 → A2 → A3 → A4 → A5 → Option β) (B : (A1 → A2 → A3 → A4 → A5 → Option β) → Option β) : Option β := B K
theorem oj5_some {A1 A2 A3 A4 A5 β : Type} {K : A1 → A2 → A3 → A4 → A5 → Option β} {B : (A1 → A2 → A3 → A4 → A5 → Option β) → Option β} {r : β} (h : oj5 K B = some r) : ∃ j : A1 → A2 → A3 → A4 → A5 → Option β, (∀ (a1 : A1) (a2 : A2) (a3 : A3) (a4 : A4) (a5 : A5), j a1 a2 a3 a4 a5 = some r → K a1 a2 a3 a4 a5 = some r) ∧ B j = some r := ⟨K, fun _ _ _ _ _ h => h, h⟩
def oj6 {A1 A2 A3 A4 A5 A6 β : Type} (K : A1 → A2 → A3 → A4 → A5 → A6 → Option β) (B : (A1 → A2 → A3 → A4 → A5 → A6 → Option β) → Option β) : Option β := B K
theorem oj6_some {A1 A2 A3 A4 A5 A6 β : Type} {K : A1 → A2 → A3 → A4 → A5 → A6 → Option β} {B : (A1 → A2 → A3 → A4 → A5 → A6 → Option β) → Option β} {r : β} (h : oj6 K B = some r) : ∃ j : A1 → A2 → A3 → A4 → A5 → A6 → Option β, (∀ (a1 : A1) (a2 : A2) (a3 : A3) (a4 : A4) (a5 : A5) (a6 : A6), j a1 a2 a3 a4 a5 a6 = some r → K a1 a2 a3 a4 a5 a6 = some r) ∧ B j = some r := ⟨K, fun _ _ _ _ _ _ h => h, h⟩

