/-! AT THE LAW'S ENTRY: what the tables and the start say. -/
def sFl : List Cond := flatC (Jvm.Cond.and given_1 narrow_1)
def sT (i : Nat) : Term := .string ((uWd.getD i ("", 0, "")).1) ((uWd.getD i ("", 0, "")).2.1)
def sTv (i : Nat) : Term := .field (sT i) "java/lang/String" "value" "[B"
def sWs (i : Nat) : List Cond := [.exactly (sT i) "java/lang/String", .eq (.field (sT i) "java/lang/String" "coder" "B") (.int 0), .arrayOf (sTv i) .byte, .eq (.length (sTv i)) (.int (Int32.ofNat (uLen i)))] ++ (List.range (uLen i)).map (fun j => .eq (.elem (sTv i) (.int (Int32.ofNat j))) (.int (uCh i j)))
theorem pl_in {T ws : List Cond} (idx : List Nat) (h : ws.map some = idx.map (fun p => T[p]?)) : ∀ w ∈ ws, w ∈ T := by
  intro w hw
  have h1 : some w ∈ idx.map (fun p => T[p]?) := by rw [← h]; exact List.mem_map.mpr ⟨w, hw, rfl⟩
  obtain ⟨p, -, hp⟩ := List.mem_map.mp h1
  exact List.mem_of_getElem? hp
theorem sWs_0 : ∀ w ∈ sWs 0, w ∈ sFl := pl_in [107, 108, 109, 110, 111, 112, 113, 114, 115, 116, 117] (by decide +kernel)
theorem sWs_1 : ∀ w ∈ sWs 1, w ∈ sFl := pl_in [172, 173, 174, 175, 176, 177, 178, 179, 180, 181] (by decide +kernel)
theorem sWs_2 : ∀ w ∈ sWs 2, w ∈ sFl := pl_in [118, 119, 120, 121, 122, 123, 124, 125, 126, 127, 128] (by decide +kernel)
theorem sWs_3 : ∀ w ∈ sWs 3, w ∈ sFl := pl_in [129, 130, 131, 132, 133, 134, 135, 136, 137] (by decide +kernel)
theorem sWs_4 : ∀ w ∈ sWs 4, w ∈ sFl := pl_in [138, 139, 140, 141, 142, 143, 144, 145] (by decide +kernel)
theorem sWs_5 : ∀ w ∈ sWs 5, w ∈ sFl := pl_in [146, 147, 148, 149, 150, 151, 152, 153, 154] (by decide +kernel)
theorem sWs_6 : ∀ w ∈ sWs 6, w ∈ sFl := pl_in [155, 156, 157, 158, 159, 160, 161] (by decide +kernel)
theorem sWs_7 : ∀ w ∈ sWs 7, w ∈ sFl := pl_in [162, 163, 164, 165, 166, 167, 168, 169, 170, 171] (by decide +kernel)
theorem sWs_8 : ∀ w ∈ sWs 8, w ∈ sFl := pl_in [765, 766, 767, 768, 769, 770, 771, 772, 773, 774, 775] (by decide +kernel)
theorem sWs_9 : ∀ w ∈ sWs 9, w ∈ sFl := pl_in [837, 838, 839, 840, 841, 842, 843, 844, 845, 846] (by decide +kernel)
theorem sWs_10 : ∀ w ∈ sWs 10, w ∈ sFl := pl_in [777, 778, 779, 780, 781, 782, 783, 784, 785, 786, 787] (by decide +kernel)
theorem sWs_11 : ∀ w ∈ sWs 11, w ∈ sFl := pl_in [789, 790, 791, 792, 793, 794, 795, 796, 797] (by decide +kernel)
theorem sWs_12 : ∀ w ∈ sWs 12, w ∈ sFl := pl_in [799, 800, 801, 802, 803, 804, 805, 806] (by decide +kernel)
theorem sWs_13 : ∀ w ∈ sWs 13, w ∈ sFl := pl_in [827, 828, 829, 830, 831, 832, 833, 834, 835] (by decide +kernel)
theorem sWs_14 : ∀ w ∈ sWs 14, w ∈ sFl := pl_in [819, 820, 821, 822, 823, 824, 825] (by decide +kernel)
theorem sWs_15 : ∀ w ∈ sWs 15, w ∈ sFl := pl_in [808, 809, 810, 811, 812, 813, 814, 815, 816, 817] (by decide +kernel)
theorem sWs_in : ∀ i, i < 16 → ∀ w ∈ sWs i, w ∈ sFl := fun i hi => match i, hi with
  | 0, _ => sWs_0
  | 1, _ => sWs_1
  | 2, _ => sWs_2
  | 3, _ => sWs_3
  | 4, _ => sWs_4
  | 5, _ => sWs_5
  | 6, _ => sWs_6
  | 7, _ => sWs_7
  | 8, _ => sWs_8
  | 9, _ => sWs_9
  | 10, _ => sWs_10
  | 11, _ => sWs_11
  | 12, _ => sWs_12
  | 13, _ => sWs_13
  | 14, _ => sWs_14
  | 15, _ => sWs_15
  | n + 16, h => absurd h (by omega)
theorem sTx1_in : ∀ q ∈ uTx, Cond.exactly (.string q.1 q.2.1) "java/lang/String" ∈ sFl := by
  have h := pl_in (T := sFl) (ws := uTx.map (fun q => Cond.exactly (.string q.1 q.2.1) "java/lang/String")) [59, 89, 182, 207, 225, 243, 266, 285, 311, 332, 349, 371, 403, 435, 451, 472, 496, 515, 547, 586, 609, 638, 661, 696, 723, 739] (by decide +kernel)
  exact fun q hq => h _ (List.mem_map.mpr ⟨q, hq, rfl⟩)
theorem sTx2_in : ∀ q ∈ uTx, Cond.stringRef q.1 q.2.1 q.2.2 ∈ lw_tbl := by
  have h := pl_in (T := lw_tbl) (ws := uTx.map (fun q => Cond.stringRef q.1 q.2.1 q.2.2)) [487, 534, 679, 717, 729, 756, 769, 783, 797, 805, 817, 818, 859, 875, 876, 884, 910, 955, 968, 987, 1021, 1033, 1041, 1063, 1075, 1083] (by decide +kernel)
  exact fun q hq => h _ (List.mem_map.mpr ⟨q, hq, rfl⟩)
theorem sWd_in : ∀ q ∈ uWd, Cond.stringRef q.1 q.2.1 q.2.2 ∈ lw_tbl := by
  have h := pl_in (T := lw_tbl) (ws := uWd.map (fun q => Cond.stringRef q.1 q.2.1 q.2.2)) [574, 669, 651, 652, 653, 662, 663, 664, 1194, 1242, 1229, 1230, 1231, 1241, 1240, 1239] (by decide +kernel)
  exact fun q hq => h _ (List.mem_map.mpr ⟨q, hq, rfl⟩)
theorem sNc_in : ∀ q ∈ uNc, Cond.not (.castable q.1 q.2) ∈ sFl := by
  have h := pl_in (T := sFl) (ws := uNc.map (fun q => Cond.not (.castable q.1 q.2))) [32, 44, 56, 20, 45, 57, 21, 33, 58, 22, 34, 46] (by decide +kernel)
  exact fun q hq => h _ (List.mem_map.mpr ⟨q, hq, rfl⟩)
theorem sDc_in : ∀ q ∈ uDecl, Cond.declares q ∈ lw_tbl := by
  have h := pl_in (T := lw_tbl) (ws := uDecl.map (fun q => Cond.declares q)) [448, 449, 450, 451, 452, 453] (by decide +kernel)
  exact fun q hq => h _ (List.mem_map.mpr ⟨q, hq, rfl⟩)
theorem sCs_in : ∀ q ∈ uCast, Cond.castable q.1 q.2 ∈ lw_tbl := by
  have h := pl_in (T := lw_tbl) (ws := uCast.map (fun q => Cond.castable q.1 q.2)) [447, 527, 672, 776] (by decide +kernel)
  exact fun q hq => h _ (List.mem_map.mpr ⟨q, hq, rfl⟩)
theorem sNe_in : ∀ q ∈ uNest, Cond.methodLinkNest q.1 q.2.1 q.2.2.1 q.2.2.2 ∈ lw_tbl := by
  have h := pl_in (T := lw_tbl) (ws := uNest.map (fun q => Cond.methodLinkNest q.1 q.2.1 q.2.2.1 q.2.2.2)) [117, 149, 155, 192, 219, 256, 325, 341, 343] (by decide +kernel)
  exact fun q hq => h _ (List.mem_map.mpr ⟨q, hq, rfl⟩)
theorem sSt_in : ∀ w ∈ ([.laysStatic Bundle.tN "UNASSIGNED_STACK" Bundle.steD, .laysStatic Bundle.tN "SUPPRESSED_SENTINEL" Bundle.listD, .laysStatic "java/lang/String" "COMPACT_STRINGS" "Z", .laysStatic "jdk/internal/util/Preconditions" "SIOOBE_FORMATTER" "Ljava/util/function/BiFunction;", .initialized Bundle.tN, .initialized "java/lang/String", .initialized "jdk/internal/util/Preconditions", .arrayOver (.object "FlushPlanner$State")] : List Cond), w ∈ lw_tbl := pl_in [472, 474, 592, 608, 92, 97, 99, 322] (by decide +kernel)
theorem sSf_in : ∀ w ∈ ([.isRef (.static Bundle.tN "UNASSIGNED_STACK" Bundle.steD), .isRef (.static Bundle.tN "SUPPRESSED_SENTINEL" Bundle.listD), .eq (.static "java/lang/String" "COMPACT_STRINGS" "Z") (.int 1), .isRef (.static "jdk/internal/util/Preconditions" "SIOOBE_FORMATTER" "Ljava/util/function/BiFunction;")] : List Cond), w ∈ sFl := pl_in [4, 5, 6, 7] (by decide +kernel)
theorem str_one {args : Array Value} {s : State} {A : Nat → Prop} (hs : ∀ w ∈ sFl, w.before args s = true) (hA : ∀ a : Nat, a < s.heap.size → ¬ A a) (i : Nat) (hi : i < 16) : ∃ q : Nat × Nat, (sT i).eval args s none [] s = some (.ref q.1) ∧ va_O "java/lang/String" q.1 A s s.heap ∧ va_OF "java/lang/String" "coder" "B" (.int 0) q.1 A s s.heap ∧ va_OF "java/lang/String" "value" "[B" (.ref q.2) q.1 A s s.heap ∧ va_T .byte q.2 (uLen i) (fun j => .int (uCh i j)) A s s.heap := by
  have hw : ∀ w ∈ sWs i, w.before args s = true := fun w h => hs w (sWs_in i hi w h)
  have hL : uLen i < 2 ^ 31 := by
    have h : (List.range 16).all (fun i => decide (uLen i < 2 ^ 31)) = true := by decide +kernel
    exact of_decide_eq_true (List.all_eq_true.mp h i (List.mem_range.mpr hi))
  obtain ⟨adK, adV, ⟨h1, -⟩, h2⟩ := vk_Sof (N := 1) (tm := fun _ => sT i) (len := [uLen i]) (byt := [uByt.getD i []]) (A := A) (args := args) (s := s) (fun j hj => by rw [show j = 0 by omega]; exact hL) (fun j hj => hw _ (by simp [sWs])) (fun j hj => hw _ (by simp [sWs])) (fun j hj => hw _ (by simp [sWs, sTv])) (fun j hj => by rw [show j = 0 by omega]; exact hw _ (by simp [sWs, sTv]))
    (fun j hj k hk => by
      rw [show j = 0 by omega] at hk ⊢
      refine hw _ (List.mem_append_right _ (List.mem_map.mpr ⟨k, List.mem_range.mpr hk, rfl⟩))) (fun j k h1 h2 h3 => absurd (by omega) h3) hA
  exact ⟨(adK 0, adV 0), h2 0 (by decide), h1 0 (by decide)⟩
theorem ug_start {args : Array Value} {s : State} (ht : ∀ w ∈ lw_tbl, w.before args s = true) (hs : ∀ w ∈ sFl, w.before args s = true) : ∃ sK sV : Nat → Nat, uG sK sV (cR s.heap.size) s := by
  have hA : ∀ a : Nat, a < s.heap.size → ¬ (cR s.heap.size) a := fun a h => Nat.not_le.mpr h
  have h0 : ∀ i : Nat, ∃ q : Nat × Nat, i < 16 → (sT i).eval args s none [] s = some (.ref q.1) ∧ va_O "java/lang/String" q.1 (cR s.heap.size) s s.heap ∧ va_OF "java/lang/String" "coder" "B" (.int 0) q.1 (cR s.heap.size) s s.heap ∧ va_OF "java/lang/String" "value" "[B" (.ref q.2) q.1 (cR s.heap.size) s s.heap ∧ va_T .byte q.2 (uLen i) (fun j => .int (uCh i j)) (cR s.heap.size) s s.heap := by
    intro i
    by_cases hi : i < 16
    · obtain ⟨q, hq⟩ := str_one hs hA i hi
      exact ⟨q, fun _ => hq⟩
    · exact ⟨(0, 0), fun h => absurd h hi⟩
  obtain ⟨ad, had⟩ := Classical.axiomOfChoice h0
  refine ⟨fun i => (ad i).1, fun i => (ad i).2, ⟨vx_Zqof (ht _ (sSt_in _ (by simp))) (ht _ (sSt_in _ (by simp))) (hs _ (sSf_in _ (by simp))) hA, vx_Zqof (ht _ (sSt_in _ (by simp))) (ht _ (sSt_in _ (by simp))) (hs _ (sSf_in _ (by simp))) hA⟩, fun x hx => va_Nw.of rfl (ht _ (sDc_in x hx)), fun q hq => va_Nw.of rfl (ht _ (sCs_in q hq)), fun q hq => va_Nc.of (hs _ (sNc_in q hq)), fun q hq => ?_, fun i q hq => ?_, fun i hi => (had i hi).2, va_Zof (ht _ (sSt_in _ (by simp))) (ht _ (sSt_in _ (by simp))) (va_eqt (hs _ (sSf_in _ (by simp)))) hA, va_Zqof (ht _ (sSt_in _ (by simp))) (ht _ (sSt_in _ (by simp))) (hs _ (sSf_in _ (by simp))) hA⟩
  · have h1 := sTx1_in q hq
    have h2 := sTx2_in q hq
    obtain ⟨a, c, cA, kA, q1, -⟩ := Cond.exactly_spec (args := args) (first := s) (o := none) (s := s) (idx := []) (hs _ h1)
    exact ⟨a, vk_R.of (ht _ h2) q1⟩
  · have hi : i < 16 := (List.getElem?_eq_some_iff.mp hq).1
    refine vk_R.of (ht _ (sWd_in q (List.mem_of_getElem? hq))) ?_
    have := (had i hi).1
    unfold sT at this
    rw [List.getD_eq_getElem?_getD, hq] at this
    exact this
theorem ce_start {args : Array Value} {s : State} (ht : ∀ w ∈ lw_tbl, w.before args s = true) : cE s := ⟨fun q hq => va_Nw.of rfl (ht _ (sNe_in q hq)), va_AO.of (ht _ (sSt_in _ (by simp)))⟩
theorem va_RA_of {args : Array Value} {s : State} {ty : FieldType} (h : (Cond.arrayClass ty).before args s = true) (ho : ∀ C, ty ≠ .object C) : ∃ cA, ArrOfT s cA ty ∧ va_RA s cA ty := by
  obtain ⟨c, k, comp, h1, h2, h3⟩ := Cond.arrayClass_spec h
  refine ⟨c, fun n z => ⟨fun k h => (by cases h), k, h2, comp, h3⟩, ?_⟩
  cases ty with
  | object C => exact absurd rfl (ho C)
  | _ => exact h1
theorem va_RO_of {args : Array Value} {s : State} {C : String} (h : (Cond.arrayOver (.object C)).before args s = true) : ∃ cA, ArrOfT s cA (.object C) ∧ va_RA s cA (.object C) := by
  obtain ⟨comp, c, k, h1, -, h3, h4, h5⟩ := Cond.arrayOver_spec h
  exact ⟨c, fun n z => ⟨fun k h => (by cases h), k, h3, comp, h4⟩, k, comp, h3, h4, h1, h5⟩
theorem k_start {args : Array Value} {s : State} (ht : ∀ w ∈ lw_tbl, w.before args s = true) : ∃ (D : va_G) (cB cI cJ cZ cD cO : ClassId), va_K D vwCl (cT cB cI cJ cZ cD cO) s := by
  have hg : ∀ w ∈ gw, w.before args s = true := fun w hw => ht w (gw_tbl hw)
  obtain ⟨c0, i0, h0⟩ := u_known (C := RX0) (T := TX0) (N := 6) (n := 6) hg lay0 (hg (.instantiable RX0 6) (gw_at 154 (by decide +kernel) (by decide +kernel)))
  obtain ⟨c1, i1, h1⟩ := u_known (C := RX1) (T := TX1) (N := 5) (n := 5) hg lay1 (hg (.instantiable RX1 5) (gw_at 255 (by decide +kernel) (by decide +kernel)))
  obtain ⟨c2, i2, h2⟩ := u_known (C := RX2) (T := TX2) (N := 5) (n := 5) hg lay2 (hg (.instantiable RX2 5) (gw_at 218 (by decide +kernel) (by decide +kernel)))
  obtain ⟨c3, i3, h3⟩ := u_known (C := RX3) (T := TX3) (N := 4) (n := 4) hg lay3 (hg (.instantiable RX3 4) (gw_at 191 (by decide +kernel) (by decide +kernel)))
  obtain ⟨c4, i4, h4⟩ := u_known (C := RX4) (T := TX4) (N := 3) (n := 3) hg lay4 (hg (.instantiable RX4 3) (gw_at 324 (by decide +kernel) (by decide +kernel)))
  obtain ⟨c5, i5, h5⟩ := u_known (C := RX5) (T := TX5) (N := 7) (n := 7) hg lay5 (hg (.instantiable RX5 7) (gw_at 116 (by decide +kernel) (by decide +kernel)))
  obtain ⟨c6, i6, h6⟩ := u_known (C := RX6) (T := TX6) (N := 7) (n := 7) hg lay6 (hg (.instantiable RX6 7) (gw_at 148 (by decide +kernel) (by decide +kernel)))
  obtain ⟨c7, i7, h7⟩ := u_known (C := RX7) (T := TX7) (N := 10) (n := 10) hg lay7 (hg (.instantiable RX7 10) (gw_at 108 (by decide +kernel) (by decide +kernel)))
  obtain ⟨c8, i8, h8⟩ := u_known (C := RX8) (T := TX8) (N := 18) (n := 18) hg lay8 (hg (.instantiable RX8 18) (gw_at 1085 (by decide +kernel) (by decide +kernel)))
  obtain ⟨cB, acB⟩ := va_RA_of (hg _ ac_byte) (fun C h => by cases h)
  obtain ⟨cI, acI⟩ := va_RA_of (hg _ ac_int) (fun C h => by cases h)
  obtain ⟨cJ, acJ⟩ := va_RA_of (hg _ ac_long) (fun C h => by cases h)
  obtain ⟨cZ, acZ⟩ := va_RA_of (hg _ ac_boolean) (fun C h => by cases h)
  obtain ⟨cD, acD⟩ := va_RA_of (hg _ ac_double) (fun C h => by cases h)
  obtain ⟨cO, acO⟩ := va_RO_of (ht _ (sSt_in (.arrayOver (.object "FlushPlanner$State")) (by simp)))
  refine ⟨(fun k => match k with | 0 => c0 | 1 => c1 | 2 => c2 | 3 => c3 | 4 => c4 | 5 => c5 | 6 => c6 | 7 => c7 | _ => c8, fun k => match k with | 0 => i0 | 1 => i1 | 2 => i2 | 3 => i3 | 4 => i4 | 5 => i5 | 6 => i6 | 7 => i7 | _ => i8), cB, cI, cJ, cZ, cD, cO, fun k q hq => ?_, fun k q hq => ?_⟩
  · match k, hq with
    | 0, hq => cases hq; exact h0
    | 1, hq => cases hq; exact h1
    | 2, hq => cases hq; exact h2
    | 3, hq => cases hq; exact h3
    | 4, hq => cases hq; exact h4
    | 5, hq => cases hq; exact h5
    | 6, hq => cases hq; exact h6
    | 7, hq => cases hq; exact h7
    | 8, hq => cases hq; exact h8
    | k + 9, hq => simp [vwCl] at hq
  · match k, hq with
    | 0, hq => cases hq; exact acB
    | 1, hq => cases hq; exact acI
    | 2, hq => cases hq; exact acJ
    | 3, hq => cases hq; exact acZ
    | 4, hq => cases hq; exact acD
    | 5, hq => cases hq; exact acO
    | k + 6, hq => simp [cT] at hq
