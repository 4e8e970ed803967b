/-! THE TWO LAYOUTS. The class: 0 the planner, 1 its text, 2 the text's bytes, 3 the saved states' array, 4 isSaved, 5 the search, 6 to 8 its rows, 9 the trial battery, 10 to 14 the trial cache, then four states of 14 numbers (15 now, 29 draft, 43 and 57 the saved ones): +0 State, +1 battery, +2 rules, +3 devices, +4 to +7 their arrays, +8 cache, +9 to +12 its arrays, +13 totals; 71 and 72 the law's own arrays. The reference: 0 itself, 1 to 9 its arrays. -/
def kState (b : Nat) : Prop := b = 15 ∨ b = 29 ∨ b = 43 ∨ b = 57
def kBat (b : Nat) : Prop := b = 9 ∨ b = 16 ∨ b = 30 ∨ b = 44 ∨ b = 58
def kRules (b : Nat) : Prop := b = 17 ∨ b = 31 ∨ b = 45 ∨ b = 59
def kDev (b : Nat) : Prop := b = 18 ∨ b = 32 ∨ b = 46 ∨ b = 60
def kCache (b : Nat) : Prop := b = 10 ∨ b = 23 ∨ b = 37 ∨ b = 51 ∨ b = 65
def kRow (b : Nat) : Prop := b = 6 ∨ b = 7 ∨ b = 8
theorem kS_15 : kState 15 := Or.inl rfl
theorem kS_29 : kState 29 := Or.inr (Or.inl rfl)
theorem kS_sv (j : Nat) (h : j < 2) : kState (43 + 14 * j) := by
  rcases (show j = 0 ∨ j = 1 by omega) with rfl | rfl
  · exact Or.inr (Or.inr (Or.inl rfl))
  · exact Or.inr (Or.inr (Or.inr rfl))
theorem kB_9 : kBat 9 := Or.inl rfl
theorem kC_10 : kCache 10 := Or.inl rfl
theorem kR_6 : kRow 6 := Or.inl rfl
theorem kR_7 : kRow 7 := Or.inr (Or.inl rfl)
theorem kR_8 : kRow 8 := Or.inr (Or.inr rfl)
theorem kS_bat {b : Nat} (h : kState b) : kBat (b + 1) := by rcases h with rfl | rfl | rfl | rfl <;> simp [kBat]
theorem kS_rules {b : Nat} (h : kState b) : kRules (b + 2) := by rcases h with rfl | rfl | rfl | rfl <;> simp [kRules]
theorem kS_dev {b : Nat} (h : kState b) : kDev (b + 3) := by rcases h with rfl | rfl | rfl | rfl <;> simp [kDev]
theorem kS_cache {b : Nat} (h : kState b) : kCache (b + 8) := by rcases h with rfl | rfl | rfl | rfl <;> simp [kCache]
def shC (ad : Nat → Nat) (cB cI cJ cZ cD cO : ClassId) : uSh := fun i f g d =>
  if i = 0 then .inr (7, [.ref (ad 1), .int (f 1), .int (f 2), .ref (ad 15), .ref (ad 29), .ref (ad 3), .ref (ad 4), .ref (ad 5), .ref (ad 9), .ref (ad 10)])
  else if i = 1 then .inr (5, [.ref (ad 2), .int (f 1), .int (f 2), .int (f 3), .int (f 4), .int (f 5), .int (f 6)])
  else if i = 2 then .inl (cB, 400, .inl f)
  else if i = 3 then .inl (cO, 2, .inr (.inr (.inr (.inr (fun j => some (ad (43 + 14 * j)))))))
  else if i = 4 then .inl (cZ, 2, .inl f)
  else if i = 5 then .inr (4, [.ref (ad 6), .ref (ad 7), .ref (ad 8)])
  else if i = 6 ∨ i = 7 ∨ i = 8 then .inl (cJ, 501, .inr (.inl g))
  else if i = 71 then .inl (cJ, 1, .inr (.inl g))
  else if i = 72 then .inl (cD, 1, .inr (.inr (.inr (.inl d))))
  else if i = 9 ∨ i = 16 ∨ i = 30 ∨ i = 44 ∨ i = 58 then .inr (0, [.int (f 0), .int (f 1), .int (f 2), .int (f 3), .int (f 4), .int (f 5)])
  else if i = 10 ∨ i = 23 ∨ i = 37 ∨ i = 51 ∨ i = 65 then .inr (1, [.int (f 0), .ref (ad (i + 1)), .ref (ad (i + 2)), .ref (ad (i + 3)), .ref (ad (i + 4))])
  else if i = 15 ∨ i = 29 ∨ i = 43 ∨ i = 57 then .inr (6, [.ref (ad (i + 1)), .ref (ad (i + 2)), .ref (ad (i + 3)), .ref (ad (i + 8)), .ref (ad (i + 13)), .int (f 5), .int (f 6)])
  else if i = 17 ∨ i = 31 ∨ i = 45 ∨ i = 59 then .inr (3, [.int (f 0), .int (f 1), .int (f 2), .int (f 3)])
  else if i = 18 ∨ i = 32 ∨ i = 46 ∨ i = 60 then .inr (2, [.int (f 0), .ref (ad (i + 1)), .ref (ad (i + 2)), .ref (ad (i + 3)), .ref (ad (i + 4))])
  else if i = 22 ∨ i = 36 ∨ i = 50 ∨ i = 64 then .inl (cZ, 5, .inl f)
  else if i = 28 ∨ i = 42 ∨ i = 56 ∨ i = 70 then .inl (cI, 7, .inl f)
  else if (18 < i ∧ i < 22) ∨ (32 < i ∧ i < 36) ∨ (46 < i ∧ i < 50) ∨ (60 < i ∧ i < 64) then .inl (cI, 5, .inl f)
  else .inl (cI, 24, .inl f)
def isC (V : uV) : Prop := ∃ cB cI cJ cZ cD cO : ClassId, vS V = shC (vA V) cB cI cJ cZ cD cO ∧ vN V = 73 ∧ vT V = [(cB, .byte), (cI, .int), (cJ, .long), (cZ, .boolean), (cD, .double), (cO, .object "FlushPlanner$State")]
/-- what every contract of the class needs -/
def uWC (l : Launch) (V : uV) : Prop := l.stackTraces = false ∧ uVok V ∧ isC V
section LAYC
variable {l : Launch} {V : uV} {b : Nat}
theorem oF (W0 : uWC l V) : uOb V 0 7 (fun f => [.ref (vA V 1), .int (f 1), .int (f 2), .ref (vA V 15), .ref (vA V 29), .ref (vA V 3), .ref (vA V 4), .ref (vA V 5), .ref (vA V 9), .ref (vA V 10)]) := by
  obtain ⟨-, -, cB, cI, cJ, cZ, cD, cO, h1, h2, h3⟩ := W0
  exact ⟨by rw [h2]; decide, fun f g d => by rw [h1]; rfl⟩
theorem oST (W0 : uWC l V) : uOb V 1 5 (fun f => [.ref (vA V 2), .int (f 1), .int (f 2), .int (f 3), .int (f 4), .int (f 5), .int (f 6)]) := by
  obtain ⟨-, -, cB, cI, cJ, cZ, cD, cO, h1, h2, h3⟩ := W0
  exact ⟨by rw [h2]; decide, fun f g d => by rw [h1]; rfl⟩
theorem oSearch (W0 : uWC l V) : uOb V 5 4 (fun _ => [.ref (vA V 6), .ref (vA V 7), .ref (vA V 8)]) := by
  obtain ⟨-, -, cB, cI, cJ, cZ, cD, cO, h1, h2, h3⟩ := W0
  exact ⟨by rw [h2]; decide, fun f g d => by rw [h1]; rfl⟩
theorem oState (W0 : uWC l V) (h : kState b) : uOb V b 6 (fun f => [.ref (vA V (b + 1)), .ref (vA V (b + 2)), .ref (vA V (b + 3)), .ref (vA V (b + 8)), .ref (vA V (b + 13)), .int (f 5), .int (f 6)]) := by
  obtain ⟨-, -, cB, cI, cJ, cZ, cD, cO, h1, h2, h3⟩ := W0
  rcases h with rfl | rfl | rfl | rfl <;> exact ⟨by rw [h2]; decide, fun f g d => by rw [h1]; rfl⟩
theorem oBat (W0 : uWC l V) (h : kBat b) : uOb V b 0 (fun f => [.int (f 0), .int (f 1), .int (f 2), .int (f 3), .int (f 4), .int (f 5)]) := by
  obtain ⟨-, -, cB, cI, cJ, cZ, cD, cO, h1, h2, h3⟩ := W0
  rcases h with rfl | rfl | rfl | rfl | rfl <;> exact ⟨by rw [h2]; decide, fun f g d => by rw [h1]; rfl⟩
theorem oRules (W0 : uWC l V) (h : kRules b) : uOb V b 3 (fun f => [.int (f 0), .int (f 1), .int (f 2), .int (f 3)]) := by
  obtain ⟨-, -, cB, cI, cJ, cZ, cD, cO, h1, h2, h3⟩ := W0
  rcases h with rfl | rfl | rfl | rfl <;> exact ⟨by rw [h2]; decide, fun f g d => by rw [h1]; rfl⟩
theorem oDev (W0 : uWC l V) (h : kDev b) : uOb V b 2 (fun f => [.int (f 0), .ref (vA V (b + 1)), .ref (vA V (b + 2)), .ref (vA V (b + 3)), .ref (vA V (b + 4))]) := by
  obtain ⟨-, -, cB, cI, cJ, cZ, cD, cO, h1, h2, h3⟩ := W0
  rcases h with rfl | rfl | rfl | rfl <;> exact ⟨by rw [h2]; decide, fun f g d => by rw [h1]; rfl⟩
theorem oCache (W0 : uWC l V) (h : kCache b) : uOb V b 1 (fun f => [.int (f 0), .ref (vA V (b + 1)), .ref (vA V (b + 2)), .ref (vA V (b + 3)), .ref (vA V (b + 4))]) := by
  obtain ⟨-, -, cB, cI, cJ, cZ, cD, cO, h1, h2, h3⟩ := W0
  rcases h with rfl | rfl | rfl | rfl | rfl <;> exact ⟨by rw [h2]; decide, fun f g d => by rw [h1]; rfl⟩
theorem aBytes (W0 : uWC l V) : uAr V 2 .byte 400 := by
  obtain ⟨-, -, cB, cI, cJ, cZ, cD, cO, h1, h2, h3⟩ := W0
  exact ⟨cB, 0, ⟨by rw [h2]; decide, fun f g d => by rw [h1]; rfl⟩, by rw [h3]; rfl⟩
theorem aIsSaved (W0 : uWC l V) : uAr V 4 .boolean 2 := by
  obtain ⟨-, -, cB, cI, cJ, cZ, cD, cO, h1, h2, h3⟩ := W0
  exact ⟨cZ, 3, ⟨by rw [h2]; decide, fun f g d => by rw [h1]; rfl⟩, by rw [h3]; rfl⟩
theorem aRow (W0 : uWC l V) (h : kRow b) : uArL V b 501 := by
  obtain ⟨-, -, cB, cI, cJ, cZ, cD, cO, h1, h2, h3⟩ := W0
  rcases h with rfl | rfl | rfl <;> exact ⟨cJ, 2, ⟨by rw [h2]; decide, fun f g d => by rw [h1]; rfl⟩, by rw [h3]; rfl⟩
theorem aOut (W0 : uWC l V) : uArL V 71 1 := by
  obtain ⟨-, -, cB, cI, cJ, cZ, cD, cO, h1, h2, h3⟩ := W0
  exact ⟨cJ, 2, ⟨by rw [h2]; decide, fun f g d => by rw [h1]; rfl⟩, by rw [h3]; rfl⟩
theorem aOutD (W0 : uWC l V) : uArD V 72 1 := by
  obtain ⟨-, -, cB, cI, cJ, cZ, cD, cO, h1, h2, h3⟩ := W0
  exact ⟨cD, 4, ⟨by rw [h2]; decide, fun f g d => by rw [h1]; rfl⟩, by rw [h3]; rfl⟩
theorem aTot (W0 : uWC l V) (h : kState b) : uAr V (b + 13) .int 7 := by
  obtain ⟨-, -, cB, cI, cJ, cZ, cD, cO, h1, h2, h3⟩ := W0
  rcases h with rfl | rfl | rfl | rfl <;> exact ⟨cI, 1, ⟨by rw [h2]; decide, fun f g d => by rw [h1]; rfl⟩, by rw [h3]; rfl⟩
theorem aCache1 (W0 : uWC l V) (h : kCache b) : uAr V (b + 1) .int 24 := by
  obtain ⟨-, -, cB, cI, cJ, cZ, cD, cO, h1, h2, h3⟩ := W0
  rcases h with rfl | rfl | rfl | rfl | rfl <;> exact ⟨cI, 1, ⟨by rw [h2]; decide, fun f g d => by rw [h1]; rfl⟩, by rw [h3]; rfl⟩
theorem aCache2 (W0 : uWC l V) (h : kCache b) : uAr V (b + 2) .int 24 := by
  obtain ⟨-, -, cB, cI, cJ, cZ, cD, cO, h1, h2, h3⟩ := W0
  rcases h with rfl | rfl | rfl | rfl | rfl <;> exact ⟨cI, 1, ⟨by rw [h2]; decide, fun f g d => by rw [h1]; rfl⟩, by rw [h3]; rfl⟩
theorem aCache3 (W0 : uWC l V) (h : kCache b) : uAr V (b + 3) .int 24 := by
  obtain ⟨-, -, cB, cI, cJ, cZ, cD, cO, h1, h2, h3⟩ := W0
  rcases h with rfl | rfl | rfl | rfl | rfl <;> exact ⟨cI, 1, ⟨by rw [h2]; decide, fun f g d => by rw [h1]; rfl⟩, by rw [h3]; rfl⟩
theorem aCache4 (W0 : uWC l V) (h : kCache b) : uAr V (b + 4) .int 24 := by
  obtain ⟨-, -, cB, cI, cJ, cZ, cD, cO, h1, h2, h3⟩ := W0
  rcases h with rfl | rfl | rfl | rfl | rfl <;> exact ⟨cI, 1, ⟨by rw [h2]; decide, fun f g d => by rw [h1]; rfl⟩, by rw [h3]; rfl⟩
theorem aDev1 (W0 : uWC l V) (h : kDev b) : uAr V (b + 1) .int 5 := by
  obtain ⟨-, -, cB, cI, cJ, cZ, cD, cO, h1, h2, h3⟩ := W0
  rcases h with rfl | rfl | rfl | rfl <;> exact ⟨cI, 1, ⟨by rw [h2]; decide, fun f g d => by rw [h1]; rfl⟩, by rw [h3]; rfl⟩
theorem aDev2 (W0 : uWC l V) (h : kDev b) : uAr V (b + 2) .int 5 := by
  obtain ⟨-, -, cB, cI, cJ, cZ, cD, cO, h1, h2, h3⟩ := W0
  rcases h with rfl | rfl | rfl | rfl <;> exact ⟨cI, 1, ⟨by rw [h2]; decide, fun f g d => by rw [h1]; rfl⟩, by rw [h3]; rfl⟩
theorem aDev3 (W0 : uWC l V) (h : kDev b) : uAr V (b + 3) .int 5 := by
  obtain ⟨-, -, cB, cI, cJ, cZ, cD, cO, h1, h2, h3⟩ := W0
  rcases h with rfl | rfl | rfl | rfl <;> exact ⟨cI, 1, ⟨by rw [h2]; decide, fun f g d => by rw [h1]; rfl⟩, by rw [h3]; rfl⟩
theorem aDev4 (W0 : uWC l V) (h : kDev b) : uAr V (b + 4) .boolean 5 := by
  obtain ⟨-, -, cB, cI, cJ, cZ, cD, cO, h1, h2, h3⟩ := W0
  rcases h with rfl | rfl | rfl | rfl <;> exact ⟨cZ, 3, ⟨by rw [h2]; decide, fun f g d => by rw [h1]; rfl⟩, by rw [h3]; rfl⟩
/-- the saved states' array: its places are the two states -/
def uArR (V : uV) (id n : Nat) (Cn : String) (w : Nat → Nat) : Prop := ∃ (cA : ClassId) (t0 : Nat), (id < vN V ∧ ∀ f g d, vS V id f g d = .inl (cA, n, .inr (.inr (.inr (.inr (fun j => some (vA V (w j)))))))) ∧ (vT V)[t0]? = some (cA, .object Cn)
theorem aSaved (W0 : uWC l V) : uArR V 3 2 "FlushPlanner$State" (fun j => 43 + 14 * j) := by
  obtain ⟨-, -, cB, cI, cJ, cZ, cD, cO, h1, h2, h3⟩ := W0
  exact ⟨cO, 5, ⟨by rw [h2]; decide, fun f g d => by rw [h1]; rfl⟩, by rw [h3]; rfl⟩
end LAYC
def shM (ad : Nat → Nat) (cI cJ cZ : ClassId) : uSh := fun i f g _ =>
  if i = 0 then .inr (8, [.int (f 0), .ref (ad 1), .ref (ad 2), .ref (ad 3), .ref (ad 4), .ref (ad 5), .ref (ad 6), .int (f 7), .int (f 8), .int (f 9), .int (f 10), .int (f 11), .int (f 12), .int (f 13), .int (f 14), .ref (ad 7), .ref (ad 8), .ref (ad 9)])
  else if i = 1 then .inl (cI, 109, .inl f)
  else if i = 2 then .inl (cI, 109, .inl f)
  else if i = 3 then .inl (cI, 218, .inl f)
  else if i = 4 then .inl (cI, 109, .inl f)
  else if i = 5 then .inl (cZ, 2, .inl f)
  else if i = 6 then .inl (cI, 400, .inl f)
  else if i = 7 then .inl (cJ, 1503, .inr (.inl g))
  else if i = 8 then .inl (cJ, 1503, .inr (.inl g))
  else .inl (cJ, 501, .inr (.inl g))
def isM (V : uV) : Prop := ∃ cI cJ cZ : ClassId, vS V = shM (vA V) cI cJ cZ ∧ vN V = 10 ∧ vT V = [(cI, .int), (cJ, .long), (cZ, .boolean)]
def uWM (l : Launch) (V : uV) : Prop := l.stackTraces = false ∧ uVok V ∧ isM V
section LAYM
variable {l : Launch} {V : uV}
theorem oM (W0 : uWM l V) : uOb V 0 8 (fun f => [.int (f 0), .ref (vA V 1), .ref (vA V 2), .ref (vA V 3), .ref (vA V 4), .ref (vA V 5), .ref (vA V 6), .int (f 7), .int (f 8), .int (f 9), .int (f 10), .int (f 11), .int (f 12), .int (f 13), .int (f 14), .ref (vA V 7), .ref (vA V 8), .ref (vA V 9)]) := by
  obtain ⟨-, -, cI, cJ, cZ, h1, h2, h3⟩ := W0
  exact ⟨by rw [h2]; decide, fun f g d => by rw [h1]; rfl⟩
theorem aM_a (W0 : uWM l V) : uAr V 1 .int 109 := by
  obtain ⟨-, -, cI, cJ, cZ, h1, h2, h3⟩ := W0
  exact ⟨cI, 0, ⟨by rw [h2]; decide, fun f g d => by rw [h1]; rfl⟩, by rw [h3]; rfl⟩
theorem aM_told (W0 : uWM l V) : uAr V 2 .int 109 := by
  obtain ⟨-, -, cI, cJ, cZ, h1, h2, h3⟩ := W0
  exact ⟨cI, 0, ⟨by rw [h2]; decide, fun f g d => by rw [h1]; rfl⟩, by rw [h3]; rfl⟩
theorem aM_saved (W0 : uWM l V) : uAr V 3 .int 218 := by
  obtain ⟨-, -, cI, cJ, cZ, h1, h2, h3⟩ := W0
  exact ⟨cI, 0, ⟨by rw [h2]; decide, fun f g d => by rw [h1]; rfl⟩, by rw [h3]; rfl⟩
theorem aM_beside (W0 : uWM l V) : uAr V 4 .int 109 := by
  obtain ⟨-, -, cI, cJ, cZ, h1, h2, h3⟩ := W0
  exact ⟨cI, 0, ⟨by rw [h2]; decide, fun f g d => by rw [h1]; rfl⟩, by rw [h3]; rfl⟩
theorem aM_isSaved (W0 : uWM l V) : uAr V 5 .boolean 2 := by
  obtain ⟨-, -, cI, cJ, cZ, h1, h2, h3⟩ := W0
  exact ⟨cZ, 2, ⟨by rw [h2]; decide, fun f g d => by rw [h1]; rfl⟩, by rw [h3]; rfl⟩
theorem aM_text (W0 : uWM l V) : uAr V 6 .int 400 := by
  obtain ⟨-, -, cI, cJ, cZ, h1, h2, h3⟩ := W0
  exact ⟨cI, 0, ⟨by rw [h2]; decide, fun f g d => by rw [h1]; rfl⟩, by rw [h3]; rfl⟩
theorem aM_now (W0 : uWM l V) : uArL V 7 1503 := by
  obtain ⟨-, -, cI, cJ, cZ, h1, h2, h3⟩ := W0
  exact ⟨cJ, 1, ⟨by rw [h2]; decide, fun f g d => by rw [h1]; rfl⟩, by rw [h3]; rfl⟩
theorem aM_then (W0 : uWM l V) : uArL V 8 1503 := by
  obtain ⟨-, -, cI, cJ, cZ, h1, h2, h3⟩ := W0
  exact ⟨cJ, 1, ⟨by rw [h2]; decide, fun f g d => by rw [h1]; rfl⟩, by rw [h3]; rfl⟩
theorem aM_best (W0 : uWM l V) : uArL V 9 501 := by
  obtain ⟨-, -, cI, cJ, cZ, h1, h2, h3⟩ := W0
  exact ⟨cJ, 1, ⟨by rw [h2]; decide, fun f g d => by rw [h1]; rfl⟩, by rw [h3]; rfl⟩
end LAYM
