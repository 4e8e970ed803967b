/-! PURE PART 45: load -/
section Q45
variable {m : Nat} {C M : uSt}
theorem load_E {C5 M5 : uSt} (h : RR m C M) (hm : m < 512) (he : pE C5 M5) (e7 : fX5_readInto 29 C = some ((), C5)) (e8 : fX8_load M = some (0, sI M5 0 0 1)) (fC : ∀ i, i ≠ 1 → i < 30 ∨ 36 ≤ i → C5.1 i = C.1 i) (f30 : C5.1 30 5 = C.1 30 5) (fM : ∀ i, i ≠ 0 → i ≠ 2 → M5.1 i = M.1 i) (m7 : M5.1 0 7 = nI 0) : cKI fL_load fX8_load (RR (m + 1)) C M := by
  obtain ⟨c, p, c1, c2, k2, k13, k3, k14, -⟩ := he
  have F : ∀ i, i ≠ 0 → i ≠ 1 → (sI (sI (sI C5 1 1 0) 0 1 (nI c)) 0 2 (nI p)).1 i = C5.1 i := fun i a d => by rw [sI_n a, sI_n a, sI_n d]
  refine ⟨1, sI (sI (sI C5 1 1 0) 0 1 (nI c)) 0 2 (nI p), 0, sI M5 0 0 1, ?_, e8, by rw [sI_r, if_pos rfl], fun e => absurd e (by decide), pR_fr h.1 (Nat.le_succ m) hm (fun i a d => by rw [F i (by omega) (by omega), fC i (by omega) (by omega)]) (by rw [sI_n (by decide), fM 1 (by decide) (by decide)]), fun j hj => ?_, ⟨0, by omega, ?_, ?_, fun k hk => absurd hk (by omega)⟩, ?_, ?_, ?_⟩
  · have w1 : (sI C5 1 1 0).1 1 2 = nI c := by rw [sI_r, if_neg (by decide)]; exact k2
    have w2 : (sI (sI C5 1 1 0) 0 1 (nI c)).1 1 3 = nI p := by rw [sI_n (by decide), sI_r, if_neg (by decide)]; exact k3
    have w3 : (sI (sI (sI C5 1 1 0) 0 1 (nI c)) 0 2 (nI p)).1 0 1 = nI c := by rw [sI_r, if_neg (by decide), sI_r, if_pos rfl]
    rw [fL_load, fX7_load, e7, obV_st, ol_e, w1, ol_e, w2, ol_e, w3, if_neg (show ¬ nI c = (0 : Int32) from peqn (b := 0) (by omega) (by omega) (by decide))]
    simp only [olx, if_true]
  · obtain ⟨x1, x2⟩ := h.2.1 j hj
    rw [F 4 (by decide) (by decide), fC 4 (by decide) (by omega), sI_n (by decide), fM 5 (by decide) (by decide)]
    refine ⟨x1, ?_⟩
    rcases x2 with x2 | ⟨x2, x3⟩
    · exact Or.inl x2
    · exact Or.inr ⟨x2, pR_fr x3 (Nat.le_succ m) hm (fun i a d => by rw [F i (by omega) (by omega), fC i (by omega) (by omega)]) (by rw [sI_n (by decide), fM 3 (by decide) (by decide)])⟩
  · rw [sI_n (by decide), sI_n (by decide), sI_r, if_pos rfl]; rfl
  · rw [sI_r, if_neg (by decide)]; exact m7
  · rw [sI_r, if_neg (by decide), sI_r, if_pos rfl, sI_r, if_neg (by decide)]; exact k13.symm
  · rw [sI_r, if_pos rfl, sI_r, if_neg (by decide)]; exact k14.symm
  · unfold dR
    rw [F 29 (by decide) (by decide), F 37 (by decide) (by decide), F 42 (by decide) (by decide), F 36 (by decide) (by decide), F 30 (by decide) (by decide), fC 29 (by decide) (by omega), fC 37 (by decide) (by omega), fC 42 (by decide) (by omega), fC 36 (by decide) (by omega), f30]
    exact h.2.2.2.2.2
def keL : uSt → Option (Int32 × uSt) := (fun st_13 => ob (fX8_isWrong st_13) (fun x_14 => oj1 (fun (st_16 : uSt) => ob (fX8_isWrong st_16) (fun x_17 => oj1 (fun (v_19 : Int32) => obS (fX8_may v_19 (1 : Int32) st_16) (fun x_21 st_20 => (if x_21 = 0 then some ((0 : Int32), st_20) else obV (fX8_takes st_20) (fun st_22 => some (st_22.1 1 9, st_22))))) (fun j_18 => (if x_17 = 0 then (j_18 (1 : Int32)) else (j_18 (0 : Int32)))))) (fun j_15 => (if x_14 = 0 then (if (st_13.1 0 11) = 0 then (j_15 st_13) else obV (fX8_fails (1 : Int32) st_13) (fun st_23 => (j_15 st_23))) else (j_15 st_13)))))
theorem keL_E {M5 : uSt} {C5 : uSt} (h : pE C5 M5) (ht : M5.1 0 0 = 0) : keL M5 = some (0, sI M5 0 0 1) := by
  unfold keL
  rw [wrong_E h, ob_s, oj1_e, if_neg (by decide)]
  dsimp only
  rw [wrong_E h, ob_s, oj1_e, if_neg (by decide)]
  dsimp only
  rw [qmay0 ht (by decide), obS_s, if_pos rfl]
end Q45
