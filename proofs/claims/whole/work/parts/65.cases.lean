/-! THE END: the claim -/
theorem lwCases_RR (hload : ∀ m C M, RR m C M → m < 512 → cKI fL_load fX8_load (RR (m + 1)) C M) : lwCases RR := by
  intro n hn a c h
  refine ⟨RR_fr h hn (fun _ _ => rfl) rfl rfl rfl rfl rfl rfl rfl, fun x1 x2 x3 x4 x5 => ?_⟩
  exact ⟨c_append h hn x1 x2 x3 x4 x5, c_truncate h hn x1, hload n a c h hn, c_errorCode h hn, c_errorPosition h hn, c_report h hn x1, c_device h hn x1 x2, c_block h hn x1 x2, c_find h hn x1 x2, c_oldest h hn, c_total h hn x1, c_write h hn x1 x2 x3, c_wouldCache h hn x1 x2 x3, c_clean h hn x1, c_setFailed h hn x1 x2, c_setMode h hn x1 x2, c_setPower h hn x1, c_advance h hn x1, c_flush h hn, c_flushDevice h hn x1, c_need h hn, c_energyOf h hn x1, c_valueOf h hn x1, c_bestSet h hn x1, c_bestValue h hn x1, c_greedySet h hn x1, c_quality h hn x1, c_energyFor h hn x1, c_extra h hn x1, c_minutesLeft h hn, c_valueAfter h hn x1, c_minutesToSafety h hn, c_gainOfRepair h hn x1, c_costliest h hn, c_save h hn x1, c_restore h hn x1⟩
