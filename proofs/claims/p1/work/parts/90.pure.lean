/-! the pure claim: one call at most -/
theorem pure_law : PureLaw := fun _ _ _ _ _ _ _ _ _ hk hk3 hL hn => pure6 hk hk3 hL hn
