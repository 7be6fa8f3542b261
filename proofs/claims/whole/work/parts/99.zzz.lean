/-! the claim -/
theorem i_vc : Claimed_1_1 ∧ Claimed_1_2 := i_open (fun _ _ _ _ hk hb hI => st_law (by omega) hk hb hI)
