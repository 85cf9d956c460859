/-! the owed statement -/
theorem i_vc : Claimed_1_1 ∧ Claimed_1_2 := vc_all (s_network (Nat.le_refl _))
