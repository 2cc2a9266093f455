/-! ===== THE CLAIM: the pure statement is proved in the parts 85, the machine keeps to it by the parts 86 ===== -/
theorem law_ok : lawPure := fun b0 L xs hL => law_all rfl rfl b0 L xs hL
theorem i_vc : Claimed_1_1 ∧ Claimed_1_2 := whole_open law_ok
