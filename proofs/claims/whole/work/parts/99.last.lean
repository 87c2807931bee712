theorem i_vc : Claimed_1_1 ∧ Claimed_1_2 := whole_of inv0 inv_step
