theorem i_vc : Claimed_1_1 ∧ Claimed_1_2 := ax_claim (ax_True_of wh_all)
