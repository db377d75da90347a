theorem i_vc : Claimed_1_1 ∧ Claimed_1_2 := lw_claim lw_all
