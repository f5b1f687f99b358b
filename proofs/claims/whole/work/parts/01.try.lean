theorem tr_1 : True := trivial
theorem i_vc : Claimed_1_1 ∧ Claimed_1_2 := sorry
