theorem zz_2 : (1:Nat) + 1 = 2 := zz_1
theorem i_vc : Claimed_1_1 ∧ Claimed_1_2 := sorry
