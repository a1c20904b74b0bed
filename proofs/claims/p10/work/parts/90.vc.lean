theorem i_vc : Claimed_1_1 ∧ Claimed_1_2 := lw_both (F := fun S => fL_law S ([], 0, 0)) (fun Γ => t_fL_law ([], 0, 0)) (fun L xs hL => lk_law L xs hL)
