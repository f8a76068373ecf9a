/-! ===== the end ===== -/
theorem i_vc : Claimed_1_1 ∧ Claimed_1_2 := gl_vc (law_runs LL LL_st (fun _ _ _ ha hb => p_count ha hb) (fun _ _ _ _ ha hb hc => p_loop ha hb hc) (fun _ _ _ _ _ ha hb hc hd => p_corner ha hb hc hd) (fun _ _ _ _ ha hb hc => p_inner ha hb hc) (fun _ _ ha => p_check ha))
