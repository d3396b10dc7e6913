set_option maxRecDepth 100000 in
set_option maxHeartbeats 4000000 in
theorem cal_L_makes : CalS yL_makes cL_makes 10 (some .boolean) 5 := ⟨mem_BIG 331 (by decide +kernel) (by decide +kernel), mem_BIG 20 (by decide +kernel) (by decide +kernel), mem_BIG 332 rfl rfl, by decide +kernel⟩
