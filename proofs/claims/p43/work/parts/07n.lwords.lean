set_option maxRecDepth 100000 in
set_option maxHeartbeats 4000000 in
theorem cal_L_does : CalS yL_does cL_does 20 (some .boolean) 5 := ⟨mem_BIG 613 (by decide +kernel) (by decide +kernel), mem_BIG 20 (by decide +kernel) (by decide +kernel), mem_BIG 614 rfl rfl, by decide +kernel⟩
