set_option maxRecDepth 100000 in
set_option maxHeartbeats 4000000 in
theorem pe_mok172 : pe_mok 172 := by
  unfold pe_mok
  refine ⟨rfl, ?_⟩
  decide +kernel
