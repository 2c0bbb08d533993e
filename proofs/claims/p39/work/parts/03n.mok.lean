set_option maxRecDepth 100000 in
set_option maxHeartbeats 4000000 in
theorem pe_mok171 : pe_mok 171 := by
  unfold pe_mok
  refine ⟨rfl, ?_⟩
  decide +kernel
