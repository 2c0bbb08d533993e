/-! WHAT THROWING RESTS ON, AT THE START -/
theorem px_flat : Cond.not (.castable px_ISE px_IAE) ∈ flatC (Jvm.Cond.and given_1 narrow_1) ∧ Cond.exactly (.string RX3 20) "java/lang/String" ∈ flatC (Jvm.Cond.and given_1 narrow_1) ∧ Cond.exactly (.string RX8 297) "java/lang/String" ∈ flatC (Jvm.Cond.and given_1 narrow_1) ∧ Cond.exactly (.string RX8 304) "java/lang/String" ∈ flatC (Jvm.Cond.and given_1 narrow_1) ∧ Cond.exactly (.string RX8 307) "java/lang/String" ∈ flatC (Jvm.Cond.and given_1 narrow_1) ∧ Cond.isRef (.static Bundle.tN "UNASSIGNED_STACK" Bundle.steD) ∈ flatC (Jvm.Cond.and given_1 narrow_1) ∧ Cond.isRef (.static Bundle.tN "SUPPRESSED_SENTINEL" Bundle.listD) ∈ flatC (Jvm.Cond.and given_1 narrow_1) := by decide +kernel
theorem px_tbl : Cond.stringRef RX3 20 "a failure" ∈ lw_tbl ∧ Cond.stringRef RX8 297 "no such shelf" ∈ lw_tbl ∧ Cond.stringRef RX8 304 "no row" ∈ lw_tbl ∧ Cond.stringRef RX8 307 "no such place" ∈ lw_tbl ∧ Cond.laysStatic Bundle.tN "UNASSIGNED_STACK" Bundle.steD ∈ lw_tbl ∧ Cond.laysStatic Bundle.tN "SUPPRESSED_SENTINEL" Bundle.listD ∈ lw_tbl ∧ Cond.initialized Bundle.tN ∈ lw_tbl := by decide +kernel
theorem px_str {own tx : String} {k : Nat} {args : Array Value} {s : State} (h1 : (Cond.stringRef own k tx).before args s = true) (h2 : (Cond.exactly (.string own k) "java/lang/String").before args s = true) : ∃ sa, vk_R own k tx sa s := by
  obtain ⟨a, c, cell, kk, h, -⟩ := Cond.exactly_spec h2
  exact ⟨a, vk_R.of h1 h⟩
theorem px_E_of {args : Array Value} {s : State} (hts : ∀ w ∈ lw_tbl, w.before args s = true) (hgv : (Jvm.Cond.and given_1 narrow_1).before args s = true) : px_E s.heap.size s.heap s := by
  have hq := flat_of_before _ hgv
  refine ⟨fun w hw => va_Nw.of (px_Bok w hw).2 (hts w ?_), va_Nc.of (hq _ px_flat.1), ⟨px_str (hts _ px_tbl.1) (hq _ px_flat.2.1), px_str (hts _ px_tbl.2.1) (hq _ px_flat.2.2.1), px_str (hts _ px_tbl.2.2.1) (hq _ px_flat.2.2.2.1), px_str (hts _ px_tbl.2.2.2.1) (hq _ px_flat.2.2.2.2.1)⟩, vx_Zqof (hts _ px_tbl.2.2.2.2.1) (hts _ px_tbl.2.2.2.2.2.2) (hq _ px_flat.2.2.2.2.2.1) (fun a ha => by omega), vx_Zqof (hts _ px_tbl.2.2.2.2.2.1) (hts _ px_tbl.2.2.2.2.2.2) (hq _ px_flat.2.2.2.2.2.2) (fun a ha => by omega)⟩
  have h1 := List.all_eq_true.mp px_in w (List.mem_filter.mp hw).1
  simp only [Bool.and_eq_true, decide_eq_true_eq] at h1
  exact h1.1
