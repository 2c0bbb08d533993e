/-! WHAT THE TABLES GIVE AT THE START -/
theorem pe_G_in : ∀ c, c < 10 → Cond.instantiable (pe_cl c).1 (pe_cl c).2.2 ∈ lw_tbl := by decide +kernel
theorem pe_G_ao : ∀ c, c < 7 → Cond.arrayOver (.object (pe_cl c).1) ∈ lw_tbl := by decide +kernel
theorem pe_G_ac : Cond.arrayClass .int ∈ lw_tbl ∧ Cond.arrayClass .long ∈ lw_tbl ∧ Cond.castable "[I" "java/lang/Cloneable" ∈ lw_tbl := by decide +kernel
theorem pe_G_of {args : Array Value} {s : State} (hts : ∀ w ∈ lw_tbl, w.before args s = true) : ∃ D cA, pe_G D cA s := by
  have hTB : ∀ w ∈ pe_TB, w.before args s = true := fun w h => hts w (List.mem_filter.mp h).1
  have h1 : ∀ c, ∃ q : ClassId × (Nat → Nat), c < 10 → u_Kn s (pe_cl c).1 (pe_cl c).2.1 (pe_cl c).2.2 q.1 q.2 := fun c => by
    by_cases hc : c < 10
    · obtain ⟨cC, iS, h⟩ := u_known hTB (pe_u_tb hc) (hts _ (pe_G_in c hc))
      exact ⟨(cC, iS), fun _ => h⟩
    · exact ⟨(default, fun _ => 0), fun h => absurd h hc⟩
  have hac : ∀ ty, (Cond.arrayClass ty).before args s = true → ty = .int ∨ ty = .long → ∃ cA, ArrOfT s cA ty ∧ va_RA s cA ty := fun ty h ht => by
    obtain ⟨c, k, comp, f1, f2, f3⟩ := Cond.arrayClass_spec h
    refine ⟨c, fun N z => ⟨(fun k h => by cases h), k, f2, comp, f3⟩, ?_⟩
    rcases ht with e | e <;> subst e <;> exact f1
  have hao : ∀ c, c < 7 → ∃ cA, ArrOfT s cA (.object (pe_cl c).1) ∧ va_RA s cA (.object (pe_cl c).1) := fun c hc => by
    obtain ⟨comp, cA, k, f1, -, f2, f3, f4⟩ := Cond.arrayOver_spec (hts _ (pe_G_ao c hc))
    exact ⟨cA, fun N z => ⟨(fun k h => by cases h), k, f2, comp, f3⟩, k, comp, f2, f3, f1, f4⟩
  have h2 : ∀ k, ∃ cA, 10 ≤ k → k < 19 → ArrOfT s cA (pe_aty k) ∧ va_RA s cA (pe_aty k) := fun k => by
    by_cases hk : 10 ≤ k ∧ k < 19
    · by_cases e : k = 10
      · subst e
        obtain ⟨cA, h⟩ := hac .int (hts _ pe_G_ac.1) (Or.inl rfl)
        exact ⟨cA, fun _ _ => h⟩
      · by_cases e : k = 11
        · subst e
          obtain ⟨cA, h⟩ := hac .long (hts _ pe_G_ac.2.1) (Or.inr rfl)
          exact ⟨cA, fun _ _ => h⟩
        · have ht : ∀ j, j < 7 → pe_aty (12 + j) = .object (pe_cl j).1 := by decide +kernel
          obtain ⟨cA, h⟩ := hao (k - 12) (by omega)
          have := ht (k - 12) (by omega)
          rw [show 12 + (k - 12) = k by omega] at this
          exact ⟨cA, fun _ _ => by rw [this]; exact h⟩
    · exact ⟨default, fun h1 h2 => absurd ⟨h1, h2⟩ hk⟩
  refine ⟨(fun c => (Classical.choose (h1 c)).1, fun c => (Classical.choose (h1 c)).2), fun k => Classical.choose (h2 k), fun c hc => Classical.choose_spec (h1 c) hc, fun k a b => Classical.choose_spec (h2 k) a b, fun c hc => va_AO.of (hts _ (pe_G_ao c hc)), va_Nw.of rfl (hts _ pe_G_ac.2.2)⟩
