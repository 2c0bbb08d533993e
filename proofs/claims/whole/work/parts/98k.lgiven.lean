/-! WHAT THE TABLES GIVE AT THE START -/
theorem pe_G_in : ∀ c, c < 10 → Cond.instantiable (pe_cl c).1 (pe_cl c).2.2 ∈ lw_tbl := by decide +kernel
theorem pe_G_ao : ∀ c, c < 7 → Cond.arrayOver (.object (pe_cl c).1) ∈ lw_tbl := by decide +kernel
theorem pe_G_ac : Cond.arrayClass .int ∈ lw_tbl ∧ Cond.arrayClass .long ∈ lw_tbl ∧ Cond.castable "[I" "java/lang/Cloneable" ∈ lw_tbl := by decide +kernel
theorem pe_G_of {args : Array Value} {s : State} {c9 : ClassId} (h9 : ArrOfT s c9 .int) (hts : ∀ w ∈ lw_tbl, w.before args s = true) : ∃ D cA, pe_G D cA s ∧ cA 9 = c9 := by
  have hTB : ∀ w ∈ pe_TB, w.before args s = true := fun w h => hts w (List.mem_filter.mp h).1
  have h1 : ∀ c, ∃ q : ClassId × (Nat → Nat), c < 10 → u_Kn s (pe_cl c).1 (pe_cl c).2.1 (pe_cl c).2.2 q.1 q.2 := fun c => by
    by_cases hc : c < 10
    · obtain ⟨cC, iS, h⟩ := u_known hTB (pe_u_tb hc) (hts _ (pe_G_in c hc))
      exact ⟨(cC, iS), fun _ => h⟩
    · exact ⟨(default, fun _ => 0), fun h => absurd h hc⟩
  have hac : ∀ ty, (Cond.arrayClass ty).before args s = true → ty = .int ∨ ty = .long → ∃ cA, ArrOfT s cA ty ∧ va_RA s cA ty := fun ty h ht => by
    obtain ⟨c, k, comp, f1, f2, f3⟩ := Cond.arrayClass_spec h
    refine ⟨c, fun N z => ⟨(fun k h => by cases h), k, f2, comp, f3⟩, ?_⟩
    rcases ht with e | e <;> subst e <;> exact f1
  have hao : ∀ c, c < 7 → ∃ cA, ArrOfT s cA (.object (pe_cl c).1) ∧ va_RA s cA (.object (pe_cl c).1) := fun c hc => by
    obtain ⟨comp, cA, k, f1, -, f2, f3, f4⟩ := Cond.arrayOver_spec (hts _ (pe_G_ao c hc))
    exact ⟨cA, fun N z => ⟨(fun k h => by cases h), k, f2, comp, f3⟩, k, comp, f2, f3, f1, f4⟩
  have h2 : ∀ k, ∃ cA, 10 ≤ k → k < 19 → ArrOfT s cA (pe_aty k) ∧ va_RA s cA (pe_aty k) := fun k => by
    by_cases hk : 10 ≤ k ∧ k < 19
    · by_cases e : k = 10
      · subst e
        obtain ⟨cA, h⟩ := hac .int (hts _ pe_G_ac.1) (Or.inl rfl)
        exact ⟨cA, fun _ _ => h⟩
      · by_cases e : k = 11
        · subst e
          obtain ⟨cA, h⟩ := hac .long (hts _ pe_G_ac.2.1) (Or.inr rfl)
          exact ⟨cA, fun _ _ => h⟩
        · have ht : ∀ j, j < 7 → pe_aty (12 + j) = .object (pe_cl j).1 := by decide +kernel
          obtain ⟨cA, h⟩ := hao (k - 12) (by omega)
          have := ht (k - 12) (by omega)
          rw [show 12 + (k - 12) = k by omega] at this
          exact ⟨cA, fun _ _ => by rw [this]; exact h⟩
    · exact ⟨default, fun h1 h2 => absurd ⟨h1, h2⟩ hk⟩
  refine ⟨(fun c => (Classical.choose (h1 c)).1, fun c => (Classical.choose (h1 c)).2), fun k => if k = 9 then c9 else Classical.choose (h2 k), ⟨fun c hc => Classical.choose_spec (h1 c) hc, fun k a b => by dsimp only; rw [if_neg (by omega)]; exact Classical.choose_spec (h2 k) a b, fun c hc => va_AO.of (hts _ (pe_G_ao c hc)), va_Nw.of rfl (hts _ pe_G_ac.2.2), by dsimp only; rw [if_pos rfl]; exact h9⟩, if_pos rfl⟩
theorem pe_N_of {args : Array Value} {s : State} (hts : ∀ w ∈ lw_tbl, w.before args s = true) : pe_N s := by
  intro o i m pl h
  have hm := pe_go_mem _ _ _ h
  have key : ∀ o, ∀ q ∈ pe_jT o, lw_tbl[q.2.2]? = some (.methodLinkNest (pe_rn o) q.1 (pe_me q.2.1).1 "StepMachines") := by
    intro o
    match o with
    | 0 => exact fun q hq => (pe_j0_ok q hq).1
    | 1 => exact fun q hq => (pe_j1_ok q hq).1
    | 2 => exact fun q hq => (pe_j2_ok q hq).1
    | 3 => exact fun q hq => (pe_j3_ok q hq).1
    | 4 => exact fun q hq => (pe_j4_ok q hq).1
    | 5 => exact fun q hq => (pe_j5_ok q hq).1
    | 6 => exact fun q hq => (pe_j6_ok q hq).1
    | 7 => exact fun q hq => (pe_j7_ok q hq).1
    | 8 => exact fun q hq => (pe_j8_ok q hq).1
    | 9 => exact fun q hq => (pe_j9_ok q hq).1
    | 10 => exact fun q hq => (pe_j10_ok q hq).1
    | 11 => exact fun q hq => (pe_j11_ok q hq).1
    | 12 => exact fun q hq => (pe_j12_ok q hq).1
    | 13 => exact fun q hq => (pe_j13_ok q hq).1
    | n + 14 => exact fun q hq => (pe_j13_ok q hq).1
  exact va_Nw.of rfl (hts _ (List.mem_of_getElem? (key o _ hm)))
/-- the heap at the start -/
def lw_s0 (L : Nat) (xs : Nat → Int32) : pe_H := (2, 0, fun a => if a = 1 then 10 else 99, fun a => if a = 1 then (L : Int) else 0, fun a j => if a = 1 then (xs j.toNat).toInt else 0, fun _ _ => 0)
