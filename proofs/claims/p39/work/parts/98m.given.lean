/-! WHAT THE TABLES GIVE AT THE START -/
theorem pe_G_in : ∀ c, pe_kc c = true → Cond.instantiable (pe_cl c).1 (pe_cl c).2.2 ∈ lw_tbl := pe_kall (by decide +kernel) (by decide +kernel) (by decide +kernel) (by decide +kernel)
theorem pe_G_ao : (∀ c, c < 7 → Cond.arrayOver (.object (pe_cl c).1) ∈ lw_tbl) ∧ Cond.arrayOver (.object (pe_cl 19).1) ∈ lw_tbl ∧ Cond.arrayOver (.object (pe_cl 20).1) ∈ lw_tbl ∧ Cond.arrayOver (.array .int) ∈ lw_tbl := by decide +kernel
theorem pe_G_ac : Cond.arrayClass .int ∈ lw_tbl ∧ Cond.castable "[I" "java/lang/Cloneable" ∈ lw_tbl := by decide +kernel
/-- the law's static array: its values, its place -/
def sg_v : List Int32 := [121, 121, 121, 121, 97, 97, 109, 122, 114, 100, 116, 115, 103, 106, 115, 103]
def sg_t : Term := .static RL "SIGNS" "[I"
theorem sg_flat : Cond.arrayOf sg_t .int ∈ flatC (Jvm.Cond.and given_1 narrow_1) ∧ Cond.eq (.length sg_t) (.int (Int32.ofNat 16)) ∈ flatC (Jvm.Cond.and given_1 narrow_1) ∧ (∀ j, j < 16 → Cond.eq (.elem sg_t (.int (Int32.ofNat j))) (.int (sg_v.getD j 0)) ∈ flatC (Jvm.Cond.and given_1 narrow_1)) := by decide +kernel
theorem sg_tbl : Cond.laysStatic RL "SIGNS" "[I" ∈ lw_tbl ∧ Cond.initialized RL ∈ lw_tbl := by decide +kernel
theorem sg_of {args : Array Value} {s : State} (hts : ∀ w ∈ lw_tbl, w.before args s = true) (hgv : (Jvm.Cond.and given_1 narrow_1).before args s = true) : ∃ (t : Nat) (cell : Cell), va_Z RL "SIGNS" "[I" (.ref t) (fun q => s.heap.size ≤ q) s s.heap ∧ s.heap[t]? = some cell ∧ s.isArrayOf cell .int ∧ cell.vm ≠ .unknown ∧ cell.slots.size = 16 ∧ ∀ j : Nat, j < 16 → cell.slots[j]? = some (.int (sg_v.getD j 0)) := by
  have hq := flat_of_before _ hgv
  obtain ⟨h1, h2, h3⟩ := sg_flat
  have hA : ∀ a : Nat, a < s.heap.size → ¬ (fun q => s.heap.size ≤ q) a := fun a ha h => absurd h (Nat.not_le.mpr ha)
  have hl := va_eqt (hq _ h2)
  obtain ⟨t, ht, cell, g1, g2, g3, g4, g5, g6, g7⟩ := va_Tof (A := fun q => s.heap.size ≤ q) (ty := .int) (N := 16) (f := fun j => .int (sg_v.getD j 0)) (by decide) (hq _ h1) hl (fun j hj => va_eqt (hq _ (h3 j hj))) hA
  have hsz : cell.slots.size = 16 := by
    obtain ⟨t', cell', ht', hat, -⟩ := Term.length_spec hl
    cases ht.symm.trans ht'
    cases g1.symm.trans (State.arrayAt?_spec hat).1
    by_cases hn : cell.slots.size < 2147483648
    · have a3 := congrArg Int32.toInt g5
      rw [show cell.slots.size.toInt32 = Int32.ofNat cell.slots.size from rfl, Int32.toInt_ofNat_of_lt (by omega)] at a3
      have a4 : (Int32.ofNat 16).toInt = 16 := by decide
      omega
    · exfalso
      have h5 := hl
      simp [Term.eval, ht, hat, hn] at h5
  exact ⟨t, cell, va_Zof (hts _ sg_tbl.1) (hts _ sg_tbl.2) ht hA, g1, g2, g3, hsz, g6⟩
theorem pe_G_of {args : Array Value} {s : State} {c9 c25 : ClassId} {b : Nat × Nat} (h9 : ArrOfT s c9 .int) (h25 : ArrOfT s c25 .int) (hZ : va_Z RL "SIGNS" "[I" (.ref b.2) (fun q => s.heap.size ≤ q) s s.heap) (hts : ∀ w ∈ lw_tbl, w.before args s = true) : ∃ D cA, pe_G D cA b s.heap.size s.heap s ∧ cA 9 = c9 ∧ cA 25 = c25 := by
  have hTB : ∀ w ∈ pe_TB, w.before args s = true := fun w h => hts w (List.mem_filter.mp h).1
  have h1 : ∀ c, ∃ q : ClassId × (Nat → Nat), pe_kc c = true → u_Kn s (pe_cl c).1 (pe_cl c).2.1 (pe_cl c).2.2 q.1 q.2 := fun c => by
    by_cases hc : pe_kc c = true
    · obtain ⟨cC, iS, h⟩ := u_known hTB (pe_u_tb hc) (hts _ (pe_G_in c hc))
      exact ⟨(cC, iS), fun _ => h⟩
    · exact ⟨(default, fun _ => 0), fun h => absurd h hc⟩
  obtain ⟨cI, kI, compI, f1, f2, f3⟩ := Cond.arrayClass_spec (hts _ pe_G_ac.1)
  have hI : ArrOfT s cI .int ∧ va_RA s cI .int := ⟨fun N z => ⟨(fun k h => by cases h), kI, f2, compI, f3⟩, f1⟩
  have hao : ∀ C, Cond.arrayOver (.object C) ∈ lw_tbl → ∃ cA, ArrOfT s cA (.object C) ∧ va_RA s cA (.object C) := fun C hc => by
    obtain ⟨comp, cA, k, f1, -, f2, f3, f4⟩ := Cond.arrayOver_spec (hts _ hc)
    exact ⟨cA, fun N z => ⟨(fun k h => by cases h), k, f2, comp, f3⟩, k, comp, f2, f3, f1, f4⟩
  obtain ⟨compA, cAA, kA, e1, -, e2, e3, e4⟩ := arrayOverA_spec (hts _ pe_G_ao.2.2.2)
  have ec : compA = cI := Option.some.inj (e1.symm.trans f1)
  have h2 : ∀ k, ∃ cA, pe_ka k = true → k ≠ 10 → k ≠ 11 → k ≠ 24 → k ≠ 25 → ArrOfT s cA (pe_aty k) ∧ va_RA s cA (pe_aty k) := fun k => by
    by_cases hk : (12 ≤ k ∧ k < 19) ∨ k = 22 ∨ k = 23
    · rcases hk with hk | hk | hk
      · have ht : ∀ j, j < 7 → pe_aty (12 + j) = .object (pe_cl j).1 := by decide +kernel
        obtain ⟨cA, h⟩ := hao _ (pe_G_ao.1 (k - 12) (by omega))
        have := ht (k - 12) (by omega)
        rw [show 12 + (k - 12) = k by omega] at this
        exact ⟨cA, fun _ _ _ _ _ => by rw [this]; exact h⟩
      · subst hk
        obtain ⟨cA, h⟩ := hao _ pe_G_ao.2.1
        exact ⟨cA, fun _ _ _ _ _ => h⟩
      · subst hk
        obtain ⟨cA, h⟩ := hao _ pe_G_ao.2.2.1
        exact ⟨cA, fun _ _ _ _ _ => h⟩
    · exact ⟨default, fun h a1 a2 a3 a4 => absurd h (by
        unfold pe_ka
        simp only [Bool.or_eq_true, Bool.and_eq_true, Nat.blt_eq, Nat.ble_eq]
        omega)⟩
  refine ⟨(fun c => (Classical.choose (h1 c)).1, fun c => (Classical.choose (h1 c)).2), fun k => if k = 9 then c9 else if k = 25 then c25 else if k = 10 ∨ k = 11 then cI else if k = 24 then cAA else Classical.choose (h2 k), ⟨fun c hc => Classical.choose_spec (h1 c) hc, fun k ha hk => ?_, fun c hc => va_AO.of (hts _ (pe_G_ao.1 c hc)), va_Nw.of rfl (hts _ pe_G_ac.2), by dsimp only; rw [if_pos rfl]; exact h9, ⟨?_, fun c hc => ?_⟩, ⟨kA, ?_, ?_⟩, hts _ pe_G_ao.2.2.2, hZ⟩, if_pos rfl, ?_⟩
  · have k9 : k ≠ 9 := fun q => by subst q; cases ha
    dsimp only
    rw [if_neg k9, if_neg hk]
    by_cases e : k = 10 ∨ k = 11
    · rw [if_pos e]
      rcases e with e | e <;> subst e <;> exact hI
    · rw [if_neg e]
      by_cases e5 : k = 24
      · rw [if_pos e5]
        subst e5
        exact ⟨fun N z => ⟨(fun k h => by cases h), kA, e2, compA, e3⟩, e4⟩
      · rw [if_neg e5]
        exact Classical.choose_spec (h2 k) ha (fun q => e (Or.inl q)) (fun q => e (Or.inr q)) e5 hk
  · show ArrOfT s c25 .int
    exact h25
  · rcases hc with q | q <;> subst q
    · exact va_AO.of (hts _ pe_G_ao.2.1)
    · exact va_AO.of (hts _ pe_G_ao.2.2.1)
  · exact e2
  · rw [e3, ec]; rfl
  · rfl
theorem pe_N_of {args : Array Value} {s : State} (hts : ∀ w ∈ lw_tbl, w.before args s = true) : pe_N s := by
  refine ⟨fun o i m pl h => ?_, fun o i c j pl h => va_Nw.of rfl (hts _ (List.mem_of_getElem? (pe_gok o i c j pl h).2.2))⟩
  have hm := pe_go_mem _ _ _ h
  have key : ∀ o, ∀ q ∈ pe_jT o, lw_tbl[q.2.2]? = some (.methodLinkNest (pe_rn o) q.1 (pe_me q.2.1).1 (pe_ho o)) ∧ q.2.1 < pe_mn := by
    intro o
    match o with
    | 0 => exact pe_j0_ok
    | 1 => exact pe_j1_ok
    | 2 => exact pe_j2_ok
    | 3 => exact pe_j3_ok
    | 4 => exact pe_j4_ok
    | 5 => exact pe_j5_ok
    | 6 => exact pe_j6_ok
    | 7 => exact pe_j7_ok
    | 8 => exact pe_j8_ok
    | 9 => exact pe_j9_ok
    | 10 => exact pe_j21_ok
    | 11 => exact pe_j11_ok
    | 12 => exact pe_j12_ok
    | 13 => exact pe_j13_ok
    | 14 => exact pe_j21_ok
    | 15 => exact pe_j21_ok
    | 16 => exact pe_j21_ok
    | 17 => exact pe_j21_ok
    | 18 => exact pe_j21_ok
    | 19 => exact pe_j19_ok
    | 20 => exact pe_j20_ok
    | 21 => exact pe_j21_ok
    | n + 22 => exact pe_j21_ok
  exact va_Nw.of rfl (hts _ (List.mem_of_getElem? (key o _ hm).1))
/-- the heap at the start -/
def lw_s0 (L : Nat) (xs : Nat → Int32) : pe_H := (3, 0, fun a => if a = 1 then 10 else if a = 2 then 25 else 99, fun a => if a = 1 then (L : Int) else if a = 2 then 16 else 0, fun a j => if a = 1 then (xs j.toNat).toInt else if a = 2 then (sg_v.getD j.toNat 0).toInt else 0, fun _ _ => 0)
