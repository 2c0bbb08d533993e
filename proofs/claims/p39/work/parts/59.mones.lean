/-! THE MODEL: bits of the ended, how many -/
theorem pb_less : ∀ x : Fin 256, (x.val : Int) ≠ 0 → pb_c (pe_and (x.val : Int) ((x.val : Int) - 1)) = pb_c (x.val : Int) - 1 ∧ 0 ≤ pe_and (x.val : Int) ((x.val : Int) - 1) ∧ pe_and (x.val : Int) ((x.val : Int) - 1) < (x.val : Int) := by decide +kernel
theorem pb_c_8 : ∀ x : Fin 256, 0 ≤ pb_c (x.val : Int) ∧ pb_c (x.val : Int) ≤ 8 := by decide +kernel
section
variable {d M q : Nat} {Φ : Option pe_V → pe_H → Prop} {σ : pe_H} {y z : Nat → Int → Int} {a : pa_M}
end

