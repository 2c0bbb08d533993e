/-! THE MODEL (StepMachinesModel): where its arrays stand, its methods' code and blocks -/
/-! THE OVERLAY: the model's ints at M .. M + 42 by a function; q what keptIn refers to -/
def pm_u (y : Nat → Int → Int) (k : Nat) (j v : Int) : Nat → Int → Int := fun a i => if a = k ∧ i = j then v else y a i
theorem pm_uk {y : Nat → Int → Int} {k a : Nat} {j i v : Int} (h : a ≠ k) : pm_u y k j v a i = y a i := if_neg (fun q => h q.1)
section
variable {M q : Nat} {σ : pe_H} {y : Nat → Int → Int}
end

