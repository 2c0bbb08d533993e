/-! THE MODEL: text is read -/
/-- the row that is read -/
def pm_rd (y : Nat → Int → Int) (l : List Int) : Prop := (0 ≤ y 0 38 ∧ y 0 38 < 8) ∧ y 31 (y 0 38) = (l.length : Int) ∧ l.length ≤ 100 ∧ ∀ j : Nat, j < l.length → y 32 (100 * y 0 38 + j) = l.getD j 0 ∧ -128 ≤ l.getD j 0 ∧ l.getD j 0 ≤ 127
def pt_val (l : List Int) : Nat → Int → Int
  | 0, _ => 0
  | n + 1, P => 10 * pt_val l n P + pt_d l (P + n)
theorem pt_at_r {l : List Int} (h : ∀ j : Nat, j < l.length → -128 ≤ l.getD j 0 ∧ l.getD j 0 ≤ 127) (j : Int) : -128 ≤ pt_at l j ∧ pt_at l j ≤ 127 := by
  unfold pt_at
  split
  · exact h _ (by omega)
  · omega
section
variable {d M q : Nat} {Φ : Option pe_V → pe_H → Prop} {σ : pe_H} {y : Nat → Int → Int} {a s : pa_M} {c : Int} {l : List Int}
theorem pm_rd.r (h : pm_rd y l) (j : Int) : -128 ≤ pt_at l j ∧ pt_at l j ≤ 127 := pt_at_r (fun j hj => (h.2.2.2 j hj).2) j
end

