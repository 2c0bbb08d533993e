/-! THE MODEL: a step, sending to one -/
theorem pa_do_cw {a : pa_M} {c l n : Int} {b : Bool} {v : pa_C} : pa_do (pa_cw a c v) c b l n v = pa_do a c b l n v := by
  unfold pa_do
  rw [pa_live_cw]
  simp only [pa_cw_cw]
section
variable {d M q : Nat} {Φ : Option pe_V → pe_H → Prop} {σ : pe_H} {y y' : Nat → Int → Int} {c n : Int} {a : pa_M}
end

