/-! THE MODEL: rounds -/
section
variable {d M q : Nat} {Φ : Option pe_V → pe_H → Prop} {σ : pe_H} {y y' : Nat → Int → Int} {c n : Int} {a : pa_M}
theorem pa_could_b (hwf : pa_wf a) : (0 ≤ pa_bits (pa_isAble a) (a.1 4).toNat ∧ pa_bits (pa_isAble a) (a.1 4).toNat ≤ 255) ∧ ∀ i : Nat, i < 8 → (pb_h (pa_bits (pa_isAble a) (a.1 4).toNat) i = true ↔ (i : Int) ∈ pa_line a) := by
  have h8 := hwf.1.1
  refine ⟨pa_bits_255 _ (by omega), fun i hi => ?_⟩
  rw [pb_h_bits _ _ (by omega) i hi, pa_line_mem h8.1]
  unfold pa_isAble
  simp
theorem pa_A_day : pa_A (fun i => (a.2.1 i).1 6) (pa_day a) = pa_day a := pa_A_id (a := pa_day a)
theorem pa_round4 (h : pa_wf a) : (pa_round a).1 4 = a.1 4 ∧ (pa_round a).1 5 = a.1 5 := by
  rw [(pa_round_wf h).2.1]
  exact pa_day4 a
end

