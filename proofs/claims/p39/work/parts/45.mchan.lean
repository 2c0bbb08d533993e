/-! THE MODEL: lines -/
theorem pa_sc {nu : Nat → Int} {j k : Nat} {v w : Int} (h : j ≠ k) : pa_s (pa_s nu j v) k w = pa_s (pa_s nu k w) j v := by
  funext i
  unfold pa_s
  by_cases h1 : i = k
  · have : i ≠ j := by omega
    simp [h1, Ne.symm h]
  · simp [h1]
theorem pa_cw_comm {a : pa_M} {c o : Int} {u v : pa_C} (h : c ≠ o) : pa_cw (pa_cw a c u) o v = pa_cw (pa_cw a o v) c u := by
  unfold pa_cw
  refine Prod.ext rfl (Prod.ext ?_ rfl)
  funext i
  by_cases h1 : i = o
  · have : i ≠ c := by omega
    simp [h1, Ne.symm h]
  · simp [h1]
section
variable {d M q : Nat} {Φ : Option pe_V → pe_H → Prop} {σ : pe_H} {y y' : Nat → Int → Int} {c L x ch : Int} {a : pa_M} {l : List Int}
theorem pa_wf3.ql (hwf : pa_wf3 a) (k : Nat) (hk : k < 2) (ch : Int) (h0 : 0 ≤ ch) (h3 : ch < 3) : (a.2.2.2 k ch).length ≤ 8 := (pa_wfq_b hwf.2.1 hwf.1.1.2 hk h0 h3).2.1
end

