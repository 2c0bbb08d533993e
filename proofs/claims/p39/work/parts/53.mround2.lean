/-! THE MODEL: a round, who goes -/
theorem pa_gy_2 (p : pa_M × Int) (c : Int) : (pa_gy p c).2 = if ((pa_st1 (pa_cw p.1 c (pa_take (pa_young (p.1.2.1 c)) 0)) c false).2.1 c).1 2 = 2 then pe_or p.2 (pe_shl 1 c) else p.2 := rfl
section
variable {d M q : Nat} {Φ : Option pe_V → pe_H → Prop} {σ : pe_H} {y y' : Nat → Int → Int} {c n : Int} {a : pa_M}
end

