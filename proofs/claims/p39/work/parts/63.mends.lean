/-! THE MODEL: ends -/
noncomputable def pa_endsN (c : Int) : Nat → Int → pa_M → Int
  | 0, _, _ => -4
  | m + 1, i, s => if 6 ≤ (s.2.1 c).1 2 then i else pa_endsN c m (i + 1) (pa_round s)
noncomputable def pa_aEnds (a : pa_M) (c : Int) : Int := if ¬ (0 ≤ c ∧ c < a.1 4) then -1 else pa_endsN c 61 0 a
section
variable {d M q : Nat} {Φ : Option pe_V → pe_H → Prop} {σ : pe_H} {y : Nat → Int → Int} {a : pa_M} {c n : Int}
end

