/-! THE MODEL: public methods, rounds and then -/
noncomputable def pa_doRounds (a : pa_M) (n : Int) : pa_M × Int := if ¬ (1 ≤ n ∧ n ≤ 60) then (a, -1) else if 999 < a.1 6 + n then (a, -3) else (pa_rounds n.toNat a, pb_c (pa_bits (pa_isEnd (pa_rounds n.toNat a)) ((pa_rounds n.toNat a).1 4).toNat))
noncomputable def pa_aThen (a : pa_M) (c n x : Int) : Int := if ¬ ((0 ≤ c ∧ c < a.1 4) ∧ (0 ≤ n ∧ n ≤ 60) ∧ 0 ≤ x ∧ x ≤ 4) then -1 else pa_of ((pa_rounds n.toNat a).2.1 c) x
section
variable {d M q : Nat} {Φ : Option pe_V → pe_H → Prop} {σ : pe_H} {y : Nat → Int → Int} {a : pa_M} {c n : Int}
theorem pa_rounds4 : ∀ (m : Nat) (a : pa_M), pa_wf a → (pa_rounds m a).1 4 = a.1 4
  | 0, _, _ => rfl
  | m + 1, a, h => by
    unfold pa_rounds
    rw [pa_rounds4 m _ (pa_round_wf h).1, (pa_round4 h).1]
end
section
variable {d M q : Nat} {Φ : Option pe_V → pe_H → Prop} {σ : pe_H} {y : Nat → Int → Int} {a : pa_M} {c n : Int}
end

