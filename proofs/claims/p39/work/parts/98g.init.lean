/-! THE LAW'S constructor -/
/-- an array of arrays, the first n of them made -/
def ll_E (σ : pe_H) (o : Nat) : Nat → pe_H
  | 0 => pe_new σ 24 5 5
  | n + 1 => pe_wR (pe_new (ll_E σ o n) 10 0 0) o n (pe_n (ll_E σ o n))
section
variable {d o r : Nat} {Φ : Option pe_V → pe_H → Prop} {σ σ' : pe_H}
theorem ll_E_f (ho : o = pe_n σ) : ∀ n : Nat, n ≤ 5 → pe_n (ll_E σ o n) = o + 1 + n ∧ pe_u (ll_E σ o n) = pe_u σ + 5 ∧ (pe_K (ll_E σ o n) o = 24 ∧ pe_L (ll_E σ o n) o = 5) ∧ (∀ i : Nat, i < n → pe_R (ll_E σ o n) o i = o + 1 + i ∧ pe_K (ll_E σ o n) (o + 1 + i) = 10 ∧ pe_L (ll_E σ o n) (o + 1 + i) = 0) ∧ ∀ x, x < o → pg_same σ (ll_E σ o n) x
  | 0, _ => by
    have e : σ.1 = pe_n σ := rfl
    refine ⟨by rw [ho]; rfl, rfl, ⟨if_pos ho, if_pos ho⟩, fun i hi => absurd hi (Nat.not_lt_zero _), fun x hx => ⟨if_neg (by omega), if_neg (by omega), fun j => ⟨if_neg (by omega), if_neg (by omega)⟩⟩⟩
  | n + 1, hn => by
    obtain ⟨a1, a2, ⟨a3, a4⟩, a5, a6⟩ := ll_E_f ho n (by omega)
    have e : (ll_E σ o n).1 = pe_n (ll_E σ o n) := rfl
    refine ⟨?_, ?_, ⟨?_, ?_⟩, fun i hi => ⟨?_, ?_, ?_⟩, fun x hx => ?_⟩
    · show pe_n (ll_E σ o n) + 1 = _
      omega
    · show pe_u (ll_E σ o n) + 0 = _
      omega
    · show pe_K (pe_new (ll_E σ o n) 10 0 0) o = 24
      rw [pe_Kn (by omega)]; exact a3
    · show pe_L (pe_new (ll_E σ o n) 10 0 0) o = 5
      rw [pe_Ln (by omega)]; exact a4
    · show pe_R (pe_wR (pe_new (ll_E σ o n) 10 0 0) o n (pe_n (ll_E σ o n))) o i = _
      by_cases ei : i = n
      · subst ei
        rw [pe_R_same]
        exact a1
      · rw [pe_R_nej (by omega), pe_Rn (by omega)]
        exact (a5 i (by omega)).1
    · show pe_K (pe_new (ll_E σ o n) 10 0 0) (o + 1 + i) = 10
      by_cases ei : i = n
      · rw [pe_Ke (by omega)]
      · rw [pe_Kn (by omega)]; exact (a5 i (by omega)).2.1
    · show pe_L (pe_new (ll_E σ o n) 10 0 0) (o + 1 + i) = 0
      by_cases ei : i = n
      · rw [pe_Le (by omega)]
      · rw [pe_Ln (by omega)]; exact (a5 i (by omega)).2.2
    · have := a6 x hx
      refine pg_same_trans this ⟨?_, ?_, fun j => ⟨?_, ?_⟩⟩
      · show pe_K (pe_new (ll_E σ o n) 10 0 0) x = _
        exact pe_Kn (by omega)
      · show pe_L (pe_new (ll_E σ o n) 10 0 0) x = _
        exact pe_Ln (by omega)
      · show pe_I (pe_new (ll_E σ o n) 10 0 0) x j = _
        exact pe_In (by omega)
      · show pe_R (pe_wR (pe_new (ll_E σ o n) 10 0 0) o n (pe_n (ll_E σ o n))) x j = _
        rw [pe_R_ner (by omega)]
        exact pe_Rn (by omega)
theorem ll_E_h (ho : o = pe_n σ) (h3 : 3 ≤ pe_n σ) (n : Nat) (hn : n < 5) : (22 ≤ pe_K (pe_new (ll_E σ o n) 10 0 0) o ∧ pe_K (pe_new (ll_E σ o n) 10 0 0) o < 25) ∧ (pe_n (ll_E σ o n) = 0 ∨ (3 ≤ pe_n (ll_E σ o n) ∧ pe_K (pe_new (ll_E σ o n) 10 0 0) (pe_n (ll_E σ o n)) = pe_ek (pe_K (pe_new (ll_E σ o n) 10 0 0) o))) ∧ (n : Int) < pe_L (pe_new (ll_E σ o n) 10 0 0) o := by
  obtain ⟨a1, a2, ⟨a3, a4⟩, a5, a6⟩ := ll_E_f ho n (by omega)
  have hk : pe_K (pe_new (ll_E σ o n) 10 0 0) o = 24 := (pe_Kn (by omega)).trans a3
  have hl : pe_L (pe_new (ll_E σ o n) 10 0 0) o = 5 := (pe_Ln (by omega)).trans a4
  refine ⟨by rw [hk]; decide, Or.inr ⟨by omega, ?_⟩, by rw [hl]; omega⟩
  rw [hk, pe_Ke rfl]
  rfl
end
