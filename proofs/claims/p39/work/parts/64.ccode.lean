/-! THE CLASS: codeOf, causeOf -/
section
variable {d B : Nat} {Φ : Option pe_V → pe_H → Prop} {T : Nat → Prop} {σ σ' : pe_H} {c x : Int} {a : pa_M}
theorem k21 (hF : pk_Fm B σ) (hn : 0 ≤ pe_I σ B 12 ∧ pe_I σ B 12 ≤ 512) (hx : -2147483648 ≤ x ∧ x < 2147483648) (k : Φ (some (.inl (if 0 ≤ x ∧ x < pe_I σ B 12 then pe_I σ (B + 7) x else 0))) σ) : pe_M (d + 1) 21 [.inr (.inr B), .inl x] σ Φ := by
  have hno : ¬ (0 ≤ x ∧ x < pe_I σ B 12) → pe_X d 21 (21, [some (.inr (.inr B)), some (.inl x)], [], σ) Φ := fun h => by
    rw [if_neg h] at k
    refine b21_21 (k := ?_)
    refine b21_22 (k := ?_)
    exact k
  refine pe_M_of ck21 (Nat.le_of_ble_eq_true rfl) ?_
  refine b21_0 (k1 := fun r => hno (by omega)) (k2 := fun r => ?_)
  refine b21_4 (k1 := fun r => hno (by omega)) (k2 := fun r2 => ?_)
  rw [if_pos (by omega)] at k
  refine b21_12 (k := ?_)
  refine b21_22 (k := ?_)
  exact k
theorem k22 (hF : pk_Fm B σ) (hn : 0 ≤ pe_I σ B 12 ∧ pe_I σ B 12 ≤ 512) (hx : -2147483648 ≤ x ∧ x < 2147483648) (k : Φ (some (.inl (if 0 ≤ x ∧ x < pe_I σ B 12 then pe_I σ (B + 8) x else -1))) σ) : pe_M (d + 1) 22 [.inr (.inr B), .inl x] σ Φ := by
  have hno : ¬ (0 ≤ x ∧ x < pe_I σ B 12) → pe_X d 22 (21, [some (.inr (.inr B)), some (.inl x)], [], σ) Φ := fun h => by
    rw [if_neg h] at k
    refine b22_21 (k := ?_)
    refine b22_22 (k := ?_)
    exact k
  refine pe_M_of ck22 (Nat.le_of_ble_eq_true rfl) ?_
  refine b22_0 (k1 := fun r => hno (by omega)) (k2 := fun r => ?_)
  refine b22_4 (k1 := fun r => hno (by omega)) (k2 := fun r2 => ?_)
  rw [if_pos (by omega)] at k
  refine b22_12 (k := ?_)
  refine b22_22 (k := ?_)
  exact k
end

