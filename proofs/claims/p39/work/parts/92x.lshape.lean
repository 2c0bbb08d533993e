/-! THE LAW'S SHAPE: itself at 3, the class at 4, its arrays behind the class's cells -/
def ll_L (σ : pe_H) : Prop := (899 ≤ pe_n σ ∧ pe_K σ 4 = 8) ∧ (pe_K σ 3 = 21 ∧ pe_R σ 3 0 = 4 ∧ pe_R σ 3 1 = 879 ∧ pe_R σ 3 2 = 885 ∧ pe_R σ 3 6 = 891 ∧ pe_R σ 3 7 = 892) ∧ (pe_K σ 879 = 24 ∧ pe_L σ 879 = 5) ∧ (pe_K σ 885 = 24 ∧ pe_L σ 885 = 5) ∧ (pe_K σ 891 = 23 ∧ pe_L σ 891 = 8) ∧ (pe_K σ 892 = 24 ∧ pe_L σ 892 = 6)
theorem ll_ek23 : pe_ek 23 = 20 := rfl
theorem ll_ek24 : pe_ek 24 = 10 := rfl
section
variable {σ : pe_H} {a k w : Nat} {l j : Int}
theorem ll_k4 (h : ll_L σ) : pe_K σ 4 = 8 := h.1.2
theorem ll_k3 (h : ll_L σ) : pe_K σ 3 = 21 := h.2.1.1
theorem ll_e0 (h : ll_L σ) : pe_R σ 3 0 = 4 := h.2.1.2.1
theorem ll_e1 (h : ll_L σ) : pe_R σ 3 1 = 879 := h.2.1.2.2.1
theorem ll_e2 (h : ll_L σ) : pe_R σ 3 2 = 885 := h.2.1.2.2.2.1
theorem ll_e6 (h : ll_L σ) : pe_R σ 3 6 = 891 := h.2.1.2.2.2.2.1
theorem ll_e7 (h : ll_L σ) : pe_R σ 3 7 = 892 := h.2.1.2.2.2.2.2
theorem ll_k879 (h : ll_L σ) : pe_K σ 879 = 24 := h.2.2.1.1
theorem ll_n879 (h : ll_L σ) : pe_L σ 879 = 5 := h.2.2.1.2
theorem ll_k885 (h : ll_L σ) : pe_K σ 885 = 24 := h.2.2.2.1.1
theorem ll_n885 (h : ll_L σ) : pe_L σ 885 = 5 := h.2.2.2.1.2
theorem ll_k891 (h : ll_L σ) : pe_K σ 891 = 23 := h.2.2.2.2.1.1
theorem ll_n891 (h : ll_L σ) : pe_L σ 891 = 8 := h.2.2.2.2.1.2
theorem ll_k892 (h : ll_L σ) : pe_K σ 892 = 24 := h.2.2.2.2.2.1
theorem ll_n892 (h : ll_L σ) : pe_L σ 892 = 6 := h.2.2.2.2.2.2
theorem ll_ne (h : ll_L σ) (ha : a < 899) : a ≠ σ.1 := by
  have h1 := h.1.1
  have : σ.1 = pe_n σ := rfl
  omega
theorem ll_nK (h : ll_L σ) (ha : a < 899) : pe_K (pe_new σ k l w) a = pe_K σ a := if_neg (ll_ne h ha)
theorem ll_nN (h : ll_L σ) (ha : a < 899) : pe_L (pe_new σ k l w) a = pe_L σ a := if_neg (ll_ne h ha)
theorem ll_nI (h : ll_L σ) (ha : a < 899) : pe_I (pe_new σ k l w) a j = pe_I σ a j := if_neg (ll_ne h ha)
theorem ll_nR (h : ll_L σ) (ha : a < 899) : pe_R (pe_new σ k l w) a j = pe_R σ a j := if_neg (ll_ne h ha)
end
