/-! THE MODEL: think, again -/
section
variable {d M q : Nat} {Φ : Option pe_V → pe_H → Prop} {σ : pe_H} {y z : Nat → Int → Int} {a : pa_M}
end
/-! what a moment's thinking may change, and what keeping it changes -/
def pm_Zy (k : Nat) (j : Int) : Prop := (1 ≤ k ∧ k ≤ 26) ∨ (k = 0 ∧ (j = 3 ∨ j = 23 ∨ j = 28 ∨ j = 29 ∨ j = 30))
def pm_Zk (k : Nat) (j : Int) : Prop := k = 38 ∨ k = 100 ∨ (k = 0 ∧ (j = 51 ∨ j = 52))
theorem pm_Zs_Zy (k : Nat) (j : Int) (h : pm_Zs k j) : pm_Zy k j := by unfold pm_Zs at h; unfold pm_Zy; omega
/-- y2 is y, kept -/
def pm_sv (y y2 : Nat → Int → Int) : Prop := pm_fr pm_Zk y y2 ∧ (∀ i : Nat, i < pm_cl.length → y2 38 i = y (pm_cl.getD i (0, 0)).1 (pm_cl.getD i (0, 0)).2) ∧ y2 100 (-1) = y 0 23 ∧ ∀ j, 0 ≤ j → y2 100 j = y 23 j
section
variable {d M q : Nat} {Φ : Option pe_V → pe_H → Prop} {σ : pe_H} {y z : Nat → Int → Int} {a : pa_M}
end

