/-! THE MODEL: thinking, in one word -/
/-- what thinking and again may change -/
def pm_Zo (k : Nat) (j : Int) : Prop := pm_Zy k j ∨ (k = 0 ∧ (j = 51 ∨ j = 52))
def pm_Zq (k : Nat) (j : Int) : Prop := pm_Zo k j ∨ (33 ≤ k ∧ k ≤ 37) ∨ (40 ≤ k ∧ k ≤ 42) ∨ (k = 0 ∧ ((38 ≤ j ∧ j ≤ 47) ∨ j = 56))
theorem pm_Zs_Zq (k : Nat) (j : Int) (h : pm_Zs k j) : pm_Zq k j := Or.inl (Or.inl (pm_Zs_Zy k j h))
theorem pm_Zq_Zp (k : Nat) (j : Int) (h : pm_Zq k j) : pm_Zp k j := by unfold pm_Zq pm_Zo pm_Zy at h; unfold pm_Zp; omega
theorem pm_Zk_Zp (k : Nat) (j : Int) (h : pm_Zk k j) : pm_Zp k j := by unfold pm_Zk at h; unfold pm_Zp; omega
/-- a public call so far: from y, the machine a now -/
def pm_Pb (y y2 : Nat → Int → Int) (a : pa_M) : Prop := pm_fr pm_Zp y y2 ∧ y2 0 37 = 0 ∧ pm_R y2 a
/-- a public call from y, thinking over a, now at s -/
def pm_Mi (y : Nat → Int → Int) (a : pa_M) (y4 : Nat → Int → Int) (s : pa_M) : Prop := ∃ z y2, pm_Pb y z a ∧ pm_sv z y2 ∧ pm_fr pm_Zq y2 y4 ∧ pm_R y4 s
section
variable {d M q : Nat} {Φ : Option pe_V → pe_H → Prop} {σ : pe_H} {y z : Nat → Int → Int} {a s : pa_M}
theorem pm_Pb.R (h : pm_Pb y z a) : pm_R z a := h.2.2
theorem pm_Pb.st {y2 : Nat → Int → Int} (h : pm_Pb y z a) (hf : pm_fr pm_Zs z y2) (hR : pm_R y2 s) : pm_Pb y y2 s := ⟨pm_fr_trans h.1 (pm_fr_mono hf pm_Zs_Zp), (hf 0 37 (by unfold pm_Zs; omega)).trans h.2.1, hR⟩
theorem pm_Mi.R {y4 : Nat → Int → Int} (h : pm_Mi y a y4 s) : pm_R y4 s := by
  obtain ⟨z, y2, -, -, -, g⟩ := h
  exact g
theorem pm_Mi.ex {y4 y6 : Nat → Int → Int} {s' : pa_M} (h : pm_Mi y a y4 s) (hf : pm_fr pm_Zq y4 y6) (hR : pm_R y6 s') : pm_Mi y a y6 s' := by
  obtain ⟨z, y2, g1, g2, g3, -⟩ := h
  exact ⟨z, y2, g1, g2, pm_fr_trans g3 hf, hR⟩
theorem pm_Mi.st {y4 y6 : Nat → Int → Int} {s' : pa_M} (h : pm_Mi y a y4 s) (hf : pm_fr pm_Zs y4 y6) (hR : pm_R y6 s') : pm_Mi y a y6 s' := h.ex (pm_fr_mono hf pm_Zs_Zq) hR
theorem pm_Mi.nothing {y4 : Nat → Int → Int} (h : pm_Mi y a y4 s) {k : Nat} {j : Int} (hz : ¬ pm_Zp k j) : y4 k j = y k j := by
  obtain ⟨z, y2, g1, g2, g3, -⟩ := h
  rw [g3 k j (fun e => hz (pm_Zq_Zp k j e)), g2.1 k j (fun e => hz (pm_Zk_Zp k j e)), g1.1 k j hz]
end

