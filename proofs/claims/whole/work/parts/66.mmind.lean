/-! THE MODEL: thinking, in one word -/
theorem pm_cl_Zy {k : Nat} {j : Int} (h : (k, j) ∈ pm_cl) : pm_Zy k j := by
  have sg : ∀ (n : Nat) (l : List (Nat × Int)) (g : Int → List (Nat × Int)), (∀ i, ∀ c ∈ g i, pm_Zy c.1 c.2) → (∀ c ∈ l, pm_Zy c.1 c.2) → ∀ c ∈ l ++ pm_sg n g, pm_Zy c.1 c.2 := fun n l g hg h c hc => by
    rcases List.mem_append.mp hc with e | e
    · exact h c e
    · obtain ⟨i, -, hi⟩ := pm_sg_mem.mp e
      exact hg _ c hi
  refine sg 600 _ pm_gC (by simp [pm_gC, pm_Zy]) (sg 768 _ pm_gB (by simp [pm_gB, pm_Zy]) (sg 48 _ pm_gA (by simp [pm_gA, pm_Zy]) (sg 6 _ pm_gG (by simp [pm_gG, pm_Zy]) (sg 8 _ pm_gF (by simp [pm_gF, pm_Zy]) (sg 80 _ pm_gE (by simp [pm_gE, pm_Zy]) (sg 5 _ pm_gD (by simp [pm_gD, pm_Zy]) (by simp [pm_Zy]))))))) (k, j) h
/-- what thinking and again may change -/
def pm_Zo (k : Nat) (j : Int) : Prop := pm_Zy k j ∨ (k = 0 ∧ (j = 51 ∨ j = 52))
def pm_Zq (k : Nat) (j : Int) : Prop := pm_Zo k j ∨ (33 ≤ k ∧ k ≤ 37) ∨ (40 ≤ k ∧ k ≤ 42) ∨ (k = 0 ∧ ((38 ≤ j ∧ j ≤ 47) ∨ j = 56))
theorem pm_Zs_Zq (k : Nat) (j : Int) (h : pm_Zs k j) : pm_Zq k j := Or.inl (Or.inl (pm_Zs_Zy k j h))
theorem pm_Zm_Zq (k : Nat) (j : Int) (h : pm_Zm k j) : pm_Zq k j := Or.inl (Or.inl (pm_Zm_Zy k j h))
theorem pm_Zq_Zp (k : Nat) (j : Int) (h : pm_Zq k j) : pm_Zp k j := by unfold pm_Zq pm_Zo pm_Zy at h; unfold pm_Zp; omega
theorem pm_Zk_Zp (k : Nat) (j : Int) (h : pm_Zk k j) : pm_Zp k j := by unfold pm_Zk at h; unfold pm_Zp; omega
/-- a public call so far: from y, the machine a now -/
def pm_Pb (y y2 : Nat → Int → Int) (a : pa_M) : Prop := pm_fr pm_Zp y y2 ∧ y2 0 37 = 0 ∧ pm_R y2 a
/-- a public call from y, thinking over a, now at s -/
def pm_Mi (y : Nat → Int → Int) (a : pa_M) (y4 : Nat → Int → Int) (s : pa_M) : Prop := ∃ z y2, pm_Pb y z a ∧ pm_sv z y2 ∧ pm_fr pm_Zq y2 y4 ∧ pm_R y4 s
section
variable {d M q : Nat} {Φ : Option pe_V → pe_H → Prop} {σ : pe_H} {y z : Nat → Int → Int} {a s : pa_M}
theorem pm_Pb_37 (h : pm_R y a) (hwf : pa_wf a) : pm_Pb y (pm_u y 0 37 0) a := ⟨pm_Zp_37 y, pm_us, pm_R_37 h hwf.1.w8⟩
theorem pm_Pb.R (h : pm_Pb y z a) : pm_R z a := h.2.2
theorem pm_Pb.st {y2 : Nat → Int → Int} (h : pm_Pb y z a) (hf : pm_fr pm_Zs z y2) (hR : pm_R y2 s) : pm_Pb y y2 s := ⟨pm_fr_trans h.1 (pm_fr_mono hf pm_Zs_Zp), (hf 0 37 (by unfold pm_Zs; omega)).trans h.2.1, hR⟩
theorem pm_Mi.R {y4 : Nat → Int → Int} (h : pm_Mi y a y4 s) : pm_R y4 s := by
  obtain ⟨z, y2, -, -, -, g⟩ := h
  exact g
theorem pm_Mi.ex {y4 y6 : Nat → Int → Int} {s' : pa_M} (h : pm_Mi y a y4 s) (hf : pm_fr pm_Zq y4 y6) (hR : pm_R y6 s') : pm_Mi y a y6 s' := by
  obtain ⟨z, y2, g1, g2, g3, -⟩ := h
  exact ⟨z, y2, g1, g2, pm_fr_trans g3 hf, hR⟩
theorem pm_Mi.st {y4 y6 : Nat → Int → Int} {s' : pa_M} (h : pm_Mi y a y4 s) (hf : pm_fr pm_Zs y4 y6) (hR : pm_R y6 s') : pm_Mi y a y6 s' := h.ex (pm_fr_mono hf pm_Zs_Zq) hR
theorem pm_Mi.mo {y4 y6 : Nat → Int → Int} {s' : pa_M} (h : pm_Mi y a y4 s) (hf : pm_fr pm_Zm y4 y6) (hR : pm_R y6 s') : pm_Mi y a y6 s' := h.ex (pm_fr_mono hf pm_Zm_Zq) hR
theorem pm_Mi.nothing {y4 : Nat → Int → Int} (h : pm_Mi y a y4 s) {k : Nat} {j : Int} (hz : ¬ pm_Zp k j) : y4 k j = y k j := by
  obtain ⟨z, y2, g1, g2, g3, -⟩ := h
  rw [g3 k j (fun e => hz (pm_Zq_Zp k j e)), g2.1 k j (fun e => hz (pm_Zk_Zp k j e)), g1.1 k j hz]
/-- nothing thought any more: as it was -/
theorem pm_Mi_Pb {y4 : Nat → Int → Int} (h : pm_Mi y a y4 a) : pm_Pb y y4 a := by
  obtain ⟨z, y2, g1, g2, g3, g4⟩ := h
  refine ⟨pm_fr_trans g1.1 (pm_fr_trans (pm_fr_mono g2.1 pm_Zk_Zp) (pm_fr_mono g3 pm_Zq_Zp)), ?_, g4⟩
  rw [g3 0 37 (by unfold pm_Zq pm_Zo pm_Zy; omega), g2.1 0 37 (by unfold pm_Zk; omega)]
  exact g1.2.1
/-- think -/
theorem c187q (hF : pm_F M σ) (hP : pm_Pb y z a) (hwf : pa_wf a) (k : ∀ y4, pm_Mi y a y4 a → Φ none (pm_h M σ (M + 38) y4)) : pe_M (d + 4) 187 [.inr (.inr M)] (pm_h M σ q z) Φ :=
  c187 hF hP.R hwf.w3 (fun y2 g1 g2 => k y2 ⟨z, y2, hP, g1, pm_fr_refl _ _, g2⟩)
/-- again; thinking may go on -/
theorem c188q {y2 y4 : Nat → Int → Int} {a4 : pa_M} (hF : pm_F M σ) (hM : pm_R y a) (hwf : pa_wf3 a) (hsv : pm_sv y y2) (hfr : pm_fr pm_Zq y2 y4) (hM4 : pm_R y4 a4) (k : ∀ y5, pm_R y5 a → pm_fr pm_Zq y2 y5 → pm_fr pm_Zo y4 y5 → Φ none (pm_h M σ (M + 38) y5)) : pe_M (d + 4) 188 [.inr (.inr M)] (pm_h M σ q y4) Φ := by
  have hok := pm_cl_ok (kq := 38) (by decide)
  obtain ⟨s1, s2, s3, s4⟩ := hsv
  refine pe_M_of ck188 (Nat.le_of_ble_eq_true rfl) ?_
  refine b188_0 hF (k := ?_)
  have key : ∀ y5, y5 = pm_cr false 38 pm_cl (pm_u (pm_u y4 0 52 0) 0 51 0) → Φ none (pm_h M σ (M + 38) y5) := fun y5 hy5 => by
    have e51 : (pm_u (pm_u y4 0 52 0) 0 51 0) 0 51 = 0 := pm_us
    have e38 : ∀ j, y4 38 j = y2 38 j := fun j => hfr 38 j (by unfold pm_Zq pm_Zo pm_Zy; omega)
    have g := pm_crf (kq := 38) (o := y) (by decide) pm_cl (pm_u (pm_u y4 0 52 0) 0 51 0) hok (fun i hi => by
      rw [e51, Int.zero_add]
      have : (pm_u (pm_u y4 0 52 0) 0 51 0) 38 (i : Int) = y4 38 i := by simp [pm_u]
      rw [this, e38, s2 i hi])
    rw [← hy5] at g
    have gno : ∀ k j, (k, j) ∉ pm_cl → ¬ (k = 0 ∧ (j = 51 ∨ j = 52)) → y5 k j = y4 k j := fun k j hk hj => by
      rw [(g k j (fun e => hj ⟨e.1, Or.inl e.2⟩)).2 hk]
      simp only [pm_u]
      rw [if_neg (fun e => hj ⟨e.1, Or.inl e.2⟩), if_neg (fun e => hj ⟨e.1, Or.inr e.2⟩)]
    have gin : ∀ k j, (k, j) ∈ pm_cl → y5 k j = y k j := fun k j hk => (g k j (fun e => (pm_cl_no hk).2.2.2.2 ⟨e.1, Or.inl e.2⟩)).1 hk
    have hgh : pm_gh y (y 0 23) := by
      obtain ⟨w, n, h, -⟩ := hM
      rw [h.1.2.2.2.1]
      exact h.1.2.2.2.2
    have hgh4 : pm_gh y4 (y4 0 23) := by
      obtain ⟨w, n, h, -⟩ := hM4
      rw [h.1.2.2.2.1]
      exact h.1.2.2.2.2
    have e100 : ∀ j, y4 100 j = y2 100 j := fun j => hfr 100 j (by unfold pm_Zq pm_Zo pm_Zy; omega)
    have n23 : ∀ j, ((23 : Nat), j) ∉ pm_cl := fun j h => (pm_cl_23 _ h) rfl
    have h23 : ∀ j, 0 ≤ j → j < y 0 23 → y5 23 j = y 23 j := fun j j0 j1 => by
      rw [gno 23 j (n23 j) (by omega)]
      have := (hgh4 100 (Or.inl rfl)).2 j j0 (by rw [e100, s3]; exact j1)
      rw [this, e100, s4 j j0]
    have out : ∀ g : Nat, g = 100 ∨ g = 101 → ∀ j, y5 g j = y4 g j := fun g hg j => gno g j (fun h => by have := pm_cl_no h; omega) (by omega)
    have hko : pm_fr pm_Zo y4 y5 := fun k j hk => gno k j (fun e => hk (Or.inl (pm_cl_Zy e))) (fun e => hk (Or.inr e))
    refine k y5 (pm_R_sub hM hwf.1 hwf.ql gin h23 (fun g hg => ?_)) (fun k j hk => ?_) hko
    · rcases hg with rfl | rfl
      · rw [out 100 (Or.inl rfl), e100, s3]
        refine ⟨Int.le_refl _, fun j j0 j1 => ?_⟩
        rw [out 100 (Or.inl rfl), e100, s4 j j0, h23 j j0 j1]
      · have e101 : ∀ j, y4 101 j = y 101 j := fun j => (hfr 101 j (by unfold pm_Zq pm_Zo pm_Zy; omega)).trans (s1 101 j (by unfold pm_Zk; omega))
        obtain ⟨h1, h2⟩ := hgh 101 (Or.inr rfl)
        rw [out 101 (Or.inr rfl), e101]
        refine ⟨h1, fun j j0 j1 => ?_⟩
        rw [out 101 (Or.inr rfl), e101, h23 j j0 (by omega)]
        exact h2 j j0 j1
    · exact (hko k j (fun e => hk (Or.inl e))).trans (hfr k j hk)
  refine c186 (t := false) (d := d) hF (Or.inl rfl) ?_
  refine b188_9 hF (k := ?_)
  exact key _ rfl
/-- again -/
theorem c188n {y4 : Nat → Int → Int} (hF : pm_F M σ) (h : pm_Mi y a y4 s) (hwf : pa_wf a) (k : ∀ y5, pm_Mi y a y5 a → pm_Pb y y5 a → pm_fr pm_Zo y4 y5 → Φ none (pm_h M σ (M + 38) y5)) : pe_M (d + 4) 188 [.inr (.inr M)] (pm_h M σ q y4) Φ := by
  obtain ⟨z, y2, g1, g2, g3, g4⟩ := h
  refine c188q hF g1.R hwf.w3 g2 g3 g4 (fun y5 v1 v2 v3 => k y5 ⟨z, y2, g1, g2, v2, v1⟩ ⟨?_, ?_, v1⟩ v3)
  · exact pm_fr_trans g1.1 (pm_fr_trans (pm_fr_mono g2.1 pm_Zk_Zp) (pm_fr_mono v2 pm_Zq_Zp))
  · rw [v2 0 37 (by unfold pm_Zq pm_Zo pm_Zy; omega), g2.1 0 37 (by unfold pm_Zk; omega)]
    exact g1.2.1
theorem c188m {y4 : Nat → Int → Int} (hF : pm_F M σ) (h : pm_Mi y a y4 s) (hwf : pa_wf a) (k : ∀ y5, pm_Mi y a y5 a → pm_Pb y y5 a → Φ none (pm_h M σ (M + 38) y5)) : pe_M (d + 4) 188 [.inr (.inr M)] (pm_h M σ q y4) Φ := c188n hF h hwf (fun y5 v1 v2 _ => k y5 v1 v2)
/-- cells that no machine rests on -/
def pm_Zr (k : Nat) (j : Int) : Prop := ¬ ((1 ≤ k ∧ k ≤ 26) ∨ k = 100 ∨ k = 101 ∨ (k = 0 ∧ (j = 3 ∨ j = 23 ∨ j = 28 ∨ j = 29 ∨ j = 30)))
theorem pm_R_z (hM : pm_R y s) (hwf : pa_wf s) (hz : pm_fr pm_Zr y z) : pm_R z s := by
  have hgh : pm_gh y (y 0 23) := by
    obtain ⟨w, n, h, -⟩ := hM
    rw [h.1.2.2.2.1]
    exact h.1.2.2.2.2
  refine pm_R_sub hM hwf.1 hwf.w3.ql (fun k j hc => hz k j ?_) (fun j _ _ => hz 23 j (by unfold pm_Zr; omega)) (pm_gh_keep hgh (fun j => hz 23 j (by unfold pm_Zr; omega)) (fun g hg j => hz g j (by unfold pm_Zr; omega)) (Int.le_refl _))
  have := pm_cl_Zy hc
  unfold pm_Zy at this
  unfold pm_Zr
  omega
end
