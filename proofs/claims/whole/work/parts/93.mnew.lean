/-! THE MODEL's constructor -/
section
variable {d M : Nat} {Φ : Option pe_V → pe_H → Prop} {σ τ : pe_H}
def pm_z0 : Nat → Int → Int := (pm_u (pm_u (fun _ _ => 0) 0 28 8) 0 37 0)
theorem pl_gt {k0 M kd w U : Nat} {l l' : List (Int × Nat × Nat × Int)} {z : Nat → Int → Int} {f len : Int} {P : pe_H → Prop} (h : pl_N k0 M l z σ τ) (hu : pe_u τ = U) (hf : ∀ q ∈ l, q.1 ≠ f) (k : ∀ τ', pl_N k0 M l' z σ τ' → pe_u τ' = U + w → P τ') (e : l ++ [(f, l.length + 1, kd, len)] = l') : P (pe_wR (pe_new τ kd len w) M f (pe_n τ)) := pl_go h hu hf (by rw [e]; exact k)
set_option maxRecDepth 8000 in
theorem pl_N.F (h : pl_N 9 M pm_tab pm_z0 σ τ) (h2 : 2 ≤ M) : pe_n τ = M + 43 ∧ pm_F M τ ∧ τ = pm_h M τ 0 pm_z0 := by
  obtain ⟨⟨a1, a2⟩, b, c, e, g, y⟩ := h
  have hl : pm_tab.length = 42 := rfl
  rw [hl] at a2 c
  refine ⟨a2, ⟨h2, a1, fun q hq => ⟨(b q hq).1, (b q hq).2.2.1, (b q hq).2.2.2⟩⟩, ?_⟩
  unfold pm_h
  refine Prod.ext rfl (Prod.ext rfl (Prod.ext rfl (Prod.ext rfl (Prod.ext ?_ ?_))))
  · show τ.2.2.2.2.1 = _
    funext x j
    by_cases q : M ≤ x ∧ x ≤ M + 42
    · refine Eq.trans ?_ (if_pos q).symm
      have := c (x - M) (by omega) j
      rw [show M + (x - M) = x by omega] at this
      exact this
    · exact (if_neg q).symm
  · show τ.2.2.2.2.2 = _
    funext x j
    by_cases q : x = M ∧ j = 53
    · refine Eq.trans ?_ (if_pos q).symm
      rw [q.1, q.2]
      exact e 53 (by decide)
    · exact (if_neg q).symm
set_option maxRecDepth 8000 in
theorem c132 (h2 : 2 ≤ M) (hn : pe_n σ = M + 1) (hK : pe_K σ M = 9) (hI : ∀ x, x ≤ 0 → ∀ j, pe_I σ (M + x) j = 0) (hR : ∀ j, (∀ q ∈ ([] : List (Int × Nat × Nat × Int)), q.1 ≠ j) → pe_R σ M j = 0) (k : ∀ σ2, pe_n σ2 = M + 43 → pe_u σ2 = pe_u σ + 11174 → pm_F M σ2 → σ2 = pm_h M σ2 0 pm_z0 → (∀ x, x < M → pg_same σ σ2 x) → Φ none σ2) : pe_M (d + 1) 132 [.inr (.inr M)] σ Φ := by
  refine pe_M_of ck132 (Nat.le_of_ble_eq_true rfl) ?_
  have h0 : pl_N 9 M (pm_tab.take 0) (fun _ _ => 0) σ σ := ⟨⟨hK, hn⟩, fun q hq => absurd hq List.not_mem_nil, hI, hR, fun x _ => pg_same.refl σ x, fun _ _ _ => rfl⟩
  have v0 : pe_u σ = pe_u σ + 0 := rfl
  refine rb132_0 (k := ?_)
  refine rb132_4 (h0 := by have := h0.1.1; have := h0.1.2; (simp (disch := ((try simp only [pe_n_new, pe_n_wR, pe_n_wI]); omega)) only [pe_n_new, pe_u_new, pe_n_wI, pe_u_wI, pe_n_wR, pe_u_wR, pe_Kn, pe_Ke, pe_Ln, pe_Le, pe_In, pe_Ie, pe_Rn, pe_Re, pe_K_wI, pe_K_wR, pe_L_wI, pe_L_wR, pe_I_wR, pe_R_wI, pe_I_same, pe_I_ner, pe_I_nej, pe_R_same, pe_R_ner, pe_R_nej]); assumption) (k := ?_)
  refine pl_gt (e := rfl) (P := fun s => pe_X d 132 (11, [some (.inr (.inr M))], [], s) Φ) h0 v0 (by decide) (fun τ1 (h1 : pl_N 9 M (pm_tab.take 1) _ σ _) v1 => ?_)
  clear h0 v0
  refine rb132_11 (h0 := by have := h1.1.1; have := h1.1.2; (simp (disch := ((try simp only [pe_n_new, pe_n_wR, pe_n_wI]); omega)) only [pe_n_new, pe_u_new, pe_n_wI, pe_u_wI, pe_n_wR, pe_u_wR, pe_Kn, pe_Ke, pe_Ln, pe_Le, pe_In, pe_Ie, pe_Rn, pe_Re, pe_K_wI, pe_K_wR, pe_L_wI, pe_L_wR, pe_I_wR, pe_R_wI, pe_I_same, pe_I_ner, pe_I_nej, pe_R_same, pe_R_ner, pe_R_nej]); assumption) (k := ?_)
  refine pl_gt (e := rfl) (P := fun s => pe_X d 132 (19, [some (.inr (.inr M))], [], s) Φ) h1 v1 (by decide) (fun τ2 (h2 : pl_N 9 M (pm_tab.take 2) _ σ _) v2 => ?_)
  clear h1 v1
  refine rb132_19 (h0 := by have := h2.1.1; have := h2.1.2; (simp (disch := ((try simp only [pe_n_new, pe_n_wR, pe_n_wI]); omega)) only [pe_n_new, pe_u_new, pe_n_wI, pe_u_wI, pe_n_wR, pe_u_wR, pe_Kn, pe_Ke, pe_Ln, pe_Le, pe_In, pe_Ie, pe_Rn, pe_Re, pe_K_wI, pe_K_wR, pe_L_wI, pe_L_wR, pe_I_wR, pe_R_wI, pe_I_same, pe_I_ner, pe_I_nej, pe_R_same, pe_R_ner, pe_R_nej]); assumption) (k := ?_)
  refine pl_gt (e := rfl) (P := fun s => pe_X d 132 (27, [some (.inr (.inr M))], [], s) Φ) h2 v2 (by decide) (fun τ3 (h3 : pl_N 9 M (pm_tab.take 3) _ σ _) v3 => ?_)
  clear h2 v2
  refine rb132_27 (h0 := by have := h3.1.1; have := h3.1.2; (simp (disch := ((try simp only [pe_n_new, pe_n_wR, pe_n_wI]); omega)) only [pe_n_new, pe_u_new, pe_n_wI, pe_u_wI, pe_n_wR, pe_u_wR, pe_Kn, pe_Ke, pe_Ln, pe_Le, pe_In, pe_Ie, pe_Rn, pe_Re, pe_K_wI, pe_K_wR, pe_L_wI, pe_L_wR, pe_I_wR, pe_R_wI, pe_I_same, pe_I_ner, pe_I_nej, pe_R_same, pe_R_ner, pe_R_nej]); assumption) (k := ?_)
  refine pl_gt (e := rfl) (P := fun s => pe_X d 132 (35, [some (.inr (.inr M))], [], s) Φ) h3 v3 (by decide) (fun τ4 (h4 : pl_N 9 M (pm_tab.take 4) _ σ _) v4 => ?_)
  clear h3 v3
  refine rb132_35 (h0 := by have := h4.1.1; have := h4.1.2; (simp (disch := ((try simp only [pe_n_new, pe_n_wR, pe_n_wI]); omega)) only [pe_n_new, pe_u_new, pe_n_wI, pe_u_wI, pe_n_wR, pe_u_wR, pe_Kn, pe_Ke, pe_Ln, pe_Le, pe_In, pe_Ie, pe_Rn, pe_Re, pe_K_wI, pe_K_wR, pe_L_wI, pe_L_wR, pe_I_wR, pe_R_wI, pe_I_same, pe_I_ner, pe_I_nej, pe_R_same, pe_R_ner, pe_R_nej]); assumption) (k := ?_)
  refine pl_gt (e := rfl) (P := fun s => pe_X d 132 (43, [some (.inr (.inr M))], [], s) Φ) h4 v4 (by decide) (fun τ5 (h5 : pl_N 9 M (pm_tab.take 5) _ σ _) v5 => ?_)
  clear h4 v4
  refine rb132_43 (h0 := by have := h5.1.1; have := h5.1.2; (simp (disch := ((try simp only [pe_n_new, pe_n_wR, pe_n_wI]); omega)) only [pe_n_new, pe_u_new, pe_n_wI, pe_u_wI, pe_n_wR, pe_u_wR, pe_Kn, pe_Ke, pe_Ln, pe_Le, pe_In, pe_Ie, pe_Rn, pe_Re, pe_K_wI, pe_K_wR, pe_L_wI, pe_L_wR, pe_I_wR, pe_R_wI, pe_I_same, pe_I_ner, pe_I_nej, pe_R_same, pe_R_ner, pe_R_nej]); assumption) (k := ?_)
  refine pl_gt (e := rfl) (P := fun s => pe_X d 132 (51, [some (.inr (.inr M))], [], s) Φ) h5 v5 (by decide) (fun τ6 (h6 : pl_N 9 M (pm_tab.take 6) _ σ _) v6 => ?_)
  clear h5 v5
  refine rb132_51 (h0 := by have := h6.1.1; have := h6.1.2; (simp (disch := ((try simp only [pe_n_new, pe_n_wR, pe_n_wI]); omega)) only [pe_n_new, pe_u_new, pe_n_wI, pe_u_wI, pe_n_wR, pe_u_wR, pe_Kn, pe_Ke, pe_Ln, pe_Le, pe_In, pe_Ie, pe_Rn, pe_Re, pe_K_wI, pe_K_wR, pe_L_wI, pe_L_wR, pe_I_wR, pe_R_wI, pe_I_same, pe_I_ner, pe_I_nej, pe_R_same, pe_R_ner, pe_R_nej]); assumption) (k := ?_)
  refine pl_gt (e := rfl) (P := fun s => pe_X d 132 (59, [some (.inr (.inr M))], [], s) Φ) h6 v6 (by decide) (fun τ7 (h7 : pl_N 9 M (pm_tab.take 7) _ σ _) v7 => ?_)
  clear h6 v6
  refine rb132_59 (h0 := by have := h7.1.1; have := h7.1.2; (simp (disch := ((try simp only [pe_n_new, pe_n_wR, pe_n_wI]); omega)) only [pe_n_new, pe_u_new, pe_n_wI, pe_u_wI, pe_n_wR, pe_u_wR, pe_Kn, pe_Ke, pe_Ln, pe_Le, pe_In, pe_Ie, pe_Rn, pe_Re, pe_K_wI, pe_K_wR, pe_L_wI, pe_L_wR, pe_I_wR, pe_R_wI, pe_I_same, pe_I_ner, pe_I_nej, pe_R_same, pe_R_ner, pe_R_nej]); assumption) (k := ?_)
  refine pl_gt (e := rfl) (P := fun s => pe_X d 132 (67, [some (.inr (.inr M))], [], s) Φ) h7 v7 (by decide) (fun τ8 (h8 : pl_N 9 M (pm_tab.take 8) _ σ _) v8 => ?_)
  clear h7 v7
  refine rb132_67 (h0 := by have := h8.1.1; have := h8.1.2; (simp (disch := ((try simp only [pe_n_new, pe_n_wR, pe_n_wI]); omega)) only [pe_n_new, pe_u_new, pe_n_wI, pe_u_wI, pe_n_wR, pe_u_wR, pe_Kn, pe_Ke, pe_Ln, pe_Le, pe_In, pe_Ie, pe_Rn, pe_Re, pe_K_wI, pe_K_wR, pe_L_wI, pe_L_wR, pe_I_wR, pe_R_wI, pe_I_same, pe_I_ner, pe_I_nej, pe_R_same, pe_R_ner, pe_R_nej]); assumption) (k := ?_)
  refine pl_gt (e := rfl) (P := fun s => pe_X d 132 (75, [some (.inr (.inr M))], [], s) Φ) h8 v8 (by decide) (fun τ9 (h9 : pl_N 9 M (pm_tab.take 9) _ σ _) v9 => ?_)
  clear h8 v8
  refine rb132_75 (h0 := by have := h9.1.1; have := h9.1.2; (simp (disch := ((try simp only [pe_n_new, pe_n_wR, pe_n_wI]); omega)) only [pe_n_new, pe_u_new, pe_n_wI, pe_u_wI, pe_n_wR, pe_u_wR, pe_Kn, pe_Ke, pe_Ln, pe_Le, pe_In, pe_Ie, pe_Rn, pe_Re, pe_K_wI, pe_K_wR, pe_L_wI, pe_L_wR, pe_I_wR, pe_R_wI, pe_I_same, pe_I_ner, pe_I_nej, pe_R_same, pe_R_ner, pe_R_nej]); assumption) (k := ?_)
  refine pl_gt (e := rfl) (P := fun s => pe_X d 132 (83, [some (.inr (.inr M))], [], s) Φ) h9 v9 (by decide) (fun τ10 (h10 : pl_N 9 M (pm_tab.take 10) _ σ _) v10 => ?_)
  clear h9 v9
  refine rb132_83 (h0 := by have := h10.1.1; have := h10.1.2; (simp (disch := ((try simp only [pe_n_new, pe_n_wR, pe_n_wI]); omega)) only [pe_n_new, pe_u_new, pe_n_wI, pe_u_wI, pe_n_wR, pe_u_wR, pe_Kn, pe_Ke, pe_Ln, pe_Le, pe_In, pe_Ie, pe_Rn, pe_Re, pe_K_wI, pe_K_wR, pe_L_wI, pe_L_wR, pe_I_wR, pe_R_wI, pe_I_same, pe_I_ner, pe_I_nej, pe_R_same, pe_R_ner, pe_R_nej]); assumption) (k := ?_)
  refine pl_gt (e := rfl) (P := fun s => pe_X d 132 (91, [some (.inr (.inr M))], [], s) Φ) h10 v10 (by decide) (fun τ11 (h11 : pl_N 9 M (pm_tab.take 11) _ σ _) v11 => ?_)
  clear h10 v10
  refine rb132_91 (h0 := by have := h11.1.1; have := h11.1.2; (simp (disch := ((try simp only [pe_n_new, pe_n_wR, pe_n_wI]); omega)) only [pe_n_new, pe_u_new, pe_n_wI, pe_u_wI, pe_n_wR, pe_u_wR, pe_Kn, pe_Ke, pe_Ln, pe_Le, pe_In, pe_Ie, pe_Rn, pe_Re, pe_K_wI, pe_K_wR, pe_L_wI, pe_L_wR, pe_I_wR, pe_R_wI, pe_I_same, pe_I_ner, pe_I_nej, pe_R_same, pe_R_ner, pe_R_nej]); assumption) (k := ?_)
  refine pl_gt (e := rfl) (P := fun s => pe_X d 132 (99, [some (.inr (.inr M))], [], s) Φ) h11 v11 (by decide) (fun τ12 (h12 : pl_N 9 M (pm_tab.take 12) _ σ _) v12 => ?_)
  clear h11 v11
  refine rb132_99 (h0 := by have := h12.1.1; have := h12.1.2; (simp (disch := ((try simp only [pe_n_new, pe_n_wR, pe_n_wI]); omega)) only [pe_n_new, pe_u_new, pe_n_wI, pe_u_wI, pe_n_wR, pe_u_wR, pe_Kn, pe_Ke, pe_Ln, pe_Le, pe_In, pe_Ie, pe_Rn, pe_Re, pe_K_wI, pe_K_wR, pe_L_wI, pe_L_wR, pe_I_wR, pe_R_wI, pe_I_same, pe_I_ner, pe_I_nej, pe_R_same, pe_R_ner, pe_R_nej]); assumption) (k := ?_)
  refine pl_gt (e := rfl) (P := fun s => pe_X d 132 (107, [some (.inr (.inr M))], [], s) Φ) h12 v12 (by decide) (fun τ13 (h13 : pl_N 9 M (pm_tab.take 13) _ σ _) v13 => ?_)
  clear h12 v12
  refine rb132_107 (h0 := by have := h13.1.1; have := h13.1.2; (simp (disch := ((try simp only [pe_n_new, pe_n_wR, pe_n_wI]); omega)) only [pe_n_new, pe_u_new, pe_n_wI, pe_u_wI, pe_n_wR, pe_u_wR, pe_Kn, pe_Ke, pe_Ln, pe_Le, pe_In, pe_Ie, pe_Rn, pe_Re, pe_K_wI, pe_K_wR, pe_L_wI, pe_L_wR, pe_I_wR, pe_R_wI, pe_I_same, pe_I_ner, pe_I_nej, pe_R_same, pe_R_ner, pe_R_nej]); assumption) (k := ?_)
  refine pl_gt (e := rfl) (P := fun s => pe_X d 132 (115, [some (.inr (.inr M))], [], s) Φ) h13 v13 (by decide) (fun τ14 (h14 : pl_N 9 M (pm_tab.take 14) _ σ _) v14 => ?_)
  clear h13 v13
  refine rb132_115 (h0 := by have := h14.1.1; have := h14.1.2; (simp (disch := ((try simp only [pe_n_new, pe_n_wR, pe_n_wI]); omega)) only [pe_n_new, pe_u_new, pe_n_wI, pe_u_wI, pe_n_wR, pe_u_wR, pe_Kn, pe_Ke, pe_Ln, pe_Le, pe_In, pe_Ie, pe_Rn, pe_Re, pe_K_wI, pe_K_wR, pe_L_wI, pe_L_wR, pe_I_wR, pe_R_wI, pe_I_same, pe_I_ner, pe_I_nej, pe_R_same, pe_R_ner, pe_R_nej]); assumption) (k := ?_)
  refine pl_gt (e := rfl) (P := fun s => pe_X d 132 (123, [some (.inr (.inr M))], [], s) Φ) h14 v14 (by decide) (fun τ15 (h15 : pl_N 9 M (pm_tab.take 15) _ σ _) v15 => ?_)
  clear h14 v14
  refine rb132_123 (h0 := by have := h15.1.1; have := h15.1.2; (simp (disch := ((try simp only [pe_n_new, pe_n_wR, pe_n_wI]); omega)) only [pe_n_new, pe_u_new, pe_n_wI, pe_u_wI, pe_n_wR, pe_u_wR, pe_Kn, pe_Ke, pe_Ln, pe_Le, pe_In, pe_Ie, pe_Rn, pe_Re, pe_K_wI, pe_K_wR, pe_L_wI, pe_L_wR, pe_I_wR, pe_R_wI, pe_I_same, pe_I_ner, pe_I_nej, pe_R_same, pe_R_ner, pe_R_nej]); assumption) (k := ?_)
  refine pl_gt (e := rfl) (P := fun s => pe_X d 132 (131, [some (.inr (.inr M))], [], s) Φ) h15 v15 (by decide) (fun τ16 (h16 : pl_N 9 M (pm_tab.take 16) _ σ _) v16 => ?_)
  clear h15 v15
  refine rb132_131 (h0 := by have := h16.1.1; have := h16.1.2; (simp (disch := ((try simp only [pe_n_new, pe_n_wR, pe_n_wI]); omega)) only [pe_n_new, pe_u_new, pe_n_wI, pe_u_wI, pe_n_wR, pe_u_wR, pe_Kn, pe_Ke, pe_Ln, pe_Le, pe_In, pe_Ie, pe_Rn, pe_Re, pe_K_wI, pe_K_wR, pe_L_wI, pe_L_wR, pe_I_wR, pe_R_wI, pe_I_same, pe_I_ner, pe_I_nej, pe_R_same, pe_R_ner, pe_R_nej]); assumption) (k := ?_)
  refine pl_gt (e := rfl) (P := fun s => pe_X d 132 (139, [some (.inr (.inr M))], [], s) Φ) h16 v16 (by decide) (fun τ17 (h17 : pl_N 9 M (pm_tab.take 17) _ σ _) v17 => ?_)
  clear h16 v16
  refine rb132_139 (h0 := by have := h17.1.1; have := h17.1.2; (simp (disch := ((try simp only [pe_n_new, pe_n_wR, pe_n_wI]); omega)) only [pe_n_new, pe_u_new, pe_n_wI, pe_u_wI, pe_n_wR, pe_u_wR, pe_Kn, pe_Ke, pe_Ln, pe_Le, pe_In, pe_Ie, pe_Rn, pe_Re, pe_K_wI, pe_K_wR, pe_L_wI, pe_L_wR, pe_I_wR, pe_R_wI, pe_I_same, pe_I_ner, pe_I_nej, pe_R_same, pe_R_ner, pe_R_nej]); assumption) (k := ?_)
  refine pl_gt (e := rfl) (P := fun s => pe_X d 132 (147, [some (.inr (.inr M))], [], s) Φ) h17 v17 (by decide) (fun τ18 (h18 : pl_N 9 M (pm_tab.take 18) _ σ _) v18 => ?_)
  clear h17 v17
  refine rb132_147 (h0 := by have := h18.1.1; have := h18.1.2; (simp (disch := ((try simp only [pe_n_new, pe_n_wR, pe_n_wI]); omega)) only [pe_n_new, pe_u_new, pe_n_wI, pe_u_wI, pe_n_wR, pe_u_wR, pe_Kn, pe_Ke, pe_Ln, pe_Le, pe_In, pe_Ie, pe_Rn, pe_Re, pe_K_wI, pe_K_wR, pe_L_wI, pe_L_wR, pe_I_wR, pe_R_wI, pe_I_same, pe_I_ner, pe_I_nej, pe_R_same, pe_R_ner, pe_R_nej]); assumption) (k := ?_)
  refine pl_gt (e := rfl) (P := fun s => pe_X d 132 (155, [some (.inr (.inr M))], [], s) Φ) h18 v18 (by decide) (fun τ19 (h19 : pl_N 9 M (pm_tab.take 19) _ σ _) v19 => ?_)
  clear h18 v18
  refine rb132_155 (h0 := by have := h19.1.1; have := h19.1.2; (simp (disch := ((try simp only [pe_n_new, pe_n_wR, pe_n_wI]); omega)) only [pe_n_new, pe_u_new, pe_n_wI, pe_u_wI, pe_n_wR, pe_u_wR, pe_Kn, pe_Ke, pe_Ln, pe_Le, pe_In, pe_Ie, pe_Rn, pe_Re, pe_K_wI, pe_K_wR, pe_L_wI, pe_L_wR, pe_I_wR, pe_R_wI, pe_I_same, pe_I_ner, pe_I_nej, pe_R_same, pe_R_ner, pe_R_nej]); assumption) (k := ?_)
  refine pl_gt (e := rfl) (P := fun s => pe_X d 132 (163, [some (.inr (.inr M))], [], s) Φ) h19 v19 (by decide) (fun τ20 (h20 : pl_N 9 M (pm_tab.take 20) _ σ _) v20 => ?_)
  clear h19 v19
  refine rb132_163 (h0 := by have := h20.1.1; have := h20.1.2; (simp (disch := ((try simp only [pe_n_new, pe_n_wR, pe_n_wI]); omega)) only [pe_n_new, pe_u_new, pe_n_wI, pe_u_wI, pe_n_wR, pe_u_wR, pe_Kn, pe_Ke, pe_Ln, pe_Le, pe_In, pe_Ie, pe_Rn, pe_Re, pe_K_wI, pe_K_wR, pe_L_wI, pe_L_wR, pe_I_wR, pe_R_wI, pe_I_same, pe_I_ner, pe_I_nej, pe_R_same, pe_R_ner, pe_R_nej]); assumption) (k := ?_)
  refine pl_gt (e := rfl) (P := fun s => pe_X d 132 (172, [some (.inr (.inr M))], [], s) Φ) h20 v20 (by decide) (fun τ21 (h21 : pl_N 9 M (pm_tab.take 21) _ σ _) v21 => ?_)
  clear h20 v20
  refine rb132_172 (h0 := by have := h21.1.1; have := h21.1.2; (simp (disch := ((try simp only [pe_n_new, pe_n_wR, pe_n_wI]); omega)) only [pe_n_new, pe_u_new, pe_n_wI, pe_u_wI, pe_n_wR, pe_u_wR, pe_Kn, pe_Ke, pe_Ln, pe_Le, pe_In, pe_Ie, pe_Rn, pe_Re, pe_K_wI, pe_K_wR, pe_L_wI, pe_L_wR, pe_I_wR, pe_R_wI, pe_I_same, pe_I_ner, pe_I_nej, pe_R_same, pe_R_ner, pe_R_nej]); assumption) (k := ?_)
  refine pl_gt (e := rfl) (P := fun s => pe_X d 132 (181, [some (.inr (.inr M))], [], s) Φ) h21 v21 (by decide) (fun τ22 (h22 : pl_N 9 M (pm_tab.take 22) _ σ _) v22 => ?_)
  clear h21 v21
  refine rb132_181 (h0 := by have := h22.1.1; have := h22.1.2; (simp (disch := ((try simp only [pe_n_new, pe_n_wR, pe_n_wI]); omega)) only [pe_n_new, pe_u_new, pe_n_wI, pe_u_wI, pe_n_wR, pe_u_wR, pe_Kn, pe_Ke, pe_Ln, pe_Le, pe_In, pe_Ie, pe_Rn, pe_Re, pe_K_wI, pe_K_wR, pe_L_wI, pe_L_wR, pe_I_wR, pe_R_wI, pe_I_same, pe_I_ner, pe_I_nej, pe_R_same, pe_R_ner, pe_R_nej]); assumption) (k := ?_)
  refine pl_gt (e := rfl) (P := fun s => pe_X d 132 (190, [some (.inr (.inr M))], [], s) Φ) h22 v22 (by decide) (fun τ23 (h23 : pl_N 9 M (pm_tab.take 23) _ σ _) v23 => ?_)
  clear h22 v22
  refine rb132_190 (h0 := by have := h23.1.1; have := h23.1.2; (simp (disch := ((try simp only [pe_n_new, pe_n_wR, pe_n_wI]); omega)) only [pe_n_new, pe_u_new, pe_n_wI, pe_u_wI, pe_n_wR, pe_u_wR, pe_Kn, pe_Ke, pe_Ln, pe_Le, pe_In, pe_Ie, pe_Rn, pe_Re, pe_K_wI, pe_K_wR, pe_L_wI, pe_L_wR, pe_I_wR, pe_R_wI, pe_I_same, pe_I_ner, pe_I_nej, pe_R_same, pe_R_ner, pe_R_nej]); assumption) (k := ?_)
  refine pl_gt (e := rfl) (P := fun s => pe_X d 132 (199, [some (.inr (.inr M))], [], s) Φ) h23 v23 (by decide) (fun τ24 (h24 : pl_N 9 M (pm_tab.take 24) _ σ _) v24 => ?_)
  clear h23 v23
  refine rb132_199 (h0 := by have := h24.1.1; have := h24.1.2; (simp (disch := ((try simp only [pe_n_new, pe_n_wR, pe_n_wI]); omega)) only [pe_n_new, pe_u_new, pe_n_wI, pe_u_wI, pe_n_wR, pe_u_wR, pe_Kn, pe_Ke, pe_Ln, pe_Le, pe_In, pe_Ie, pe_Rn, pe_Re, pe_K_wI, pe_K_wR, pe_L_wI, pe_L_wR, pe_I_wR, pe_R_wI, pe_I_same, pe_I_ner, pe_I_nej, pe_R_same, pe_R_ner, pe_R_nej]); assumption) (k := ?_)
  refine pl_gt (e := rfl) (P := fun s => pe_X d 132 (207, [some (.inr (.inr M))], [], s) Φ) h24 v24 (by decide) (fun τ25 (h25 : pl_N 9 M (pm_tab.take 25) _ σ _) v25 => ?_)
  clear h24 v24
  refine rb132_207 (h0 := by have := h25.1.1; have := h25.1.2; (simp (disch := ((try simp only [pe_n_new, pe_n_wR, pe_n_wI]); omega)) only [pe_n_new, pe_u_new, pe_n_wI, pe_u_wI, pe_n_wR, pe_u_wR, pe_Kn, pe_Ke, pe_Ln, pe_Le, pe_In, pe_Ie, pe_Rn, pe_Re, pe_K_wI, pe_K_wR, pe_L_wI, pe_L_wR, pe_I_wR, pe_R_wI, pe_I_same, pe_I_ner, pe_I_nej, pe_R_same, pe_R_ner, pe_R_nej]); assumption) (k := ?_)
  refine pl_gt (e := rfl) (P := fun s => pe_X d 132 (215, [some (.inr (.inr M))], [], s) Φ) h25 v25 (by decide) (fun τ26 (h26 : pl_N 9 M (pm_tab.take 26) _ σ _) v26 => ?_)
  clear h25 v25
  refine rb132_215 (h0 := h26.1.1) (k := ?_)
  refine pl_go1 (P := fun s => pe_X d 132 (221, [some (.inr (.inr M))], [], s) Φ) h26 v26 (fun τ27 h27 v27 => ?_)
  clear h26 v26
  refine rb132_221 (h0 := by have := h27.1.1; have := h27.1.2; (simp (disch := ((try simp only [pe_n_new, pe_n_wR, pe_n_wI]); omega)) only [pe_n_new, pe_u_new, pe_n_wI, pe_u_wI, pe_n_wR, pe_u_wR, pe_Kn, pe_Ke, pe_Ln, pe_Le, pe_In, pe_Ie, pe_Rn, pe_Re, pe_K_wI, pe_K_wR, pe_L_wI, pe_L_wR, pe_I_wR, pe_R_wI, pe_I_same, pe_I_ner, pe_I_nej, pe_R_same, pe_R_ner, pe_R_nej]); assumption) (k := ?_)
  refine pl_gt (e := rfl) (P := fun s => pe_X d 132 (229, [some (.inr (.inr M))], [], s) Φ) h27 v27 (by decide) (fun τ28 (h28 : pl_N 9 M (pm_tab.take 27) _ σ _) v28 => ?_)
  clear h27 v27
  refine rb132_229 (h0 := by have := h28.1.1; have := h28.1.2; (simp (disch := ((try simp only [pe_n_new, pe_n_wR, pe_n_wI]); omega)) only [pe_n_new, pe_u_new, pe_n_wI, pe_u_wI, pe_n_wR, pe_u_wR, pe_Kn, pe_Ke, pe_Ln, pe_Le, pe_In, pe_Ie, pe_Rn, pe_Re, pe_K_wI, pe_K_wR, pe_L_wI, pe_L_wR, pe_I_wR, pe_R_wI, pe_I_same, pe_I_ner, pe_I_nej, pe_R_same, pe_R_ner, pe_R_nej]); assumption) (k := ?_)
  refine pl_gt (e := rfl) (P := fun s => pe_X d 132 (237, [some (.inr (.inr M))], [], s) Φ) h28 v28 (by decide) (fun τ29 (h29 : pl_N 9 M (pm_tab.take 28) _ σ _) v29 => ?_)
  clear h28 v28
  refine rb132_237 (h0 := by have := h29.1.1; have := h29.1.2; (simp (disch := ((try simp only [pe_n_new, pe_n_wR, pe_n_wI]); omega)) only [pe_n_new, pe_u_new, pe_n_wI, pe_u_wI, pe_n_wR, pe_u_wR, pe_Kn, pe_Ke, pe_Ln, pe_Le, pe_In, pe_Ie, pe_Rn, pe_Re, pe_K_wI, pe_K_wR, pe_L_wI, pe_L_wR, pe_I_wR, pe_R_wI, pe_I_same, pe_I_ner, pe_I_nej, pe_R_same, pe_R_ner, pe_R_nej]); assumption) (k := ?_)
  refine pl_gt (e := rfl) (P := fun s => pe_X d 132 (245, [some (.inr (.inr M))], [], s) Φ) h29 v29 (by decide) (fun τ30 (h30 : pl_N 9 M (pm_tab.take 29) _ σ _) v30 => ?_)
  clear h29 v29
  refine rb132_245 (h0 := by have := h30.1.1; have := h30.1.2; (simp (disch := ((try simp only [pe_n_new, pe_n_wR, pe_n_wI]); omega)) only [pe_n_new, pe_u_new, pe_n_wI, pe_u_wI, pe_n_wR, pe_u_wR, pe_Kn, pe_Ke, pe_Ln, pe_Le, pe_In, pe_Ie, pe_Rn, pe_Re, pe_K_wI, pe_K_wR, pe_L_wI, pe_L_wR, pe_I_wR, pe_R_wI, pe_I_same, pe_I_ner, pe_I_nej, pe_R_same, pe_R_ner, pe_R_nej]); assumption) (k := ?_)
  refine pl_gt (e := rfl) (P := fun s => pe_X d 132 (253, [some (.inr (.inr M))], [], s) Φ) h30 v30 (by decide) (fun τ31 (h31 : pl_N 9 M (pm_tab.take 30) _ σ _) v31 => ?_)
  clear h30 v30
  refine rb132_253 (h0 := by have := h31.1.1; have := h31.1.2; (simp (disch := ((try simp only [pe_n_new, pe_n_wR, pe_n_wI]); omega)) only [pe_n_new, pe_u_new, pe_n_wI, pe_u_wI, pe_n_wR, pe_u_wR, pe_Kn, pe_Ke, pe_Ln, pe_Le, pe_In, pe_Ie, pe_Rn, pe_Re, pe_K_wI, pe_K_wR, pe_L_wI, pe_L_wR, pe_I_wR, pe_R_wI, pe_I_same, pe_I_ner, pe_I_nej, pe_R_same, pe_R_ner, pe_R_nej]); assumption) (k := ?_)
  refine pl_gt (e := rfl) (P := fun s => pe_X d 132 (261, [some (.inr (.inr M))], [], s) Φ) h31 v31 (by decide) (fun τ32 (h32 : pl_N 9 M (pm_tab.take 31) _ σ _) v32 => ?_)
  clear h31 v31
  refine rb132_261 (h0 := by have := h32.1.1; have := h32.1.2; (simp (disch := ((try simp only [pe_n_new, pe_n_wR, pe_n_wI]); omega)) only [pe_n_new, pe_u_new, pe_n_wI, pe_u_wI, pe_n_wR, pe_u_wR, pe_Kn, pe_Ke, pe_Ln, pe_Le, pe_In, pe_Ie, pe_Rn, pe_Re, pe_K_wI, pe_K_wR, pe_L_wI, pe_L_wR, pe_I_wR, pe_R_wI, pe_I_same, pe_I_ner, pe_I_nej, pe_R_same, pe_R_ner, pe_R_nej]); assumption) (k := ?_)
  refine pl_gt (e := rfl) (P := fun s => pe_X d 132 (270, [some (.inr (.inr M))], [], s) Φ) h32 v32 (by decide) (fun τ33 (h33 : pl_N 9 M (pm_tab.take 32) _ σ _) v33 => ?_)
  clear h32 v32
  refine rb132_270 (h0 := by have := h33.1.1; have := h33.1.2; (simp (disch := ((try simp only [pe_n_new, pe_n_wR, pe_n_wI]); omega)) only [pe_n_new, pe_u_new, pe_n_wI, pe_u_wI, pe_n_wR, pe_u_wR, pe_Kn, pe_Ke, pe_Ln, pe_Le, pe_In, pe_Ie, pe_Rn, pe_Re, pe_K_wI, pe_K_wR, pe_L_wI, pe_L_wR, pe_I_wR, pe_R_wI, pe_I_same, pe_I_ner, pe_I_nej, pe_R_same, pe_R_ner, pe_R_nej]); assumption) (k := ?_)
  refine pl_gt (e := rfl) (P := fun s => pe_X d 132 (278, [some (.inr (.inr M))], [], s) Φ) h33 v33 (by decide) (fun τ34 (h34 : pl_N 9 M (pm_tab.take 33) _ σ _) v34 => ?_)
  clear h33 v33
  refine rb132_278 (h0 := by have := h34.1.1; have := h34.1.2; (simp (disch := ((try simp only [pe_n_new, pe_n_wR, pe_n_wI]); omega)) only [pe_n_new, pe_u_new, pe_n_wI, pe_u_wI, pe_n_wR, pe_u_wR, pe_Kn, pe_Ke, pe_Ln, pe_Le, pe_In, pe_Ie, pe_Rn, pe_Re, pe_K_wI, pe_K_wR, pe_L_wI, pe_L_wR, pe_I_wR, pe_R_wI, pe_I_same, pe_I_ner, pe_I_nej, pe_R_same, pe_R_ner, pe_R_nej]); assumption) (k := ?_)
  refine pl_gt (e := rfl) (P := fun s => pe_X d 132 (286, [some (.inr (.inr M))], [], s) Φ) h34 v34 (by decide) (fun τ35 (h35 : pl_N 9 M (pm_tab.take 34) _ σ _) v35 => ?_)
  clear h34 v34
  refine rb132_286 (h0 := by have := h35.1.1; have := h35.1.2; (simp (disch := ((try simp only [pe_n_new, pe_n_wR, pe_n_wI]); omega)) only [pe_n_new, pe_u_new, pe_n_wI, pe_u_wI, pe_n_wR, pe_u_wR, pe_Kn, pe_Ke, pe_Ln, pe_Le, pe_In, pe_Ie, pe_Rn, pe_Re, pe_K_wI, pe_K_wR, pe_L_wI, pe_L_wR, pe_I_wR, pe_R_wI, pe_I_same, pe_I_ner, pe_I_nej, pe_R_same, pe_R_ner, pe_R_nej]); assumption) (k := ?_)
  refine pl_gt (e := rfl) (P := fun s => pe_X d 132 (295, [some (.inr (.inr M))], [], s) Φ) h35 v35 (by decide) (fun τ36 (h36 : pl_N 9 M (pm_tab.take 35) _ σ _) v36 => ?_)
  clear h35 v35
  refine rb132_295 (h0 := by have := h36.1.1; have := h36.1.2; (simp (disch := ((try simp only [pe_n_new, pe_n_wR, pe_n_wI]); omega)) only [pe_n_new, pe_u_new, pe_n_wI, pe_u_wI, pe_n_wR, pe_u_wR, pe_Kn, pe_Ke, pe_Ln, pe_Le, pe_In, pe_Ie, pe_Rn, pe_Re, pe_K_wI, pe_K_wR, pe_L_wI, pe_L_wR, pe_I_wR, pe_R_wI, pe_I_same, pe_I_ner, pe_I_nej, pe_R_same, pe_R_ner, pe_R_nej]); assumption) (k := ?_)
  refine pl_gt (e := rfl) (P := fun s => pe_X d 132 (303, [some (.inr (.inr M))], [], s) Φ) h36 v36 (by decide) (fun τ37 (h37 : pl_N 9 M (pm_tab.take 36) _ σ _) v37 => ?_)
  clear h36 v36
  refine rb132_303 (h0 := by have := h37.1.1; have := h37.1.2; (simp (disch := ((try simp only [pe_n_new, pe_n_wR, pe_n_wI]); omega)) only [pe_n_new, pe_u_new, pe_n_wI, pe_u_wI, pe_n_wR, pe_u_wR, pe_Kn, pe_Ke, pe_Ln, pe_Le, pe_In, pe_Ie, pe_Rn, pe_Re, pe_K_wI, pe_K_wR, pe_L_wI, pe_L_wR, pe_I_wR, pe_R_wI, pe_I_same, pe_I_ner, pe_I_nej, pe_R_same, pe_R_ner, pe_R_nej]); assumption) (k := ?_)
  refine pl_gt (e := rfl) (P := fun s => pe_X d 132 (311, [some (.inr (.inr M))], [], s) Φ) h37 v37 (by decide) (fun τ38 (h38 : pl_N 9 M (pm_tab.take 37) _ σ _) v38 => ?_)
  clear h37 v37
  refine rb132_311 (h0 := by have := h38.1.1; have := h38.1.2; (simp (disch := ((try simp only [pe_n_new, pe_n_wR, pe_n_wI]); omega)) only [pe_n_new, pe_u_new, pe_n_wI, pe_u_wI, pe_n_wR, pe_u_wR, pe_Kn, pe_Ke, pe_Ln, pe_Le, pe_In, pe_Ie, pe_Rn, pe_Re, pe_K_wI, pe_K_wR, pe_L_wI, pe_L_wR, pe_I_wR, pe_R_wI, pe_I_same, pe_I_ner, pe_I_nej, pe_R_same, pe_R_ner, pe_R_nej]); assumption) (k := ?_)
  refine pl_gt (e := rfl) (P := fun s => pe_X d 132 (320, [some (.inr (.inr M))], [], s) Φ) h38 v38 (by decide) (fun τ39 (h39 : pl_N 9 M (pm_tab.take 38) _ σ _) v39 => ?_)
  clear h38 v38
  refine rb132_320 (h0 := by have := h39.1.1; have := h39.1.2; (simp (disch := ((try simp only [pe_n_new, pe_n_wR, pe_n_wI]); omega)) only [pe_n_new, pe_u_new, pe_n_wI, pe_u_wI, pe_n_wR, pe_u_wR, pe_Kn, pe_Ke, pe_Ln, pe_Le, pe_In, pe_Ie, pe_Rn, pe_Re, pe_K_wI, pe_K_wR, pe_L_wI, pe_L_wR, pe_I_wR, pe_R_wI, pe_I_same, pe_I_ner, pe_I_nej, pe_R_same, pe_R_ner, pe_R_nej]); assumption) (k := ?_)
  refine pl_gt (e := rfl) (P := fun s => pe_X d 132 (329, [some (.inr (.inr M))], [], s) Φ) h39 v39 (by decide) (fun τ40 (h40 : pl_N 9 M (pm_tab.take 39) _ σ _) v40 => ?_)
  clear h39 v39
  refine rb132_329 (h0 := by have := h40.1.1; have := h40.1.2; (simp (disch := ((try simp only [pe_n_new, pe_n_wR, pe_n_wI]); omega)) only [pe_n_new, pe_u_new, pe_n_wI, pe_u_wI, pe_n_wR, pe_u_wR, pe_Kn, pe_Ke, pe_Ln, pe_Le, pe_In, pe_Ie, pe_Rn, pe_Re, pe_K_wI, pe_K_wR, pe_L_wI, pe_L_wR, pe_I_wR, pe_R_wI, pe_I_same, pe_I_ner, pe_I_nej, pe_R_same, pe_R_ner, pe_R_nej]); assumption) (k := ?_)
  refine pl_gt (e := rfl) (P := fun s => pe_X d 132 (337, [some (.inr (.inr M))], [], s) Φ) h40 v40 (by decide) (fun τ41 (h41 : pl_N 9 M (pm_tab.take 40) _ σ _) v41 => ?_)
  clear h40 v40
  refine rb132_337 (h0 := by have := h41.1.1; have := h41.1.2; (simp (disch := ((try simp only [pe_n_new, pe_n_wR, pe_n_wI]); omega)) only [pe_n_new, pe_u_new, pe_n_wI, pe_u_wI, pe_n_wR, pe_u_wR, pe_Kn, pe_Ke, pe_Ln, pe_Le, pe_In, pe_Ie, pe_Rn, pe_Re, pe_K_wI, pe_K_wR, pe_L_wI, pe_L_wR, pe_I_wR, pe_R_wI, pe_I_same, pe_I_ner, pe_I_nej, pe_R_same, pe_R_ner, pe_R_nej]); assumption) (k := ?_)
  refine pl_gt (e := rfl) (P := fun s => pe_X d 132 (345, [some (.inr (.inr M))], [], s) Φ) h41 v41 (by decide) (fun τ42 (h42 : pl_N 9 M (pm_tab.take 41) _ σ _) v42 => ?_)
  clear h41 v41
  refine rb132_345 (h0 := by have := h42.1.1; have := h42.1.2; (simp (disch := ((try simp only [pe_n_new, pe_n_wR, pe_n_wI]); omega)) only [pe_n_new, pe_u_new, pe_n_wI, pe_u_wI, pe_n_wR, pe_u_wR, pe_Kn, pe_Ke, pe_Ln, pe_Le, pe_In, pe_Ie, pe_Rn, pe_Re, pe_K_wI, pe_K_wR, pe_L_wI, pe_L_wR, pe_I_wR, pe_R_wI, pe_I_same, pe_I_ner, pe_I_nej, pe_R_same, pe_R_ner, pe_R_nej]); assumption) (k := ?_)
  refine pl_gt (e := rfl) (P := fun s => pe_X d 132 (353, [some (.inr (.inr M))], [], s) Φ) h42 v42 (by decide) (fun τ43 (h43 : pl_N 9 M (pm_tab.take 42) _ σ _) v43 => ?_)
  clear h42 v42
  refine rb132_353 (h0 := h43.1.1) (k := ?_)
  refine pl_go1 (P := fun s => pe_X d 132 (358, [some (.inr (.inr M))], [], s) Φ) h43 v43 (fun τ44 h44 v44 => ?_)
  clear h43 v43
  refine rb132_358 (k := ?_)
  obtain ⟨e1, e2, e3⟩ := pl_N.F (show pl_N 9 M pm_tab pm_z0 σ τ44 from h44) h2
  exact k _ e1 (by omega) e2 e3 h44.2.2.2.2.1
theorem pm_z0_gt {k : Nat} {j : Int} (h : k ≠ 0) : pm_z0 k j = 0 := by unfold pm_z0; simp only [pm_uk h]
theorem pm_R_at0 : pm_R pm_z0 pa_0 := by
  refine ⟨fun _ => (0, []), 0, ⟨⟨rfl, rfl, rfl, rfl, fun g hg => ?_⟩, ⟨by decide, fun i i0 i1 => absurd i1 (by omega)⟩, fun c c0 c1 => ?_, fun p p0 p5 => ⟨pm_z0_gt (by decide), fun i i0 i1 => absurd i1 (by show ¬ i < (0 : Int); omega)⟩, fun k hk ch h0 h3 => ⟨pm_z0_gt (by decide), fun i hi => absurd hi (Nat.not_lt_zero _)⟩⟩, Int.le_refl _⟩
  · have e : ∀ j, pm_z0 g j = 0 := fun j => pm_z0_gt (by rcases hg with q | q <;> omega)
    exact ⟨by rw [e]; exact Int.le_refl _, fun j j0 j1 => by rw [e] at j1; omega⟩
  · have : c < 0 := c1; omega
theorem pm_RS_z : pm_RS pm_z0 pa_h0 := fun d d0 d8 => ⟨pm_z0_gt (by decide), fun q => absurd (show (0 : Int) = 1 from q) (by decide), fun q => absurd (show (0 : Int) = 2 from q) (by decide)⟩
theorem pm_Im_z : pm_Im pm_z0 none := ⟨fun _ => rfl, fun b hb => by cases hb⟩
end
