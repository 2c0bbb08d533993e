/-! THE LAW: send, close, who could go -/
section
variable {d o r q x y : Nat} {Z : Int → Prop} {Φ : Option pe_V → pe_H → Prop} {σ σ' : pe_H} {g g' : Nat → Int} {c e v n : Int} {a s : pa_M} {w : pa_C} {nu : Nat → Int} {k0 : Nat} {l : List Int} {f : pa_F} {fs : List pa_F}
theorem k159 (hR : ll_R σ g a) (hwf : pa_wf0 a) (h0 : 0 ≤ c) (h1 : c < a.1 4) (k1 : (a.2.1 c).1 2 ≤ 2 → Φ (some (.inl 1)) σ) (k0 : ¬ (a.2.1 c).1 2 ≤ 2 → Φ (some (.inl 0)) σ) : pe_M (d + 1) 159 [.inr (.inr 3), .inl c] σ Φ := by
  have h8 := hwf.1
  have hL := hR.L
  have hK := hR.K h0 h1
  have es := hR.st h0 h1
  have hb := (hwf.2.2.1 c h0 h1).1.2.1
  refine pe_M_of ck159 (Nat.le_of_ble_eq_true rfl) ?_
  refine b159_0 (k1 := fun r1 => ?_) (k2 := fun r1 => ?_)
  · refine b159_17 (k := ?_)
    refine b159_18 (k := ?_)
    exact k0 (by omega)
  · refine b159_13 (k := ?_)
    refine b159_18 (k := ?_)
    exact k1 (by omega)
theorem k148 {m : Int} (hm : 0 ≤ m ∧ m ≤ 255) (hc : 0 ≤ c ∧ c < 8) (k1 : pb_h m c.toNat = true → Φ (some (.inl 1)) σ) (k0 : ¬ pb_h m c.toNat = true → Φ (some (.inl 0)) σ) : pe_M (d + 1) 148 [.inl m, .inl c] σ Φ := by
  obtain ⟨u, hu⟩ := pb_fin hm.1 hm.2
  have key := pb_h_get u ⟨c.toNat, by omega⟩
  dsimp only at key
  rw [hu, show ((c.toNat : Nat) : Int) = c by omega] at key
  have hr : 0 ≤ pe_and (pe_shr m c) 1 ∧ pe_and (pe_shr m c) 1 ≤ 1 := by rw [key]; split <;> omega
  refine pe_M_of ck148 (Nat.le_of_ble_eq_true rfl) ?_
  refine b148_0 (k1 := fun r1 => ?_) (k2 := fun r1 => ?_)
  · refine b148_13 (k := ?_)
    refine b148_14 (k := ?_)
    refine k0 (fun h => r1 ?_)
    rw [key, if_pos h]
  · refine b148_9 (k := ?_)
    refine b148_14 (k := ?_)
    refine k1 ?_
    by_cases h : pb_h m c.toNat = true
    · exact h
    · rw [key, if_neg h] at r1
      omega
theorem k160_loop : ∀ (m : Nat) (i : Int) (σ1 : pe_H) (g1 : Nat → Int) (s : pa_M) (o2 : Option pe_V), i + m = 40 → 0 ≤ i → ll_R σ1 g1 s → pa_wf s → 0 ≤ c → c < s.1 4 → (∀ σ2 g2, ll_fr ll_Zs (61 * m) (194 * m) σ1 g1 σ2 g2 → ll_R σ2 g2 (pa_loop m s c) → Φ none σ2) → pe_X (d + 13) 160 (12, [some (.inr (.inr 3)), some (.inl c), o2, some (.inl i)], [], σ1) Φ
  | 0, i, σ1, g1, s, o2, hi, hi0, hR, hwf, h0, h1, k => by
    have hL := hR.L
    refine b160_12 (k1 := fun _ => ?_) (k2 := fun r => by omega)
    refine b160_43 (k := ?_)
    exact k σ1 g1 (ll_fr_mono (ll_fr_refl _ hR.gg) (fun _ h => h)) hR
  | m + 1, i, σ1, g1, s, o2, hi, hi0, hR, hwf, h0, h1, k => by
    have h8 := hwf.1.1
    have hL := hR.L
    have hK := hR.K h0 h1
    have es := hR.st h0 h1
    have hb := (hwf.1.2.2.1 c h0 h1).1.2.1
    refine b160_12 (k1 := fun r => by omega) (k2 := fun _ => ?_)
    refine b160_18 (k1 := fun r1 => ?_) (k2 := fun r1 => ?_)
    · refine b160_43 (k := ?_)
      refine k σ1 g1 (ll_fr_mono (ll_fr_refl _ hR.gg) (fun _ h => h)) ?_
      unfold pa_loop
      rw [if_neg (by omega)]
      exact hR
    · have h3 : (s.2.1 c).1 2 = 1 := by omega
      refine b160_31 (k := ?_)
      refine k157 (b := false) hR hwf h0 h1 h3 (fun σ2 g2 p2 hR2 => ?_)
      have hw2 := pa_step_wf (cl := false) hwf ⟨h0, h1⟩ (by omega)
      have e1 := (pa_step_1 (cl := false) hwf ⟨h0, h1⟩ (by omega : (s.2.1 c).1 2 < 3)).1
      have h1' : c < (pa_step s c false).1 4 := by rw [e1]; exact h1
      have hL2 := hR2.L
      refine b160_37 (k := ?_)
      refine k160_loop m (i + 1) σ2 g2 _ _ (by omega) (by omega) hR2 hw2 h0 h1' (fun σ3 g3 e2 e3 => k σ3 g3 (ll_fr_mono (ll_fr_trans p2 e2) (fun _ h => h)) ?_)
      unfold pa_loop
      rw [if_pos h3]
      exact e3
/-- send -/
theorem k160 (hR : ll_R σ g a) (hwf : pa_wf a) (h0 : 0 ≤ c) (h1 : c < a.1 4) (h2 : (a.2.1 c).1 2 ≤ 2) (hv : 0 ≤ v ∧ v ≤ 999) (k : ∀ σ2 g2, ll_fr ll_Zs 2440 7760 σ g σ2 g2 → ll_R σ2 g2 (pa_send a c v) → Φ none σ2) : pe_M (d + 14) 160 [.inr (.inr 3), .inl c, .inl v] σ Φ := by
  have h8 := hwf.1.1
  have hL := hR.L
  have hK := hR.K h0 h1
  refine pe_M_of ck160 (Nat.le_of_ble_eq_true rfl) ?_
  refine b160_0 (k := ?_)
  refine pe_M.up (k142 (d := 0) h0 hR.gg (hR.co h0 h1) (hwf.1.2.2.1 c h0 h1).1 hv (fun σ1 p1 C1 => ?_)) (by omega)
  have hR1 := hR.one hwf.1.w9 h0 h1 p1 C1
  have hw1 := pa_take_wf3 hwf h0 h1 h2 hv
  have hL1 := hR1.L
  refine b160_10 (k := ?_)
  refine k160_loop 40 0 σ1 g _ _ (by decide) (by decide) hR1 hw1 h0 h1 (fun σ3 g3 e1 e2 => k σ3 g3 (ll_fr_mono (ll_fr_trans (ll_fr_mono (x' := 0) (y' := 0) p1 (fun z hz => ll_Zc_s h0 hz)) e1) (fun _ h => h)) e2)
theorem k161_loop : ∀ (m : Nat) (n' : Nat) (σ1 : pe_H) (g1 : Nat → Int) (s : pa_M), ll_R σ1 g1 s → pa_wf s → 0 ≤ c → c < s.1 4 → ((s.2.1 c).1 2 = 1 ∨ 6 ≤ (s.2.1 c).1 2) → pa_mu (s.2.1 c).2.2 < m → m ≤ n' → (∀ σ2 g2, ll_fr ll_Zs (61 * m + 49) (194 * m + 98) σ1 g1 σ2 g2 → ll_R σ2 g2 (pa_cl n' s c) → Φ none σ2) → pe_X (d + 13) 161 (24, [some (.inr (.inr 3)), some (.inl c)], [], σ1) Φ
  | 0, n', σ1, g1, s, hR, hwf, h0, h1, h16, hmu, hmn, k => by
    have := pa_mu_0 _ (hwf.1.2.2.1 c h0 h1).2.2.1
    omega
  | m + 1, 0, σ1, g1, s, hR, hwf, h0, h1, h16, hmu, hmn, k => by omega
  | m + 1, n' + 1, σ1, g1, s, hR, hwf, h0, h1, h16, hmu, hmn, k => by
    have h8 := hwf.1.1
    have hL := hR.L
    have hK := hR.K h0 h1
    have es := hR.st h0 h1
    have hb := (hwf.1.2.2.1 c h0 h1).1.2.1
    refine b161_24 (k1 := fun r1 => ?_) (k2 := fun r1 => ?_)
    · refine b161_47 (k := ?_)
      refine pe_M.up (k155M (d := 0) hR hwf.w3 h0 h1 (hwf.2.2.2.mxx c) (fun σ2 g2 p2 hR2 => ?_)) (by omega)
      have hL2 := hR2.L
      refine b161_52 (k := ?_)
      refine k σ2 g2 (ll_fr_mono p2 (fun _ h => h)) ?_
      unfold pa_cl
      rw [if_pos (by omega)]
      rw [pa_settle_id hwf.2.2.2, ite_self] at hR2
      exact hR2
    · have h3 : (s.2.1 c).1 2 = 1 := by omega
      refine b161_38 (k := ?_)
      refine k157 (b := true) hR hwf h0 h1 h3 (fun σ2 g2 p2 hR2 => ?_)
      have hw2 := pa_step_wf (cl := true) hwf ⟨h0, h1⟩ (by omega)
      have e1 := (pa_step_1 (cl := true) hwf ⟨h0, h1⟩ (by omega : (s.2.1 c).1 2 < 3)).1
      have h1' : c < (pa_step s c true).1 4 := by rw [e1]; exact h1
      have hmu2 := pa_mu_step hwf ⟨h0, h1⟩ h3
      have hL2 := hR2.L
      refine b161_44 (k := ?_)
      refine k161_loop m n' σ2 g2 _ hR2 hw2 h0 h1' (pa_step_cl hwf ⟨h0, h1⟩ h3) (by omega) (by omega) (fun σ3 g3 e2 e3 => k σ3 g3 (ll_fr_mono (ll_fr_trans p2 e2) (fun _ h => h)) ?_)
      unfold pa_cl
      rw [if_neg (by omega)]
      exact e3
/-- close -/
theorem k161 (hR : ll_R σ g a) (hwf : pa_wf a) (h0 : 0 ≤ c) (h1 : c < a.1 4) (h6 : (a.2.1 c).1 2 < 6) (k : ∀ σ2 g2, ll_fr ll_Zs 9700 30700 σ g σ2 g2 → ll_R σ2 g2 (pa_shut a c) → Φ none σ2) : pe_M (d + 14) 161 [.inr (.inr 3), .inl c] σ Φ := by
  have h8 := hwf.1.1
  have hc8 : c < 8 := by omega
  have hwc := hwf.1.2.2.1 c h0 h1
  have hL := hR.L
  refine pe_M_of ck161 (Nat.le_of_ble_eq_true rfl) ?_
  refine b161_0 (k := ?_)
  refine pe_M.up (k152 (d := 0) hR hwf.1.w9 ⟨h0, hc8⟩ (ll_len8 hwf.2.1 h8.2) (fun σ1 g1 p1 hR1 => ?_)) (by omega)
  have hw9 : pa_wf9 (pa_lv a c) := hwf.1.w9
  have hL1 := hR1.L
  have h1l : c < (pa_lv a c).1 4 := h1
  have hK1 := hR1.K h0 h1l
  refine b161_5 (k := ?_)
  obtain ⟨p2, hR2⟩ := hR1.num hw9 h0 h1l (by decide) (hR1.co h0 h1l).2.1.on (fun q => by simp [pa_s] at q)
  have hR2 : ll_R _ g1 (pa_cw (pa_lv a c) c (pa_on (a.2.1 c))) := hR2
  have hL2 := hR2.L
  have hK2 := hR2.K h0 h1l
  have hC2 := hR2.co h0 h1l
  rw [pa_cw_same] at hC2
  have hw92 : pa_wf9 (pa_cw (pa_lv a c) c (pa_on (a.2.1 c))) := pa_wf9_cw hw9 hwc.2.1
  generalize pe_wI σ1 (pe_R σ1 891 c) 3 1 = σ2 at *
  refine b161_15 (k := ?_)
  refine pe_M.up (k140 (d := 0) h0 p2.gg hC2 hwc.2.1 hwc.2.2.1 (by rw [pa_on2]; decide) (fun σ3 g3 p3 C3 => ?_)) (by omega)
  have hR3 := hR2.one hw92 h0 h1l p3 C3
  rw [pa_cw_cw] at hR3
  have hR3 : ll_R σ3 g3 (pa_shut1 a c) := hR3
  have p03 : ll_fr ll_Zs 12 96 σ g σ3 g3 := ll_fr_mono (ll_fr_trans (ll_fr_trans p1 p2) (ll_fr_mono (x' := 0) (y' := 0) p3 (fun z hz => ll_Zc_s h0 hz))) (fun _ h => h)
  obtain ⟨k1, k2, k3'⟩ := pa_shut1_wf hwf h0 h1 h6
  obtain ⟨u1, u2, u3, u4⟩ := pa_shut2_wf hwf h0 h1 h6
  have h1' : c < (pa_shut1 a c).1 4 := h1
  have hb1 := (k1.1.2.2.1 c h0 h1').1.2.1
  by_cases r6 : 6 ≤ ((pa_shut1 a c).2.1 c).1 2
  · have e : pa_shut2 a c = pa_settle (pa_shut1 a c) := if_pos r6
    have hc6 : 6 ≤ ((pa_shut2 a c).2.1 c).1 2 := by
      rw [e]
      rcases (pa_settle_mid (pa_shut1 a c)).2.2 c with r | ⟨m, r⟩
      · rw [r]; exact r6
      · have := (pa_told_5 r).2.1; omega
    have hL3 := hR3.L
    have hK3 := hR3.K h0 h1'
    have es3 := hR3.st h0 h1'
    refine b161_24 (k1 := fun _ => ?_) (k2 := fun r => by omega)
    refine b161_47 (k := ?_)
    refine pe_M.up (k155M (d := 0) hR3 k1 h0 h1' k2 (fun σ4 g4 p4 hR4 => ?_)) (by omega)
    have hL4 := hR4.L
    refine b161_52 (k := ?_)
    refine k σ4 g4 (ll_fr_mono (ll_fr_trans p03 p4) (fun _ h => h)) ?_
    have : pa_shut a c = pa_settle (pa_shut1 a c) := by
      unfold pa_shut pa_cl
      rw [if_pos hc6, e]
    rw [this]
    rw [if_pos r6] at hR4
    exact hR4
  · have e : pa_shut2 a c = pa_shut1 a c := if_neg r6
    rw [e] at u1 u4
    have hff := (u1.1.2.2.1 c h0 h1')
    have hmu := pa_mu_156 _ hff.2.2.1
    have hl6 := hff.2.1
    refine k161_loop 157 1000 σ3 g3 _ hR3 u1 h0 h1' u4 (by omega) (by decide) (fun σ4 g4 f1 f2 => k σ4 g4 (ll_fr_mono (ll_fr_trans p03 f1) (fun _ h => h)) ?_)
    unfold pa_shut
    rw [e]
    exact f2
end
