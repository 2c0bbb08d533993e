/-! THE MODEL: public methods, send to rounds -/
/-- what a public call of the model may change, that keeps shelves and image -/
def pm_Zp (k : Nat) (j : Int) : Prop := ¬ ((27 ≤ k ∧ k ≤ 32) ∨ k = 39 ∨ k = 101 ∨ (k = 0 ∧ j = 50))
theorem pm_Zs_Zp (k : Nat) (j : Int) (h : pm_Zs k j) : pm_Zp k j := by unfold pm_Zs at h; unfold pm_Zp; omega
noncomputable def pa_doSend (a : pa_M) (c v : Int) : pa_M × Int := if ¬ ((0 ≤ c ∧ c < a.1 4) ∧ 0 ≤ v ∧ v ≤ 999) then (a, -1) else if 2 < (a.2.1 c).1 2 then (a, -3) else (pa_send a c v, ((pa_send a c v).2.1 c).1 2)
noncomputable def pa_doClose (a : pa_M) (c : Int) : pa_M × Int := if ¬ (0 ≤ c ∧ c < a.1 4) then (a, -1) else if 6 ≤ (a.2.1 c).1 2 then (a, -3) else (pa_shut a c, ((pa_shut a c).2.1 c).1 2)
def pa_doWidth (a : pa_M) (w : Int) : pa_M × Int := if ¬ (1 ≤ w ∧ w ≤ 8) then (a, -1) else ((pa_s a.1 5 w, a.2), a.1 5)
section
variable {d M q : Nat} {Φ : Option pe_V → pe_H → Prop} {σ : pe_H} {y : Nat → Int → Int} {a : pa_M} {c : Int}
theorem pm_R_37 (hM : pm_R y a) (hw8 : pa_wf8 a) : pm_R (pm_u y 0 37 0) a := by
  have h := hM.cnt
  refine pm_R_0 hM hw8 (fun k hk => ?_) ?_ ?_ ?_ ?_ rfl rfl
  · funext j; simp [pm_u, hk]
  · simp [pm_u, h.1]
  · simp [pm_u, h.2.1]
  · simp [pm_u, h.2.2]
  · simp [pm_u]
theorem pm_Zp_37 (y : Nat → Int → Int) : pm_fr pm_Zp y (pm_u y 0 37 0) := pm_fr_u (by unfold pm_Zp; omega)
theorem pa_loop_wf : ∀ (m : Nat) (s : pa_M), pa_wf s → 0 ≤ c → c < s.1 4 → pa_wf (pa_loop m s c) ∧ (pa_loop m s c).1 = s.1
  | 0, s, h, _, _ => ⟨h, rfl⟩
  | m + 1, s, h, h0, h1 => by
    unfold pa_loop
    split
    · rename_i q
      have e := (pa_step_1 (cl := false) h ⟨h0, h1⟩ (by omega : (s.2.1 c).1 2 < 3)).1
      have ih := pa_loop_wf m (pa_step s c false) (pa_step_wf h ⟨h0, h1⟩ (by omega)) h0 (by rw [e]; exact h1)
      exact ⟨ih.1, ih.2.trans e⟩
    · exact ⟨h, rfl⟩
theorem pa_send_wf {v : Int} (hwf : pa_wf a) (h0 : 0 ≤ c) (h1 : c < a.1 4) (h2 : (a.2.1 c).1 2 ≤ 2) (hv : 0 ≤ v ∧ v ≤ 999) : pa_wf (pa_send a c v) ∧ (pa_send a c v).1 = a.1 := by
  have := pa_loop_wf (c := c) 40 _ (pa_take_wf3 hwf h0 h1 h2 hv) h0 h1
  exact ⟨this.1, this.2⟩
theorem pa_cl_wf : ∀ (m : Nat) (s : pa_M), pa_wf s → 0 ≤ c → c < s.1 4 → ((s.2.1 c).1 2 = 1 ∨ 6 ≤ (s.2.1 c).1 2) → pa_wf (pa_cl m s c) ∧ (pa_cl m s c).1 = s.1
  | 0, s, h, _, _, _ => ⟨h, rfl⟩
  | m + 1, s, h, h0, h1, hs => by
    unfold pa_cl
    split
    · exact ⟨h, rfl⟩
    · rename_i q
      have h3 : (s.2.1 c).1 2 = 1 := by omega
      have e := (pa_step_1 (cl := true) h ⟨h0, h1⟩ (by omega : (s.2.1 c).1 2 < 3)).1
      have ih := pa_cl_wf m (pa_step s c true) (pa_step_wf h ⟨h0, h1⟩ (by omega)) h0 (by rw [e]; exact h1) (pa_step_cl h ⟨h0, h1⟩ h3)
      exact ⟨ih.1, ih.2.trans e⟩
theorem pa_shut_wf (hwf : pa_wf a) (h0 : 0 ≤ c) (h1 : c < a.1 4) (h6 : (a.2.1 c).1 2 < 6) : pa_wf (pa_shut a c) ∧ (pa_shut a c).1 = a.1 := by
  obtain ⟨u1, u2, u3, u4⟩ := pa_shut2_wf hwf h0 h1 h6
  have := pa_cl_wf (c := c) 1000 _ u1 h0 (by rw [u2]; exact h1) u4
  exact ⟨this.1, this.2.trans u2⟩
/-- send -/
theorem c200 {v : Int} (hF : pm_F M σ) (hM : pm_R y a) (hwf : pa_wf a) (hc : -2147483648 ≤ c ∧ c < 2147483648) (hv : -2147483648 ≤ v ∧ v < 2147483648) (k : ∀ y2, pm_fr pm_Zp y y2 → y2 0 37 = 0 → pm_R y2 (pa_doSend a c v).1 → Φ (some (.inl (pa_doSend a c v).2)) (pm_h M σ q y2)) : pe_M (d + 8) 200 [.inr (.inr M), .inl c, .inl v] (pm_h M σ q y) Φ := by
  have h8 := hwf.1.1
  have hM1 := pm_R_37 hM hwf.1.w8
  have f1 := pm_Zp_37 y
  have e37 : (pm_u y 0 37 0) 0 37 = 0 := pm_us
  have hno : ¬ ((0 ≤ c ∧ c < a.1 4) ∧ 0 ≤ v ∧ v ≤ 999) → pe_X (d + 7) 200 (25, [some (.inr (.inr M)), some (.inl c), some (.inl v)], [], pm_h M σ q (pm_u y 0 37 0)) Φ := fun h => by
    unfold pa_doSend at k
    rw [if_pos h] at k
    refine b200_25 hF (k := ?_)
    exact k _ f1 e37 hM1
  have e4 := hM1.cnt.1
  refine pe_M_of ck200 (Nat.le_of_ble_eq_true rfl) ?_
  refine b200_0 hF (k := ?_)
  generalize pm_u y 0 37 0 = z at *
  refine pe_M.up (c138 (d := 0) hF (by omega) hc (fun r => ?_) (fun r => ?_)) (by omega)
  · refine b200_10 hF (k1 := fun r => by omega) (k2 := fun _ => ?_)
    refine b200_13 hF (k := ?_)
    refine pe_M.up (c134 (d := 0) hF (by omega) (by omega) (by omega) (fun rv => ?_) (fun rv => ?_)) (by omega)
    · refine b200_22 hF (k1 := fun _ => ?_) (k2 := fun r => by omega)
      have h1 : c < a.1 4 := by omega
      have i2 := (hM1.nn r.1 h1).1.1.2.1
      have hb := (hwf.1.2.2.1 c r.1 h1).1.2.1
      unfold pa_doSend at k
      rw [if_neg (by omega)] at k
      refine b200_27 hF (k := ?_)
      refine pe_M.up (c140 (d := 0) hF r.1 (by omega) (by omega) (fun r2 => ?_) (fun r2 => ?_)) (by omega)
      · refine b200_32 hF (k1 := fun _ => ?_) (k2 := fun r => by omega)
        rw [if_neg (by omega)] at k
        refine b200_38 hF (k := ?_)
        refine c166 hF hM1 hwf r.1 h1 (by omega) rv (fun y2 g1 g2 => ?_)
        have hw := pa_send_wf hwf r.1 h1 (by omega) rv
        refine b200_44 hF (k := ?_)
        have e7 := (g2.nn r.1 (by rw [hw.2]; exact h1)).1.1.2.1
        rw [e7]
        exact k y2 (pm_fr_trans f1 (pm_fr_mono g1 pm_Zs_Zp)) ((g1 0 37 (by unfold pm_Zs; omega)).trans e37) g2
      · refine b200_32 hF (k1 := fun r => absurd rfl r) (k2 := fun _ => ?_)
        rw [if_pos (by omega)] at k
        refine b200_35 hF (k := ?_)
        exact k _ f1 e37 hM1
    · refine b200_22 hF (k1 := fun r => absurd rfl r) (k2 := fun _ => ?_)
      exact hno (by omega)
  · refine b200_10 hF (k1 := fun _ => ?_) (k2 := fun r => absurd rfl r)
    exact hno (by omega)
/-- close -/
theorem c201 (hF : pm_F M σ) (hM : pm_R y a) (hwf : pa_wf a) (hc : -2147483648 ≤ c ∧ c < 2147483648) (k : ∀ y2, pm_fr pm_Zp y y2 → y2 0 37 = 0 → pm_R y2 (pa_doClose a c).1 → Φ (some (.inl (pa_doClose a c).2)) (pm_h M σ q y2)) : pe_M (d + 8) 201 [.inr (.inr M), .inl c] (pm_h M σ q y) Φ := by
  have h8 := hwf.1.1
  have hM1 := pm_R_37 hM hwf.1.w8
  have f1 := pm_Zp_37 y
  have e37 : (pm_u y 0 37 0) 0 37 = 0 := pm_us
  have e4 := hM1.cnt.1
  unfold pa_doClose at k
  refine pe_M_of ck201 (Nat.le_of_ble_eq_true rfl) ?_
  refine b201_0 hF (k := ?_)
  generalize pm_u y 0 37 0 = z at *
  refine pe_M.up (c138 (d := 0) hF (by omega) hc (fun r => ?_) (fun r => ?_)) (by omega)
  · refine b201_10 hF (k1 := fun _ => ?_) (k2 := fun r => by omega)
    have h1 : c < a.1 4 := by omega
    have i2 := (hM1.nn r.1 h1).1.1.2.1
    have hb := (hwf.1.2.2.1 c r.1 h1).1.2.1
    rw [if_neg (by omega)] at k
    refine b201_15 hF (k := ?_)
    refine pe_M.up (c139 (d := 0) hF r.1 (by omega) (by omega) (fun r2 => ?_) (fun r2 => ?_)) (by omega)
    · refine b201_20 hF (k1 := fun r => by omega) (k2 := fun _ => ?_)
      rw [if_pos (by omega)] at k
      refine b201_23 hF (k := ?_)
      exact k _ f1 e37 hM1
    · refine b201_20 hF (k1 := fun _ => ?_) (k2 := fun r => absurd rfl r)
      rw [if_neg (by omega)] at k
      refine b201_26 hF (k := ?_)
      refine c167 hF hM1 hwf r.1 h1 (by omega) (fun y2 g1 g2 => ?_)
      have hw := pa_shut_wf hwf r.1 h1 (by omega)
      refine b201_31 hF (k := ?_)
      have e7 := (g2.nn r.1 (by rw [hw.2]; exact h1)).1.1.2.1
      rw [e7]
      exact k y2 (pm_fr_trans f1 (pm_fr_mono g1 pm_Zs_Zp)) ((g1 0 37 (by unfold pm_Zs; omega)).trans e37) g2
  · refine b201_10 hF (k1 := fun r => absurd rfl r) (k2 := fun _ => ?_)
    rw [if_pos (by omega)] at k
    refine b201_13 hF (k := ?_)
    exact k _ f1 e37 hM1
/-- width -/
theorem c202 {w : Int} (hF : pm_F M σ) (hM : pm_R y a) (hwf : pa_wf a) (hw : -2147483648 ≤ w ∧ w < 2147483648) (k : ∀ y2, pm_fr pm_Zp y y2 → y2 0 37 = 0 → pm_R y2 (pa_doWidth a w).1 → Φ (some (.inl (pa_doWidth a w).2)) (pm_h M σ q y2)) : pe_M (d + 2) 202 [.inr (.inr M), .inl w] (pm_h M σ q y) Φ := by
  have hM1 := pm_R_37 hM hwf.1.w8
  have f1 := pm_Zp_37 y
  have e37 : (pm_u y 0 37 0) 0 37 = 0 := pm_us
  have h := hM1.cnt
  unfold pa_doWidth at k
  refine pe_M_of ck202 (Nat.le_of_ble_eq_true rfl) ?_
  refine b202_0 hF (k := ?_)
  generalize pm_u y 0 37 0 = z at *
  refine c134 hF (by omega) (by omega) (by omega) (fun r => ?_) (fun r => ?_)
  · refine b202_14 hF (k1 := fun _ => ?_) (k2 := fun r => by omega)
    rw [if_neg (by omega)] at k
    refine b202_19 hF (k := ?_)
    rw [h.2.1]
    refine k _ (pm_fr_then f1 (by unfold pm_Zp; omega)) (by simp [pm_u, e37]) (pm_R_0 hM1 hwf.1.w8 (fun k hk => ?_) ?_ ?_ ?_ ?_ rfl (by simp [pa_s]))
    · funext j; simp [pm_u, hk]
    · simp [pm_u, pa_s, h.1]
    · simp [pm_u, pa_s]
    · simp [pm_u, pa_s, h.2.2]
    · simp [pm_u]
  · refine b202_14 hF (k1 := fun r => absurd rfl r) (k2 := fun _ => ?_)
    rw [if_pos (by omega)] at k
    refine b202_17 hF (k := ?_)
    exact k _ f1 e37 hM1
end
