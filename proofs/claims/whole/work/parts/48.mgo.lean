/-! THE MODEL: a step, sending to one -/
theorem pm_u_id {y : Nat → Int → Int} {k : Nat} {j v : Int} (h : v = y k j) : pm_u y k j v = y := by
  funext k' j'
  unfold pm_u
  split
  · rename_i e
    rw [e.1, e.2, h]
  · rfl
theorem pa_do_cw {a : pa_M} {c l n : Int} {b : Bool} {v : pa_C} : pa_do (pa_cw a c v) c b l n v = pa_do a c b l n v := by
  unfold pa_do
  rw [pa_live_cw]
  simp only [pa_cw_cw]
section
variable {d M q : Nat} {Φ : Option pe_V → pe_H → Prop} {σ : pe_H} {y y' : Nat → Int → Int} {c n : Int} {a : pa_M}
theorem c151M (hF : pm_F M σ) (hM : pm_R y a) (hwf : pa_wf0 a) (h0 : 0 ≤ c) (h1 : c < a.1 4) (h3 : (a.2.1 c).1 2 < 3) (k : ∀ y2, pm_fr pm_Zt y y2 → pm_R y2 (pa_cw a c (pa_endTop (a.2.1 c))) → Φ none (pm_h M σ q y2)) : pe_M (d + 3) 151 [.inr (.inr M), .inl c] (pm_h M σ q y) Φ := by
  obtain ⟨w, n, hR, hn⟩ := hM
  have hc := hwf.2.2.1 c h0 h1
  have hp := pa_pots_0 (a := a)
  have h8 := hwf.1
  have hE := pa_pot_end hc
  exact c151 hF hR hwf.w8 h0 h1 (by omega) hc h3 (fun y2 w2 g1 g2 => k y2 (pm_fr_mono g1 pm_Zc_Zt) (pm_R_cw hn h0 h1 (by omega) g2))
/-- doesPlain -/
theorem c163 {l : Int} {f : pa_F} {fs : List pa_F} {b : Bool} (hF : pm_F M σ) (hM : pm_R y a) (hwf : pa_wf3 a) (h0 : 0 ≤ c) (h1 : c < a.1 4) (h3 : (a.2.1 c).1 2 = 1) (hfs : (a.2.1 c).2.2 = f :: fs) (hn0 : 0 ≤ n) (hn9 : n ≤ 9) (hl : l = 97 ∨ l = 102 ∨ l = 109 ∨ l = 122 ∨ l = 116) (k : ∀ y2, pm_fr pm_Zt y y2 → pm_R y2 (pa_do a c b l n (a.2.1 c)) → Φ none (pm_h M σ q y2)) : pe_M (d + 3) 163 [.inr (.inr M), .inl c, .inl (6 * c + (fs.length : Int)), .inl l, .inl n] (pm_h M σ q y) Φ := by
  have h8 := hwf.1.1
  have hwc := hwf.1.2.2.1 c h0 h1
  have hll := hwc.2.1
  rw [hfs, List.length_cons] at hll
  obtain ⟨t9, ⟨t1, t2, t3, t4⟩, tP⟩ := hM.tp h0 h1 hfs
  have hff := pa_wfc_top hwc hfs
  have f2 := hff.2.1
  have hacc := hwc.1.2.2.1
  have i3 : y 8 c = (a.2.1 c).1 3 := (hM.nn h0 h1).1.1.2.2.1
  have hzF : ∀ k, 15 ≤ k ∧ k ≤ 20 → pm_Zt k (6 * c + (fs.length : Int)) := fun k hk => Or.inl ⟨by omega, by omega⟩
  refine pe_M_of ck163 (Nat.le_of_ble_eq_true rfl) ?_
  refine b163_0 hF (k0 := fun r => ?_) (k1 := fun r => ?_) (k2 := fun r => ?_) (k3 := fun r => ?_) (kd := fun r0 r1 r2 r3 => ?_)
  · subst r
    refine b163_44 hF (k := ?_)
    refine b163_137 hF (k := ?_)
    refine k _ (pm_fr_u (Or.inl ⟨by decide, by decide⟩)) ?_
    have hdo : pa_do a c b 97 n (a.2.1 c) = pa_cw a c (pa_s (a.2.1 c).1 3 (Int.tmod ((a.2.1 c).1 3 + n) 1000), (a.2.1 c).2) := by simp [pa_do]
    rw [hdo, i3]
    exact pm_R_set (by decide) hM hwf.1.w8 h0 h1
  · subst r
    refine b163_115 hF (k := ?_)
    refine b163_137 hF (k := ?_)
    refine k _ (pm_fr_u (hzF 19 (by decide))) ?_
    have hdo : pa_do a c b 102 n (a.2.1 c) = pa_cw a c ((a.2.1 c).1, (a.2.1 c).2.1, (pa_s f.1 4 1, f.2) :: fs) := by simp [pa_do, pa_top, hfs]
    rw [hdo]
    exact pm_R_top (k := 19) (j := 4) (by decide) hM hwf.1.w8 h0 h1 hfs
  · subst r
    have hm1 : 0 ≤ (a.2.1 c).1 3 * n := Int.mul_nonneg hacc.1 hn0
    have hm2 : (a.2.1 c).1 3 * n ≤ 999 * 9 := Int.mul_le_mul hacc.2 hn9 hn0 (by decide)
    refine b163_66 hF (w1 := by rw [i3]; unfold pe_in; omega) (k := ?_)
    refine b163_137 hF (k := ?_)
    refine k _ (pm_fr_u (Or.inl ⟨by decide, by decide⟩)) ?_
    have hdo : pa_do a c b 109 n (a.2.1 c) = pa_cw a c (pa_s (a.2.1 c).1 3 (Int.tmod ((a.2.1 c).1 3 * n) 1000), (a.2.1 c).2) := by simp [pa_do]
    rw [hdo, i3]
    exact pm_R_set (by decide) hM hwf.1.w8 h0 h1
  · subst r
    have hfin : ∀ v : Int, 0 ≤ v → v ≤ 9 → (pm_R (pm_u y 17 (6 * c + (fs.length : Int)) (f.1 2 + v)) (pa_do a c b 122 n (a.2.1 c))) → pe_X (d + 2) 163 (110, [some (.inr (.inr M)), some (.inl c), some (.inl (6 * c + (fs.length : Int))), some (.inl 122), some (.inl n)], [.inl v, .inl (y 17 (6 * c + (fs.length : Int))), .inl (6 * c + (fs.length : Int)), .inr (.inr (M + 17))], pm_h M σ q y) Φ := fun v v0 v9 hv => by
      rw [t2]
      refine b163_110 hF (k := ?_)
      refine b163_137 hF (k := ?_)
      exact k _ (pm_fr_u (hzF 17 (by decide))) hv
    refine b163_88 hF (k1 := fun r => ?_) (k2 := fun r => ?_)
    · refine b163_109 hF (k := ?_)
      refine hfin 0 (by decide) (by decide) ?_
      have hdo : pa_do a c b 122 n (a.2.1 c) = a := by
        simp only [pa_do]
        simp
        rw [if_neg (by omega), pa_cw_id]
      rw [hdo, pm_u_id (by omega)]
      exact hM
    · refine b163_104 hF (k := ?_)
      refine hfin n hn0 hn9 ?_
      have hdo : pa_do a c b 122 n (a.2.1 c) = pa_cw a c ((a.2.1 c).1, (a.2.1 c).2.1, (pa_s f.1 2 (f.1 2 + n), f.2) :: fs) := by
        simp only [pa_do]
        simp
        rw [if_pos (by omega)]
        simp [pa_top, hfs]
      rw [hdo]
      exact pm_R_top (k := 17) (j := 2) (by decide) hM hwf.1.w8 h0 h1 hfs
  · have hl : l = 116 := by omega
    subst hl
    refine b163_125 hF (k := ?_)
    refine cTN hF hM hwf.1 h0 h1 (by omega) (Or.inl ⟨rfl, rfl⟩) (fun m y1 g => ?_)
    refine b163_134 hF (k := ?_)
    refine g _ _ (fun y2 e1 e3' => ?_)
    refine b163_137 hF (k := ?_)
    refine k y2 e1 ?_
    have hdo : pa_do a c b 116 n (a.2.1 c) = pa_cw a c (pa_throw (a.2.1 c) [n]) := by simp [pa_do]
    rw [hdo]
    exact e3'
/-- isIdle -/
theorem c160 {l : Int} (hF : pm_F M σ) (hl : 97 ≤ l ∧ l ≤ 122) (k1 : l = 100 ∨ l = 103 ∨ l = 106 ∨ l = 115 ∨ l = 121 ∨ l = 114 → Φ (some (.inl 1)) (pm_h M σ q y)) (k0 : ¬ (l = 100 ∨ l = 103 ∨ l = 106 ∨ l = 115 ∨ l = 121 ∨ l = 114) → Φ (some (.inl 0)) (pm_h M σ q y)) : pe_M (d + 1) 160 [.inl l] (pm_h M σ q y) Φ := by
  have hy : (l = 100 ∨ l = 103 ∨ l = 106 ∨ l = 115 ∨ l = 121 ∨ l = 114) → ∀ o, pe_X d 160 (36, [o], [], pm_h M σ q y) Φ := fun h o => by
    refine b160_36 hF (k := ?_)
    refine b160_41 hF (k := ?_)
    exact k1 h
  refine pe_M_of ck160 (Nat.le_of_ble_eq_true rfl) ?_
  refine b160_0 hF (k1 := fun r => hy (by omega) _) (k2 := fun r0 => ?_)
  refine b160_6 hF (k1 := fun r => hy (by omega) _) (k2 := fun r1 => ?_)
  refine b160_12 hF (k1 := fun r => hy (by omega) _) (k2 := fun r2 => ?_)
  refine b160_18 hF (k1 := fun r => hy (by omega) _) (k2 := fun r3 => ?_)
  refine b160_24 hF (k1 := fun r => hy (by omega) _) (k2 := fun r4 => ?_)
  refine b160_30 hF (k1 := fun r => ?_) (k2 := fun r => hy (by omega) _)
  refine b160_40 hF (k := ?_)
  refine b160_41 hF (k := ?_)
  exact k0 (by omega)
/-- stepOf -/
theorem c165 {b : Bool} (hF : pm_F M σ) (hM : pm_R y a) (hwf : pa_wf a) (h0 : 0 ≤ c) (h1 : c < a.1 4) (h3 : (a.2.1 c).1 2 = 1) (k : ∀ y2, pm_fr pm_Zs y y2 → pm_yl c y y2 (((pa_st1 a c b).2.1 c).1 2) → pm_R y2 (pa_step a c b) → Φ none (pm_h M σ q y2)) : pe_M (d + 6) 165 [.inr (.inr M), .inl c, .inl (if b = true then 1 else 0)] (pm_h M σ q y) Φ := by
  have h8 := hwf.1.1
  have hwc := hwf.1.2.2.1 c h0 h1
  have hl := hwc.2.1
  have hne : (a.2.1 c).2.2 ≠ [] := fun r => by have := hwc.2.2.2.1.mpr r; omega
  obtain ⟨f, fs, hfs⟩ := List.exists_cons_of_ne_nil hne
  rw [hfs, List.length_cons] at hl
  obtain ⟨t9, ⟨t1, t2, t3, t4⟩, tP⟩ := hM.tp h0 h1 hfs
  have hff := pa_wfc_top hwc hfs
  have f2 := hff.2.1
  have f16 := hff.2.2.2.2.1.1
  obtain ⟨k1, k2, k3', k4, k5⟩ := pa_st1_wf (cl := b) hwf.w3 ⟨h0, h1⟩ (by omega : (a.2.1 c).1 2 < 3)
  have hd : 6 * c + y 14 c - 1 = 6 * c + (fs.length : Int) := by omega
  -- the end of it
  have hend : ∀ (y1 : Nat → Int → Int) (o1 o2 o3 o4 o5 : Option pe_V), pm_fr pm_Zs y y1 → pm_yl c y y1 (((pa_st1 a c b).2.1 c).1 2) → pm_R y1 (pa_st1 a c b) → pe_X (d + 5) 165 (110, [some (.inr (.inr M)), o1, o2, o3, o4, o5], [], pm_h M σ q y1) Φ := by
    intro y1 o1 o2 o3 o4 o5 g1 g2 g3
    refine b165_110 hF (k := ?_)
    refine pe_M.up (c159 (d := 0) hF g3 k1 (fun y2 e1 e2 => ?_)) (by omega)
    refine b165_114 hF (k := ?_)
    have e30 : y2 0 30 = y1 0 30 := e1 0 30 (by unfold pm_Zt; omega)
    refine k y2 (pm_fr_trans g1 (pm_fr_mono e1 pm_Zt_Zs)) ⟨fun e => by rw [e30]; exact g2.1 e, fun e => by rw [e30]; exact g2.2 e⟩ ?_
    unfold pa_step
    split
    · exact e2
    · rename_i r
      rw [pa_settle_id ((k5 hwf.2.2.2).max (by omega))] at e2
      exact e2
  refine pe_M_of ck165 (Nat.le_of_ble_eq_true rfl) ?_
  refine b165_0 hF (k := ?_)
  refine pe_M.up (c145 (d := 0) hF h0 (by omega) ?_) (by omega)
  rw [hd]
  obtain ⟨hP1, hP2⟩ := tP
  refine b165_5 hF (k1 := fun r => ?_) (k2 := fun r => ?_)
  · have hlen : ¬ (f.2.1.length : Int) ≤ f.1 2 := by omega
    have hmem := pa_at_mem (p := f.2.1) (i := f.1 2) f2.1 (by omega)
    obtain ⟨hlo, hn0, hn9⟩ := hff.2.2.2.2.1.2.1 _ hmem
    have hlb := pa_okl_b hlo
    have hst1 : pa_st1 a c b = pa_do a c b (pa_at f.2.1 (f.1 2)).1 (pa_at f.2.1 (f.1 2)).2 ((a.2.1 c).1, (a.2.1 c).2.1, (pa_s f.1 2 (f.1 2 + 1), f.2) :: fs) := by
      simp only [pa_st1, hfs, if_neg hlen]
    obtain ⟨hx1, hx2⟩ := hP2 (f.1 2) f2.1 (by omega)
    dsimp only at hx1 hx2
    refine b165_29 hF (k := ?_)
    rw [t2, hx1, hx2]
    generalize (pa_at f.2.1 (f.1 2)).1 = l at *
    generalize (pa_at f.2.1 (f.1 2)).2 = n at *
    have g1 := pm_R_top (k := 17) (j := 2) (v := f.1 2 + 1) (by decide) hM hwf.1.w8 h0 h1 hfs
    have hfr : pm_fr pm_Zt y (pm_u y 17 (6 * c + (fs.length : Int)) (f.1 2 + 1)) := pm_fr_u (Or.inl ⟨by decide, by decide⟩)
    have hc1 := pa_next_wf hwc hfs hlen
    refine b165_65 hF (k := ?_)
    rw [t2]
    generalize hτ : pm_u y 17 (6 * c + (fs.length : Int)) (f.1 2 + 1) = τ at *
    generalize hC : ((a.2.1 c).1, (a.2.1 c).2.1, ((pa_s f.1 2 (f.1 2 + 1), f.2) :: fs : List pa_F)) = C at *
    have C1 : C.1 = (a.2.1 c).1 := by rw [← hC]
    have C3 : C.1 2 = 1 := by rw [C1]; exact h3
    have Cf : C.2.2 = (pa_s f.1 2 (f.1 2 + 1), f.2) :: fs := by rw [← hC]
    have hw3 : pa_wf3 (pa_cw a c C) := pa_wf3_cw hwf.w3 (by omega) hc1 (by omega) (fun e => by omega)
    have h1' : c < (pa_cw a c C).1 4 := h1
    have Cf' : ((pa_cw a c C).2.1 c).2.2 = (pa_s f.1 2 (f.1 2 + 1), f.2) :: fs := by rw [pa_cw_same]; exact Cf
    have e30 : τ 0 30 = y 0 30 := hfr 0 30 (by unfold pm_Zt; omega)
    refine pe_M.up (c160 (d := 0) hF hlb (fun ri => ?_) (fun ri => ?_)) (by omega)
    · refine b165_80 hF (k1 := fun _ => ?_) (k2 := fun r => by omega)
      have hdo : pa_st1 a c b = if b = true then pa_cw a c C else pa_live a c l n C := by
        rw [hst1, pa_do, if_neg (by omega), if_neg (by omega), if_neg (by omega), if_neg (by omega), if_neg (by omega)]
      cases b with
      | true =>
        refine b165_96 hF (k1 := fun _ => ?_) (k2 := fun r => by simp at r)
        rw [if_pos rfl] at hdo
        exact hend _ _ _ _ _ _ (pm_fr_mono hfr pm_Zt_Zs) (pm_yl_no hfr (by rw [hdo, pa_cw_same]; omega)) (by rw [hdo]; exact g1)
      | false =>
        refine b165_96 hF (k1 := fun r => by simp at r) (k2 := fun _ => ?_)
        rw [if_neg (by simp)] at hdo
        refine b165_100 hF (k := ?_)
        refine pe_M.up (c164 (d := 0) hF g1 hw3 h0 h1' (by rw [pa_cw_same]; exact C3) Cf' hn0 hn9 ri (fun y2 e1 e2 e3 => ?_)) (by omega)
        rw [pa_cw_same, pa_live_cw] at e2 e3
        exact hend _ _ _ _ _ _ (pm_fr_trans (pm_fr_mono hfr pm_Zt_Zs) e1) (by rw [hdo]; exact ⟨fun e => by rw [e2.1 e, e30], fun e => by rw [e2.2 e, e30]⟩) (by rw [hdo]; exact e3)
    · refine b165_80 hF (k1 := fun r => absurd rfl r) (k2 := fun _ => ?_)
      have hl5 : l = 97 ∨ l = 102 ∨ l = 109 ∨ l = 122 ∨ l = 116 := by
        unfold pa_okl at hlo
        omega
      refine b165_83 hF (k := ?_)
      refine pe_M.up (c163 (d := 0) (b := b) hF g1 hw3 h0 h1' (by rw [pa_cw_same]; exact C3) Cf' hn0 hn9 hl5 (fun y2 e1 e3 => ?_)) (by omega)
      rw [pa_cw_same, pa_do_cw, ← hst1] at e3
      refine b165_93 hF (k := ?_)
      have hz := pm_fr_trans hfr e1
      refine hend _ _ _ _ _ _ (pm_fr_mono hz pm_Zt_Zs) (pm_yl_no hz ?_) e3
      rw [hst1]
      have hthr := pa_throw2 C [n]
      rcases hl5 with rfl | rfl | rfl | rfl | rfl
      · simp [pa_do, pa_cw_same, pa_s]; omega
      · simp [pa_do, pa_cw_same, pa_top, Cf]; omega
      · simp [pa_do, pa_cw_same, pa_s]; omega
      · simp only [pa_do]
        simp [pa_cw_same]
        split
        · simp [pa_top, Cf]; omega
        · omega
      · simp [pa_do, pa_cw_same]; omega
  · have hlen : (f.2.1.length : Int) ≤ f.1 2 := by omega
    have hst1 : pa_st1 a c b = pa_cw a c (pa_endTop (a.2.1 c)) := by
      simp only [pa_st1, hfs, if_pos hlen]
    refine b165_21 hF (k := ?_)
    refine pe_M.up (c151M (d := 0) hF hM hwf.1 h0 h1 (by omega) (fun y2 e1 e3 => ?_)) (by omega)
    refine b165_26 hF (k := ?_)
    refine hend _ _ _ _ _ _ (pm_fr_mono e1 pm_Zt_Zs) (pm_yl_no e1 ?_) (by rw [hst1]; exact e3)
    rw [hst1, pa_cw_same]
    rcases pa_endTop2 (a.2.1 c) with e | e <;> omega
theorem c165f (hF : pm_F M σ) (hM : pm_R y a) (hwf : pa_wf a) (h0 : 0 ≤ c) (h1 : c < a.1 4) (h3 : (a.2.1 c).1 2 = 1) (k : ∀ y2, pm_fr pm_Zs y y2 → pm_yl c y y2 (((pa_st1 a c false).2.1 c).1 2) → pm_R y2 (pa_step a c false) → Φ none (pm_h M σ q y2)) : pe_M (d + 6) 165 [.inr (.inr M), .inl c, .inl 0] (pm_h M σ q y) Φ := c165 (b := false) hF hM hwf h0 h1 h3 k
theorem c165t (hF : pm_F M σ) (hM : pm_R y a) (hwf : pa_wf a) (h0 : 0 ≤ c) (h1 : c < a.1 4) (h3 : (a.2.1 c).1 2 = 1) (k : ∀ y2, pm_fr pm_Zs y y2 → pm_yl c y y2 (((pa_st1 a c true).2.1 c).1 2) → pm_R y2 (pa_step a c true) → Φ none (pm_h M σ q y2)) : pe_M (d + 6) 165 [.inr (.inr M), .inl c, .inl 1] (pm_h M σ q y) Φ := c165 (b := true) hF hM hwf h0 h1 h3 k
/-- sentOf -/
theorem c144 {v : Int} (hF : pm_F M σ) (h0 : 0 ≤ c) (h8 : c < 8) (hk : 0 ≤ y 5 c ∧ y 5 c ≤ 5) (hf : 0 ≤ y 6 c ∧ y 6 c ≤ 9) (hv : 0 ≤ v ∧ v ≤ 999) (k : Φ (some (.inl (pa_sent (y 5 c) (y 6 c) v (y 8 c)))) (pm_h M σ q y)) : pe_M (d + 1) 144 [.inr (.inr M), .inl c, .inl v] (pm_h M σ q y) Φ := by
  unfold pa_sent at k
  refine pe_M_of ck144 (Nat.le_of_ble_eq_true rfl) ?_
  refine b144_0 hF (k0 := fun r => ?_) (k1 := fun r => ?_) (k2 := fun r => ?_) (k3 := fun r => ?_) (k4 := fun r => ?_) (kd := fun r0 r1 r2 r3 r4 => ?_)
  · rw [if_pos (by omega)] at k
    exact b144_40 hF (k := k)
  · rw [if_neg (by omega), if_neg (by omega)] at k
    exact b144_68 hF (k := k)
  · rw [if_pos (by omega)] at k
    exact b144_40 hF (k := k)
  · rw [if_neg (by omega), if_neg (by omega)] at k
    exact b144_68 hF (k := k)
  · rw [if_neg (by omega), if_pos r] at k
    refine b144_53 hF (k1 := fun r => ?_) (k2 := fun r => ?_)
    · rw [if_neg r] at k
      refine b144_66 hF (k := ?_)
      exact b144_67 hF (k := k)
    · rw [if_pos r] at k
      refine b144_57 hF (k := ?_)
      exact b144_67 hF (k := k)
  · rw [if_neg (by omega), if_neg (by omega)] at k
    exact b144_68 hF (k := k)
theorem c166_loop (hF : pm_F M σ) : ∀ (m : Nat) (i : Int) (y1 : Nat → Int → Int) (s : pa_M) (o2 : Option pe_V), i + m = 40 → 0 ≤ i → pm_R y1 s → pa_wf s → 0 ≤ c → c < s.1 4 → (∀ y2, pm_fr pm_Zs y1 y2 → pm_R y2 (pa_loop m s c) → Φ none (pm_h M σ q y2)) → pe_X (d + 6) 166 (40, [some (.inr (.inr M)), some (.inl c), o2, some (.inl i)], [], pm_h M σ q y1) Φ
  | 0, i, y1, s, o2, hi, hi0, hM, hwf, h0, h1, k => by
    refine b166_40 hF (k1 := fun _ => ?_) (k2 := fun r => by omega)
    refine b166_68 hF (k := ?_)
    exact k y1 (pm_fr_refl _ _) hM
  | m + 1, i, y1, s, o2, hi, hi0, hM, hwf, h0, h1, k => by
    have h8 := hwf.1.1
    have i2 := (hM.nn h0 h1).1.1.2.1
    have hb := (hwf.1.2.2.1 c h0 h1).1.2.1
    refine b166_40 hF (k1 := fun r => by omega) (k2 := fun _ => ?_)
    refine b166_46 hF (k1 := fun r => ?_) (k2 := fun r => ?_)
    · refine b166_68 hF (k := ?_)
      refine k y1 (pm_fr_refl _ _) ?_
      unfold pa_loop
      rw [if_neg (by omega)]
      exact hM
    · have h3 : (s.2.1 c).1 2 = 1 := by omega
      refine b166_56 hF (k := ?_)
      refine c165f hF hM hwf h0 h1 h3 (fun y2 g1 g2 g3 => ?_)
      have hw2 := pa_step_wf (cl := false) hwf ⟨h0, h1⟩ (by omega)
      have e1 := (pa_step_1 (cl := false) hwf ⟨h0, h1⟩ (by omega : (s.2.1 c).1 2 < 3)).1
      have h1' : c < (pa_step s c false).1 4 := by rw [e1]; exact h1
      refine b166_62 hF (k := ?_)
      refine c166_loop hF m (i + 1) y2 _ _ (by omega) (by omega) g3 hw2 h0 h1' (fun y3 e2 e3 => k y3 (pm_fr_trans g1 e2) ?_)
      unfold pa_loop
      rw [if_pos h3]
      exact e3
/-- sendTo -/
theorem c166 {v : Int} (hF : pm_F M σ) (hM : pm_R y a) (hwf : pa_wf a) (h0 : 0 ≤ c) (h1 : c < a.1 4) (h2 : (a.2.1 c).1 2 ≤ 2) (hv : 0 ≤ v ∧ v ≤ 999) (k : ∀ y2, pm_fr pm_Zs y y2 → pm_R y2 (pa_send a c v) → Φ none (pm_h M σ q y2)) : pe_M (d + 7) 166 [.inr (.inr M), .inl c, .inl v] (pm_h M σ q y) Φ := by
  have h8 := hwf.1.1
  have hwc := hwf.1.2.2.1 c h0 h1
  obtain ⟨n0, n2, n3, n4, n5, n6, n20, n21, -⟩ := hwc.1
  obtain ⟨⟨a0, a2, a3, a4, a5, a6, a7, a8⟩, bb⟩ := (hM.nn h0 h1).1
  have hw2 := pa_take_wf3 hwf h0 h1 h2 hv
  have hfin : ∀ (s2 : Int) (o2 : Option pe_V), pa_take (a.2.1 c) v = (pa_s (pa_s (a.2.1 c).1 3 s2) 2 1, (a.2.1 c).2) → pe_X (d + 6) 166 (30, [some (.inr (.inr M)), some (.inl c), o2, none], [.inl s2, .inl c, .inr (.inr (M + 8))], pm_h M σ q y) Φ := fun s2 o2 hs => by
    refine b166_30 hF (k := ?_)
    have g := pm_R_nu (nu := pa_s (pa_s (a.2.1 c).1 3 s2) 2 1) (y' := pm_u (pm_u y 8 c s2) 7 c 1) hM hwf.1.w8 h0 h1 (pm_fr_then (pm_fr_u ⟨by decide, by decide, rfl⟩) ⟨by decide, by decide, rfl⟩) (by
      refine ⟨⟨?_, ?_, ?_, ?_, ?_, ?_, ?_, ?_⟩, fun q1 q2 => by simp [pa_s] at q1⟩
      · simpa [pm_u, pa_s] using a0
      · simp [pm_u, pa_s]
      · simp [pm_u, pa_s]
      · simpa [pm_u, pa_s] using a4
      · simpa [pm_u, pa_s] using a5
      · simpa [pm_u, pa_s] using a6
      · simpa [pm_u, pa_s] using a7
      · simpa [pm_u, pa_s] using a8)
    rw [← hs] at g
    exact c166_loop hF 40 0 _ _ _ (by decide) (by decide) g hw2 h0 h1 (fun y3 e1 e2 => k y3 (pm_fr_trans (pm_fr_then (pm_fr_u (Or.inl ⟨by decide, by decide⟩)) (Or.inl ⟨by decide, by decide⟩)) e1) e2)
  refine pe_M_of ck166 (Nat.le_of_ble_eq_true rfl) ?_
  refine b166_0 hF (k1 := fun r => ?_) (k2 := fun r => ?_)
  · refine b166_24 hF (k := ?_)
    refine hfin _ _ ?_
    unfold pa_take
    rw [if_neg (by omega), a3]
    congr 2
    funext i
    unfold pa_s
    by_cases e : i = 3
    · simp [e]
    · simp [e]
  · refine b166_15 hF (k := ?_)
    refine pe_M.up (c144 (d := 0) hF h0 (by omega) (by omega) (by omega) hv ?_) (by omega)
    refine b166_21 hF (k := ?_)
    refine hfin _ _ ?_
    unfold pa_take
    rw [if_pos (by omega), a7, a8, a3]
end
