/-! THE CLASS: sendTo, closeDown -/
theorem pa_step_end {a : pa_M} {who : Int} {cl : Bool} (h : pa_wf a) (hwho : 0 ≤ who ∧ who < a.1 4) (hs1 : (a.2.1 who).1 2 < 3) : (pa_step a who cl).2.1 who = (pa_st1 a who cl).2.1 who ∨ ((pa_st1 a who cl).2.1 who).1 2 = 5 := by
  unfold pa_step
  split
  · rename_i h6
    rcases (pa_settle_mid (pa_st1 a who cl)).2.2 who with q | ⟨n, q⟩
    · exact Or.inl q
    · exact Or.inr (pa_told_5 q).2.1
  · exact Or.inl rfl
/-- one that is closing is ready or ended -/
theorem pa_st1_cl {a : pa_M} {who : Int} (hs1 : (a.2.1 who).1 2 = 1) : ((pa_st1 a who true).2.1 who).1 2 = 1 ∨ 6 ≤ ((pa_st1 a who true).2.1 who).1 2 := by
  unfold pa_st1
  split
  · exact Or.inl hs1
  · rename_i f fs hf
    split
    · rw [pa_cw_same]
      rcases pa_endTop2 (a.2.1 who) with e | e
      · left; omega
      · exact Or.inr e
    · generalize (pa_at f.2.1 (f.1 2)).1 = l
      generalize (pa_at f.2.1 (f.1 2)).2 = n
      unfold pa_do
      split
      · rw [pa_cw_same]; left; simp [pa_s]; exact hs1
      split
      · rw [pa_cw_same]; left; simp [pa_s]; exact hs1
      split
      · rw [pa_cw_same]; left
        split
        · exact hs1
        · exact hs1
      split
      · rw [pa_cw_same]; exact Or.inl hs1
      split
      · rw [pa_cw_same]
        rcases pa_throw2 ((a.2.1 who).1, (a.2.1 who).2.1, ((pa_s f.1 2 (f.1 2 + 1), f.2) :: fs : List pa_F)) [n] with e | e
        · left; rw [e]; exact hs1
        · right; rw [e]; decide
      split
      · rw [pa_cw_same]; exact Or.inl hs1
      · rename_i q; exact absurd rfl q
theorem pa_step_cl {a : pa_M} {who : Int} (h : pa_wf a) (hwho : 0 ≤ who ∧ who < a.1 4) (hs1 : (a.2.1 who).1 2 = 1) : ((pa_step a who true).2.1 who).1 2 = 1 ∨ 6 ≤ ((pa_step a who true).2.1 who).1 2 := by
  have h1 := pa_st1_cl (a := a) hs1
  rcases pa_step_end (cl := true) h hwho (by omega) with e | e
  · rw [e]; exact h1
  · omega
/-- what is left of the queues -/
def pa_lvn (a : pa_M) (w : Int) (m : Int) : pa_M := (a.1, a.2.1, a.2.2.1, fun k i => if i < m then (a.2.2.2 k i).filter (fun z => decide (z ≠ w)) else a.2.2.2 k i)
theorem pa_shut1_wf {a : pa_M} {c : Int} (h : pa_wf a) (h0 : 0 ≤ c) (h1 : c < a.1 4) (h6 : (a.2.1 c).1 2 < 6) : pa_wf3 (pa_shut1 a c) ∧ pa_mxx (pa_shut1 a c) c ∧ (((pa_shut1 a c).2.1 c).1 2 = 1 ∨ 6 ≤ ((pa_shut1 a c).2.1 c).1 2) := by
  have hc := h.1.2.2.1 c h0 h1
  have h2 := pa_on2 (a.2.1 c)
  have hv := pa_close_wf (pa_on_wf hc h6) (by omega)
  have hst : (pa_close (pa_on (a.2.1 c))).1 2 = 1 ∨ (pa_close (pa_on (a.2.1 c))).1 2 = 8 := by
    unfold pa_close
    rcases pa_closeF_n (pa_on (a.2.1 c)).1 (pa_on (a.2.1 c)).2.1 (pa_on (a.2.1 c)).2.2 with e | e
    · left; rw [e]; exact h2
    · right; rw [e]; exact pa_ss
  have hne : ∀ i, i ≠ c → (pa_shut1 a c).2.1 i = a.2.1 i := fun i hi => pa_cw_ne (a := pa_lv a c) hi
  have hsm : (pa_shut1 a c).2.1 c = pa_close (pa_on (a.2.1 c)) := pa_cw_same
  refine ⟨⟨⟨h.1.1, h.1.2.1, fun i i0 i1 => ?_, h.1.2.2.2⟩, fun w hw ch c0 c3 => ?_, fun i i0 i1 => ?_⟩, fun i i0 i1 i5 => ?_, by rw [hsm]; omega⟩
  · by_cases e : i = c
    · rw [e, hsm]; exact hv
    · rw [hne i e]; exact h.1.2.2.1 i i0 i1
  · obtain ⟨q1, q2⟩ := h.2.1 w hw ch c0 c3
    show ((a.2.2.2 w ch).filter (fun z => decide (z ≠ c))).Nodup ∧ ∀ i, i ∈ (a.2.2.2 w ch).filter (fun z => decide (z ≠ c)) ↔ (0 ≤ i ∧ i < a.1 4) ∧ ((pa_shut1 a c).2.1 i).1 2 = 3 + w ∧ ((pa_shut1 a c).2.1 i).1 7 = ch
    refine ⟨q1.filter _, fun i => ?_⟩
    rw [List.mem_filter, q2 i]
    by_cases e : i = c
    · subst e
      rw [hsm]
      constructor
      · rintro ⟨-, q⟩; simp at q
      · rintro ⟨-, q, -⟩; exfalso; omega
    · rw [hne i e]; simp [e]
  · by_cases e : i = c
    · rw [e, hsm]; exact ⟨fun q => by omega, fun q => by omega⟩
    · rw [hne i e]; exact h.2.2.1 i i0 i1
  · have e : i ≠ c := fun e => by rw [e, hsm] at i5; omega
    rw [hne i e] at i5 ⊢
    by_cases e2 : (a.2.1 i).1 7 = c
    · exact Or.inl e2
    · right; rw [hne _ e2]; exact h.2.2.2 i i0 i1 i5
theorem pa_shut2_wf {a : pa_M} {c : Int} (h : pa_wf a) (h0 : 0 ≤ c) (h1 : c < a.1 4) (h6 : (a.2.1 c).1 2 < 6) : pa_wf (pa_shut2 a c) ∧ (pa_shut2 a c).1 = a.1 ∧ (pa_shut2 a c).2.2.1 = a.2.2.1 ∧ (((pa_shut2 a c).2.1 c).1 2 = 1 ∨ 6 ≤ ((pa_shut2 a c).2.1 c).1 2) := by
  obtain ⟨k1, k2, k3⟩ := pa_shut1_wf h h0 h1 h6
  unfold pa_shut2
  split
  · rename_i q
    refine ⟨pa_settle_wf k1, rfl, rfl, ?_⟩
    rcases (pa_settle_mid (pa_shut1 a c)).2.2 c with e | ⟨n, e⟩
    · rw [e]; exact k3
    · have := (pa_told_5 e).2.1; omega
  · exact ⟨k1.wf (k2.max (by omega)), rfl, rfl, k3⟩
section
variable {d B : Nat} {Φ : Option pe_V → pe_H → Prop} {T : Nat → Prop} {σ σ' : pe_H} {c : Int} {a : pa_M}
theorem k31f (hM : pk_RM B T σ a) (hwf : pa_wf a) (h0 : 0 ≤ c) (h1 : c < a.1 4) (h3 : (a.2.1 c).1 2 = 1) (k : ∀ σ2, pk_fr (pk_Zs B) σ σ2 → pk_yl B c σ σ2 (((pa_st1 a c false).2.1 c).1 2) → pk_RM B T σ2 (pa_step a c false) → Φ none σ2) : pe_M (d + 12) 31 [.inr (.inr B), .inl c, .inl 0] σ Φ := k31 (b := false) hM hwf h0 h1 h3 k
theorem k31t (hM : pk_RM B T σ a) (hwf : pa_wf a) (h0 : 0 ≤ c) (h1 : c < a.1 4) (h3 : (a.2.1 c).1 2 = 1) (k : ∀ σ2, pk_fr (pk_Zs B) σ σ2 → pk_yl B c σ σ2 (((pa_st1 a c true).2.1 c).1 2) → pk_RM B T σ2 (pa_step a c true) → Φ none σ2) : pe_M (d + 12) 31 [.inr (.inr B), .inl c, .inl 1] σ Φ := k31 (b := true) hM hwf h0 h1 h3 k
theorem k5M {v : Int} (hM : pk_RM B T σ a) (hwf : pa_wf0 a) (h0 : 0 ≤ c) (h1 : c < a.1 4) (hv : 0 ≤ v ∧ v ≤ 999) (k : ∀ σ2, pk_frI (pk_Zs B) σ σ2 → pe_I σ2 B 7 = pe_I σ B 7 → pk_RM B T σ2 (pa_cw a c (pa_take (a.2.1 c) v)) → Φ none σ2) : pe_M (d + 2) 5 [.inr (.inr (pk_c B c)), .inl v] σ Φ := by
  obtain ⟨w, n, hR, hn⟩ := hM
  exact k5 hR hwf.w9 h0 h1 (hwf.2.2.1 c h0 h1).1 hv (fun σ2 g1 g2 => k σ2 (pk_frI_mono g1 (pk_Zc_Zs h0 (by have := hwf.1; omega))) (g1.1.2 B pk_B_Zc 7).1 (pk_RM_cw hn h0 h1 (Int.le_refl _) g2))
theorem pa_take_wf3 {v : Int} (hwf : pa_wf a) (h0 : 0 ≤ c) (h1 : c < a.1 4) (h2 : (a.2.1 c).1 2 ≤ 2) (hv : 0 ≤ v ∧ v ≤ 999) : pa_wf (pa_cw a c (pa_take (a.2.1 c) v)) := by
  have e := pa_take2 (a.2.1 c) v
  exact (pa_wf3_cw hwf.w3 (by omega) (pa_take_wf (hwf.1.2.2.1 c h0 h1) (by omega) hv.1 hv.2) (by omega) (fun q => by omega)).wf (pa_max_cw hwf.2.2.2 (by omega) (fun q => by omega))
theorem k25_loop : ∀ (m : Nat) (i : Int) (σ1 : pe_H) (s : pa_M) (o2 : Option pe_V), i + m = 40 → 0 ≤ i → pk_RM B T σ1 s → pa_wf s → 0 ≤ c → c < s.1 4 → (∀ σ2, pk_fr (pk_Zs B) σ1 σ2 → pk_RM B T σ2 (pa_loop m s c) → Φ none σ2) → pe_X (d + 12) 25 (15, [some (.inr (.inr B)), some (.inl c), o2, some (.inr (.inr (pk_c B c))), some (.inl i)], [], σ1) Φ
  | 0, i, σ1, s, o2, hi, hi0, hM, hwf, h0, h1, k => by
    have hF := hM.F
    have ho := hM.o hwf.1 h0 h1
    refine b25_15 (k1 := fun _ => ?_) (k2 := fun q => by omega)
    refine b25_42 (k := ?_)
    exact k σ1 (pk_fr_refl _ _) hM
  | m + 1, i, σ1, s, o2, hi, hi0, hM, hwf, h0, h1, k => by
    have hF := hM.F
    have ho := hM.o hwf.1 h0 h1
    have i2 := (hM.i h0 h1).2.1
    have hb := (hwf.1.2.2.1 c h0 h1).1.2.1
    refine b25_15 (k1 := fun q => by omega) (k2 := fun _ => ?_)
    refine b25_22 (k1 := fun q => ?_) (k2 := fun q => ?_)
    · refine b25_42 (k := ?_)
      refine k σ1 (pk_fr_refl _ _) ?_
      unfold pa_loop
      rw [if_neg (by omega)]
      exact hM
    · have h3 : (s.2.1 c).1 2 = 1 := by omega
      refine b25_30 (k := ?_)
      refine k31f hM hwf h0 h1 h3 (fun σ2 g1 g2 g3 => ?_)
      have hw2 := pa_step_wf (cl := false) hwf ⟨h0, h1⟩ (by omega)
      have e1 := (pa_step_1 (cl := false) hwf ⟨h0, h1⟩ (by omega : (s.2.1 c).1 2 < 3)).1
      have h1' : c < (pa_step s c false).1 4 := by rw [e1]; exact h1
      have hF2 := g3.F
      have ho2 := g3.o hw2.1 h0 h1'
      refine b25_36 (k := ?_)
      refine k25_loop m (i + 1) σ2 _ _ (by omega) (by omega) g3 hw2 h0 h1' (fun σ3 e2 e3 => k σ3 (pk_fr_trans g1 e2) ?_)
      unfold pa_loop
      rw [if_pos h3]
      exact e3
/-- sendTo -/
theorem k25 {v : Int} (hM : pk_RM B T σ a) (hwf : pa_wf a) (h0 : 0 ≤ c) (h1 : c < a.1 4) (h2 : (a.2.1 c).1 2 ≤ 2) (hv : 0 ≤ v ∧ v ≤ 999) (k : ∀ σ2, pk_fr (pk_Zs B) σ σ2 → pk_RM B T σ2 (pa_send a c v) → Φ none σ2) : pe_M (d + 13) 25 [.inr (.inr B), .inl c, .inl v] σ Φ := by
  have hF := hM.F
  have h8 := hwf.1.1
  refine pe_M_of ck25 (Nat.le_of_ble_eq_true rfl) ?_
  refine b25_0 (k := ?_)
  refine k5M hM hwf.1 h0 h1 hv (fun σ2 g1 g2 g3 => ?_)
  have hw2 := pa_take_wf3 hwf h0 h1 h2 hv
  have hF2 := g3.F
  have ho2 := g3.o hw2.1 h0 h1
  refine b25_12 (k := ?_)
  exact k25_loop 40 0 σ2 _ _ (by decide) (by decide) g3 hw2 h0 h1 (fun σ3 e1 e2 => k σ3 (pk_fr_trans g1.1 e1) e2)
theorem pk_RM_qeq {a' : pa_M} (hM : pk_RM B T σ a) (e1 : a'.1 = a.1) (e2 : a'.2.1 = a.2.1) (e3 : a'.2.2.1 = a.2.2.1) (e4 : ∀ k : Nat, k < 2 → ∀ ch, 0 ≤ ch → ch < 3 → a'.2.2.2 k ch = a.2.2.2 k ch) : pk_RM B T σ a' := by
  obtain ⟨w, n, ⟨a1, a2, a3, a4, a5, a6, a7⟩, hn⟩ := hM
  obtain ⟨x1, x2, x3, x4⟩ := a'
  dsimp only at e1 e2 e3 e4
  subst e1 e2 e3
  refine ⟨w, n, ⟨a1, a2, a3, a4, a5, a6, fun ch c0 c3 => ?_⟩, hn⟩
  show pk_RQ σ (pk_q B ch) (x4 0 ch) ∧ pk_RQ σ (pk_g B ch) (x4 1 ch)
  rw [e4 0 (by decide) ch c0 c3, e4 1 (by decide) ch c0 c3]
  exact a7 ch c0 c3
theorem k26_loop1 (hwf : pa_wf3 a) (h0 : 0 ≤ c) (h8 : c < 8) : ∀ (m : Nat) (i : Int) (σ1 : pe_H) (o3 : Option pe_V), i + m = 3 → 0 ≤ i → pk_RM B T σ1 (pa_lvn a c i) → (∀ σ2, pk_fr (pk_Zs B) σ1 σ2 → pk_RM B T σ2 (pa_lvn a c 3) → pe_X (d + 12) 26 (33, [some (.inr (.inr B)), some (.inl c), some (.inl 3), o3], [], σ2) Φ) → pe_X (d + 12) 26 (2, [some (.inr (.inr B)), some (.inl c), some (.inl i), o3], [], σ1) Φ
  | 0, i, σ1, o3, hi, hi0, hM, k => by
    have hi3 : i = 3 := by omega
    subst hi3
    have hF := hM.F
    refine b26_2 (k1 := fun _ => ?_) (k2 := fun q => by omega)
    exact k σ1 (pk_fr_refl _ _) hM
  | m + 1, i, σ1, o3, hi, hi0, hM, k => by
    have hF := hM.F
    have h88 := hwf.1.1.2
    obtain ⟨f1, f2, f3⟩ := pa_wfq_b (k := 0) hwf.2.1 h88 (by decide) hi0 (by omega)
    obtain ⟨g1, g2, g3⟩ := pa_wfq_b (k := 1) hwf.2.1 h88 (by decide) hi0 (by omega)
    have hQ := hM.q hi0 (by omega)
    have hw9 : pa_wf9 (pa_lvn a c i) := hwf.1.w9
    have eq0 : ∀ k, (pa_lvn a c i).2.2.2 k i = a.2.2.2 k i := fun k => if_neg (by omega)
    rw [eq0, eq0] at hQ
    refine b26_2 (k1 := fun q => by omega) (k2 := fun _ => ?_)
    refine b26_7 (k := ?_)
    refine pe_M.up (k55 (d := 0) ⟨h0, h8⟩ (pk_mQ hF hi0 (by omega)) hQ.1 f2 f1 (fun σ2 e1 e2 => ?_)) (by omega)
    have hM2 := pk_RM_q (k := 0) hM hw9 hi0 (by omega) e1 (by decide) e2
    have hF2 := hM2.F
    have hQ2 := (hM2.q hi0 (by omega)).2
    rw [pa_qw_ne (by omega), eq0] at hQ2
    refine b26_17 (k := ?_)
    refine pe_M.up (k55 (d := 0) ⟨h0, h8⟩ (pk_mG hF2 hi0 (by omega)) hQ2 g2 g1 (fun σ3 e3 e4 => ?_)) (by omega)
    have hM3 := pk_RM_q (k := 1) hM2 hw9 hi0 (by omega) e3 (by decide) e4
    have hF3 := hM3.F
    refine b26_27 (k := ?_)
    refine k26_loop1 hwf h0 h8 m (i + 1) σ3 o3 (by omega) (by omega) (pk_RM_qeq hM3 rfl rfl rfl (fun k hk ch c0 c3 => ?_)) (fun σ4 e5 e6 => k σ4 (pk_fr_trans (pk_fr_trans (pk_fr_mono e1.1 (fun x hx => (pk_Zq_Zs (k := 0) hi0 (by omega) x hx).1)) (pk_fr_mono e3.1 (fun x hx => (pk_Zq_Zs (k := 1) hi0 (by omega) x hx).1))) e5) e6)
    show (if ch < i + 1 then (a.2.2.2 k ch).filter (fun z => decide (z ≠ c)) else a.2.2.2 k ch) = (if k = 1 ∧ ch = i then pk_wo c (a.2.2.2 1 i) else if k = 0 ∧ ch = i then pk_wo c (a.2.2.2 0 i) else if ch < i then (a.2.2.2 k ch).filter (fun z => decide (z ≠ c)) else a.2.2.2 k ch)
    by_cases e : ch = i
    · subst e
      rw [if_pos (by omega)]
      have : k = 0 ∨ k = 1 := by omega
      rcases this with rfl | rfl
      · rw [if_neg (by omega), if_pos ⟨rfl, rfl⟩]; rfl
      · rw [if_pos ⟨rfl, rfl⟩]; rfl
    · rw [if_neg (show ¬ (k = 1 ∧ ch = i) from fun q => e q.2), if_neg (show ¬ (k = 0 ∧ ch = i) from fun q => e q.2)]
      by_cases e2 : ch < i
      · rw [if_pos (show ch < i + 1 by omega), if_pos e2]
      · rw [if_neg (show ¬ ch < i + 1 by omega), if_neg e2]
theorem k26_loop2 : ∀ (m : Nat) (i : Int) (σ1 : pe_H) (s : pa_M), i + m = 1000 → 0 ≤ i → pk_RM B T σ1 s → pa_wf s → 0 ≤ c → c < s.1 4 → ((s.2.1 c).1 2 = 1 ∨ 6 ≤ (s.2.1 c).1 2) → (∀ σ2, pk_fr (pk_Zs B) σ1 σ2 → pk_RM B T σ2 (pa_cl m s c) → Φ none σ2) → pe_X (d + 12) 26 (63, [some (.inr (.inr B)), some (.inl c), some (.inr (.inr (pk_c B c))), some (.inl i)], [], σ1) Φ
  | 0, i, σ1, s, hi, hi0, hM, hwf, h0, h1, h16, k => by
    have hF := hM.F
    have ho := hM.o hwf.1 h0 h1
    refine b26_63 (k1 := fun _ => ?_) (k2 := fun q => by omega)
    refine b26_89 (k := ?_)
    exact k σ1 (pk_fr_refl _ _) hM
  | m + 1, i, σ1, s, hi, hi0, hM, hwf, h0, h1, h16, k => by
    have hF := hM.F
    have ho := hM.o hwf.1 h0 h1
    have i2 := (hM.i h0 h1).2.1
    have hb := (hwf.1.2.2.1 c h0 h1).1.2.1
    refine b26_63 (k1 := fun q => by omega) (k2 := fun _ => ?_)
    refine b26_70 (k := ?_)
    refine pe_M.up (k3 (d := 0) ho i2 hb (fun q => ?_) (fun q => ?_)) (by omega)
    · refine b26_74 (k1 := fun _ => ?_) (k2 := fun q => by omega)
      refine b26_89 (k := ?_)
      refine k σ1 (pk_fr_refl _ _) ?_
      unfold pa_cl
      rw [if_pos q]
      exact hM
    · have h3 : (s.2.1 c).1 2 = 1 := by omega
      refine b26_74 (k1 := fun q => by omega) (k2 := fun _ => ?_)
      refine b26_77 (k := ?_)
      refine k31t hM hwf h0 h1 h3 (fun σ2 g1 g2 g3 => ?_)
      have hw2 := pa_step_wf (cl := true) hwf ⟨h0, h1⟩ (by omega)
      have e1 := (pa_step_1 (cl := true) hwf ⟨h0, h1⟩ (by omega : (s.2.1 c).1 2 < 3)).1
      have h1' : c < (pa_step s c true).1 4 := by rw [e1]; exact h1
      have hF2 := g3.F
      have ho2 := g3.o hw2.1 h0 h1'
      refine b26_83 (k := ?_)
      refine k26_loop2 m (i + 1) σ2 _ (by omega) (by omega) g3 hw2 h0 h1' (pa_step_cl hwf ⟨h0, h1⟩ h3) (fun σ3 e2 e3 => k σ3 (pk_fr_trans g1 e2) ?_)
      unfold pa_cl
      rw [if_neg q]
      exact e3
theorem k10M (hM : pk_RM B T σ a) (hwf : pa_wf9 a) (h0 : 0 ≤ c) (h1 : c < a.1 4) (hff : ∀ f ∈ (a.2.1 c).2.2, pa_wff f) (he : (a.2.1 c).2.1 = []) (k : ∀ σ2, pk_frI (pk_Zs B) σ σ2 → pk_RM B T σ2 (pa_cw a c (pa_close (a.2.1 c))) → Φ none σ2) : pe_M (d + 1) 10 [.inr (.inr (pk_c B c))] σ Φ := by
  obtain ⟨w, n, hR, hn⟩ := hM
  have hp := pa_pots_0 (a := a)
  have h8 := hwf.1
  exact k10 hR hwf h0 h1 (by omega) hff he (fun σ2 g1 g2 => k σ2 (pk_frI_mono g1 (pk_Zc_Zs h0 (by omega))) (pk_RM_cw hn h0 h1 (by have := pa_pot_cls (n := (a.2.1 c).1) (e := (a.2.1 c).2.1) (a.2.1 c).2.2 (hwf.2 c h0 h1) hff; unfold pa_close; omega) g2))
/-- tellJoining, from the first -/
theorem k37M (hM : pk_RM B T σ a) (hwf : pa_wf3 a) (h0 : 0 ≤ c) (h1 : c < a.1 4) (h6 : 6 ≤ (a.2.1 c).1 2) (hx : pa_mxx a c) (k : ∀ σ2, pk_frI (pk_Zs B) σ σ2 → pk_RM B T σ2 (pa_settle a) → Φ none σ2) : pe_M (d + 11) 37 [.inr (.inr B), .inl c, .inl 0] σ Φ := by
  have h8 := hwf.1.1
  refine pe_M.up (k37 hwf 8 d _ σ a c 0 hM (pa_mid_refl _) h0 h1 h6 (Int.le_refl _) (by omega) ?_ (fun σ2 s2 t1 t2 t3 t4 t5 t6 t7 => ?_)) (by omega)
  · have := pa_cnt_not (p := fun i => decide ((a.2.1 i).1 2 = 5)) (c := c) (a.1 4).toNat h0 (by omega) (by simp; omega)
    unfold pa_J
    omega
  · have hmax : pa_max s2 := fun i i0 i1 i5 => by
      refine Classical.byContradiction fun q6 => ?_
      rw [t4.1] at i1
      obtain ⟨u1, u2⟩ := t7 i i0 i1 i5 (by omega)
      have hsi : s2.2.1 i = a.2.1 i := by
        rcases t4.2.2 i with q4 | ⟨n4, q4⟩
        · exact q4
        · exact absurd i5 (pa_told_5 q4).2.2
      rw [hsi] at i5 u1 u2
      rcases hx i i0 i1 i5 with q4 | q4
      · exact u1 q4
      · omega
    rw [pa_mid_max t4 hmax] at t3
    exact k σ2 t1 t3
/-- closeDown -/
theorem k26 (hM : pk_RM B T σ a) (hwf : pa_wf a) (h0 : 0 ≤ c) (h1 : c < a.1 4) (h6 : (a.2.1 c).1 2 < 6) (k : ∀ σ2, pk_fr (pk_Zs B) σ σ2 → pk_RM B T σ2 (pa_shut a c) → Φ none σ2) : pe_M (d + 13) 26 [.inr (.inr B), .inl c] σ Φ := by
  have hF := hM.F
  have h8 := hwf.1.1
  have hc8 : c < 8 := by omega
  have hwc := hwf.1.2.2.1 c h0 h1
  refine pe_M_of ck26 (Nat.le_of_ble_eq_true rfl) ?_
  refine b26_0 (k := ?_)
  have e0 : pa_lvn a c 0 = pa_lvn a c 0 := rfl
  refine k26_loop1 hwf.w3 h0 hc8 3 0 σ _ (by decide) (by decide) (pk_RM_qeq hM rfl rfl rfl (fun k hk ch c0 c3 => if_neg (by omega))) (fun σ1 g1 g2 => ?_)
  have hF1 := g2.F
  have gl : pk_RM B T σ1 (pa_lv a c) := pk_RM_qeq g2 rfl rfl rfl (fun k hk ch c0 c3 => by
    show _ = (if ch < 3 then _ else _)
    rw [if_pos c3]; rfl)
  have hw9 : pa_wf9 (pa_lv a c) := hwf.1.w9
  refine b26_33 (k := ?_)
  refine pe_M.up (k8M (d := 0) gl hw9 h0 h1 (fun σ2 e1 e2 e3 => ?_)) (by omega)
  have hF2 := e3.F
  have ho2 : pk_Fo (pk_c B c) σ2 := pk_mO hF2 h0 hc8
  have hw92 : pa_wf9 (pa_cw (pa_lv a c) c (pa_on (a.2.1 c))) := pa_wf9_cw hw9 hwc.2.1
  refine b26_44 (k := ?_)
  refine pe_M.up (k10M (d := 0) e3 hw92 h0 h1 (by rw [pa_cw_same]; exact hwc.2.2.1) (by rw [pa_cw_same]; exact pa_wfc_e (c := a.2.1 c) hwc (by omega)) (fun σ3 e4 e5 => ?_)) (by omega)
  rw [pa_cw_same, pa_cw_cw] at e5
  have e5 : pk_RM B T σ3 (pa_shut1 a c) := e5
  obtain ⟨k1, k2, k3'⟩ := pa_shut1_wf hwf h0 h1 h6
  obtain ⟨u1, u2, u3, u4⟩ := pa_shut2_wf hwf h0 h1 h6
  have hF3 := e5.F
  have h1' : c < (pa_shut1 a c).1 4 := h1
  have ho3 := e5.o k1.1 h0 h1'
  have gfr := pk_fr_trans g1 (pk_frI_trans e1 e4).1
  have h1'' : c < (pa_shut2 a c).1 4 := by rw [u2]; exact h1
  have hfin : ∀ σ4, pk_fr (pk_Zs B) σ σ4 → pk_RM B T σ4 (pa_shut2 a c) → ∀ o3, pe_X (d + 12) 26 (61, [some (.inr (.inr B)), some (.inl c), some (.inr (.inr (pk_c B c))), o3], [], σ4) Φ := fun σ4 f1 f2 o3 => by
    have hF4 := f2.F
    have ho4 := f2.o u1.1 h0 h1''
    refine b26_61 (k := ?_)
    exact k26_loop2 1000 0 σ4 _ (by decide) (by decide) f2 u1 h0 h1'' u4 (fun σ5 f3 f4 => k σ5 (pk_fr_trans f1 f3) f4)
  refine b26_48 (k := ?_)
  refine pe_M.up (k3 (d := 0) ho3 (e5.i h0 h1').2.1 (k1.1.2.2.1 c h0 h1').1.2.1 (fun q => ?_) (fun q => ?_)) (by omega)
  · refine b26_52 (k1 := fun q => by omega) (k2 := fun _ => ?_)
    refine b26_55 (k := ?_)
    refine pe_M.up (k37M (d := d) e5 k1 h0 h1' q k2 (fun σ4 f1 f2 => ?_)) (by omega)
    have e : pa_shut2 a c = pa_settle (pa_shut1 a c) := if_pos q
    refine hfin σ4 (pk_fr_trans gfr f1.1) (by rw [e]; exact f2) _
  · refine b26_52 (k1 := fun _ => ?_) (k2 := fun q => by omega)
    have e : pa_shut2 a c = pa_shut1 a c := if_neg q
    exact hfin σ3 gfr (by rw [e]; exact e5) _
end

