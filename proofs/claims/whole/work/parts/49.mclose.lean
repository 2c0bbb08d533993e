/-! THE MODEL: closing -/
def pa_mu : List pa_F → Int
  | [] => 0
  | f :: fs => (26 - f.1 2) + pa_mu fs
theorem pa_mu_0 : ∀ fs : List pa_F, (∀ f ∈ fs, pa_wff f) → 0 ≤ pa_mu fs
  | [], _ => Int.le_refl _
  | f :: fs, h => by
    have h1 := (h f List.mem_cons_self).2.1
    have h2 := pa_mu_0 fs (fun g hg => h g (List.mem_cons_of_mem _ hg))
    unfold pa_mu
    omega
theorem pa_mu_156 : ∀ fs : List pa_F, (∀ f ∈ fs, pa_wff f) → pa_mu fs ≤ 26 * fs.length
  | [], _ => by simp [pa_mu]
  | f :: fs, h => by
    have h1 := (h f List.mem_cons_self).2.1
    have h2 := pa_mu_156 fs (fun g hg => h g (List.mem_cons_of_mem _ hg))
    unfold pa_mu
    rw [List.length_cons]
    push_cast
    omega
theorem pa_mu_throwF {n : Nat → Int} {e : List Int} : ∀ (fs : List pa_F) (φ : List Int), (∀ f ∈ fs, pa_wff f) → pa_mu (pa_throwF n e fs φ).2.2 ≤ pa_mu fs
  | [], φ, _ => by unfold pa_throwF; exact Int.le_refl _
  | f :: fs, φ, h => by
    have h1 := (h f List.mem_cons_self).2.1
    unfold pa_throwF
    split
    · show (26 - (pa_catch f φ).1 2) + pa_mu fs ≤ (26 - f.1 2) + pa_mu fs
      have : (pa_catch f φ).1 2 = pa_fin f.2.1 + 1 := by simp [pa_catch, pa_s]
      omega
    · have h2 := pa_mu_throwF (n := n) (e := e) fs (pa_add φ f.2.2) (fun g hg => h g (List.mem_cons_of_mem _ hg))
      show _ ≤ (26 - f.1 2) + pa_mu fs
      omega
theorem pa_mu_closeF {n : Nat → Int} {e : List Int} : ∀ (fs : List pa_F), (∀ f ∈ fs, pa_wff f) → pa_mu (pa_closeF n e fs).2.2 ≤ pa_mu fs
  | [], _ => by unfold pa_closeF; exact Int.le_refl _
  | f :: fs, h => by
    have h1 := (h f List.mem_cons_self).2.1
    unfold pa_closeF
    split
    · exact Int.le_refl _
    · split
      · show (26 - (pa_catch f []).1 2) + pa_mu fs ≤ (26 - f.1 2) + pa_mu fs
        have : (pa_catch f []).1 2 = pa_fin f.2.1 + 1 := by simp [pa_catch, pa_s]
        omega
      · have h2 := pa_mu_closeF (n := n) (e := e) fs (fun g hg => h g (List.mem_cons_of_mem _ hg))
        show _ ≤ (26 - f.1 2) + pa_mu fs
        omega
theorem pa_mu_end {c : pa_C} {f : pa_F} {fs : List pa_F} (hf : c.2.2 = f :: fs) (h : ∀ g ∈ f :: fs, pa_wff g) : pa_mu (pa_endTop c).2.2 + 1 ≤ pa_mu (f :: fs) := by
  have h1 := (h f List.mem_cons_self).2.1
  have h2 : ∀ g ∈ fs, pa_wff g := fun g hg => h g (List.mem_cons_of_mem _ hg)
  show _ ≤ (26 - f.1 2) + pa_mu fs
  unfold pa_endTop
  rw [hf]
  dsimp only
  split
  · split
    · show pa_mu [] + 1 ≤ _
      have := pa_mu_0 _ h2
      unfold pa_mu
      omega
    · dsimp only
      omega
  · have := pa_mu_closeF (n := c.1) (e := c.2.1) fs h2
    omega
  · rename_i g gs _
    have := pa_mu_throwF (n := c.1) (e := c.2.1) fs (g :: gs) h2
    omega
theorem pa_mu_st1 {a : pa_M} {who : Int} {f : pa_F} {fs : List pa_F} (hc : pa_wfc (a.2.1 who)) (hf : (a.2.1 who).2.2 = f :: fs) : pa_mu ((pa_st1 a who true).2.1 who).2.2 + 1 ≤ pa_mu (a.2.1 who).2.2 := by
  have hff := hc.2.2.1
  rw [hf] at hff
  have hw := pa_wfc_top hc hf
  unfold pa_st1
  rw [hf]
  dsimp only
  split
  · rw [pa_cw_same]
    exact pa_mu_end hf hff
  · rename_i hlen
    have hC := pa_next_wf hc hf hlen
    have hmem := pa_at_mem (p := f.2.1) (i := f.1 2) hw.2.1.1 (by omega)
    obtain ⟨hlo, hn0, hn9⟩ := hw.2.2.2.2.1.2.1 _ hmem
    have hmu : pa_mu ((pa_s f.1 2 (f.1 2 + 1), f.2) :: fs) + 1 = pa_mu (f :: fs) := by
      unfold pa_mu
      simp [pa_s]
      omega
    generalize (pa_at f.2.1 (f.1 2)).1 = l at *
    generalize (pa_at f.2.1 (f.1 2)).2 = n at *
    generalize hCe : ((a.2.1 who).1, (a.2.1 who).2.1, ((pa_s f.1 2 (f.1 2 + 1), f.2) :: fs : List pa_F)) = C at *
    have Cf : C.2.2 = (pa_s f.1 2 (f.1 2 + 1), f.2) :: fs := by rw [← hCe]
    have hmC : pa_mu C.2.2 + 1 ≤ pa_mu (f :: fs) := by rw [Cf]; omega
    unfold pa_do
    split
    · rw [pa_cw_same]; exact hmC
    split
    · rw [pa_cw_same]; exact hmC
    split
    · rw [pa_cw_same]
      split
      · unfold pa_top
        rw [Cf]
        dsimp only
        rw [← hmu]
        unfold pa_mu
        simp [pa_s]
        omega
      · exact hmC
    split
    · rw [pa_cw_same]
      unfold pa_top
      rw [Cf]
      dsimp only
      rw [← hmu]
      unfold pa_mu
      simp [pa_s]
    split
    · rw [pa_cw_same]
      have := pa_mu_throwF (n := C.1) (e := C.2.1) C.2.2 [n] hC.2.2.1
      unfold pa_throw
      omega
    split
    · rw [pa_cw_same]; exact hmC
    · rename_i r; exact absurd rfl r
theorem pa_mu_step {a : pa_M} {who : Int} (h : pa_wf a) (hwho : 0 ≤ who ∧ who < a.1 4) (hs1 : (a.2.1 who).1 2 = 1) : pa_mu ((pa_step a who true).2.1 who).2.2 + 1 ≤ pa_mu (a.2.1 who).2.2 := by
  have hc := h.1.2.2.1 who hwho.1 hwho.2
  have hne : (a.2.1 who).2.2 ≠ [] := fun r => by have := hc.2.2.2.1.mpr r; omega
  obtain ⟨f, fs, hfs⟩ := List.exists_cons_of_ne_nil hne
  have h1 := pa_st1_cl (a := a) hs1
  rcases pa_step_end (cl := true) h hwho (by omega) with e | e
  · rw [e]; exact pa_mu_st1 hc hfs
  · omega
section
variable {d M q : Nat} {Φ : Option pe_V → pe_H → Prop} {σ : pe_H} {y y' : Nat → Int → Int} {c n : Int} {a : pa_M}
theorem pm_R_qeq {a' : pa_M} (hM : pm_R y a) (e1 : a'.1 = a.1) (e2 : a'.2.1 = a.2.1) (e3 : a'.2.2.1 = a.2.2.1) (e4 : ∀ k : Nat, k < 2 → ∀ ch, 0 ≤ ch → ch < 3 → a'.2.2.2 k ch = a.2.2.2 k ch) : pm_R y a' := by
  obtain ⟨w, n, ⟨a1, a2, a3, a4, a5⟩, hn⟩ := hM
  obtain ⟨x1, x2, x3, x4⟩ := a'
  dsimp only at e1 e2 e3 e4
  subst e1 e2 e3
  refine ⟨w, n, ⟨a1, a2, a3, a4, fun k hk ch c0 c3 => ?_⟩, hn⟩
  show y 25 _ = ((x4 k ch).length : Int) ∧ ∀ i : Nat, i < (x4 k ch).length → _ = (x4 k ch).getD i 0
  rw [e4 k hk ch c0 c3]
  exact a5 k hk ch c0 c3
theorem c150M (hF : pm_F M σ) (hM : pm_R y a) (hw8 : pa_wf8 a) (h0 : 0 ≤ c) (h1 : c < a.1 4) (h3 : (a.2.1 c).1 2 < 3) (he : (a.2.1 c).2.1 = []) (k : ∀ y2, pm_fr pm_Zt y y2 → pm_R y2 (pa_cw a c (pa_close (a.2.1 c))) → Φ none (pm_h M σ q y2)) : pe_M (d + 2) 150 [.inr (.inr M), .inl c] (pm_h M σ q y) Φ := by
  obtain ⟨w, n, hR, hn⟩ := hM
  have hp := pa_pots_0 (a := a)
  have h8 := hw8.1
  exact c150 hF hR hw8 h0 h1 (by omega) h3 he (fun y2 g1 g2 => k y2 (pm_fr_mono g1 pm_Zc_Zt) (pm_R_cw hn h0 h1 (by have := pa_pot_cls (n := (a.2.1 c).1) (e := (a.2.1 c).2.1) (a.2.1 c).2.2 (hw8.2 c h0 h1).1 (hw8.2 c h0 h1).2; unfold pa_close; omega) g2))
theorem c167_loop (hF : pm_F M σ) : ∀ (m : Nat) (y1 : Nat → Int → Int) (s : pa_M), pm_R y1 s → pa_wf s → 0 ≤ c → c < s.1 4 → ((s.2.1 c).1 2 = 1 ∨ 6 ≤ (s.2.1 c).1 2) → pa_mu (s.2.1 c).2.2 < m → (∀ y2, pm_fr pm_Zs y1 y2 → pm_R y2 (pa_cl m s c) → Φ none (pm_h M σ q y2)) → pe_X (d + 6) 167 (59, [some (.inr (.inr M)), some (.inl c)], [], pm_h M σ q y1) Φ
  | 0, y1, s, hM, hwf, h0, h1, h16, hmu, k => by
    have := pa_mu_0 _ (hwf.1.2.2.1 c h0 h1).2.2.1
    omega
  | m + 1, y1, s, hM, hwf, h0, h1, h16, hmu, k => by
    have h8 := hwf.1.1
    have i2 := (hM.nn h0 h1).1.1.2.1
    have hb := (hwf.1.2.2.1 c h0 h1).1.2.1
    refine b167_59 hF (k := ?_)
    refine pe_M.up (c139 (d := 0) hF h0 (by omega) (by omega) (fun r6 => ?_) (fun r6 => ?_)) (by omega)
    · refine b167_64 hF (k1 := fun _ => ?_) (k2 := fun r => by omega)
      refine b167_76 hF (k := ?_)
      refine pe_M.up (c159 (d := 0) hF hM hwf.w3 (fun y2 e1 e2 => ?_)) (by omega)
      refine b167_80 hF (k := ?_)
      refine k y2 (pm_fr_mono e1 pm_Zt_Zs) ?_
      unfold pa_cl
      rw [if_pos (by omega)]
      rw [pa_settle_id hwf.2.2.2] at e2
      exact e2
    · have h3 : (s.2.1 c).1 2 = 1 := by omega
      refine b167_64 hF (k1 := fun r => absurd rfl r) (k2 := fun _ => ?_)
      refine b167_67 hF (k := ?_)
      refine c165t hF hM hwf h0 h1 h3 (fun y2 g1 g2 g3 => ?_)
      have hw2 := pa_step_wf (cl := true) hwf ⟨h0, h1⟩ (by omega)
      have e1 := (pa_step_1 (cl := true) hwf ⟨h0, h1⟩ (by omega : (s.2.1 c).1 2 < 3)).1
      have h1' : c < (pa_step s c true).1 4 := by rw [e1]; exact h1
      have hmu2 := pa_mu_step hwf ⟨h0, h1⟩ h3
      refine b167_73 hF (k := ?_)
      refine c167_loop hF m y2 _ g3 hw2 h0 h1' (pa_step_cl hwf ⟨h0, h1⟩ h3) (by omega) (fun y3 e2 e3 => k y3 (pm_fr_trans g1 e2) ?_)
      unfold pa_cl
      rw [if_neg (by omega)]
      exact e3
/-- closing -/
theorem c167 (hF : pm_F M σ) (hM : pm_R y a) (hwf : pa_wf a) (h0 : 0 ≤ c) (h1 : c < a.1 4) (h6 : (a.2.1 c).1 2 < 6) (k : ∀ y2, pm_fr pm_Zs y y2 → pm_R y2 (pa_shut a c) → Φ none (pm_h M σ q y2)) : pe_M (d + 7) 167 [.inr (.inr M), .inl c] (pm_h M σ q y) Φ := by
  have h8 := hwf.1.1
  have hc8 : c < 8 := by omega
  have hwc := hwf.1.2.2.1 c h0 h1
  have hb := hwc.1.2.1
  have hN := (hM.nn h0 h1).1
  have i2 := hN.1.2.1
  have hin : ∀ k : Nat, k < 2 → ∀ ch, 0 ≤ ch → ch < 3 → (c ∈ a.2.2.2 k ch ↔ ((a.2.1 c).1 2 = 3 + k ∧ (a.2.1 c).1 7 = ch)) := fun k hk ch c0 c3 => by
    rw [(hwf.2.1 k hk ch c0 c3).2 c]
    constructor
    · intro h; exact h.2
    · intro h; exact ⟨⟨h0, h1⟩, h⟩
  have hself : ∀ k : Nat, k < 2 → ∀ ch, 0 ≤ ch → ch < 3 → c ∉ a.2.2.2 k ch → (a.2.2.2 k ch).filter (fun z => decide (z ≠ c)) = a.2.2.2 k ch := fun k hk ch c0 c3 hc => by
    rw [List.filter_eq_self]
    intro z hz
    simp
    intro e
    exact hc (by rw [← e]; exact hz)
  have hmain : ∀ y1, pm_fr pm_Zt y y1 → pm_R y1 (pa_lv a c) → pe_X (d + 6) 167 (47, [some (.inr (.inr M)), some (.inl c)], [], pm_h M σ q y1) Φ := fun y1 g1 g2 => by
    have hw8 : pa_wf8 (pa_lv a c) := hwf.1.w8
    have e3 := pm_R_on g2 hw8 h0 h1
    have hw92 : pa_wf8 (pa_cw (pa_lv a c) c (pa_on (a.2.1 c))) := pa_wf8_cw hw8 hwc.2.1 hwc.2.2.1
    refine b167_47 hF (k := ?_)
    refine pe_M.up (c150M (d := 0) hF e3 hw92 h0 h1 (by rw [pa_cw_same, pa_on2]; decide) (by rw [pa_cw_same]; exact pa_wfc_e (c := a.2.1 c) hwc (by omega)) (fun y3 e4 e5 => ?_)) (by omega)
    rw [pa_cw_same, pa_cw_cw] at e5
    have e5 : pm_R y3 (pa_shut1 a c) := e5
    obtain ⟨k1, k2, k3'⟩ := pa_shut1_wf hwf h0 h1 h6
    obtain ⟨u1, u2, u3, u4⟩ := pa_shut2_wf hwf h0 h1 h6
    have gfr : pm_fr pm_Zt y y3 := pm_fr_trans (pm_fr_then g1 (Or.inl ⟨by decide, by decide⟩)) e4
    have h1' : c < (pa_shut1 a c).1 4 := h1
    have hb1 := (k1.1.2.2.1 c h0 h1').1.2.1
    have i21 := (e5.nn h0 h1').1.1.2.1
    by_cases r6 : 6 ≤ ((pa_shut1 a c).2.1 c).1 2
    · have e : pa_shut2 a c = pa_settle (pa_shut1 a c) := if_pos r6
      have hc6 : 6 ≤ ((pa_shut2 a c).2.1 c).1 2 := by
        rw [e]
        rcases (pa_settle_mid (pa_shut1 a c)).2.2 c with r | ⟨m, r⟩
        · rw [r]; exact r6
        · have := (pa_told_5 r).2.1; omega
      refine b167_59 hF (k := ?_)
      refine pe_M.up (c139 (d := 0) hF h0 hc8 (by omega) (fun r => ?_) (fun r => by omega)) (by omega)
      refine b167_64 hF (k1 := fun _ => ?_) (k2 := fun r => by omega)
      refine b167_76 hF (k := ?_)
      refine pe_M.up (c159 (d := 0) hF e5 k1 (fun y4 f1 f2 => ?_)) (by omega)
      refine b167_80 hF (k := ?_)
      refine k y4 (pm_fr_mono (pm_fr_trans gfr f1) pm_Zt_Zs) ?_
      have : pa_shut a c = pa_settle (pa_shut1 a c) := by
        unfold pa_shut pa_cl
        rw [if_pos hc6, e]
      rw [this]
      exact f2
    · have e : pa_shut2 a c = pa_shut1 a c := if_neg r6
      rw [e] at u1 u4
      have hff := (u1.1.2.2.1 c h0 h1')
      have hmu := pa_mu_156 _ hff.2.2.1
      have hl6 := hff.2.1
      refine c167_loop hF 1000 y3 _ e5 u1 h0 h1' u4 (by omega) (fun y4 f1 f2 => k y4 (pm_fr_trans (pm_fr_mono gfr pm_Zt_Zs) f1) ?_)
      unfold pa_shut
      rw [e]
      exact f2
  have hlv : ∀ (st : Nat) (o : Int) (s2 : Int), st < 2 → (a.2.1 c).1 2 = 3 + st → s2 = 3 * (st : Int) → y 12 c = o → pe_X (d + 6) 167 (42, [some (.inr (.inr M)), some (.inl c)], [.inl s2, .inl o, .inr (.inr M)], pm_h M σ q y) Φ := fun st o s2 hst h34 hs2 ho => by
    have hwt := (hwf.2.2.1 c h0 h1).1 (by omega)
    have h12 : o = (a.2.1 c).1 7 := by rw [← ho]; exact hN.2 (by omega) (by omega)
    subst hs2
    obtain ⟨f1, f2, f3⟩ := pa_wfq_b (k := st) (ch := o) hwf.2.1 h8.2 hst (by omega) (by omega)
    have hQ := hM.ln (k := st) (ch := o) hst (by omega) (by omega)
    refine b167_42 hF (k := ?_)
    rw [show o + 3 * (st : Int) = 3 * (st : Int) + o by omega]
    refine pe_M.up (c154 (d := 0) hF (by omega) ⟨h0, hc8⟩ hQ f2 f1 (fun y1 g1 g2 => ?_)) (by omega)
    have hM1 := pm_R_q (k := st) (ch := o) hM hwf.w3.ql hst (by omega) (by omega) g1 g2
    refine hmain y1 (pm_fr_mono g1 (pm_Zl_Zt (k := 0))) (pm_R_qeq hM1 rfl rfl rfl (fun k hk ch c0 c3 => ?_))
    show (a.2.2.2 k ch).filter (fun z => decide (z ≠ c)) = (if k = st ∧ ch = o then pk_wo c (a.2.2.2 st o) else a.2.2.2 k ch)
    by_cases e : k = st ∧ ch = o
    · rw [if_pos e, e.1, e.2]; rfl
    · rw [if_neg e]
      refine hself k hk ch c0 c3 (fun hc => ?_)
      have := (hin k hk ch c0 c3).mp hc
      omega
  have hno : ¬ ((a.2.1 c).1 2 = 3 ∨ (a.2.1 c).1 2 = 4) → pe_X (d + 6) 167 (47, [some (.inr (.inr M)), some (.inl c)], [], pm_h M σ q y) Φ := fun h34 => by
    refine hmain y (pm_fr_refl _ _) (pm_R_qeq hM rfl rfl rfl (fun k hk ch c0 c3 => hself k hk ch c0 c3 (fun hc => ?_)))
    have := (hin k hk ch c0 c3).mp hc
    omega
  have h20 : (a.2.1 c).1 2 = 3 ∨ (a.2.1 c).1 2 = 4 → pe_X (d + 6) 167 (20, [some (.inr (.inr M)), some (.inl c)], [], pm_h M σ q y) Φ := fun h34 => by
    refine b167_20 hF (k1 := fun r => ?_) (k2 := fun r => ?_)
    · refine b167_41 hF (k := ?_)
      exact hlv 0 _ 0 (by decide) (by omega) (by simp) rfl
    · refine b167_37 hF (k := ?_)
      exact hlv 1 _ 3 (by decide) (by omega) (by simp) rfl
  refine pe_M_of ck167 (Nat.le_of_ble_eq_true rfl) ?_
  refine b167_0 hF (k1 := fun r => ?_) (k2 := fun r => ?_)
  · exact h20 (by omega)
  · refine b167_10 hF (k1 := fun r2 => ?_) (k2 := fun r2 => ?_)
    · exact hno (by omega)
    · exact h20 (by omega)
end
