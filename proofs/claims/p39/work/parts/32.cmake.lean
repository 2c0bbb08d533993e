/-! THE CLASS: makeStep -/
section
variable {d B : Nat} {Φ : Option pe_V → pe_H → Prop} {T : Nat → Prop} {σ σ' : pe_H} {c : Int} {a : pa_M}
theorem k38M (hM : pk_RM B T σ a) (hwf : pa_wf0 a) (h0 : 0 ≤ c) (h1 : c < a.1 4) (h3 : (a.2.1 c).1 2 < 3) (k : ∀ σ2, pk_frI (pk_Zs B) σ σ2 → pe_I σ2 B 7 = pe_I σ B 7 → pk_RM B T σ2 (pa_cw a c (pa_endTop (a.2.1 c))) → Φ none σ2) : pe_M (d + 2) 38 [.inr (.inr B), .inr (.inr (pk_c B c))] σ Φ := by
  obtain ⟨w, n, hR, hn⟩ := hM
  have hc := hwf.2.2.1 c h0 h1
  have hp := pa_pots_0 (a := a)
  have h8 := hwf.1
  have hE := pa_pot_end hc
  exact k38 hR hwf.w9 h0 h1 (by omega) hc h3 (fun σ2 w2 g1 g2 => k σ2 (pk_frI_mono g1 (pk_Zc_Zs h0 (by omega))) (g1.1.2 B pk_B_Zc 7).1 (pk_RM_cw hn h0 h1 (by omega) g2))
theorem pa_live_cw {l n : Int} {v : pa_C} : pa_live (pa_cw a c v) c l n v = pa_live a c l n v := by
  have e1 : pa_sendAt (pa_cw a c v) c v n = pa_sendAt a c v n := by
    unfold pa_sendAt
    simp only [pa_cw_cw]
    rfl
  have e2 : pa_getAt (pa_cw a c v) c v n = pa_getAt a c v n := by
    unfold pa_getAt
    simp only [pa_cw_cw]
    rfl
  have e3 : pa_join (pa_cw a c v) c v n = pa_join a c v n := by
    unfold pa_join
    by_cases q : n = c
    · rw [if_pos (Or.inl q), if_pos (Or.inl q)]
    · rw [pa_cw_ne q]; rfl
  unfold pa_live
  rw [e1, e2, e3]
  simp only [pa_cw_cw]
  rfl
theorem k31 {b : Bool} (hM : pk_RM B T σ a) (hwf : pa_wf a) (h0 : 0 ≤ c) (h1 : c < a.1 4) (h3 : (a.2.1 c).1 2 = 1) (k : ∀ σ2, pk_fr (pk_Zs B) σ σ2 → pk_yl B c σ σ2 (((pa_st1 a c b).2.1 c).1 2) → pk_RM B T σ2 (pa_step a c b) → Φ none σ2) : pe_M (d + 12) 31 [.inr (.inr B), .inl c, .inl (if b = true then 1 else 0)] σ Φ := by
  have hF := hM.F
  have h8 := hwf.1.1
  have hc8 : c < 8 := by omega
  have hw9 := hwf.1.w9
  have hoc := hM.o hwf.1 h0 h1
  have hwc := hwf.1.2.2.1 c h0 h1
  have hl := hwc.2.1
  have hne : (a.2.1 c).2.2 ≠ [] := fun q => by have := hwc.2.2.2.1.mpr q; omega
  obtain ⟨f, fs, hfs⟩ := List.exists_cons_of_ne_nil hne
  rw [hfs, List.length_cons] at hl
  obtain ⟨t9, ⟨t1, t2, t3, t4⟩, tP⟩ := hM.tp h0 h1 hfs
  have hff := pa_wfc_top hwc hfs
  have f2 := hff.2.1
  have f16 := hff.2.2.2.2.1.1
  obtain ⟨k1, k2, k3', k4, k5⟩ := pa_st1_wf (cl := b) hwf.w3 ⟨h0, h1⟩ (by omega : (a.2.1 c).1 2 < 3)
  have e4 : (pa_st1 a c b).1 4 = a.1 4 := by rw [k2]
  -- the end of it
  have hend : ∀ (σ1 : pe_H) (o2 o4 o5 o6 : Option pe_V), pk_fr (pk_Zs B) σ σ1 → pk_yl B c σ σ1 (((pa_st1 a c b).2.1 c).1 2) → pk_RM B T σ1 (pa_st1 a c b) → pe_X (d + 11) 31 (243, [some (.inr (.inr B)), some (.inl c), o2, some (.inr (.inr (pk_c B c))), o4, o5, o6], [], σ1) Φ := by
    intro σ1 o2 o4 o5 o6 g1 g2 g3
    have hF1 := g3.F
    have h1' : c < (pa_st1 a c b).1 4 := by rw [e4]; exact h1
    have ho1 := g3.o k1.1 h0 h1'
    have hb2 := (k1.1.2.2.1 c h0 h1').1.2.1
    refine b31_243 (k := ?_)
    refine k3 ho1 (g3.i h0 h1').2.1 hb2 (fun q => ?_) (fun q => ?_)
    · refine b31_247 (k1 := fun q4 => by omega) (k2 := fun _ => ?_)
      refine b31_250 (k := ?_)
      refine pe_M.up (k37 k1 8 d _ σ1 (pa_st1 a c b) c 0 g3 (pa_mid_refl _) h0 h1' q (Int.le_refl _) (by omega) ?_ (fun σ2 s2 t1 t2 t3 t4 t5 t6 t7 => ?_)) (by omega)
      · have := pa_cnt_not (p := fun i => decide (((pa_st1 a c b).2.1 i).1 2 = 5)) (c := c) ((pa_st1 a c b).1 4).toNat h0 (by omega) (by simp; omega)
        unfold pa_J
        omega
      · refine b31_256 (k := ?_)
        have hmax : pa_max s2 := fun i i0 i1 i5 => by
          refine Classical.byContradiction fun q6 => ?_
          rw [t4.1] at i1
          obtain ⟨u1, u2⟩ := t7 i i0 i1 i5 (by omega)
          have hsi : s2.2.1 i = (pa_st1 a c b).2.1 i := by
            rcases t4.2.2 i with q4 | ⟨n4, q4⟩
            · exact q4
            · exact absurd i5 (pa_told_5 q4).2.2
          rw [hsi] at i5 u1 u2
          rcases k5 hwf.2.2.2 i i0 i1 i5 with q4 | q4
          · exact u1 q4
          · omega
        have hs2 := pa_mid_max t4 hmax
        refine k σ2 (pk_fr_trans g1 t1.1) ⟨fun e => by rw [t2]; exact g2.1 e, fun e => by rw [t2]; exact g2.2 e⟩ ?_
        unfold pa_step
        rw [if_pos q, ← hs2]
        exact t3
    · refine b31_247 (k1 := fun _ => ?_) (k2 := fun q4 => by omega)
      refine b31_256 (k := ?_)
      refine k σ1 g1 g2 ?_
      unfold pa_step
      rw [if_neg q]
      exact g3
  refine pe_M_of ck31 (Nat.le_of_ble_eq_true rfl) ?_
  refine b31_0 (w0 := ?_) (k1 := fun _ => ?_) (k2 := fun q => ?_)
  · unfold pe_in; omega
  · refine b31_16 (h2 := by rw [t9]; exact pk_RPr_K tP) (k := ?_)
    rw [t9]
    refine k49 tP ?_
    rw [t2]
    refine b31_42 (k1 := fun q => ?_) (k2 := fun q => ?_)
    · have hlen : ¬ (f.2.1.length : Int) ≤ f.1 2 := by omega
      have hKf := pk_oEK hoc (i := (fs.length : Int)) (by omega) (by omega)
      have hKP := pk_RPr_K tP
      have hmem := pa_at_mem (p := f.2.1) (i := f.1 2) f2.1 (by omega)
      obtain ⟨hlo, hn0, hn9⟩ := hff.2.2.2.2.1.2.1 _ hmem
      have hlb := pa_okl_b hlo
      have hst1 : pa_st1 a c b = pa_do a c b (pa_at f.2.1 (f.1 2)).1 (pa_at f.2.1 (f.1 2)).2 ((a.2.1 c).1, (a.2.1 c).2.1, (pa_s f.1 2 (f.1 2 + 1), f.2) :: fs) := by
        simp only [pa_st1, hfs, if_neg hlen]
      refine b31_53 (k := ?_)
      rw [t2]
      refine k50 tP hff.2.2.2.2.1 f2.1 q ?_
      refine b31_66 (k := ?_)
      rw [t2]
      refine k51 tP hff.2.2.2.2.1 f2.1 q ?_
      generalize (pa_at f.2.1 (f.1 2)).1 = l at *
      generalize (pa_at f.2.1 (f.1 2)).2 = n at *
      have g1 := pk_RM_top (j := 2) (v := pe_I σ (pk_f (pk_c B c) (fs.length : Int)) 2 + 1) (by decide) hM hw9 h0 h1 hfs
      have hz := pk_Zc_Zs h0 hc8 _ (pk_f_Zc (B := B) (c := c) (i := fs.length) (by omega))
      have hfr : pk_fr (pk_Zs B) σ (pe_wI σ (pk_f (pk_c B c) (fs.length : Int)) 2 (pe_I σ (pk_f (pk_c B c) (fs.length : Int)) 2 + 1)) := (pk_frI_wI hz).1
      have h7 : pe_I (pe_wI σ (pk_f (pk_c B c) (fs.length : Int)) 2 (pe_I σ (pk_f (pk_c B c) (fs.length : Int)) 2 + 1)) B 7 = pe_I σ B 7 := pe_I_ner (by unfold pk_f pk_c; omega)
      have hc1 := pa_next_wf hwc hfs hlen
      generalize hτ : pe_wI σ (pk_f (pk_c B c) (fs.length : Int)) 2 (pe_I σ (pk_f (pk_c B c) (fs.length : Int)) 2 + 1) = τ at *
      rw [t2] at g1
      generalize hC : ((a.2.1 c).1, (a.2.1 c).2.1, ((pa_s f.1 2 (f.1 2 + 1), f.2) :: fs : List pa_F)) = C at *
      have C1 : C.1 = (a.2.1 c).1 := by rw [← hC]
      have C3 : C.1 2 = 1 := by rw [C1]; exact h3
      have Cf : C.2.2 = (pa_s f.1 2 (f.1 2 + 1), f.2) :: fs := by rw [← hC]
      have hw3 : pa_wf3 (pa_cw a c C) := pa_wf3_cw hwf.w3 (by omega) hc1 (by omega) (fun e => by omega)
      have hw91 := hw3.1.w9
      have hF1 := g1.F
      have h1' : c < (pa_cw a c C).1 4 := h1
      have hoc1 := g1.o hw3.1 h0 h1'
      have i3 := (g1.i h0 h1').2.2.1
      rw [pa_cw_same] at i3
      have hacc := hc1.1.2.2.1
      have Cf' : ((pa_cw a c C).2.1 c).2.2 = (pa_s f.1 2 (f.1 2 + 1), f.2) :: fs := by rw [pa_cw_same]; exact Cf
      obtain ⟨-, ⟨-, u2, -, -⟩, -⟩ := g1.tp h0 h1' Cf'
      have hKf1 := pk_oEK hoc1 (i := (fs.length : Int)) (by omega) (by omega)
      have hr := pk_Zc_Zs h0 hc8 _ (pk_r_Zc (B := B) (c := c))
      have htop : ∀ j v, j = 1 ∨ j = 2 ∨ j = 3 ∨ j = 4 → pk_RM B T (pe_wI τ (pk_f (pk_c B c) (fs.length : Int)) ((j : Nat) : Int) v) (pa_cw a c (C.1, C.2.1, (pa_s (pa_s f.1 2 (f.1 2 + 1)) j v, f.2) :: fs)) := fun j v hj => by
        have := pk_RM_top (j := j) (v := v) hj g1 hw91 h0 h1' Cf'
        rw [pa_cw_same, pa_cw_cw] at this
        exact this
      refine b31_81 (k0 := fun ql => ?_) (k1 := fun ql => ?_) (k2 := fun ql => ?_) (k3 := fun ql => ?_) (k4 := fun ql => ?_) (kd := fun q1 q2 q3 q4 q5 => ?_)
      · subst ql
        rw [hτ]
        refine b31_148 (k := ?_)
        have hdo : pa_st1 a c b = pa_cw a c (pa_s C.1 3 (Int.tmod (C.1 3 + n) 1000), C.2) := by rw [hst1]; simp [pa_do]
        have g2 := pk_RM_set (j := 3) (x := Int.tmod (pe_I τ (pk_c B c) 3 + n) 1000) (by decide) g1 hw91 h0 h1'
        rw [pa_cw_same, pa_cw_cw, i3] at g2
        rw [i3]
        refine hend _ _ _ _ _ (pk_fr_trans hfr (pk_frI_wI hr).1) (pk_yl_no ((pe_I_ner (by unfold pk_c; omega)).trans h7) ?_) (by rw [hdo]; exact g2)
        rw [hdo, pa_cw_same]
        simp [pa_s]
        omega
      · subst ql
        rw [hτ]
        refine b31_206 (k := ?_)
        have hdo : pa_st1 a c b = pa_cw a c (C.1, C.2.1, (pa_s (pa_s f.1 2 (f.1 2 + 1)) 4 1, f.2) :: fs) := by rw [hst1]; simp [pa_do, pa_top, Cf]
        refine hend _ _ _ _ _ (pk_fr_trans hfr (pk_frI_wI hz).1) (pk_yl_no ((pe_I_ner (by unfold pk_f pk_c; omega)).trans h7) ?_) (by rw [hdo]; exact htop 4 1 (by decide))
        rw [hdo, pa_cw_same]
        show C.1 2 ≠ 2
        omega
      · subst ql
        rw [hτ]
        have hm1 : 0 ≤ C.1 3 * n := Int.mul_nonneg hacc.1 hn0
        have hm2 : C.1 3 * n ≤ 999 * 9 := Int.mul_le_mul hacc.2 hn9 hn0 (by decide)
        refine b31_166 (w0 := by rw [i3]; unfold pe_in; omega) (k := ?_)
        have hdo : pa_st1 a c b = pa_cw a c (pa_s C.1 3 (Int.tmod (C.1 3 * n) 1000), C.2) := by rw [hst1]; simp [pa_do]
        have g2 := pk_RM_set (j := 3) (x := Int.tmod (pe_I τ (pk_c B c) 3 * n) 1000) (by decide) g1 hw91 h0 h1'
        rw [pa_cw_same, pa_cw_cw, i3] at g2
        rw [i3]
        refine hend _ _ _ _ _ (pk_fr_trans hfr (pk_frI_wI hr).1) (pk_yl_no ((pe_I_ner (by unfold pk_c; omega)).trans h7) ?_) (by rw [hdo]; exact g2)
        rw [hdo, pa_cw_same]
        simp [pa_s]
        omega
      · subst ql
        rw [hτ]
        have hdo : pa_st1 a c b = pa_cw a c (pa_throw C [n]) := by rw [hst1]; simp [pa_do]
        refine b31_215 (k := ?_)
        refine kTN g1 hw3.1 h0 h1' (by rw [pa_cw_same]; omega) (Or.inl ⟨rfl, rfl⟩) (fun m σ1 hF2 g => ?_)
        have ho1' : pk_Fo (pk_c B c) σ1 := pk_mO hF2 h0 hc8
        refine b31_224 (k := ?_)
        refine g _ _ (fun σ2 e1 e2' e3' => ?_)
        have hF3 := e3'.F
        have ho3 : pk_Fo (pk_c B c) σ2 := pk_mO hF3 h0 hc8
        refine b31_227 (k := ?_)
        rw [pa_cw_same, pa_cw_cw] at e3'
        refine hend _ _ _ _ _ (pk_fr_trans hfr e1.1) (pk_yl_no (e2'.trans h7) ?_) (by rw [hdo]; exact e3')
        rw [hdo, pa_cw_same]
        rcases pa_throw2 C [n] with e | e <;> omega
      · subst ql
        rw [hτ]
        refine b31_184 (k1 := fun q2 => ?_) (k2 := fun q2 => ?_)
        · have hdo : pa_st1 a c b = pa_cw a c C := by
            rw [hst1]
            simp only [pa_do]
            simp
            rw [if_neg (by omega)]
          refine hend _ _ _ _ _ hfr (pk_yl_no h7 (by rw [hdo, pa_cw_same]; omega)) (by rw [hdo]; exact g1)
        · refine b31_191 (k := ?_)
          have u2' : pe_I τ (pk_f (pk_c B c) (fs.length : Int)) 2 = f.1 2 + 1 := by rw [u2]; simp [pa_s]
          rw [u2']
          have hdo : pa_st1 a c b = pa_cw a c (C.1, C.2.1, (pa_s (pa_s f.1 2 (f.1 2 + 1)) 2 (f.1 2 + 1 + n), f.2) :: fs) := by
            rw [hst1]
            simp only [pa_do]
            simp
            rw [if_pos (by omega)]
            simp [pa_top, Cf, pa_ss]
          refine hend _ _ _ _ _ (pk_fr_trans hfr (pk_frI_wI hz).1) (pk_yl_no ((pe_I_ner (by unfold pk_f pk_c; omega)).trans h7) ?_) (by rw [hdo]; exact htop 2 _ (by decide))
          rw [hdo, pa_cw_same]
          show C.1 2 ≠ 2
          omega
      · rw [hτ]
        have hdo : pa_st1 a c b = if b = true then pa_cw a c C else pa_live a c l n C := by
          rw [hst1, pa_do, if_neg q1, if_neg q3, if_neg q5, if_neg q2, if_neg q4]
        cases b with
        | true =>
          refine b31_230 (k1 := fun _ => ?_) (k2 := fun q6 => by simp at q6)
          rw [if_pos rfl] at hdo
          refine hend _ _ _ _ _ hfr (pk_yl_no h7 (by rw [hdo, pa_cw_same]; omega)) (by rw [hdo]; exact g1)
        | false =>
          refine b31_230 (k1 := fun q6 => by simp at q6) (k2 := fun _ => ?_)
          rw [if_neg (by simp)] at hdo
          refine b31_234 (k := ?_)
          refine k32 g1 hw3 h0 h1' (by rw [pa_cw_same]; exact C3) hn0 hn9 hlb (fun σ2 e1 e2 e3 => ?_)
          rw [pa_cw_same, pa_live_cw] at e2 e3
          refine hend _ _ _ _ _ (pk_fr_trans hfr e1) (by rw [hdo]; exact ⟨fun e => by rw [e2.1 e, h7], fun e => by rw [e2.2 e, h7]⟩) (by rw [hdo]; exact e3)
    · have hlen : (f.2.1.length : Int) ≤ f.1 2 := by omega
      have hst1 : pa_st1 a c b = pa_cw a c (pa_endTop (a.2.1 c)) := by
        simp only [pa_st1, hfs, if_pos hlen]
      refine b31_45 (k := ?_)
      refine k38M hM hwf.1 h0 h1 (by omega) (fun σ2 e1 e2 e3 => ?_)
      have hF3 := e3.F
      have ho3 : pk_Fo (pk_c B c) σ2 := pk_mO hF3 h0 hc8
      refine b31_50 (k := ?_)
      refine hend _ _ _ _ _ e1.1 (pk_yl_no e2 ?_) (by rw [hst1]; exact e3)
      rw [hst1, pa_cw_same]
      rcases pa_endTop2 (a.2.1 c) with e | e <;> omega
  · omega
end

