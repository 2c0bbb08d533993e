/-! THE LAW: a step -/
section
variable {d o r q x y : Nat} {Z : Int → Prop} {Φ : Option pe_V → pe_H → Prop} {σ σ' : pe_H} {g g' : Nat → Int} {c e v n : Int} {a s : pa_M} {w : pa_C} {nu : Nat → Int} {k0 : Nat} {l : List Int} {f : pa_F} {fs : List pa_F}
theorem pa_s_s {u : Nat → Int} {j : Nat} {v w : Int} : pa_s (pa_s u j v) j w = pa_s u j w := by
  funext i
  unfold pa_s
  by_cases h : i = j
  · rw [if_pos h, if_pos h]
  · rw [if_neg h, if_neg h, if_neg h]
theorem k157 {b : Bool} (hR : ll_R σ g a) (hwf : pa_wf a) (h0 : 0 ≤ c) (h1 : c < a.1 4) (h3 : (a.2.1 c).1 2 = 1) (k : ∀ σ2 g2, ll_fr ll_Zs 61 194 σ g σ2 g2 → ll_R σ2 g2 (pa_step a c b) → Φ none σ2) : pe_M (d + 13) 157 [.inr (.inr 3), .inl c, .inl (if b = true then 1 else 0)] σ Φ := by
  have h8 := hwf.1.1
  have hw9 := hwf.1.w9
  have hL := hR.L
  have hg := hR.gg
  have hwc := hwf.1.2.2.1 c h0 h1
  have hK := hR.K h0 h1
  have hC := hR.co h0 h1
  have hne : (a.2.1 c).2.2 ≠ [] := fun q => by have := hwc.2.2.2.1.mpr q; omega
  obtain ⟨f, fs, hfs⟩ := List.exists_cons_of_ne_nil hne
  have hS := hR.S hw9 h0 h1 hfs
  have hl5 := hS.len
  have hF := hS.F
  have hKf := hF.1.1
  have hff := pa_wfc_top hwc hfs
  obtain ⟨-, f2, f3, f4, f5, -⟩ := hff
  obtain ⟨-, ⟨-, t2, t3, t4⟩, ⟨tA, tB⟩, -⟩ := hF
  have hn3' : 3 < pe_n σ := ll_lt hg (by rw [hR.B.2.1]; decide)
  have hog : g (pe_R σ 891 c) ≠ -9 := by rw [hC.1.2]; omega
  obtain ⟨k1, k2, k3', k4, k5⟩ := pa_st1_wf (cl := b) hwf.w3 ⟨h0, h1⟩ (by omega : (a.2.1 c).1 2 < 3)
  have e4 : (pa_st1 a c b).1 4 = a.1 4 := by rw [k2]
  have hend : ∀ (σ1 : pe_H) (g1 : Nat → Int) (o2 o3 o4 o5 o6 o7 : Option pe_V), ll_fr ll_Zs 12 96 σ g σ1 g1 → ll_R σ1 g1 (pa_st1 a c b) → pe_X (d + 12) 157 (266, [some (.inr (.inr 3)), some (.inl c), o2, o3, o4, o5, o6, o7], [], σ1) Φ := by
    intro σ1 g1 o2 o3 o4 o5 o6 o7 p1 hR1
    have hL1 := hR1.L
    refine b157_266 (k := ?_)
    refine k155M hR1 k1 h0 (by rw [e4]; exact h1) (k5 hwf.2.2.2) (fun σ2 g2 p2 hR2 => ?_)
    have hL2 := hR2.L
    refine b157_271 (k := ?_)
    refine k σ2 g2 (ll_fr_mono (ll_fr_trans p1 p2) (fun _ h => h)) ?_
    unfold pa_step
    exact hR2
  have b01 : (0 : Int) ≤ (if b = true then 1 else 0) ∧ (if b = true then 1 else 0 : Int) ≤ 1 := by split <;> omega
  have htop : pe_R σ (pe_R σ (pe_R σ 891 c) 10) fs.length = pe_R σ (pe_R σ (pe_R σ 891 c) 10) fs.length := rfl
  refine pe_M_of ck157 (Nat.le_of_ble_eq_true rfl) ?_
  refine b157_0 (k := ?_)
  refine b157_7 (k := ?_)
  refine pe_M.up (k137 (d := 0) hS ?_) (by omega)
  refine b157_11 (k := ?_)
  generalize hrf : pe_R σ (pe_R σ (pe_R σ 891 c) 10) fs.length = rf at hKf t2 t3 t4 tA tB ⊢
  have kA := tA.1.1
  have kB := tB.1.1
  have lA : pe_L σ (pe_R σ rf 1) = f.2.1.length := by rw [tA.2.1, List.length_map]
  have lB : pe_L σ (pe_R σ rf 2) = f.2.1.length := by rw [tB.2.1, List.length_map]
  have f16 := f5.1
  refine b157_13 (k1 := fun r1 => ?_) (k2 := fun r1 => ?_)
  · have hlen : ¬ (f.2.1.length : Int) ≤ f.1 2 := by omega
    have hmem := pa_at_mem (p := f.2.1) (i := f.1 2) f2.1 (by omega)
    obtain ⟨hlo, hn0, hn9⟩ := f5.2.1 _ hmem
    have hlb := pa_okl_b hlo
    have hst1 : pa_st1 a c b = pa_do a c b (pa_at f.2.1 (f.1 2)).1 (pa_at f.2.1 (f.1 2)).2 ((a.2.1 c).1, (a.2.1 c).2.1, (pa_s f.1 2 (f.1 2 + 1), f.2) :: fs) := by
      simp only [pa_st1, hfs, if_neg hlen]
    refine b157_37 (k := ?_)
    rw [t2]
    rw [show pe_I σ (pe_R σ rf 1) (f.1 2) = (pa_at f.2.1 (f.1 2)).1 from ll_A_at tA f2.1 (by omega), show pe_I σ (pe_R σ rf 2) (f.1 2) = (pa_at f.2.1 (f.1 2)).2 from ll_A_at2 tB f2.1 (by omega)]
    generalize (pa_at f.2.1 (f.1 2)).1 = l at *
    generalize (pa_at f.2.1 (f.1 2)).2 = n at *
    obtain ⟨p1, g1⟩ := hR.top (i := 2) (j := 3) (v := f.1 2 + 1) (by omega) hw9 h0 h1 hfs
    rw [hrf] at p1 g1
    have hc1 := pa_next_wf hwc hfs hlen
    generalize hC' : ((a.2.1 c).1, (a.2.1 c).2.1, ((pa_s f.1 2 (f.1 2 + 1), f.2) :: fs : List pa_F)) = C at *
    have C1 : C.1 = (a.2.1 c).1 := by rw [← hC']
    have C3 : C.1 2 = 1 := by rw [C1]; exact h3
    have Cf : C.2.2 = (pa_s f.1 2 (f.1 2 + 1), f.2) :: fs := by rw [← hC']
    have hw3 : pa_wf3 (pa_cw a c C) := pa_wf3_cw hwf.w3 (by omega) hc1 (by omega) (fun e => by omega)
    have hw91 := hw3.1.w9
    have hL1 := g1.L
    have h1' : c < (pa_cw a c C).1 4 := h1
    have Cf' : ((pa_cw a c C).2.1 c).2.2 = (pa_s f.1 2 (f.1 2 + 1), f.2) :: fs := by rw [pa_cw_same]; exact Cf
    have r891 : pe_R (pe_wI σ rf 3 (f.1 2 + 1)) 891 c = pe_R σ 891 c := rfl
    have rrf : pe_R (pe_wI σ rf 3 (f.1 2 + 1)) (pe_R (pe_wI σ rf 3 (f.1 2 + 1)) (pe_R (pe_wI σ rf 3 (f.1 2 + 1)) 891 c) 10) fs.length = rf := hrf
    have hKt : pe_K (pe_wI σ rf 3 (f.1 2 + 1)) (pe_R σ 891 c) = 20 := hK
    have hKft : pe_K (pe_wI σ rf 3 (f.1 2 + 1)) rf = 19 := hKf
    have i3 : pe_I (pe_wI σ rf 3 (f.1 2 + 1)) rf 3 = f.1 2 + 1 := pe_I_same
    have hCt := g1.co h0 h1'
    rw [r891, pa_cw_same] at hCt
    have i4 : pe_I (pe_wI σ rf 3 (f.1 2 + 1)) (pe_R σ 891 c) 4 = C.1 3 := hCt.2.1.1.2.2.2.2.1
    have hacc := hc1.1.2.2.1
    generalize pe_wI σ rf 3 (f.1 2 + 1) = τ at *
    have hnt : 3 < pe_n τ := ll_lt p1.gg (by rw [g1.B.2.1]; decide)
    have nt0 : pe_n τ ≠ 0 := by omega
    have htop : ∀ (j : Int) (i : Nat) v, (j = 3 ∧ i = 2) ∨ (j = 4 ∧ i = 3) ∨ (j = 5 ∧ i = 4) → ll_fr ll_Zs 12 96 σ g (pe_wI τ rf j v) g ∧ ll_R (pe_wI τ rf j v) g (pa_cw a c (C.1, C.2.1, (pa_s (pa_s f.1 2 (f.1 2 + 1)) i v, f.2) :: fs)) := fun j i v hj => by
      have := g1.top (v := v) hj hw91 h0 h1' Cf'
      rw [rrf, pa_cw_same, pa_cw_cw] at this
      exact ⟨ll_fr_mono (ll_fr_trans p1 this.1) (fun _ h => h), this.2⟩
    have hacw : ∀ v, ll_fr ll_Zs 12 96 σ g (pe_wI τ (pe_R σ 891 c) 4 v) g ∧ ll_R (pe_wI τ (pe_R σ 891 c) 4 v) g (pa_cw a c (pa_s C.1 3 v, C.2)) := fun v => by
      have := g1.num (j := 4) (v := v) (nu := pa_s C.1 3 v) hw91 h0 h1' (by decide) (by rw [r891]; exact hCt.2.1.ac v) (fun q => by rw [pa_cw_same]; rw [pa_sn (by decide)] at q; exact q)
      rw [r891, pa_cw_same, pa_cw_cw] at this
      exact ⟨ll_fr_mono (ll_fr_trans p1 this.1) (fun _ h => h), this.2⟩
    have hidle : ∀ o7, (∀ z : Int, ((z = 1 ∧ (l = 121 ∨ l = 115 ∨ l = 103 ∨ l = 106 ∨ l = 100 ∨ l = 114)) ∨ (z = 0 ∧ ¬ (l = 121 ∨ l = 115 ∨ l = 103 ∨ l = 106 ∨ l = 100 ∨ l = 114))) → pe_X (d + 12) 157 (121, [some (.inr (.inr 3)), some (.inl c), some (.inl (if b = true then 1 else 0)), some (.inr (.inr (pe_R σ 891 c))), some (.inr (.inr rf)), some (.inl l), some (.inl n), o7], [.inl z], τ) Φ) → pe_X (d + 12) 157 (74, [some (.inr (.inr 3)), some (.inl c), some (.inl (if b = true then 1 else 0)), some (.inr (.inr (pe_R σ 891 c))), some (.inr (.inr rf)), some (.inl l), some (.inl n), o7], [], τ) Φ := fun o7 kk => by
      have yes : (l = 121 ∨ l = 115 ∨ l = 103 ∨ l = 106 ∨ l = 100 ∨ l = 114) → pe_X (d + 12) 157 (116, [some (.inr (.inr 3)), some (.inl c), some (.inl (if b = true then 1 else 0)), some (.inr (.inr (pe_R σ 891 c))), some (.inr (.inr rf)), some (.inl l), some (.inl n), o7], [], τ) Φ := fun hy => by
        refine b157_116 (k := ?_)
        exact kk 1 (Or.inl ⟨rfl, hy⟩)
      refine b157_74 (k1 := fun s1 => ?_) (k2 := fun s1 => ?_)
      · exact yes (by omega)
      · refine b157_81 (k1 := fun s2 => ?_) (k2 := fun s2 => ?_)
        · exact yes (by omega)
        · refine b157_88 (k1 := fun s3 => ?_) (k2 := fun s3 => ?_)
          · exact yes (by omega)
          · refine b157_95 (k1 := fun s4 => ?_) (k2 := fun s4 => ?_)
            · exact yes (by omega)
            · refine b157_102 (k1 := fun s5 => ?_) (k2 := fun s5 => ?_)
              · exact yes (by omega)
              · refine b157_109 (k1 := fun s6 => ?_) (k2 := fun s6 => ?_)
                · refine b157_120 (k := ?_)
                  exact kk 0 (Or.inr ⟨rfl, by omega⟩)
                · exact yes (by omega)
    refine hidle _ (fun z hz => ?_)
    have hz01 : 0 ≤ z ∧ z ≤ 1 := by omega
    refine b157_121 (k1 := fun s1 => ?_) (k2 := fun s1 => ?_)
    · refine b157_148 (k1 := fun s2 => ?_) (k2 := fun s2 => ?_)
      · refine b157_173 (k1 := fun s3 => ?_) (k2 := fun s3 => ?_)
        · refine b157_206 (k1 := fun s4 => ?_) (k2 := fun s4 => ?_)
          · refine b157_222 (k1 := fun s5 => ?_) (k2 := fun s5 => ?_)
            · have hdo : pa_st1 a c b = if b = true then pa_cw a c C else pa_live a c l n C := by
                rw [hst1, pa_do, if_neg s1, if_neg s2, if_neg s3, if_neg s4, if_neg s5]
              have hid : l = 121 ∨ l = 114 ∨ l = 100 ∨ l = 115 ∨ l = 103 ∨ l = 106 := by
                unfold pa_okl at hlo
                omega
              refine b157_246 (k1 := fun r => by omega) (k2 := fun _ => ?_)
              cases b with
              | true =>
                refine b157_251 (k1 := fun _ => ?_) (k2 := fun r => by simp at r)
                rw [if_pos rfl] at hdo
                exact hend _ _ _ _ _ _ _ _ (ll_fr_mono p1 (fun _ h => h)) (by rw [hdo]; exact g1)
              | false =>
                refine b157_251 (k1 := fun r => absurd rfl r) (k2 := fun _ => ?_)
                rw [if_neg (by simp)] at hdo
                refine b157_255 (k := ?_)
                have key := k158 (d := 0) (Φ := fun r σ' => pe_X (d + 12) 157 (266, [some (.inr (.inr 3)), some (.inl c), some (.inl 0), some (.inr (.inr (pe_R σ 891 c))), some (.inr (.inr rf)), some (.inl l), some (.inl n), some (.inl z)], r.toList ++ [], σ') Φ) g1 hw3 h0 h1' (by rw [pa_cw_same]; exact C3) hid hn0 hn9 Cf' (fun σ2 g2 e1 e3 => by
                  rw [pa_cw_same, pa_live_cw] at e3
                  exact hend _ _ _ _ _ _ _ _ (ll_fr_mono (ll_fr_trans p1 e1) (fun _ h => h)) (by rw [hdo]; exact e3))
                rw [rrf] at key
                exact pe_M.up key (by omega)
            · subst s5
              have hdo : pa_st1 a c b = pa_cw a c (pa_throw C [n]) := by rw [hst1]; simp [pa_do]
              refine b157_229 (k := ?_)
              refine pe_M.up (k132 (d := 0) nt0 (if_pos rfl) ?_) (by omega)
              obtain ⟨q2, hR2⟩ := kThrR (v := n) g1 hw91
              have hL2 := hR2.L
              have hKz : pe_K (pe_wR (pe_wI (pe_new τ 9 0 2) (pe_n τ) 0 n) (pe_n τ) 1 0) (pe_R σ 891 c) = 20 := (q2.K hog).trans hKt
              refine b157_240 (k := ?_)
              have key := kThr (d := 0) (v := n) (Φ := fun r σ' => pe_X (d + 12) 157 (243, [some (.inr (.inr 3)), some (.inl c), some (.inl (if b = true then 1 else 0)), some (.inr (.inr (pe_R σ 891 c))), some (.inr (.inr rf)), some (.inl 116), some (.inl n), some (.inl z)], r.toList ++ [], σ') Φ) g1 hw3.1 h0 h1' (by rw [pa_cw_same]; omega) (fun σ4 g4 q4 hR4 => by
                have hL4 := hR4.L
                rw [pa_cw_same, pa_cw_cw] at hR4
                refine b157_243 (k := ?_)
                exact hend _ _ _ _ _ _ _ _ (ll_fr_mono (ll_fr_trans p1 q4) (fun _ h => h)) (by rw [hdo]; exact hR4))
              rw [r891] at key
              exact pe_M.up key (by omega)
          · subst s4
            have hdo : pa_st1 a c b = pa_cw a c (C.1, C.2.1, (pa_s (pa_s f.1 2 (f.1 2 + 1)) 4 1, f.2) :: fs) := by rw [hst1]; simp [pa_do, pa_top, Cf]
            obtain ⟨q1, q2⟩ := htop 5 4 1 (by omega)
            have hL2 := q2.L
            refine b157_213 (k := ?_)
            refine b157_219 (k := ?_)
            exact hend _ _ _ _ _ _ _ _ q1 (by rw [hdo]; exact q2)
        · subst s3
          refine b157_180 (k1 := fun s4 => ?_) (k2 := fun s4 => ?_)
          · have hdo : pa_st1 a c b = pa_cw a c C := by
              rw [hst1]
              simp only [pa_do]
              simp
              rw [if_neg (by omega)]
            rw [i3]
            refine b157_198 (k := ?_)
            obtain ⟨q1, q2⟩ := htop 3 2 (f.1 2 + 1 + 0) (by omega)
            have hL2 := q2.L
            refine b157_199 (k := ?_)
            refine b157_203 (k := ?_)
            refine hend _ _ _ _ _ _ _ _ q1 ?_
            rw [pa_s_s, Int.add_zero] at q2
            rw [hdo, Int.add_zero, ← hC']
            rw [← hC'] at q2
            exact q2
          · have hdo : pa_st1 a c b = pa_cw a c (C.1, C.2.1, (pa_s (pa_s f.1 2 (f.1 2 + 1)) 2 (f.1 2 + 1 + n), f.2) :: fs) := by
              rw [hst1]
              simp only [pa_do]
              simp
              rw [if_pos (by omega)]
              simp [pa_top, Cf, pa_ss]
            rw [i3]
            refine b157_193 (k := ?_)
            obtain ⟨q1, q2⟩ := htop 3 2 (f.1 2 + 1 + n) (by omega)
            have hL2 := q2.L
            refine b157_199 (k := ?_)
            refine b157_203 (k := ?_)
            exact hend _ _ _ _ _ _ _ _ q1 (by rw [hdo]; exact q2)
      · subst s2
        have hm1 : 0 ≤ C.1 3 * n := Int.mul_nonneg hacc.1 hn0
        have hm2 : C.1 3 * n ≤ 999 * 9 := Int.mul_le_mul hacc.2 hn9 hn0 (by decide)
        have hdo : pa_st1 a c b = pa_cw a c (pa_s C.1 3 (Int.tmod (C.1 3 * n) 1000), C.2) := by rw [hst1]; simp [pa_do]
        refine b157_155 (w0 := by rw [i4]; unfold pe_in; omega) (k := ?_)
        rw [i4]
        obtain ⟨q1, q2⟩ := hacw (Int.tmod (C.1 3 * n) 1000)
        have hL2 := q2.L
        refine b157_170 (k := ?_)
        exact hend _ _ _ _ _ _ _ _ q1 (by rw [hdo]; exact q2)
    · subst s1
      have hdo : pa_st1 a c b = pa_cw a c (pa_s C.1 3 (Int.tmod (C.1 3 + n) 1000), C.2) := by rw [hst1]; simp [pa_do]
      refine b157_130 (k := ?_)
      rw [i4]
      obtain ⟨q1, q2⟩ := hacw (Int.tmod (C.1 3 + n) 1000)
      have hL2 := q2.L
      refine b157_145 (k := ?_)
      exact hend _ _ _ _ _ _ _ _ q1 (by rw [hdo]; exact q2)
  · have hlen : (f.2.1.length : Int) ≤ f.1 2 := by omega
    have hst1 : pa_st1 a c b = pa_cw a c (pa_endTop (a.2.1 c)) := by
      simp only [pa_st1, hfs, if_pos hlen]
    refine b157_27 (k := ?_)
    refine pe_M.up (k141 (d := 0) h0 hg hC hwc (by omega) hne (fun σ2 g2 p2 C2 => ?_)) (by omega)
    have hR2 := hR.one hw9 h0 h1 p2 C2
    have hL2 := hR2.L
    refine b157_31 (k := ?_)
    rw [← hst1] at hR2
    refine k155M hR2 k1 h0 (by rw [e4]; exact h1) (k5 hwf.2.2.2) (fun σ3 g3 p3 hR3 => ?_)
    have hL3 := hR3.L
    refine b157_36 (k := ?_)
    refine k σ3 g3 (ll_fr_mono (ll_fr_trans (ll_fr_mono (x' := 6) (y' := 12) p2 (fun z hz => ll_Zc_s h0 hz)) p3) (fun _ h => h)) ?_
    unfold pa_step
    exact hR3
end
