/-! THE LAW'S settle: who joined one that ended, and who joined those -/
section
variable {d o r q x y : Nat} {Z : Int → Prop} {Φ : Option pe_V → pe_H → Prop} {σ σ' : pe_H} {g g' : Nat → Int} {c e v n : Int} {a b s : pa_M} {w : pa_C} {nu : Nat → Int}
theorem ll_N.on (h : ll_N σ o nu) : ll_N (pe_wI σ o 3 1) o (pa_s (pa_s nu 2 1) 7 (-4)) := by
  have h1 := h.st 1 (by decide)
  obtain ⟨⟨b0, b1, b2, b3, b4, b5, b6, b7⟩, b8⟩ := h1
  refine ⟨⟨?_, ?_, ?_, ?_, ?_, ?_, ?_, ?_⟩, fun q1 q2 => ?_⟩
  · rw [pa_sn (by decide)]; exact b0
  · rw [pa_sn (by decide)]; exact b1
  · rw [pa_sn (by decide)]; exact b2
  · rw [pa_sn (by decide)]; exact b3
  · rw [pa_sn (by decide)]; exact b4
  · rw [pa_sn (by decide)]; exact b5
  · rw [pa_sn (by decide)]; exact b6
  · rw [pa_sn (by decide)]; exact b7
  · rw [pa_sn (by decide), pa_ss] at q1
    omega
theorem ll_R.wt (h : ll_R σ g a) (h0 : 0 ≤ c) (h1 : c < a.1 4) (h3 : 3 ≤ (a.2.1 c).1 2) (h5 : (a.2.1 c).1 2 ≤ 5) : pe_I σ (pe_R σ 891 c) 8 = (a.2.1 c).1 7 := (h.co h0 h1).2.1.2 h3 h5
/-- one who isn't ended -/
theorem k155n (hR : ll_R σ g a) (hwf : pa_wf3 a) (h0 : 0 ≤ c) (h1 : c < a.1 4) (h6 : (a.2.1 c).1 2 < 6) (k : Φ none σ) : pe_M (d + 1) 155 [.inr (.inr 3), .inl c] σ Φ := by
  have hL := hR.L
  have h8 := hwf.1.1
  have hK := hR.K h0 h1
  have e3 := hR.mn
  have es := hR.st h0 h1
  have hb := (hwf.1.2.2.1 c h0 h1).1.2.1
  refine pe_M_of ck155 (Nat.le_of_ble_eq_true rfl) ?_
  refine b155_0 (k := ?_)
  refine b155_2 (w0 := by rw [e3]; unfold pe_in; omega) (k1 := fun r => by omega) (k2 := fun _ => ?_)
  refine b155_10 (w1 := by rw [es]; unfold pe_in; omega) (k1 := fun _ => ?_) (k2 := fun r => by omega)
  refine b155_76 (k := ?_)
  exact k
theorem k155 (hwf : pa_wf3 a) : ∀ (m d : Nat) (Φ : Option pe_V → pe_H → Prop) (σ : pe_H) (g : Nat → Int) (s : pa_M) (e : Int), ll_R σ g s → pa_mid a s → 0 ≤ e → e < a.1 4 → 6 ≤ (s.2.1 e).1 2 → pa_J s < m →
    (∀ σ' g' s', ll_fr ll_Zs (7 * (pa_J s - pa_J s').toNat) (14 * (pa_J s - pa_J s').toNat) σ g σ' g' → ll_R σ' g' s' → pa_mid a s' → pa_J s' ≤ pa_J s → (∀ c, (s.2.1 c).1 2 ≠ 5 → s'.2.1 c = s.2.1 c) → (∀ c, 0 ≤ c → c < a.1 4 → (s'.2.1 c).1 2 = 5 → 6 ≤ (s'.2.1 ((s'.2.1 c).1 7)).1 2 → (s'.2.1 c).1 7 ≠ e ∧ 6 ≤ (s.2.1 ((s'.2.1 c).1 7)).1 2) → Φ none σ') →
    pe_M (d + 4 + m) 155 [.inr (.inr 3), .inl e] σ Φ
  | 0, d, Φ, σ, g, s, e, hR, hm, he0, he1, he6, hJ, k => by
    have := (pa_cnt_b (fun c => decide ((s.2.1 c).1 2 = 5)) (s.1 4).toNat).1
    unfold pa_J at hJ
    omega
  | m + 1, d, Φ, σ, g, s, e, hR, hm, he0, he1, he6, hJ, k => by
    have h8 := hwf.1.1
    have hL := hR.L
    have hJ0 : 0 ≤ pa_J s := (pa_cnt_b (fun c => decide ((s.2.1 c).1 2 = 5)) (s.1 4).toNat).1
    refine pe_M_of (d := d + 4 + m) ck155 (Nat.le_of_ble_eq_true rfl) ?_
    refine b155_0 (k := ?_)
    have loop : ∀ (r : Nat) (i : Int) (σ1 : pe_H) (g1 : Nat → Int) (s1 : pa_M), i + r = a.1 4 → 0 ≤ i → ll_fr ll_Zs (7 * (pa_J s - pa_J s1).toNat) (14 * (pa_J s - pa_J s1).toNat) σ g σ1 g1 → ll_R σ1 g1 s1 → pa_mid a s1 → pa_J s1 ≤ pa_J s → (∀ c, (s.2.1 c).1 2 ≠ 5 → s1.2.1 c = s.2.1 c) → (∀ c, 0 ≤ c → c < a.1 4 → (s1.2.1 c).1 2 = 5 → 6 ≤ (s1.2.1 ((s1.2.1 c).1 7)).1 2 → ((s1.2.1 c).1 7 = e → i ≤ c) ∧ ((s1.2.1 c).1 7 ≠ e → 6 ≤ (s.2.1 ((s1.2.1 c).1 7)).1 2)) →
        pe_X (d + 4 + m) 155 (2, [some (.inr (.inr 3)), some (.inl e), some (.inl i)], [], σ1) Φ := by
      intro r
      induction r with
      | zero =>
        intro i σ1 g1 s1 hi hi0 q1 q3 q4 q5 q6 q7
        have hL1 := q3.L
        have hc := q3.mn
        rw [q4.1] at hc
        refine b155_2 (w0 := by rw [hc]; unfold pe_in; omega) (k1 := fun _ => ?_) (k2 := fun r => by omega)
        refine b155_76 (k := ?_)
        refine k σ1 g1 s1 q1 q3 q4 q5 q6 (fun c c0 c1 c5 c6 => ?_)
        have q := q7 c c0 c1 c5 c6
        have : (s1.2.1 c).1 7 ≠ e := fun q2 => by have := q.1 q2; omega
        exact ⟨this, q.2 this⟩
      | succ r ih =>
        intro i σ1 g1 s1 hi hi0 q1 q3 q4 q5 q6 q7
        have hL1 := q3.L
        have hw1 := pa_mid_wf hwf q4
        have hc := q3.mn
        rw [q4.1] at hc
        have e14 : s1.1 4 = a.1 4 := by rw [q4.1]
        have hi1 : i < s1.1 4 := by omega
        have he1' : e < s1.1 4 := by omega
        have hKi := q3.K hi0 hi1
        have hKe := q3.K he0 he1'
        have esi := q3.st hi0 hi1
        have ese := q3.st he0 he1'
        have hes : s1.2.1 e = s.2.1 e := q6 e (by omega)
        have hwi := hw1.1.2.2.1 i hi0 hi1
        have hwe := hw1.1.2.2.1 e he0 he1'
        have hb2 := hwi.1.2.1
        have hb3 := hwe.1.2.1
        have he6' : 6 ≤ (s1.2.1 e).1 2 := by rw [hes]; exact he6
        have hnext : ((s1.2.1 i).1 2 = 5 → (s1.2.1 i).1 7 ≠ e) → pe_X (d + 4 + m) 155 (70, [some (.inr (.inr 3)), some (.inl e), some (.inl i)], [], σ1) Φ := fun hno => by
          refine b155_70 (k := ?_)
          refine ih (i + 1) σ1 g1 s1 (by omega) (by omega) q1 q3 q4 q5 q6 (fun c c0 c1 c5 c6 => ?_)
          have q := q7 c c0 c1 c5 c6
          refine ⟨fun q2 => ?_, q.2⟩
          have := q.1 q2
          have : c ≠ i := fun e1 => by subst e1; exact hno c5 q2
          omega
        refine b155_2 (w0 := by rw [hc]; unfold pe_in; omega) (k1 := fun r => by omega) (k2 := fun _ => ?_)
        refine b155_10 (w1 := by rw [ese]; unfold pe_in; omega) (k1 := fun r => by omega) (k2 := fun _ => ?_)
        refine b155_23 (w1 := by rw [esi]; unfold pe_in; omega) (k1 := fun p1 => ?_) (k2 := fun p1 => ?_)
        · exact hnext (fun q2 => by omega)
        · have h5 : (s1.2.1 i).1 2 = 5 := by omega
          have e8 := q3.wt hi0 hi1 (by omega) (by omega)
          have ht := (hw1.2.2 i hi0 hi1).2 h5
          refine b155_36 (w2 := by rw [e8]; unfold pe_in; omega) (k1 := fun p2 => ?_) (k2 := fun p2 => ?_)
          · exact hnext (fun _ => by omega)
          · have h7 : (s1.2.1 i).1 7 = e := by omega
            have hei : i ≠ e := fun e1 => by rw [e1] at h5; omega
            have ht6 : 6 ≤ (s1.2.1 ((s1.2.1 i).1 7)).1 2 := by rw [h7]; exact he6'
            have q4' := pa_mid_tell q4 hi0 (by omega) h5 ht6
            rw [h7] at q4'
            refine b155_49 (k := ?_)
            have hCi := q3.co hi0 hi1
            refine pe_M.up (k154 (d := 0) (nu := (pa_on (s1.2.1 i)).1) q3.B hi0 hCi hwi.2.1 hwi.2.2.1 hCi.2.1.on (pa_on2 _) he0 hei (q3.co he0 he1') hwe.2.1 ⟨by omega, by omega⟩ (fun σ3 g3 f1 C3 => ?_)) (by omega)
            have C3 : ll_C σ3 g3 i (pe_R σ1 891 i) (pa_have (pa_on (s1.2.1 i)) (s1.2.1 e)) := C3
            have f3 := q3.one hw1.1.w9 hi0 hi1 f1 C3
            generalize hs2 : pa_cw s1 i (pa_have (pa_on (s1.2.1 i)) (s1.2.1 e)) = s2 at q4' f3
            have hw3 := pa_mid_wf hwf q4'
            have hL3 := f3.L
            have hi2 : i < s2.1 4 := by rw [q4'.1]; omega
            have hsi : s2.2.1 i = pa_have (pa_on (s1.2.1 i)) (s1.2.1 e) := by rw [← hs2, pa_cw_same]
            have hsn : ∀ c, c ≠ i → s2.2.1 c = s1.2.1 c := fun c hc => by rw [← hs2, pa_cw_ne hc]
            have hst : (s2.2.1 i).1 2 ≠ 5 := by
              rw [hsi]
              have := pa_on2 (s1.2.1 i)
              rcases pa_have_st (pa_on (s1.2.1 i)) (s1.2.1 e) with q3 | q3 <;> omega
            have hJ2 : pa_J s2 = pa_J s1 - 1 := by
              unfold pa_J
              rw [q4'.1, q4.1]
              exact pa_cnt_less _ hi0 (by omega) (fun c hc => by rw [hsn c hc]) (by simp [h5]) (by simp [hst])
            have f1z : ll_fr ll_Zs 7 14 σ1 g1 σ3 g3 := ll_fr_mono f1 (fun z hz => ll_Zc_s hi0 hz)
            have gfr : ll_fr ll_Zs (7 * (pa_J s - pa_J s2).toNat) (14 * (pa_J s - pa_J s2).toNat) σ g σ3 g3 := ll_fr_mono (ll_fr_trans q1 f1z) (fun _ h => h)
            have hun : ∀ c, (s.2.1 c).1 2 ≠ 5 → s2.2.1 c = s.2.1 c := fun c hc => by
              have q3 := q6 c hc
              rw [hsn c (fun e1 => by subst e1; rw [q3] at h5; exact hc h5)]
              exact q3
            refine b155_65 (k := ?_)
            by_cases q3 : 6 ≤ (s2.2.1 i).1 2
            · refine k155 hwf m d _ σ3 g3 s2 i f3 q4' hi0 (by omega) q3 (by omega) (fun σ4 g4 s4 t1 t3 t4 t5 t6 t7 => ?_)
              have hL4 := t3.L
              refine b155_70 (k := ?_)
              refine ih (i + 1) σ4 g4 s4 (by omega) (by omega) (ll_fr_mono (ll_fr_trans gfr t1) (fun _ h => h)) t3 t4 (by omega) (fun c hc => by rw [t6 c (by rw [hun c hc]; exact hc)]; exact hun c hc) (fun c c0 c1 c5 c6 => ?_)
              obtain ⟨u1, u2⟩ := t7 c c0 c1 c5 c6
              have hci : c ≠ i := fun e1 => by
                subst e1
                have := t6 c hst
                rw [this] at c5
                exact hst c5
              have hc2 : s4.2.1 c = s1.2.1 c := by
                have : (s2.2.1 c).1 2 = 5 := Classical.byContradiction fun q4 => by
                  rw [t6 c q4] at c5
                  exact q4 c5
                rcases t4.2.2 c with q4 | ⟨n4, q4⟩
                · rcases q4'.2.2 c with q5 | ⟨n5, q5⟩
                  · rw [q4, ← q5, hsn c hci]
                  · exact absurd this (pa_told_5 q5).2.2
                · exact absurd c5 (pa_told_5 q4).2.2
              rw [hc2] at u1 u2 c5 c6 ⊢
              rw [hsn _ u1] at u2
              have q := q7 c c0 c1 c5 u2
              exact ⟨fun q2 => by have := q.1 q2; omega, q.2⟩
            · refine pe_M.up (k155n (d := 0) f3 hw3 hi0 hi2 (by omega) ?_) (by omega)
              refine b155_70 (k := ?_)
              refine ih (i + 1) σ3 g3 s2 (by omega) (by omega) gfr f3 q4' (by omega) hun (fun c c0 c1 c5 c6 => ?_)
              have hci : c ≠ i := fun e1 => by subst e1; exact hst c5
              rw [hsn c hci] at c5 c6 ⊢
              have hti : (s1.2.1 c).1 7 ≠ i := fun e1 => by rw [e1] at c6; omega
              rw [hsn _ hti] at c6
              have q := q7 c c0 c1 c5 c6
              exact ⟨fun q2 => by have := q.1 q2; omega, q.2⟩
    refine loop (a.1 4).toNat 0 σ g s (by omega) (by omega) (ll_fr_mono (ll_fr_refl ll_Zs hR.gg) (fun _ h => h)) hR hm (Int.le_refl _) (fun _ _ => rfl) (fun c c0 c1 c5 c6 => ⟨fun _ => c0, fun _ => c6⟩)
/-- settle -/
theorem k155M (hR : ll_R σ g a) (hwf : pa_wf3 a) (h0 : 0 ≤ c) (h1 : c < a.1 4) (hx : pa_mxx a c) (k : ∀ σ2 g2, ll_fr ll_Zs 49 98 σ g σ2 g2 → ll_R σ2 g2 (if 6 ≤ (a.2.1 c).1 2 then pa_settle a else a) → Φ none σ2) : pe_M (d + 12) 155 [.inr (.inr 3), .inl c] σ Φ := by
  have h8 := hwf.1.1
  by_cases h6 : 6 ≤ (a.2.1 c).1 2
  · have hJ7 : pa_J a ≤ 7 := by
      have := pa_cnt_not (p := fun i => decide ((a.2.1 i).1 2 = 5)) (c := c) (a.1 4).toNat h0 (by omega) (by simp; omega)
      unfold pa_J
      omega
    refine pe_M.up (k155 hwf 8 d _ σ g a c hR (pa_mid_refl _) h0 h1 h6 (by omega) (fun σ2 g2 s2 t1 t3 t4 t5 t6 t7 => ?_)) (by omega)
    have hmax : pa_max s2 := fun i i0 i1 i5 => by
      refine Classical.byContradiction fun q6 => ?_
      rw [t4.1] at i1
      obtain ⟨u1, u2⟩ := t7 i i0 i1 i5 (by omega)
      have hsi : s2.2.1 i = a.2.1 i := by
        rcases t4.2.2 i with q4 | ⟨n4, q4⟩
        · exact q4
        · exact absurd i5 (pa_told_5 q4).2.2
      rw [hsi] at i5 u1 u2
      rcases hx i i0 i1 i5 with q4 | q4
      · exact u1 q4
      · omega
    rw [pa_mid_max t4 hmax] at t3
    have hJ0 : 0 ≤ pa_J s2 := (pa_cnt_b (fun c => decide ((s2.2.1 c).1 2 = 5)) (s2.1 4).toNat).1
    refine k σ2 g2 (ll_fr_mono t1 (fun _ h => h)) ?_
    rw [if_pos h6]
    exact t3
  · refine pe_M.up (k155n (d := 0) hR hwf h0 h1 (by omega) (k σ g (ll_fr_mono (ll_fr_refl ll_Zs hR.gg) (fun _ h => h)) ?_)) (by omega)
    rw [if_neg h6]
    exact hR
end
