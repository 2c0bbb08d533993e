/-! THE LAW: one comes -/
section
variable {d o r q x y x' y' : Nat} {Z Z' : Int → Prop} {Φ : Option pe_V → pe_H → Prop} {σ σ' σ'' : pe_H} {g g' g'' : Nat → Int} {c e v n p : Int} {a b s s' : pa_M} {w : pa_C} {nu : Nat → Int} {k0 : Nat} {l : List Int} {f : pa_F} {fs : List pa_F} {T U T' U' : Nat → Prop} {im im' : Option pa_M} {h h' : Int → pa_Sh}
def ll_Zj (z : Int) : Prop := z = -2 ∨ z = -3
theorem k136 (hr : o ≠ 0) (hK : pe_K σ o = 20) (hne : o ≠ pe_n σ) (k : Φ none (pe_wR (pe_new (pe_wI (pe_wI σ o 5 (-4)) o 8 (-4)) 22 6 6) o 10 (pe_n σ))) : pe_M (d + 1) 136 [.inr (.inr o)] σ Φ := by
  have hK1 : pe_K (pe_wI σ o 5 (-4)) o = 20 := hK
  have hK2 : pe_K (pe_new (pe_wI (pe_wI σ o 5 (-4)) o 8 (-4)) 22 6 ((6 : Int).toNat)) o = 20 := (if_neg hne).trans hK
  refine pe_M_of ck136 (Nat.le_of_ble_eq_true rfl) ?_
  refine b136_0 (k := ?_)
  refine b136_4 (k := ?_)
  refine b136_10 (k := ?_)
  refine b136_16 (k := ?_)
  refine b136_25 (k := ?_)
  exact k
/-- joins -/
theorem k167 {kd fg : Int} (hR : ll_R σ g a) (hwf : pa_wf a) (hp : 0 ≤ p ∧ p < 5) (h4 : a.1 4 < 8) (k : ∀ σ' g', ll_fr ll_Zj 3 26 σ g σ' g' → ll_R σ' g' (pa_more a p kd fg) → Φ none σ') : pe_M (d + 3) 167 [.inr (.inr 3), .inl p, .inl kd, .inl fg] σ Φ := by
  have h8 := hwf.1.1
  have hw9 := hwf.1.w9
  have hL := hR.L
  have hg := hR.gg
  have hn3 : 3 < pe_n σ := ll_lt hg (by rw [hR.B.2.1]; decide)
  have hcnt := hR.mn
  have g0 := hg _ (Nat.le_refl (pe_n σ))
  have n0 : pe_n σ ≠ 0 := by omega
  generalize hc : a.1 4 = c at h4 hcnt
  have hc0 : 0 ≤ c := by omega
  refine pe_M_of ck167 (Nat.le_of_ble_eq_true rfl) ?_
  refine b167_0 (k := ?_)
  have f0 : ll_fr (fun _ => False) 1 12 σ g (pe_new σ 20 0 12) (ll_u g (pe_n σ) (16 * c)) := ll_fr_new hg
  have hL0 := (hR.B.fr f0 (fun h => h)).L
  refine pe_M.up (k136 (d := 0) n0 (if_pos rfl) (Nat.ne_of_lt (Nat.lt_succ_self _)) ?_) (by omega)
  -- the array of frames
  have f1 : ll_fr (fun _ => False) 1 12 σ g (pe_wI (pe_wI (pe_new σ 20 0 12) (pe_n σ) 5 (-4)) (pe_n σ) 8 (-4)) (ll_u g (pe_n σ) (16 * c)) := (f0.wIn g0).wIn g0
  have en : pe_n (pe_new σ 20 0 12) = pe_n σ + 1 := rfl
  rw [en]
  have f2 : ll_fr (fun _ => False) 1 6 _ (ll_u g (pe_n σ) (16 * c)) (pe_new (pe_wI (pe_wI (pe_new σ 20 0 12) (pe_n σ) 5 (-4)) (pe_n σ) 8 (-4)) 22 6 6) (ll_u (ll_u g (pe_n σ) (16 * c)) (pe_n σ + 1) (16 * c + 1)) := ll_fr_new f1.gg
  have f3 := (ll_fr_trans f1 f2).wRn (j := 10) (q := pe_n σ + 1) g0
  have hg1 : g (pe_n σ + 1) = -9 := hg _ (by omega)
  have e1K : pe_K (pe_wR (pe_new (pe_wI (pe_wI (pe_new σ 20 0 12) (pe_n σ) 5 (-4)) (pe_n σ) 8 (-4)) 22 6 6) (pe_n σ) 10 (pe_n σ + 1)) (pe_n σ) = 20 := (if_neg (Nat.ne_of_lt (Nat.lt_succ_self _))).trans (if_pos rfl)
  have e1I : ∀ j, pe_I (pe_wR (pe_new (pe_wI (pe_wI (pe_new σ 20 0 12) (pe_n σ) 5 (-4)) (pe_n σ) 8 (-4)) 22 6 6) (pe_n σ) 10 (pe_n σ + 1)) (pe_n σ) j = if j = 5 ∨ j = 8 then -4 else 0 := fun j => by
    rw [pe_I_wR, pe_I_nw, if_neg (show ¬ pe_n σ = pe_n _ from Nat.ne_of_lt (Nat.lt_succ_self _))]
    by_cases h8 : j = 8
    · rw [if_pos (Or.inr h8), h8, pe_I_same]
    · rw [pe_I_nej h8]
      by_cases h5 : j = 5
      · rw [if_pos (Or.inl h5), h5, pe_I_same]
      · rw [pe_I_nej h5, if_neg (by omega)]
        exact if_pos rfl
  have e1R : pe_R (pe_wR (pe_new (pe_wI (pe_wI (pe_new σ 20 0 12) (pe_n σ) 5 (-4)) (pe_n σ) 8 (-4)) 22 6 6) (pe_n σ) 10 (pe_n σ + 1)) (pe_n σ) 10 = pe_n σ + 1 := pe_R_same
  have e2K : pe_K (pe_wR (pe_new (pe_wI (pe_wI (pe_new σ 20 0 12) (pe_n σ) 5 (-4)) (pe_n σ) 8 (-4)) 22 6 6) (pe_n σ) 10 (pe_n σ + 1)) (pe_n σ + 1) = 22 := if_pos rfl
  have e2L : pe_L (pe_wR (pe_new (pe_wI (pe_wI (pe_new σ 20 0 12) (pe_n σ) 5 (-4)) (pe_n σ) 8 (-4)) 22 6 6) (pe_n σ) 10 (pe_n σ + 1)) (pe_n σ + 1) = 6 := if_pos rfl
  have en2 : pe_n (pe_wR (pe_new (pe_wI (pe_wI (pe_new σ 20 0 12) (pe_n σ) 5 (-4)) (pe_n σ) 8 (-4)) 22 6 6) (pe_n σ) 10 (pe_n σ + 1)) = pe_n σ + 2 := rfl
  have c0 : ll_u (ll_u g (pe_n σ) (16 * c)) (pe_n σ + 1) (16 * c + 1) (pe_n σ) = 16 * c := (if_neg (Nat.ne_of_lt (Nat.lt_succ_self _))).trans (if_pos rfl)
  have c1 : ll_u (ll_u g (pe_n σ) (16 * c)) (pe_n σ + 1) (16 * c + 1) (pe_n σ + 1) = 16 * c + 1 := if_pos rfl
  generalize hg2 : ll_u (ll_u g (pe_n σ) (16 * c)) (pe_n σ + 1) (16 * c + 1) = g2 at f3 c0 c1
  generalize pe_wR (pe_new (pe_wI (pe_wI (pe_new σ 20 0 12) (pe_n σ) 5 (-4)) (pe_n σ) 8 (-4)) 22 6 6) (pe_n σ) 10 (pe_n σ + 1) = σ1 at f3 e1K e1I e1R e2K e2L en2 ⊢
  have hB1 := hR.B.fr f3 (fun h => h)
  have hL1 := hB1.L
  refine b167_7 (k := ?_)
  refine b167_9 (k := ?_)
  have f4 := f3.wIn (j := 0) (v := p) g0
  have hL4 := (hR.B.fr f4 (fun h => h)).L
  have k4 : pe_K (pe_wI σ1 (pe_n σ) 0 p) (pe_n σ) = 20 := e1K
  refine b167_15 (k := ?_)
  have f5 := f4.wIn (j := 1) (v := kd) g0
  have hL5 := (hR.B.fr f5 (fun h => h)).L
  have k5 : pe_K (pe_wI (pe_wI σ1 (pe_n σ) 0 p) (pe_n σ) 1 kd) (pe_n σ) = 20 := e1K
  refine b167_21 (k := ?_)
  have f6 := f5.wIn (j := 2) (v := fg) g0
  have hB6 := hR.B.fr f6 (fun h => h)
  have hL6 := hB6.L
  have k6 : pe_K (pe_wI (pe_wI (pe_wI σ1 (pe_n σ) 0 p) (pe_n σ) 1 kd) (pe_n σ) 2 fg) (pe_n σ) = 20 := e1K
  have r6 : pe_R (pe_wI (pe_wI (pe_wI σ1 (pe_n σ) 0 p) (pe_n σ) 1 kd) (pe_n σ) 2 fg) (pe_n σ) 10 = pe_n σ + 1 := e1R
  have a6 : pe_K (pe_wI (pe_wI (pe_wI σ1 (pe_n σ) 0 p) (pe_n σ) 1 kd) (pe_n σ) 2 fg) (pe_n σ + 1) = 22 := e2K
  have b6 : pe_L (pe_wI (pe_wI (pe_wI σ1 (pe_n σ) 0 p) (pe_n σ) 1 kd) (pe_n σ) 2 fg) (pe_n σ + 1) = 6 := e2L
  have i6 : ∀ j, pe_I (pe_wI (pe_wI (pe_wI σ1 (pe_n σ) 0 p) (pe_n σ) 1 kd) (pe_n σ) 2 fg) (pe_n σ) j = if j = 2 then fg else if j = 1 then kd else if j = 0 then p else if j = 5 ∨ j = 8 then -4 else 0 := fun j => by
    by_cases h2 : j = 2
    · rw [if_pos h2, h2, pe_I_same]
    · rw [if_neg h2, pe_I_nej h2]
      by_cases h1 : j = 1
      · rw [if_pos h1, h1, pe_I_same]
      · rw [if_neg h1, pe_I_nej h1]
        by_cases h0 : j = 0
        · rw [if_pos h0, h0, pe_I_same]
        · rw [if_neg h0, pe_I_nej h0]
          exact e1I j
  have n6 : pe_n (pe_wI (pe_wI (pe_wI σ1 (pe_n σ) 0 p) (pe_n σ) 1 kd) (pe_n σ) 2 fg) = pe_n σ + 2 := en2
  have hA1 := hR.2.2.1 p hp.1 hp.2
  have r879 : pe_R (pe_wI (pe_wI (pe_wI σ1 (pe_n σ) 0 p) (pe_n σ) 1 kd) (pe_n σ) 2 fg) 879 p = pe_R σ 879 p := f6.R (by rw [hR.B.2.2.2.2.1]; decide) (fun h => h) p
  have r885 : pe_R (pe_wI (pe_wI (pe_wI σ1 (pe_n σ) 0 p) (pe_n σ) 1 kd) (pe_n σ) 2 fg) 885 p = pe_R σ 885 p := f6.R (by rw [hR.B.2.2.2.2.2.1]; decide) (fun h => h) p
  generalize pe_wI (pe_wI (pe_wI σ1 (pe_n σ) 0 p) (pe_n σ) 1 kd) (pe_n σ) 2 fg = σ6 at f6 hB6 hL6 k6 r6 a6 b6 i6 n6 r879 r885 ⊢
  refine b167_27 (k := ?_)
  rw [r6]
  refine pe_M.up (k150 (d := 0) (z := 16 * c + 2) (prog := a.2.2.1 p) hB6 hp.1 hp.2 (by rw [r879]; exact hA1.1.fr f6 (fun h => h)) (by rw [r885]; exact hA1.2.fr f6 (fun h => h)) (fun σ7 p7 F7 => ?_)) (by omega)
  rw [n6] at p7 F7
  rw [n6]
  have hn2 : g2 (pe_n σ + 2) = -9 := f6.gg _ (by omega)
  generalize hg3 : ll_u g2 (pe_n σ + 2) (16 * c + 2) = g3 at p7 F7
  have f7 := ll_fr_trans f6 p7
  have hL7 := (hR.B.fr f7 (fun h => h)).L
  have n09 : g2 (pe_n σ) ≠ -9 := by rw [c0]; omega
  have n19 : g2 (pe_n σ + 1) ≠ -9 := by rw [c1]; omega
  have k7 : pe_K σ7 (pe_n σ) = 20 := (p7.K n09).trans k6
  have r7 : pe_R σ7 (pe_n σ) 10 = pe_n σ + 1 := (p7.R n09 (fun h => h) 10).trans r6
  have i7 : ∀ j, pe_I σ7 (pe_n σ) j = if j = 2 then fg else if j = 1 then kd else if j = 0 then p else if j = 5 ∨ j = 8 then -4 else 0 := fun j => (p7.I n09 (fun h => h) j).trans (i6 j)
  have a7 : pe_K σ7 (pe_n σ + 1) = 22 := (p7.K n19).trans a6
  have b7 : pe_L σ7 (pe_n σ + 1) = 6 := (p7.L n19).trans b6
  have c07 : g3 (pe_n σ) = 16 * c := (p7.G n09).trans c0
  have c17 : g3 (pe_n σ + 1) = 16 * c + 1 := (p7.G n19).trans c1
  have F7K := F7.1.1
  have ek22 : pe_ek 22 = 19 := rfl
  refine b167_38 (h0 := by rw [a7]; decide) (h1 := Or.inr ⟨by omega, by rw [F7K, a7]; rfl⟩) (h4 := by omega) (k := ?_)
  have f8 := f7.wRn (j := 0) (q := pe_n σ + 2) hg1
  have hL8 := (hR.B.fr f8 (fun h => h)).L
  have k8 : pe_K (pe_wR σ7 (pe_n σ + 1) 0 (pe_n σ + 2)) (pe_n σ) = 20 := k7
  refine b167_39 (k := ?_)
  have f9 := f8.wIn (j := 11) (v := 1) g0
  have hR9 := hR.fr hw9 f9 (fun _ h => h.elim)
  have hL9 := hR9.L
  have k9 : pe_K (pe_wI (pe_wR σ7 (pe_n σ + 1) 0 (pe_n σ + 2)) (pe_n σ) 11 1) (pe_n σ) = 20 := k7
  have m9 : pe_I (pe_wI (pe_wR σ7 (pe_n σ + 1) 0 (pe_n σ + 2)) (pe_n σ) 11 1) 3 3 = c := hR9.mn.trans hc
  have C9 : ll_C (pe_wI (pe_wR σ7 (pe_n σ + 1) 0 (pe_n σ + 2)) (pe_n σ) 11 1) g3 c (pe_n σ) (pa_newC p kd fg (a.2.2.1 p)) := by
    have hI : ∀ j, j ≠ 11 → pe_I (pe_wI (pe_wR σ7 (pe_n σ + 1) 0 (pe_n σ + 2)) (pe_n σ) 11 1) (pe_n σ) j = if j = 2 then fg else if j = 1 then kd else if j = 0 then p else if j = 5 ∨ j = 8 then -4 else 0 := fun j hj => by
      rw [pe_I_nej hj, pe_I_wR]
      exact i7 j
    have hR10 : pe_R (pe_wI (pe_wR σ7 (pe_n σ + 1) 0 (pe_n σ + 2)) (pe_n σ) 11 1) (pe_n σ) 10 = pe_n σ + 1 := by
      rw [pe_R_wI, pe_R_ner (by omega)]
      exact r7
    have hq3 : ll_fr (fun z => z = 16 * c + 1 ∨ z = 16 * c) 0 0 σ7 g3 (pe_wI (pe_wR σ7 (pe_n σ + 1) 0 (pe_n σ + 2)) (pe_n σ) 11 1) g3 := ll_fr_trans (ll_fr_wR f7.gg (Or.inl c17)) (ll_fr_wI (ll_fr_wR (Z := fun z => z = 16 * c + 1) f7.gg c17).gg (Or.inr c07))
    refine ⟨⟨k9, c07⟩, ⟨⟨?_, ?_, ?_, ?_, ?_, ?_, ?_, ?_⟩, fun q1 q2 => ?_⟩, ?_, ?_, fun q => ?_, ?_⟩
    · rw [hI 0 (by decide)]; simp [pa_newC, pa_s]
    · rw [hI 1 (by decide)]; simp [pa_newC, pa_s]
    · rw [hI 2 (by decide)]; simp [pa_newC, pa_s]
    · rw [hI 3 (by decide)]; simp [pa_newC, pa_s]
    · rw [hI 4 (by decide)]; simp [pa_newC, pa_s]
    · rw [hI 5 (by decide)]; simp [pa_newC, pa_s]
    · rw [hI 6 (by decide)]; simp [pa_newC, pa_s]
    · rw [hI 7 (by decide)]; simp [pa_newC, pa_s]
    · simp [pa_newC, pa_s] at q1
    · rw [hR10]
      exact ⟨a7, b7, c17⟩
    · rw [pe_I_same]; rfl
    · simp [pa_newC, pa_s] at q
    · rw [hR10]
      refine ⟨?_, trivial⟩
      show ll_F _ g3 (16 * c + 2 + ((0 : Nat) : Int)) (pe_R _ (pe_n σ + 1) ((0 : Nat) : Int)) (pa_nf p (a.2.2.1 p))
      have e0 : pe_R (pe_wI (pe_wR σ7 (pe_n σ + 1) 0 (pe_n σ + 2)) (pe_n σ) 11 1) (pe_n σ + 1) ((0 : Nat) : Int) = pe_n σ + 2 := by
        rw [pe_R_wI]
        exact pe_R_same
      rw [e0, show 16 * c + 2 + ((0 : Nat) : Int) = 16 * c + 2 by omega]
      exact F7.fr hq3 (by omega) (by omega) (by omega)
  have c09 : g3 (pe_n σ) ≠ -9 := by rw [c07]; omega
  generalize pe_wI (pe_wR σ7 (pe_n σ + 1) 0 (pe_n σ + 2)) (pe_n σ) 11 1 = σ9 at f9 hR9 hL9 k9 m9 C9 ⊢
  refine b167_45 (h0 := Or.inr ⟨by omega, k9⟩) (k := ?_)
  rw [m9]
  have qa : ll_fr ll_Zj 0 0 σ9 g3 (pe_wR σ9 891 c (pe_n σ)) g3 := ll_fr_wR hR9.gg (by rw [hR9.B.2.2.1]; unfold ll_Zj; omega)
  have hLa := (hR9.B.fr0 qa (fun j _ => pe_R_ner (by decide))).L
  refine b167_56 (k := ?_)
  rw [show pe_I (pe_wR σ9 891 c (pe_n σ)) 3 3 = c from m9]
  have qb : ll_fr ll_Zj 0 0 σ9 g3 (pe_wI (pe_wR σ9 891 c (pe_n σ)) 3 3 (c + 1)) g3 := ll_fr_trans qa (ll_fr_wI qa.gg (by rw [hR9.B.2.1]; unfold ll_Zj; omega))
  have hBb := hR9.B.fr0 qb (fun j _ => by rw [pe_R_wI]; exact pe_R_ner (by decide))
  have hLb := hBb.L
  refine b167_66 (k := ?_)
  have n1 : ¬ ll_Zj (-1) := by unfold ll_Zj; omega
  refine k _ g3 (ll_fr_mono (ll_fr_trans (ll_fr_mono (x' := 3) (y' := 26) f9 (fun _ h => h.elim)) qb) (fun _ h => h)) ⟨hBb, ⟨?_, ?_, ?_⟩, fun p p0 p5 => ⟨?_, ?_⟩, fun q q0 q3 => ⟨?_, ?_⟩, fun i i0 i1 => ?_⟩
  · rw [pe_I_same]; simp [pa_more, pa_s, hc]
  · rw [pe_I_nej (by decide), pe_I_wR]; exact hR9.2.1.2.1.trans (by simp [pa_more, pa_s])
  · rw [pe_I_nej (by decide), pe_I_wR]; exact hR9.2.1.2.2.trans (by simp [pa_more, pa_s])
  · rw [pe_R_wI, pe_R_ner (by decide)]; exact (hR9.2.2.1 p p0 p5).1.fr qb n1
  · rw [pe_R_wI, pe_R_ner (by decide)]; exact (hR9.2.2.1 p p0 p5).2.fr qb n1
  · rw [pe_R_wI, pe_R_ner (by decide)]; exact (hR9.2.2.2.1 q q0 q3).1.fr qb n1
  · rw [pe_R_wI, pe_R_ner (by decide)]; exact (hR9.2.2.2.1 q q0 q3).2.fr qb n1
  · have i1 : i < c + 1 := by simpa [pa_more, pa_s, hc] using i1
    have hzc : ∀ z, ll_Zc i z → ¬ ll_Zj z := fun z hz q => by unfold ll_Zc at hz; unfold ll_Zj at q; omega
    show ll_C _ g3 i _ (if i = a.1 4 then pa_newC p kd fg (a.2.2.1 p) else a.2.1 i)
    rw [hc]
    by_cases ei : i = c
    · subst ei
      rw [if_pos rfl, pe_R_wI, pe_R_same]
      exact C9.fr qb n1 i0 hzc (by show 1 ≤ 6; decide)
    · rw [if_neg ei, pe_R_wI, pe_R_nej ei]
      exact (hR9.co i0 (by omega)).fr qb n1 i0 hzc (hw9.2 i i0 (by omega))
end
