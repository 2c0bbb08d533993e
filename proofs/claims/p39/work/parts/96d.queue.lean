/-! THE LAW: into a line, out of all lines -/
section
variable {d o r q x y : Nat} {Z : Int → Prop} {Φ : Option pe_V → pe_H → Prop} {σ σ' : pe_H} {g g' : Nat → Int} {c e v n : Int} {a b s : pa_M} {w : pa_C} {nu : Nat → Int} {k0 : Nat} {l : List Int}
theorem ll_getD_app (l : List Int) (z : Int) (i : Nat) (h : i < l.length + 1) : (l ++ [z]).getD i 0 = if i < l.length then l.getD i 0 else z := by
  by_cases hi : i < l.length
  · rw [if_pos hi, List.getD_eq_getElem?_getD, List.getD_eq_getElem?_getD, List.getElem?_append_left hi]
  · have e : i = l.length := by omega
    subst e
    rw [if_neg hi, List.getD_eq_getElem?_getD, List.getElem?_append_right (Nat.le_refl _)]
    simp
/-- queue -/
theorem k151 (hR : ll_R σ g a) (hwf : pa_wf3 a) (h0 : 0 ≤ c) (h1 : c < a.1 4) (h3 : (a.2.1 c).1 2 < 3) (hk : k0 < 2) (hn0 : 0 ≤ n) (hn3 : n < 3) (k : ∀ σ' g', ll_fr ll_Zs 1 8 σ g σ' g' → ll_R σ' g' (pa_qw (pa_cw a c (pa_wait (a.2.1 c) n (3 + k0))) k0 n (a.2.2.2 k0 n ++ [c])) → Φ none σ') : pe_M (d + 1) 151 [.inr (.inr 3), .inl (n + 3 * k0), .inl c] σ Φ := by
  have h8 := hwf.1.1
  have hL := hR.L
  have hg := hR.gg
  have hA := hR.ln0 hk hn0 hn3
  obtain ⟨f1, f2, f3⟩ := pa_wfq_b (k := k0) hwf.2.1 h8.2 hk hn0 hn3
  have hnot : c ∉ a.2.2.2 k0 n := fun hc => by
    have := ((hwf.2.1 k0 hk n hn0 hn3).2 c).mp hc
    omega
  have hlen := f3 c h0 (by omega) hnot
  have hn3' : 3 < pe_n σ := ll_lt hg (by rw [hR.B.2.1]; decide)
  generalize hl : a.2.2.2 k0 n = l at hA hlen k
  have hA0 := hA
  obtain ⟨⟨hAK, hAg⟩, hAL, hAI⟩ := hA
  generalize hat : n + 3 * (k0 : Int) = at' at hAK hAg hAL hAI hA0 ⊢
  have hat0 : 0 ≤ at' := by omega
  have hat6 : at' < 6 := by omega
  refine pe_M_of ck151 (Nat.le_of_ble_eq_true rfl) ?_
  refine b151_0 (k := ?_)
  have er : g (pe_R σ 892 at') ≠ -9 := by rw [hAg]; decide
  have ne : pe_R σ 892 at' ≠ pe_n σ := by have := ll_lt hg er; omega
  have hg9 := hg _ (Nat.le_refl _)
  rw [hAL]
  have s0 : ((l.length : Int) + 1).toNat = l.length + 1 := by omega
  rw [s0]
  have e0 : ll_fr (fun _ => False) 1 (l.length + 1) σ g (pe_new σ 10 ((l.length : Int) + 1) (l.length + 1)) (ll_u g (pe_n σ) (-1)) := ll_fr_new hg
  have hB1 := hR.B.fr e0 (fun h => h)
  have hL1 := hB1.L
  have rR : pe_R (pe_new σ 10 ((l.length : Int) + 1) (l.length + 1)) 892 at' = pe_R σ 892 at' := e0.R (by rw [hR.B.2.2.2.1]; decide) (fun h => h) _
  have kN : pe_K (pe_new σ 10 ((l.length : Int) + 1) (l.length + 1)) (pe_n σ) = 10 := if_pos rfl
  have lN : pe_L (pe_new σ 10 ((l.length : Int) + 1) (l.length + 1)) (pe_n σ) = (l.length : Int) + 1 := if_pos rfl
  have hA1 := hA0.fr e0 (fun h => h)
  have kA : pe_K (pe_new σ 10 ((l.length : Int) + 1) (l.length + 1)) (pe_R (pe_new σ 10 ((l.length : Int) + 1) (l.length + 1)) 892 at') = 10 := by rw [rR]; exact hA1.1.1
  have lA : pe_L (pe_new σ 10 ((l.length : Int) + 1) (l.length + 1)) (pe_R (pe_new σ 10 ((l.length : Int) + 1) (l.length + 1)) 892 at') = l.length := by rw [rR]; exact hA1.2.1
  refine b151_12 (k := ?_)
  rw [rR, hA1.2.1]
  have e1 := e0.cpyn (s := pe_R σ 892 at') (sp := 0) (dp := 0) (m := l.length) hg9
  have hA2 := hA0.fr e1 (fun h => h)
  have kN1 : pe_K (pe_cpy (pe_new σ 10 ((l.length : Int) + 1) (l.length + 1)) (pe_R σ 892 at') 0 (pe_n σ) 0 l.length) (pe_n σ) = 10 := kN
  have lN1 : pe_L (pe_cpy (pe_new σ 10 ((l.length : Int) + 1) (l.length + 1)) (pe_R σ 892 at') 0 (pe_n σ) 0 l.length) (pe_n σ) = (l.length : Int) + 1 := lN
  have iN1 : ∀ i : Nat, i < l.length → pe_I (pe_cpy (pe_new σ 10 ((l.length : Int) + 1) (l.length + 1)) (pe_R σ 892 at') 0 (pe_n σ) 0 l.length) (pe_n σ) i = l.getD i 0 := fun i hi => by
    rw [pe_I_cpy_in (by omega) (by omega), show (0 : Int) + ((i : Int) - 0) = i by omega]
    exact hA1.2.2 i hi
  have rR1 : pe_R (pe_cpy (pe_new σ 10 ((l.length : Int) + 1) (l.length + 1)) (pe_R σ 892 at') 0 (pe_n σ) 0 l.length) 892 at' = pe_R σ 892 at' := rR
  have hL2 := (hR.B.fr e1 (fun h => h)).L
  generalize pe_cpy (pe_new σ 10 ((l.length : Int) + 1) (l.length + 1)) (pe_R σ 892 at') 0 (pe_n σ) 0 l.length = σ2 at e1 hA2 kN1 lN1 iN1 rR1 hL2 ⊢
  have kA2 : pe_K σ2 (pe_R σ2 892 at') = 10 := by rw [rR1]; exact hA2.1.1
  have lA2 : pe_L σ2 (pe_R σ2 892 at') = l.length := by rw [rR1]; exact hA2.2.1
  refine b151_31 (k := ?_)
  rw [lA2]
  have e2 := e1.wIn (j := l.length) (v := c) hg9
  have hAN : ll_A (pe_wI σ2 (pe_n σ) l.length c) (ll_u g (pe_n σ) (-1)) (pe_n σ) (l ++ [c]) := by
    refine ⟨⟨kN1, ll_u_s⟩, ?_, fun i hi => ?_⟩
    · rw [List.length_append]; exact lN1
    · rw [List.length_append] at hi
      rw [ll_getD_app l c i hi]
      by_cases hi2 : i < l.length
      · rw [if_pos hi2, pe_I_nej (by omega)]
        exact iN1 i hi2
      · have : i = l.length := by simp at hi; omega
        rw [if_neg hi2, this, pe_I_same]
  have hR3 := hR.fr hwf.1.w9 e2 (fun _ h => h.elim)
  have kN3 : pe_K (pe_wI σ2 (pe_n σ) l.length c) (pe_n σ) = 10 := kN1
  generalize pe_wI σ2 (pe_n σ) l.length c = σ3 at e2 hAN hR3 kN3 ⊢
  have hL3 := hR3.L
  obtain ⟨e4, hR4⟩ := hR3.ln hwf.1.w9 hk hn0 hn3 hAN
  rw [hat] at e4 hR4
  refine b151_41 (k := ?_)
  have hL4 := hR4.L
  have hw4 : pa_wf9 (pa_qw a k0 n (l ++ [c])) := hwf.1.w9
  have hC := hR4.co h0 h1
  have hKc := hC.1.1
  generalize pe_wR σ3 892 at' (pe_n σ) = σ4 at e4 hR4 hL4 hC hKc ⊢
  have C0 : ll_C σ4 (ll_u g (pe_n σ) (-1)) c (pe_R σ4 891 c) (a.2.1 c) := hC
  have hh : ∀ (st : Int), st = 3 + (k0 : Int) → pe_X d 151 (64, [some (.inr (.inr 3)), some (.inl at'), some (.inl c), some (.inr (.inr (pe_n σ)))], [.inl st, .inr (.inr (pe_R σ4 891 c))], σ4) Φ := fun st hst => by
    refine b151_64 (k := ?_)
    have hN1 : ll_N (pe_wI σ4 (pe_R σ4 891 c) 3 st) (pe_R σ4 891 c) (pa_s (pa_s (a.2.1 c).1 2 st) 7 (pe_I σ4 (pe_R σ4 891 c) 8)) := by
      obtain ⟨⟨b0, b1, b2, b3, b4, b5, b6, b7⟩, b8⟩ := C0.2.1
      refine ⟨⟨?_, ?_, ?_, ?_, ?_, ?_, ?_, ?_⟩, fun q1 q2 => ?_⟩ <;> simp [pe_I_w, pa_s] <;> assumption
    obtain ⟨p1, C1⟩ := C0.num e4.gg h0 (by decide) hN1 (fun q => by simp [pa_s] at q; omega)
    have hL5 := (hR4.B.fr p1 (by unfold ll_Zc; omega)).L
    have hK5 := C1.1.1
    have hN2 : ll_N (pe_wI (pe_wI σ4 (pe_R σ4 891 c) 3 st) (pe_R σ4 891 c) 8 n) (pe_R σ4 891 c) (pa_wait (a.2.1 c) n st).1 := by
      obtain ⟨⟨b0, b1, b2, b3, b4, b5, b6, b7⟩, b8⟩ := C0.2.1
      refine ⟨⟨?_, ?_, ?_, ?_, ?_, ?_, ?_, ?_⟩, fun q1 q2 => ?_⟩ <;> simp [pe_I_w, pa_s, pa_wait] <;> assumption
    obtain ⟨p2, C2⟩ := C1.num p1.gg h0 (by decide) hN2 (fun q => by simp [pa_s, pa_wait] at q; omega)
    refine b151_67 (k := ?_)
    have em : Int.tmod at' 3 = n := by
      have hk : k0 = 0 ∨ k0 = 1 := by omega
      have hn : n = 0 ∨ n = 1 ∨ n = 2 := by omega
      rcases hk with rfl | rfl <;> rcases hn with rfl | rfl | rfl <;> subst hat <;> decide
    rw [em]
    refine b151_79 (k := ?_)
    have p12 := ll_fr_trans p1 p2
    have hR5 := hR4.one hw4 h0 h1 p12 C2
    refine k _ _ (ll_fr_mono (ll_fr_trans (ll_fr_trans (ll_fr_mono (x' := 1) (y' := 8) e2 (fun _ h => h.elim)) e4) (ll_fr_mono (x' := 0) (y' := 0) p12 (fun z hz => ll_Zc_s h0 hz))) (fun _ h => h)) ?_
    rw [← hst]
    exact hR5
  by_cases hk1 : k0 = 0
  · refine b151_48 (k1 := fun r => by omega) (k2 := fun _ => ?_)
    refine b151_59 (k := ?_)
    exact hh 3 (by omega)
  · refine b151_48 (k1 := fun _ => ?_) (k2 := fun r => by omega)
    refine b151_63 (k := ?_)
    exact hh 4 (by omega)
end
