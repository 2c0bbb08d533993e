/-! holds: ends, stuck, the best to send, of each -/
section
variable {d o r q x y x' y' N M : Nat} {Z Z' : Int → Prop} {Φ : Option pe_V → pe_H → Prop} {σ σ' σ'' : pe_H} {g g' g'' : Nat → Int} {c e v n p st : Int} {a b s s' : pa_M} {T U T' U' : Nat → Prop} {im im' : Option pa_M} {h h' : Int → pa_Sh} {o2 o3 o4 o7 o8 o9 o10 : Option pe_V}
theorem ll_of0 (u : pa_C) : pa_of u 0 = u.1 2 := rfl
theorem ll_k71 : ¬ ll_k7 (-1) := by unfold ll_k7; decide
theorem ll_st_b (hw : pa_wf0 s) (h0 : 0 ≤ c) (h1 : c < s.1 4) : 0 ≤ (s.2.1 c).1 2 ∧ (s.2.1 c).1 2 ≤ 8 := (hw.2.2.1 c h0 h1).1.2.1
theorem ll_R_b (m : Nat) (hw : pa_wf a) (h0 : 0 ≤ c) (h1 : c < a.1 4) : 0 ≤ ((pa_rounds m a).2.1 c).1 2 ∧ ((pa_rounds m a).2.1 c).1 2 ≤ 8 := ll_st_b (pa_rounds_wf m a hw).1 h0 (by rw [pa_rounds4 m a hw]; exact h1)
/-- ends -/
theorem k172_A (hq0 : ll_Q T U σ g a a (some a) h) (hb0 : ll_nb σ N M) (hs0 : ll_sc σ) (h0 : 0 ≤ c) (h1 : c < a.1 4) (k : ∀ σ' o7, ll_nb σ' N M → ll_sc σ' → ll_Q T U σ' g a a (some a) h → pe_X (d + 18) 172 (746, [some (.inr (.inr 3)), some (.inr (.inr 1)), o2, o3, o4, some (.inl st), some (.inl c), o7, o8, o9, o10], [], σ') Φ) : pe_X (d + 18) 172 (669, [some (.inr (.inr 3)), some (.inr (.inr 1)), o2, o3, o4, some (.inl st), some (.inl c), o7, o8, o9, o10], [], σ) Φ := by
  have hwf := hq0.W.1.1
  have hw9 := hwf.1.w9
  have h8 := hwf.1.1
  have g1 : g 1 = -1 := hq0.R.B.2.2.2.2.2.2.2.1
  have n7 := ll_k71
  have hL0 := hq0.R.L
  have key := ll_endsN c 61 0 a
  refine b172_669 (k := ?_)
  refine pe_M.up (q92 (d := 0) hq0 hw9 h0 h1 (fun σ1 p1 hq1 => ?_)) (by omega)
  have hb1 := hb0.z p1
  have hs1 := hs0.fz g1 n7 p1
  have hL1 := hq1.R.L
  generalize pa_endsN c 61 0 a = e at *
  have heb : -4 ≤ e ∧ e ≤ 60 := by
    rcases key with ⟨q, -⟩ | ⟨j, q1, q2, -⟩ <;> omega
  refine b172_678 (k1 := fun r1 => ?_) (k2 := fun r1 => ?_)
  · have hk := key.elim (fun q => q.2) (fun ⟨j, q1, q2, _⟩ => absurd q2 (by omega))
    refine b172_728 (k := ?_)
    refine pe_M.up (q91 (d := 0) hq1 hw9 h0 h1 (by decide) (by decide) (by decide) (by decide) (fun σ2 p2 hq2 => ?_)) (by omega)
    have hb2 := hb1.z p2
    have hs2 := hs1.fz g1 n7 p2
    have hL2 := hq2.R.L
    have := hk 60 (by decide)
    have hbb := ll_R_b 60 hwf h0 h1
    rw [show ((60 : Int)).toNat = 60 from rfl, ll_of0]
    refine b172_740 (k1 := fun _ => ?_) (k2 := fun r => by omega)
    exact k σ2 _ hb2 hs2 hq2
  · obtain ⟨j, q1, q2, q3, q4⟩ := key.elim (fun q => absurd q.1 (by omega)) (fun q => q)
    have ej : e.toNat = j := by omega
    have hbb := ll_R_b j hwf h0 h1
    refine b172_685 (k := ?_)
    refine pe_M.up (q91 (d := 0) hq1 hw9 h0 h1 (by omega) (by omega) (by decide) (by decide) (fun σ2 p2 hq2 => ?_)) (by omega)
    have hb2 := hb1.z p2
    have hs2 := hs1.fz g1 n7 p2
    have hL2 := hq2.R.L
    rw [ej, show pa_of ((pa_rounds j a).2.1 c) 0 = ((pa_rounds j a).2.1 c).1 2 from rfl]
    refine b172_697 (k1 := fun r => by omega) (k2 := fun _ => ?_)
    refine b172_702 (k1 := fun r2 => ?_) (k2 := fun r2 => ?_)
    · exact k σ2 _ hb2 hs2 hq2
    · have hbb2 := ll_R_b (j - 1) hwf h0 h1
      have := q4 (j - 1) (by omega)
      refine b172_707 (k := ?_)
      refine pe_M.up (q91 (d := 0) hq2 hw9 h0 h1 (by omega) (by omega) (by decide) (by decide) (fun σ3 p3 hq3 => ?_)) (by omega)
      have hb3 := hb2.z p3
      have hs3 := hs2.fz g1 n7 p3
      have hL3 := hq3.R.L
      rw [show (e - 1).toNat = j - 1 by omega, show pa_of ((pa_rounds (j - 1) a).2.1 c) 0 = ((pa_rounds (j - 1) a).2.1 c).1 2 from rfl]
      refine b172_721 (k1 := fun _ => ?_) (k2 := fun r => by omega)
      exact k σ3 _ hb3 hs3 hq3
/-- stuck -/
theorem k172_B (hst : st = (pa_stuckN 61 0 a).1) (hq0 : ll_Q T U σ g a a (some a) h) (hb0 : ll_nb σ N M) (hs0 : ll_sc σ) (h0 : 0 ≤ c) (h1 : c < a.1 4) (k : ∀ σ', ll_nb σ' N M → ll_sc σ' → ll_Q T U σ' g a a (some a) h → pe_X (d + 18) 172 (861, [some (.inr (.inr 3)), some (.inr (.inr 1)), o2, o3, o4, some (.inl st), some (.inl c), o7, o8, o9, o10], [], σ') Φ) : pe_X (d + 18) 172 (746, [some (.inr (.inr 3)), some (.inr (.inr 1)), o2, o3, o4, some (.inl st), some (.inl c), o7, o8, o9, o10], [], σ) Φ := by
  have hwf := hq0.W.1.1
  have hw9 := hwf.1.w9
  have h8 := hwf.1.1
  have g1 : g 1 = -1 := hq0.R.B.2.2.2.2.2.2.2.1
  have n7 := ll_k71
  have hL0 := hq0.R.L
  rcases ll_stuckN 61 0 a with key | ⟨j, q1, q2, q3, q4⟩
  · rw [key] at hst
    have hst : st = -4 := hst
    refine b172_746 (k1 := fun _ => ?_) (k2 := fun r => by omega)
    exact k σ hb0 hs0 hq0
  · have ej : st.toNat = j := by omega
    have hwj := pa_rounds_wf j a hwf
    have h4j := pa_rounds4 j a hwf
    have hbb := ll_R_b j hwf h0 h1
    have hge : 3 ≤ ((pa_rounds j a).2.1 c).1 2 := by
      have := (pa_line_mem hwj.1.1.1 c)
      rw [q3, h4j] at this
      refine Classical.byContradiction fun q => ?_
      have := this.mpr ⟨⟨h0, h1⟩, by omega⟩
      cases this
    have e60 : (pa_rounds 60 a).2 = (pa_rounds j a).2 := by
      have := (pa_rounds_none (60 - j) (pa_rounds j a) q3).1
      rw [← pa_rounds_add, show j + (60 - j) = 60 by omega] at this
      exact this
    have e60c : (pa_rounds 60 a).2.1 c = (pa_rounds j a).2.1 c := by rw [e60]
    have v60 : pa_of ((pa_rounds ((60 : Int)).toNat a).2.1 c) 0 = ((pa_rounds j a).2.1 c).1 2 := (show pa_of ((pa_rounds 60 a).2.1 c) 0 = _ by rw [e60c]; rfl)
    have v603 : pa_of ((pa_rounds ((60 : Int)).toNat a).2.1 c) 3 = ((pa_rounds j a).2.1 c).1 5 := (show pa_of ((pa_rounds 60 a).2.1 c) 3 = _ by rw [e60c]; rfl)
    have vj : pa_of ((pa_rounds st.toNat a).2.1 c) 0 = ((pa_rounds j a).2.1 c).1 2 := by rw [ej]; rfl
    have vj3 : pa_of ((pa_rounds st.toNat a).2.1 c) 3 = ((pa_rounds j a).2.1 c).1 5 := by rw [ej]; rfl
    have h5b := (hwj.1.2.2.1 c h0 (by rw [h4j]; exact h1)).1.2.2.2.2.1
    obtain ⟨k1, k2⟩ := ll_stk hwj.1
    have k2 := k2 c h0 (by rw [h4j]; exact h1)
    rw [← q4] at k1 k2
    refine b172_746 (k1 := fun r => by omega) (k2 := fun _ => ?_)
    refine b172_751 (k := ?_)
    refine pe_M.up (q91 (d := 0) hq0 hw9 h0 h1 (by omega) (by omega) (by decide) (by decide) (fun σ1 p1 hq1 => ?_)) (by omega)
    have hb1 := hb0.z p1
    have hs1 := hs0.fz g1 n7 p1
    have hL1 := hq1.R.L
    rw [vj]
    refine b172_763 (k1 := fun r => by omega) (k2 := fun _ => ?_)
    refine b172_767 (k := ?_)
    refine pe_M.up (q91 (d := 0) hq1 hw9 h0 h1 (by decide) (by decide) (by decide) (by decide) (fun σ2 p2 hq2 => ?_)) (by omega)
    have hb2 := hb1.z p2
    have hs2 := hs1.fz g1 n7 p2
    have hL2 := hq2.R.L
    rw [v60]
    refine b172_779 (k := ?_)
    refine pe_M.up (q91 (d := 0) hq2 hw9 h0 h1 (by omega) (by omega) (by decide) (by decide) (fun σ3 p3 hq3 => ?_)) (by omega)
    have hb3 := hb2.z p3
    have hs3 := hs2.fz g1 n7 p3
    have hL3 := hq3.R.L
    rw [vj]
    refine b172_791 (k1 := fun r => by omega) (k2 := fun _ => ?_)
    refine b172_794 (k := ?_)
    refine pe_M.up (q91 (d := 0) hq3 hw9 h0 h1 (by decide) (by decide) (by decide) (by decide) (fun σ4 p4 hq4 => ?_)) (by omega)
    have hb4 := hb3.z p4
    have hs4 := hs3.fz g1 n7 p4
    have hL4 := hq4.R.L
    rw [v603]
    refine b172_806 (k := ?_)
    refine pe_M.up (q91 (d := 0) hq4 hw9 h0 h1 (by omega) (by omega) (by decide) (by decide) (fun σ5 p5 hq5 => ?_)) (by omega)
    have hb5 := hb4.z p5
    have hs5 := hs4.fz g1 n7 p5
    have hL5 := hq5.R.L
    rw [vj3]
    refine b172_818 (k1 := fun r => by omega) (k2 := fun _ => ?_)
    refine b172_821 (k := ?_)
    refine pe_M.up (q93 (d := 0) hq5 hw9 (Or.inr rfl) (fun σ6 p6 hq6 => ?_)) (by omega)
    have hb6 := hb5.z p6
    have hs6 := hs5.fz g1 n7 p6
    have hL6 := hq6.R.L
    rw [if_neg (by decide)]
    refine b172_829 (k := ?_)
    have fin : ∀ z : Int, ((z = 1 ∧ ((pa_rounds j a).2.1 c).1 2 < 6) ∨ (z = 0 ∧ ¬ ((pa_rounds j a).2.1 c).1 2 < 6)) → pe_X (d + 18) 172 (834, [some (.inr (.inr 3)), some (.inr (.inr 1)), o2, o3, o4, some (.inl st), some (.inl c), o7, o8, o9, o10], [.inl z], σ6) Φ := fun z hz => by
      refine b172_834 (k := ?_)
      refine pe_M.up (q91 (d := 0) hq6 hw9 h0 h1 (by omega) (by omega) (by decide) (by decide) (fun σ7 p7 hq7 => ?_)) (by omega)
      have hb7 := hb6.z p7
      have hs7 := hs6.fz g1 n7 p7
      have hL7 := hq7.R.L
      rw [vj]
      rcases hz with ⟨rfl, hz⟩ | ⟨rfl, hz⟩
      · refine b172_846 (k1 := fun r => by omega) (k2 := fun _ => ?_)
        refine b172_851 (k := ?_)
        refine b172_856 (k1 := fun _ => ?_) (k2 := fun r => by omega)
        exact k σ7 hb7 hs7 hq7
      · refine b172_846 (k1 := fun _ => ?_) (k2 := fun r => by omega)
        refine b172_855 (k := ?_)
        refine b172_856 (k1 := fun _ => ?_) (k2 := fun r => by omega)
        exact k σ7 hb7 hs7 hq7
    refine pe_M.up (k148 (d := 0) k1 ⟨h0, by omega⟩ (fun rb => ?_) (fun rb => ?_)) (by omega)
    · exact fin 1 (Or.inl ⟨rfl, k2.mp rb⟩)
    · exact fin 0 (Or.inr ⟨rfl, fun q => rb (k2.mpr q)⟩)
/-- the best to send -/
theorem k172_C (hq0 : ll_Q T U σ g a a (some a) h) (hb0 : ll_nb σ N M) (hs0 : ll_sc σ) (h0 : 0 ≤ c) (h1 : c < a.1 4) (k : ∀ σ' o7 o8 o9, ll_nb σ' N M → ll_sc σ' → ll_Q T U σ' g a a (some a) h → pe_X (d + 18) 172 (1002, [some (.inr (.inr 3)), some (.inr (.inr 1)), o2, o3, o4, some (.inl st), some (.inl c), o7, o8, o9, o10], [], σ') Φ) : pe_X (d + 18) 172 (861, [some (.inr (.inr 3)), some (.inr (.inr 1)), o2, o3, o4, some (.inl st), some (.inl c), o7, o8, o9, o10], [], σ) Φ := by
  have hwf := hq0.W.1.1
  have hw9 := hwf.1.w9
  have h8 := hwf.1.1
  have h6 := hq0.W.1.2
  have g1 : g 1 = -1 := hq0.R.B.2.2.2.2.2.2.2.1
  have n7 := ll_k71
  have hL0 := hq0.R.L
  refine b172_861 (k := ?_)
  refine pe_M.up (k159 (d := 0) hq0.R hwf.1 h0 h1 (fun r1 => ?_) (fun r1 => ?_)) (by omega)
  · obtain ⟨⟨v0, v20⟩, eB, mB⟩ := ll_best hwf h0 h1 r1
    have outb : ∀ z, 0 ≤ z → z ≤ 20 → (-4 ≤ ((pa_send a c z).2.1 c).1 4 ∧ ((pa_send a c z).2.1 c).1 4 ≤ 999) ∧ (0 ≤ ((pa_send a c z).2.1 c).1 2 ∧ ((pa_send a c z).2.1 c).1 2 ≤ 8) ∧ 1 ≤ ((pa_send a c z).2.1 c).1 2 ∧ c < (pa_send a c z).1 4 := fun z z0 z2 => by
      obtain ⟨w1, w2⟩ := pa_send_wf (v := z) hwf h0 h1 r1 (by omega)
      have h14 : c < (pa_send a c z).1 4 := by rw [w2]; exact h1
      have := (w1.1.2.2.1 c h0 h14).1
      exact ⟨this.2.2.2.1, this.2.1, ll_send_1 hwf h0 h1 r1 (by omega), h14⟩
    have b1 := outb _ v0 v20
    have rd : ∀ z x, (x = 0 ∨ x = 2) → 0 ≤ z → z ≤ 20 → pa_aCo (pa_send a c z) c x = if x = 0 then ((pa_send a c z).2.1 c).1 2 else ((pa_send a c z).2.1 c).1 4 := fun z x hx z0 z2 => by
      have := (outb z z0 z2).2.2.2
      unfold pa_aCo
      rcases hx with rfl | rfl
      · rw [if_neg (by omega)]; rfl
      · rw [if_neg (by omega)]; rfl
    generalize hvb : (pa_sbN a c 21 0 (0, -4)).1 = vb at *
    generalize hmb : (pa_sbN a c 21 0 (0, -4)).2 = mb at *
    refine b172_867 (k1 := fun r => by omega) (k2 := fun _ => ?_)
    refine b172_870 (k := ?_)
    refine pe_M.up (q96 (d := 0) hq0 hw9 h0 h1 r1 (Or.inr rfl) (fun σ1 p1 hq1 => ?_)) (by omega)
    have hb1 := hb0.z p1
    have hs1 := hs0.fz g1 n7 p1
    have hL1 := hq1.R.L
    rw [if_neg (by decide), hmb]
    refine b172_880 (k := ?_)
    refine pe_M.up (q96 (d := 0) hq1 hw9 h0 h1 r1 (Or.inl rfl) (fun σ2 p2 hq2 => ?_)) (by omega)
    have hb2 := hb1.z p2
    have hs2 := hs1.fz g1 n7 p2
    have hL2 := hq2.R.L
    rw [if_pos rfl, hvb]
    have k4 := hL2.1.2
    refine b172_898 (k := ?_)
    refine pe_M.up (q87 (d := 0) hq2 hw9 h0 h1 r1 (by omega) (fun σ3 p3 hq3 => ?_)) (by omega)
    have hb3 := hb2.z p3
    have hs3 := hs2.fz g1 n7 p3
    have hL3 := hq3.R.L
    refine b172_901 (k := ?_)
    refine pe_M.up (q83 (d := 0) hq3 (by omega) (by decide) ?_) (by omega)
    rw [rd vb 2 (Or.inr rfl) v0 v20, if_neg (by decide), eB]
    refine b172_913 (k1 := fun r => by omega) (k2 := fun _ => ?_)
    refine b172_918 (k := ?_)
    refine pe_M.up (q83 (d := 0) hq3 (by omega) (by decide) ?_) (by omega)
    rw [rd vb 0 (Or.inl rfl) v0 v20, if_pos rfl]
    refine b172_928 (k1 := fun r => by omega) (k2 := fun _ => ?_)
    refine b172_933 (k := ?_)
    refine pe_M.up (q107 (d := 0) hq3 hw9  (fun σ4 p4 hq4 => ?_)) (by omega)
    have hb4 := hb3.z p4
    have hs4 := hs3.fz g1 n7 p4
    have hL4 := hq4.R.L
    have e35 := hq4.R.2.1.2.2
    refine b172_940 (w0 := by rw [e35]; unfold pe_in; omega) (k1 := fun r => by omega) (k2 := fun _ => ?_)
    refine b172_947 (k := ?_)
    refine pe_M.up (k146 (d := 0) hs4 (by omega) (by decide) (fun z z0 z21 => ?_)) (by omega)
    have b2 := outb z z0 (by omega)
    have m2 := mB z z0 (by omega)
    have k4' := hL4.1.2
    refine b172_964 (k := ?_)
    refine pe_M.up (q87 (d := 0) hq4 hw9 h0 h1 r1 (by omega) (fun σ5 p5 hq5 => ?_)) (by omega)
    have hb5 := hb4.z p5
    have hs5 := hs4.fz g1 n7 p5
    have hL5 := hq5.R.L
    refine b172_967 (k1 := fun r => by omega) (k2 := fun _ => ?_)
    refine b172_971 (k := ?_)
    refine pe_M.up (q83 (d := 0) hq5 (by omega) (by decide) ?_) (by omega)
    rw [rd z 2 (Or.inr rfl) z0 (by omega), if_neg (by decide)]
    refine b172_981 (k1 := fun r => by omega) (k2 := fun _ => ?_)
    refine b172_986 (k := ?_)
    refine pe_M.up (q107 (d := 0) hq5 hw9  (fun σ6 p6 hq6 => ?_)) (by omega)
    have hb6 := hb5.z p6
    have hs6 := hs5.fz g1 n7 p6
    have hL6 := hq6.R.L
    have e356 := hq6.R.2.1.2.2
    refine b172_993 (w0 := by rw [e356]; unfold pe_in; omega) (k1 := fun _ => ?_) (k2 := fun r => by omega)
    exact k σ6 _ _ _ hb6 hs6 hq6
  · refine b172_867 (k1 := fun _ => ?_) (k2 := fun r => by omega)
    exact k σ _ _ _ hb0 hs0 hq0
end
