/-! THE LAW: same -/
section
variable {d o r q x y x' y' : Nat} {Z Z' : Int → Prop} {Φ : Option pe_V → pe_H → Prop} {σ σ' σ'' : pe_H} {g g' g'' : Nat → Int} {c e v n p : Int} {a b s s' : pa_M} {w : pa_C} {nu : Nat → Int} {k0 : Nat} {l : List Int} {f : pa_F} {fs : List pa_F} {P : pa_P} {T U T' U' : Nat → Prop} {im im' : Option pa_M} {h h' : Int → pa_Sh} {L : List (Int × pa_P)}
set_option maxRecDepth 8000 in
theorem b171_434e {x1 : Int} {a2 : Nat} {o3 : Option pe_V} {x4 : Int} {a5 : Nat} {s0 : Int} (hL : ll_L σ) (h0 : pe_K σ a5 = 9) (hs : pe_I σ a5 0 = s0) (k : pe_X d 171 (444, [some (.inr (.inr 3)), some (.inl x1), some (.inr (.inr a2)), o3, some (.inl x4), some (.inr (.inr a5))], [], σ) Φ) : pe_X d 171 (434, [some (.inr (.inr 3)), some (.inl x1), some (.inr (.inr a2)), o3, some (.inl x4), some (.inr (.inr a5))], [.inl s0], σ) Φ := by
  subst hs
  refine pe_blk 215 3 ck171 [pe_K σ a5 = 9] (cond (decide ((pe_w (pe_I σ a5 0)) = (pe_w (pe_I σ a5 0)))) 444 442, [some (.inr (.inr 3)), some (.inl x1), some (.inr (.inr a2)), o3, some (.inl x4), some (.inr (.inr a5))], [], σ) rfl ?_ ?_
  · simp only [pe_all]
    first | exact h0 | exact ⟨h0, trivial⟩
  · rw [decide_eq_true rfl]
    exact k
set_option maxRecDepth 8000 in
theorem b171_386e {x1 : Int} {a2 : Nat} {o3 : Option pe_V} {x4 : Int} {o5 : Option pe_V} {s0 : Int} (hL : ll_L σ) (k : pe_X d 171 (391, [some (.inr (.inr 3)), some (.inl x1), some (.inr (.inr a2)), o3, some (.inl x4), o5], [], σ) Φ) : pe_X d 171 (386, [some (.inr (.inr 3)), some (.inl x1), some (.inr (.inr a2)), o3, some (.inl x4), o5], [.inl s0, .inl s0], σ) Φ := by
  refine pe_blk 192 1 ck171 [] (cond (decide ((pe_w s0) = (pe_w s0))) 391 389, [some (.inr (.inr 3)), some (.inl x1), some (.inr (.inr a2)), o3, some (.inl x4), o5], [], σ) rfl ?_ ?_
  · exact trivial
  · rw [decide_eq_true rfl]
    exact k
theorem ll_Fs.at {fa : Nat} : ∀ (fs : List pa_F), ll_Fs σ g c fa fs → ∀ i : Nat, i < fs.length → ll_F σ g (16 * c + 2 + i) (pe_R σ fa i) (pa_fr fs i)
  | [], _, i, hi => absurd hi (Nat.not_lt_zero _)
  | f :: fs, h, i, hi => by
    rw [List.length_cons] at hi
    by_cases e : i = fs.length
    · subst e
      have : pa_fr (f :: fs) (fs.length : Int) = f := by
        unfold pa_fr
        rw [List.length_cons, show fs.length + 1 - 1 - ((fs.length : Int)).toNat = 0 by omega]
        rfl
      rw [this]
      exact h.1
    · have : pa_fr (f :: fs) (i : Int) = pa_fr fs i := by
        unfold pa_fr
        rw [List.length_cons, show fs.length + 1 - 1 - ((i : Int)).toNat = (fs.length - 1 - ((i : Int)).toNat) + 1 by omega]
        rfl
      rw [this]
      exact ll_Fs.at fs h.2 i (by omega)
theorem pa_held_tld (v : Option (List Int)) : pa_held v = pa_tld v := by
  cases v with
  | none => rfl
  | some l => cases l <;> rfl
theorem pk_RM.len512 {B : Nat} (hM : pk_RM B T σ a) (hw : pa_wf0 a) (h0 : 0 ≤ c) (h1 : c < a.1 4) : ((a.2.1 c).2.1.length : Int) ≤ 512 := by
  have h8 := hw.1
  obtain ⟨w, n, hR, hn⟩ := hM
  have hp := pa_pots_0 (a := a)
  have hst := hR.st
  obtain ⟨b1, b2, b3, b4⟩ := hR.co h0 h1
  rcases b3 with ⟨e, -⟩ | ⟨-, e1, e2, e3, e4⟩
  · rw [e]; simp
  · have := pr_st_len hst (n.toNat) _ (by omega) e1 e2
    rw [e4] at this
    omega
/-- the faults of one -/
theorem k171_faults (hq : ll_Q T U σ g a a im h) (h0 : 0 ≤ c) (h1 : c < a.1 4) (k : ∀ o3 o5, pe_X (d + 16) 171 (457, [some (.inr (.inr 3)), some (.inl c), some (.inr (.inr (pe_R σ 891 c))), o3, some (.inl ((a.2.1 c).2.1.length : Int)), o5], [], σ) Φ) : ∀ (post : List Int) (j : Nat) (q : Nat) (o3 : Option pe_V), (a.2.1 c).2.1.drop j = post → j ≤ (a.2.1 c).2.1.length → ll_fa σ g post q → pe_X (d + 16) 171 (419, [some (.inr (.inr 3)), some (.inl c), some (.inr (.inr (pe_R σ 891 c))), o3, some (.inl (j : Int)), some (.inr (.inr q))], [], σ) Φ
  | [], j, q, o3, hd, hj, hf => by
    have hL := hq.R.L
    have hf : q = 0 := hf
    have : (a.2.1 c).2.1.length = j := by
      have := congrArg List.length hd
      rw [List.length_drop, List.length_nil] at this
      omega
    rw [this] at k
    refine b171_419 (k1 := fun _ => ?_) (k2 := fun r => by omega)
    exact k _ _
  | z :: post, j, q, o3, hd, hj, hf => by
    have hL := hq.R.L
    obtain ⟨⟨f0, f1, f2⟩, f3, f4⟩ := hf
    have hlen := hq.G.M.len512 hq.W.1.1.1 h0 h1
    have hjl : j < (a.2.1 c).2.1.length := by
      have := congrArg List.length hd
      rw [List.length_drop, List.length_cons] at this
      omega
    have hz : (a.2.1 c).2.1.getD j 0 = z := by
      have := congrArg (fun l => l.getD 0 0) hd
      simp only [List.getD_eq_getElem?_getD, List.getElem?_drop] at this
      rw [List.getD_eq_getElem?_getD]
      simpa using this
    have h8 := hq.W.1.1.1.1
    have hv : pa_aCause a c j = z := by
      unfold pa_aCause
      rw [if_neg (by omega), show ((j : Int)).toNat = j by omega, hz]
    refine b171_419 (k1 := fun r => by omega) (k2 := fun _ => ?_)
    refine b171_424 (k := ?_)
    refine pe_M.up (k85 (d := 0) hq.G hq.W (by omega) (by omega) ?_) (by omega)
    rw [hv]
    refine b171_434e hL f1 f3 ?_
    refine b171_444 (k := ?_)
    refine b171_454 (k := ?_)
    refine k171_faults hq h0 h1 k post (j + 1) _ _ ?_ (by omega) f4
    rw [← List.drop_drop, hd]
    rfl
/-- the frames of one -/
theorem k171_frames {o3 o5' : Option pe_V} (hq : ll_Q T U σ g a a im h) (h0 : 0 ≤ c) (h1 : c < a.1 4) (k : ∀ o3 o4 o5, pe_X (d + 16) 171 (397, [some (.inr (.inr 3)), some (.inl c), some (.inr (.inr (pe_R σ 891 c))), o3, o4, o5], [], σ) Φ) : ∀ (m j : Nat) (o3 o5 : Option pe_V), j + m = (a.2.1 c).2.2.length → pe_X (d + 16) 171 (268, [some (.inr (.inr 3)), some (.inl c), some (.inr (.inr (pe_R σ 891 c))), o3, some (.inl (j : Int)), o5], [], σ) Φ := by
  have hL := hq.R.L
  have hwc := hq.W.1.1.1.2.2.1 c h0 h1
  have hl6 := hwc.2.1
  have h8 := hq.W.1.1.1.1
  have hC := hq.R.co h0 h1
  have hK := hC.1.1
  have hd := hC.2.2.2.1
  obtain ⟨fa1, fa2, fa3⟩ := hC.2.2.1
  intro m
  induction m with
  | zero =>
    intro j o3 o5 hj
    refine b171_268 (w0 := by rw [hd]; unfold pe_in; omega) (k1 := fun _ => ?_) (k2 := fun r => by omega)
    exact k _ _ _
  | succ m ih =>
    intro j o3 o5 hj
    have hF := ll_Fs.at _ hC.2.2.2.2.2 j (by omega)
    have hKf := hF.1.1
    obtain ⟨-, ⟨i0, i3, i4, i5⟩, -, iH⟩ := hF
    have hmem : pa_fr (a.2.1 c).2.2 (j : Int) ∈ (a.2.1 c).2.2 := by
      unfold pa_fr
      rw [List.getD_eq_getElem?_getD, List.getElem?_eq_getElem (by omega)]
      exact List.getElem_mem _
    have hff := hwc.2.2.1 _ hmem
    obtain ⟨n1, n2, n3, n4, -, -⟩ := hff
    have hv : ∀ x, 0 ≤ x → x ≤ 4 → pa_aFrame a c j x = if x = 0 then (pa_fr (a.2.1 c).2.2 j).1 1 else if x = 1 then (pa_fr (a.2.1 c).2.2 j).1 2 else if x = 2 then (pa_fr (a.2.1 c).2.2 j).1 3 else if x = 3 then (pa_fr (a.2.1 c).2.2 j).1 4 else pa_held (pa_fr (a.2.1 c).2.2 j).2.2 := fun x x0 x4 => by
      unfold pa_aFrame
      rw [if_neg (by omega)]
    have v0 := hv 0 (by decide) (by decide)
    have v1 := hv 1 (by decide) (by decide)
    have v2 := hv 2 (by decide) (by decide)
    have v3 := hv 3 (by decide) (by decide)
    have v4 := hv 4 (by decide) (by decide)
    simp at v0 v1 v2 v3 v4
    generalize hrf : pe_R σ (pe_R σ (pe_R σ 891 c) 10) (j : Int) = rf at *
    generalize pa_fr (a.2.1 c).2.2 (j : Int) = F at *
    refine b171_268 (w0 := by rw [hd]; unfold pe_in; omega) (k1 := fun r => by omega) (k2 := fun _ => ?_)
    refine b171_277 (h1 := by rw [fa1]; decide) (h3 := by rw [fa2]; omega) (k := ?_)
    rw [hrf]
    refine b171_286 (k := ?_)
    refine pe_M.up (k84 (d := 0) hq.G hq.W (by omega) (by omega) (by decide) ?_) (by omega)
    rw [v0]
    refine b171_297 (k1 := fun r => by omega) (k2 := fun _ => ?_)
    refine b171_305 (k := ?_)
    refine pe_M.up (k84 (d := 0) hq.G hq.W (by omega) (by omega) (by decide) ?_) (by omega)
    rw [v1]
    refine b171_316 (k1 := fun r => by omega) (k2 := fun _ => ?_)
    refine b171_324 (k := ?_)
    refine pe_M.up (k84 (d := 0) hq.G hq.W (by omega) (by omega) (by decide) ?_) (by omega)
    rw [v2]
    refine b171_335 (k1 := fun r => by omega) (k2 := fun _ => ?_)
    refine b171_343 (k := ?_)
    refine pe_M.up (k84 (d := 0) hq.G hq.W (by omega) (by omega) (by decide) ?_) (by omega)
    rw [v3]
    have hnext : pe_X (d + 16) 171 (370, [some (.inr (.inr 3)), some (.inl c), some (.inr (.inr (pe_R σ 891 c))), o3, some (.inl (j : Int)), some (.inr (.inr rf))], [], σ) Φ := by
      refine b171_370 (k := ?_)
      refine pe_M.up (k84 (d := 0) hq.G hq.W (by omega) (by omega) (by decide) ?_) (by omega)
      rw [v4]
      refine b171_381 (k := ?_)
      refine pe_M.up (k135 (d := 0) hKf iH ?_) (by omega)
      rw [pa_held_tld]
      refine b171_386e hL ?_
      refine b171_391 (k := ?_)
      exact ih (j + 1) _ _ (by omega)
    refine b171_354 (k1 := fun r1 => ?_) (k2 := fun r1 => ?_)
    · refine b171_366 (k := ?_)
      refine b171_367 (k1 := fun r => by omega) (k2 := fun _ => ?_)
      exact hnext
    · refine b171_362 (k := ?_)
      refine b171_367 (k1 := fun r => by omega) (k2 := fun _ => ?_)
      exact hnext
/-- one coroutine -/
theorem k171_one (hq : ll_Q T U σ g a a im h) (h0 : 0 ≤ c) (h1 : c < a.1 4) (k : ∀ (σ2 : pe_H) (g2 : Nat → Int) (o2 o3 o4 o5 : Option pe_V), ll_fr (fun _ => False) 1 6 σ g σ2 g2 → pe_X (d + 16) 171 (2, [some (.inr (.inr 3)), some (.inl (c + 1)), o2, o3, o4, o5], [], σ2) Φ) (o2 o3 o4 o5 : Option pe_V) : pe_X (d + 16) 171 (10, [some (.inr (.inr 3)), some (.inl c), o2, o3, o4, o5], [], σ) Φ := by
  have hL := hq.R.L
  have hwf := hq.W.1.1
  have hwc := hwf.1.2.2.1 c h0 h1
  have hl6 := hwc.2.1
  have h8 := hwf.1.1
  have hC := hq.R.co h0 h1
  have hK := hC.1.1
  have hd := hC.2.2.2.1
  obtain ⟨⟨b0, b1, b2, b3, b4, b5, b6, b7⟩, b8⟩ := hC.2.1
  obtain ⟨w0, w2, w3, w4, w5, w6, w20, w21, w7⟩ := hwc.1
  have hn3' : 3 < pe_n σ := ll_lt hq.R.gg (by rw [hq.R.B.2.1]; decide)
  have hlen := hq.G.M.len512 hwf.1 h0 h1
  have hwt := pa_weight_b (k := (a.2.1 c).1 20) w21
  have hv : ∀ x, 0 ≤ x → x ≤ 11 → pa_aCo a c x = if x = 5 then (a.2.1 c).1 0 else if x = 6 then (a.2.1 c).1 20 else if x = 7 then (a.2.1 c).1 21 else if x = 8 then pa_weight ((a.2.1 c).1 20) ((a.2.1 c).1 21) + 100 else if x = 9 then ((a.2.1 c).2.2.length : Int) else if x = 10 then (a.2.1 c).1 7 else if x = 11 then ((a.2.1 c).2.1.length : Int) else pa_of (a.2.1 c) x := fun x x0 x4 => by
    unfold pa_aCo
    rw [if_neg (by omega)]
  have v0 : pa_aCo a c 0 = (a.2.1 c).1 2 := (hv 0 (by decide) (by decide)).trans rfl
  have v1 : pa_aCo a c 1 = (a.2.1 c).1 3 := (hv 1 (by decide) (by decide)).trans rfl
  have v2 : pa_aCo a c 2 = (a.2.1 c).1 4 := (hv 2 (by decide) (by decide)).trans rfl
  have v3 : pa_aCo a c 3 = (a.2.1 c).1 5 := (hv 3 (by decide) (by decide)).trans rfl
  have v4 : pa_aCo a c 4 = (a.2.1 c).1 6 := (hv 4 (by decide) (by decide)).trans rfl
  have v5 : pa_aCo a c 5 = (a.2.1 c).1 0 := (hv 5 (by decide) (by decide)).trans rfl
  have v6 : pa_aCo a c 6 = (a.2.1 c).1 20 := (hv 6 (by decide) (by decide)).trans rfl
  have v7 : pa_aCo a c 7 = (a.2.1 c).1 21 := (hv 7 (by decide) (by decide)).trans rfl
  have v8 : pa_aCo a c 8 = pa_weight ((a.2.1 c).1 20) ((a.2.1 c).1 21) + 100 := (hv 8 (by decide) (by decide)).trans rfl
  have v9 : pa_aCo a c 9 = ((a.2.1 c).2.2.length : Int) := (hv 9 (by decide) (by decide)).trans rfl
  have v10 : pa_aCo a c 10 = (a.2.1 c).1 7 := (hv 10 (by decide) (by decide)).trans rfl
  have v11 : pa_aCo a c 11 = ((a.2.1 c).2.1.length : Int) := (hv 11 (by decide) (by decide)).trans rfl
  have hw7 : 0 ≤ (a.2.1 c).1 7 ∧ (a.2.1 c).1 7 < 8 ∨ (a.2.1 c).1 7 = -4 := by
    have q1 := (hwf.2.2.1 c h0 h1).1
    have q2 := (hwf.2.2.1 c h0 h1).2
    by_cases e : (a.2.1 c).1 2 < 3 ∨ 5 < (a.2.1 c).1 2
    · exact Or.inr (w7 e)
    · left
      by_cases e5 : (a.2.1 c).1 2 = 5
      · have := q2 e5; omega
      · have := q1 (by omega); omega
  -- who waits
  have main : ∀ (z : Int) (o4 o5 : Option pe_V), ((z = 1 ∧ 3 ≤ (a.2.1 c).1 2 ∧ (a.2.1 c).1 2 ≤ 5) ∨ (z = 0 ∧ ((a.2.1 c).1 2 < 3 ∨ 5 < (a.2.1 c).1 2))) → pe_X (d + 16) 171 (39, [some (.inr (.inr 3)), some (.inl c), some (.inr (.inr (pe_R σ 891 c))), o3, o4, o5], [.inl z], σ) Φ := fun z o4 o5 hz => by
    refine b171_39 (k := ?_)
    refine pe_M.up (k83 (d := 0) hq.G hq.W (by omega) (by decide) ?_) (by omega)
    rw [v0]
    refine b171_49 (k1 := fun r => by omega) (k2 := fun _ => ?_)
    refine b171_56 (k := ?_)
    refine pe_M.up (k83 (d := 0) hq.G hq.W (by omega) (by decide) ?_) (by omega)
    rw [v1]
    refine b171_65 (k1 := fun r => by omega) (k2 := fun _ => ?_)
    refine b171_72 (k := ?_)
    refine pe_M.up (k83 (d := 0) hq.G hq.W (by omega) (by decide) ?_) (by omega)
    rw [v2]
    refine b171_81 (k1 := fun r => by omega) (k2 := fun _ => ?_)
    refine b171_88 (k := ?_)
    refine pe_M.up (k83 (d := 0) hq.G hq.W (by omega) (by decide) ?_) (by omega)
    rw [v3]
    refine b171_97 (k1 := fun r => by omega) (k2 := fun _ => ?_)
    refine b171_104 (k := ?_)
    refine pe_M.up (k83 (d := 0) hq.G hq.W (by omega) (by decide) ?_) (by omega)
    rw [v4]
    refine b171_113 (k1 := fun r => by omega) (k2 := fun _ => ?_)
    refine b171_120 (k := ?_)
    refine pe_M.up (k83 (d := 0) hq.G hq.W (by omega) (by decide) ?_) (by omega)
    rw [v5]
    refine b171_129 (k1 := fun r => by omega) (k2 := fun _ => ?_)
    refine b171_136 (k := ?_)
    refine pe_M.up (k83 (d := 0) hq.G hq.W (by omega) (by decide) ?_) (by omega)
    rw [v6]
    refine b171_146 (k1 := fun r => by omega) (k2 := fun _ => ?_)
    refine b171_153 (k := ?_)
    refine pe_M.up (k83 (d := 0) hq.G hq.W (by omega) (by decide) ?_) (by omega)
    rw [v7]
    refine b171_163 (k1 := fun r => by omega) (k2 := fun _ => ?_)
    refine b171_170 (k := ?_)
    refine pe_M.up (k83 (d := 0) hq.G hq.W (by omega) (by decide) ?_) (by omega)
    rw [v8]
    refine b171_180 (k := ?_)
    refine pe_M.up (k138 (d := 0) hq.R.gg (by omega) hK (by rw [hC.1.2]; omega) b1 b2 w20 w21 (fun σ2 g2 p2 => ?_)) (by omega)
    have hR2 := hq.R.fr hwf.1.w9 p2 (fun _ h => h.elim)
    have hq2 := hq.law p2 (fun h => h) hR2
    have hL2 := hR2.L
    have r891 : pe_R σ2 891 c = pe_R σ 891 c := p2.R (by rw [hq.R.B.2.2.1]; decide) (fun h => h) c
    have hC2 := hR2.co h0 h1
    rw [r891] at hC2
    have hK2 := hC2.1.1
    have hd2 := hC2.2.2.2.1
    obtain ⟨⟨-, -, -, c3, -, -, -, -⟩, c8⟩ := hC2.2.1
    -- after the weight
    have late : ∀ (o3 o4 o5 : Option pe_V), pe_X (d + 16) 171 (397, [some (.inr (.inr 3)), some (.inl c), some (.inr (.inr (pe_R σ 891 c))), o3, o4, o5], [], σ2) Φ := fun o3 o4 o5 => by
      have fin : ∀ (o3 o5 : Option pe_V), pe_X (d + 16) 171 (457, [some (.inr (.inr 3)), some (.inl c), some (.inr (.inr (pe_R σ2 891 c))), o3, some (.inl ((a.2.1 c).2.1.length : Int)), o5], [], σ2) Φ := fun o3 o5 => by
        rw [r891]
        have u1 : pa_aCause a c ((a.2.1 c).2.1.length : Int) = -1 := by
          unfold pa_aCause
          rw [if_pos (by omega)]
        have u2 : pa_aFrame a c ((a.2.1 c).2.2.length : Int) 0 = -1 := by
          unfold pa_aFrame
          rw [if_pos (by omega)]
        refine b171_457 (k := ?_)
        refine pe_M.up (k85 (d := 0) hq2.G hq2.W (by omega) (by omega) ?_) (by omega)
        rw [u1]
        refine b171_467 (k1 := fun r => absurd rfl r) (k2 := fun _ => ?_)
        refine b171_471 (k := ?_)
        rw [hd2]
        refine pe_M.up (k84 (d := 0) hq2.G hq2.W (by omega) (by omega) (by decide) ?_) (by omega)
        rw [u2]
        refine b171_484 (k1 := fun _ => ?_) (k2 := fun r => absurd rfl r)
        refine b171_490 (k := ?_)
        exact k σ2 g2 _ _ _ _ p2
      refine b171_397 (w0 := by rw [c3]; unfold pe_in; omega) (k1 := fun r1 => ?_) (k2 := fun r1 => ?_)
      · have he : (a.2.1 c).2.1 = [] := Classical.byContradiction fun q => by have := hwc.2.2.2.2.mpr q; omega
        refine b171_416 (k := ?_)
        refine b171_417 (k := ?_)
        have key := k171_faults (d := d) (Φ := Φ) hq2 h0 h1 (fun o3 o5 => fin o3 o5) [] 0 0 (pe_nl o3) (by rw [he]; rfl) (Nat.zero_le _) rfl
        rw [r891] at key
        exact key
      · refine b171_409 (k := ?_)
        refine b171_417 (k := ?_)
        have key := k171_faults (d := d) (Φ := Φ) hq2 h0 h1 (fun o3 o5 => fin o3 o5) (a.2.1 c).2.1 0 (pe_R σ2 (pe_R σ2 891 c) 9) (pe_nl o3) rfl (Nat.zero_le _) (by rw [r891]; exact hC2.2.2.2.2.1 (by omega))
        rw [r891] at key
        exact key
    refine b171_186 (k1 := fun r => by omega) (k2 := fun _ => ?_)
    refine b171_190 (k := ?_)
    refine pe_M.up (k83 (d := 0) hq2.G hq2.W (by omega) (by decide) ?_) (by omega)
    rw [v9]
    refine b171_200 (w0 := by rw [hd2]; unfold pe_in; omega) (k1 := fun r => by omega) (k2 := fun _ => ?_)
    refine b171_207 (k := ?_)
    refine pe_M.up (k83 (d := 0) hq2.G hq2.W (by omega) (by decide) ?_) (by omega)
    rw [v10]
    have mid : ∀ o3 o4 o5, pe_X (d + 16) 171 (233, [some (.inr (.inr 3)), some (.inl c), some (.inr (.inr (pe_R σ 891 c))), o3, o4, o5], [], σ2) Φ := fun o3 o4 o5 => by
      refine b171_233 (k := ?_)
      refine pe_M.up (k83 (d := 0) hq2.G hq2.W (by omega) (by decide) ?_) (by omega)
      rw [v11]
      have endd : ∀ o3 o4 o5, pe_X (d + 16) 171 (265, [some (.inr (.inr 3)), some (.inl c), some (.inr (.inr (pe_R σ 891 c))), o3, o4, o5], [], σ2) Φ := fun o3 o4 o5 => by
        refine b171_265 (k := ?_)
        have key := k171_frames (d := d) (Φ := Φ) (o3 := none) (o5' := none) hq2 h0 h1 (fun o3 o4 o5 => by rw [r891]; exact late o3 o4 o5) (a.2.1 c).2.2.length 0 (pe_nl o3) o5 (by omega)
        rw [r891] at key
        exact key
      refine b171_243 (w0 := by rw [c3]; unfold pe_in; omega) (k1 := fun r1 => ?_) (k2 := fun r1 => ?_)
      · have he : (a.2.1 c).2.1 = [] := Classical.byContradiction fun q => by have := hwc.2.2.2.2.mpr q; omega
        rw [he]
        refine b171_259 (k := ?_)
        refine b171_260 (w0 := by unfold pe_in; omega) (w1 := by unfold pe_in; simp) (k1 := fun _ => ?_) (k2 := fun r => absurd rfl r)
        exact endd _ _ _
      · refine b171_252 (k := ?_)
        refine pe_M.up (k143 (d := 0) hK2 (hC2.2.2.2.2.1 (by omega)) ?_) (by omega)
        refine b171_256 (k := ?_)
        refine b171_260 (w0 := by unfold pe_in; omega) (w1 := by unfold pe_in; omega) (k1 := fun _ => ?_) (k2 := fun r => absurd rfl r)
        exact endd _ _ _
    rcases hz with ⟨hz, s3, s5⟩ | ⟨hz, s35⟩
    · have e8 := c8 s3 s5
      subst hz
      refine b171_217 (k1 := fun r => by omega) (k2 := fun _ => ?_)
      refine b171_221 (k := ?_)
      rw [e8]
      refine b171_230 (k1 := fun r => by omega) (k2 := fun _ => ?_)
      exact mid _ _ _
    · have e4 := w7 s35
      subst hz
      refine b171_217 (k1 := fun _ => ?_) (k2 := fun r => by omega)
      refine b171_228 (k := ?_)
      rw [e4]
      refine b171_230 (k1 := fun r => by omega) (k2 := fun _ => ?_)
      exact mid _ _ _
  refine b171_10 (k := ?_)
  refine b171_17 (w0 := by rw [b3]; unfold pe_in; omega) (k1 := fun r1 => ?_) (k2 := fun r1 => ?_)
  · refine b171_38 (k := ?_)
    exact main 0 _ _ (Or.inr ⟨rfl, by omega⟩)
  · refine b171_25 (w0 := by rw [b3]; unfold pe_in; omega) (k1 := fun r2 => ?_) (k2 := fun r2 => ?_)
    · refine b171_38 (k := ?_)
      exact main 0 _ _ (Or.inr ⟨rfl, by omega⟩)
    · refine b171_34 (k := ?_)
      exact main 1 _ _ (Or.inl ⟨rfl, by omega, by omega⟩)
end
