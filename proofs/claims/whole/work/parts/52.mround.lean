/-! THE MODEL: a round -/
theorem pb_or_0a : ∀ x : Fin 256, pe_or (x.val : Int) 0 = x.val := by decide +kernel
theorem pb_or_z {x : Int} (h0 : 0 ≤ x) (h1 : x ≤ 255) : pe_or x 0 = x := by
  obtain ⟨u, rfl⟩ := pb_fin h0 h1
  exact pb_or_0a u
theorem pa_take_a6 {v w : Int} {c : pa_C} : pa_take (pa_a6 v c) w = pa_a6 v (pa_take c w) := by
  unfold pa_take
  rw [pa_a6_n 2 (by decide), pa_a6_n 20 (by decide), pa_a6_n 21 (by decide), pa_a6_n 3 (by decide)]
  unfold pa_a6
  dsimp only
  split
  · rw [pa_sc (j := 2) (k := 6) (by decide), pa_sc (j := 3) (k := 6) (by decide)]
  · rw [pa_sc (j := 2) (k := 6) (by decide)]
theorem pa_young_a6 {c : pa_C} : pa_young c = pa_a6 0 c := rfl
theorem pa_goes_age : ∀ (l : List Int) (s : pa_M) (c : Int), ((l.foldl pa_go s).2.1 c).1 6 = if c ∈ l then 0 else (s.2.1 c).1 6
  | [], s, c => by simp
  | x :: l, s, c => by
    rw [List.foldl_cons, pa_goes_age l _ c]
    have e : ((pa_go s x).2.1 c).1 6 = if c = x then 0 else (s.2.1 c).1 6 := by
      unfold pa_go
      rw [pa_step_age]
      by_cases h : c = x
      · rw [if_pos h, h, pa_cw_same, pa_young_a6, pa_take_a6]
        simp [pa_a6, pa_s]
      · rw [if_neg h, pa_cw_ne h]
    rw [e]
    by_cases h1 : c ∈ l
    · rw [if_pos h1, if_pos (List.mem_cons_of_mem _ h1)]
    · rw [if_neg h1]
      by_cases h2 : c = x
      · rw [if_pos h2, if_pos (by rw [h2]; exact List.mem_cons_self)]
      · rw [if_neg h2, if_neg (fun h => by rcases List.mem_cons.mp h with h | h; exact h2 h; exact h1 h)]
theorem pa_a6_wf {v : Int} {c : pa_C} (h : pa_wfc c) (hv : 0 ≤ v ∧ v ≤ 999) : pa_wfc (pa_a6 v c) := by
  obtain ⟨⟨a0, a2, a3, a4, a5, a6, a20, a21, a7⟩, b, d, e, g⟩ := h
  refine ⟨⟨?_, ?_, ?_, ?_, ?_, ?_, ?_, ?_, ?_⟩, b, d, ?_, ?_⟩ <;> simp [pa_a6, pa_s] <;> first | assumption | omega
theorem pa_A_wf {a : pa_M} {e : Int → Int} (h : pa_wf a) (he : ∀ c, 0 ≤ c → c < a.1 4 → 0 ≤ e c ∧ e c ≤ 999) : pa_wf (pa_A e a) := by
  have e2 : ∀ i, ((pa_A e a).2.1 i).1 2 = (a.2.1 i).1 2 ∧ ((pa_A e a).2.1 i).1 7 = (a.2.1 i).1 7 := fun i => by
    rw [pa_A_co, pa_a6_n 2 (by decide), pa_a6_n 7 (by decide)]
    exact ⟨rfl, rfl⟩
  obtain ⟨⟨b1, b2, b3, b4⟩, b5, b6, b7⟩ := h
  refine ⟨⟨b1, b2, fun c h0 h1 => pa_a6_wf (b3 c h0 h1) (he c h0 h1), b4⟩, fun w hw ch h0 h3 => ?_, fun c h0 h1 => ?_, fun c h0 h1 h5 => ?_⟩
  · obtain ⟨q1, q2⟩ := b5 w hw ch h0 h3
    refine ⟨q1, fun c => ?_⟩
    rw [(e2 c).1, (e2 c).2]
    exact q2 c
  · rw [(e2 c).1, (e2 c).2]; exact b6 c h0 h1
  · rw [(e2 c).1] at h5
    rw [(e2 c).2, (e2 _).1]; exact b7 c h0 h1 h5
theorem pa_line_bef (a : pa_M) : (pa_line a).Pairwise (pa_bef (pa_rk a)) := pa_lineN_bef a _
section
variable {d M q : Nat} {Φ : Option pe_V → pe_H → Prop} {σ : pe_H} {y y' : Nat → Int → Int} {c n : Int} {a : pa_M}
theorem pm_R_0 {a' : pa_M} (hM : pm_R y a) (hw8 : pa_wf8 a) (e : ∀ k, k ≠ 0 → y' k = y k) (e3 : y' 0 3 = a'.1 4) (e28 : y' 0 28 = a'.1 5) (e29 : y' 0 29 = a'.1 6) (e23 : y' 0 23 = y 0 23) (h2 : a'.2 = a.2) (h4 : a'.1 4 = a.1 4) : pm_R y' a' := by
  obtain ⟨w, n, ⟨a1, a2, a3, a4, a5⟩, hn⟩ := hM
  obtain ⟨x1, x2⟩ := a'
  dsimp only at h2 h4 e3 e28 e29
  subst h2
  refine ⟨w, n, ⟨⟨e3, e28, e29, e23.trans a1.2.2.2.1, pm_gh_keep a1.2.2.2.2 (fun j => by rw [e 23 (by decide)]) (fun g hg j => by rw [e g (by omega)]) (Int.le_refl _)⟩, ?_, fun i i0 i1 => ?_, ?_, ?_⟩, ?_⟩
  · rw [e 23 (by decide), e 24 (by decide)]; exact a2
  · have i1 : i < a.1 4 := by rw [← h4]; exact i1
    exact pm_RCo_keep (fun k j hk => by rw [e k (by unfold pm_own at hk; omega)]) (Int.le_refl _) (fun _ _ => rfl) (hw8.2 i i0 i1).1 (hw8.2 i i0 i1).2 (a3 i i0 i1)
  · rw [e 1 (by decide), e 2 (by decide), e 3 (by decide)]; exact a4
  · rw [e 25 (by decide), e 26 (by decide)]; exact a5
  · show n + pa_pots (x1, a.2) (x1 4).toNat ≤ 64 * x1 4
    rw [h4]
    exact hn
theorem pm_R_take {s2 v : Int} (hM : pm_R y a) (hw8 : pa_wf8 a) (h0 : 0 ≤ c) (h1 : c < a.1 4) (hs : pa_take (a.2.1 c) v = (pa_s (pa_s (a.2.1 c).1 3 s2) 2 1, (a.2.1 c).2)) : pm_R (pm_u (pm_u y 8 c s2) 7 c 1) (pa_cw a c (pa_take (a.2.1 c) v)) := by
  obtain ⟨⟨a0, a2, a3, a4, a5, a6, a7, a8⟩, bb⟩ := (hM.nn h0 h1).1
  rw [hs]
  refine pm_R_nu hM hw8 h0 h1 (pm_fr_then (pm_fr_u ⟨by decide, by decide, rfl⟩) ⟨by decide, by decide, rfl⟩) ?_
  refine ⟨⟨?_, ?_, ?_, ?_, ?_, ?_, ?_, ?_⟩, fun q1 q2 => by simp [pa_s] at q1⟩
  · simpa [pm_u, pa_s] using a0
  · simp [pm_u, pa_s]
  · simp [pm_u, pa_s]
  · simpa [pm_u, pa_s] using a4
  · simpa [pm_u, pa_s] using a5
  · simpa [pm_u, pa_s] using a6
  · simpa [pm_u, pa_s] using a7
  · simpa [pm_u, pa_s] using a8
theorem pa_take_no {c : pa_C} {v : Int} (h : c.1 2 ≠ 2) : pa_take c v = (pa_s (pa_s c.1 3 (c.1 3)) 2 1, c.2) := by
  unfold pa_take
  rw [if_neg h]
  congr 2
  funext i
  unfold pa_s
  by_cases e : i = 3
  · simp [e]
  · simp [e]
/-- the ages at a round's end -/
theorem c169_old {could gone : Int} {l1 l2 : List Int} {s : pa_M} {b : Int} (hF : pm_F M σ) (hwf : pa_wf a) (hs : pa_wf s) (hs4 : s.1 4 = a.1 4) (hL : ∀ z, z ∈ pa_line a ↔ z ∈ l1 ∨ z ∈ l2) (hdis : ∀ z, z ∈ l1 → z ∉ l2) (hage : ∀ i, (s.2.1 i).1 6 = if i ∈ l1 then 0 else (a.2.1 i).1 6) (hc0 : 0 ≤ could ∧ could ≤ 255) (hg0 : 0 ≤ gone ∧ gone ≤ 255) (hcb : ∀ i : Nat, i < 8 → (pb_h could i = true ↔ (i : Int) ∈ pa_line a)) (hgb : ∀ i : Nat, i < 8 → (pb_h gone i = true ↔ (i : Int) ∈ l1)) (o4 o5 o6 : Option pe_V) (hM : pm_R y (pa_A (fun i => (a.2.1 i).1 6) s)) (k : ∀ y2, pm_fr pm_Zt y y2 → pm_R y2 (pa_olds s l2) → Φ none (pm_h M σ q y2)) : pe_X (d + 1) 169 (199, [some (.inr (.inr M)), some (.inl b), some (.inl could), some (.inl gone), o4, o5, o6], [], pm_h M σ q y) Φ := by
  have h8 := hwf.1.1
  have hmem := fun z => pa_line_mem h8.1 z
  have hin2 : ∀ z, z ∈ l2 → z ∈ pa_line a := fun z hz => (hL z).mpr (Or.inr hz)
  have ageb : ∀ i, 0 ≤ i → i < a.1 4 → 0 ≤ (a.2.1 i).1 6 ∧ (a.2.1 i).1 6 ≤ 999 := fun i i0 i1 => (hwf.1.2.2.1 i i0 i1).1.2.2.2.2.2.1
  -- the age at the end
  have hf : ∃ f : Int → Int, (∀ i, f i = if i ∈ l1 then 0 else if i ∈ l2 then (if (a.2.1 i).1 6 < 999 then (a.2.1 i).1 6 + 1 else (a.2.1 i).1 6) else (a.2.1 i).1 6) := ⟨_, fun _ => rfl⟩
  obtain ⟨f, hf⟩ := hf
  have hfin : pa_olds s l2 = pa_A f s := by
    unfold pa_olds
    refine Prod.ext rfl (Prod.ext ?_ rfl)
    funext i
    show (if i ∈ l2 then pa_old (s.2.1 i) else s.2.1 i) = pa_a6 (f i) (s.2.1 i)
    have hi := hage i
    by_cases e : i ∈ l2
    · have e1 : i ∉ l1 := fun h => hdis i h e
      rw [if_neg e1] at hi
      rw [if_pos e, hf i, if_neg e1, if_pos e]
      unfold pa_old pa_a6
      rw [hi]
    · rw [if_neg e, pa_a6_id]
      rw [hf i, hi, if_neg e]
  have loop : ∀ (m i : Nat) (y1 : Nat → Int → Int), (i : Int) + m = a.1 4 → pm_fr pm_Zt y y1 → pm_R y1 (pa_A (fun j => if j < i then f j else (a.2.1 j).1 6) s) → pe_X (d + 1) 169 (202, [some (.inr (.inr M)), some (.inl b), some (.inl could), some (.inl gone), some (.inl (i : Int)), o5, o6], [], pm_h M σ q y1) Φ := by
    intro m
    induction m with
    | zero =>
      intro i y1 hi g1 g2
      have hc : y1 0 3 = a.1 4 := g2.cnt.1.trans hs4
      refine b169_202 hF (k1 := fun _ => ?_) (k2 := fun r => by omega)
      refine b169_261 hF (k := ?_)
      refine k y1 g1 ?_
      rw [hfin]
      have : (fun j => if j < (i : Int) then f j else (a.2.1 j).1 6) = f := by
        funext j
        by_cases e : j < (i : Int)
        · rw [if_pos e]
        · have hn : j ∉ pa_line a := fun h => by have := (hmem j).mp h; omega
          rw [if_neg e, hf j, if_neg (fun h => hn ((hL j).mpr (Or.inl h))), if_neg (fun h => hn (hin2 j h))]
      rw [this] at g2
      exact g2
    | succ m ih =>
      intro i y1 hi g1 g2
      have hc : y1 0 3 = a.1 4 := g2.cnt.1.trans hs4
      have hi4 : (i : Int) < a.1 4 := by omega
      have hstep : ∀ v y2, pm_fr pm_Zt y y2 → v = f i → pm_R y2 (pa_A (fun j => if j = (i : Int) then v else if j < i then f j else (a.2.1 j).1 6) s) → pe_X (d + 1) 169 (255, [some (.inr (.inr M)), some (.inl b), some (.inl could), some (.inl gone), some (.inl (i : Int)), o5, o6], [], pm_h M σ q y2) Φ := fun v y2 f1 f2 f3 => by
        refine b169_255 hF (k := ?_)
        have := ih (i + 1) y2 (by push_cast; omega) f1 (by
          have : (fun j => if j = (i : Int) then v else if j < i then f j else (a.2.1 j).1 6) = (fun j => if j < ((i + 1 : Nat) : Int) then f j else (a.2.1 j).1 6) := by
            funext j
            by_cases e : j = (i : Int)
            · rw [if_pos e, if_pos (by omega), f2, e]
            · rw [if_neg e]
              by_cases e2 : j < (i : Int)
              · rw [if_pos e2, if_pos (by omega)]
              · rw [if_neg e2, if_neg (by omega)]
          rw [← this]
          exact f3)
        exact this
      have h1i : (i : Int) < (pa_A (fun j => if j < (i : Int) then f j else (a.2.1 j).1 6) s).1 4 := by show (i : Int) < s.1 4; omega
      have hw8 : pa_wf8 (pa_A (fun j => if j < (i : Int) then f j else (a.2.1 j).1 6) s) := ⟨hs.1.1, fun c h0 h1 => ⟨(hs.1.2.2.1 c h0 h1).2.1, (hs.1.2.2.1 c h0 h1).2.2.1⟩⟩
      have e11 : y1 11 (i : Int) = (a.2.1 i).1 6 := by
        rw [(g2.nn (by omega) h1i).1.1.2.2.2.2.2.1, pa_A_co]
        simp [pa_a6, pa_s]
      have hab := ageb i (by omega) hi4
      have hset : ∀ v, v = f i → pe_X (d + 1) 169 (254, [some (.inr (.inr M)), some (.inl b), some (.inl could), some (.inl gone), some (.inl (i : Int)), o5, o6], [.inl v, .inl (i : Int), .inr (.inr (M + 11))], pm_h M σ q y1) Φ := fun v hv => by
        refine b169_254 hF (k := ?_)
        refine hstep v _ (pm_fr_then g1 (Or.inl ⟨by decide, by decide⟩)) hv ?_
        have g3 := pm_R_set (k := 11) (j := 6) (v := v) (c := (i : Int)) (by decide) g2 hw8 (by omega) h1i
        have : pa_cw (pa_A (fun j => if j < (i : Int) then f j else (a.2.1 j).1 6) s) i (pa_s ((pa_A (fun j => if j < (i : Int) then f j else (a.2.1 j).1 6) s).2.1 i).1 6 v, ((pa_A (fun j => if j < (i : Int) then f j else (a.2.1 j).1 6) s).2.1 i).2) = pa_A (fun j => if j = (i : Int) then v else if j < i then f j else (a.2.1 j).1 6) s := by
          refine Prod.ext rfl (Prod.ext ?_ rfl)
          funext j
          show (if j = (i : Int) then _ else pa_a6 _ (s.2.1 j)) = pa_a6 (if j = (i : Int) then v else _) (s.2.1 j)
          by_cases e : j = (i : Int)
          · rw [if_pos e, if_pos e, e]
            exact pa_a6_a6
          · rw [if_neg e, if_neg e]
        rw [← this]
        exact g3
      refine b169_202 hF (k1 := fun r => by omega) (k2 := fun _ => ?_)
      refine b169_211 hF (k := ?_)
      refine c135 hF hc0.1 hc0.2 (by omega) (by omega) (fun rb => ?_) (fun rb => ?_)
      · have hmi : (i : Int) ∈ pa_line a := (hcb i (by omega)).mp (by simpa using rb)
        refine b169_217 hF (k1 := fun r => by omega) (k2 := fun _ => ?_)
        refine b169_220 hF (k := ?_)
        refine c135 hF hg0.1 hg0.2 (by omega) (by omega) (fun rg => ?_) (fun rg => ?_)
        · have hm1 : (i : Int) ∈ l1 := (hgb i (by omega)).mp (by simpa using rg)
          refine b169_232 hF (k1 := fun r => by omega) (k2 := fun _ => ?_)
          refine b169_235 hF (k := ?_)
          exact hset 0 (by rw [hf, if_pos hm1])
        · have hm1 : (i : Int) ∉ l1 := fun h => by
            have := (hgb i (by omega)).mpr h
            have rg : pb_h gone i = false := by simpa using rg
            rw [rg] at this; cases this
          have hm2 : (i : Int) ∈ l2 := by
            rcases (hL i).mp hmi with h | h
            · exact absurd h hm1
            · exact h
          refine b169_232 hF (k1 := fun _ => ?_) (k2 := fun r => absurd rfl r)
          refine b169_239 hF (k := ?_)
          refine c137 hF (by omega) (by omega) ?_
          rw [if_pos (by omega)]
          refine hset _ ?_
          rw [hf, if_neg hm1, if_pos hm2, e11]
          by_cases e : (a.2.1 i).1 6 < 999
          · rw [if_pos e, if_pos (by omega)]
          · rw [if_neg e, if_neg (by omega)]; omega
      · have hmi : (i : Int) ∉ pa_line a := fun h => by
          have := (hcb i (by omega)).mpr h
          have rb : pb_h could i = false := by simpa using rb
          rw [rb] at this; cases this
        refine b169_217 hF (k1 := fun _ => ?_) (k2 := fun r => absurd rfl r)
        refine hstep ((a.2.1 i).1 6) y1 g1 ?_ ?_
        · rw [hf, if_neg (fun h => hmi ((hL i).mpr (Or.inl h))), if_neg (fun h => hmi (hin2 i h))]
        · have : (fun j => if j = (i : Int) then (a.2.1 i).1 6 else if j < i then f j else (a.2.1 j).1 6) = (fun j => if j < (i : Int) then f j else (a.2.1 j).1 6) := by
            funext j
            by_cases e : j = (i : Int)
            · rw [if_pos e, if_neg (by omega), e]
            · rw [if_neg e]
          rw [this]
          exact g2
  refine b169_199 hF (k := ?_)
  refine loop (a.1 4).toNat 0 y (by omega) (pm_fr_refl _ _) ?_
  have : (fun j => if j < ((0 : Nat) : Int) then f j else (a.2.1 j).1 6) = (fun i => (a.2.1 i).1 6) := by
    funext j
    by_cases e : j < ((0 : Nat) : Int)
    · have hn : j ∉ pa_line a := fun h => by have := (hmem j).mp h; omega
      rw [if_pos e, hf j, if_neg (fun h => hn ((hL j).mpr (Or.inl h))), if_neg (fun h => hn (hin2 j h))]
    · rw [if_neg e]
  rw [this]
  exact hM
end
