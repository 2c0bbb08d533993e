/-! THE MODEL: rounds -/
section
variable {d M q : Nat} {Φ : Option pe_V → pe_H → Prop} {σ : pe_H} {y y' : Nat → Int → Int} {c n : Int} {a : pa_M}
theorem pm_day (hM : pm_R y a) (hw8 : pa_wf8 a) : pm_R (pm_u (pm_u y 0 29 (y 0 29 + 1)) 0 30 0) (pa_day a) := by
  have h := hM.cnt
  refine pm_R_0 hM hw8 (fun k hk => ?_) ?_ ?_ ?_ ?_ rfl (pa_day4 a).1
  · funext j; simp [pm_u, hk]
  · rw [(pa_day4 a).1]; simp [pm_u, h.1]
  · rw [(pa_day4 a).2]; simp [pm_u, h.2.1]
  · simp [pm_u, pa_day, pa_s, h.2.2]
  · simp [pm_u]
/-- who could go -/
theorem c169_could {b : Int} (hF : pm_F M σ) (hwf : pa_wf a) (hM : pm_R y (pa_day a)) (k : ∀ o3, pe_X (d + 1) 169 (51, [some (.inr (.inr M)), some (.inl b), some (.inl (pa_bits (pa_isAble a) (a.1 4).toNat)), o3, none, none, none], [], pm_h M σ q y) Φ) : pe_X (d + 1) 169 (19, [some (.inr (.inr M)), some (.inl b), some (.inl 0), some (.inl 0), none, none, none], [], pm_h M σ q y) Φ := by
  have h8 := hwf.1.1
  have hcnt : y 0 3 = a.1 4 := hM.cnt.1.trans (pa_day4 a).1
  have loop : ∀ (m i : Nat), (i : Int) + m = a.1 4 → pe_X (d + 1) 169 (19, [some (.inr (.inr M)), some (.inl b), some (.inl (pa_bits (pa_isAble a) i)), some (.inl (i : Int)), none, none, none], [], pm_h M σ q y) Φ := by
    intro m
    induction m with
    | zero =>
      intro i hi
      refine b169_19 hF (k1 := fun _ => ?_) (k2 := fun r => by omega)
      have := k (some (.inl (i : Int)))
      rw [show (a.1 4).toNat = i by omega] at this
      exact this
    | succ m ih =>
      intro i hi
      have hb := pa_bits_b (pa_isAble a) i
      have hb5 := pa_bits_255 (pa_isAble a) (n := i) (by omega)
      have i2 : y 7 (i : Int) = (a.2.1 i).1 2 := (hM.nn (by omega : 0 ≤ (i : Int)) (by rw [(pa_day4 a).1]; omega)).1.1.2.1
      have hb2 := (hwf.1.2.2.1 i (by omega) (by omega)).1.2.1
      refine b169_19 hF (k1 := fun r => by omega) (k2 := fun _ => ?_)
      refine b169_27 hF (k := ?_)
      refine c140 hF (by omega) (by omega) (by omega) (fun r => ?_) (fun r => ?_)
      · refine b169_33 hF (k1 := fun r => by omega) (k2 := fun _ => ?_)
        refine b169_36 hF (k := ?_)
        refine b169_43 hF (k := ?_)
        rw [(pb_or (by omega) hb.1 hb.2).1]
        have := ih (i + 1) (by push_cast; omega)
        rw [pa_bits, show pa_isAble a (i : Int) = true from by unfold pa_isAble; simp; omega, if_pos rfl] at this
        exact this
      · refine b169_33 hF (k1 := fun _ => ?_) (k2 := fun r => absurd rfl r)
        refine b169_42 hF (k := ?_)
        refine b169_43 hF (k := ?_)
        rw [pb_or_z hb5.1 hb5.2]
        have := ih (i + 1) (by push_cast; omega)
        rw [pa_bits, show pa_isAble a (i : Int) = false from by unfold pa_isAble; simp; omega, if_neg (by simp), Int.add_zero] at this
        exact this
  exact loop (a.1 4).toNat 0 (by omega)
theorem pa_could_b (hwf : pa_wf a) : (0 ≤ pa_bits (pa_isAble a) (a.1 4).toNat ∧ pa_bits (pa_isAble a) (a.1 4).toNat ≤ 255) ∧ ∀ i : Nat, i < 8 → (pb_h (pa_bits (pa_isAble a) (a.1 4).toNat) i = true ↔ (i : Int) ∈ pa_line a) := by
  have h8 := hwf.1.1
  refine ⟨pa_bits_255 _ (by omega), fun i hi => ?_⟩
  rw [pb_h_bits _ _ (by omega) i hi, pa_line_mem h8.1]
  unfold pa_isAble
  simp
theorem pa_A_day : pa_A (fun i => (a.2.1 i).1 6) (pa_day a) = pa_day a := pa_A_id (a := pa_day a)
/-- roundOn -/
theorem c169f (hF : pm_F M σ) (hM : pm_R y a) (hwf : pa_wf a) (k : ∀ y2, pm_fr pm_Zs y y2 → y2 0 30 = pa_ry a 0 → pm_R y2 (pa_round a) → Φ none (pm_h M σ q y2)) : pe_M (d + 7) 169 [.inr (.inr M), .inl 0] (pm_h M σ q y) Φ := by
  have h8 := hwf.1.1
  have h5w := hwf.1.2.1
  have h29 := hM.cnt.2.2
  obtain ⟨hc0, hcb⟩ := pa_could_b hwf
  have g1 := pm_day hM hwf.1.w8
  have hfr : pm_fr pm_Zs y (pm_u (pm_u y 0 29 (y 0 29 + 1)) 0 30 0) := pm_fr_then (pm_fr_u (Or.inr ⟨rfl, by decide⟩)) (Or.inr ⟨rfl, by decide⟩)
  refine pe_M_of ck169 (Nat.le_of_ble_eq_true rfl) ?_
  refine b169_0 hF (k := ?_)
  refine c169_could (d := d + 5) hF hwf g1 (fun o3 => ?_)
  refine b169_51 hF (k := ?_)
  refine c169_go (a := a) (d := d) hF hwf hc0 hcb (pa_line a) [] _ 0 _ _ rfl (by simp; omega) (by decide) (fun i hi => by rw [pb_h_zero]; simp) (by rw [List.foldl_nil, pa_A_day]; exact g1) (by simp [pm_u]) (fun r l1 y2 gone o4 o5 o6 hL hl hend hg hgb f1 f2 f3 => ?_)
  obtain ⟨p1, p2⟩ := pa_line_go h8.1 l1.length
  have et : (pa_line a).take l1.length = l1 := by rw [hL]; simp
  rw [et] at p1 p2
  obtain ⟨w1, w2, w3, w4⟩ := pa_goes_wf _ _ (pa_day_wf hwf) p1 p2
  have hnd : (l1 ++ r).Nodup := by rw [← hL]; exact (pa_lineN_ok a _).1
  have ht : (pa_line a).take (a.1 5).toNat = l1 ∧ (pa_line a).drop (a.1 5).toNat = r := by
    rcases hend with h | h
    · rw [show (a.1 5).toNat = l1.length by omega, hL]
      simp
    · subst h
      rw [hL, List.append_nil]
      exact ⟨List.take_of_length_le (by omega), List.drop_of_length_le (by omega)⟩
  refine c169_old (d := d + 5) (a := a) (l1 := l1) (l2 := r) hF hwf w1 (by rw [w2, (pa_day4 a).1]) (fun z => by rw [hL, List.mem_append]) (fun z hz h => (List.nodup_append.mp hnd).2.2 z hz z h rfl) (fun i => by rw [pa_goes_age]; rfl) hc0 hg hcb hgb _ _ _ f2 (fun y3 u1 u2 => ?_)
  refine k y3 (pm_fr_trans (pm_fr_trans hfr f1) (pm_fr_mono u1 pm_Zt_Zs)) ?_ ?_
  · rw [u1 0 30 (by unfold pm_Zt; omega), f3]
    unfold pa_ry
    rw [ht.1]
  · unfold pa_round
    rw [ht.1, ht.2]
    exact u2
/-- roundOn, lost -/
theorem c169t (hF : pm_F M σ) (hM : pm_R y a) (hwf : pa_wf a) (k : ∀ y2, pm_fr pm_Zs y y2 → y2 0 30 = 0 → pm_R y2 (pa_lose a) → Φ none (pm_h M σ q y2)) : pe_M (d + 7) 169 [.inr (.inr M), .inl 1] (pm_h M σ q y) Φ := by
  have h8 := hwf.1.1
  have h5w := hwf.1.2.1
  have h29 := hM.cnt.2.2
  obtain ⟨hc0, hcb⟩ := pa_could_b hwf
  have g1 := pm_day hM hwf.1.w8
  have hfr : pm_fr pm_Zs y (pm_u (pm_u y 0 29 (y 0 29 + 1)) 0 30 0) := pm_fr_then (pm_fr_u (Or.inr ⟨rfl, by decide⟩)) (Or.inr ⟨rfl, by decide⟩)
  have hwid := g1.cnt.2.1
  rw [(pa_day4 a).2] at hwid
  refine pe_M_of ck169 (Nat.le_of_ble_eq_true rfl) ?_
  refine b169_0 hF (k := ?_)
  refine c169_could (d := d + 5) hF hwf g1 (fun o3 => ?_)
  refine b169_51 hF (k := ?_)
  refine b169_56 hF (k1 := fun r => by omega) (k2 := fun _ => ?_)
  refine b169_65 hF (k1 := fun _ => ?_) (k2 := fun r => by omega)
  refine c169_old (d := d + 5) (a := a) (l1 := []) (l2 := pa_line a) (s := pa_day a) hF hwf (pa_day_wf hwf) (pa_day4 a).1 (fun z => by simp) (fun z hz h => by cases hz) (fun i => by simp; rfl) hc0 (by decide) hcb (fun i hi => by rw [pb_h_zero]; simp) _ _ _ (by rw [pa_A_day]; exact g1) (fun y3 u1 u2 => ?_)
  refine k y3 (pm_fr_trans hfr (pm_fr_mono u1 pm_Zt_Zs)) ?_ u2
  rw [u1 0 30 (by unfold pm_Zt; omega)]
  simp [pm_u]
theorem pa_round4 (h : pa_wf a) : (pa_round a).1 4 = a.1 4 ∧ (pa_round a).1 5 = a.1 5 := by
  rw [(pa_round_wf h).2.1]
  exact pa_day4 a
/-- goRounds -/
theorem c170 (hF : pm_F M σ) (hM : pm_R y a) (hwf : pa_wf a) (hn0 : 0 ≤ n) (hn : n ≤ 1000) (h6 : 0 ≤ a.1 6 ∧ a.1 6 ≤ 1000000000) (k : ∀ y2, pm_fr pm_Zs y y2 → pm_R y2 (pa_rounds n.toNat a) → pa_wf (pa_rounds n.toNat a) → Φ none (pm_h M σ q y2)) : pe_M (d + 8) 170 [.inr (.inr M), .inl n] (pm_h M σ q y) Φ := by
  have loop : ∀ (m : Nat) (i : Int) (y1 : Nat → Int → Int) (s : pa_M), i + m = n → 0 ≤ i → pm_fr pm_Zs y y1 → pm_R y1 s → pa_wf s → pa_rounds m s = pa_rounds n.toNat a → pe_X (d + 7) 170 (2, [some (.inr (.inr M)), some (.inl n), some (.inl i)], [], pm_h M σ q y1) Φ := by
    intro m
    induction m with
    | zero =>
      intro i y1 s hi hi0 g1 g2 g3 g4
      refine b170_2 hF (k1 := fun _ => ?_) (k2 := fun r => by omega)
      refine b170_18 hF (k := ?_)
      have g4 : s = pa_rounds n.toNat a := g4
      exact k y1 g1 (by rw [← g4]; exact g2) (by rw [← g4]; exact g3)
    | succ m ih =>
      intro i y1 s hi hi0 g1 g2 g3 g4
      refine b170_2 hF (k1 := fun r => by omega) (k2 := fun _ => ?_)
      refine b170_7 hF (k := ?_)
      refine c169f hF g2 g3 (fun y2 e1 e2 e3 => ?_)
      refine b170_12 hF (k := ?_)
      exact ih (i + 1) y2 _ (by omega) (by omega) (pm_fr_trans g1 e1) e3 (pa_round_wf g3).1 g4
  refine pe_M_of ck170 (Nat.le_of_ble_eq_true rfl) ?_
  refine b170_0 hF (k := ?_)
  exact loop n.toNat 0 y a (by omega) (by omega) (pm_fr_refl _ _) hM hwf rfl
end
