/-! THE MODEL: hasJoined, settle -/
theorem pm_RCn_set {y : Nat → Int → Int} {c : Int} {nu : Nat → Int} {k j : Nat} {v : Int} (hk : (k = 4 ∧ j = 0) ∨ (k = 8 ∧ j = 3) ∨ (k = 9 ∧ j = 4) ∨ (k = 10 ∧ j = 5) ∨ (k = 11 ∧ j = 6)) (h : pm_RCn y c nu) : pm_RCn (pm_u y k c v) c (pa_s nu j v) := by
  obtain ⟨⟨a0, a2, a3, a4, a5, a6, a7, a8⟩, b⟩ := h
  have hb : pa_s nu j v 2 = nu 2 ∧ pa_s nu j v 7 = nu 7 ∧ (pm_u y k c v) 12 c = y 12 c := by
    rcases hk with ⟨rfl, rfl⟩ | ⟨rfl, rfl⟩ | ⟨rfl, rfl⟩ | ⟨rfl, rfl⟩ | ⟨rfl, rfl⟩ <;> simp [pm_u, pa_s]
  refine ⟨⟨?_, ?_, ?_, ?_, ?_, ?_, ?_, ?_⟩, fun q1 q2 => ?_⟩
  all_goals first
    | (rcases hk with ⟨rfl, rfl⟩ | ⟨rfl, rfl⟩ | ⟨rfl, rfl⟩ | ⟨rfl, rfl⟩ | ⟨rfl, rfl⟩ <;> simp [pm_u, pa_s] <;> assumption)
    | skip
  rw [hb.2.1, hb.2.2]
  rw [hb.1] at q1 q2
  exact b q1 q2
/-- a state that isn't a waiting one is set -/
theorem pm_RCn_st {y : Nat → Int → Int} {c : Int} {nu nu' : Nat → Int} {v : Int} (hv : v < 3 ∨ 5 < v) (h : pm_RCn y c nu) (hn : ∀ i, i ≠ 2 → i ≠ 7 → nu' i = nu i) (h2 : nu' 2 = v) : pm_RCn (pm_u y 7 c v) c nu' := by
  obtain ⟨⟨a0, a2, a3, a4, a5, a6, a7, a8⟩, b⟩ := h
  refine ⟨⟨?_, ?_, ?_, ?_, ?_, ?_, ?_, ?_⟩, fun q1 q2 => by omega⟩
  · rw [hn 0 (by decide) (by decide)]; simpa [pm_u] using a0
  · rw [h2]; simp [pm_u]
  · rw [hn 3 (by decide) (by decide)]; simpa [pm_u] using a3
  · rw [hn 4 (by decide) (by decide)]; simpa [pm_u] using a4
  · rw [hn 5 (by decide) (by decide)]; simpa [pm_u] using a5
  · rw [hn 6 (by decide) (by decide)]; simpa [pm_u] using a6
  · rw [hn 20 (by decide) (by decide)]; simpa [pm_u] using a7
  · rw [hn 21 (by decide) (by decide)]; simpa [pm_u] using a8
section
variable {d M q : Nat} {Φ : Option pe_V → pe_H → Prop} {σ : pe_H} {y y' : Nat → Int → Int} {c : Int} {a : pa_M}
theorem pm_R_set {k j : Nat} {v : Int} (hk : (k = 4 ∧ j = 0) ∨ (k = 8 ∧ j = 3) ∨ (k = 9 ∧ j = 4) ∨ (k = 10 ∧ j = 5) ∨ (k = 11 ∧ j = 6)) (hM : pm_R y a) (hw8 : pa_wf8 a) (h0 : 0 ≤ c) (h1 : c < a.1 4) : pm_R (pm_u y k c v) (pa_cw a c (pa_s (a.2.1 c).1 j v, (a.2.1 c).2)) := pm_R_nu hM hw8 h0 h1 (pm_fr_u ⟨by omega, by omega, rfl⟩) (pm_RCn_set hk (hM.nn h0 h1).1)
theorem pm_R_on (hM : pm_R y a) (hw8 : pa_wf8 a) (h0 : 0 ≤ c) (h1 : c < a.1 4) : pm_R (pm_u y 7 c 1) (pa_cw a c (pa_on (a.2.1 c))) := pm_R_nu hM hw8 h0 h1 (pm_fr_u ⟨by decide, by decide, rfl⟩) (pm_RCn_st (by decide) (hM.nn h0 h1).1 (fun i h1 h2 => by simp [pa_s, h1, h2]) (by simp [pa_s]))
/-- hasJoined -/
theorem c157 {o : Int} (hF : pm_F M σ) (hM : pm_R y a) (hwf : pa_wf0 a) (h0 : 0 ≤ c) (h1 : c < a.1 4) (h3 : (a.2.1 c).1 2 < 3) (ho0 : 0 ≤ o) (ho1 : o < a.1 4) (h6 : 6 ≤ (a.2.1 o).1 2) (k : ∀ y2, pm_fr pm_Zt y y2 → pm_R y2 (pa_cw a c (pa_have (a.2.1 c) (a.2.1 o))) → Φ none (pm_h M σ q y2)) : pe_M (d + 3) 157 [.inr (.inr M), .inl c, .inl o] (pm_h M σ q y) Φ := by
  have h8 := hwf.1
  have hwo := hwf.2.2.1 o ho0 ho1
  have hn2 := hwo.1.2.1
  have e2 : y 7 o = (a.2.1 o).1 2 := (hM.nn ho0 ho1).1.1.2.1
  have e3 : y 8 o = (a.2.1 o).1 3 := (hM.nn ho0 ho1).1.1.2.2.1
  refine pe_M_of ck157 (Nat.le_of_ble_eq_true rfl) ?_
  refine b157_0 hF (k1 := fun q1 => ?_) (k2 := fun q1 => ?_)
  · refine b157_26 hF (k1 := fun q2 => ?_) (k2 := fun q2 => ?_)
    · refine b157_57 hF (k := ?_)
      refine cTN hF hM hwf h0 h1 h3 (Or.inl ⟨rfl, rfl⟩) (fun n y1 g => ?_)
      refine b157_65 hF (k := ?_)
      refine g _ _ (fun y2 e1 e3' => ?_)
      refine b157_68 hF (k := ?_)
      refine k y2 e1 ?_
      unfold pa_have
      rw [if_neg (by omega), if_neg (by omega)]
      exact e3'
    · refine b157_37 hF (k := ?_)
      refine cTN hF hM hwf h0 h1 h3 (Or.inr ⟨o, ho0, ho1, rfl, rfl, hwo.2.2.2.2.mp (by omega)⟩) (fun n y1 g => ?_)
      refine b157_51 hF (k := ?_)
      refine g _ _ (fun y2 e1 e3' => ?_)
      refine b157_54 hF (k := ?_)
      refine b157_68 hF (k := ?_)
      refine k y2 e1 ?_
      unfold pa_have
      rw [if_neg (by omega), if_pos (by omega)]
      exact e3'
  · refine b157_11 hF (k := ?_)
    refine b157_68 hF (k := ?_)
    refine k _ (pm_fr_u (Or.inl ⟨by decide, by decide⟩)) ?_
    unfold pa_have
    rw [if_pos (by omega), ← e3]
    exact pm_R_set (by decide) hM hwf.w8 h0 h1
theorem c159_loop {y0 : Nat → Int → Int} (hF : pm_F M σ) (hwf : pa_wf3 a) (hk : ∀ y2, pm_fr pm_Zt y0 y2 → pm_R y2 (pa_settle a) → Φ none (pm_h M σ q y2)) : ∀ (N : Nat) (y : Nat → Int → Int) (s : pa_M) (o1 o2 : Option pe_V), pm_fr pm_Zt y0 y → pm_R y s → pa_mid a s → pa_J s ≤ N → pe_X (d + 3) 159 (6, [some (.inr (.inr M)), o1, o2], [], pm_h M σ q y) Φ := by
  intro N
  refine Nat.strongRecOn N (fun N ihN => ?_)
  intro y s o1 o2 g1 g3 g4 gJ
  have hs8 := hwf.1.1
  have e14 : s.1 4 = a.1 4 := by rw [g4.1]
  have loop : ∀ (r : Nat) (i x1 : Int) (y1 : Nat → Int → Int) (s1 : pa_M), i + r = a.1 4 → 0 ≤ i → pm_fr pm_Zt y0 y1 → pm_R y1 s1 → pa_mid a s1 → ((x1 = 0 ∧ pa_J s1 ≤ N ∧ ∀ c, 0 ≤ c → c < i → (s1.2.1 c).1 2 = 5 → (s1.2.1 ((s1.2.1 c).1 7)).1 2 < 6) ∨ (x1 = 1 ∧ pa_J s1 + 1 ≤ N)) → pe_X (d + 3) 159 (10, [some (.inr (.inr M)), some (.inl x1), some (.inl i)], [], pm_h M σ q y1) Φ := by
    intro r
    induction r with
    | zero =>
      intro i x1 y1 s1 hi hi0 k1 k2 k3 k4
      have hc := k2.cnt.1
      rw [k3.1] at hc
      refine b159_10 hF (k1 := fun _ => ?_) (k2 := fun r => by omega)
      refine b159_67 hF (k := ?_)
      rcases k4 with ⟨rfl, -, k5⟩ | ⟨rfl, k5⟩
      · refine b159_2 hF (k1 := fun _ => ?_) (k2 := fun r => absurd rfl r)
        refine b159_70 hF (k := ?_)
        refine hk y1 k1 ?_
        rw [← pa_mid_max k3 (fun c c0 c1 c5 => k5 c c0 (by rw [k3.1] at c1; omega) c5)]
        exact k2
      · refine b159_2 hF (k1 := fun r => by omega) (k2 := fun _ => ?_)
        have hJ0 : 0 ≤ pa_J s1 := (pa_cnt_b (fun c => decide ((s1.2.1 c).1 2 = 5)) (s1.1 4).toNat).1
        exact ihN (N - 1) (by omega) y1 s1 _ _ k1 k2 k3 (by omega)
    | succ r ih =>
      intro i x1 y1 s1 hi hi0 k1 k2 k3 k4
      have hw1 := pa_mid_wf hwf k3
      have hc := k2.cnt.1
      rw [k3.1] at hc
      have hi1 : i < s1.1 4 := by rw [k3.1]; omega
      have hN := (k2.nn hi0 hi1).1
      have i2 := hN.1.2.1
      have hwi := hw1.1.2.2.1 i hi0 hi1
      have hb2 := hwi.1.2.1
      have hnext : ((s1.2.1 i).1 2 = 5 → (s1.2.1 ((s1.2.1 i).1 7)).1 2 < 6) → pe_X (d + 3) 159 (61, [some (.inr (.inr M)), some (.inl x1), some (.inl i)], [], pm_h M σ q y1) Φ := fun hno => by
        refine b159_61 hF (k := ?_)
        refine ih (i + 1) x1 y1 s1 (by omega) (by omega) k1 k2 k3 ?_
        rcases k4 with ⟨e1, e2, e3⟩ | e
        · refine Or.inl ⟨e1, e2, fun c c0 c1 c5 => ?_⟩
          by_cases e : c = i
          · subst e; exact hno c5
          · exact e3 c c0 (by omega) c5
        · exact Or.inr e
      refine b159_10 hF (k1 := fun r => by omega) (k2 := fun _ => ?_)
      refine b159_18 hF (k1 := fun r5 => ?_) (k2 := fun r5 => ?_)
      · exact hnext (fun r => by omega)
      · have h5 : (s1.2.1 i).1 2 = 5 := by omega
        have ht := (hw1.2.2 i hi0 hi1).2 h5
        have h12 : y1 12 i = (s1.2.1 i).1 7 := hN.2 (by omega) (by omega)
        have hwo := hw1.1.2.2.1 _ ht.1 ht.2
        have ho2 : y1 7 ((s1.2.1 i).1 7) = (s1.2.1 ((s1.2.1 i).1 7)).1 2 := (k2.nn ht.1 ht.2).1.1.2.1
        have hob := hwo.1.2.1
        have e1 : s1.1 4 = a.1 4 := by rw [k3.1]
        refine b159_28 hF (k := ?_)
        rw [h12]
        generalize hgo : (s1.2.1 i).1 7 = o at *
        refine c139 hF (by omega) (by omega) (by omega) (fun r6 => ?_) (fun r6 => ?_)
        · refine b159_38 hF (k1 := fun r => by omega) (k2 := fun _ => ?_)
          have ht6 : 6 ≤ (s1.2.1 o).1 2 := by omega
          have hoi : o ≠ i := fun e => by subst e; omega
          have k3' := pa_mid_tell k3 hi0 (by rw [k3.1] at hi1; exact hi1) h5 (by rw [hgo]; exact ht6)
          rw [hgo] at k3'
          refine b159_41 hF (k := ?_)
          rw [h12]
          have e3 := pm_R_on k2 hw1.1.w8 hi0 hi1
          have hw2 : pa_wf0 (pa_cw s1 i (pa_on (s1.2.1 i))) := pa_wf0_cw hw1.1 (pa_on_wf hwi (by omega))
          refine pe_M.up (c157 (d := 0) hF e3 hw2 hi0 hi1 (by rw [pa_cw_same, pa_on2]; decide) ht.1 ht.2 (by rw [pa_cw_ne hoi]; exact ht6) (fun y3 f1 f3 => ?_)) (by omega)
          rw [pa_cw_same, pa_cw_ne hoi, pa_cw_cw] at f3
          have hst : (pa_have (pa_on (s1.2.1 i)) (s1.2.1 o)).1 2 ≠ 5 := by
            have := pa_on2 (s1.2.1 i)
            rcases pa_have_st (pa_on (s1.2.1 i)) (s1.2.1 o) with q3 | q3 <;> omega
          have hJ2 : pa_J (pa_cw s1 i (pa_have (pa_on (s1.2.1 i)) (s1.2.1 o))) = pa_J s1 - 1 := by
            unfold pa_J
            rw [k3'.1, k3.1]
            exact pa_cnt_less _ hi0 (by omega) (fun c hc => by rw [pa_cw_ne hc]) (by simp [h5]) (by simp [pa_cw_same, hst])
          refine b159_59 hF (k := ?_)
          refine b159_61 hF (k := ?_)
          refine ih (i + 1) 1 y3 _ (by omega) (by omega) (pm_fr_trans k1 (pm_fr_trans (pm_fr_u (Or.inl ⟨by decide, by decide⟩)) f1)) f3 k3' (Or.inr ⟨rfl, ?_⟩)
          rcases k4 with ⟨-, e2, -⟩ | ⟨-, e⟩ <;> omega
        · refine b159_38 hF (k1 := fun _ => ?_) (k2 := fun r => absurd rfl r)
          exact hnext (fun _ => by omega)
  refine b159_6 hF (k := ?_)
  exact loop (a.1 4).toNat 0 0 y s (by omega) (by omega) g1 g3 g4 (Or.inl ⟨rfl, gJ, fun c c0 c1 => by omega⟩)
/-- settle -/
theorem c159 (hF : pm_F M σ) (hM : pm_R y a) (hwf : pa_wf3 a) (k : ∀ y2, pm_fr pm_Zt y y2 → pm_R y2 (pa_settle a) → Φ none (pm_h M σ q y2)) : pe_M (d + 4) 159 [.inr (.inr M)] (pm_h M σ q y) Φ := by
  have hJ := pa_cnt_b (fun c => decide ((a.2.1 c).1 2 = 5)) (a.1 4).toNat
  refine pe_M_of ck159 (Nat.le_of_ble_eq_true rfl) ?_
  refine b159_0 hF (k := ?_)
  refine b159_2 hF (k1 := fun r => by omega) (k2 := fun _ => ?_)
  exact c159_loop hF hwf k (pa_J a).toNat y a _ _ (pm_fr_refl _ _) hM (pa_mid_refl a) (by unfold pa_J; omega)
end
