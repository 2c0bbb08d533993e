/-! THE MODEL: a coroutine more -/
def pm_Zm (k : Nat) (j : Int) : Prop := pm_Zs k j ∨ (k = 0 ∧ j = 3)
section
variable {d M q : Nat} {Φ : Option pe_V → pe_H → Prop} {σ : pe_H} {y y' : Nat → Int → Int} {c n : Int} {a : pa_M}
/-- frameComes, cells only -/
theorem c146r {p : Int} {N : Nat} (hF : pm_F M σ) (h0 : 0 ≤ c) (h8 : c < 8) (hp0 : 0 ≤ p) (hp5 : p < 5) (hN : N < 6) (h14 : y 14 c = N) (k : ∀ z, pm_fr (fun k j => (k = 14 ∧ j = c) ∨ (15 ≤ k ∧ k ≤ 20 ∧ j = 6 * c + (N : Int)) ∨ (21 ≤ k ∧ k ≤ 22 ∧ 16 * (6 * c + (N : Int)) ≤ j ∧ j < 16 * (6 * c + (N : Int)) + 16)) y z → (z 14 c = N + 1 ∧ z 15 (6 * c + (N : Int)) = p ∧ z 16 (6 * c + (N : Int)) = y 1 p ∧ z 17 (6 * c + (N : Int)) = 0 ∧ z 18 (6 * c + (N : Int)) = 0 ∧ z 19 (6 * c + (N : Int)) = 0 ∧ z 20 (6 * c + (N : Int)) = 0) → (∀ j, 0 ≤ j → j < 16 → z 21 (16 * (6 * c + (N : Int)) + j) = y 2 (16 * p + j) ∧ z 22 (16 * (6 * c + (N : Int)) + j) = y 3 (16 * p + j)) → Φ none (pm_h M σ q z)) : pe_M (d + 1) 146 [.inr (.inr M), .inl c, .inl p] (pm_h M σ q y) Φ := by
  have loop : ∀ (r : Nat) (i : Int) (z : Nat → Int → Int), i + r = 16 → 0 ≤ i → pm_fr (fun k j => (k = 14 ∧ j = c) ∨ (15 ≤ k ∧ k ≤ 20 ∧ j = 6 * c + (N : Int)) ∨ (21 ≤ k ∧ k ≤ 22 ∧ 16 * (6 * c + (N : Int)) ≤ j ∧ j < 16 * (6 * c + (N : Int)) + 16)) y z → (z 14 c = N + 1 ∧ z 15 (6 * c + (N : Int)) = p ∧ z 16 (6 * c + (N : Int)) = y 1 p ∧ z 17 (6 * c + (N : Int)) = 0 ∧ z 18 (6 * c + (N : Int)) = 0 ∧ z 19 (6 * c + (N : Int)) = 0 ∧ z 20 (6 * c + (N : Int)) = 0) → (∀ j, 0 ≤ j → j < i → z 21 (16 * (6 * c + (N : Int)) + j) = y 2 (16 * p + j) ∧ z 22 (16 * (6 * c + (N : Int)) + j) = y 3 (16 * p + j)) → pe_X d 146 (72, [some (.inr (.inr M)), some (.inl c), some (.inl p), some (.inl (6 * c + (N : Int))), some (.inl i)], [], pm_h M σ q z) Φ := by
    intro r
    induction r with
    | zero =>
      intro i z hi hi0 g1 g2 g3
      refine b146_72 hF (k1 := fun _ => ?_) (k2 := fun r => by omega)
      refine b146_133 hF (k := ?_)
      exact k z g1 g2 (fun j j0 j1 => g3 j j0 (by omega))
    | succ r ih =>
      intro i z hi hi0 g1 g2 g3
      refine b146_72 hF (k1 := fun r => by omega) (k2 := fun _ => ?_)
      refine b146_79 hF (k := ?_)
      refine b146_127 hF (k := ?_)
      have e : ∀ k, k ≠ 21 → k ≠ 22 → (pm_u (pm_u z 21 (16 * (6 * c + (N : Int)) + i) (z 2 (16 * p + i))) 22 (16 * (6 * c + (N : Int)) + i) (z 3 (16 * p + i))) k = z k := fun k k1 k2 => by funext j; simp [pm_u, k1, k2]
      have e2 : z 2 (16 * p + i) = y 2 (16 * p + i) := g1 2 _ (by omega)
      have e3 : z 3 (16 * p + i) = y 3 (16 * p + i) := g1 3 _ (by omega)
      refine ih (i + 1) _ (by omega) (by omega) (pm_fr_then (pm_fr_then g1 (Or.inr (Or.inr ⟨by decide, by decide, by omega, by omega⟩))) (Or.inr (Or.inr ⟨by decide, by decide, by omega, by omega⟩))) ?_ (fun j j0 j1 => ?_)
      · rw [e 14 (by decide) (by decide), e 15 (by decide) (by decide), e 16 (by decide) (by decide), e 17 (by decide) (by decide), e 18 (by decide) (by decide), e 19 (by decide) (by decide), e 20 (by decide) (by decide)]
        exact g2
      · by_cases hj : j = i
        · subst hj
          simp [pm_u, e2, e3]
        · have := g3 j j0 (by omega)
          simp only [pm_u]
          rw [if_neg (by omega), if_neg (by omega), if_neg (by omega), if_neg (by omega)]
          exact this
  refine pe_M_of ck146 (Nat.le_of_ble_eq_true rfl) ?_
  refine b146_0 hF (k := ?_)
  refine b146_29 hF (k := ?_)
  refine b146_62 hF (k := ?_)
  rw [h14]
  refine loop 16 0 _ (by omega) (by omega) ?_ ?_ (fun j j0 j1 => by omega)
  · refine pm_fr_then (pm_fr_then (pm_fr_then (pm_fr_then (pm_fr_then (pm_fr_then (pm_fr_u (Or.inl ⟨rfl, rfl⟩)) ?_) ?_) ?_) ?_) ?_) ?_ <;> exact Or.inr (Or.inl ⟨by decide, by decide, rfl⟩)
  · simp [pm_u]
theorem pm_R_more {p kd fg : Int} {z : Nat → Int → Int} (hM : pm_R y a) (hwf : pa_wf0 a) (h8 : a.1 4 < 8) (hp0 : 0 ≤ p) (hp5 : p < 5)
    (hf : pm_fr (fun k j => (k = 0 ∧ j = 3) ∨ (4 ≤ k ∧ k ≤ 14 ∧ j = a.1 4) ∨ (15 ≤ k ∧ k ≤ 20 ∧ j = 6 * a.1 4) ∨ (21 ≤ k ∧ k ≤ 22 ∧ 96 * a.1 4 ≤ j ∧ j < 96 * a.1 4 + 16)) y z)
    (hz0 : z 0 3 = a.1 4 + 1) (hzn : z 4 (a.1 4) = p ∧ z 5 (a.1 4) = kd ∧ z 6 (a.1 4) = fg ∧ z 7 (a.1 4) = 0 ∧ z 8 (a.1 4) = 0 ∧ z 9 (a.1 4) = -4 ∧ z 10 (a.1 4) = 0 ∧ z 11 (a.1 4) = 0) (hz14 : z 14 (a.1 4) = 1)
    (hzf : z 15 (6 * a.1 4) = p ∧ z 16 (6 * a.1 4) = y 1 p ∧ z 17 (6 * a.1 4) = 0 ∧ z 18 (6 * a.1 4) = 0 ∧ z 19 (6 * a.1 4) = 0 ∧ z 20 (6 * a.1 4) = 0)
    (hzp : ∀ j, 0 ≤ j → j < 16 → z 21 (96 * a.1 4 + j) = y 2 (16 * p + j) ∧ z 22 (96 * a.1 4 + j) = y 3 (16 * p + j)) : pm_R z (pa_more a p kd fg) := by
  obtain ⟨w, n, ⟨a1, a2, a3, a4, a5⟩, hn⟩ := hM
  have hw8 := hwf.w8
  have hc0 := hwf.1.1
  generalize hc : a.1 4 = c at *
  have m4 : (pa_more a p kd fg).1 4 = c + 1 := by show pa_s a.1 4 (a.1 4 + 1) 4 = _; rw [pa_ss, hc]
  have mn : ∀ j, j ≠ 4 → (pa_more a p kd fg).1 j = a.1 j := fun j hj => pa_sn hj
  have e : ∀ k, (1 ≤ k ∧ k < 4) ∨ 22 < k → z k = y k := fun k hk => funext fun i => hf k i (by omega)
  have e0 : ∀ j, j ≠ 3 → z 0 j = y 0 j := fun j hj => hf 0 j (by omega)
  refine ⟨w, n, ⟨⟨?_, ?_, ?_, ?_⟩, ?_, fun i i0 i1 => ?_, ?_, ?_⟩, ?_⟩
  · rw [m4]; exact hz0
  · rw [mn 5 (by decide), e0 28 (by decide)]; exact a1.2.1
  · rw [mn 6 (by decide), e0 29 (by decide)]; exact a1.2.2.1
  · rw [e0 23 (by decide)]
    exact ⟨a1.2.2.2.1, pm_gh_keep a1.2.2.2.2 (fun j => by rw [e 23 (by omega)]) (fun g hg j => by rw [e g (by omega)]) (Int.le_refl _)⟩
  · rw [e 23 (by omega), e 24 (by omega)]; exact a2
  · rw [m4] at i1
    by_cases ei : i = c
    · subst ei
      rw [show (pa_more a p kd fg).2.1 i = pa_newC p kd fg (a.2.2.1 p) from if_pos hc.symm]
      obtain ⟨z4, z5, z6, z7, z8, z9, z10, z11⟩ := hzn
      obtain ⟨z15, z16, z17, z18, z19, z20⟩ := hzf
      have hP := a4 p hp0 hp5
      have hPl := (hwf.2.2.2 p hp0 hp5).1
      refine ⟨⟨⟨?_, ?_, ?_, ?_, ?_, ?_, ?_, ?_⟩, fun q1 q2 => by simp [pa_newC, pa_s] at q1⟩, hz14, Or.inl rfl, ⟨⟨⟨?_, ?_, ?_, ?_⟩, ⟨?_, fun j j0 j1 => ?_⟩, ?_⟩, trivial⟩⟩
      · rw [z4]; simp [pa_newC, pa_s]
      · rw [z7]; simp [pa_newC, pa_s]
      · rw [z8]; simp [pa_newC, pa_s]
      · rw [z9]; simp [pa_newC, pa_s]
      · rw [z10]; simp [pa_newC, pa_s]
      · rw [z11]; simp [pa_newC, pa_s]
      · rw [z5]; simp [pa_newC, pa_s]
      · rw [z6]; simp [pa_newC, pa_s]
      · simp [pa_nf, pa_s, z15]
      · simp [pa_nf, pa_s, z17]
      · simp [pa_nf, pa_s, z18]
      · simp [pa_nf, pa_s, z19]
      · have : z 16 (6 * i + ((([] : List pa_F).length : Nat) : Int)) = y 1 p := by simp [z16]
        rw [this]
        exact hP.1
      · have j1 : j < ((a.2.2.1 p).length : Int) := j1
        obtain ⟨g1, g2⟩ := hzp j j0 (by omega)
        show z 21 (16 * (6 * i + ((([] : List pa_F).length : Nat) : Int)) + j) = _ ∧ z 22 (16 * (6 * i + ((([] : List pa_F).length : Nat) : Int)) + j) = _
        rw [show 16 * (6 * i + ((([] : List pa_F).length : Nat) : Int)) + j = 96 * i + j by simp; omega, g1, g2]
        exact hP.2 j j0 j1
      · have : z 20 (6 * i + ((([] : List pa_F).length : Nat) : Int)) = 0 := by simp [z20]
        rw [this]
        exact Or.inl ⟨rfl, rfl⟩
    · rw [show (pa_more a p kd fg).2.1 i = a.2.1 i from if_neg (by omega)]
      refine pm_RCo_keep (fun k j hk => hf k j ?_) (Int.le_refl _) (fun _ _ => rfl) (hw8.2 i i0 (by omega)).1 (hw8.2 i i0 (by omega)).2 (a3 i i0 (by omega))
      unfold pm_own at hk
      omega
  · rw [e 1 (by omega), e 2 (by omega), e 3 (by omega)]; exact a4
  · rw [e 25 (by omega), e 26 (by omega)]; exact a5
  · rw [m4]
    have e1 : (c + 1).toNat = c.toNat + 1 := by omega
    have e2 : pa_pots (pa_more a p kd fg) (c.toNat + 1) = pa_pots a c.toNat + 64 := by
      unfold pa_pots
      rw [pa_sum, pa_sum_eq (g := fun c => pa_pot (a.2.1 c).2.2) c.toNat (fun i i0 i1 => by rw [show (pa_more a p kd fg).2.1 i = a.2.1 i from if_neg (by omega)])]
      rw [show (pa_more a p kd fg).2.1 (c.toNat : Int) = pa_newC p kd fg (a.2.2.1 p) from if_pos (by omega)]
      rfl
    rw [e1, e2]
    omega
/-- oneComes -/
theorem c171 {p kd fg : Int} (hF : pm_F M σ) (hM : pm_R y a) (hwf : pa_wf0 a) (hp : -2147483648 ≤ p ∧ p < 2147483648) (hkd : -2147483648 ≤ kd ∧ kd < 2147483648) (hfg : -2147483648 ≤ fg ∧ fg < 2147483648) (k0 : ¬ ((0 ≤ p ∧ p < 5) ∧ (0 ≤ kd ∧ kd ≤ 5) ∧ a.1 4 < 8) → Φ (some (.inl 0)) (pm_h M σ q y)) (k1 : (0 ≤ p ∧ p < 5) → (0 ≤ kd ∧ kd ≤ 5) → a.1 4 < 8 → ∀ y2, pm_fr pm_Zm y y2 → pm_R y2 (pa_more a p kd fg) → Φ (some (.inl 1)) (pm_h M σ q y2)) : pe_M (d + 2) 171 [.inr (.inr M), .inl p, .inl kd, .inl fg] (pm_h M σ q y) Φ := by
  have h8 := hwf.1
  have hcnt := hM.cnt.1
  have hno : ¬ ((0 ≤ p ∧ p < 5) ∧ (0 ≤ kd ∧ kd ≤ 5) ∧ a.1 4 < 8) → pe_X (d + 1) 171 (37, [some (.inr (.inr M)), some (.inl p), some (.inl kd), some (.inl fg), none, none], [], pm_h M σ q y) Φ := fun h => by
    refine b171_37 hF (k := ?_)
    refine b171_38 hF (k1 := fun _ => ?_) (k2 := fun r => absurd rfl r)
    refine b171_158 hF (k := ?_)
    exact k0 h
  refine pe_M_of ck171 (Nat.le_of_ble_eq_true rfl) ?_
  refine b171_0 hF (k := ?_)
  refine c134 hF (by omega) (by omega) (by omega) (fun rp => ?_) (fun rp => ?_)
  · refine b171_9 hF (k1 := fun r => by omega) (k2 := fun _ => ?_)
    refine b171_12 hF (k := ?_)
    refine c134 hF (by omega) (by omega) (by omega) (fun rk => ?_) (fun rk => ?_)
    · refine b171_21 hF (k1 := fun r => by omega) (k2 := fun _ => ?_)
      refine b171_24 hF (k1 := fun r => ?_) (k2 := fun r => ?_)
      · exact hno (by omega)
      · refine b171_33 hF (k := ?_)
        refine b171_38 hF (k1 := fun r => by omega) (k2 := fun _ => ?_)
        refine b171_45 hF (k := ?_)
        refine b171_85 hF (k := ?_)
        refine b171_126 hF (k := ?_)
        rw [hcnt]
        have hc8 : a.1 4 < 8 := by omega
        generalize hY : pm_u (pm_u (pm_u (pm_u (pm_u (pm_u (pm_u (pm_u (pm_u (pm_u (pm_u (pm_u y 0 3 (a.1 4 + 1)) 4 (a.1 4) p) 5 (a.1 4) kd) 6 (a.1 4) fg) 7 (a.1 4) 0) 8 (a.1 4) 0) 9 (a.1 4) (-4)) 10 (a.1 4) 0) 11 (a.1 4) 0) 12 (a.1 4) (-4)) 13 (a.1 4) (-1)) 14 (a.1 4) 0 = Y
        have hYf : pm_fr (fun k j => (k = 0 ∧ j = 3) ∨ (4 ≤ k ∧ k ≤ 14 ∧ j = a.1 4)) y Y := by
          rw [← hY]
          refine pm_fr_then (pm_fr_then (pm_fr_then (pm_fr_then (pm_fr_then (pm_fr_then (pm_fr_then (pm_fr_then (pm_fr_then (pm_fr_then (pm_fr_then (pm_fr_u (Or.inl ⟨rfl, rfl⟩)) ?_) ?_) ?_) ?_) ?_) ?_) ?_) ?_) ?_) ?_) ?_ <;> exact Or.inr ⟨by decide, by decide, rfl⟩
        refine c146r (N := 0) hF h8.1 hc8 rp.1 (by omega) (by decide) (by rw [← hY]; simp [pm_u]) (fun z g1 g2 g3 => ?_)
        refine b171_158 hF (k := ?_)
        have hzf : pm_fr (fun k j => (k = 0 ∧ j = 3) ∨ (4 ≤ k ∧ k ≤ 14 ∧ j = a.1 4) ∨ (15 ≤ k ∧ k ≤ 20 ∧ j = 6 * a.1 4) ∨ (21 ≤ k ∧ k ≤ 22 ∧ 96 * a.1 4 ≤ j ∧ j < 96 * a.1 4 + 16)) y z := pm_fr_trans (pm_fr_mono hYf (fun k j h => by omega)) (pm_fr_mono g1 (fun k j h => by omega))
        have hz : ∀ k, k ≤ 13 → z k = Y k := fun k hk => funext fun j => g1 k j (by omega)
        obtain ⟨z14, z15, z16, z17, z18, z19, z20⟩ := g2
        rw [show 6 * a.1 4 + ((0 : Nat) : Int) = 6 * a.1 4 by simp] at z15 z16 z17 z18 z19 z20
        refine k1 ⟨rp.1, by omega⟩ rk hc8 z (pm_fr_mono hzf (fun k j h => by unfold pm_Zm pm_Zs; omega)) (pm_R_more hM hwf hc8 rp.1 (by omega) hzf ?_ ?_ (by simpa using z14) ⟨z15, z16.trans ?_, z17, z18, z19, z20⟩ (fun j j0 j1 => ?_))
        · rw [hz 0 (by decide), ← hY]; simp [pm_u]
        · rw [hz 4 (by decide), hz 5 (by decide), hz 6 (by decide), hz 7 (by decide), hz 8 (by decide), hz 9 (by decide), hz 10 (by decide), hz 11 (by decide), ← hY]
          simp [pm_u]
        · exact hYf 1 p (by omega)
        · obtain ⟨u1, u2⟩ := g3 j j0 j1
          rw [show 16 * (6 * a.1 4 + ((0 : Nat) : Int)) + j = 96 * a.1 4 + j by simp; omega] at u1 u2
          exact ⟨u1.trans (hYf 2 _ (by omega)), u2.trans (hYf 3 _ (by omega))⟩
    · refine b171_21 hF (k1 := fun _ => ?_) (k2 := fun r => absurd rfl r)
      exact hno (by omega)
  · refine b171_9 hF (k1 := fun _ => ?_) (k2 := fun r => absurd rfl r)
    exact hno (by omega)
end
