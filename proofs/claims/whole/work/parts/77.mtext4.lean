/-! THE MODEL: what is told is done -/
def pm_Zg (k : Nat) (_ : Int) : Prop := 1 ≤ k ∧ k ≤ 3
theorem pm_Zg_Zy (k : Nat) (j : Int) (h : pm_Zg k j) : pm_Zy k j := by unfold pm_Zg at h; unfold pm_Zy; omega
theorem pm_Zy_Zq (k : Nat) (j : Int) (h : pm_Zy k j) : pm_Zq k j := Or.inl (Or.inl h)
def pt_fsN (p : pa_P) : Nat → Int
  | 0 => 0
  | n + 1 => pt_fsN p n + (if (p.getD n (0, 0)).1 = 102 then 1 else 0)
theorem pt_fsN_cons (x : Int × Int) (p : pa_P) : ∀ n, pt_fsN (x :: p) (n + 1) = (if x.1 = 102 then 1 else 0) + pt_fsN p n
  | 0 => by show 0 + _ = _ + 0; simp
  | n + 1 => by
    show pt_fsN (x :: p) (n + 1) + _ = _
    rw [pt_fsN_cons x p n]
    show _ = _ + (pt_fsN p n + _)
    rw [List.getD_cons_succ]
    omega
theorem pt_fsN_all : ∀ p : pa_P, pt_fsN p p.length = pt_fs p
  | [] => rfl
  | x :: p => by
    rw [List.length_cons, pt_fsN_cons, pt_fsN_all p]
    rfl
section
variable {d M q : Nat} {Φ : Option pe_V → pe_H → Prop} {σ : pe_H} {y : Nat → Int → Int} {a s : pa_M} {c i k o S p : Int} {l : List Int} {h : Int → pa_Sh} {D : Int}
theorem pm_R_prog {g : pa_P} {z : Nat → Int → Int} (hM : pm_R y s) (hwf : pa_wf s) (h0 : 0 ≤ p) (h5 : p < 5) (hz : pm_fr pm_Zg y z) (h1 : ∀ i, i ≠ p → z 1 i = y 1 i) (h2 : ∀ k, k = 2 ∨ k = 3 → ∀ j, (j < 16 * p ∨ 16 * p + 16 ≤ j) → z k j = y k j) (hg : pm_RPr (z 1 p) (fun i => z 2 (16 * p + i)) (fun i => z 3 (16 * p + i)) g) : pm_R z (pa_prog s p g) := by
  obtain ⟨w, n, ⟨a1, a2, a3, a4, a5⟩, hn⟩ := hM
  have e : ∀ k, ¬ (1 ≤ k ∧ k ≤ 3) → ∀ j, z k j = y k j := fun k hk j => hz k j (by unfold pm_Zg; exact hk)
  have hw8 := hwf.1.w8
  refine ⟨w, n, ⟨⟨?_, ?_, ?_, ?_, pm_gh_keep a1.2.2.2.2 (e 23 (by omega)) (fun g hg => e g (by omega)) (Int.le_refl _)⟩, ?_, fun i i0 i1 => ?_, fun i i0 i5 => ?_, fun k hk ch c0 c3 => ?_⟩, hn⟩
  · rw [e 0 (by omega)]; exact a1.1
  · rw [e 0 (by omega)]; exact a1.2.1
  · rw [e 0 (by omega)]; exact a1.2.2.1
  · rw [e 0 (by omega)]; exact a1.2.2.2.1
  · rw [show z 23 = y 23 from funext (e 23 (by omega)), show z 24 = y 24 from funext (e 24 (by omega))]; exact a2
  · exact pm_RCo_keep (fun k j hk => e k (by unfold pm_own at hk; omega) j) (Int.le_refl _) (fun _ _ => rfl) (hw8.2 i i0 i1).1 (hw8.2 i i0 i1).2 (a3 i i0 i1)
  · show pm_RPr _ _ _ (if i = p then g else s.2.2.1 i)
    by_cases ei : i = p
    · rw [if_pos ei, ei]; exact hg
    · rw [if_neg ei, h1 i ei]
      have hl := (hwf.1.2.2.2 i i0 i5).1
      refine ⟨(a4 i i0 i5).1, fun j j0 j1 => ?_⟩
      show z 2 _ = _ ∧ z 3 _ = _
      rw [h2 2 (by decide) _ (by omega), h2 3 (by decide) _ (by omega)]
      exact (a4 i i0 i5).2 j j0 j1
  · rw [show z 25 = y 25 from funext (e 25 (by omega)), show z 26 = y 26 from funext (e 26 (by omega))]
    exact a5 k hk ch c0 c3
/-- programTold -/
theorem c178 {g : pa_P} (hF : pm_F M σ) (hM : pm_R y s) (hwf : pa_wf s) (h0 : 0 ≤ p ∧ p ≤ 9) (hS : 0 ≤ S) (hS1 : S + g.length ≤ 100) (hsp : pm_sp y S g) (hgr : ∀ t : Nat, t < g.length → -1000 ≤ (g.getD t (0, 0)).1 ∧ (g.getD t (0, 0)).1 ≤ 1000) (k1 : p < 5 → g.length ≤ 16 → pt_fs g ≤ 1 → ∀ y2, pm_fr pm_Zg y y2 → pm_R y2 (pa_prog s p g) → Φ (some (.inl 1)) (pm_h M σ q y2)) (k0 : ¬ (p < 5 ∧ g.length ≤ 16 ∧ pt_fs g ≤ 1) → Φ (some (.inl 0)) (pm_h M σ q y)) : pe_M (d + 1) 178 [.inr (.inr M), .inl p, .inl S, .inl (g.length : Int)] (pm_h M σ q y) Φ := by
  have hfb := pt_fs_b g
  have bad : ¬ (p < 5 ∧ g.length ≤ 16 ∧ pt_fs g ≤ 1) → ∀ o4 o5 o6, pe_X d 178 (63, [some (.inr (.inr M)), some (.inl p), some (.inl S), some (.inl (g.length : Int)), o4, o5, o6], [], pm_h M σ q y) Φ := fun hh o4 o5 o6 => by
    refine b178_63 hF (k := ?_)
    refine b178_64 hF (k := ?_)
    refine b178_69 hF (k1 := fun _ => ?_) (k2 := fun r => by omega)
    refine b178_128 hF (k1 := fun _ => ?_) (k2 := fun r => by omega)
    refine b178_140 hF (k := ?_)
    exact k0 hh
  have copy : p < 5 → g.length ≤ 16 → pt_fs g ≤ 1 → ∀ (m i : Nat) (o4 : Option pe_V) (y4 : Nat → Int → Int), i + m = g.length → pm_fr pm_Zg y y4 → (∀ i, y4 1 i = y 1 i) → (∀ k, k = 2 ∨ k = 3 → ∀ j, (j < 16 * p ∨ 16 * p + 16 ≤ j) → y4 k j = y k j) → (∀ t : Nat, t < i → y4 2 (16 * p + t) = (g.getD t (0, 0)).1 ∧ y4 3 (16 * p + t) = (g.getD t (0, 0)).2) → pe_X d 178 (69, [some (.inr (.inr M)), some (.inl p), some (.inl S), some (.inl (g.length : Int)), o4, some (.inl 1), some (.inl (i : Int))], [], pm_h M σ q y4) Φ := by
    intro hp5 h16 hf1 m
    induction m with
    | zero =>
      intro i o4 y4 hi g1 g2 g3 g4
      refine b178_69 hF (k1 := fun r => by omega) (k2 := fun _ => ?_)
      refine b178_74 hF (k1 := fun _ => ?_) (k2 := fun r => by omega)
      refine b178_128 hF (k1 := fun r => by omega) (k2 := fun _ => ?_)
      refine b178_133 hF (k := ?_)
      refine b178_140 hF (k := ?_)
      refine k1 hp5 h16 hf1 _ (pm_fr_then g1 (by unfold pm_Zg; omega)) (pm_R_prog hM hwf h0.1 hp5 (pm_fr_then g1 (by unfold pm_Zg; omega)) (fun i hi => ?_) (fun k hk j hj => ?_) ⟨?_, fun t t0 t1 => ?_⟩)
      · simp only [pm_u]; rw [if_neg (by omega)]; exact g2 i
      · simp only [pm_u]; rw [if_neg (by omega)]; exact g3 k hk j hj
      · simp [pm_u]
      · have := g4 t.toNat (by omega)
        rw [show ((t.toNat : Nat) : Int) = t by omega] at this
        show (pm_u y4 1 p _) 2 (16 * p + t) = _ ∧ (pm_u y4 1 p _) 3 (16 * p + t) = _
        simp only [pm_u]
        rw [if_neg (by omega), if_neg (by omega)]
        exact this
    | succ m ih =>
      intro i o4 y4 hi g1 g2 g3 g4
      have s1 := hsp i (by omega)
      refine b178_69 hF (k1 := fun r => by omega) (k2 := fun _ => ?_)
      refine b178_74 hF (k1 := fun r => by omega) (k2 := fun _ => ?_)
      refine b178_80 hF (k := ?_)
      refine b178_122 hF (k := ?_)
      refine ih (i + 1) _ _ (by omega) (pm_fr_then (pm_fr_then g1 (by unfold pm_Zg; omega)) (by unfold pm_Zg; omega)) (fun i => ?_) (fun k hk j hj => ?_) (fun t ht => ?_)
      · simp only [pm_u]; rw [if_neg (by omega), if_neg (by omega)]; exact g2 i
      · simp only [pm_u]; rw [if_neg (by omega), if_neg (by omega)]; exact g3 k hk j hj
      · have f36 : y4 36 (S + i) = y 36 (S + i) := g1 36 _ (by unfold pm_Zg; omega)
        have f37 : y4 37 (S + i) = y 37 (S + i) := g1 37 _ (by unfold pm_Zg; omega)
        by_cases et : t = i
        · subst et
          simp [pm_u, f36, f37, s1.1, s1.2]
        · have := g4 t (by omega)
          simp only [pm_u]
          rw [if_neg (by omega), if_neg (by omega), if_neg (by omega), if_neg (by omega)]
          exact this
  have loop : ∀ (m i : Nat) (v : Int), i + m = g.length → v = pt_fsN g i → 0 ≤ v → v ≤ i → pe_X d 178 (6, [some (.inr (.inr M)), some (.inl p), some (.inl S), some (.inl (g.length : Int)), some (.inl v), some (.inl (i : Int)), none], [], pm_h M σ q y) Φ := by
    intro m
    induction m with
    | zero =>
      intro i v hi hv v0 v1
      rw [show i = g.length by omega, pt_fsN_all] at hv
      refine b178_6 hF (k1 := fun _ => ?_) (k2 := fun r => by omega)
      refine b178_42 hF (k1 := fun r => bad (by omega) _ _ _) (k2 := fun r1 => ?_)
      refine b178_47 hF (k1 := fun r => bad (by omega) _ _ _) (k2 := fun r2 => ?_)
      refine b178_53 hF (k1 := fun r => bad (by omega) _ _ _) (k2 := fun r3 => ?_)
      refine b178_59 hF (k := ?_)
      refine b178_64 hF (k := ?_)
      exact copy (by omega) (by omega) (by omega) g.length 0 _ y (by omega) (pm_fr_refl _ _) (fun _ => rfl) (fun _ _ _ _ => rfl) (fun t ht => absurd ht (Nat.not_lt_zero _))
    | succ m ih =>
      intro i v hi hv v0 v1
      have s1 := hsp i (by omega)
      have s2 := hgr i (by omega)
      have ev : pt_fsN g (i + 1) = pt_fsN g i + (if (g.getD i (0, 0)).1 = 102 then 1 else 0) := rfl
      refine b178_6 hF (k1 := fun r => by omega) (k2 := fun _ => ?_)
      refine b178_12 hF (k1 := fun r => ?_) (k2 := fun r => ?_)
      · rw [if_neg (by omega)] at ev
        refine b178_32 hF (k := ?_)
        refine b178_33 hF (k := ?_)
        exact ih (i + 1) _ (by omega) (by omega) (by omega) (by push_cast; omega)
      · rw [if_pos (by omega)] at ev
        refine b178_28 hF (k := ?_)
        refine b178_33 hF (k := ?_)
        exact ih (i + 1) _ (by omega) (by omega) (by omega) (by push_cast; omega)
  refine pe_M_of ck178 (Nat.le_of_ble_eq_true rfl) ?_
  refine b178_0 hF (k := ?_)
  exact loop g.length 0 0 (by omega) rfl (Int.le_refl _) (Int.le_refl _)
/-- sendTold -/
theorem c179 {v : Int} (hF : pm_F M σ) (hM : pm_R y s) (hwf : pa_wf s) (hc : 0 ≤ c ∧ c ≤ 9) (hv : 0 ≤ v ∧ v ≤ 999) (k1 : c < s.1 4 → (s.2.1 c).1 2 ≤ 2 → ∀ y2, pm_fr pm_Zs y y2 → pm_R y2 (pa_send s c v) → Φ (some (.inl 1)) (pm_h M σ q y2)) (k0 : ¬ (c < s.1 4 ∧ (s.2.1 c).1 2 ≤ 2) → Φ (some (.inl 0)) (pm_h M σ q y)) : pe_M (d + 8) 179 [.inr (.inr M), .inl c, .inl v] (pm_h M σ q y) Φ := by
  have h8 := hwf.1.1
  have e4 := hM.cnt.1
  have bad : ¬ (c < s.1 4 ∧ (s.2.1 c).1 2 ≤ 2) → pe_X (d + 7) 179 (20, [some (.inr (.inr M)), some (.inl c), some (.inl v), none], [], pm_h M σ q y) Φ := fun hh => by
    refine b179_20 hF (k := ?_)
    refine b179_21 hF (k1 := fun _ => ?_) (k2 := fun r => by omega)
    refine b179_32 hF (k := ?_)
    exact k0 hh
  refine pe_M_of ck179 (Nat.le_of_ble_eq_true rfl) ?_
  refine b179_0 hF (k := ?_)
  refine pe_M.up (c138 (d := 0) hF (by omega) (by omega) (fun r => ?_) (fun r => ?_)) (by omega)
  · have h1 : c < s.1 4 := by omega
    have i2 := (hM.nn hc.1 h1).1.1.2.1
    have hb := (hwf.1.2.2.1 c hc.1 h1).1.2.1
    refine b179_5 hF (k1 := fun r => by omega) (k2 := fun _ => ?_)
    refine b179_8 hF (k := ?_)
    refine pe_M.up (c140 (d := 0) hF hc.1 (by omega) (by omega) (fun r2 => ?_) (fun r2 => ?_)) (by omega)
    · refine b179_13 hF (k1 := fun r => by omega) (k2 := fun _ => ?_)
      refine b179_16 hF (k := ?_)
      refine b179_21 hF (k1 := fun r => by omega) (k2 := fun _ => ?_)
      refine b179_26 hF (k := ?_)
      refine c166 hF hM hwf hc.1 h1 (by omega) hv (fun y2 g1 g2 => ?_)
      refine b179_32 hF (k := ?_)
      exact k1 h1 (by omega) y2 g1 g2
    · refine b179_13 hF (k1 := fun _ => ?_) (k2 := fun r => absurd rfl r)
      exact bad (by omega)
  · refine b179_5 hF (k1 := fun _ => ?_) (k2 := fun r => absurd rfl r)
    exact bad (by omega)
/-- closeTold -/
theorem c180 (hF : pm_F M σ) (hM : pm_R y s) (hwf : pa_wf s) (hc : 0 ≤ c ∧ c ≤ 9) (k1 : c < s.1 4 → (s.2.1 c).1 2 < 6 → ∀ y2, pm_fr pm_Zs y y2 → pm_R y2 (pa_shut s c) → Φ (some (.inl 1)) (pm_h M σ q y2)) (k0 : ¬ (c < s.1 4 ∧ (s.2.1 c).1 2 < 6) → Φ (some (.inl 0)) (pm_h M σ q y)) : pe_M (d + 8) 180 [.inr (.inr M), .inl c] (pm_h M σ q y) Φ := by
  have h8 := hwf.1.1
  have e4 := hM.cnt.1
  have bad : ¬ (c < s.1 4 ∧ (s.2.1 c).1 2 < 6) → pe_X (d + 7) 180 (20, [some (.inr (.inr M)), some (.inl c), none], [], pm_h M σ q y) Φ := fun hh => by
    refine b180_20 hF (k := ?_)
    refine b180_21 hF (k1 := fun _ => ?_) (k2 := fun r => by omega)
    refine b180_31 hF (k := ?_)
    exact k0 hh
  refine pe_M_of ck180 (Nat.le_of_ble_eq_true rfl) ?_
  refine b180_0 hF (k := ?_)
  refine pe_M.up (c138 (d := 0) hF (by omega) (by omega) (fun r => ?_) (fun r => ?_)) (by omega)
  · have h1 : c < s.1 4 := by omega
    have i2 := (hM.nn hc.1 h1).1.1.2.1
    have hb := (hwf.1.2.2.1 c hc.1 h1).1.2.1
    refine b180_5 hF (k1 := fun r => by omega) (k2 := fun _ => ?_)
    refine b180_8 hF (k := ?_)
    refine pe_M.up (c139 (d := 0) hF hc.1 (by omega) (by omega) (fun r2 => ?_) (fun r2 => ?_)) (by omega)
    · refine b180_13 hF (k1 := fun _ => ?_) (k2 := fun r => by omega)
      exact bad (by omega)
    · refine b180_13 hF (k1 := fun r => absurd rfl r) (k2 := fun _ => ?_)
      refine b180_16 hF (k := ?_)
      refine b180_21 hF (k1 := fun r => by omega) (k2 := fun _ => ?_)
      refine b180_26 hF (k := ?_)
      refine c167 hF hM hwf hc.1 h1 (by omega) (fun y2 g1 g2 => ?_)
      refine b180_31 hF (k := ?_)
      exact k1 h1 (by omega) y2 g1 g2
  · refine b180_5 hF (k1 := fun _ => ?_) (k2 := fun r => absurd rfl r)
    exact bad (by omega)
/-- roundsTold -/
theorem c181 {v : Int} (hF : pm_F M σ) (hM : pm_R y s) (hwf : pa_wf s) (h6 : 0 ≤ s.1 6 ∧ s.1 6 ≤ 999) (hv : 0 ≤ v ∧ v ≤ 999) (k1 : (1 ≤ v ∧ v ≤ 60) → s.1 6 + v ≤ 999 → ∀ y2, pm_fr pm_Zs y y2 → pm_R y2 (pa_rounds v.toNat s) → Φ (some (.inl 1)) (pm_h M σ q y2)) (k0 : ¬ ((1 ≤ v ∧ v ≤ 60) ∧ s.1 6 + v ≤ 999) → Φ (some (.inl 0)) (pm_h M σ q y)) : pe_M (d + 9) 181 [.inr (.inr M), .inl v] (pm_h M σ q y) Φ := by
  have e6 := hM.cnt.2.2
  have bad : ¬ ((1 ≤ v ∧ v ≤ 60) ∧ s.1 6 + v ≤ 999) → pe_X (d + 8) 181 (28, [some (.inr (.inr M)), some (.inl v), none], [], pm_h M σ q y) Φ := fun hh => by
    refine b181_28 hF (k := ?_)
    refine b181_29 hF (k1 := fun _ => ?_) (k2 := fun r => by omega)
    refine b181_39 hF (k := ?_)
    exact k0 hh
  refine pe_M_of ck181 (Nat.le_of_ble_eq_true rfl) ?_
  refine b181_0 hF (k := ?_)
  refine pe_M.up (c134 (d := 0) hF (by omega) (by omega) (by omega) (fun r => ?_) (fun r => ?_)) (by omega)
  · refine b181_9 hF (k1 := fun r => by omega) (k2 := fun _ => ?_)
    refine b181_12 hF (k1 := fun r2 => ?_) (k2 := fun r2 => ?_)
    · exact bad (by omega)
    · refine b181_24 hF (k := ?_)
      refine b181_29 hF (k1 := fun r => by omega) (k2 := fun _ => ?_)
      refine b181_34 hF (k := ?_)
      refine c170 hF hM hwf (by omega) (by omega) (by omega) (fun y2 g1 g2 g3 => ?_)
      refine b181_39 hF (k := ?_)
      exact k1 r (by omega) y2 g1 g2
  · refine b181_9 hF (k1 := fun _ => ?_) (k2 := fun r => absurd rfl r)
    exact bad (by omega)
theorem pt_steps_len : ∀ (f : Nat) (j : Int), 0 ≤ j → 0 ≤ pt_pend l f j → j + (pt_steps l f j).length ≤ pt_pend l f j
  | 0, j, h, hg => by unfold pt_pend at hg; omega
  | f + 1, j, h, hg => by
    unfold pt_pend at hg
    unfold pt_pend pt_steps
    by_cases q1 : pt_at l j = 59
    · rw [if_pos q1, if_neg (by omega), if_neg (by unfold pt_ns; omega)]
      simp
      omega
    · rw [if_neg q1] at hg ⊢
      by_cases q2 : pt_at l j = 102
      · rw [if_pos q2] at hg ⊢
        rw [if_pos q2]
        have := pt_steps_len f (j + 1) (by omega) hg
        rw [List.length_cons]
        push_cast
        omega
      · rw [if_neg q2] at hg ⊢
        by_cases q3 : pt_ns (pt_at l j)
        · rw [if_pos q3] at hg ⊢
          by_cases q4 : pt_dg l (j + 1)
          · rw [if_pos q4] at hg ⊢
            rw [if_neg q2, if_pos q3]
            have := pt_steps_len f (j + 2) (by omega) hg
            rw [List.length_cons]
            push_cast
            omega
          · rw [if_neg q4] at hg; omega
        · rw [if_neg q3] at hg; omega
/-- comesTold -/
theorem c182 {B : Int} (hF : pm_F M σ) (hM : pm_R y s) (hwf : pa_wf s) (h6 : 0 ≤ s.1 6 ∧ s.1 6 ≤ 999) (hk : 0 ≤ k) (hg : 0 ≤ pt_stmt l k) (hi : 0 ≤ i ∧ i ≤ 50) (hT : pm_TS y l i k B) (hB : B ≤ 100) (k1 : ∀ y2 s', pt_do l k s = some s' → pm_fr pm_Zy y y2 → pm_R y2 s' → Φ (some (.inl 1)) (pm_h M σ q y2)) (k0 : pt_do l k s = none → ∀ y2, pm_fr pm_Zy y y2 → pm_R y2 s → Φ (some (.inl 0)) (pm_h M σ q y2)) : pe_M (d + 10) 182 [.inr (.inr M), .inl i] (pm_h M σ q y) Φ := by
  obtain ⟨t1, t2, t3, t4, t5, t6⟩ := hT
  obtain ⟨g1, g2, g3, g4⟩ := pt_stmt_ok hk hg
  have h8 := hwf.1.1
  have d1 : pt_d l (k + 1) = pt_at l (k + 1) - 48 := rfl
  have d2 : pt_d l (k + 2) = pt_at l (k + 2) - 48 := rfl
  have d3 : pt_d l (k + 3) = pt_at l (k + 3) - 48 := rfl
  have dd1 : pt_dd l (k + 1) = 10 * pt_d l (k + 1) + pt_d l (k + 2) := by unfold pt_dd; rw [show k + 1 + 1 = k + 2 by omega]
  have dd2 : pt_dd l (k + 2) = 10 * pt_d l (k + 2) + pt_d l (k + 3) := by unfold pt_dd; rw [show k + 2 + 1 = k + 3 by omega]
  have hfr := pm_fr_refl pm_Zy y
  unfold pt_do at k1 k0
  refine pe_M_of ck182 (Nat.le_of_ble_eq_true rfl) ?_
  refine b182_0 hF (k0 := fun r => ?_) (k1 := fun r => ?_) (k2 := fun r => ?_) (k3 := fun r => ?_) (k4 := fun r => ?_) (kd := fun r0 r1 r2 r3 r4 => ?_)
  · rw [if_neg (by omega), if_pos (by omega)] at k1 k0
    rw [if_neg (by omega)] at t3
    have g3 := g3 (by omega)
    refine b182_93 hF (k := ?_)
    rw [t3, (t5 (by omega)).1, (t5 (by omega)).2]
    refine pe_M.up (c171 (d := 0) hF hM hwf.1 (by omega) (by omega) (by omega) (fun rr => ?_) (fun r1 r2 r3 y2 u1 u2 => ?_)) (by omega)
    · rw [if_neg (by omega)] at k0
      refine b182_109 hF (k := ?_)
      exact k0 rfl y hfr hM
    · rw [if_pos (by omega)] at k1
      refine b182_109 hF (k := ?_)
      exact k1 y2 _ rfl (pm_fr_mono u1 pm_Zm_Zy) u2
  · rw [if_neg (by omega), if_neg (by omega), if_pos (by omega)] at k1 k0
    rw [if_neg (by omega)] at t3
    have g3 := g3 (by omega)
    refine b182_110 hF (k := ?_)
    rw [t3, t6 (by omega)]
    refine pe_M.up (c179 (d := 0) hF hM hwf (by omega) (by omega) (fun r1 r2 y2 u1 u2 => ?_) (fun rr => ?_)) (by omega)
    · rw [if_pos ⟨r1, r2⟩] at k1
      refine b182_116 hF (k := ?_)
      exact k1 y2 _ rfl (pm_fr_mono u1 pm_Zs_Zy) u2
    · rw [if_neg rr] at k0
      refine b182_116 hF (k := ?_)
      exact k0 rfl y hfr hM
  · have hc : pt_at l k = 112 := by omega
    rw [if_pos hc] at k1 k0
    rw [if_neg (by omega)] at t3
    obtain ⟨S, b1, b2, b3, b4⟩ := t4 hc
    have hpe : 0 ≤ pt_pend l 101 (k + 2) := by
      unfold pt_stmt at hg
      rw [if_pos hc, if_pos g2] at hg
      exact hg
    refine b182_76 hF (k := ?_)
    rw [t3, b2, b3]
    refine pe_M.up (c178 (d := 0) hF hM hwf (by omega) b1.1 (by omega) b4 (fun t ht => ?_) (fun r1 r2 r3 y2 u1 u2 => ?_) (fun rr => ?_)) (by omega)
    · have hm : (pt_steps l 101 (k + 2)).getD t (0, 0) ∈ pt_steps l 101 (k + 2) := by
        rw [List.getD_eq_getElem?_getD, List.getElem?_eq_getElem (by omega)]
        exact List.getElem_mem _
      have := pa_okl_b (pt_steps_ok 101 _ hpe _ hm).1
      omega
    · rw [if_pos ⟨r1, r2, r3⟩] at k1
      refine b182_92 hF (k := ?_)
      exact k1 y2 _ rfl (pm_fr_mono u1 pm_Zg_Zy) u2
    · rw [if_neg rr] at k0
      refine b182_92 hF (k := ?_)
      exact k0 rfl y hfr hM
  · rw [if_neg (by omega), if_neg (by omega), if_neg (by omega), if_neg (by omega), if_pos (by omega)] at k1 k0
    rw [if_neg (by omega)] at t3
    refine b182_123 hF (k := ?_)
    rw [t3]
    refine pe_M.up (c134 (d := 0) hF (by omega) (by omega) (by omega) (fun rw => ?_) (fun rw => ?_)) (by omega)
    · rw [if_pos rw] at k1
      refine b182_133 hF (k1 := fun r => by omega) (k2 := fun _ => ?_)
      refine b182_136 hF (k := ?_)
      refine b182_144 hF (k := ?_)
      refine pe_M.up (c134 (d := 0) hF (by omega) (by omega) (by omega) (fun _ => ?_) (fun rw2 => absurd rw rw2)) (by omega)
      refine b182_156 hF (k := ?_)
      exact k1 _ _ rfl (pm_fr_u (by unfold pm_Zy; omega)) (pm_R_wid hM hwf.1.w8)
    · rw [if_neg rw] at k0
      refine b182_133 hF (k1 := fun _ => ?_) (k2 := fun r => absurd rfl r)
      refine b182_140 hF (k := ?_)
      refine b182_144 hF (k := ?_)
      refine pe_M.up (c134 (d := 0) hF (by omega) (by omega) (by omega) (fun rw2 => absurd rw2 rw) (fun _ => ?_)) (by omega)
      refine b182_156 hF (k := ?_)
      refine k0 rfl _ (pm_fr_u (by unfold pm_Zy; omega)) ?_
      rw [show pm_u y 0 28 (y 0 28) = y from by
        funext a b
        simp only [pm_u]
        split
        · rename_i e
          rw [e.1, e.2]
        · rfl]
      exact hM
  · rw [if_neg (by omega), if_neg (by omega), if_neg (by omega), if_pos (by omega)] at k1 k0
    rw [if_neg (by omega)] at t3
    refine b182_117 hF (k := ?_)
    rw [t3]
    refine pe_M.up (c180 (d := 0) hF hM hwf (by omega) (fun r1 r2 y2 u1 u2 => ?_) (fun rr => ?_)) (by omega)
    · rw [if_pos ⟨r1, r2⟩] at k1
      refine b182_122 hF (k := ?_)
      exact k1 y2 _ rfl (pm_fr_mono u1 pm_Zs_Zy) u2
    · rw [if_neg rr] at k0
      refine b182_122 hF (k := ?_)
      exact k0 rfl y hfr hM
  · rw [if_neg (by omega), if_neg (by omega), if_neg (by omega), if_neg (by omega), if_neg (by omega)] at k1 k0
    have hc : pt_at l k = 108 := by omega
    rw [if_pos hc] at t3
    have g4 := g4 hc
    refine b182_157 hF (k := ?_)
    rw [t3]
    refine pe_M.up (c181 (d := 0) hF hM hwf h6 (by omega) (fun r1 r2 y2 u1 u2 => ?_) (fun rr => ?_)) (by omega)
    · rw [if_pos ⟨r1, r2⟩] at k1
      refine b182_162 hF (k := ?_)
      exact k1 y2 _ rfl (pm_fr_mono u1 pm_Zs_Zy) u2
    · rw [if_neg rr] at k0
      refine b182_162 hF (k := ?_)
      exact k0 rfl y hfr hM
/-- where the statement i begins -/
def pt_pl (l : List Int) : Nat → Int
  | 0 => 0
  | i + 1 => pt_stmt l (pt_pl l i)
theorem pm_Mi_Ps {y4 : Nat → Int → Int} (h : pm_Mi y a y4 s) : pm_Pb y y4 s := by
  obtain ⟨z, y2, g1, g2, g3, g4⟩ := h
  refine ⟨pm_fr_trans g1.1 (pm_fr_trans (pm_fr_mono g2.1 pm_Zk_Zp) (pm_fr_mono g3 pm_Zq_Zp)), ?_, g4⟩
  rw [g3 0 37 (by unfold pm_Zq pm_Zo pm_Zy; omega), g2.1 0 37 (by unfold pm_Zk; omega)]
  exact g1.2.1
/-- think; what was read stays -/
theorem c187t {z : Nat → Int → Int} (hF : pm_F M σ) (hP : pm_Pb y z a) (hwf : pa_wf a) (k : ∀ y4, pm_Mi y a y4 a → (∀ k, 33 ≤ k → k ≤ 37 → ∀ j, y4 k j = z k j) → y4 0 41 = z 0 41 → Φ none (pm_h M σ (M + 38) y4)) : pe_M (d + 4) 187 [.inr (.inr M)] (pm_h M σ q z) Φ :=
  c187 hF hP.R hwf.w3 (fun y2 g1 g2 => k y2 ⟨z, y2, hP, g1, pm_fr_refl _ _, g2⟩ (fun k k1 k2 j => g1.1 k j (by unfold pm_Zk; omega)) (g1.1 0 41 (by unfold pm_Zk; omega)))
/-- text -/
theorem c183 (hF : pm_F M σ) (hM : pm_R y a) (hwf : pa_wf a) (h6 : 0 ≤ a.1 6 ∧ a.1 6 ≤ 999) (hS : pm_RS y h) (hwS : pa_wfS h) (hD : -2147483648 ≤ D ∧ D < 2147483648) (kk : ∀ q' y2, pm_Pb y y2 (pa_doText a h D).1 → Φ (some (.inl (pa_doText a h D).2)) (pm_h M σ q' y2)) : pe_M (d + 11) 183 [.inr (.inr M), .inl D] (pm_h M σ q y) Φ := by
  have hP := pm_Pb_37 hM hwf
  have hS1 := pm_RS_37 (v := 0) hS
  have h8 := hwf.1.1
  unfold pa_doText at kk
  have hr := pa_W_r h D
  refine pe_M_of ck183 (Nat.le_of_ble_eq_true rfl) ?_
  refine b183_0 hF (k := ?_)
  generalize pm_u y 0 37 0 = z at *
  refine pe_M.up (c235 (d := 0) hF hS1 hwS hD ?_) (by omega)
  by_cases hw : pa_W h D < 0
  · rw [if_pos hw] at kk
    refine b183_10 hF (k1 := fun _ => ?_) (k2 := fun r => by omega)
    refine b183_29 hF (k := ?_)
    refine b183_30 hF (k1 := fun r => by omega) (k2 := fun _ => ?_)
    refine b183_35 hF (k := ?_)
    exact kk _ _ hP
  · rw [if_neg hw] at kk
    obtain ⟨w1, w2, w3⟩ := pa_W_0 hw
    obtain ⟨s1, s2, s3⟩ := hS1 D w1.1 w1.2
    obtain ⟨s4, s5, s6⟩ := s3 w2
    obtain ⟨v1, v2, v3⟩ := (hwS D w1.1 w1.2).2.2 w2
    refine b183_10 hF (k1 := fun r => by omega) (k2 := fun _ => ?_)
    refine b183_15 hF (k1 := fun r0 => ?_) (k2 := fun r0 => ?_)
    · rw [if_neg (by omega)] at kk
      refine b183_29 hF (k := ?_)
      refine b183_30 hF (k1 := fun _ => ?_) (k2 := fun r => by omega)
      refine b183_37 hF (k := ?_)
      have hsort : (h D).2.1.1 = 0 := by omega
      obtain ⟨l, hl⟩ : ∃ l, l = (h D).2.2 := ⟨_, rfl⟩
      rw [← hl] at kk s5 s6 v2 v3
      have fz : pm_fr (fun k j => k = 0 ∧ (38 ≤ j ∧ j ≤ 47)) z (pm_u (pm_u (pm_u (pm_u (pm_u z 0 38 D) 0 39 0) 0 40 0) 0 41 0) 0 47 0) := pm_fr_then (pm_fr_then (pm_fr_then (pm_fr_then (pm_fr_u (by omega)) (by omega)) (by omega)) (by omega)) (by omega)
      have b38 : (pm_u (pm_u (pm_u (pm_u (pm_u z 0 38 D) 0 39 0) 0 40 0) 0 41 0) 0 47 0) 0 38 = D := by simp [pm_u]
      have b39 : (pm_u (pm_u (pm_u (pm_u (pm_u z 0 38 D) 0 39 0) 0 40 0) 0 41 0) 0 47 0) 0 39 = 0 := by simp [pm_u]
      have b40 : (pm_u (pm_u (pm_u (pm_u (pm_u z 0 38 D) 0 39 0) 0 40 0) 0 41 0) 0 47 0) 0 40 = 0 := by simp [pm_u]
      have b41 : (pm_u (pm_u (pm_u (pm_u (pm_u z 0 38 D) 0 39 0) 0 40 0) 0 41 0) 0 47 0) 0 41 = 0 := by simp [pm_u]
      have b47 : (pm_u (pm_u (pm_u (pm_u (pm_u z 0 38 D) 0 39 0) 0 40 0) 0 41 0) 0 47 0) 0 47 = 0 := by simp [pm_u]
      generalize pm_u (pm_u (pm_u (pm_u (pm_u z 0 38 D) 0 39 0) 0 40 0) 0 41 0) 0 47 0 = x0 at *
      have hrd : pm_rd x0 l := by
        unfold pm_rd
        rw [b38, fz 31 D (by omega)]
        refine ⟨w1, s5, v2, fun j hj => ?_⟩
        rw [fz 32 _ (by omega), s6 j hj]
        have hv := v3 j hj
        rw [hsort] at hv
        have := hv.1 rfl
        exact ⟨rfl, this⟩
      obtain ⟨V, hV⟩ : ∃ V, V = pt_cnt l 100 0 0 := ⟨_, rfl⟩
      rw [← hV] at kk
      -- what is read so far
      have Pbof : ∀ x4, pm_fr pm_Z4 x0 x4 → pm_Pb y x4 a := fun x4 f => by
        have f2 : pm_fr (fun k j => pm_Z4 k j ∨ (k = 0 ∧ 38 ≤ j ∧ j ≤ 47)) z x4 := pm_fr_trans (pm_fr_mono fz (fun k j hk => Or.inr hk)) (pm_fr_mono f (fun k j hk => Or.inl hk))
        exact ⟨pm_fr_trans hP.1 (pm_fr_mono f2 (fun k j hk => by unfold pm_Z4 at hk; unfold pm_Zp; omega)), (f2 0 37 (by unfold pm_Z4; omega)).trans hP.2.1, pm_R_z hP.R hwf (pm_fr_mono f2 (fun k j hk => by unfold pm_Z4 at hk; unfold pm_Zr; omega))⟩
      have exec : ∀ (N : Nat) (x4 : Nat → Int → Int) (o2 o3 : Option pe_V), pm_fr pm_Z4 x0 x4 → x4 0 40 = 0 → x4 0 41 = N → N ≤ 50 → V = N → l.length ≠ 0 → (∀ i : Nat, i < N → 0 ≤ pt_pl l i ∧ 0 ≤ pt_stmt l (pt_pl l i) ∧ pm_TS x4 l i (pt_pl l i) (x4 0 47)) → x4 0 47 ≤ 100 → pe_X (d + 10) 183 (96, [some (.inr (.inr M)), some (.inl D), o2, o3], [], pm_h M σ q x4) Φ := fun N x4 o2 o3 f e40 e41 hN hVN hl0 hT h47 => by
        rw [if_neg hl0, if_neg (by omega), show V.toNat = N by omega] at kk
        have hPx := Pbof x4 f
        refine b183_96 hF (k1 := fun _ => ?_) (k2 := fun r => by omega)
        refine b183_112 hF (k := ?_)
        refine pe_M.up (c187t (d := 0) hF hPx hwf (fun y4 g g33 g41 => ?_)) (by omega)
        refine b183_116 hF (k := ?_)
        obtain ⟨R, hR⟩ : ∃ R, R = pt_run l N 0 a := ⟨_, rfl⟩
        rw [← hR] at kk
        have loop2 : ∀ (m t : Nat) (o1 o2 : Option pe_V) (y5 : Nat → Int → Int) (s : pa_M), t + m = N → pm_Mi y a y5 s → pa_wf s → (0 ≤ s.1 6 ∧ s.1 6 ≤ 999) → (∀ k, 33 ≤ k → k ≤ 37 → ∀ j, y5 k j = x4 k j) → y5 0 41 = N → pt_run l m (pt_pl l t) s = R → pe_X (d + 10) 183 (118, [some (.inr (.inr M)), o1, o2, some (.inl (t : Int))], [], pm_h M σ (M + 38) y5) Φ := by
          intro m
          induction m with
          | zero =>
            intro t o1 o2 y5 s ht u1 u2 u3 u4 u5 u6
            have u6 : (s, 0) = R := u6
            rw [← u6] at kk
            rw [if_neg (by show ¬ (0 : Int) < 0; decide)] at kk
            refine b183_118 hF (k1 := fun _ => ?_) (k2 := fun r => by omega)
            refine b183_155 hF (k := ?_)
            rw [u5, ← hVN]
            exact kk _ _ (pm_Mi_Ps u1)
          | succ m ih =>
            intro t o1 o2 y5 s ht u1 u2 u3 u4 u5 u6
            obtain ⟨T1, T2, T3⟩ := hT t (by omega)
            have T4 := pm_TS_same u4 (Int.le_refl _) T3
            refine b183_118 hF (k1 := fun r => by omega) (k2 := fun _ => ?_)
            refine b183_126 hF (k := ?_)
            refine c182 hF u1.R u2 u3 T1 T2 (by omega) T4 h47 (fun y6 s' hd x1 x2 => ?_) (fun hd y6 x1 x2 => ?_)
            · have u6 : (match pt_do l (pt_pl l t) s with | none => (s, -2000 - pt_pl l t) | some s' => pt_run l m (pt_stmt l (pt_pl l t)) s') = R := u6
              rw [hd] at u6
              have hw := pt_do_wf T1 T2 u2 u3 hd
              refine b183_131 hF (k1 := fun _ => ?_) (k2 := fun r => by omega)
              refine b183_149 hF (k := ?_)
              exact ih (t + 1) _ _ y6 s' (by omega) (u1.ex (pm_fr_mono x1 pm_Zy_Zq) x2) hw.1 hw.2 (fun k k1 k2 j => (x1 k j (by unfold pm_Zy; omega)).trans (u4 k k1 k2 j)) ((x1 0 41 (by unfold pm_Zy; omega)).trans u5) u6
            · have u6 : (match pt_do l (pt_pl l t) s with | none => (s, -2000 - pt_pl l t) | some s' => pt_run l m (pt_stmt l (pt_pl l t)) s') = R := u6
              rw [hd] at u6
              have u6 : (s, -2000 - pt_pl l t) = R := u6
              rw [← u6] at kk
              rw [if_pos (by show -2000 - pt_pl l t < 0; omega)] at kk
              refine b183_131 hF (k1 := fun r => absurd rfl r) (k2 := fun _ => ?_)
              refine b183_134 hF (k := ?_)
              refine pe_M.up (c188n (d := 0) hF (u1.ex (pm_fr_mono x1 pm_Zy_Zq) x2) hwf (fun y7 z1 z2 z3 => ?_)) (by omega)
              refine b183_138 hF (k := ?_)
              have e33 : y7 33 (t : Int) = pt_pl l t := ((z3 33 _ (by unfold pm_Zo pm_Zy; omega)).trans (x1 33 _ (by unfold pm_Zy; omega))).trans T4.1
              rw [e33]
              exact kk _ _ z2
        exact loop2 N 0 _ _ y4 a (by omega) g hwf h6 g33 (g41.trans e41) (by rw [hR]; rfl)
      have loop1 : ∀ (f i : Nat) (o2 o3 : Option pe_V) (x4 : Nat → Int → Int), i + f = 100 → pm_fr pm_Z4 x0 x4 → x4 0 39 = pt_pl l i → x4 0 40 = 0 → x4 0 41 = i → (0 ≤ x4 0 47 ∧ x4 0 47 ≤ pt_pl l i) → (3 * (i : Int) ≤ pt_pl l i ∧ pt_pl l i ≤ (l.length : Int)) → pt_cnt l f i (pt_pl l i) = V → (∀ j : Nat, j < i → 0 ≤ pt_pl l j ∧ 0 ≤ pt_stmt l (pt_pl l j) ∧ pm_TS x4 l j (pt_pl l j) (x4 0 47)) → pe_X (d + 10) 183 (62, [some (.inr (.inr M)), some (.inl D), o2, o3], [], pm_h M σ q x4) Φ := by
        intro f
        induction f with
        | zero =>
          intro i o2 o3 x4 hi g1 g2 g3 g4 g5 g6 g7 g8
          omega
        | succ f ih =>
          intro i o2 o3 x4 hi g1 g2 g3 g4 g5 g6 g7 g8
          have hr4 := pm_rd_fr g1 (by unfold pm_Z4; omega) (by unfold pm_Z4; omega) hrd
          have e38 : x4 0 38 = D := (g1 0 38 (by unfold pm_Z4; omega)).trans b38
          have e31 : x4 31 D = (l.length : Int) := by have := hr4.2.1; rw [e38] at this; exact this
          have g7 : (if (l.length : Int) ≤ pt_pl l i then (i : Int) else if pt_stmt l (pt_pl l i) < 0 then pt_stmt l (pt_pl l i) else pt_cnt l f (i + 1) (pt_stmt l (pt_pl l i))) = V := g7
          have read : (i = 0 ∨ pt_pl l i < (l.length : Int)) → pe_X (d + 10) 183 (89, [some (.inr (.inr M)), some (.inl D), o2, o3], [], pm_h M σ q x4) Φ := fun hread => by
            refine b183_89 hF (k := ?_)
            refine pe_M.up (c177 (d := 0) hF hr4 (by omega : 0 ≤ pt_pl l i ∧ pt_pl l i ≤ 100) g2 g3 g4 (by omega) rfl g5 (fun x5 u1 u2 u3 => ?_)) (by omega)
            have f5 : pm_fr pm_Z4 x0 x5 := pm_fr_trans g1 (pm_fr_mono u1 (fun k j hk => by unfold pm_Z5 at hk; unfold pm_Z4; omega))
            refine b183_93 hF (k := ?_)
            rcases u3 with ⟨t1, t2, t3, t4, t5⟩ | ⟨t1, t2, t3, t4⟩
            · have hst := pt_stmt_r (l := l) (k := pt_pl l i) (by omega)
              have hlt : pt_pl l i < (l.length : Int) := by omega
              rw [if_neg (by omega), if_neg (by omega)] at g7
              have e : pt_pl l (i + 1) = pt_stmt l (pt_pl l i) := rfl
              refine ih (i + 1) _ _ x5 (by omega) f5 (by rw [e, t2]) t1 (by rw [u2]; push_cast; rfl) (by omega) (by push_cast; omega) (by rw [e]; push_cast; exact g7) (fun j hj => ?_)
              by_cases ej : j = i
              · subst ej
                exact ⟨by omega, by omega, t5⟩
              · obtain ⟨T1, T2, T3⟩ := g8 j (by omega)
                refine ⟨T1, T2, pm_TS_same (fun _ _ _ _ => rfl) t4.1 (pm_TS_keep u1 (by omega) (Int.le_refl _) T3)⟩
            · refine b183_62 hF (k1 := fun _ => ?_) (k2 := fun r => by omega)
              refine b183_96 hF (k1 := fun r => by omega) (k2 := fun _ => ?_)
              refine b183_103 hF (k := ?_)
              by_cases hl0 : l.length = 0
              · rw [if_pos hl0] at kk
                have hi0 : i = 0 := by omega
                subst hi0
                have hp0 : pt_pl l 0 = 0 := rfl
                have hat0 : pt_at l 0 = 0 := by unfold pt_at; rw [if_neg (by omega)]
                have hst : pt_stmt l 0 = -1000 - 0 := by
                  unfold pt_stmt
                  rw [if_neg (by omega), if_neg (by omega), if_neg (by omega), if_neg (by omega)]
                rw [hp0, hst] at t2
                rw [show -1000 - x5 0 39 = -1000 by omega]
                exact kk _ _ (Pbof x5 f5)
              · have hlt : ¬ (l.length : Int) ≤ pt_pl l i := by
                  rcases hread with rfl | hh
                  · show ¬ (l.length : Int) ≤ 0
                    omega
                  · omega
                rw [if_neg hlt, if_pos (by omega)] at g7
                rw [if_neg hl0, if_pos (by omega)] at kk
                rw [← t2, g7]
                exact kk _ _ (Pbof x5 f5)
          refine b183_62 hF (k1 := fun r => by omega) (k2 := fun _ => ?_)
          refine b183_69 hF (k1 := fun ri => ?_) (k2 := fun ri => ?_)
          · exact read (Or.inl (by omega))
          · refine b183_76 hF (k1 := fun rl => ?_) (k2 := fun rl => ?_)
            · have hge : (l.length : Int) ≤ pt_pl l i := by omega
              rw [if_pos hge] at g7
              exact exec i x4 _ _ g1 g3 g4 (by omega) (by omega) (by omega) g8 (by omega)
            · exact read (Or.inr (by omega))
      exact loop1 100 0 _ _ x0 (by decide) (pm_fr_refl _ _) b39 b40 b41 (by rw [b47]; exact ⟨Int.le_refl _, Int.le_refl _⟩) ⟨Int.le_refl _, by show (0 : Int) ≤ _; omega⟩ hV.symm (fun j hj => absurd hj (Nat.not_lt_zero _))
    · rw [if_pos (by omega)] at kk
      refine b183_24 hF (k := ?_)
      refine b183_30 hF (k1 := fun r => by omega) (k2 := fun _ => ?_)
      refine b183_35 hF (k := ?_)
      exact kk _ _ hP
end
