/-! THE MODEL: a statement is read -/
def pm_rn (y : Nat → Int → Int) (l : List Int) (k o S : Int) : Prop := (y 0 40 = 0 ∧ (k + 1 ≤ y 0 39 ∧ y 0 39 ≤ 104) ∧ pt_stmt l k = (if pt_at l (y 0 39) = 59 then y 0 39 + 1 else -1000 - y 0 39) ∧ (S ≤ y 0 47 ∧ y 0 47 ≤ y 0 39) ∧ y 35 o = (if pt_at l k = 108 then pt_dd l (k + 1) else pt_d l (k + 1)) ∧ (pt_at l k = 112 → y 35 (o + 1) = S ∧ y 35 (o + 2) = (pt_steps l 101 (k + 2)).length ∧ y 0 47 = S + (pt_steps l 101 (k + 2)).length ∧ pm_sp y S (pt_steps l 101 (k + 2))) ∧ (pt_at l k = 99 → y 35 (o + 1) = pt_d l (k + 2) ∧ y 35 (o + 2) = pt_d l (k + 3)) ∧ (pt_at l k = 110 → y 35 (o + 1) = pt_dd l (k + 2))) ∨ (y 0 40 = 1 ∧ pt_stmt l k = -1000 - y 0 39 ∧ 0 ≤ y 0 39 ∧ y 0 39 ≤ 200)
/-- the statement i, at k, is told; its steps below B -/
def pm_TS (y : Nat → Int → Int) (l : List Int) (i k B : Int) : Prop := y 33 i = k ∧ y 34 i = pt_at l k ∧ y 35 (3 * i) = (if pt_at l k = 108 then pt_dd l (k + 1) else pt_d l (k + 1)) ∧ (pt_at l k = 112 → ∃ S : Int, (0 ≤ S ∧ S + (pt_steps l 101 (k + 2)).length ≤ B) ∧ y 35 (3 * i + 1) = S ∧ y 35 (3 * i + 2) = (pt_steps l 101 (k + 2)).length ∧ pm_sp y S (pt_steps l 101 (k + 2))) ∧ (pt_at l k = 99 → y 35 (3 * i + 1) = pt_d l (k + 2) ∧ y 35 (3 * i + 2) = pt_d l (k + 3)) ∧ (pt_at l k = 110 → y 35 (3 * i + 1) = pt_dd l (k + 2))
def pm_Z5 (i S : Int) (k : Nat) (j : Int) : Prop := (k = 0 ∧ (j = 39 ∨ j = 40 ∨ j = 41 ∨ j = 47)) ∨ ((k = 33 ∨ k = 34) ∧ j = i) ∨ (k = 35 ∧ 3 * i ≤ j ∧ j ≤ 3 * i + 2) ∨ ((k = 36 ∨ k = 37) ∧ S ≤ j)
section
variable {d M q : Nat} {Φ : Option pe_V → pe_H → Prop} {σ : pe_H} {y : Nat → Int → Int} {a s : pa_M} {c i k o S : Int} {l : List Int}
theorem pm_TS_keep {S' : Int} {i' B : Int} {y2 : Nat → Int → Int} (hf : pm_fr (pm_Z5 i S') y y2) (hi : i' < i) (hB : B ≤ S') (h : pm_TS y l i' k B) : pm_TS y2 l i' k B := by
  obtain ⟨h1, h2, h3, h4, h5, h6⟩ := h
  unfold pm_TS
  rw [hf 33 i' (by unfold pm_Z5; omega), hf 34 i' (by unfold pm_Z5; omega), hf 35 (3 * i') (by unfold pm_Z5; omega), hf 35 (3 * i' + 1) (by unfold pm_Z5; omega), hf 35 (3 * i' + 2) (by unfold pm_Z5; omega)]
  refine ⟨h1, h2, h3, fun e => ?_, h5, h6⟩
  obtain ⟨S, b1, b2, b3, b4⟩ := h4 e
  refine ⟨S, b1, b2, b3, fun t ht => ?_⟩
  rw [hf 36 _ (by unfold pm_Z5; omega), hf 37 _ (by unfold pm_Z5; omega)]
  exact b4 t ht
theorem pm_TS_same {B B' : Int} {y2 : Nat → Int → Int} (hf : ∀ k, 33 ≤ k → k ≤ 37 → ∀ j, y2 k j = y k j) (hB : B ≤ B') (h : pm_TS y l i k B) : pm_TS y2 l i k B' := by
  obtain ⟨h1, h2, h3, h4, h5, h6⟩ := h
  unfold pm_TS
  rw [hf 33 (by decide) (by decide), hf 34 (by decide) (by decide), hf 35 (by decide) (by decide), hf 35 (by decide) (by decide), hf 35 (by decide) (by decide)]
  refine ⟨h1, h2, h3, fun e => ?_, h5, h6⟩
  obtain ⟨S, b1, b2, b3, b4⟩ := h4 e
  refine ⟨S, by omega, b2, b3, fun t ht => ?_⟩
  rw [hf 36 (by decide) (by decide), hf 37 (by decide) (by decide)]
  exact b4 t ht
theorem c173b {n : Nat} (hF : pm_F M σ) (hb : y 0 40 = 1) (hn : n ≤ 2) (kk : ∀ y2, pm_fr pm_Z2 y y2 → y2 0 39 = y 0 39 → y2 0 40 = 1 → Φ (some (.inl 0)) (pm_h M σ q y2)) : pe_M (d + 2) 173 [.inr (.inr M), .inl (n : Int)] (pm_h M σ q y) Φ := by
  have bad : ∀ (t i : Nat) (y4 : Nat → Int → Int), i + t = n → pm_fr pm_Z2 y y4 → y4 0 39 = y 0 39 → y4 0 40 = 1 → pe_X (d + 1) 173 (4, [some (.inr (.inr M)), some (.inl (n : Int)), some (.inl 0), some (.inl (i : Int))], [], pm_h M σ q y4) Φ := by
    intro t
    induction t with
    | zero =>
      intro i y4 hi f e39 e40
      refine b173_4 hF (k1 := fun _ => ?_) (k2 := fun r => by omega)
      refine b173_93 hF (k := ?_)
      exact kk y4 f e39 e40
    | succ t ih =>
      intro i y4 hi f e39 e40
      refine b173_4 hF (k1 := fun r => by omega) (k2 := fun _ => ?_)
      refine b173_9 hF (k1 := fun _ => ?_) (k2 := fun r => by omega)
      refine b173_34 hF (k := ?_)
      refine b173_39 hF (k1 := fun r => by omega) (k2 := fun _ => ?_)
      have f5 : pm_fr pm_Z2 y (pm_u y4 0 40 1) := pm_fr_then f (by unfold pm_Z2; omega)
      have g39 : (pm_u y4 0 40 1) 0 39 = y 0 39 := by simpa [pm_u] using e39
      have g40 : (pm_u y4 0 40 1) 0 40 = 1 := pm_us
      generalize pm_u y4 0 40 1 = y5 at *
      refine b173_49 hF (k := ?_)
      refine b173_65 hF (k1 := fun r => by omega) (k2 := fun _ => ?_)
      refine b173_78 hF (k := ?_)
      refine b173_83 hF (k := ?_)
      exact ih (i + 1) _ (by omega) (pm_fr_then f5 (by unfold pm_Z2; omega)) (by simp [pm_u, g39]) (by simpa [pm_u] using g40)
  refine pe_M_of ck173 (Nat.le_of_ble_eq_true rfl) ?_
  refine b173_0 hF (k := ?_)
  exact bad n 0 y (by omega) (pm_fr_refl _ _) rfl hb
theorem c175b (hF : pm_F M σ) (hb : y 0 40 = 1) (ho : 0 ≤ o ∧ o ≤ 150) (kk : ∀ y2, pm_fr (pm_Z3 o S) y y2 → y2 0 39 = y 0 39 → y2 0 40 = 1 → Φ none (pm_h M σ q y2)) : pe_M (d + 3) 175 [.inr (.inr M), .inl o] (pm_h M σ q y) Φ := by
  refine pe_M_of ck175 (Nat.le_of_ble_eq_true rfl) ?_
  refine b175_0 hF (k := ?_)
  have f5 : pm_fr (pm_Z3 o S) y (pm_u y 35 (o + 1) (y 0 47)) := pm_fr_u (by unfold pm_Z3; omega)
  have g39 : (pm_u y 35 (o + 1) (y 0 47)) 0 39 = y 0 39 := by simp [pm_u]
  have g40 : (pm_u y 35 (o + 1) (y 0 47)) 0 40 = 1 := by simpa [pm_u] using hb
  generalize pm_u y 35 (o + 1) (y 0 47) = y5 at *
  refine b175_12 hF (k1 := fun _ => ?_) (k2 := fun r => by omega)
  refine b175_91 hF (k := ?_)
  exact kk _ (pm_fr_then f5 (by unfold pm_Z3; omega)) (by simpa [pm_u] using g39) (by simpa [pm_u] using g40)
theorem pm_Z2_Z3 (k : Nat) (j : Int) (h : pm_Z2 k j) : pm_Z3 o S k j := by unfold pm_Z2 at h; unfold pm_Z3; omega
/-- readNumbers -/
theorem c176 (hF : pm_F M σ) (hr : pm_rd y l) (hk : 0 ≤ k ∧ k ≤ 100) (hp : y 0 39 = k + 1) (hb : y 0 40 = 0) (hS : S = y 0 47) (hS1 : 0 ≤ S ∧ S ≤ k) (ho : 0 ≤ o ∧ o ≤ 150) (hc : c = pt_at l k) (hc6 : c = 112 ∨ c = 99 ∨ c = 110 ∨ c = 108 ∨ c = 120 ∨ c = 119) (kk : ∀ y2, pm_fr (pm_Z3 o S) y y2 → pm_rn y2 l k o S → Φ none (pm_h M σ q y2)) : pe_M (d + 4) 176 [.inr (.inr M), .inl c, .inl o] (pm_h M σ q y) Φ := by
  have hat := hr.r
  have hbad : ∀ (y3 : Nat → Int → Int) (v : Int), pm_fr (pm_Z3 o S) y y3 → y3 0 40 = 1 → pt_stmt l k = -1000 - y3 0 39 → 0 ≤ y3 0 39 → y3 0 39 ≤ 200 → pe_X (d + 3) 176 (20, [some (.inr (.inr M)), some (.inl c), some (.inl o)], [.inl v, .inl o, .inr (.inr (M + 35))], pm_h M σ q y3) Φ := fun y3 v f e40 hv h0 h2 => by
    have f4 : pm_fr (pm_Z3 o S) y (pm_u y3 35 o v) := pm_fr_then f (by unfold pm_Z3; omega)
    have g40 : (pm_u y3 35 o v) 0 40 = 1 := by simpa [pm_u] using e40
    have g39 : (pm_u y3 35 o v) 0 39 = y3 0 39 := by simp [pm_u]
    have end83 : ∀ (y5 : Nat → Int → Int) (o1 o2 : Option pe_V), pm_fr (pm_Z3 o S) y y5 → y5 0 40 = 1 → y5 0 39 = y3 0 39 → pe_X (d + 3) 176 (83, [some (.inr (.inr M)), o1, o2], [], pm_h M σ q y5) Φ := fun y5 o1 o2 f5 h40 h39 => by
      refine b176_83 hF (k := ?_)
      exact kk y5 f5 (Or.inr ⟨h40, by rw [h39]; exact hv, by omega, by omega⟩)
    rcases hc6 with rfl | rfl | rfl | rfl | rfl | rfl
    · refine b176_20 hF (k1 := fun r => by omega) (k2 := fun _ => ?_)
      generalize pm_u y3 35 o v = y4 at *
      refine b176_27 hF (k := ?_)
      refine pe_M.up (c175b (d := 0) (S := S) hF g40 ho (fun y5 u1 u2 u3 => ?_)) (by omega)
      refine b176_32 hF (k1 := fun _ => ?_) (k2 := fun r => by omega)
      refine b176_64 hF (k1 := fun _ => ?_) (k2 := fun r => by omega)
      exact end83 y5 _ _ (pm_fr_trans f4 u1) u3 (u2.trans g39)
    · refine b176_20 hF (k1 := fun _ => ?_) (k2 := fun r => by omega)
      generalize pm_u y3 35 o v = y4 at *
      refine b176_32 hF (k1 := fun r => by omega) (k2 := fun _ => ?_)
      refine b176_38 hF (k := ?_)
      refine pe_M.up (c173b (d := 0) (n := 1) hF g40 (by decide) (fun y5 u1 u2 u3 => ?_)) (by omega)
      refine b176_50 hF (k := ?_)
      have w1 : pm_fr (pm_Z3 o S) y (pm_u y5 35 (o + 1) 0) := pm_fr_then (pm_fr_trans f4 (pm_fr_mono u1 pm_Z2_Z3)) (by unfold pm_Z3; omega)
      have w2 : (pm_u y5 35 (o + 1) 0) 0 40 = 1 := by simpa [pm_u] using u3
      have w3 : (pm_u y5 35 (o + 1) 0) 0 39 = y3 0 39 := by simp [pm_u, u2, g39]
      generalize pm_u y5 35 (o + 1) 0 = y6 at *
      refine pe_M.up (c173b (d := 0) (n := 1) hF w2 (by decide) (fun y7 x1 x2 x3 => ?_)) (by omega)
      refine b176_63 hF (k := ?_)
      refine b176_64 hF (k1 := fun _ => ?_) (k2 := fun r => by omega)
      exact end83 _ _ _ (pm_fr_then (pm_fr_trans w1 (pm_fr_mono x1 pm_Z2_Z3)) (by unfold pm_Z3; omega)) (by simpa [pm_u] using x3) (by simp [pm_u, x2, w3])
    · refine b176_20 hF (k1 := fun _ => ?_) (k2 := fun r => by omega)
      generalize pm_u y3 35 o v = y4 at *
      refine b176_32 hF (k1 := fun _ => ?_) (k2 := fun r => by omega)
      refine b176_64 hF (k1 := fun r => by omega) (k2 := fun _ => ?_)
      refine b176_70 hF (k := ?_)
      refine pe_M.up (c173b (d := 0) (n := 2) hF g40 (by decide) (fun y5 u1 u2 u3 => ?_)) (by omega)
      refine b176_82 hF (k := ?_)
      exact end83 _ _ _ (pm_fr_then (pm_fr_trans f4 (pm_fr_mono u1 pm_Z2_Z3)) (by unfold pm_Z3; omega)) (by simpa [pm_u] using u3) (by simp [pm_u, u2, g39])
    · refine b176_20 hF (k1 := fun _ => ?_) (k2 := fun r => by omega)
      refine b176_32 hF (k1 := fun _ => ?_) (k2 := fun r => by omega)
      refine b176_64 hF (k1 := fun _ => ?_) (k2 := fun r => by omega)
      exact end83 _ _ _ f4 g40 g39
    · refine b176_20 hF (k1 := fun _ => ?_) (k2 := fun r => by omega)
      refine b176_32 hF (k1 := fun _ => ?_) (k2 := fun r => by omega)
      refine b176_64 hF (k1 := fun _ => ?_) (k2 := fun r => by omega)
      exact end83 _ _ _ f4 g40 g39
    · refine b176_20 hF (k1 := fun _ => ?_) (k2 := fun r => by omega)
      refine b176_32 hF (k1 := fun _ => ?_) (k2 := fun r => by omega)
      refine b176_64 hF (k1 := fun _ => ?_) (k2 := fun r => by omega)
      exact end83 _ _ _ f4 g40 g39
  have n3 : ∀ j, pt_nums l 3 j = if pt_dg l j then pt_nums l 2 (j + 1) else -1000 - j := fun _ => rfl
  have n2 : ∀ j, pt_nums l 2 j = if pt_dg l j then pt_nums l 1 (j + 1) else -1000 - j := fun _ => rfl
  have n1 : ∀ j, pt_nums l 1 j = if pt_dg l j then (if pt_at l (j + 1) = 59 then j + 1 + 1 else -1000 - (j + 1)) else -1000 - j := fun _ => rfl
  have e2 : k + 1 + 1 = k + 2 := by omega
  have e3 : k + 2 + 1 = k + 3 := by omega
  have e4 : k + 3 + 1 = k + 4 := by omega
  refine pe_M_of ck176 (Nat.le_of_ble_eq_true rfl) ?_
  by_cases c108 : c = 108
  · subst c108
    have hst : pt_stmt l k = pt_nums l 2 (k + 1) := by unfold pt_stmt; rw [if_neg (by omega), if_neg (by omega), if_pos (by omega)]
    rw [n2, n1, e2, e3] at hst
    refine b176_0 hF (k1 := fun r => by omega) (k2 := fun _ => ?_)
    refine b176_12 hF (k := ?_)
    refine b176_17 hF (k := ?_)
    refine pe_M.up (c173_2 (d := 0) hF hr (by omega) hb (fun d1 d2 y3 u1 u2 u3 => ?_) (fun d1 y3 u1 u2 u3 => ?_) (fun d1 d2 y3 u1 u2 u3 => ?_)) (by omega)
    · rw [hp] at d1 d2 u2 ⊢
      rw [e2] at d2
      rw [if_pos d1, if_pos d2] at hst
      refine b176_20 hF (k1 := fun _ => ?_) (k2 := fun r => by omega)
      refine b176_32 hF (k1 := fun _ => ?_) (k2 := fun r => by omega)
      refine b176_64 hF (k1 := fun _ => ?_) (k2 := fun r => by omega)
      refine b176_83 hF (k := ?_)
      refine kk _ (pm_fr_then (pm_fr_mono u1 pm_Z2_Z3) (by unfold pm_Z3; omega)) (Or.inl ⟨?_, ?_, ?_, ?_, ?_, fun e => by omega, fun e => by omega, fun e => by omega⟩)
      · simpa [pm_u] using u3
      · simp [pm_u, u2]; omega
      · have : (pm_u y3 35 o (pt_dd l (k + 1))) 0 39 = k + 3 := by simp [pm_u, u2]; omega
        rw [this, hst]
      · have h39 : (pm_u y3 35 o (pt_dd l (k + 1))) 0 39 = k + 3 := by simp [pm_u, u2]; omega
        have h47 : (pm_u y3 35 o (pt_dd l (k + 1))) 0 47 = S := by simp [pm_u]; rw [u1 0 47 (by unfold pm_Z2; omega), hS]
        omega
      · rw [if_pos (by omega)]; simp [pm_u]
    · rw [hp] at d1 u2
      rw [if_neg d1] at hst
      exact hbad y3 _ (pm_fr_mono u1 pm_Z2_Z3) u3 (by rw [hst]; omega) (by omega) (by omega)
    · rw [hp] at d1 d2 u2
      rw [e2] at d2
      rw [if_pos d1, if_neg d2] at hst
      exact hbad y3 _ (pm_fr_mono u1 pm_Z2_Z3) u3 (by rw [hst]; omega) (by omega) (by omega)
  · refine b176_0 hF (k1 := fun _ => ?_) (k2 := fun r => by omega)
    refine b176_16 hF (k := ?_)
    refine b176_17 hF (k := ?_)
    refine pe_M.up (c173_1 (d := 0) hF hr (by omega) hb (fun d1 y3 u1 u2 u3 => ?_) (fun d1 y3 u1 u2 u3 => ?_)) (by omega)
    · rw [hp] at d1 u2 ⊢
      have f3 : pm_fr (pm_Z3 o S) y (pm_u y3 35 o (pt_d l (k + 1))) := pm_fr_then (pm_fr_mono u1 pm_Z2_Z3) (by unfold pm_Z3; omega)
      have g39 : (pm_u y3 35 o (pt_d l (k + 1))) 0 39 = k + 2 := by simp [pm_u, u2]; omega
      have g40 : (pm_u y3 35 o (pt_d l (k + 1))) 0 40 = 0 := by simpa [pm_u] using u3
      have g47 : (pm_u y3 35 o (pt_d l (k + 1))) 0 47 = S := by simp [pm_u]; rw [u1 0 47 (by unfold pm_Z2; omega), hS]
      have g35 : (pm_u y3 35 o (pt_d l (k + 1))) 35 o = pt_d l (k + 1) := by simp [pm_u]
      have hr4 := pm_rd_fr f3 (by unfold pm_Z3; omega) (by unfold pm_Z3; omega) hr
      by_cases c112 : c = 112
      · subst c112
        have hst : pt_stmt l k = pt_pend l 101 (k + 2) := by unfold pt_stmt; rw [if_pos (by omega), if_pos d1]
        refine b176_20 hF (k1 := fun r => by omega) (k2 := fun _ => ?_)
        generalize pm_u y3 35 o (pt_d l (k + 1)) = y4 at *
        refine b176_27 hF (k := ?_)
        refine pe_M.up (c175 (d := 0) hF hr4 (by omega) g40 (by omega) ho (fun y5 v1 v2 v3 => ?_)) (by omega)
        rw [g39, g47] at v3
        rw [g47] at v1
        refine b176_32 hF (k1 := fun _ => ?_) (k2 := fun r => by omega)
        refine b176_64 hF (k1 := fun _ => ?_) (k2 := fun r => by omega)
        refine b176_83 hF (k := ?_)
        refine kk y5 (pm_fr_trans f3 v1) ?_
        rcases v3 with ⟨w1, w2, w3, w4, w5, w6, w7, w8⟩ | ⟨w1, w2, w3, w4⟩
        · refine Or.inl ⟨w1, by omega, by rw [hst]; exact w3, by omega, ?_, fun _ => ⟨w6, w7, w5, w8⟩, fun e => by omega, fun e => by omega⟩
          rw [if_neg (by omega), v2 o rfl, g35]
        · exact Or.inr ⟨w1, by rw [hst]; exact w2, w3, w4⟩
      · by_cases c99 : c = 99
        · subst c99
          have hst : pt_stmt l k = pt_nums l 3 (k + 1) := by unfold pt_stmt; rw [if_neg (by omega), if_pos (by omega)]
          rw [n3, n2, n1, e2, e3, e4, if_pos d1] at hst
          refine b176_20 hF (k1 := fun _ => ?_) (k2 := fun r => by omega)
          generalize pm_u y3 35 o (pt_d l (k + 1)) = y4 at *
          refine b176_32 hF (k1 := fun r => by omega) (k2 := fun _ => ?_)
          refine b176_38 hF (k := ?_)
          have hend : ∀ y7, pm_fr (pm_Z3 o S) y y7 → y7 0 40 = 1 → pt_stmt l k = -1000 - y7 0 39 → 0 ≤ y7 0 39 → y7 0 39 ≤ 200 → pe_X (d + 3) 176 (63, [some (.inr (.inr M)), some (.inl 99), some (.inl o)], [.inl 0, .inl (o + 2), .inr (.inr (M + 35))], pm_h M σ q y7) Φ := fun y7 x1 x2 x3 x4 x5 => by
            refine b176_63 hF (k := ?_)
            refine b176_64 hF (k1 := fun _ => ?_) (k2 := fun r => by omega)
            refine b176_83 hF (k := ?_)
            exact kk _ (pm_fr_then x1 (by unfold pm_Z3; omega)) (Or.inr ⟨by simpa [pm_u] using x2, by simpa [pm_u] using x3, by simpa [pm_u] using x4, by simpa [pm_u] using x5⟩)
          refine pe_M.up (c173_1 (d := 0) hF hr4 (by omega) g40 (fun d2 y5 v1 v2 v3 => ?_) (fun d2 y5 v1 v2 v3 => ?_)) (by omega)
          · rw [g39] at d2 v2 ⊢
            rw [if_pos d2] at hst
            refine b176_50 hF (k := ?_)
            have f5 : pm_fr (pm_Z3 o S) y (pm_u y5 35 (o + 1) (pt_d l (k + 2))) := pm_fr_then (pm_fr_trans f3 (pm_fr_mono v1 pm_Z2_Z3)) (by unfold pm_Z3; omega)
            have h39 : (pm_u y5 35 (o + 1) (pt_d l (k + 2))) 0 39 = k + 3 := by simp [pm_u, v2]; omega
            have h40 : (pm_u y5 35 (o + 1) (pt_d l (k + 2))) 0 40 = 0 := by simpa [pm_u] using v3
            have h47 : (pm_u y5 35 (o + 1) (pt_d l (k + 2))) 0 47 = S := by simp [pm_u]; rw [v1 0 47 (by unfold pm_Z2; omega), g47]
            have h35 : (pm_u y5 35 (o + 1) (pt_d l (k + 2))) 35 o = pt_d l (k + 1) := by simp [pm_u]; rw [v1 35 o (by unfold pm_Z2; omega), g35, if_neg (by omega)]
            have h351 : (pm_u y5 35 (o + 1) (pt_d l (k + 2))) 35 (o + 1) = pt_d l (k + 2) := by simp [pm_u]
            have hr6 := pm_rd_fr f5 (by unfold pm_Z3; omega) (by unfold pm_Z3; omega) hr
            generalize pm_u y5 35 (o + 1) (pt_d l (k + 2)) = y6 at *
            refine pe_M.up (c173_1 (d := 0) hF hr6 (by omega) h40 (fun d3 y7 x1 x2 x3 => ?_) (fun d3 y7 x1 x2 x3 => ?_)) (by omega)
            · rw [h39] at d3 x2 ⊢
              rw [if_pos d3] at hst
              refine b176_63 hF (k := ?_)
              refine b176_64 hF (k1 := fun _ => ?_) (k2 := fun r => by omega)
              refine b176_83 hF (k := ?_)
              refine kk _ (pm_fr_then (pm_fr_trans f5 (pm_fr_mono x1 pm_Z2_Z3)) (by unfold pm_Z3; omega)) (Or.inl ⟨?_, ?_, ?_, ?_, ?_, fun e => by omega, fun _ => ⟨?_, ?_⟩, fun e => by omega⟩)
              · simpa [pm_u] using x3
              · simp [pm_u, x2]; omega
              · have : (pm_u y7 35 (o + 2) (pt_d l (k + 3))) 0 39 = k + 4 := by simp [pm_u, x2]; omega
                rw [this, hst]
              · have h39 : (pm_u y7 35 (o + 2) (pt_d l (k + 3))) 0 39 = k + 4 := by simp [pm_u, x2]; omega
                have h47 : (pm_u y7 35 (o + 2) (pt_d l (k + 3))) 0 47 = S := by simp [pm_u]; rw [x1 0 47 (by unfold pm_Z2; omega), h47]
                omega
              · rw [if_neg (by omega)]; simp [pm_u]; rw [x1 35 o (by unfold pm_Z2; omega), h35, if_neg (by omega)]
              · simp [pm_u]; rw [x1 35 _ (by unfold pm_Z2; omega), h351]
              · simp [pm_u]
            · rw [h39] at d3 x2
              rw [if_neg d3] at hst
              exact hend y7 (pm_fr_trans f5 (pm_fr_mono x1 pm_Z2_Z3)) x3 (by rw [hst]; omega) (by omega) (by omega)
          · rw [g39] at d2 v2
            rw [if_neg d2] at hst
            refine b176_50 hF (k := ?_)
            have w1 : pm_fr (pm_Z3 o S) y (pm_u y5 35 (o + 1) 0) := pm_fr_then (pm_fr_trans f3 (pm_fr_mono v1 pm_Z2_Z3)) (by unfold pm_Z3; omega)
            have w2 : (pm_u y5 35 (o + 1) 0) 0 40 = 1 := by simpa [pm_u] using v3
            have w3 : (pm_u y5 35 (o + 1) 0) 0 39 = k + 2 := by simp [pm_u, v2]
            generalize pm_u y5 35 (o + 1) 0 = y6 at *
            refine pe_M.up (c173b (d := 0) (n := 1) hF w2 (by decide) (fun y7 x1 x2 x3 => ?_)) (by omega)
            exact hend y7 (pm_fr_trans w1 (pm_fr_mono x1 pm_Z2_Z3)) x3 (by rw [hst]; omega) (by omega) (by omega)
        · by_cases c110 : c = 110
          · subst c110
            have hst : pt_stmt l k = pt_nums l 3 (k + 1) := by unfold pt_stmt; rw [if_neg (by omega), if_pos (by omega)]
            rw [n3, n2, n1, e2, e3, e4, if_pos d1] at hst
            refine b176_20 hF (k1 := fun _ => ?_) (k2 := fun r => by omega)
            generalize pm_u y3 35 o (pt_d l (k + 1)) = y4 at *
            refine b176_32 hF (k1 := fun _ => ?_) (k2 := fun r => by omega)
            refine b176_64 hF (k1 := fun r => by omega) (k2 := fun _ => ?_)
            refine b176_70 hF (k := ?_)
            have hend : ∀ y7, pm_fr (pm_Z3 o S) y y7 → y7 0 40 = 1 → pt_stmt l k = -1000 - y7 0 39 → 0 ≤ y7 0 39 → y7 0 39 ≤ 200 → ∀ o1 o2, pe_X (d + 3) 176 (82, [some (.inr (.inr M)), o1, o2], [.inl 0, .inl (o + 1), .inr (.inr (M + 35))], pm_h M σ q y7) Φ := fun y7 x1 x2 x3 x4 x5 o1 o2 => by
              refine b176_82 hF (k := ?_)
              refine b176_83 hF (k := ?_)
              exact kk _ (pm_fr_then x1 (by unfold pm_Z3; omega)) (Or.inr ⟨by simpa [pm_u] using x2, by simpa [pm_u] using x3, by simpa [pm_u] using x4, by simpa [pm_u] using x5⟩)
            refine pe_M.up (c173_2 (d := 0) hF hr4 (by omega) g40 (fun d2 d3 y5 v1 v2 v3 => ?_) (fun d2 y5 v1 v2 v3 => ?_) (fun d2 d3 y5 v1 v2 v3 => ?_)) (by omega)
            · rw [g39] at d2 d3 v2 ⊢
              rw [e3] at d3
              rw [if_pos d2, if_pos d3] at hst
              refine b176_82 hF (k := ?_)
              refine b176_83 hF (k := ?_)
              refine kk _ (pm_fr_then (pm_fr_trans f3 (pm_fr_mono v1 pm_Z2_Z3)) (by unfold pm_Z3; omega)) (Or.inl ⟨?_, ?_, ?_, ?_, ?_, fun e => by omega, fun e => by omega, fun _ => ?_⟩)
              · simpa [pm_u] using v3
              · simp [pm_u, v2]; omega
              · have : (pm_u y5 35 (o + 1) (pt_dd l (k + 2))) 0 39 = k + 4 := by simp [pm_u, v2]; omega
                rw [this, hst]
              · have h39 : (pm_u y5 35 (o + 1) (pt_dd l (k + 2))) 0 39 = k + 4 := by simp [pm_u, v2]; omega
                have h47 : (pm_u y5 35 (o + 1) (pt_dd l (k + 2))) 0 47 = S := by simp [pm_u]; rw [v1 0 47 (by unfold pm_Z2; omega), g47]
                omega
              · rw [if_neg (by omega)]; simp [pm_u]; rw [v1 35 o (by unfold pm_Z2; omega), g35, if_neg (by omega)]
              · simp [pm_u]
            · rw [g39] at d2 v2
              rw [if_neg d2] at hst
              exact hend y5 (pm_fr_trans f3 (pm_fr_mono v1 pm_Z2_Z3)) v3 (by rw [hst]; omega) (by omega) (by omega) _ _
            · rw [g39] at d2 d3 v2
              rw [e3] at d3
              rw [if_pos d2, if_neg d3] at hst
              exact hend y5 (pm_fr_trans f3 (pm_fr_mono v1 pm_Z2_Z3)) v3 (by rw [hst]; omega) (by omega) (by omega) _ _
          · have hst : pt_stmt l k = pt_nums l 1 (k + 1) := by unfold pt_stmt; rw [if_neg (by omega), if_neg (by omega), if_neg (by omega), if_pos (by omega)]
            rw [n1, if_pos d1, e2] at hst
            refine b176_20 hF (k1 := fun _ => ?_) (k2 := fun r => by omega)
            refine b176_32 hF (k1 := fun _ => ?_) (k2 := fun r => by omega)
            refine b176_64 hF (k1 := fun _ => ?_) (k2 := fun r => by omega)
            refine b176_83 hF (k := ?_)
            refine kk _ f3 (Or.inl ⟨g40, by omega, by rw [g39, hst], by omega, ?_, fun e => by omega, fun e => by omega, fun e => by omega⟩)
            rw [if_neg (by omega), g35]
    · rw [hp] at d1 u2
      have hst : pt_stmt l k = -1000 - (k + 1) := by
        unfold pt_stmt
        rw [n3, n1]
        by_cases q1 : pt_at l k = 112
        · rw [if_pos q1, if_neg d1]
        · rw [if_neg q1]
          by_cases q2 : pt_at l k = 99 ∨ pt_at l k = 110
          · rw [if_pos q2, if_neg d1]
          · rw [if_neg q2, if_neg (by omega), if_pos (by omega), if_neg d1]
      exact hbad y3 _ (pm_fr_mono u1 pm_Z2_Z3) u3 (by rw [hst]; omega) (by omega) (by omega)
/-- readStatement -/
theorem c177 (hF : pm_F M σ) (hr : pm_rd y l) (hk : 0 ≤ k ∧ k ≤ 100) (hp : y 0 39 = k) (hb : y 0 40 = 0) (hi : y 0 41 = i) (hi0 : 0 ≤ i ∧ i ≤ 50) (hS : S = y 0 47) (hS1 : 0 ≤ S ∧ S ≤ k) (kk : ∀ y2, pm_fr (pm_Z5 i S) y y2 → y2 0 41 = i + 1 → ((y2 0 40 = 0 ∧ pt_stmt l k = y2 0 39 ∧ 0 ≤ y2 0 39 ∧ (S ≤ y2 0 47 ∧ y2 0 47 ≤ y2 0 39) ∧ pm_TS y2 l i k (y2 0 47)) ∨ (y2 0 40 = 1 ∧ pt_stmt l k = -1000 - y2 0 39 ∧ 0 ≤ y2 0 39 ∧ y2 0 39 ≤ 200)) → Φ none (pm_h M σ q y2)) : pe_M (d + 5) 177 [.inr (.inr M)] (pm_h M σ q y) Φ := by
  have hat := hr.r
  have ha := hat k
  have Z35 : ∀ (k : Nat) (j : Int), pm_Z3 (3 * i) S k j → pm_Z5 i S k j := fun k j h => by unfold pm_Z3 at h; unfold pm_Z5; omega
  have fin1 : ∀ (y4 : Nat → Int → Int) (o1 o2 : Option pe_V), pm_fr (pm_Z5 i S) y y4 → y4 0 41 = i → pt_stmt l k = -1000 - y4 0 39 → 0 ≤ y4 0 39 → y4 0 39 ≤ 200 → pe_X (d + 4) 177 (132, [some (.inr (.inr M)), o1, o2], [.inr (.inr M)], pm_h M σ q y4) Φ := fun y4 o1 o2 f h41 hv h0 h2 => by
    refine b177_132 hF (k := ?_)
    refine b177_137 hF (k1 := fun r => by omega) (k2 := fun _ => ?_)
    have f5 : pm_fr (pm_Z5 i S) y (pm_u y4 0 40 1) := pm_fr_then f (by unfold pm_Z5; omega)
    have g40 : (pm_u y4 0 40 1) 0 40 = 1 := pm_us
    have g39 : (pm_u y4 0 40 1) 0 39 = y4 0 39 := by simp [pm_u]
    have g41 : (pm_u y4 0 40 1) 0 41 = i := by simpa [pm_u] using h41
    generalize pm_u y4 0 40 1 = y5 at *
    refine b177_152 hF (k := ?_)
    refine b177_157 hF (k := ?_)
    refine kk _ (pm_fr_then (pm_fr_then f5 (by unfold pm_Z5; omega)) (by unfold pm_Z5; omega)) ?_ (Or.inr ⟨?_, ?_, ?_, ?_⟩)
    · simp [pm_u, g41]
    · simpa [pm_u] using g40
    · simp [pm_u, g39]; exact hv
    · simp [pm_u, g39]; exact h0
    · simp [pm_u, g39]; exact h2
  refine pe_M_of ck177 (Nat.le_of_ble_eq_true rfl) ?_
  refine b177_0 hF (k := ?_)
  refine pe_M.up (c172 (d := 0) hF hr (by omega) (fun v hv => ?_)) (by omega)
  rw [hp] at hv
  rw [hi]
  refine b177_9 hF (k1 := fun r => by omega) (k2 := fun _ => ?_)
  have f1 : pm_fr (pm_Z5 i S) y (pm_u (pm_u y 33 i (y 0 39)) 34 i v) := pm_fr_then (pm_fr_u (by unfold pm_Z5; omega)) (by unfold pm_Z5; omega)
  have a33 : (pm_u (pm_u y 33 i (y 0 39)) 34 i v) 33 i = k := by simp [pm_u, hp]
  have a34 : (pm_u (pm_u y 33 i (y 0 39)) 34 i v) 34 i = v := by simp [pm_u]
  have a39 : (pm_u (pm_u y 33 i (y 0 39)) 34 i v) 0 39 = k := by simpa [pm_u] using hp
  have a40 : (pm_u (pm_u y 33 i (y 0 39)) 34 i v) 0 40 = 0 := by simpa [pm_u] using hb
  have a41 : (pm_u (pm_u y 33 i (y 0 39)) 34 i v) 0 41 = i := by simpa [pm_u] using hi
  have a47 : (pm_u (pm_u y 33 i (y 0 39)) 34 i v) 0 47 = S := by simp [pm_u, hS]
  generalize pm_u (pm_u y 33 i (y 0 39)) 34 i v = z at *
  have good : (v = 112 ∨ v = 99 ∨ v = 110 ∨ v = 108 ∨ v = 120 ∨ v = 119) → pe_X (d + 4) 177 (75, [some (.inr (.inr M)), some (.inl i), some (.inl v)], [.inr (.inr M)], pm_h M σ q z) Φ := fun h6 => by
    have hv : v = pt_at l k := by omega
    refine b177_75 hF (k := ?_)
    refine b177_76 hF (k1 := fun _ => ?_) (k2 := fun r => by omega)
    have f5 : pm_fr (pm_Z5 i S) y (pm_u z 0 40 0) := pm_fr_then f1 (by unfold pm_Z5; omega)
    have b33 : (pm_u z 0 40 0) 33 i = k := by simpa [pm_u] using a33
    have b34 : (pm_u z 0 40 0) 34 i = v := by simpa [pm_u] using a34
    have b39 : (pm_u z 0 40 0) 0 39 = k := by simpa [pm_u] using a39
    have b40 : (pm_u z 0 40 0) 0 40 = 0 := pm_us
    have b41 : (pm_u z 0 40 0) 0 41 = i := by simpa [pm_u] using a41
    have b47 : (pm_u z 0 40 0) 0 47 = S := by simpa [pm_u] using a47
    generalize pm_u z 0 40 0 = z2 at *
    refine b177_95 hF (k := ?_)
    rw [a39]
    refine b177_96 hF (k1 := fun r => by omega) (k2 := fun _ => ?_)
    have f6 : pm_fr (pm_Z5 i S) y (pm_u z2 0 39 (k + 1)) := pm_fr_then f5 (by unfold pm_Z5; omega)
    have d33 : (pm_u z2 0 39 (k + 1)) 33 i = k := by simpa [pm_u] using b33
    have d34 : (pm_u z2 0 39 (k + 1)) 34 i = v := by simpa [pm_u] using b34
    have d39 : (pm_u z2 0 39 (k + 1)) 0 39 = k + 1 := pm_us
    have d40 : (pm_u z2 0 39 (k + 1)) 0 40 = 0 := by simpa [pm_u] using b40
    have d41 : (pm_u z2 0 39 (k + 1)) 0 41 = i := by simpa [pm_u] using b41
    have d47 : (pm_u z2 0 39 (k + 1)) 0 47 = S := by simpa [pm_u] using b47
    have hr6 := pm_rd_fr f6 (by unfold pm_Z5; omega) (by unfold pm_Z5; omega) hr
    generalize pm_u z2 0 39 (k + 1) = z3 at *
    refine b177_107 hF (k := ?_)
    refine c176 hF hr6 hk d39 d40 d47.symm hS1 (by omega) hv h6 (fun y4 u1 u2 => ?_)
    have f7 := pm_fr_trans f6 (pm_fr_mono u1 Z35)
    have e41 : y4 0 41 = i := (u1 0 41 (by unfold pm_Z3; omega)).trans d41
    rcases u2 with ⟨w1, w2, w3, w4, w5, w6, w7, w8⟩ | ⟨w1, w2, w3, w4⟩
    · have hr7 := pm_rd_fr f7 (by unfold pm_Z5; omega) (by unfold pm_Z5; omega) hr
      have ha2 := hat (y4 0 39)
      refine b177_115 hF (k1 := fun r => by omega) (k2 := fun _ => ?_)
      refine b177_123 hF (k := ?_)
      refine pe_M.up (c172 (d := 0) hF hr7 (by omega) (fun v2 hv2 => ?_)) (by omega)
      refine b177_127 hF (k1 := fun r => ?_) (k2 := fun r => ?_)
      · rw [if_pos (by omega)] at w3
        refine b177_136 hF (k := ?_)
        refine b177_137 hF (k1 := fun _ => ?_) (k2 := fun r => by omega)
        have f8 : pm_fr (pm_Z5 i S) y (pm_u y4 0 40 0) := pm_fr_then f7 (by unfold pm_Z5; omega)
        have hs8 : ∀ k, k ≠ 0 → ∀ j, (pm_u y4 0 40 0) k j = y4 k j := fun k hk j => by simp [pm_u, hk]
        have g39 : (pm_u y4 0 40 0) 0 39 = y4 0 39 := by simp [pm_u]
        have g40 : (pm_u y4 0 40 0) 0 40 = 0 := pm_us
        have g41 : (pm_u y4 0 40 0) 0 41 = i := by simpa [pm_u] using e41
        have g47 : (pm_u y4 0 40 0) 0 47 = y4 0 47 := by simp [pm_u]
        generalize pm_u y4 0 40 0 = y5 at *
        refine b177_156 hF (k := ?_)
        refine b177_157 hF (k := ?_)
        refine kk _ (pm_fr_then (pm_fr_then f8 (by unfold pm_Z5; omega)) (by unfold pm_Z5; omega)) ?_ (Or.inl ⟨?_, ?_, ?_, ?_, ?_⟩)
        · simp [pm_u, g41]
        · simpa [pm_u] using g40
        · simp [pm_u, g39]; exact w3
        · simp [pm_u, g39]; omega
        · simp [pm_u, g39, g47]; omega
        · have h47 : (pm_u (pm_u y5 0 39 (y4 0 39 + 1)) 0 41 (y5 0 41 + 1)) 0 47 = y4 0 47 := by simp [pm_u, g47]
          rw [h47]
          refine pm_TS_same (y := y4) (B := y4 0 47) (fun k k1 k2 j => ?_) (Int.le_refl _) ⟨?_, ?_, w5, fun e => ?_, w7, w8⟩
          · rw [← hs8 k (by omega) j]
            simp only [pm_u]
            rw [if_neg (by omega), if_neg (by omega)]
          · exact (u1 33 i (by unfold pm_Z3; omega)).trans d33
          · exact ((u1 34 i (by unfold pm_Z3; omega)).trans d34).trans hv
          · obtain ⟨x1, x2, x3, x4⟩ := w6 e
            exact ⟨S, by omega, x1, x2, x4⟩
      · rw [if_neg (by omega)] at w3
        exact fin1 y4 _ _ f7 e41 w3 (by omega) (by omega)
    · refine b177_115 hF (k1 := fun _ => ?_) (k2 := fun r => by omega)
      exact fin1 y4 _ _ f7 e41 w2 w3 w4
  refine b177_35 hF (k1 := fun r => good (by omega)) (k2 := fun r1 => ?_)
  refine b177_41 hF (k1 := fun r => good (by omega)) (k2 := fun r2 => ?_)
  refine b177_47 hF (k1 := fun r => good (by omega)) (k2 := fun r3 => ?_)
  refine b177_53 hF (k1 := fun r => good (by omega)) (k2 := fun r4 => ?_)
  refine b177_59 hF (k1 := fun r => good (by omega)) (k2 := fun r5 => ?_)
  refine b177_65 hF (k1 := fun r => good (by omega)) (k2 := fun r6 => ?_)
  have hst : pt_stmt l k = -1000 - k := by
    unfold pt_stmt
    rw [if_neg (by omega), if_neg (by omega), if_neg (by omega), if_neg (by omega)]
  refine b177_71 hF (k := ?_)
  refine b177_76 hF (k1 := fun r => by omega) (k2 := fun _ => ?_)
  have f5 : pm_fr (pm_Z5 i S) y (pm_u z 0 40 1) := pm_fr_then f1 (by unfold pm_Z5; omega)
  have b39 : (pm_u z 0 40 1) 0 39 = k := by simpa [pm_u] using a39
  have b40 : (pm_u z 0 40 1) 0 40 = 1 := pm_us
  have b41 : (pm_u z 0 40 1) 0 41 = i := by simpa [pm_u] using a41
  generalize pm_u z 0 40 1 = z2 at *
  refine b177_91 hF (k := ?_)
  rw [a39]
  refine b177_96 hF (k1 := fun _ => ?_) (k2 := fun r => by omega)
  have f6 : pm_fr (pm_Z5 i S) y (pm_u z2 0 39 (k + 0)) := pm_fr_then f5 (by unfold pm_Z5; omega)
  have d39 : (pm_u z2 0 39 (k + 0)) 0 39 = k := by simp [pm_u]
  have d40 : (pm_u z2 0 39 (k + 0)) 0 40 = 1 := by simpa [pm_u] using b40
  have d41 : (pm_u z2 0 39 (k + 0)) 0 41 = i := by simpa [pm_u] using b41
  generalize pm_u z2 0 39 (k + 0) = z3 at *
  refine b177_115 hF (k1 := fun _ => ?_) (k2 := fun r => by omega)
  exact fin1 z3 _ _ f6 d41 (by rw [d39]; exact hst) (by omega) (by omega)
end
