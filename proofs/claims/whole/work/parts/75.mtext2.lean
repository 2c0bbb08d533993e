/-! THE MODEL: text is read -/
/-- the row that is read -/
def pm_rd (y : Nat → Int → Int) (l : List Int) : Prop := (0 ≤ y 0 38 ∧ y 0 38 < 8) ∧ y 31 (y 0 38) = (l.length : Int) ∧ l.length ≤ 100 ∧ ∀ j : Nat, j < l.length → y 32 (100 * y 0 38 + j) = l.getD j 0 ∧ -128 ≤ l.getD j 0 ∧ l.getD j 0 ≤ 127
def pt_val (l : List Int) : Nat → Int → Int
  | 0, _ => 0
  | n + 1, P => 10 * pt_val l n P + pt_d l (P + n)
/-- place and fault -/
def pm_Z2 (k : Nat) (j : Int) : Prop := k = 0 ∧ (j = 39 ∨ j = 40)
/-- what reading the steps of a statement changes: told places from o on, steps from S on -/
def pm_Z3 (o S : Int) (k : Nat) (j : Int) : Prop := (k = 0 ∧ (j = 39 ∨ j = 40 ∨ j = 47)) ∨ (k = 35 ∧ o ≤ j ∧ j ≤ o + 2) ∨ ((k = 36 ∨ k = 37) ∧ S ≤ j)
def pm_Z4 (k : Nat) (j : Int) : Prop := (33 ≤ k ∧ k ≤ 37) ∨ (k = 0 ∧ (j = 39 ∨ j = 40 ∨ j = 41 ∨ j = 47))
/-- steps from j0 on stand from S on -/
def pm_sp (y : Nat → Int → Int) (S : Int) (p : pa_P) : Prop := ∀ t : Nat, t < p.length → y 36 (S + t) = (p.getD t (0, 0)).1 ∧ y 37 (S + t) = (p.getD t (0, 0)).2
theorem pt_at_r {l : List Int} (h : ∀ j : Nat, j < l.length → -128 ≤ l.getD j 0 ∧ l.getD j 0 ≤ 127) (j : Int) : -128 ≤ pt_at l j ∧ pt_at l j ≤ 127 := by
  unfold pt_at
  split
  · exact h _ (by omega)
  · omega
section
variable {d M q : Nat} {Φ : Option pe_V → pe_H → Prop} {σ : pe_H} {y : Nat → Int → Int} {a s : pa_M} {c : Int} {l : List Int}
theorem pm_rd.r (h : pm_rd y l) (j : Int) : -128 ≤ pt_at l j ∧ pt_at l j ≤ 127 := pt_at_r (fun j hj => (h.2.2.2 j hj).2) j
theorem pm_rd_fr {Z : Nat → Int → Prop} {y2 : Nat → Int → Int} (hf : pm_fr Z y y2) (h0 : ¬ Z 0 38) (h1 : ∀ k, k = 31 ∨ k = 32 → ∀ j, ¬ Z k j) (h : pm_rd y l) : pm_rd y2 l := by
  obtain ⟨a1, a2, a3, a4⟩ := h
  unfold pm_rd
  rw [hf 0 38 h0, hf 31 _ (h1 31 (by decide) _)]
  exact ⟨a1, a2, a3, fun j hj => ⟨by rw [hf 32 _ (h1 32 (by decide) _)]; exact (a4 j hj).1, (a4 j hj).2⟩⟩
/-- here -/
theorem c172 (hF : pm_F M σ) (hr : pm_rd y l) (hp : 0 ≤ y 0 39 ∧ y 0 39 ≤ 1000) (k : ∀ v, (v = pt_at l (y 0 39) ∨ (v = -999 ∧ pt_at l (y 0 39) = 0)) → Φ (some (.inl v)) (pm_h M σ q y)) : pe_M (d + 1) 172 [.inr (.inr M)] (pm_h M σ q y) Φ := by
  obtain ⟨a1, a2, a3, a4⟩ := hr
  refine pe_M_of ck172 (Nat.le_of_ble_eq_true rfl) ?_
  refine b172_0 hF (k1 := fun r => ?_) (k2 := fun r => ?_)
  · refine b172_37 hF (k := ?_)
    refine b172_40 hF (k := ?_)
    refine k _ (Or.inr ⟨rfl, ?_⟩)
    unfold pt_at
    rw [if_neg (by omega)]
  · refine b172_16 hF (k := ?_)
    refine b172_40 hF (k := ?_)
    refine k _ (Or.inl ?_)
    have := (a4 (y 0 39).toNat (by omega)).1
    rw [show 100 * y 0 38 + (((y 0 39).toNat : Nat) : Int) = 100 * y 0 38 + y 0 39 by omega] at this
    rw [this]
    unfold pt_at
    rw [if_pos (by omega)]
/-- readDigits -/
theorem c173 {n : Nat} (hF : pm_F M σ) (hr : pm_rd y l) (hp : 0 ≤ y 0 39 ∧ y 0 39 ≤ 500) (hb : y 0 40 = 0) (hn : n ≤ 2) (k1 : (∀ i : Nat, i < n → pt_dg l (y 0 39 + i)) → ∀ y2, pm_fr pm_Z2 y y2 → y2 0 39 = y 0 39 + n → y2 0 40 = 0 → Φ (some (.inl (pt_val l n (y 0 39)))) (pm_h M σ q y2)) (k0 : ∀ m : Nat, m < n → (∀ i : Nat, i < m → pt_dg l (y 0 39 + i)) → ¬ pt_dg l (y 0 39 + m) → ∀ y2, pm_fr pm_Z2 y y2 → y2 0 39 = y 0 39 + m → y2 0 40 = 1 → Φ (some (.inl 0)) (pm_h M σ q y2)) : pe_M (d + 2) 173 [.inr (.inr M), .inl (n : Int)] (pm_h M σ q y) Φ := by
  have hat := hr.r
  obtain ⟨P, hP⟩ : ∃ P, P = y 0 39 := ⟨_, rfl⟩
  rw [← hP] at k1 k0 hp
  have bad : ∀ (m : Nat), m < n → (∀ i : Nat, i < m → pt_dg l (P + i)) → ¬ pt_dg l (P + m) → ∀ (t i : Nat) (y4 : Nat → Int → Int), i + t = n → pm_fr pm_Z2 y y4 → y4 0 39 = P + m → y4 0 40 = 1 → pe_X (d + 1) 173 (4, [some (.inr (.inr M)), some (.inl (n : Int)), some (.inl 0), some (.inl (i : Int))], [], pm_h M σ q y4) Φ := by
    intro m hm h1 h2 t
    induction t with
    | zero =>
      intro i y4 hi f e39 e40
      refine b173_4 hF (k1 := fun _ => ?_) (k2 := fun r => by omega)
      refine b173_93 hF (k := ?_)
      exact k0 m hm h1 h2 y4 f e39 e40
    | succ t ih =>
      intro i y4 hi f e39 e40
      refine b173_4 hF (k1 := fun r => by omega) (k2 := fun _ => ?_)
      refine b173_9 hF (k1 := fun _ => ?_) (k2 := fun r => by omega)
      refine b173_34 hF (k := ?_)
      refine b173_39 hF (k1 := fun r => by omega) (k2 := fun _ => ?_)
      have f5 : pm_fr pm_Z2 y (pm_u y4 0 40 1) := pm_fr_then f (by unfold pm_Z2; omega)
      have g39 : (pm_u y4 0 40 1) 0 39 = P + m := by simpa [pm_u] using e39
      have g40 : (pm_u y4 0 40 1) 0 40 = 1 := pm_us
      generalize pm_u y4 0 40 1 = y5 at *
      refine b173_49 hF (k := ?_)
      refine b173_65 hF (k1 := fun r => by omega) (k2 := fun _ => ?_)
      refine b173_78 hF (k := ?_)
      refine b173_83 hF (k := ?_)
      exact ih (i + 1) _ (by omega) (pm_fr_then f5 (by unfold pm_Z2; omega)) (by simp [pm_u, g39]) (by simpa [pm_u] using g40)
  have good : ∀ (t i : Nat) (v : Int) (y4 : Nat → Int → Int), i + t = n → pm_fr pm_Z2 y y4 → y4 0 39 = P + i → y4 0 40 = 0 → v = pt_val l i P → (∀ j : Nat, j < i → pt_dg l (P + j)) → pe_X (d + 1) 173 (4, [some (.inr (.inr M)), some (.inl (n : Int)), some (.inl v), some (.inl (i : Int))], [], pm_h M σ q y4) Φ := by
    intro t
    induction t with
    | zero =>
      intro i v y4 hi f e39 e40 hv hd
      refine b173_4 hF (k1 := fun _ => ?_) (k2 := fun r => by omega)
      refine b173_93 hF (k := ?_)
      have e : i = n := by omega
      subst e
      rw [hv]
      exact k1 hd y4 f e39 e40
    | succ t ih =>
      intro i v y4 hi f e39 e40 hv hd
      have hrd := pm_rd_fr f (by unfold pm_Z2; omega) (by unfold pm_Z2; omega) hr
      have ha := hat (P + i)
      refine b173_4 hF (k1 := fun r => by omega) (k2 := fun _ => ?_)
      refine b173_9 hF (k1 := fun r => by omega) (k2 := fun _ => ?_)
      refine b173_17 hF (k := ?_)
      refine c172 hF hrd (by omega) (fun x hx => ?_)
      rw [e39] at hx
      refine b173_21 hF (k := ?_)
      refine pe_M.up (c134 (d := 0) hF (by omega) (by omega) (by omega) (fun r => ?_) (fun r => ?_)) (by omega)
      · refine b173_31 hF (k1 := fun _ => ?_) (k2 := fun r => by omega)
        refine b173_38 hF (k := ?_)
        refine b173_39 hF (k1 := fun _ => ?_) (k2 := fun r => by omega)
        have f5 : pm_fr pm_Z2 y (pm_u y4 0 40 0) := pm_fr_then f (by unfold pm_Z2; omega)
        have g39 : (pm_u y4 0 40 0) 0 39 = P + i := by simpa [pm_u] using e39
        have g40 : (pm_u y4 0 40 0) 0 40 = 0 := pm_us
        have hrd5 := pm_rd_fr f5 (by unfold pm_Z2; omega) (by unfold pm_Z2; omega) hr
        generalize pm_u y4 0 40 0 = y5 at *
        refine b173_53 hF (k := ?_)
        refine c172 hF hrd5 (by omega) (fun x2 hx2 => ?_)
        rw [g39] at hx2
        refine b173_61 hF (k := ?_)
        refine b173_65 hF (k1 := fun _ => ?_) (k2 := fun r => by omega)
        refine b173_82 hF (k := ?_)
        refine b173_83 hF (k := ?_)
        refine ih (i + 1) _ _ (by omega) (pm_fr_then f5 (by unfold pm_Z2; omega)) (by simp [pm_u, g39]; omega) (by simpa [pm_u] using g40) ?_ (fun j hj => ?_)
        · show _ = 10 * pt_val l i P + pt_d l (P + i)
          unfold pt_d
          omega
        · by_cases ej : j = i
          · subst ej
            show 48 ≤ _ ∧ _ ≤ 57
            omega
          · exact hd j (by omega)
      · refine b173_31 hF (k1 := fun r => absurd rfl r) (k2 := fun _ => ?_)
        refine b173_34 hF (k := ?_)
        refine b173_39 hF (k1 := fun r => by omega) (k2 := fun _ => ?_)
        have f5 : pm_fr pm_Z2 y (pm_u y4 0 40 1) := pm_fr_then f (by unfold pm_Z2; omega)
        have g39 : (pm_u y4 0 40 1) 0 39 = P + i := by simpa [pm_u] using e39
        have g40 : (pm_u y4 0 40 1) 0 40 = 1 := pm_us
        generalize pm_u y4 0 40 1 = y5 at *
        refine b173_49 hF (k := ?_)
        refine b173_65 hF (k1 := fun r => by omega) (k2 := fun _ => ?_)
        refine b173_78 hF (k := ?_)
        refine b173_83 hF (k := ?_)
        refine bad i (by omega) hd ?_ t (i + 1) _ (by omega) (pm_fr_then f5 (by unfold pm_Z2; omega)) (by simp [pm_u, g39]) (by simpa [pm_u] using g40)
        show ¬ (48 ≤ _ ∧ _ ≤ 57)
        omega
  refine pe_M_of ck173 (Nat.le_of_ble_eq_true rfl) ?_
  refine b173_0 hF (k := ?_)
  exact good n 0 0 y (by omega) (pm_fr_refl _ _) (by omega) hb rfl (fun j hj => absurd hj (Nat.not_lt_zero _))
theorem c173_1 (hF : pm_F M σ) (hr : pm_rd y l) (hp : 0 ≤ y 0 39 ∧ y 0 39 ≤ 500) (hb : y 0 40 = 0) (k1 : pt_dg l (y 0 39) → ∀ y2, pm_fr pm_Z2 y y2 → y2 0 39 = y 0 39 + 1 → y2 0 40 = 0 → Φ (some (.inl (pt_d l (y 0 39)))) (pm_h M σ q y2)) (k0 : ¬ pt_dg l (y 0 39) → ∀ y2, pm_fr pm_Z2 y y2 → y2 0 39 = y 0 39 → y2 0 40 = 1 → Φ (some (.inl 0)) (pm_h M σ q y2)) : pe_M (d + 2) 173 [.inr (.inr M), .inl 1] (pm_h M σ q y) Φ := by
  refine c173 (n := 1) hF hr hp hb (by decide) (fun h y2 f e1 e2 => ?_) (fun m hm h1 h2 y2 f e1 e2 => ?_)
  · have := k1 (by simpa using h 0 (by decide)) y2 f e1 e2
    rw [show pt_val l 1 (y 0 39) = pt_d l (y 0 39) by unfold pt_val pt_val; simp]
    exact this
  · have : m = 0 := by omega
    subst this
    exact k0 (by simpa using h2) y2 f (by simpa using e1) e2
theorem c173_2 (hF : pm_F M σ) (hr : pm_rd y l) (hp : 0 ≤ y 0 39 ∧ y 0 39 ≤ 500) (hb : y 0 40 = 0) (k1 : pt_dg l (y 0 39) → pt_dg l (y 0 39 + 1) → ∀ y2, pm_fr pm_Z2 y y2 → y2 0 39 = y 0 39 + 2 → y2 0 40 = 0 → Φ (some (.inl (pt_dd l (y 0 39)))) (pm_h M σ q y2)) (k0 : ¬ pt_dg l (y 0 39) → ∀ y2, pm_fr pm_Z2 y y2 → y2 0 39 = y 0 39 → y2 0 40 = 1 → Φ (some (.inl 0)) (pm_h M σ q y2)) (k2 : pt_dg l (y 0 39) → ¬ pt_dg l (y 0 39 + 1) → ∀ y2, pm_fr pm_Z2 y y2 → y2 0 39 = y 0 39 + 1 → y2 0 40 = 1 → Φ (some (.inl 0)) (pm_h M σ q y2)) : pe_M (d + 2) 173 [.inr (.inr M), .inl 2] (pm_h M σ q y) Φ := by
  refine c173 (n := 2) hF hr hp hb (by decide) (fun h y2 f e1 e2 => ?_) (fun m hm h1 h2 y2 f e1 e2 => ?_)
  · have := k1 (by simpa using h 0 (by decide)) (by simpa using h 1 (by decide)) y2 f e1 e2
    rw [show pt_val l 2 (y 0 39) = pt_dd l (y 0 39) by unfold pt_val pt_val pt_val pt_dd; simp]
    exact this
  · by_cases e : m = 0
    · subst e
      exact k0 (by simpa using h2) y2 f (by simpa using e1) e2
    · have : m = 1 := by omega
      subst this
      exact k2 (by simpa using h1 0 (by decide)) (by simpa using h2) y2 f (by simpa using e1) e2
/-- isIdle of any sign, isStep -/
theorem c160g {x : Int} (hF : pm_F M σ) (hx : -1000 ≤ x ∧ x ≤ 1000) (k1 : x = 100 ∨ x = 103 ∨ x = 106 ∨ x = 115 ∨ x = 121 ∨ x = 114 → Φ (some (.inl 1)) (pm_h M σ q y)) (k0 : ¬ (x = 100 ∨ x = 103 ∨ x = 106 ∨ x = 115 ∨ x = 121 ∨ x = 114) → Φ (some (.inl 0)) (pm_h M σ q y)) : pe_M (d + 1) 160 [.inl x] (pm_h M σ q y) Φ := by
  have hy : (x = 100 ∨ x = 103 ∨ x = 106 ∨ x = 115 ∨ x = 121 ∨ x = 114) → ∀ o, pe_X d 160 (36, [o], [], pm_h M σ q y) Φ := fun h o => by
    refine b160_36 hF (k := ?_)
    refine b160_41 hF (k := ?_)
    exact k1 h
  refine pe_M_of ck160 (Nat.le_of_ble_eq_true rfl) ?_
  refine b160_0 hF (k1 := fun r => hy (by omega) _) (k2 := fun r0 => ?_)
  refine b160_6 hF (k1 := fun r => hy (by omega) _) (k2 := fun r1 => ?_)
  refine b160_12 hF (k1 := fun r => hy (by omega) _) (k2 := fun r2 => ?_)
  refine b160_18 hF (k1 := fun r => hy (by omega) _) (k2 := fun r3 => ?_)
  refine b160_24 hF (k1 := fun r => hy (by omega) _) (k2 := fun r4 => ?_)
  refine b160_30 hF (k1 := fun r => ?_) (k2 := fun r => hy (by omega) _)
  refine b160_40 hF (k := ?_)
  refine b160_41 hF (k := ?_)
  exact k0 (by omega)
theorem c174 {x : Int} (hF : pm_F M σ) (hx : -1000 ≤ x ∧ x ≤ 1000) (k1 : pt_ns x ∨ x = 102 → Φ (some (.inl 1)) (pm_h M σ q y)) (k0 : ¬ pt_ns x → ¬ x = 102 → Φ (some (.inl 0)) (pm_h M σ q y)) : pe_M (d + 2) 174 [.inl x] (pm_h M σ q y) Φ := by
  have hy : pt_ns x ∨ x = 102 → ∀ o, pe_X (d + 1) 174 (37, [o], [], pm_h M σ q y) Φ := fun h o => by
    refine b174_37 hF (k := ?_)
    refine b174_42 hF (k := ?_)
    exact k1 h
  refine pe_M_of ck174 (Nat.le_of_ble_eq_true rfl) ?_
  refine b174_0 hF (k := ?_)
  refine c160g hF hx (fun r => ?_) (fun r => ?_)
  · refine b174_4 hF (k1 := fun _ => ?_) (k2 := fun r => by omega)
    exact hy (by unfold pt_ns; omega) _
  · refine b174_4 hF (k1 := fun r => absurd rfl r) (k2 := fun _ => ?_)
    refine b174_7 hF (k1 := fun r => hy (by unfold pt_ns; omega) _) (k2 := fun r0 => ?_)
    refine b174_13 hF (k1 := fun r => hy (by unfold pt_ns; omega) _) (k2 := fun r1 => ?_)
    refine b174_19 hF (k1 := fun r => hy (by unfold pt_ns; omega) _) (k2 := fun r2 => ?_)
    refine b174_25 hF (k1 := fun r => hy (by unfold pt_ns; omega) _) (k2 := fun r3 => ?_)
    refine b174_31 hF (k1 := fun r4 => ?_) (k2 := fun r => hy (by omega) _)
    refine b174_41 hF (k := ?_)
    refine b174_42 hF (k := ?_)
    exact k0 (by unfold pt_ns; omega) r4
theorem pm_sp_one {S : Int} {p : pa_P} {x v : Int} {y2 : Nat → Int → Int} (h : pm_sp y S p) (hf : ∀ k, k = 36 ∨ k = 37 → ∀ j, S ≤ j → j < S + p.length → y2 k j = y k j) (h1 : y2 36 (S + p.length) = x) (h2 : y2 37 (S + p.length) = v) : pm_sp y2 S (p ++ [(x, v)]) := fun t ht => by
  rw [List.length_append, List.length_singleton] at ht
  by_cases e : t = p.length
  · subst e
    rw [List.getD_eq_getElem?_getD, List.getElem?_append_right (Nat.le_refl _), Nat.sub_self]
    exact ⟨h1, h2⟩
  · rw [hf 36 (by decide) _ (by omega) (by omega), hf 37 (by decide) _ (by omega) (by omega)]
    have := h t (by omega)
    rw [List.getD_eq_getElem?_getD, List.getElem?_append_left (by omega), ← List.getD_eq_getElem?_getD]
    exact this
/-- readSteps -/
theorem c175 {o : Int} (hF : pm_F M σ) (hr : pm_rd y l) (hp : 0 ≤ y 0 39 ∧ y 0 39 ≤ 102) (hb : y 0 40 = 0) (hS : 0 ≤ y 0 47 ∧ y 0 47 ≤ y 0 39) (ho : 0 ≤ o ∧ o ≤ 150) (k : ∀ y2, pm_fr (pm_Z3 o (y 0 47)) y y2 → (∀ j, j = o → y2 35 j = y 35 j) → ((y2 0 40 = 0 ∧ (y 0 39 ≤ y2 0 39 ∧ y2 0 39 ≤ 102) ∧ pt_pend l 101 (y 0 39) = (if pt_at l (y2 0 39) = 59 then y2 0 39 + 1 else -1000 - y2 0 39) ∧ y2 0 47 ≤ y2 0 39 ∧ y2 0 47 = y 0 47 + (pt_steps l 101 (y 0 39)).length ∧ y2 35 (o + 1) = y 0 47 ∧ y2 35 (o + 2) = (pt_steps l 101 (y 0 39)).length ∧ pm_sp y2 (y 0 47) (pt_steps l 101 (y 0 39))) ∨ (y2 0 40 = 1 ∧ pt_pend l 101 (y 0 39) = -1000 - y2 0 39 ∧ 0 ≤ y2 0 39 ∧ y2 0 39 ≤ 200)) → Φ none (pm_h M σ q y2)) : pe_M (d + 3) 175 [.inr (.inr M), .inl o] (pm_h M σ q y) Φ := by
  have hat := hr.r
  have hl100 := hr.2.2.1
  obtain ⟨P, hP⟩ : ∃ P, P = y 0 39 := ⟨_, rfl⟩
  obtain ⟨S, hS0⟩ : ∃ S, S = y 0 47 := ⟨_, rfl⟩
  rw [← hP, ← hS0] at k hS
  rw [← hP] at hp
  obtain ⟨V, hV⟩ : ∃ V, V = pt_pend l 101 P := ⟨_, rfl⟩
  obtain ⟨W, hW⟩ : ∃ W, W = pt_steps l 101 P := ⟨_, rfl⟩
  rw [← hV, ← hW] at k
  have exitg : ∀ (j : Int) (y4 : Nat → Int → Int) (o2 : Option pe_V), pm_fr (pm_Z3 o S) y y4 → (∀ j, j = o → y4 35 j = y 35 j) → y4 0 39 = j → y4 0 40 = 0 → P ≤ j → j ≤ 102 → V = (if pt_at l j = 59 then j + 1 else -1000 - j) → S + W.length ≤ j → y4 0 47 = S + W.length → y4 35 (o + 1) = S → pm_sp y4 S W → pe_X (d + 2) 175 (91, [some (.inr (.inr M)), some (.inl o), o2], [], pm_h M σ q y4) Φ := fun j y4 o2 f fo e39 e40 hj0 hj1 hv hs e47 e35 hsp => by
    refine b175_91 hF (k := ?_)
    refine k _ (pm_fr_then f (by unfold pm_Z3; omega)) (fun j hj => ?_) (Or.inl ⟨?_, ?_, ?_, ?_, ?_, ?_, ?_, ?_⟩)
    · rw [← fo j hj]; simp only [pm_u]; rw [if_neg (by omega)]
    · simpa [pm_u] using e40
    · simp [pm_u, e39]; omega
    · simp [pm_u, e39]; exact hv
    · simp [pm_u, e39, e47]; omega
    · simpa [pm_u] using e47
    · simp only [pm_u]; rw [if_neg (by omega)]; exact e35
    · simp [pm_u]; omega
    · intro t ht
      simpa [pm_u] using hsp t ht
  have exitb : ∀ (j : Int) (y4 : Nat → Int → Int) (o2 : Option pe_V), pm_fr (pm_Z3 o S) y y4 → (∀ j, j = o → y4 35 j = y 35 j) → y4 0 39 = j → y4 0 40 = 1 → 0 ≤ j → j ≤ 200 → V = -1000 - j → pe_X (d + 2) 175 (12, [some (.inr (.inr M)), some (.inl o), o2], [], pm_h M σ q y4) Φ := fun j y4 o2 f fo e39 e40 hj0 hj1 hv => by
    refine b175_12 hF (k1 := fun _ => ?_) (k2 := fun r => by omega)
    refine b175_91 hF (k := ?_)
    refine k _ (pm_fr_then f (by unfold pm_Z3; omega)) (fun j hj => ?_) (Or.inr ⟨?_, ?_, ?_⟩)
    · rw [← fo j hj]; simp only [pm_u]; rw [if_neg (by omega)]
    · simpa [pm_u] using e40
    · simp [pm_u, e39]; exact hv
    · simp [pm_u, e39]; omega
  have loop : ∀ (f : Nat) (j : Int) (pre : pa_P) (y4 : Nat → Int → Int) (o2 : Option pe_V), (l.length : Int) < j + f → j ≤ 102 → pm_fr (pm_Z3 o S) y y4 → (∀ j, j = o → y4 35 j = y 35 j) → y4 0 39 = j → y4 0 40 = 0 → P ≤ j → V = pt_pend l f j → W = pre ++ pt_steps l f j → S + pre.length ≤ j → y4 0 47 = S + pre.length → y4 35 (o + 1) = S → pm_sp y4 S pre → pe_X (d + 2) 175 (12, [some (.inr (.inr M)), some (.inl o), o2], [], pm_h M σ q y4) Φ := by
    intro f
    induction f with
    | zero =>
      intro j pre y4 o2 hf hj g1 g2 g3 g4 g5 g6 g7 g8 g9 g10 g11
      have hrd := pm_rd_fr g1 (by unfold pm_Z3; omega) (by unfold pm_Z3; omega) hr
      have h0 : pt_at l j = 0 := by unfold pt_at; rw [if_neg (by omega)]
      have g7 : W = pre := by rw [g7]; unfold pt_steps; simp
      refine b175_12 hF (k1 := fun r => by omega) (k2 := fun _ => ?_)
      refine b175_19 hF (k := ?_)
      refine pe_M.up (c172 (d := 0) hF hrd (by omega) (fun x hx => ?_)) (by omega)
      rw [g3] at hx
      refine b175_23 hF (k := ?_)
      refine c174 hF (by omega) (fun r => ?_) (fun r1 r2 => ?_)
      · unfold pt_ns at r; omega
      · refine b175_26 hF (k1 := fun _ => ?_) (k2 := fun r => absurd rfl r)
        refine exitg j y4 _ g1 g2 g3 g4 g5 hj ?_ (by rw [g7]; exact g8) (by rw [g7]; exact g9) g10 (by rw [g7]; exact g11)
        rw [g6, if_neg (by omega)]
        rfl
    | succ f ih =>
      intro j pre y4 o2 hf hj g1 g2 g3 g4 g5 g6 g7 g8 g9 g10 g11
      have hrd := pm_rd_fr g1 (by unfold pm_Z3; omega) (by unfold pm_Z3; omega) hr
      have ha := hat j
      unfold pt_pend at g6
      unfold pt_steps at g7
      refine b175_12 hF (k1 := fun r => by omega) (k2 := fun _ => ?_)
      refine b175_19 hF (k := ?_)
      refine pe_M.up (c172 (d := 0) hF hrd (by omega) (fun x hx => ?_)) (by omega)
      rw [g3] at hx
      refine b175_23 hF (k := ?_)
      refine c174 hF (by omega) (fun r => ?_) (fun r1 r2 => ?_)
      · have hx : x = pt_at l j := by unfold pt_ns at r; omega
        have hin := pt_at_in (l := l) (j := j) (by unfold pt_ns at r; omega)
        have hpl : S + (pre ++ [(0, 0)]).length ≤ j + 1 := by rw [List.length_append, List.length_singleton]; push_cast; omega
        refine b175_26 hF (k1 := fun r => by omega) (k2 := fun _ => ?_)
        refine b175_29 hF (k := ?_)
        refine pe_M.up (c172 (d := 0) hF hrd (by omega) (fun x2 hx2 => ?_)) (by omega)
        rw [g3] at hx2
        have hx2 : x2 = pt_at l j := by unfold pt_ns at r; omega
        subst hx2
        clear hx2
        have hy5 : ∀ y5, y5 = pm_u (pm_u y4 0 39 (y4 0 39 + 1)) 36 (y4 0 47) (pt_at l j) → pm_fr (pm_Z3 o S) y y5 ∧ (∀ j, j = o → y5 35 j = y 35 j) ∧ y5 0 39 = j + 1 ∧ y5 0 40 = 0 ∧ y5 0 47 = S + pre.length ∧ y5 35 (o + 1) = S ∧ y5 36 (S + pre.length) = pt_at l j ∧ ∀ k, k = 36 ∨ k = 37 → ∀ j, S ≤ j → j < S + pre.length → y5 k j = y4 k j := fun y5 h5 => by
          subst h5
          refine ⟨pm_fr_then (pm_fr_then g1 (by unfold pm_Z3; omega)) (by unfold pm_Z3; omega), fun j hj => ?_, ?_, ?_, ?_, ?_, ?_, fun k hk j h1 h2 => ?_⟩
          · rw [← g2 j hj]; simp [pm_u]
          · simp [pm_u, g3]
          · simpa [pm_u] using g4
          · simpa [pm_u] using g9
          · simpa [pm_u] using g10
          · simp [pm_u, g9]
          · simp only [pm_u]
            rw [if_neg (by omega), if_neg (by omega)]
        refine b175_33 hF (k1 := fun r4 => ?_) (k2 := fun r4 => ?_)
        · have h102 : pt_at l j ≠ 102 := by omega
          have hns : pt_ns (pt_at l j) := by unfold pt_ns at r ⊢; omega
          rw [if_neg (by omega), if_neg h102, if_pos hns] at g6
          rw [if_neg h102, if_pos hns] at g7
          refine b175_72 hF (k := ?_)
          obtain ⟨y5, h5⟩ : ∃ y5, y5 = pm_u (pm_u y4 0 39 (y4 0 39 + 1)) 36 (y4 0 47) (pt_at l j) := ⟨_, rfl⟩
          obtain ⟨u1, u2, u3, u4, u5, u6, u7, u8⟩ := hy5 y5 h5
          rw [← h5, g9]
          have hrd5 := pm_rd_fr u1 (by unfold pm_Z3; omega) (by unfold pm_Z3; omega) hr
          refine c173_1 hF hrd5 (by omega) u4 (fun rd y6 f1 f2 f3 => ?_) (fun rd y6 f1 f2 f3 => ?_)
          · rw [u3] at rd f2 ⊢
            rw [if_pos rd] at g6
            have w0 : y6 0 47 = S + pre.length := (f1 0 47 (by unfold pm_Z2; omega)).trans u5
            refine b175_77 hF (k := ?_)
            refine ih (j + 2) (pre ++ [(pt_at l j, pt_d l (j + 1))]) _ _ (by push_cast at hf ⊢; omega) (by omega) (pm_fr_then (pm_fr_then (pm_fr_trans u1 (pm_fr_mono f1 (fun k j hk => by unfold pm_Z2 at hk; unfold pm_Z3; omega))) (by unfold pm_Z3; omega)) (by unfold pm_Z3; omega)) (fun j hj => ?_) ?_ ?_ (by omega) g6 (by rw [g7]; simp) (by rw [List.length_append, List.length_singleton]; push_cast; omega) ?_ ?_ (pm_sp_one g11 (fun k hk j h1 h2 => ?_) ?_ ?_)
            · rw [← u2 j hj, ← f1 35 j (by unfold pm_Z2; omega)]; simp [pm_u]
            · simp [pm_u, f2]; omega
            · simpa [pm_u] using f3
            · rw [List.length_append, List.length_singleton]; simp [pm_u, w0]; omega
            · rw [← u6, ← f1 35 _ (by unfold pm_Z2; omega)]; simp [pm_u]
            · rw [← u8 k hk j h1 h2, ← f1 k j (by unfold pm_Z2; omega)]
              simp only [pm_u]
              rw [if_neg (by omega), if_neg (by omega)]
            · rw [← u7, ← f1 36 _ (by unfold pm_Z2; omega)]; simp [pm_u]
            · simp [pm_u]
          · rw [u3] at rd f2
            rw [if_neg rd] at g6
            refine b175_77 hF (k := ?_)
            refine exitb (j + 1) _ _ (pm_fr_then (pm_fr_then (pm_fr_trans u1 (pm_fr_mono f1 (fun k j hk => by unfold pm_Z2 at hk; unfold pm_Z3; omega))) (by unfold pm_Z3; omega)) (by unfold pm_Z3; omega)) (fun j hj => ?_) ?_ ?_ (by omega) (by omega) g6
            · rw [← u2 j hj, ← f1 35 j (by unfold pm_Z2; omega)]; simp [pm_u]
            · simp [pm_u, f2]
            · simpa [pm_u] using f3
        · rw [if_neg (by omega), if_pos r4] at g6
          rw [if_pos r4] at g7
          refine b175_68 hF (k := ?_)
          obtain ⟨y5, h5⟩ : ∃ y5, y5 = pm_u (pm_u y4 0 39 (y4 0 39 + 1)) 36 (y4 0 47) (pt_at l j) := ⟨_, rfl⟩
          obtain ⟨u1, u2, u3, u4, u5, u6, u7, u8⟩ := hy5 y5 h5
          rw [← h5, g9]
          refine b175_77 hF (k := ?_)
          refine ih (j + 1) (pre ++ [(102, 0)]) _ _ (by push_cast at hf ⊢; omega) (by omega) (pm_fr_then (pm_fr_then u1 (by unfold pm_Z3; omega)) (by unfold pm_Z3; omega)) (fun j hj => ?_) ?_ ?_ (by omega) g6 (by rw [g7]; simp) (by rw [List.length_append, List.length_singleton]; push_cast; omega) ?_ ?_ (pm_sp_one g11 (fun k hk j h1 h2 => ?_) ?_ ?_)
          · rw [← u2 j hj]; simp [pm_u]
          · simp [pm_u, u3]
          · simpa [pm_u] using u4
          · rw [List.length_append, List.length_singleton]; simp [pm_u, u5]; omega
          · rw [← u6]; simp [pm_u]
          · rw [← u8 k hk j h1 h2]
            simp only [pm_u]
            rw [if_neg (by omega), if_neg (by omega)]
          · rw [← r4, ← u7]; simp [pm_u]
          · simp [pm_u]
      · rw [if_neg (by unfold pt_ns at r1; omega)] at g7
        have hns : ¬ pt_ns (pt_at l j) := by unfold pt_ns at r1 ⊢; omega
        rw [if_neg hns] at g7
        rw [List.append_nil] at g7
        refine b175_26 hF (k1 := fun _ => ?_) (k2 := fun r => absurd rfl r)
        refine exitg j y4 _ g1 g2 g3 g4 g5 hj ?_ (by rw [g7]; exact g8) (by rw [g7]; exact g9) g10 (by rw [g7]; exact g11)
        rw [g6]
        by_cases q1 : pt_at l j = 59
        · rw [if_pos q1, if_pos q1]
        · rw [if_neg q1, if_neg q1, if_neg (by omega), if_neg hns]
  refine pe_M_of ck175 (Nat.le_of_ble_eq_true rfl) ?_
  refine b175_0 hF (k := ?_)
  refine loop 101 P [] _ _ (by omega) hp.2 (pm_fr_u (by unfold pm_Z3; omega)) (fun j hj => ?_) ?_ ?_ (Int.le_refl _) hV hW (by simp; exact hS.2) ?_ ?_ (fun t ht => absurd ht (Nat.not_lt_zero _))
  · simp only [pm_u]; rw [if_neg (by omega)]
  · simp [pm_u, hP]
  · simpa [pm_u] using hb
  · simp [pm_u, hS0]
  · simp [pm_u, hS0]
end
