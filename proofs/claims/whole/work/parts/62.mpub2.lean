/-! THE MODEL: public methods, rounds and then -/
noncomputable def pa_doRounds (a : pa_M) (n : Int) : pa_M × Int := if ¬ (1 ≤ n ∧ n ≤ 60) then (a, -1) else if 999 < a.1 6 + n then (a, -3) else (pa_rounds n.toNat a, pb_c (pa_bits (pa_isEnd (pa_rounds n.toNat a)) ((pa_rounds n.toNat a).1 4).toNat))
noncomputable def pa_aThen (a : pa_M) (c n x : Int) : Int := if ¬ ((0 ≤ c ∧ c < a.1 4) ∧ (0 ≤ n ∧ n ≤ 60) ∧ 0 ≤ x ∧ x ≤ 4) then -1 else pa_of ((pa_rounds n.toNat a).2.1 c) x
section
variable {d M q : Nat} {Φ : Option pe_V → pe_H → Prop} {σ : pe_H} {y : Nat → Int → Int} {a : pa_M} {c n : Int}
theorem pa_rounds4 : ∀ (m : Nat) (a : pa_M), pa_wf a → (pa_rounds m a).1 4 = a.1 4
  | 0, _, _ => rfl
  | m + 1, a, h => by
    unfold pa_rounds
    rw [pa_rounds4 m _ (pa_round_wf h).1, (pa_round4 h).1]
/-- rounds -/
theorem c203 (hF : pm_F M σ) (hM : pm_R y a) (hwf : pa_wf a) (h6 : 0 ≤ a.1 6 ∧ a.1 6 ≤ 999) (hn : -2147483648 ≤ n ∧ n < 2147483648) (k : ∀ y2, pm_fr pm_Zp y y2 → y2 0 37 = 0 → pm_R y2 (pa_doRounds a n).1 → Φ (some (.inl (pa_doRounds a n).2)) (pm_h M σ q y2)) : pe_M (d + 9) 203 [.inr (.inr M), .inl n] (pm_h M σ q y) Φ := by
  have h8 := hwf.1.1
  have hM1 := pm_R_37 hM hwf.1.w8
  have f1 := pm_Zp_37 y
  have e37 : (pm_u y 0 37 0) 0 37 = 0 := pm_us
  have h := hM1.cnt
  unfold pa_doRounds at k
  refine pe_M_of ck203 (Nat.le_of_ble_eq_true rfl) ?_
  refine b203_0 hF (k := ?_)
  generalize pm_u y 0 37 0 = z at *
  refine pe_M.up (c134 (d := 0) hF (by omega) (by omega) (by omega) (fun r => ?_) (fun r => ?_)) (by omega)
  · refine b203_14 hF (k1 := fun _ => ?_) (k2 := fun r => by omega)
    rw [if_neg (by omega)] at k
    refine b203_19 hF (k1 := fun r2 => ?_) (k2 := fun r2 => ?_)
    · rw [if_neg (by omega)] at k
      refine b203_34 hF (k := ?_)
      refine c170 hF hM1 hwf (by omega) (by omega) (by omega) (fun y2 g1 g2 g3 => ?_)
      refine b203_39 hF (k := ?_)
      refine pe_M.up (c141 (d := 0) hF g2 g3.1 ?_) (by omega)
      refine b203_43 hF (k := ?_)
      have h4 := g3.1.1
      have hb := pa_bits_255 (pa_isEnd (pa_rounds n.toNat a)) (n := ((pa_rounds n.toNat a).1 4).toNat) (by omega)
      refine pe_M.up (c136 (d := 0) hF hb.1 hb.2 ?_) (by omega)
      refine b203_46 hF (k := ?_)
      exact k y2 (pm_fr_trans f1 (pm_fr_mono g1 pm_Zs_Zp)) ((g1 0 37 (by unfold pm_Zs; omega)).trans e37) g2
    · rw [if_pos (by omega)] at k
      refine b203_31 hF (k := ?_)
      exact k _ f1 e37 hM1
  · refine b203_14 hF (k1 := fun r => absurd rfl r) (k2 := fun _ => ?_)
    rw [if_pos (by omega)] at k
    refine b203_17 hF (k := ?_)
    exact k _ f1 e37 hM1
end
section
variable {d M q : Nat} {Φ : Option pe_V → pe_H → Prop} {σ : pe_H} {y : Nat → Int → Int} {a : pa_M} {c n : Int}
theorem pm_Zyk_Zp (k : Nat) (j : Int) (h : pm_Zy k j ∨ pm_Zk k j) : pm_Zp k j := by unfold pm_Zy pm_Zk at h; unfold pm_Zp; omega
/-- then -/
theorem c204 {x : Int} (hF : pm_F M σ) (hM : pm_R y a) (hwf : pa_wf a) (h6 : 0 ≤ a.1 6 ∧ a.1 6 ≤ 999) (hc : -2147483648 ≤ c ∧ c < 2147483648) (hn : -2147483648 ≤ n ∧ n < 2147483648) (hx : -2147483648 ≤ x ∧ x < 2147483648) (k : ∀ q' y2, pm_fr pm_Zp y y2 → y2 0 37 = 0 → pm_R y2 a → Φ (some (.inl (pa_aThen a c n x))) (pm_h M σ q' y2)) : pe_M (d + 9) 204 [.inr (.inr M), .inl c, .inl n, .inl x] (pm_h M σ q y) Φ := by
  have h8 := hwf.1.1
  have hM1 := pm_R_37 hM hwf.1.w8
  have f1 := pm_Zp_37 y
  have e37 : (pm_u y 0 37 0) 0 37 = 0 := pm_us
  have h := hM1.cnt
  have hno : ¬ ((0 ≤ c ∧ c < a.1 4) ∧ (0 ≤ n ∧ n ≤ 60) ∧ 0 ≤ x ∧ x ≤ 4) → pe_X (d + 8) 204 (37, [some (.inr (.inr M)), some (.inl c), some (.inl n), some (.inl x), none], [], pm_h M σ q (pm_u y 0 37 0)) Φ := fun hh => by
    unfold pa_aThen at k
    rw [if_pos hh] at k
    refine b204_37 hF (k := ?_)
    exact k _ _ f1 e37 hM1
  refine pe_M_of ck204 (Nat.le_of_ble_eq_true rfl) ?_
  refine b204_0 hF (k := ?_)
  generalize pm_u y 0 37 0 = z at *
  refine pe_M.up (c138 (d := 0) hF (by omega) hc (fun r => ?_) (fun r => ?_)) (by omega)
  · refine b204_10 hF (k1 := fun r => by omega) (k2 := fun _ => ?_)
    refine b204_13 hF (k := ?_)
    refine pe_M.up (c134 (d := 0) hF (by omega) (by omega) (by omega) (fun rn => ?_) (fun rn => ?_)) (by omega)
    · refine b204_22 hF (k1 := fun r => by omega) (k2 := fun _ => ?_)
      refine b204_25 hF (k := ?_)
      refine pe_M.up (c134 (d := 0) hF (by omega) (by omega) (by omega) (fun rx => ?_) (fun rx => ?_)) (by omega)
      · refine b204_34 hF (k1 := fun _ => ?_) (k2 := fun r => by omega)
        unfold pa_aThen at k
        rw [if_neg (by omega)] at k
        refine b204_39 hF (k := ?_)
        refine pe_M.up (c187 (d := 0) hF hM1 hwf.w3 (fun y2 g1 g2 => ?_)) (by omega)
        refine b204_43 hF (k := ?_)
        refine c170 hF g2 hwf rn.1 (by omega) (by omega) (fun y3 u1 u2 u3 => ?_)
        refine b204_48 hF (k := ?_)
        refine pe_M.up (c195 (d := 0) hF u2 u3.1 r.1 (by rw [pa_rounds4 _ _ hwf]; omega) hx ?_) (by omega)
        refine b204_54 hF (k := ?_)
        refine pe_M.up (c188 (d := 0) hF hM1 hwf.w3 g1 (pm_fr_mono u1 pm_Zs_Zy) u2 (fun y5 v1 v2 => ?_)) (by omega)
        refine b204_60 hF (k := ?_)
        exact k _ y5 (pm_fr_trans f1 (pm_fr_mono v2 pm_Zyk_Zp)) ((v2 0 37 (by unfold pm_Zy pm_Zk; omega)).trans e37) v1
      · refine b204_34 hF (k1 := fun r => absurd rfl r) (k2 := fun _ => ?_)
        exact hno (by omega)
    · refine b204_22 hF (k1 := fun _ => ?_) (k2 := fun r => absurd rfl r)
      exact hno (by omega)
  · refine b204_10 hF (k1 := fun _ => ?_) (k2 := fun r => absurd rfl r)
    exact hno (by omega)
end
