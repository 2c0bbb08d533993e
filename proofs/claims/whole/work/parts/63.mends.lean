/-! THE MODEL: ends -/
noncomputable def pa_endsN (c : Int) : Nat → Int → pa_M → Int
  | 0, _, _ => -4
  | m + 1, i, s => if 6 ≤ (s.2.1 c).1 2 then i else pa_endsN c m (i + 1) (pa_round s)
noncomputable def pa_aEnds (a : pa_M) (c : Int) : Int := if ¬ (0 ≤ c ∧ c < a.1 4) then -1 else pa_endsN c 61 0 a
section
variable {d M q : Nat} {Φ : Option pe_V → pe_H → Prop} {σ : pe_H} {y : Nat → Int → Int} {a : pa_M} {c n : Int}
theorem c205 (hF : pm_F M σ) (hM : pm_R y a) (hwf : pa_wf a) (hc : -2147483648 ≤ c ∧ c < 2147483648) (k : ∀ q' y2, pm_fr pm_Zp y y2 → y2 0 37 = 0 → pm_R y2 a → Φ (some (.inl (pa_aEnds a c))) (pm_h M σ q' y2)) : pe_M (d + 8) 205 [.inr (.inr M), .inl c] (pm_h M σ q y) Φ := by
  have h8 := hwf.1.1
  have hM1 := pm_R_37 hM hwf.1.w8
  have f1 := pm_Zp_37 y
  have e37 : (pm_u y 0 37 0) 0 37 = 0 := pm_us
  have h := hM1.cnt
  unfold pa_aEnds at k
  refine pe_M_of ck205 (Nat.le_of_ble_eq_true rfl) ?_
  refine b205_0 hF (k := ?_)
  generalize pm_u y 0 37 0 = z at *
  refine pe_M.up (c138 (d := 0) hF (by omega) hc (fun r => ?_) (fun r => ?_)) (by omega)
  · refine b205_10 hF (k1 := fun _ => ?_) (k2 := fun r => by omega)
    rw [if_neg (by omega)] at k
    refine b205_15 hF (k := ?_)
    refine pe_M.up (c187 (d := 0) hF hM1 hwf.w3 (fun y2 g1 g2 => ?_)) (by omega)
    have hex : ∀ (y4 : Nat → Int → Int) (s : pa_M) (v : Int) (o3 : Option pe_V), pm_fr pm_Zy y2 y4 → pm_R y4 s → v = pa_endsN c 61 0 a → pe_X (d + 7) 205 (60, [some (.inr (.inr M)), some (.inl c), some (.inl v), o3], [], pm_h M σ (M + 38) y4) Φ := fun y4 s v o3 u1 u2 u3 => by
      refine b205_60 hF (k := ?_)
      refine pe_M.up (c188 (d := 0) hF hM1 hwf.w3 g1 u1 u2 (fun y5 v1 v2 => ?_)) (by omega)
      refine b205_64 hF (k := ?_)
      rw [u3]
      exact k _ y5 (pm_fr_trans f1 (pm_fr_mono v2 pm_Zyk_Zp)) ((v2 0 37 (by unfold pm_Zy pm_Zk; omega)).trans e37) v1
    have loop : ∀ (m : Nat) (i : Int) (y4 : Nat → Int → Int) (s : pa_M), i + m = 61 → 0 ≤ i → pm_fr pm_Zy y2 y4 → pm_R y4 s → pa_wf s → s.1 4 = a.1 4 → pa_endsN c m i s = pa_endsN c 61 0 a → pe_X (d + 7) 205 (24, [some (.inr (.inr M)), some (.inl c), some (.inl (-4)), some (.inl i)], [], pm_h M σ (M + 38) y4) Φ := by
      intro m
      induction m with
      | zero =>
        intro i y4 s hi hi0 u1 u2 u3 u4 u5
        refine b205_24 hF (k1 := fun _ => ?_) (k2 := fun r => by omega)
        exact hex y4 s _ _ u1 u2 u5
      | succ m ih =>
        intro i y4 s hi hi0 u1 u2 u3 u4 u5
        have h1 : c < s.1 4 := by omega
        have i2 := (u2.nn r.1 h1).1.1.2.1
        have hb := (u3.1.2.2.1 c r.1 h1).1.2.1
        unfold pa_endsN at u5
        refine b205_24 hF (k1 := fun r => by omega) (k2 := fun _ => ?_)
        refine b205_30 hF (k1 := fun r => by omega) (k2 := fun _ => ?_)
        refine b205_34 hF (k := ?_)
        refine pe_M.up (c139 (d := 0) hF r.1 (by omega) (by omega) (fun r6 => ?_) (fun r6 => ?_)) (by omega)
        · rw [if_pos (by omega)] at u5
          refine b205_39 hF (k1 := fun r => by omega) (k2 := fun _ => ?_)
          refine b205_42 hF (k := ?_)
          refine b205_48 hF (k := ?_)
          refine c169f hF u2 u3 (fun y6 w1 w2 w3 => ?_)
          have w1 := pm_fr_trans u1 (pm_fr_mono w1 pm_Zs_Zy)
          refine b205_54 hF (k := ?_)
          refine b205_24 hF (k1 := fun _ => ?_) (k2 := fun _ => ?_)
          · exact hex y6 _ _ _ w1 w3 u5
          · refine b205_30 hF (k1 := fun _ => ?_) (k2 := fun r => absurd hi0 r)
            exact hex y6 _ _ _ w1 w3 u5
        · rw [if_neg (by omega)] at u5
          refine b205_39 hF (k1 := fun _ => ?_) (k2 := fun r => absurd rfl r)
          refine b205_46 hF (k := ?_)
          refine b205_48 hF (k := ?_)
          refine c169f hF u2 u3 (fun y6 w1 w2 w3 => ?_)
          refine b205_54 hF (k := ?_)
          exact ih (i + 1) y6 _ (by omega) (by omega) (pm_fr_trans u1 (pm_fr_mono w1 pm_Zs_Zy)) w3 (pa_round_wf u3).1 ((pa_round4 u3).1.trans u4) u5
    refine b205_22 hF (k := ?_)
    exact loop 61 0 y2 a (by decide) (by decide) (pm_fr_refl _ _) g2 hwf rfl rfl
  · refine b205_10 hF (k1 := fun r => absurd rfl r) (k2 := fun _ => ?_)
    rw [if_pos (by omega)] at k
    refine b205_13 hF (k := ?_)
    exact k _ _ f1 e37 hM1
end
