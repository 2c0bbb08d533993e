/-! THE MODEL: sendBest, firstOut, two -/
noncomputable def pa_sbN (a : pa_M) (c : Int) : Nat → Int → Int × Int → Int × Int
  | 0, _, b => b
  | m + 1, v, b => pa_sbN a c m (v + 1) (if b.2 < ((pa_send a c v).2.1 c).1 4 then (v, ((pa_send a c v).2.1 c).1 4) else b)
noncomputable def pa_aSendBest (a : pa_M) (c x : Int) : Int := if ¬ ((0 ≤ c ∧ c < a.1 4) ∧ 0 ≤ x ∧ x ≤ 1) then -1 else if 2 < (a.2.1 c).1 2 then -3 else if x = 0 then (pa_sbN a c 21 0 (0, -4)).1 else (pa_sbN a c 21 0 (0, -4)).2
/-- the lowest bit, of m from c on -/
def pa_low (b : Int) : Nat → Int → Int
  | 0, _ => -4
  | m + 1, c => if pb_h b c.toNat = true then c else pa_low b m (c + 1)
noncomputable def pa_foN : Nat → pa_M → Int
  | 0, _ => -4
  | m + 1, s => if 0 ≤ pa_low (pa_ry s 0) (s.1 4).toNat 0 then pa_low (pa_ry s 0) (s.1 4).toNat 0 else pa_foN m (pa_round s)
noncomputable def pa_cif (s : pa_M) (c b : Int) : pa_M := if b = 1 ∧ (s.2.1 c).1 2 < 6 then pa_shut s c else s
def pa_gain (s : pa_M) (c o b : Int) : Int := (s.2.1 c).1 5 - 2 * b - (if (s.2.1 o).1 2 = 7 then 6 else 0)
noncomputable def pa_twoS (a : pa_M) (x z n p : Int) : pa_M := pa_rounds n.toNat (pa_cif (pa_cif a x (p / 2)) z (p % 2))
noncomputable def pa_g1 (a : pa_M) (x z n p : Int) : Int := pa_gain (pa_twoS a x z n p) x z (p / 2)
noncomputable def pa_g2 (a : pa_M) (x z n p : Int) : Int := pa_gain (pa_twoS a x z n p) z x (p % 2)
def pa_twoF (g1 g2 : Int → Int) : Nat → Int → Int
  | 0, _ => -4
  | m + 1, p => if g1 (2 * (1 - p / 2) + p % 2) ≤ g1 p ∧ g2 (2 * (p / 2) + 1 - p % 2) ≤ g2 p then 10 * (p / 2) + p % 2 else pa_twoF g1 g2 m (p + 1)
noncomputable def pa_aTwo (a : pa_M) (x z n : Int) : Int := if ¬ ((0 ≤ x ∧ x < a.1 4) ∧ (0 ≤ z ∧ z < a.1 4) ∧ x ≠ z ∧ 0 ≤ n ∧ n ≤ 40) then -1 else if 6 ≤ (a.2.1 x).1 2 ∨ 6 ≤ (a.2.1 z).1 2 then -3 else pa_twoF (pa_g1 a x z n) (pa_g2 a x z n) 4 0
theorem pa_low_b (b : Int) : ∀ (m : Nat) (c : Int), 0 ≤ c → pa_low b m c = -4 ∨ (c ≤ pa_low b m c ∧ pa_low b m c < c + m)
  | 0, _, _ => Or.inl rfl
  | m + 1, c, h => by
    unfold pa_low
    split
    · right; push_cast; omega
    · have := pa_low_b b m (c + 1) (by omega)
      push_cast; omega
theorem pa_gy_255 : ∀ (l : List Int) (s : pa_M) (y : Int), (∀ c ∈ l, 0 ≤ c ∧ c < 8) → 0 ≤ y → y ≤ 255 → 0 ≤ (l.foldl pa_gy (s, y)).2 ∧ (l.foldl pa_gy (s, y)).2 ≤ 255
  | [], _, _, _, h0, h1 => ⟨h0, h1⟩
  | c :: l, s, y, h, h0, h1 => by
    have hc := h c List.mem_cons_self
    have h2 := pb_or_255 (c := c.toNat) h0 h1 (by omega)
    rw [show ((c.toNat : Nat) : Int) = c by omega] at h2
    rw [List.foldl_cons]
    by_cases q : ((pa_st1 (pa_cw s c (pa_take (pa_young (s.2.1 c)) 0)) c false).2.1 c).1 2 = 2
    · have e : pa_gy (s, y) c = (pa_go s c, pe_or y (pe_shl 1 c)) := by unfold pa_gy; rw [if_pos q]
      rw [e]
      exact pa_gy_255 l _ _ (fun x hx => h x (List.mem_cons_of_mem _ hx)) h2.1 h2.2
    · have e : pa_gy (s, y) c = (pa_go s c, y) := by unfold pa_gy; rw [if_neg q]
      rw [e]
      exact pa_gy_255 l _ _ (fun x hx => h x (List.mem_cons_of_mem _ hx)) h0 h1
theorem pa_ry_255 {a : pa_M} (h : pa_wf a) : 0 ≤ pa_ry a 0 ∧ pa_ry a 0 ≤ 255 := by
  have h8 := h.1.1
  refine pa_gy_255 _ _ _ (fun c hc => ?_) (by decide) (by decide)
  have := ((pa_line_mem h8.1 c).mp (List.mem_of_mem_take hc)).1
  omega
section
variable {d M q : Nat} {Φ : Option pe_V → pe_H → Prop} {σ : pe_H} {y : Nat → Int → Int} {a : pa_M} {c n : Int}
/-- sendBest -/
theorem c211 {x : Int} (hF : pm_F M σ) (hM : pm_R y a) (hwf : pa_wf a) (hc : -2147483648 ≤ c ∧ c < 2147483648) (hx : -2147483648 ≤ x ∧ x < 2147483648) (k : ∀ q' y2, pm_Pb y y2 a → Φ (some (.inl (pa_aSendBest a c x))) (pm_h M σ q' y2)) : pe_M (d + 8) 211 [.inr (.inr M), .inl c, .inl x] (pm_h M σ q y) Φ := by
  have h8 := hwf.1.1
  have hP := pm_Pb_37 hM hwf
  unfold pa_aSendBest at k
  have hno : ¬ ((0 ≤ c ∧ c < a.1 4) ∧ 0 ≤ x ∧ x ≤ 1) → pe_X (d + 7) 211 (23, [some (.inr (.inr M)), some (.inl c), some (.inl x), none, none, none], [], pm_h M σ q (pm_u y 0 37 0)) Φ := fun h => by
    rw [if_pos h] at k
    refine b211_23 hF (k := ?_)
    exact k _ _ hP
  have e4 := hP.R.cnt.1
  refine pe_M_of ck211 (Nat.le_of_ble_eq_true rfl) ?_
  refine b211_0 hF (k := ?_)
  generalize pm_u y 0 37 0 = z at *
  refine pe_M.up (c138 (d := 0) hF (by omega) hc (fun r => ?_) (fun r => ?_)) (by omega)
  · refine b211_10 hF (k1 := fun r => by omega) (k2 := fun _ => ?_)
    refine b211_13 hF (k := ?_)
    refine pe_M.up (c134 (d := 0) hF (by omega) (by omega) (by omega) (fun rx => ?_) (fun rx => ?_)) (by omega)
    · refine b211_20 hF (k1 := fun _ => ?_) (k2 := fun r => by omega)
      rw [if_neg (by omega)] at k
      refine b211_25 hF (k := ?_)
      have hc1 : c < a.1 4 := by omega
      have i2 := (hP.R.nn r.1 hc1).1.1.2.1
      have hb := (hwf.1.2.2.1 c r.1 hc1).1.2.1
      refine pe_M.up (c140 (d := 0) hF r.1 (by omega) (by omega) (fun r2 => ?_) (fun r2 => ?_)) (by omega)
      · refine b211_30 hF (k1 := fun _ => ?_) (k2 := fun r => by omega)
        rw [if_neg (by omega)] at k
        refine b211_36 hF (k := ?_)
        refine pe_M.up (c187q (d := 0) hF hP hwf (fun y4 g => ?_)) (by omega)
        have hso : ∀ v, 0 ≤ v → v ≤ 999 → pa_wf (pa_send a c v) ∧ -4 ≤ ((pa_send a c v).2.1 c).1 4 ∧ ((pa_send a c v).2.1 c).1 4 ≤ 999 := fun v v0 v1 => by
          have hw := pa_send_wf hwf r.1 hc1 (by omega) ⟨v0, v1⟩
          have := (hw.1.1.2.2.1 c r.1 (by rw [hw.2]; exact hc1)).1.2.2.2.1
          exact ⟨hw.1, this⟩
        have e0 : pa_sbN a c 21 0 (0, -5) = pa_sbN a c 21 0 (0, -4) := by
          have := (hso 0 (by decide) (by decide)).2
          unfold pa_sbN
          rw [if_pos (by show (-5 : Int) < _; omega)]
          by_cases q : (-4 : Int) < ((pa_send a c 0).2.1 c).1 4
          · rw [if_pos (by exact q)]
          · rw [if_neg (by exact q), show ((pa_send a c 0).2.1 c).1 4 = -4 by omega]
        have loop : ∀ (m : Nat) (v b t : Int) (y4 : Nat → Int → Int), v + m = 21 → 0 ≤ v → 0 ≤ b → b ≤ 20 → -5 ≤ t → t ≤ 999 → pm_Mi y a y4 a → pm_Pb y y4 a → pa_sbN a c m v (b, t) = pa_sbN a c 21 0 (0, -4) → pe_X (d + 7) 211 (49, [some (.inr (.inr M)), some (.inl c), some (.inl x), some (.inl b), some (.inl t), some (.inl v)], [], pm_h M σ (M + 38) y4) Φ := by
          intro m
          induction m with
          | zero =>
            intro v b t y4 hv hv0 b0 b1 t0 t1 u1 u2 u5
            have u5 : (b, t) = _ := u5
            rw [← u5] at k
            refine b211_49 hF (k1 := fun _ => ?_) (k2 := fun r => by omega)
            refine b211_115 hF (k1 := fun rx => ?_) (k2 := fun rx => ?_)
            · refine b211_123 hF (k := ?_)
              refine b211_125 hF (k := ?_)
              rw [if_neg rx] at k
              exact k _ _ u2
            · refine b211_119 hF (k := ?_)
              refine b211_125 hF (k := ?_)
              rw [if_pos rx] at k
              exact k _ _ u2
          | succ m ih =>
            intro v b t y4 hv hv0 b0 b1 t0 t1 u1 u2 u5
            obtain ⟨s1, s2, s3⟩ := hso v hv0 (by omega)
            have hs1 := (pa_send_wf hwf r.1 hc1 (by omega) (by omega : 0 ≤ v ∧ v ≤ 999)).2
            unfold pa_sbN at u5
            refine b211_49 hF (k1 := fun r => by omega) (k2 := fun _ => ?_)
            refine b211_56 hF (k := ?_)
            refine pe_M.up (c166 (d := 0) hF u1.R hwf r.1 hc1 (by omega) (by omega) (fun y6 w1 w2 => ?_)) (by omega)
            have v1 := u1.st w1 w2
            have e9 : y6 9 c = ((pa_send a c v).2.1 c).1 4 := (w2.nn r.1 (by rw [hs1]; exact hc1)).1.1.2.2.2.1
            generalize ((pa_send a c v).2.1 c).1 4 = o at *
            refine b211_63 hF (k1 := fun rq => ?_) (k2 := fun rq => ?_)
            · rw [if_neg (by show ¬ t < o; omega)] at u5
              refine b211_79 hF (k := ?_)
              refine b211_80 hF (k1 := fun _ => ?_) (k2 := fun r => by omega)
              refine b211_101 hF (k := ?_)
              refine b211_103 hF (k := ?_)
              refine pe_M.up (c188m (d := 0) hF v1 hwf (fun y5 v3 v4 => ?_)) (by omega)
              refine b211_109 hF (k := ?_)
              exact ih (v + 1) b t y5 (by omega) (by omega) b0 b1 t0 t1 v3 v4 u5
            · rw [if_pos (by show t < o; omega)] at u5
              refine b211_74 hF (k := ?_)
              refine b211_80 hF (k1 := fun r => by omega) (k2 := fun _ => ?_)
              refine b211_92 hF (k := ?_)
              refine b211_103 hF (k := ?_)
              refine pe_M.up (c188m (d := 0) hF v1 hwf (fun y5 v3 v4 => ?_)) (by omega)
              refine b211_109 hF (k := ?_)
              rw [e9]
              exact ih (v + 1) v o y5 (by omega) (by omega) (by omega) (by omega) (by omega) (by omega) v3 v4 u5
        refine b211_46 hF (k := ?_)
        exact loop 21 0 0 (-5) y4 (by decide) (by decide) (by decide) (by decide) (by decide) (by decide) g (pm_Mi_Pb g) e0
      · refine b211_30 hF (k1 := fun r => absurd rfl r) (k2 := fun _ => ?_)
        rw [if_pos (by omega)] at k
        refine b211_33 hF (k := ?_)
        exact k _ _ hP
    · refine b211_20 hF (k1 := fun r => absurd rfl r) (k2 := fun _ => ?_)
      exact hno (by omega)
  · refine b211_10 hF (k1 := fun _ => ?_) (k2 := fun r => absurd rfl r)
    exact hno (by omega)
/-- firstOut -/
theorem c212 (hF : pm_F M σ) (hM : pm_R y a) (hwf : pa_wf a) (k : ∀ q' y2, pm_Pb y y2 a → Φ (some (.inl (pa_foN 60 a))) (pm_h M σ q' y2)) : pe_M (d + 8) 212 [.inr (.inr M)] (pm_h M σ q y) Φ := by
  have h8 := hwf.1.1
  have hP := pm_Pb_37 hM hwf
  refine pe_M_of ck212 (Nat.le_of_ble_eq_true rfl) ?_
  refine b212_0 hF (k := ?_)
  refine pe_M.up (c187q (d := 0) hF hP hwf (fun y4 g => ?_)) (by omega)
  have hex : ∀ (y4 : Nat → Int → Int) (s : pa_M) (v : Int) (o2 o3 : Option pe_V), pm_Mi y a y4 s → v = pa_foN 60 a → pe_X (d + 7) 212 (69, [some (.inr (.inr M)), some (.inl v), o2, o3], [], pm_h M σ (M + 38) y4) Φ := fun y4 s v o2 o3 u1 u2 => by
    refine b212_69 hF (k := ?_)
    refine pe_M.up (c188m (d := 0) hF u1 hwf (fun y5 v1 v2 => ?_)) (by omega)
    refine b212_73 hF (k := ?_)
    rw [u2]
    exact k _ _ v2
  have loop : ∀ (m : Nat) (i : Int) (y4 : Nat → Int → Int) (s : pa_M) (o3 : Option pe_V), i + m = 60 → 0 ≤ i → pm_Mi y a y4 s → pa_wf s → pa_foN m s = pa_foN 60 a → pe_X (d + 7) 212 (14, [some (.inr (.inr M)), some (.inl (-4)), some (.inl i), o3], [], pm_h M σ (M + 38) y4) Φ := by
    intro m
    induction m with
    | zero =>
      intro i y4 s o3 hi hi0 u1 u3 u5
      refine b212_14 hF (k1 := fun _ => ?_) (k2 := fun r => by omega)
      exact hex y4 s (-4) _ _ u1 u5
    | succ m ih =>
      intro i y4 s o3 hi hi0 u1 u3 u5
      have s8 := u3.1.1
      have hy := pa_ry_255 u3
      refine b212_14 hF (k1 := fun r => by omega) (k2 := fun _ => ?_)
      refine b212_20 hF (k1 := fun r => by omega) (k2 := fun _ => ?_)
      refine b212_24 hF (k := ?_)
      refine c169f hF u1.R u3 (fun y6 w1 w2 w3 => ?_)
      have v1 := u1.st w1 w3
      have e4 : y6 0 3 = s.1 4 := w3.cnt.1.trans (pa_round4 u3).1
      have inner : ∀ (n : Nat) (j v : Int), (n : Int) = j + 1 → j < s.1 4 → v = pa_low (pa_ry s 0) (s.1 4 - (j + 1)).toNat (j + 1) → pe_X (d + 7) 212 (36, [some (.inr (.inr M)), some (.inl v), some (.inl i), some (.inl j)], [], pm_h M σ (M + 38) y6) Φ := by
        intro n
        induction n with
        | zero =>
          intro j v hn hj hv
          have hb := pa_low_b (pa_ry s 0) (s.1 4 - (j + 1)).toNat (j + 1) (by omega)
          rw [show j + 1 = 0 by omega, Int.sub_zero] at hv hb
          unfold pa_foN at u5
          refine b212_36 hF (k1 := fun _ => ?_) (k2 := fun r => by omega)
          refine b212_63 hF (k := ?_)
          by_cases hp : 0 ≤ v
          · rw [← hv, if_pos hp] at u5
            refine b212_14 hF (k1 := fun r => ?_) (k2 := fun r => ?_)
            · exact hex y6 _ _ _ _ v1 u5
            · refine b212_20 hF (k1 := fun _ => ?_) (k2 := fun r => by omega)
              exact hex y6 _ _ _ _ v1 u5
          · rw [← hv, if_neg hp] at u5
            rw [show v = -4 by omega]
            exact ih (i + 1) y6 _ _ (by omega) (by omega) v1 (pa_round_wf u3).1 u5
        | succ n ih2 =>
          intro j v hn hj hv
          have ev : pa_low (pa_ry s 0) (s.1 4 - (j - 1 + 1)).toNat (j - 1 + 1) = if pb_h (pa_ry s 0) j.toNat = true then j else v := by
            rw [show j - 1 + 1 = j by omega, show (s.1 4 - j).toNat = (s.1 4 - (j + 1)).toNat + 1 by omega, hv]
            rfl
          refine b212_36 hF (k1 := fun r => by omega) (k2 := fun _ => ?_)
          refine b212_40 hF (k := ?_)
          rw [w2]
          refine pe_M.up (c135 (d := 0) hF hy.1 hy.2 (by push_cast at hn; omega) (by omega) (fun rb => ?_) (fun rb => ?_)) (by omega)
          · rw [if_pos rb] at ev
            refine b212_48 hF (k1 := fun r => by omega) (k2 := fun _ => ?_)
            refine b212_51 hF (k := ?_)
            refine b212_56 hF (k := ?_)
            exact ih2 (j + -1) j (by push_cast at hn; omega) (by omega) ev.symm
          · rw [if_neg (by rw [rb]; simp)] at ev
            refine b212_48 hF (k1 := fun _ => ?_) (k2 := fun r => absurd rfl r)
            refine b212_55 hF (k := ?_)
            refine b212_56 hF (k := ?_)
            exact ih2 (j + -1) v (by push_cast at hn; omega) (by omega) ev.symm
      refine b212_29 hF (k := ?_)
      rw [e4]
      exact inner (s.1 4).toNat _ _ (by omega) (by omega) (by
        rw [show (s.1 4 - (s.1 4 - 1 + 1)).toNat = 0 by omega]
        rfl)
  refine b212_12 hF (k := ?_)
  exact loop 60 0 y4 a _ (by decide) (by decide) g hwf rfl
/-- gainOf -/
theorem c219 {o b : Int} (hF : pm_F M σ) (hM : pm_R y a) (hwf : pa_wf0 a) (h0 : 0 ≤ c) (h1 : c < a.1 4) (ho0 : 0 ≤ o) (ho1 : o < a.1 4) (hb : b = 0 ∨ b = 1) (k : Φ (some (.inl (pa_gain a c o b))) (pm_h M σ q y)) : pe_M (d + 1) 219 [.inr (.inr M), .inl c, .inl o, .inl b] (pm_h M σ q y) Φ := by
  have h8 := hwf.1
  have i5 := (hM.nn h0 h1).1.1.2.2.2.2.1
  have i7 := (hM.nn ho0 ho1).1.1.2.1
  have hb2 := (hwf.2.2.1 o ho0 ho1).1.2.1
  unfold pa_gain at k
  have h15 : ∀ v, v = 2 * b → pe_X d 219 (15, [some (.inr (.inr M)), some (.inl c), some (.inl o), some (.inl b)], [.inl v, .inl (y 10 c)], pm_h M σ q y) Φ := fun v hv => by
    refine b219_15 hF (k1 := fun r7 => ?_) (k2 := fun r7 => ?_)
    · refine b219_32 hF (k := ?_)
      refine b219_33 hF (k := ?_)
      rw [if_neg (by omega)] at k
      rw [i5, hv]; exact k
    · refine b219_27 hF (k := ?_)
      refine b219_33 hF (k := ?_)
      rw [if_pos (by omega)] at k
      rw [i5, hv]; exact k
  refine pe_M_of ck219 (Nat.le_of_ble_eq_true rfl) ?_
  refine b219_0 hF (k1 := fun r => ?_) (k2 := fun r => ?_)
  · refine b219_14 hF (k := ?_)
    exact h15 0 (by omega)
  · refine b219_10 hF (k := ?_)
    exact h15 2 (by omega)
theorem pa_cif_wf {b : Int} (hwf : pa_wf a) (h0 : 0 ≤ c) (h1 : c < a.1 4) : pa_wf (pa_cif a c b) ∧ (pa_cif a c b).1 = a.1 := by
  unfold pa_cif
  split
  · rename_i h
    exact pa_shut_wf hwf h0 h1 h.2
  · exact ⟨hwf, rfl⟩
/-- closesIf -/
theorem c220 {b : Int} (hF : pm_F M σ) (hM : pm_R y a) (hwf : pa_wf a) (h0 : 0 ≤ c) (h1 : c < a.1 4) (hb : b = 0 ∨ b = 1) (k : ∀ y2, pm_fr pm_Zs y y2 → pm_R y2 (pa_cif a c b) → Φ none (pm_h M σ q y2)) : pe_M (d + 8) 220 [.inr (.inr M), .inl c, .inl b] (pm_h M σ q y) Φ := by
  have h8 := hwf.1.1
  have i7 := (hM.nn h0 h1).1.1.2.1
  have hb2 := (hwf.1.2.2.1 c h0 h1).1.2.1
  unfold pa_cif at k
  refine pe_M_of ck220 (Nat.le_of_ble_eq_true rfl) ?_
  refine b220_0 hF (k1 := fun r => ?_) (k2 := fun r => ?_)
  · rw [if_neg (by omega)] at k
    refine b220_17 hF (k := ?_)
    exact k _ (pm_fr_refl _ _) hM
  · refine b220_4 hF (k := ?_)
    refine pe_M.up (c139 (d := 0) hF h0 (by omega) (by omega) (fun r6 => ?_) (fun r6 => ?_)) (by omega)
    · rw [if_neg (by omega)] at k
      refine b220_9 hF (k1 := fun _ => ?_) (k2 := fun r => by omega)
      refine b220_17 hF (k := ?_)
      exact k _ (pm_fr_refl _ _) hM
    · rw [if_pos (by omega)] at k
      refine b220_9 hF (k1 := fun r => absurd rfl r) (k2 := fun _ => ?_)
      refine b220_12 hF (k := ?_)
      refine c167 hF hM hwf h0 h1 (by omega) (fun y2 g1 g2 => ?_)
      refine b220_17 hF (k := ?_)
      exact k _ g1 g2
theorem pa_gain_b {o b : Int} (hwf : pa_wf0 a) (h0 : 0 ≤ c) (h1 : c < a.1 4) (hb : b = 0 ∨ b = 1) : -100 ≤ pa_gain a c o b ∧ pa_gain a c o b ≤ 1000 := by
  have := (hwf.2.2.1 c h0 h1).1.2.2.2.2.1
  unfold pa_gain
  split <;> omega
theorem pa_twoS_wf {x z p : Int} (hwf : pa_wf a) (hx0 : 0 ≤ x) (hx1 : x < a.1 4) (hz0 : 0 ≤ z) (hz1 : z < a.1 4) : pa_wf (pa_twoS a x z n p) ∧ (pa_twoS a x z n p).1 4 = a.1 4 := by
  have g1 := pa_cif_wf (b := p / 2) hwf hx0 hx1
  have g2 := pa_cif_wf (b := p % 2) g1.1 hz0 (by rw [g1.2]; exact hz1)
  unfold pa_twoS
  rw [pa_rounds4 _ _ g2.1, g2.2, g1.2]
  refine ⟨?_, rfl⟩
  have : ∀ (m : Nat) (s : pa_M), pa_wf s → pa_wf (pa_rounds m s) := by
    intro m
    induction m with
    | zero => exact fun s h => h
    | succ m ih => exact fun s h => ih _ (pa_round_wf h).1
  exact this _ _ g2.1
/-- two -/
theorem c221 {x w : Int} (hF : pm_F M σ) (hM : pm_R y a) (hwf : pa_wf a) (h6 : 0 ≤ a.1 6 ∧ a.1 6 ≤ 999) (hx : -2147483648 ≤ x ∧ x < 2147483648) (hw : -2147483648 ≤ w ∧ w < 2147483648) (hn : -2147483648 ≤ n ∧ n < 2147483648) (k : ∀ q' y2, pm_Pb y y2 a → Φ (some (.inl (pa_aTwo a x w n))) (pm_h M σ q' y2)) : pe_M (d + 9) 221 [.inr (.inr M), .inl x, .inl w, .inl n] (pm_h M σ q y) Φ := by
  have h8 := hwf.1.1
  have hP := pm_Pb_37 hM hwf
  unfold pa_aTwo at k
  have hno : ¬ ((0 ≤ x ∧ x < a.1 4) ∧ (0 ≤ w ∧ w < a.1 4) ∧ x ≠ w ∧ 0 ≤ n ∧ n ≤ 40) → pe_X (d + 8) 221 (38, [some (.inr (.inr M)), some (.inl x), some (.inl w), some (.inl n), none, none, none], [], pm_h M σ q (pm_u y 0 37 0)) Φ := fun h => by
    rw [if_pos h] at k
    refine b221_38 hF (k := ?_)
    exact k _ _ hP
  have hno3 : ((0 ≤ x ∧ x < a.1 4) ∧ (0 ≤ w ∧ w < a.1 4) ∧ x ≠ w ∧ 0 ≤ n ∧ n ≤ 40) → (6 ≤ (a.2.1 x).1 2 ∨ 6 ≤ (a.2.1 w).1 2) → pe_X (d + 8) 221 (56, [some (.inr (.inr M)), some (.inl x), some (.inl w), some (.inl n), none, none, none], [], pm_h M σ q (pm_u y 0 37 0)) Φ := fun h h' => by
    rw [if_neg (by omega), if_pos h'] at k
    refine b221_56 hF (k := ?_)
    exact k _ _ hP
  have e4 := hP.R.cnt.1
  refine pe_M_of ck221 (Nat.le_of_ble_eq_true rfl) ?_
  refine b221_0 hF (k := ?_)
  generalize pm_u y 0 37 0 = z at *
  refine pe_M.up (c138 (d := 0) hF (by omega) hx (fun rx => ?_) (fun rx => ?_)) (by omega)
  · refine b221_10 hF (k1 := fun r => by omega) (k2 := fun _ => ?_)
    refine b221_13 hF (k := ?_)
    refine pe_M.up (c138 (d := 0) hF (by omega) hw (fun rw => ?_) (fun rw => ?_)) (by omega)
    · refine b221_18 hF (k1 := fun r => by omega) (k2 := fun _ => ?_)
      refine b221_21 hF (k1 := fun re => ?_) (k2 := fun re => ?_)
      · exact hno (by omega)
      · refine b221_26 hF (k := ?_)
        refine pe_M.up (c134 (d := 0) hF (by omega) (by omega) (by omega) (fun rn => ?_) (fun rn => ?_)) (by omega)
        · refine b221_35 hF (k1 := fun _ => ?_) (k2 := fun r => by omega)
          refine b221_40 hF (k := ?_)
          have x1 : x < a.1 4 := by omega
          have w1 : w < a.1 4 := by omega
          have ix := (hP.R.nn rx.1 x1).1.1.2.1
          have iw := (hP.R.nn rw.1 w1).1.1.2.1
          have hbx := (hwf.1.2.2.1 x rx.1 x1).1.2.1
          have hbw := (hwf.1.2.2.1 w rw.1 w1).1.2.1
          have hall : (0 ≤ x ∧ x < a.1 4) ∧ (0 ≤ w ∧ w < a.1 4) ∧ x ≠ w ∧ 0 ≤ n ∧ n ≤ 40 := by omega
          refine pe_M.up (c139 (d := 0) hF rx.1 (by omega) (by omega) (fun r6 => ?_) (fun r6 => ?_)) (by omega)
          · refine b221_45 hF (k1 := fun _ => ?_) (k2 := fun r => by omega)
            exact hno3 hall (by omega)
          · refine b221_45 hF (k1 := fun r => absurd rfl r) (k2 := fun _ => ?_)
            refine b221_48 hF (k := ?_)
            refine pe_M.up (c139 (d := 0) hF rw.1 (by omega) (by omega) (fun r7 => ?_) (fun r7 => ?_)) (by omega)
            · refine b221_53 hF (k1 := fun r => by omega) (k2 := fun _ => ?_)
              exact hno3 hall (by omega)
            · refine b221_53 hF (k1 := fun _ => ?_) (k2 := fun r => absurd rfl r)
              refine b221_59 hF (k := ?_)
              rw [if_neg (by omega), if_neg (by omega)] at k
              refine pe_M.up (c187q (d := 0) hF hP hwf (fun y4 g => ?_)) (by omega)
              have hg : ∀ p, 0 ≤ p → p < 4 → (-100 ≤ pa_g1 a x w n p ∧ pa_g1 a x w n p ≤ 1000) ∧ (-100 ≤ pa_g2 a x w n p ∧ pa_g2 a x w n p ≤ 1000) := fun p p0 p1 => by
                have hs := pa_twoS_wf (n := n) (p := p) hwf rx.1 x1 rw.1 w1
                exact ⟨pa_gain_b hs.1.1 rx.1 (by rw [hs.2]; exact x1) (by omega), pa_gain_b hs.1.1 rw.1 (by rw [hs.2]; exact w1) (by omega)⟩
              obtain ⟨V, hV⟩ : ∃ V, V = pa_twoF (pa_g1 a x w n) (pa_g2 a x w n) 4 0 := ⟨_, rfl⟩
              rw [← hV] at k
              have loop2 : ∀ (m : Nat) (i : Int) (o3 o5 o6 : Option pe_V) (y4 : Nat → Int → Int), i + m = 4 → 0 ≤ i → (∀ p, 0 ≤ p → p < 4 → y4 41 (2 * p) = pa_g1 a x w n p ∧ y4 41 (2 * p + 1) = pa_g2 a x w n p) → pm_Pb y y4 a → pa_twoF (pa_g1 a x w n) (pa_g2 a x w n) m i = V → pe_X (d + 8) 221 (184, [some (.inr (.inr M)), some (.inl x), some (.inl w), o3, some (.inl i), o5, o6], [], pm_h M σ (M + 38) y4) Φ := by
                intro m
                induction m with
                | zero =>
                  intro i o3 o5 o6 y4 hi hi0 hy u2 u5
                  refine b221_184 hF (k1 := fun _ => ?_) (k2 := fun r => by omega)
                  refine b221_285 hF (k := ?_)
                  rw [← u5] at k
                  exact k _ _ u2
                | succ m ih =>
                  intro i o3 o5 o6 y4 hi hi0 hy u2 u5
                  have t1 : Int.tdiv i 2 = i / 2 := Int.tdiv_eq_ediv_of_nonneg hi0
                  have t2 : Int.tmod i 2 = i % 2 := Int.tmod_eq_emod_of_nonneg hi0
                  unfold pa_twoF at u5
                  refine b221_184 hF (k1 := fun r => by omega) (k2 := fun _ => ?_)
                  refine b221_190 hF (k := ?_)
                  rw [t1, t2, show 2 * (i / 2) + 1 - i % 2 = 2 * (i / 2) + 1 - i % 2 from rfl]
                  have a1 := hy i hi0 (by omega)
                  have a2 := hy (2 * (1 - i / 2) + i % 2) (by omega) (by omega)
                  have a3 := hy (2 * (i / 2) + 1 - i % 2) (by omega) (by omega)
                  have b1 := hg i hi0 (by omega)
                  have b2 := hg (2 * (1 - i / 2) + i % 2) (by omega) (by omega)
                  have b3 := hg (2 * (i / 2) + 1 - i % 2) (by omega) (by omega)
                  have c1 : 0 ≤ 2 * (1 - i / 2) + i % 2 ∧ 2 * (1 - i / 2) + i % 2 < 4 := by omega
                  have c2 : 0 ≤ 2 * (i / 2) + 1 - i % 2 ∧ 2 * (i / 2) + 1 - i % 2 < 4 := by omega
                  generalize 2 * (1 - i / 2) + i % 2 = j1 at *
                  generalize 2 * (i / 2) + 1 - i % 2 = j2 at *
                  refine b221_220 hF (k1 := fun q1 => ?_) (k2 := fun q1 => ?_)
                  · rw [if_neg (by omega)] at u5
                    refine b221_279 hF (k := ?_)
                    exact ih (i + 1) _ _ _ y4 (by omega) (by omega) hy u2 u5
                  · refine b221_241 hF (k1 := fun q2 => ?_) (k2 := fun q2 => ?_)
                    · rw [if_neg (by omega)] at u5
                      refine b221_279 hF (k := ?_)
                      exact ih (i + 1) _ _ _ y4 (by omega) (by omega) hy u2 u5
                    · rw [if_pos (by omega)] at u5
                      refine b221_266 hF (k := ?_)
                      rw [t1, t2]
                      rw [← u5] at k
                      exact k _ _ u2
              have loop1 : ∀ (m : Nat) (i : Int) (o5 o6 : Option pe_V) (y4 : Nat → Int → Int), i + m = 4 → 0 ≤ i → (∀ p, 0 ≤ p → p < i → y4 41 (2 * p) = pa_g1 a x w n p ∧ y4 41 (2 * p + 1) = pa_g2 a x w n p) → pm_Mi y a y4 a → pe_X (d + 8) 221 (66, [some (.inr (.inr M)), some (.inl x), some (.inl w), some (.inl n), some (.inl i), o5, o6], [], pm_h M σ (M + 38) y4) Φ := by
                intro m
                induction m with
                | zero =>
                  intro i o5 o6 y4 hi hi0 hy u1
                  refine b221_66 hF (k1 := fun _ => ?_) (k2 := fun r => by omega)
                  refine b221_181 hF (k := ?_)
                  exact loop2 4 0 _ _ _ y4 (by decide) (by decide) (fun p p0 p1 => hy p p0 (by omega)) (pm_Mi_Pb u1) hV.symm
                | succ m ih =>
                  intro i o5 o6 y4 hi hi0 hy u1
                  have t1 : Int.tdiv i 2 = i / 2 := Int.tdiv_eq_ediv_of_nonneg hi0
                  have t2 : Int.tmod i 2 = i % 2 := Int.tmod_eq_emod_of_nonneg hi0
                  have h87 : ∀ b, b = i / 2 → pe_X (d + 8) 221 (87, [some (.inr (.inr M)), some (.inl x), some (.inl w), some (.inl n), some (.inl i), o5, o6], [.inl b, .inl x, .inr (.inr M)], pm_h M σ (M + 38) y4) Φ := fun b hb => by
                    subst hb
                    refine b221_87 hF (k := ?_)
                    refine c220 hF u1.R hwf rx.1 x1 (by omega) (fun y6 v1 v2 => ?_)
                    have s1 := pa_cif_wf (b := i / 2) hwf rx.1 x1
                    have h105 : ∀ b, b = i % 2 → pe_X (d + 8) 221 (105, [some (.inr (.inr M)), some (.inl x), some (.inl w), some (.inl n), some (.inl i), o5, o6], [.inl b, .inl w, .inr (.inr M)], pm_h M σ (M + 38) y6) Φ := fun b hb => by
                      subst hb
                      refine b221_105 hF (k := ?_)
                      refine c220 hF v2 s1.1 rw.1 (by rw [s1.2]; exact w1) (by omega) (fun y7 v3 v4 => ?_)
                      have s2 := pa_cif_wf (b := i % 2) s1.1 rw.1 (by rw [s1.2]; exact w1)
                      refine b221_108 hF (k := ?_)
                      refine c170 hF v4 s2.1 rn.1 (by omega) (by rw [s2.2, s1.2]; omega) (fun y8 v5 v6 v7 => ?_)
                      have v6 : pm_R y8 (pa_twoS a x w n i) := v6
                      have hu := ((u1.st v1 v2).st v3 v4).st v5 v6
                      have hs := pa_twoS_wf (n := n) (p := i) hwf rx.1 x1 rw.1 w1
                      have hf8 : ∀ j, y8 41 j = y4 41 j := fun j => ((v5 41 j (by unfold pm_Zs; omega)).trans (v3 41 j (by unfold pm_Zs; omega))).trans (v1 41 j (by unfold pm_Zs; omega))
                      have h137 : ∀ b, b = i / 2 → pe_X (d + 8) 221 (137, [some (.inr (.inr M)), some (.inl x), some (.inl w), some (.inl n), some (.inl i), o5, o6], [.inl b, .inl w, .inl x, .inr (.inr M), .inl (2 * i), .inr (.inr (M + 41))], pm_h M σ (M + 38) y8) Φ := fun b hb => by
                        subst hb
                        refine b221_137 hF (k := ?_)
                        refine pe_M.up (c219 (d := 0) hF v6 hs.1.1 rx.1 (by rw [hs.2]; exact x1) rw.1 (by rw [hs.2]; exact w1) (by omega) ?_) (by omega)
                        have h167 : ∀ b, b = i % 2 → pe_X (d + 8) 221 (167, [some (.inr (.inr M)), some (.inl x), some (.inl w), some (.inl n), some (.inl i), o5, o6], [.inl b, .inl x, .inl w, .inr (.inr M), .inl (2 * i + 1), .inr (.inr (M + 41))], pm_h M σ (M + 38) (pm_u y8 41 (2 * i) (pa_gain (pa_twoS a x w n i) x w (i / 2)))) Φ := fun b hb => by
                          subst hb
                          refine b221_167 hF (k := ?_)
                          have f1 : pm_R (pm_u y8 41 (2 * i) (pa_gain (pa_twoS a x w n i) x w (i / 2))) (pa_twoS a x w n i) := pm_R_z v6 hs.1 (pm_fr_u (by unfold pm_Zr; omega))
                          have g1 := hu.ex (pm_fr_u (v := pa_gain (pa_twoS a x w n i) x w (i / 2)) (j := 2 * i) (k := 41) (by unfold pm_Zq; omega)) f1
                          refine pe_M.up (c219 (d := 0) hF f1 hs.1.1 rw.1 (by rw [hs.2]; exact w1) rx.1 (by rw [hs.2]; exact x1) (by omega) ?_) (by omega)
                          refine b221_170 hF (k := ?_)
                          have f2 := pm_R_z f1 hs.1 (pm_fr_u (v := pa_gain (pa_twoS a x w n i) w x (i % 2)) (j := 2 * i + 1) (k := 41) (by unfold pm_Zr; omega))
                          have g2 := g1.ex (pm_fr_u (v := pa_gain (pa_twoS a x w n i) w x (i % 2)) (j := 2 * i + 1) (k := 41) (by unfold pm_Zq; omega)) f2
                          refine pe_M.up (c188n (d := 0) hF g2 hwf (fun y9 v8 v9 v10 => ?_)) (by omega)
                          refine b221_175 hF (k := ?_)
                          refine ih (i + 1) _ _ y9 (by omega) (by omega) (fun p p0 p1 => ?_) v8
                          have e : ∀ j, y9 41 j = if j = 2 * i + 1 then pa_g2 a x w n i else if j = 2 * i then pa_g1 a x w n i else y4 41 j := fun j => by
                            rw [v10 41 j (by unfold pm_Zo pm_Zy; omega)]
                            simp only [pm_u, true_and, hf8]
                            rfl
                          rw [e, e]
                          by_cases hp : p = i
                          · subst hp
                            rw [if_neg (by omega), if_pos rfl, if_pos rfl]
                            exact ⟨rfl, rfl⟩
                          · rw [if_neg (by omega), if_neg (by omega), if_neg (by omega), if_neg (by omega)]
                            exact hy p p0 (by omega)
                        refine b221_140 hF (k1 := fun q => ?_) (k2 := fun q => ?_)
                        · refine b221_166 hF (k := ?_)
                          exact h167 0 (by omega)
                        · refine b221_162 hF (k := ?_)
                          exact h167 1 (by omega)
                      refine b221_113 hF (k1 := fun q => ?_) (k2 := fun q => ?_)
                      · refine b221_136 hF (k := ?_)
                        exact h137 0 (by omega)
                      · refine b221_132 hF (k := ?_)
                        exact h137 1 (by omega)
                    refine b221_90 hF (k1 := fun q => ?_) (k2 := fun q => ?_)
                    · refine b221_104 hF (k := ?_)
                      exact h105 0 (by omega)
                    · refine b221_100 hF (k := ?_)
                      exact h105 1 (by omega)
                  refine b221_66 hF (k1 := fun r => by omega) (k2 := fun _ => ?_)
                  refine b221_72 hF (k1 := fun q => ?_) (k2 := fun q => ?_)
                  · refine b221_86 hF (k := ?_)
                    exact h87 0 (by omega)
                  · refine b221_82 hF (k := ?_)
                    exact h87 1 (by omega)
              refine b221_63 hF (k := ?_)
              exact loop1 4 0 _ _ y4 (by decide) (by decide) (fun p p0 p1 => absurd p0 (by omega)) g
        · refine b221_35 hF (k1 := fun r => absurd rfl r) (k2 := fun _ => ?_)
          exact hno (by omega)
    · refine b221_18 hF (k1 := fun _ => ?_) (k2 := fun r => absurd rfl r)
      exact hno (by omega)
  · refine b221_10 hF (k1 := fun _ => ?_) (k2 := fun r => absurd rfl r)
    exact hno (by omega)
end
