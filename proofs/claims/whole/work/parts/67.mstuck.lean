/-! THE MODEL: stuck, leastWidth, closeBest -/
noncomputable def pa_stuckN : Nat → Int → pa_M → Int × Int
  | 0, _, _ => (-4, -4)
  | m + 1, i, s => if pa_line s = [] then (i, pe_and (pe_shl 1 (s.1 4) - 1) (pe_xor (pa_bits (pa_isEnd s) (s.1 4).toNat) (-1))) else pa_stuckN m (i + 1) (pa_round s)
noncomputable def pa_aStuck (a : pa_M) (x : Int) : Int := if ¬ (0 ≤ x ∧ x ≤ 1) then -1 else if x = 0 then (pa_stuckN 61 0 a).1 else (pa_stuckN 61 0 a).2
def pa_wid (a : pa_M) (w : Int) : pa_M := (pa_s a.1 5 w, a.2)
noncomputable def pa_lwR (a : pa_M) (n w : Int) : pa_M := pa_rounds n.toNat (pa_wid a w)
noncomputable def pa_lwN (a : pa_M) (n : Int) : Nat → Int → Int
  | 0, _ => -4
  | m + 1, w => if pb_c (pa_bits (pa_isEnd (pa_lwR a n w)) ((pa_lwR a n w).1 4).toNat) = (pa_lwR a n w).1 4 then w else pa_lwN a n m (w + 1)
noncomputable def pa_aLeast (a : pa_M) (n : Int) : Int := if ¬ (0 ≤ n ∧ n ≤ 60) then -1 else pa_lwN a n 8 1
/-- how many are done but for one -/
def pa_don (s : pa_M) (c : Int) : Int := pa_cnt (fun o => !decide (o = c) && pa_isDone s o) (s.1 4).toNat
noncomputable def pa_cbN (a : pa_M) (n : Int) : Nat → Int → Int → Int → Int
  | 0, _, b, _ => b
  | m + 1, c, b, t => if (a.2.1 c).1 2 < 6 ∧ pa_don (pa_rounds n.toNat a) c < pa_don (pa_rounds n.toNat (pa_shut a c)) c ∧ t < pa_don (pa_rounds n.toNat (pa_shut a c)) c then pa_cbN a n m (c + 1) c (pa_don (pa_rounds n.toNat (pa_shut a c)) c) else pa_cbN a n m (c + 1) b t
noncomputable def pa_aCloseBest (a : pa_M) (n : Int) : Int := if ¬ (0 ≤ n ∧ n ≤ 40) then -1 else pa_cbN a n (a.1 4).toNat 0 (-4) (-1)
section
variable {d M q : Nat} {Φ : Option pe_V → pe_H → Prop} {σ : pe_H} {y : Nat → Int → Int} {a : pa_M} {c n : Int}
theorem pa_wid_wf {w : Int} (h : pa_wf a) (h1 : 1 ≤ w) (h8 : w ≤ 8) : pa_wf (pa_wid a w) := ⟨⟨h.1.1, ⟨h1, h8⟩, h.1.2.2⟩, h.2⟩
theorem pm_R_wid {w : Int} (hM : pm_R y a) (hw8 : pa_wf8 a) : pm_R (pm_u y 0 28 w) (pa_wid a w) := by
  have h := hM.cnt
  refine pm_R_0 hM hw8 (fun k hk => ?_) ?_ ?_ ?_ ?_ rfl rfl
  · funext j; simp [pm_u, hk]
  · simp [pm_u, pa_wid, pa_s, h.1]
  · simp [pm_u, pa_wid, pa_s]
  · simp [pm_u, pa_wid, pa_s, h.2.2]
  · simp [pm_u]
/-- stuck -/
theorem c207 {x : Int} (hF : pm_F M σ) (hM : pm_R y a) (hwf : pa_wf a) (hx : -2147483648 ≤ x ∧ x < 2147483648) (k : ∀ q' y2, pm_Pb y y2 a → Φ (some (.inl (pa_aStuck a x))) (pm_h M σ q' y2)) : pe_M (d + 8) 207 [.inr (.inr M), .inl x] (pm_h M σ q y) Φ := by
  have h8 := hwf.1.1
  have hP := pm_Pb_37 hM hwf
  unfold pa_aStuck at k
  refine pe_M_of ck207 (Nat.le_of_ble_eq_true rfl) ?_
  refine b207_0 hF (k := ?_)
  generalize pm_u y 0 37 0 = z at *
  refine pe_M.up (c134 (d := 0) hF (by omega) (by omega) (by omega) (fun r => ?_) (fun r => ?_)) (by omega)
  · refine b207_12 hF (k1 := fun _ => ?_) (k2 := fun r => by omega)
    rw [if_neg (by omega)] at k
    refine b207_17 hF (k := ?_)
    refine pe_M.up (c187q (d := 0) hF hP hwf (fun y4 g => ?_)) (by omega)
    have hex : ∀ (y4 : Nat → Int → Int) (s : pa_M) (v : Int × Int) (o4 : Option pe_V), pm_Mi y a y4 s → v = pa_stuckN 61 0 a → pe_X (d + 7) 207 (95, [some (.inr (.inr M)), some (.inl x), some (.inl v.1), some (.inl v.2), o4], [], pm_h M σ (M + 38) y4) Φ := fun y4 s v o4 u1 u2 => by
      refine b207_95 hF (k := ?_)
      refine pe_M.up (c188m (d := 0) hF u1 hwf (fun y5 v1 v2 => ?_)) (by omega)
      subst u2
      refine b207_99 hF (k1 := fun rx => ?_) (k2 := fun rx => ?_)
      · refine b207_107 hF (k := ?_)
        refine b207_108 hF (k := ?_)
        rw [if_neg rx] at k
        exact k _ _ v2
      · refine b207_103 hF (k := ?_)
        refine b207_108 hF (k := ?_)
        rw [if_pos rx] at k
        exact k _ _ v2
    have loop : ∀ (m : Nat) (i : Int) (y4 : Nat → Int → Int) (s : pa_M), i + m = 61 → 0 ≤ i → pm_Mi y a y4 s → pa_wf s → pa_stuckN m i s = pa_stuckN 61 0 a → pe_X (d + 7) 207 (30, [some (.inr (.inr M)), some (.inl x), some (.inl (-4)), some (.inl (-4)), some (.inl i)], [], pm_h M σ (M + 38) y4) Φ := by
      intro m
      induction m with
      | zero =>
        intro i y4 s hi hi0 u1 u3 u5
        refine b207_30 hF (k1 := fun _ => ?_) (k2 := fun r => by omega)
        exact hex y4 s (-4, -4) _ u1 u5
      | succ m ih =>
        intro i y4 s hi hi0 u1 u3 u5
        unfold pa_stuckN at u5
        refine b207_30 hF (k1 := fun r => by omega) (k2 := fun _ => ?_)
        refine b207_37 hF (k1 := fun r => by omega) (k2 := fun _ => ?_)
        refine b207_41 hF (k := ?_)
        refine pe_M.up (c206 (d := 0) hF u1.R u3.1 ?_) (by omega)
        by_cases hl : pa_line s = []
        · rw [if_pos hl] at u5 ⊢
          refine b207_45 hF (k1 := fun _ => ?_) (k2 := fun r => absurd rfl r)
          refine b207_53 hF (k := ?_)
          refine b207_55 hF (k := ?_)
          refine pe_M.up (c206 (d := 0) hF u1.R u3.1 ?_) (by omega)
          rw [if_pos hl]
          refine b207_60 hF (k1 := fun _ => ?_) (k2 := fun r => absurd rfl r)
          refine b207_68 hF (k := ?_)
          refine pe_M.up (c141 (d := 0) hF u1.R u3.1 ?_) (by omega)
          refine b207_80 hF (k := ?_)
          refine b207_83 hF (k := ?_)
          refine c169f hF u1.R u3 (fun y6 w1 w2 w3 => ?_)
          refine b207_89 hF (k := ?_)
          rw [u1.R.cnt.1]
          refine b207_30 hF (k1 := fun r => ?_) (k2 := fun r => ?_)
          · exact hex y6 _ (i, _) _ (u1.st w1 w3) u5
          · refine b207_37 hF (k1 := fun _ => ?_) (k2 := fun r => by omega)
            exact hex y6 _ (i, _) _ (u1.st w1 w3) u5
        · rw [if_neg hl] at u5 ⊢
          refine b207_45 hF (k1 := fun r => by omega) (k2 := fun _ => ?_)
          refine b207_48 hF (k := ?_)
          refine b207_55 hF (k := ?_)
          refine pe_M.up (c206 (d := 0) hF u1.R u3.1 ?_) (by omega)
          rw [if_neg hl]
          refine b207_60 hF (k1 := fun r => by omega) (k2 := fun _ => ?_)
          refine b207_63 hF (k := ?_)
          refine b207_83 hF (k := ?_)
          refine c169f hF u1.R u3 (fun y6 w1 w2 w3 => ?_)
          refine b207_89 hF (k := ?_)
          exact ih (i + 1) y6 _ (by omega) (by omega) (u1.st w1 w3) (pa_round_wf u3).1 u5
    refine b207_27 hF (k := ?_)
    exact loop 61 0 y4 a (by decide) (by decide) g hwf rfl
  · refine b207_12 hF (k1 := fun r => absurd rfl r) (k2 := fun _ => ?_)
    rw [if_pos (by omega)] at k
    refine b207_15 hF (k := ?_)
    exact k _ _ hP
/-- leastWidth -/
theorem c208 (hF : pm_F M σ) (hM : pm_R y a) (hwf : pa_wf a) (h6 : 0 ≤ a.1 6 ∧ a.1 6 ≤ 999) (hn : -2147483648 ≤ n ∧ n < 2147483648) (k : ∀ q' y2, pm_Pb y y2 a → Φ (some (.inl (pa_aLeast a n))) (pm_h M σ q' y2)) : pe_M (d + 9) 208 [.inr (.inr M), .inl n] (pm_h M σ q y) Φ := by
  have h8 := hwf.1.1
  have hP := pm_Pb_37 hM hwf
  unfold pa_aLeast at k
  refine pe_M_of ck208 (Nat.le_of_ble_eq_true rfl) ?_
  refine b208_0 hF (k := ?_)
  generalize pm_u y 0 37 0 = z at *
  refine pe_M.up (c134 (d := 0) hF (by omega) (by omega) (by omega) (fun r => ?_) (fun r => ?_)) (by omega)
  · refine b208_14 hF (k1 := fun _ => ?_) (k2 := fun r => by omega)
    rw [if_neg (by omega)] at k
    refine b208_19 hF (k := ?_)
    refine pe_M.up (c187q (d := 0) hF hP hwf (fun y4 g => ?_)) (by omega)
    have loop : ∀ (m : Nat) (w : Int) (q' : Nat) (y4 y3 : Nat → Int → Int), w + m = 9 → 1 ≤ w → pm_Mi y a y4 a → pa_lwN a n m w = pa_lwN a n 8 1 → (∀ v, v = pa_lwN a n 8 1 → Φ (some (.inl v)) (pm_h M σ q' y4)) → pe_X (d + 8) 208 (28, [some (.inr (.inr M)), some (.inl n), some (.inl (-4)), some (.inl w)], [], pm_h M σ q' y4) Φ := by
      intro m
      induction m with
      | zero =>
        intro w q' y4 _ hw hw1 u1 u5 hk
        refine b208_28 hF (k1 := fun _ => ?_) (k2 := fun r => by omega)
        refine b208_79 hF (k := ?_)
        exact hk _ u5
      | succ m ih =>
        intro w q' y4 _ hw hw1 u1 u5 hk
        unfold pa_lwN at u5
        refine b208_28 hF (k1 := fun r => by omega) (k2 := fun _ => ?_)
        refine b208_34 hF (k1 := fun r => by omega) (k2 := fun _ => ?_)
        refine b208_38 hF (k := ?_)
        have hww := pa_wid_wf hwf hw1 (by omega : w ≤ 8)
        refine c170 hF (pm_R_wid u1.R hwf.1.w8) hww r.1 (by omega) (by show 0 ≤ a.1 6 ∧ a.1 6 ≤ _; omega) (fun y6 w1 w2 w3 => ?_)
        have w2 : pm_R y6 (pa_lwR a n w) := w2
        have w3 : pa_wf (pa_lwR a n w) := w3
        have h4 := w3.1.1
        have hu : pm_Mi y a y6 (pa_lwR a n w) := u1.ex (pm_fr_trans (pm_fr_u (by unfold pm_Zq pm_Zo pm_Zy; omega)) (pm_fr_mono w1 pm_Zs_Zq)) w2
        have hb := pa_bits_255 (pa_isEnd (pa_lwR a n w)) (n := ((pa_lwR a n w).1 4).toNat) (by omega)
        have hc8 : 0 ≤ pb_c (pa_bits (pa_isEnd (pa_lwR a n w)) ((pa_lwR a n w).1 4).toNat) ∧ pb_c (pa_bits (pa_isEnd (pa_lwR a n w)) ((pa_lwR a n w).1 4).toNat) ≤ 8 := by
          obtain ⟨u, e⟩ := pb_fin hb.1 hb.2
          rw [← e]
          exact pb_c_8 u
        have e3 := w2.cnt.1
        refine b208_48 hF (k := ?_)
        refine pe_M.up (c141 (d := 0) hF w2 w3.1 ?_) (by omega)
        refine b208_52 hF (k := ?_)
        refine pe_M.up (c136 (d := 0) hF hb.1 hb.2 ?_) (by omega)
        refine b208_55 hF (k1 := fun re => ?_) (k2 := fun re => ?_)
        · rw [if_neg (fun hh => re (hh.trans e3.symm))] at u5
          refine b208_66 hF (k := ?_)
          refine b208_68 hF (k := ?_)
          refine pe_M.up (c188m (d := 0) hF hu hwf (fun y5 v1 v2 => ?_)) (by omega)
          refine b208_73 hF (k := ?_)
          exact ih (w + 1) _ y5 y5 (by omega) (by omega) v1 u5 (fun v hv => by rw [hv]; exact k _ _ v2)
        · rw [if_pos (re.trans e3)] at u5
          refine b208_62 hF (k := ?_)
          refine b208_68 hF (k := ?_)
          refine pe_M.up (c188m (d := 0) hF hu hwf (fun y5 v1 v2 => ?_)) (by omega)
          refine b208_73 hF (k := ?_)
          refine b208_28 hF (k1 := fun r => ?_) (k2 := fun r => ?_)
          · refine b208_79 hF (k := ?_)
            rw [u5]; exact k _ _ v2
          · refine b208_34 hF (k1 := fun _ => ?_) (k2 := fun r => by omega)
            refine b208_79 hF (k := ?_)
            rw [u5]; exact k _ _ v2
    refine b208_26 hF (k := ?_)
    exact loop 8 1 _ y4 y4 (by decide) (by decide) g rfl (fun v hv => by rw [hv]; exact k _ _ (pm_Mi_Pb g))
  · refine b208_14 hF (k1 := fun r => absurd rfl r) (k2 := fun _ => ?_)
    rw [if_pos (by omega)] at k
    refine b208_17 hF (k := ?_)
    exact k _ _ hP
/-- doneBut -/
theorem c209 (hF : pm_F M σ) (hM : pm_R y a) (hwf : pa_wf0 a) (hc : -2147483648 ≤ c ∧ c < 2147483648) (k : Φ (some (.inl (pa_don a c))) (pm_h M σ q y)) : pe_M (d + 1) 209 [.inr (.inr M), .inl c] (pm_h M σ q y) Φ := by
  have h8 := hwf.1
  have e4 := hM.cnt.1
  have loop : ∀ (m i : Nat) (v : Int), (i : Int) + m = a.1 4 → v = pa_cnt (fun o => !decide (o = c) && pa_isDone a o) i → pe_X d 209 (4, [some (.inr (.inr M)), some (.inl c), some (.inl v), some (.inl (i : Int))], [], pm_h M σ q y) Φ := by
    intro m
    induction m with
    | zero =>
      intro i v hi hv
      refine b209_4 hF (k1 := fun _ => ?_) (k2 := fun r => by omega)
      refine b209_42 hF (k := ?_)
      unfold pa_don at k
      rw [show (a.1 4).toNat = i by omega, ← hv] at k
      exact k
    | succ m ih =>
      intro i v hi hv
      have hb := pa_cnt_b (fun o => !decide (o = c) && pa_isDone a o) i
      have i2 : y 7 (i : Int) = (a.2.1 i).1 2 := (hM.nn (by omega : 0 ≤ (i : Int)) (by omega)).1.1.2.1
      have hb2 := (hwf.2.2.1 i (by omega) (by omega)).1.2.1
      have ev : pa_cnt (fun o => !decide (o = c) && pa_isDone a o) (i + 1) = v + (if (!decide ((i : Int) = c) && pa_isDone a i) = true then 1 else 0) := by rw [hv]; rfl
      refine b209_4 hF (k1 := fun r => by omega) (k2 := fun _ => ?_)
      refine b209_12 hF (k1 := fun rc => ?_) (k2 := fun rc => ?_)
      · rw [if_neg (by simp [rc])] at ev
        refine b209_33 hF (k := ?_)
        refine b209_34 hF (k := ?_)
        exact ih (i + 1) _ (by push_cast; omega) ev.symm
      · refine b209_18 hF (k1 := fun rd => ?_) (k2 := fun rd => ?_)
        · rw [if_neg (by unfold pa_isDone; simp; intro _; omega)] at ev
          refine b209_33 hF (k := ?_)
          refine b209_34 hF (k := ?_)
          exact ih (i + 1) _ (by push_cast; omega) ev.symm
        · rw [if_pos (by unfold pa_isDone; simp [rc]; omega)] at ev
          refine b209_29 hF (k := ?_)
          refine b209_34 hF (k := ?_)
          exact ih (i + 1) _ (by push_cast; omega) ev.symm
  refine pe_M_of ck209 (Nat.le_of_ble_eq_true rfl) ?_
  refine b209_0 hF (k := ?_)
  exact loop (a.1 4).toNat 0 0 (by omega) rfl
/-- closeBest -/
theorem c210 (hF : pm_F M σ) (hM : pm_R y a) (hwf : pa_wf a) (h6 : 0 ≤ a.1 6 ∧ a.1 6 ≤ 999) (hn : -2147483648 ≤ n ∧ n < 2147483648) (k : ∀ q' y2, pm_Pb y y2 a → Φ (some (.inl (pa_aCloseBest a n))) (pm_h M σ q' y2)) : pe_M (d + 9) 210 [.inr (.inr M), .inl n] (pm_h M σ q y) Φ := by
  have h8 := hwf.1.1
  have hP := pm_Pb_37 hM hwf
  unfold pa_aCloseBest at k
  refine pe_M_of ck210 (Nat.le_of_ble_eq_true rfl) ?_
  refine b210_0 hF (k := ?_)
  generalize pm_u y 0 37 0 = z at *
  refine pe_M.up (c134 (d := 0) hF (by omega) (by omega) (by omega) (fun r => ?_) (fun r => ?_)) (by omega)
  · refine b210_14 hF (k1 := fun _ => ?_) (k2 := fun r => by omega)
    rw [if_neg (by omega)] at k
    refine b210_19 hF (k := ?_)
    refine pe_M.up (c187q (d := 0) hF hP hwf (fun y4 g => ?_)) (by omega)
    obtain ⟨V, hV⟩ : ∃ V, V = pa_cbN a n (a.1 4).toNat 0 (-4) (-1) := ⟨_, rfl⟩
    rw [← hV] at k
    have loop : ∀ (m : Nat) (c b t : Int) (o5 o6 : Option pe_V) (y4 : Nat → Int → Int), c + m = a.1 4 → 0 ≤ c → -4 ≤ b → b ≤ 8 → -1 ≤ t → t ≤ 8 → pm_Mi y a y4 a → pm_Pb y y4 a → pa_cbN a n m c b t = V → pe_X (d + 8) 210 (31, [some (.inr (.inr M)), some (.inl n), some (.inl b), some (.inl t), some (.inl c), o5, o6], [], pm_h M σ (M + 38) y4) Φ := by
      intro m
      induction m with
      | zero =>
        intro c b t o5 o6 y4 hc hc0 b1 b2 t1 t2 u1 u2 u5
        have e4 := u1.R.cnt.1
        refine b210_31 hF (k1 := fun _ => ?_) (k2 := fun r => by omega)
        refine b210_135 hF (k := ?_)
        have u5 : b = _ := u5
        rw [u5]
        exact k _ _ u2
      | succ m ih =>
        intro c b t o5 o6 y4 hc hc0 b1 b2 t1 t2 u1 u2 u5
        have e4 := u1.R.cnt.1
        have hc1 : c < a.1 4 := by omega
        have i2 : y4 7 c = (a.2.1 c).1 2 := (u1.R.nn hc0 hc1).1.1.2.1
        have hb2 := (hwf.1.2.2.1 c hc0 hc1).1.2.1
        unfold pa_cbN at u5
        refine b210_31 hF (k1 := fun r => by omega) (k2 := fun _ => ?_)
        refine b210_40 hF (k := ?_)
        refine pe_M.up (c139 (d := 0) hF hc0 (by omega) (by omega) (fun r6 => ?_) (fun r6 => ?_)) (by omega)
        · rw [if_neg (by omega)] at u5
          refine b210_46 hF (k1 := fun _ => ?_) (k2 := fun r => by omega)
          refine b210_129 hF (k := ?_)
          exact ih (c + 1) b t o5 o6 y4 (by omega) (by omega) b1 b2 t1 t2 u1 u2 u5
        · refine b210_46 hF (k1 := fun r => absurd rfl r) (k2 := fun _ => ?_)
          refine b210_49 hF (k := ?_)
          refine c170 hF u1.R hwf r.1 (by omega) (by omega) (fun y6 w1 w2 w3 => ?_)
          have v1 := u1.st w1 w2
          refine b210_54 hF (k := ?_)
          refine pe_M.up (c209 (d := 0) hF w2 w3.1 (by omega) ?_) (by omega)
          refine b210_60 hF (k := ?_)
          refine pe_M.up (c188m (d := 0) hF v1 hwf (fun y5 v1 v2 => ?_)) (by omega)
          refine b210_66 hF (k := ?_)
          have hs := pa_shut_wf hwf hc0 hc1 (by omega)
          refine pe_M.up (c167 (d := 0) hF v1.R hwf hc0 hc1 (by omega) (fun y7 w4 w5 => ?_)) (by omega)
          have v3 := v1.st w4 w5
          refine b210_72 hF (k := ?_)
          refine c170 hF w5 hs.1 r.1 (by omega) (by rw [hs.2]; omega) (fun y8 w6 w7 w8 => ?_)
          have v4 := v3.st w6 w7
          refine b210_77 hF (k := ?_)
          refine pe_M.up (c209 (d := 0) hF w7 w8.1 (by omega) ?_) (by omega)
          refine b210_83 hF (k := ?_)
          refine pe_M.up (c188m (d := 0) hF v4 hwf (fun y9 v5 v6 => ?_)) (by omega)
          have d1 := pa_cnt_b (fun o => !decide (o = c) && pa_isDone (pa_rounds n.toNat a) o) ((pa_rounds n.toNat a).1 4).toNat
          have d2 := pa_cnt_b (fun o => !decide (o = c) && pa_isDone (pa_rounds n.toNat (pa_shut a c)) o) ((pa_rounds n.toNat (pa_shut a c)).1 4).toNat
          have g3 := w3.1.1
          have g8 := w8.1.1
          unfold pa_don at u5 ⊢
          generalize pa_cnt (fun o => !decide (o = c) && pa_isDone (pa_rounds n.toNat a) o) ((pa_rounds n.toNat a).1 4).toNat = x1 at *
          generalize pa_cnt (fun o => !decide (o = c) && pa_isDone (pa_rounds n.toNat (pa_shut a c)) o) ((pa_rounds n.toNat (pa_shut a c)).1 4).toNat = x2 at *
          refine b210_89 hF (k1 := fun q1 => ?_) (k2 := fun q1 => ?_)
          · rw [if_neg (by omega)] at u5
            refine b210_107 hF (k := ?_)
            refine b210_108 hF (k1 := fun _ => ?_) (k2 := fun r => by omega)
            refine b210_127 hF (k := ?_)
            refine b210_128 hF (k := ?_)
            refine b210_129 hF (k := ?_)
            exact ih (c + 1) b t _ _ y9 (by omega) (by omega) b1 b2 t1 t2 v5 v6 u5
          · refine b210_96 hF (k1 := fun q2 => ?_) (k2 := fun q2 => ?_)
            · rw [if_neg (by omega)] at u5
              refine b210_107 hF (k := ?_)
              refine b210_108 hF (k1 := fun r => by omega) (k2 := fun _ => ?_)
              refine b210_116 hF (k1 := fun _ => ?_) (k2 := fun r => by omega)
              refine b210_127 hF (k := ?_)
              refine b210_128 hF (k := ?_)
              refine b210_129 hF (k := ?_)
              exact ih (c + 1) b t _ _ y9 (by omega) (by omega) b1 b2 t1 t2 v5 v6 u5
            · rw [if_pos (by omega)] at u5
              refine b210_102 hF (k := ?_)
              refine b210_108 hF (k1 := fun r => by omega) (k2 := fun _ => ?_)
              refine b210_116 hF (k1 := fun r => by omega) (k2 := fun _ => ?_)
              refine b210_122 hF (k := ?_)
              refine b210_128 hF (k := ?_)
              refine b210_129 hF (k := ?_)
              exact ih (c + 1) c x2 _ _ y9 (by omega) (by omega) (by omega) (by omega) (by omega) (by omega) v5 v6 u5
    refine b210_28 hF (k := ?_)
    exact loop (a.1 4).toNat 0 (-4) (-1) _ _ y4 (by omega) (by decide) (by decide) (by decide) (by decide) (by decide) g (pm_Mi_Pb g) hV.symm
  · refine b210_14 hF (k1 := fun r => absurd rfl r) (k2 := fun _ => ?_)
    rw [if_pos (by omega)] at k
    refine b210_17 hF (k := ?_)
    exact k _ _ hP
end
