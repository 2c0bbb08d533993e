/-! THE CLASS: closeBest, sendBest, firstOut, two -/
theorem pa_bits_one {c : Int} (c0 : 0 ≤ c) : ∀ m : Nat, pa_bits (fun o => decide (o = c)) m = if c < (m : Int) then (2 : Int) ^ c.toNat else 0
  | 0 => by rw [if_neg (by push_cast; omega)]; rfl
  | m + 1 => by
    unfold pa_bits
    rw [pa_bits_one c0 m]
    push_cast
    by_cases e : (m : Int) = c
    · rw [decide_eq_true e, if_pos rfl, if_neg (by omega), if_pos (by omega), show c.toNat = m by omega]
      omega
    · rw [decide_eq_false e]
      rw [if_neg (by simp : ¬ false = true), Int.add_zero]
      by_cases q : c < (m : Int)
      · rw [if_pos q, if_pos (by omega)]
      · rw [if_neg q, if_neg (by omega)]
theorem pa_cnt_ext {p q : Int → Bool} : ∀ n : Nat, (∀ i : Nat, i < n → p i = q i) → pa_cnt p n = pa_cnt q n
  | 0, _ => rfl
  | n + 1, h => by
    unfold pa_cnt
    rw [pa_cnt_ext n (fun i hi => h i (by omega)), h n (by omega)]
/-- how many are done but for c -/
theorem pa_don_bits {s : pa_M} {c : Int} (hs : pa_wf0 s) (c0 : 0 ≤ c) (c1 : c < s.1 4) : pb_c (pe_and (pa_bits (pa_isDone s) (s.1 4).toNat) (pe_xor (pe_shl 1 c) (-1))) = pa_don s c := by
  have h8 := hs.1
  have e : pe_shl 1 c = pa_bits (fun o => decide (o = c)) (s.1 4).toNat := by
    rw [pa_bits_one c0, if_pos (by omega)]
    have := pb_shl (c := c.toNat) (by omega)
    rw [show ((c.toNat : Nat) : Int) = c by omega] at this
    exact this
  rw [e, pb_lss _ _ (by omega), pb_c_bits _ _ (by omega)]
  exact pa_cnt_ext _ (fun i hi => Bool.and_comm _ _)
section
variable {d C B P : Nat} {Φ : Option pe_V → pe_H → Prop} {T U : Nat → Prop} {σ σ' σ1 σ2 : pe_H} {c i x D n : Int} {l : List Int} {a s s' : pa_M} {im : Option pa_M} {h : Int → pa_Sh}
theorem pa_done_eq {a2 r : pa_M} (h2 : a2.2 = r.2) (h1 : a2.1 4 = r.1 4) : pa_bits (pa_isDone a2) (a2.1 4).toNat = pa_bits (pa_isDone r) (r.1 4).toNat := by
  rw [h1]
  exact pa_bits_ext _ (fun i hi => by unfold pa_isDone; rw [h2])
/-- othersDone -/
theorem k123 (hf : pk_fr (pg_X C) σ σ1) (hG : pg_G C T U σ1 a im h) (hw : pg_W a im h) (c0 : 0 ≤ c) (c1 : c < a.1 4) (h6 : (a.2.1 c).1 2 < 6) (hn0 : 0 ≤ n) (hn : n ≤ 40) (k : ∀ σ2, pk_fr (pg_X C) σ σ2 → pg_G C T U σ2 a im h → Φ (some (.inl (pa_don (pa_rounds n.toNat (pa_shut a c)) c))) σ2) : pe_M (d + 15) 123 [.inr (.inr C), .inl c, .inl n] σ1 Φ := by
  have hF := hG.F
  have h8 := hw.1.1.1.1
  have hs := pa_shut_wf hw.1.1 c0 c1 h6
  refine pe_M_of ck123 (Nat.le_of_ble_eq_true rfl) ?_
  refine b123_0 (k := ?_)
  refine pe_M.up (k122q (d := 0) hf hG hw (fun σ2 q2 => ?_)) (by omega)
  have hm2 := q2.m
  refine b123_4 (k := ?_)
  refine pe_M.up (k26 (d := 0) q2.M hw.1.1 c0 c1 h6 (fun σ3 e1 e2 => ?_)) (by omega)
  have q3 := q2.next hw (by decide) (by decide) (pk_fr_mono e1 pk_Zs_Z) e2 hs.1
  have hm3 := q3.m
  refine b123_10 (k := ?_)
  refine pe_M.up (k27 (d := 0) q3.M hs.1 hn0 (by omega) (fun σ4 a2 e1 e2 e3 e4 e5 => ?_)) (by omega)
  have q4 := q3.next hw (by decide) (by decide) (pk_fr_mono e1 pk_Zb_Z) e2 e3
  have hm4 := q4.m
  have hr4 := pa_rounds4 n.toNat _ hs.1
  have hrw := pa_rounds_wf n.toNat _ hs.1
  have h84 := e3.1.1
  have hb := pa_bits_255 (pa_isDone a2) (n := (a2.1 4).toNat) (by omega)
  refine b123_15 (k := ?_)
  refine pe_M.up (k18 (d := 0) q4.M e3.1 ?_) (by omega)
  refine b123_19 (k := ?_)
  refine pe_M.up (k245 (d := 0) ?_) (by omega)
  refine b123_28 (k := ?_)
  rw [pa_done_eq e4 (e5 4 (by decide)), pa_don_bits hrw.1 c0 (by rw [hr4, hs.2]; exact c1)]
  exact k σ4 q4.1 q4.G
/-- closeBest -/
theorem k95 (hG : pg_G C T U σ a im h) (hw : pg_W a im h) (hn : -2147483648 ≤ n ∧ n < 2147483648) (k : ∀ σ2, pk_fr (pg_X C) σ σ2 → pg_G C T U σ2 a im h → Φ (some (.inl (pa_aCloseBest a n))) σ2) : pe_M (d + 17) 95 [.inr (.inr C), .inl n] σ Φ := by
  have hF := hG.F
  have h8 := hw.1.1.1.1
  unfold pa_aCloseBest at k
  have hno : ¬ (0 ≤ n ∧ n ≤ 40) → Φ (some (.inl (-1))) σ := fun q => by
    rw [if_pos q] at k
    exact k σ (pk_fr_refl _ _) hG
  refine pe_M_of ck95 (Nat.le_of_ble_eq_true rfl) ?_
  refine b95_0 (k1 := fun r1 => ?_) (k2 := fun r1 => ?_)
  · refine b95_10 (k := ?_)
    exact hno (by omega)
  · refine b95_4 (k1 := fun r2 => ?_) (k2 := fun r2 => ?_)
    · rw [if_neg (by omega)] at k
      refine b95_12 (k := ?_)
      refine pe_M.up (k122q (d := 0) (pk_fr_refl _ _) hG hw (fun σ2 q2 => ?_)) (by omega)
      have hF2 := q2.F
      have hm2 := q2.m
      refine b95_16 (k := ?_)
      refine pe_M.up (k27 (d := 0) q2.M hw.1.1 (by omega) (by omega) (fun σ3 a2 e1 e2 e3 e4 e5 => ?_)) (by omega)
      have q3 := q2.next hw (by decide) (by decide) (pk_fr_mono e1 pk_Zb_Z) e2 e3
      have hF3 := q3.F
      have hm3 := q3.m
      have hr4 := pa_rounds4 n.toNat _ hw.1.1
      have hrw := pa_rounds_wf n.toNat _ hw.1.1
      have h84 := e3.1.1
      have hb := pa_bits_255 (pa_isDone a2) (n := (a2.1 4).toNat) (by omega)
      refine b95_22 (k := ?_)
      refine pe_M.up (k18 (d := 0) q3.M e3.1 ?_) (by omega)
      refine b95_26 (k := ?_)
      rw [pa_done_eq e4 (e5 4 (by decide))] at hb ⊢
      obtain ⟨V, hV⟩ : ∃ V, V = pa_cbN a n (a.1 4).toNat 0 (-4) (-1) := ⟨_, rfl⟩
      rw [← hV] at k
      have loop : ∀ (m : Nat) (c b t : Int) (o2 o7 : Option pe_V) (σ1 : pe_H), c + m = a.1 4 → 0 ≤ c → -4 ≤ b → b ≤ 8 → -1 ≤ t → t ≤ 8 → pk_fr (pg_X C) σ σ1 → pg_G C T U σ1 a im h → pa_cbN a n m c b t = V → pe_X (d + 16) 95 (37, [some (.inr (.inr C)), some (.inl n), o2, some (.inl (pa_bits (pa_isDone (pa_rounds n.toNat a)) ((pa_rounds n.toNat a).1 4).toNat)), some (.inl b), some (.inl t), some (.inl c), o7], [], σ1) Φ := by
        intro m
        induction m with
        | zero =>
          intro c b t o2 o7 σ1 hc hc0 b1 b2 t1 t2 f1 g1 hv
          have hF1 := g1.F
          have e4 := g1.M.cnt.1
          refine b95_37 (k1 := fun _ => ?_) (k2 := fun r => by omega)
          refine b95_111 (k := ?_)
          have hv : b = V := hv
          rw [hv]
          exact k σ1 f1 g1
        | succ m ih =>
          intro c b t o2 o7 σ1 hc hc0 b1 b2 t1 t2 f1 g1 hv
          have hF1 := g1.F
          have e4 := g1.M.cnt.1
          have hc1 : c < a.1 4 := by omega
          have ho : pk_Fo (pk_c (C + 1) c) σ1 := pk_mO (pk_sM0 hF1) hc0 (by omega)
          have i2 := (g1.M.i hc0 hc1).2.1
          have hb2 := (hw.1.1.1.2.2.1 c hc0 hc1).1.2.1
          unfold pa_cbN at hv
          refine b95_37 (k1 := fun r => by omega) (k2 := fun _ => ?_)
          refine b95_49 (k := ?_)
          refine pe_M.up (k3 (d := 0) ho i2 hb2 (fun r6 => ?_) (fun r6 => ?_)) (by omega)
          · rw [if_neg (by omega)] at hv
            refine b95_62 (k1 := fun _ => ?_) (k2 := fun r => by omega)
            refine b95_105 (k := ?_)
            exact ih (c + 1) b t _ _ σ1 (by omega) (by omega) b1 b2 t1 t2 f1 g1 hv
          · refine b95_62 (k1 := fun r => by omega) (k2 := fun _ => ?_)
            refine b95_65 (k := ?_)
            refine pe_M.up (k123 (d := 0) f1 g1 hw hc0 hc1 (by omega) (by omega) (by omega) (fun σ4 f4 g4 => ?_)) (by omega)
            have hF4 := g4.F
            have hd1 := pa_cnt_b (fun o => !decide (o = c) && pa_isDone (pa_rounds n.toNat a) o) ((pa_rounds n.toNat a).1 4).toNat
            have hd2 := pa_cnt_b (fun o => !decide (o = c) && pa_isDone (pa_rounds n.toNat (pa_shut a c)) o) ((pa_rounds n.toNat (pa_shut a c)).1 4).toNat
            have hs := pa_shut_wf hw.1.1 hc0 hc1 (by omega)
            have g3 := hrw.1.1
            have g8 := (pa_rounds_wf n.toNat _ hs.1).1.1
            have hx1 : 0 ≤ pa_don (pa_rounds n.toNat a) c ∧ pa_don (pa_rounds n.toNat a) c ≤ 8 := by unfold pa_don; omega
            have hx2 : 0 ≤ pa_don (pa_rounds n.toNat (pa_shut a c)) c ∧ pa_don (pa_rounds n.toNat (pa_shut a c)) c ≤ 8 := by unfold pa_don; omega
            refine b95_72 (k := ?_)
            refine pe_M.up (k245 (d := 0) ?_) (by omega)
            rw [pa_don_bits hrw.1 hc0 (by rw [hr4]; exact hc1)]
            generalize pa_don (pa_rounds n.toNat a) c = x1 at *
            generalize pa_don (pa_rounds n.toNat (pa_shut a c)) c = x2 at *
            refine b95_87 (k1 := fun q1 => ?_) (k2 := fun q1 => ?_)
            · rw [if_neg (by omega)] at hv
              refine b95_105 (k := ?_)
              exact ih (c + 1) b t _ _ σ4 (by omega) (by omega) b1 b2 t1 t2 f4 g4 hv
            · refine b95_90 (k1 := fun q2 => ?_) (k2 := fun q2 => ?_)
              · rw [if_neg (by omega)] at hv
                refine b95_105 (k := ?_)
                exact ih (c + 1) b t _ _ σ4 (by omega) (by omega) b1 b2 t1 t2 f4 g4 hv
              · rw [if_pos (by omega)] at hv
                refine b95_97 (k := ?_)
                refine b95_105 (k := ?_)
                exact ih (c + 1) c x2 _ _ σ4 (by omega) (by omega) (by omega) (by omega) (by omega) (by omega) f4 g4 hv
      exact loop (a.1 4).toNat 0 (-4) (-1) _ _ σ3 (by omega) (by decide) (by decide) (by decide) (by decide) (by decide) q3.1 q3.G hV.symm
    · refine b95_10 (k := ?_)
      exact hno (by omega)
/-- sendBest -/
theorem k96 (hG : pg_G C T U σ a im h) (hw : pg_W a im h) (hc : -2147483648 ≤ c ∧ c < 2147483648) (hx : -2147483648 ≤ x ∧ x < 2147483648) (k : ∀ σ2, pk_fr (pg_X C) σ σ2 → pg_G C T U σ2 a im h → Φ (some (.inl (pa_aSendBest a c x))) σ2) : pe_M (d + 15) 96 [.inr (.inr C), .inl c, .inl x] σ Φ := by
  have hF := hG.F
  have h8 := hw.1.1.1.1
  unfold pa_aSendBest at k
  have hno : ¬ ((0 ≤ c ∧ c < a.1 4) ∧ 0 ≤ x ∧ x ≤ 1) → Φ (some (.inl (-1))) σ := fun q => by
    rw [if_pos q] at k
    exact k σ (pk_fr_refl _ _) hG
  refine pe_M_of ck96 (Nat.le_of_ble_eq_true rfl) ?_
  refine b96_0 (k := ?_)
  refine pe_M.up (k117 (d := 0) hF hG.M hw.1.1.1 hc (fun rc => ?_) (fun r => ?_)) (by omega)
  · refine b96_5 (k1 := fun r => by omega) (k2 := fun _ => ?_)
    have h1 : c < 8 := by omega
    refine b96_8 (k1 := fun r1 => ?_) (k2 := fun r1 => ?_)
    · refine b96_17 (k := ?_)
      exact hno (by omega)
    · refine b96_12 (k1 := fun r2 => ?_) (k2 := fun r2 => ?_)
      · rw [if_neg (by omega)] at k
        have ho : pk_Fo (pk_c (C + 1) c) σ := pk_mO (pk_sM0 hF) rc.1 h1
        have i2 := (hG.M.i rc.1 rc.2).2.1
        have hb := (hw.1.1.1.2.2.1 c rc.1 rc.2).1.2.1
        refine b96_19 (k := ?_)
        refine pe_M.up (k4 (d := 0) ho i2 hb (fun r3 => ?_) (fun r3 => ?_)) (by omega)
        · rw [if_neg (by omega)] at k
          refine b96_31 (k1 := fun _ => ?_) (k2 := fun r => by omega)
          refine b96_37 (k := ?_)
          obtain ⟨V, hV⟩ : ∃ V, V = pa_sbN a c 21 0 (0, -4) := ⟨_, rfl⟩
          rw [← hV] at k
          have loop : ∀ (m : Nat) (v : Int) (b : Int × Int) (o6 : Option pe_V) (σ1 : pe_H), v + m = 21 → 0 ≤ v → -4 ≤ b.2 → b.2 ≤ 999 → pk_fr (pg_X C) σ σ1 → pg_G C T U σ1 a im h → pa_sbN a c m v b = V → pe_X (d + 14) 96 (46, [some (.inr (.inr C)), some (.inl c), some (.inl x), some (.inl b.1), some (.inl b.2), some (.inl v), o6], [], σ1) Φ := by
            intro m
            induction m with
            | zero =>
              intro v b o6 σ1 hi hi0 b1 b2 f1 g1 hv
              have hF1 := g1.F
              have hv : b = V := hv
              subst hv
              refine b96_46 (k1 := fun _ => ?_) (k2 := fun r => by omega)
              refine b96_103 (k1 := fun rx => ?_) (k2 := fun rx => ?_)
              · rw [if_neg rx] at k
                refine b96_111 (k := ?_)
                refine b96_113 (k := ?_)
                exact k σ1 f1 g1
              · rw [if_pos rx] at k
                refine b96_107 (k := ?_)
                refine b96_113 (k := ?_)
                exact k σ1 f1 g1
            | succ m ih =>
              intro v b o6 σ1 hi hi0 b1 b2 f1 g1 hv
              have hF1 := g1.F
              unfold pa_sbN at hv
              refine b96_46 (k1 := fun r => by omega) (k2 := fun _ => ?_)
              refine b96_53 (k := ?_)
              refine pe_M.up (k122q (d := 0) f1 g1 hw (fun σ2 q2 => ?_)) (by omega)
              have hF2 := q2.F
              have hm2 := q2.m
              refine b96_57 (k := ?_)
              refine pe_M.up (k25 (d := 0) q2.M hw.1.1 rc.1 rc.2 r3 (by omega) (fun σ3 e1 e2 => ?_)) (by omega)
              have hws := pa_send_wf (v := v) hw.1.1 rc.1 rc.2 r3 (by omega)
              have q3 := q2.next hw (by decide) (by decide) (pk_fr_mono e1 pk_Zs_Z) e2 hws.1
              have hF3 := q3.F
              have hm3 := q3.m
              have hc4 : c < (pa_send a c v).1 4 := by rw [hws.2]; exact rc.2
              have i4 := (q3.M.i rc.1 hc4).2.2.2.1
              have hb4 := (hws.1.1.2.2.1 c rc.1 hc4).1.2.2.2.1
              refine b96_67 (k1 := fun r5 => ?_) (k2 := fun r5 => ?_)
              · rw [if_neg (by omega)] at hv
                refine b96_97 (k := ?_)
                exact ih (v + 1) b _ σ3 (by omega) (by omega) b1 b2 q3.1 q3.G hv
              · rw [if_pos (by omega)] at hv
                refine b96_82 (k := ?_)
                rw [i4]
                refine b96_97 (k := ?_)
                exact ih (v + 1) (v, ((pa_send a c v).2.1 c).1 4) _ σ3 (by omega) (by omega) (by show -4 ≤ _; omega) (by show _ ≤ 999; omega) q3.1 q3.G hv
          exact loop 21 0 (0, -4) _ σ (by decide) (by decide) (by decide) (by decide) (pk_fr_refl _ _) hG hV.symm
        · rw [if_pos (by omega)] at k
          refine b96_31 (k1 := fun r => by omega) (k2 := fun _ => ?_)
          refine b96_34 (k := ?_)
          exact k σ (pk_fr_refl _ _) hG
      · refine b96_17 (k := ?_)
        exact hno (by omega)
  · refine b96_5 (k1 := fun _ => ?_) (k2 := fun r => absurd rfl r)
    refine b96_17 (k := ?_)
    exact hno (by omega)
/-- firstOut -/
theorem k97 (hG : pg_G C T U σ a im h) (hw : pg_W a im h) (k : ∀ σ2, pk_fr (pg_X C) σ σ2 → pg_G C T U σ2 a im h → Φ (some (.inl (pa_foN 60 a))) σ2) : pe_M (d + 15) 97 [.inr (.inr C)] σ Φ := by
  have hF := hG.F
  have h8 := hw.1.1.1.1
  obtain ⟨V, hV⟩ : ∃ V, V = pa_foN 60 a := ⟨_, rfl⟩
  rw [← hV] at k
  refine pe_M_of ck97 (Nat.le_of_ble_eq_true rfl) ?_
  refine b97_0 (k := ?_)
  refine pe_M.up (k122q (d := 0) (pk_fr_refl _ _) hG hw (fun σ2 q2 => ?_)) (by omega)
  have hm2 := q2.m
  refine b97_4 (k := ?_)
  have loop : ∀ (m : Nat) (i : Int) (o3 : Option pe_V) (σ1 : pe_H) (s : pa_M), i + m = 60 → 0 ≤ i → pg_Q C T U σ a im h 0 σ1 s → pa_foN m s = V → pe_X (d + 14) 97 (7, [some (.inr (.inr C)), some (.inr (.inr (pk_m C 0))), some (.inl i), o3], [], σ1) Φ := by
    intro m
    induction m with
    | zero =>
      intro i o3 σ1 s hi hi0 q1 hv
      have hm1 := q1.m
      refine b97_7 (k1 := fun _ => ?_) (k2 := fun r => by omega)
      refine b97_59 (k := ?_)
      have hv : -4 = V := hv
      rw [hv]
      exact k σ1 q1.1 q1.G
    | succ m ih =>
      intro i o3 σ1 s hi hi0 q1 hv
      have hm1 := q1.m
      have s8 := q1.w.1.1
      have hy := pa_ry_255 q1.w
      have e3 : pk_fr (pk_Z (pk_m C 0)) σ1 (pe_wI σ1 (pk_m C 0) 7 0) := (pk_frI_wI (by unfold pk_Z; omega)).1
      have q2 := q1.next hw (by decide) (by decide) e3 (pk_RM_B7 q1.M q1.w.1.w9) q1.w
      refine b97_7 (k1 := fun r => by omega) (k2 := fun _ => ?_)
      refine b97_13 (k := ?_)
      refine pe_M.up (k28 (d := 0) q2.M q1.w (fun σ3 e1 e2 e3 => ?_)) (by omega)
      have hr := pa_round_wf q1.w
      have q3 := q2.next hw (by decide) (by decide) (pk_fr_mono e1 pk_Zb_Z) e3 hr.1
      have hm3 := q3.m
      rw [pe_I_same] at e2
      have e4 := q3.M.cnt.1.trans (pa_round4 q1.w).1
      refine b97_22 (k := ?_)
      unfold pa_foN at hv
      have inner : ∀ (n : Nat) (j : Int), j + n = s.1 4 → 0 ≤ j → (if 0 ≤ pa_low (pa_ry s 0) n j then pa_low (pa_ry s 0) n j else pa_foN m (pa_round s)) = V → pe_X (d + 14) 97 (25, [some (.inr (.inr C)), some (.inr (.inr (pk_m C 0))), some (.inl i), some (.inl j)], [], σ3) Φ := by
        intro n
        induction n with
        | zero =>
          intro j hj hj0 hv
          have hv : pa_foN m (pa_round s) = V := hv
          refine b97_25 (k1 := fun _ => ?_) (k2 := fun r => by omega)
          refine b97_53 (k := ?_)
          exact ih (i + 1) _ σ3 _ (by omega) (by omega) q3 hv
        | succ n ih2 =>
          intro j hj hj0 hv
          have hget := pb_h_get ⟨(pa_ry s 0).toNat, by omega⟩ ⟨j.toNat, by omega⟩
          dsimp only at hget
          rw [show (((pa_ry s 0).toNat : Nat) : Int) = pa_ry s 0 by omega, show ((j.toNat : Nat) : Int) = j by omega] at hget
          unfold pa_low at hv
          by_cases hp : pb_h (pa_ry s 0) j.toNat = true
          · rw [if_pos hp, if_pos hj0] at hv
            rw [if_pos hp] at hget
            refine b97_25 (k1 := fun r => by omega) (k2 := fun _ => ?_)
            refine b97_33 (w0 := by rw [e2, hget]; unfold pe_in; omega) (k1 := fun r => absurd (by rw [e2]; exact hget) r) (k2 := fun _ => ?_)
            refine b97_45 (k := ?_)
            rw [hv]
            exact k σ3 q3.1 q3.G
          · rw [if_neg hp] at hv
            rw [if_neg hp] at hget
            refine b97_25 (k1 := fun r => by omega) (k2 := fun _ => ?_)
            refine b97_33 (w0 := by rw [e2, hget]; unfold pe_in; omega) (k1 := fun _ => ?_) (k2 := fun r => absurd r (by rw [e2, hget]; decide))
            refine b97_47 (k := ?_)
            exact ih2 (j + 1) (by omega) (by omega) hv
      exact inner (s.1 4).toNat 0 (by omega) (by decide) hv
  exact loop 60 0 _ σ2 a (by decide) (by decide) q2 hV.symm
/-- closeIf -/
theorem k125 {b : Int} (hM : pk_RM B T σ s) (hwf : pa_wf s) (c0 : 0 ≤ c) (c1 : c < s.1 4) (hb : b = 0 ∨ b = 1) (k : ∀ σ2, pk_fr (pk_Z B) σ σ2 → pk_RM B T σ2 (pa_cif s c b) → Φ none σ2) : pe_M (d + 14) 125 [.inr (.inr B), .inl c, .inl b] σ Φ := by
  have hF := hM.F
  have h8 := hwf.1.1
  unfold pa_cif at k
  refine pe_M_of ck125 (Nat.le_of_ble_eq_true rfl) ?_
  refine b125_0 (k1 := fun r => ?_) (k2 := fun r => ?_)
  · rw [if_neg (by omega)] at k
    refine b125_22 (k := ?_)
    exact k σ (pk_fr_refl _ _) hM
  · have ho : pk_Fo (pk_c B c) σ := pk_mO hF c0 (by omega)
    refine b125_5 (k := ?_)
    refine pe_M.up (k3 (d := 0) ho (hM.i c0 c1).2.1 (hwf.1.2.2.1 c c0 c1).1.2.1 (fun r6 => ?_) (fun r6 => ?_)) (by omega)
    · rw [if_neg (by omega)] at k
      refine b125_14 (k1 := fun _ => ?_) (k2 := fun r => by omega)
      refine b125_22 (k := ?_)
      exact k σ (pk_fr_refl _ _) hM
    · rw [if_pos (by omega)] at k
      refine b125_14 (k1 := fun r => by omega) (k2 := fun _ => ?_)
      refine b125_17 (k := ?_)
      refine pe_M.up (k26 (d := 0) hM hwf c0 c1 (by omega) (fun σ2 e1 e2 => ?_)) (by omega)
      refine b125_22 (k := ?_)
      exact k σ2 (pk_fr_mono e1 pk_Zs_Z) e2
/-- gain -/
theorem k126 {o b : Int} (hM : pk_RM B T σ s) (hwf : pa_wf0 s) (c0 : 0 ≤ c) (c1 : c < s.1 4) (o0 : 0 ≤ o) (o1 : o < s.1 4) (hb : b = 0 ∨ b = 1) (k : Φ (some (.inl (pa_gain s c o b))) σ) : pe_M (d + 1) 126 [.inr (.inr (pk_c B c)), .inr (.inr (pk_c B o)), .inl b] σ Φ := by
  have hF := hM.F
  have h8 := hwf.1
  have hoc : pk_Fo (pk_c B c) σ := pk_mO hF c0 (by omega)
  have hoo : pk_Fo (pk_c B o) σ := pk_mO hF o0 (by omega)
  have i5 := (hM.i c0 c1).2.2.2.2.1
  have i2 := (hM.i o0 o1).2.1
  have hb2 := (hwf.2.2.1 o o0 o1).1.2.1
  unfold pa_gain at k
  refine pe_M_of ck126 (Nat.le_of_ble_eq_true rfl) ?_
  refine b126_0 (k1 := fun r => ?_) (k2 := fun r => ?_)
  · rw [if_neg (by omega)] at k
    refine b126_22 (k := ?_)
    refine b126_23 (k := ?_)
    rw [i5]; exact k
  · rw [if_pos (by omega)] at k
    refine b126_17 (k := ?_)
    refine b126_23 (k := ?_)
    rw [i5]; exact k
theorem pb_two : ∀ p : Fin 4, pe_shr (p.val : Int) 1 = (p.val : Int) / 2 ∧ pe_and (p.val : Int) 1 = (p.val : Int) % 2 ∧ pe_xor (p.val : Int) 2 = 2 * (1 - (p.val : Int) / 2) + (p.val : Int) % 2 ∧ pe_xor (p.val : Int) 1 = 2 * ((p.val : Int) / 2) + 1 - (p.val : Int) % 2 := by decide +kernel
/-- so far: σ0 and then σ; more may have been made, of what was there only the class's cells have changed and U's -/
def pg_st (C : Nat) (U : Nat → Prop) (σ0 σ : pe_H) : Prop := (σ0.1 ≤ σ.1 ∧ σ0.2.1 ≤ σ.2.1) ∧ ∀ x, x < σ0.1 → ¬ pg_X C x → ¬ U x → pg_same σ0 σ x
theorem pg_st.refl (σ : pe_H) : pg_st C U σ σ := ⟨⟨Nat.le_refl _, Nat.le_refl _⟩, fun x _ _ _ => pg_same.refl σ x⟩
theorem pg_st.trans {U' : Nat → Prop} (q : pg_st C U σ σ1) (q' : pg_st C U' σ1 σ2) (hU : ∀ x, U' x → U x ∨ σ.1 ≤ x) : pg_st C U σ σ2 := ⟨⟨Nat.le_trans q.1.1 q'.1.1, Nat.le_trans q.1.2 q'.1.2⟩, fun x hx h1 h2 => (q.2 x hx h1 h2).trans (q'.2 x (Nat.lt_of_lt_of_le hx q.1.1) h1 (fun w => (hU x w).elim h2 (fun e => by omega)))⟩
theorem pg_st_fr (q : pk_fr (pg_X C) σ σ1) : pg_st C U σ σ1 := ⟨⟨by rw [q.1.1]; exact Nat.le_refl _, by rw [q.1.2.1]; exact Nat.le_refl _⟩, fun x _ h1 _ => q.same h1⟩
theorem pg_same_new {k w x : Nat} {len : Int} (hx : x < σ.1) : pg_same σ (pe_new σ k len w) x := by
  have e : ¬ x = σ.1 := by omega
  exact ⟨if_neg e, if_neg e, fun j => ⟨if_neg e, if_neg e⟩⟩
theorem pg_st_new {k w : Nat} {len : Int} : pg_st C U σ (pe_new σ k len w) := ⟨⟨Nat.le_succ _, Nat.le_add_right _ _⟩, fun x hx _ _ => pg_same_new hx⟩
theorem pg_same_wI {r x : Nat} {j v : Int} (hx : x ≠ r) : pg_same σ (pe_wI σ r j v) x := ⟨rfl, rfl, fun k => ⟨pe_I_ner hx, rfl⟩⟩
theorem pg_same_wR {r x y : Nat} {j : Int} (hx : x ≠ r) : pg_same σ (pe_wR σ r j y) x := ⟨rfl, rfl, fun k => ⟨rfl, pe_R_ner hx⟩⟩
/-- what was made is written -/
theorem pg_st_wI {r : Nat} {j v : Int} (q : pg_st C U σ σ1) (hr : σ.1 ≤ r) : pg_st C U σ (pe_wI σ1 r j v) := ⟨q.1, fun x hx h1 h2 => (q.2 x hx h1 h2).trans (pg_same_wI (by omega))⟩
theorem pg_st_wR {r y : Nat} {j : Int} (q : pg_st C U σ σ1) (hr : σ.1 ≤ r) : pg_st C U σ (pe_wR σ1 r j y) := ⟨q.1, fun x hx h1 h2 => (q.2 x hx h1 h2).trans (pg_same_wR (by omega))⟩
/-- the class stands while what is made is written -/
theorem pg_G.old (g : pg_G C T U σ a im h) (hw : pg_W a im h) (hn : σ.1 ≤ σ1.1) (hs : ∀ x, x < σ.1 → pg_same σ σ1 x) : pg_G C T U σ1 a im h := g.sm hw hn (fun x hx => hs x (by
  rcases hx with q | q | q
  · have := g.2.1.2.2; unfold pg_X at q; omega
  · exact (g.2.1.1 x q).2
  · exact (g.2.1.2.1 x q).2.2))
/-- two -/
theorem k100 {z : Int} (hG : pg_G C T U σ a im h) (hw : pg_W a im h) (hx : -2147483648 ≤ x ∧ x < 2147483648) (hz : -2147483648 ≤ z ∧ z < 2147483648) (hn : -2147483648 ≤ n ∧ n < 2147483648) (k : ∀ σ2, pg_st C U σ σ2 → σ2.1 ≤ σ.1 + 2 → σ2.2.1 ≤ σ.2.1 + 8 → pg_G C T U σ2 a im h → Φ (some (.inl (pa_aTwo a x z n))) σ2) : pe_M (d + 16) 100 [.inr (.inr C), .inl x, .inl z, .inl n] σ Φ := by
  have hF := hG.F
  have h8 := hw.1.1.1.1
  unfold pa_aTwo at k
  have hno : ¬ ((0 ≤ x ∧ x < a.1 4) ∧ (0 ≤ z ∧ z < a.1 4) ∧ x ≠ z ∧ 0 ≤ n ∧ n ≤ 40) → Φ (some (.inl (-1))) σ := fun q => by
    rw [if_pos q] at k
    exact k σ (pg_st.refl _) (by omega) (by omega) hG
  refine pe_M_of ck100 (Nat.le_of_ble_eq_true rfl) ?_
  refine b100_0 (k := ?_)
  refine pe_M.up (k117 (d := 0) hF hG.M hw.1.1.1 hx (fun rx => ?_) (fun r => ?_)) (by omega)
  · refine b100_5 (k1 := fun r => by omega) (k2 := fun _ => ?_)
    refine b100_8 (k := ?_)
    refine pe_M.up (k117 (d := 0) hF hG.M hw.1.1.1 hz (fun rz => ?_) (fun r => ?_)) (by omega)
    · refine b100_13 (k1 := fun r => by omega) (k2 := fun _ => ?_)
      refine b100_16 (k1 := fun r1 => ?_) (k2 := fun r1 => ?_)
      · refine b100_31 (k := ?_)
        exact hno (by omega)
      · refine b100_21 (k1 := fun r2 => ?_) (k2 := fun r2 => ?_)
        · refine b100_31 (k := ?_)
          exact hno (by omega)
        · refine b100_25 (k1 := fun r3 => ?_) (k2 := fun r3 => ?_)
          · rw [if_neg (by omega)] at k
            have hox : pk_Fo (pk_c (C + 1) x) σ := pk_mO (pk_sM0 hF) rx.1 (by omega)
            have hoz : pk_Fo (pk_c (C + 1) z) σ := pk_mO (pk_sM0 hF) rz.1 (by omega)
            refine b100_33 (k := ?_)
            refine pe_M.up (k3 (d := 0) hox (hG.M.i rx.1 rx.2).2.1 (hw.1.1.1.2.2.1 x rx.1 rx.2).1.2.1 (fun r6 => ?_) (fun r6 => ?_)) (by omega)
            · rw [if_pos (Or.inl r6)] at k
              refine b100_45 (k1 := fun _ => ?_) (k2 := fun r => by omega)
              refine b100_63 (k := ?_)
              exact k σ (pg_st.refl _) (by omega) (by omega) hG
            · refine b100_45 (k1 := fun r => by omega) (k2 := fun _ => ?_)
              refine b100_48 (k := ?_)
              refine pe_M.up (k3 (d := 0) hoz (hG.M.i rz.1 rz.2).2.1 (hw.1.1.1.2.2.1 z rz.1 rz.2).1.2.1 (fun r7 => ?_) (fun r7 => ?_)) (by omega)
              · rw [if_pos (Or.inr r7)] at k
                refine b100_60 (k1 := fun r => by omega) (k2 := fun _ => ?_)
                refine b100_63 (k := ?_)
                exact k σ (pg_st.refl _) (by omega) (by omega) hG
              · rw [if_neg (by omega)] at k
                refine b100_60 (k1 := fun _ => ?_) (k2 := fun r => by omega)
                refine b100_66 (k := ?_)
                have hCn := hG.2.1.2.2
                generalize hσa : pe_new (pe_new σ 10 4 ((4 : Int).toNat)) 10 4 ((4 : Int).toNat) = σa
                have na : σa.1 = σ.1 + 2 := by rw [← hσa]; rfl
                have ua : σa.2.1 = σ.2.1 + 8 := by rw [← hσa]; rfl
                have ha : ∀ y, y < σ.1 → pg_same σ σa y := fun y hy => by rw [← hσa]; exact (pg_same_new hy).trans (pg_same_new (by show y < σ.1 + 1; omega))
                have k1 : pe_K σa σ.1 = 10 ∧ pe_L σa σ.1 = 4 := by
                  rw [← hσa]
                  exact ⟨(if_neg (by show ¬ σ.1 = σ.1 + 1; omega)).trans (if_pos rfl), (if_neg (by show ¬ σ.1 = σ.1 + 1; omega)).trans (if_pos rfl)⟩
                have k2 : pe_K σa (σ.1 + 1) = 10 ∧ pe_L σa (σ.1 + 1) = 4 := by
                  rw [← hσa]
                  exact ⟨if_pos rfl, if_pos rfl⟩
                have hGa : pg_G C T U σa a im h := hG.old hw (by omega) ha
                have e1 : pe_n σ = σ.1 := rfl
                have e2 : pe_n (pe_new σ 10 4 ((4 : Int).toNat)) = σ.1 + 1 := rfl
                rw [e1, e2]
                clear hσa
                have hX1 : ¬ pg_X C σ.1 := by unfold pg_X; omega
                have hX2 : ¬ pg_X C (σ.1 + 1) := by unfold pg_X; omega
                -- the choice
                have pick : ∀ (m : Nat) (p : Int) (o7 : Option pe_V) (σ1 : pe_H), p + m = 4 → 0 ≤ p → pg_st C U σ σ1 → σ1.1 = σ.1 + 2 → σ1.2.1 = σ.2.1 + 8 → pg_G C T U σ1 a im h → (pe_K σ1 σ.1 = 10 ∧ pe_L σ1 σ.1 = 4) → (pe_K σ1 (σ.1 + 1) = 10 ∧ pe_L σ1 (σ.1 + 1) = 4) → (∀ j, 0 ≤ j → j < 4 → pe_I σ1 σ.1 j = pa_g1 a x z n j ∧ pe_I σ1 (σ.1 + 1) j = pa_g2 a x z n j) → pa_twoF (pa_g1 a x z n) (pa_g2 a x z n) m p = pa_twoF (pa_g1 a x z n) (pa_g2 a x z n) 4 0 → pe_X (d + 15) 100 (178, [some (.inr (.inr C)), some (.inl x), some (.inl z), some (.inl n), some (.inr (.inr σ.1)), some (.inr (.inr (σ.1 + 1))), some (.inl p), o7], [], σ1) Φ := by
                  intro m
                  obtain ⟨V, hV⟩ : ∃ V, V = pa_twoF (pa_g1 a x z n) (pa_g2 a x z n) 4 0 := ⟨_, rfl⟩
                  rw [← hV] at k ⊢
                  induction m with
                  | zero =>
                    intro p o7 σ1 hp hp0 f1 n1 u1 g1 q1 q2 hI hv
                    have hv : -4 = V := hv
                    refine b100_178 (k1 := fun _ => ?_) (k2 := fun r => by omega)
                    refine b100_233 (k := ?_)
                    rw [hv]
                    exact k σ1 f1 (by omega) (by omega) g1
                  | succ m ih =>
                    intro p o7 σ1 hp hp0 f1 n1 u1 g1 q1 q2 hI hv
                    obtain ⟨w1, w2, w3, w4⟩ := pb_two ⟨p.toNat, by omega⟩
                    dsimp only at w1 w2 w3 w4
                    rw [show ((p.toNat : Nat) : Int) = p by omega] at w1 w2 w3 w4
                    unfold pa_twoF at hv
                    have hS := fun j => pa_twoS_wf (n := n) (p := j) hw.1.1 rx.1 rx.2 rz.1 rz.2
                    have hgb : ∀ j, 0 ≤ j → j < 4 → (-100 ≤ pe_I σ1 σ.1 j ∧ pe_I σ1 σ.1 j ≤ 1000) ∧ -100 ≤ pe_I σ1 (σ.1 + 1) j ∧ pe_I σ1 (σ.1 + 1) j ≤ 1000 := fun j j0 j4 => by
                      obtain ⟨y1, y2⟩ := hI j j0 j4
                      rw [y1, y2]
                      exact ⟨pa_gain_b (hS j).1.1 rx.1 (by rw [(hS j).2]; exact rx.2) (by omega), pa_gain_b (hS j).1.1 rz.1 (by rw [(hS j).2]; exact rz.2) (by omega)⟩
                    have b1 := hgb p hp0 (by omega)
                    have b2 := hgb (2 * (1 - p / 2) + p % 2) (by omega) (by omega)
                    have b3 := hgb (2 * (p / 2) + 1 - p % 2) (by omega) (by omega)
                    rw [← (hI p hp0 (by omega)).1, ← (hI p hp0 (by omega)).2, ← (hI (2 * (1 - p / 2) + p % 2) (by omega) (by omega)).1, ← (hI (2 * (p / 2) + 1 - p % 2) (by omega) (by omega)).2] at hv
                    refine b100_178 (k1 := fun r => by omega) (k2 := fun _ => ?_)
                    refine b100_184 (h0 := q1.1) (h1 := hp0) (h2 := by rw [q1.2]; omega) (h3 := by rw [w3]; omega) (h4 := by rw [w3, q1.2]; omega) (w1 := by rw [w3]; unfold pe_in; omega) (w2 := by rw [w3]; unfold pe_in; omega) (w3 := by unfold pe_in; omega) (k1 := fun r8 => ?_) (k2 := fun r8 => ?_)
                    · rw [w3] at r8
                      rw [if_neg (by omega)] at hv
                      refine b100_227 (k := ?_)
                      exact ih (p + 1) o7 σ1 (by omega) (by omega) f1 n1 u1 g1 q1 q2 hI hv
                    · rw [w3] at r8
                      refine b100_199 (h0 := q2.1) (h1 := hp0) (h2 := by rw [q2.2]; omega) (h3 := by rw [w4]; omega) (h4 := by rw [w4, q2.2]; omega) (w1 := by rw [w4]; unfold pe_in; omega) (w2 := by rw [w4]; unfold pe_in; omega) (w3 := by unfold pe_in; omega) (k1 := fun r9 => ?_) (k2 := fun r9 => ?_)
                      · rw [w4] at r9
                        rw [if_neg (by omega)] at hv
                        refine b100_227 (k := ?_)
                        exact ih (p + 1) o7 σ1 (by omega) (by omega) f1 n1 u1 g1 q1 q2 hI hv
                      · rw [w4] at r9
                        rw [if_pos (by omega)] at hv
                        refine b100_214 (k := ?_)
                        rw [w1, w2, hv]
                        exact k σ1 f1 (by omega) (by omega) g1
                have loop : ∀ (m : Nat) (p : Int) (o7 : Option pe_V) (σ1 : pe_H), p + m = 4 → 0 ≤ p → pg_st C U σ σ1 → σ1.1 = σ.1 + 2 → σ1.2.1 = σ.2.1 + 8 → pg_G C T U σ1 a im h → (pe_K σ1 σ.1 = 10 ∧ pe_L σ1 σ.1 = 4) → (pe_K σ1 (σ.1 + 1) = 10 ∧ pe_L σ1 (σ.1 + 1) = 4) → (∀ j, 0 ≤ j → j < p → pe_I σ1 σ.1 j = pa_g1 a x z n j ∧ pe_I σ1 (σ.1 + 1) j = pa_g2 a x z n j) → pe_X (d + 15) 100 (79, [some (.inr (.inr C)), some (.inl x), some (.inl z), some (.inl n), some (.inr (.inr σ.1)), some (.inr (.inr (σ.1 + 1))), some (.inl p), o7], [], σ1) Φ := by
                  intro m
                  induction m with
                  | zero =>
                    intro p o7 σ1 hp hp0 f1 n1 u1 g1 q1 q2 hI
                    have hF1 := g1.F
                    refine b100_79 (k1 := fun _ => ?_) (k2 := fun r => by omega)
                    refine b100_175 (k := ?_)
                    exact pick 4 0 _ σ1 (by decide) (by decide) f1 n1 u1 g1 q1 q2 (fun j j0 j4 => hI j j0 (by omega)) rfl
                  | succ m ih =>
                    intro p o7 σ1 hp hp0 f1 n1 u1 g1 q1 q2 hI
                    have hF1 := g1.F
                    obtain ⟨w1, w2, -, -⟩ := pb_two ⟨p.toNat, by omega⟩
                    dsimp only at w1 w2
                    rw [show ((p.toNat : Nat) : Int) = p by omega] at w1 w2
                    refine b100_79 (k1 := fun r => by omega) (k2 := fun _ => ?_)
                    refine b100_85 (k := ?_)
                    refine pe_M.up (k122q (d := 0) (pk_fr_refl _ _) g1 hw (fun σ2 t2 => ?_)) (by omega)
                    have hF2 := t2.F
                    have hm2 := t2.m
                    refine b100_89 (k := ?_)
                    rw [w1]
                    refine k125 (d := d + 1) t2.M hw.1.1 rx.1 rx.2 (by omega) (fun σ3 e1 e2 => ?_)
                    have hc1 := pa_cif_wf (b := p / 2) hw.1.1 rx.1 rx.2
                    have t3 := t2.next hw (by decide) (by decide) e1 e2 hc1.1
                    have hF3 := t3.F
                    have hm3 := t3.m
                    refine b100_101 (k := ?_)
                    rw [w2]
                    refine k125 (d := d + 1) t3.M hc1.1 rz.1 (by rw [hc1.2]; exact rz.2) (by omega) (fun σ4 e1 e2 => ?_)
                    have hc2 := pa_cif_wf (b := p % 2) hc1.1 rz.1 (by rw [hc1.2]; exact rz.2)
                    have t4 := t3.next hw (by decide) (by decide) e1 e2 hc2.1
                    have hF4 := t4.F
                    have hm4 := t4.m
                    refine b100_111 (k := ?_)
                    refine k27 (d := d + 1) t4.M hc2.1 (by omega) (by omega) (fun σ5 a2 e1 e2 e3 e4 e5 => ?_)
                    have t5 := t4.next hw (by decide) (by decide) (pk_fr_mono e1 pk_Zb_Z) e2 e3
                    have hF5 := t5.F
                    have hm5 := t5.m
                    have hS := pa_twoS_wf (n := n) (p := p) hw.1.1 rx.1 rx.2 rz.1 rz.2
                    have e4 : a2.2 = (pa_twoS a x z n p).2 := e4
                    have e54 : a2.1 4 = (pa_twoS a x z n p).1 4 := e5 4 (by decide)
                    have hg1 : pa_gain a2 x z (p / 2) = pa_g1 a x z n p := by unfold pa_g1 pa_gain; rw [e4]
                    have hg2 : pa_gain a2 z x (p % 2) = pa_g2 a x z n p := by unfold pa_g2 pa_gain; rw [e4]
                    have hf5 := t5.1
                    have s1 := hf5.same hX1
                    have s2 := hf5.same hX2
                    have n5 : σ5.1 = σ.1 + 2 := by rw [hf5.1.1]; exact n1
                    refine b100_117 (k := ?_)
                    rw [w1]
                    refine pe_M.up (k126 (d := 0) t5.M e3.1 rx.1 (by rw [e54, hS.2]; exact rx.2) rz.1 (by rw [e54, hS.2]; exact rz.2) (by omega) ?_) (by omega)
                    rw [hg1]
                    have hCn : C + 875 ≤ σ.1 := hCn
                    refine b100_142 (h0 := by rw [s1.1]; exact q1.1) (h1 := hp0) (h2 := by rw [s1.2.1, q1.2]; omega) (h3 := by omega) (h4 := by omega) (h5 := by omega) (h6 := by omega) (h7 := by omega) (k := ?_)
                    rw [w2]
                    have g5 := t5.G
                    have f5 : pg_st C U σ σ5 := f1.trans (pg_st_fr (U := U) hf5) (fun y q => Or.inl q)
                    have hTU : ∀ y, pg_X C y ∨ T y ∨ U y → y < σ.1 := fun y hy => by
                      rcases hy with q | q | q
                      · unfold pg_X at q; omega
                      · exact (hG.2.1.1 y q).2
                      · exact (hG.2.1.2.1 y q).2.2
                    have g6 : pg_G C T U (pe_wI σ5 σ.1 p (pa_g1 a x z n p)) a im h := g5.sm hw (Nat.le_refl _) (fun y hy => pg_same_wI (by have := hTU y hy; omega))
                    have m6 : pk_RM (pk_m C 0) T (pe_wI σ5 σ.1 p (pa_g1 a x z n p)) a2 := pk_RM_sm t5.M e3.1.w9 (fun y hy => pg_same_wI (by have := pg_mX (by decide) (by decide) y hy; unfold pg_X at this; omega)) (fun y hy => pg_same_wI (by have := hTU y (Or.inr (Or.inl hy)); omega)) (fun _ q => q) (g5.Tm (by decide) (by decide))
                    have hF6 := g6.F
                    have hm6 := m6.F
                    refine pe_M.up (k126 (d := 0) m6 e3.1 rz.1 (by rw [e54, hS.2]; exact rz.2) rx.1 (by rw [e54, hS.2]; exact rx.2) (by omega) ?_) (by omega)
                    rw [hg2]
                    have s2' : pg_same σ1 (pe_wI σ5 σ.1 p (pa_g1 a x z n p)) (σ.1 + 1) := s2.trans (pg_same_wI (by omega))
                    refine b100_168 (h0 := by rw [s2'.1]; exact q2.1) (h1 := hp0) (h2 := by rw [s2'.2.1, q2.2]; omega) (h3 := by omega) (k := ?_)
                    have g7 : pg_G C T U (pe_wI (pe_wI σ5 σ.1 p (pa_g1 a x z n p)) (σ.1 + 1) p (pa_g2 a x z n p)) a im h := g6.sm hw (Nat.le_refl _) (fun y hy => pg_same_wI (by have := hTU y hy; omega))
                    refine ih (p + 1) _ _ (by omega) (by omega) (pg_st_wI (pg_st_wI f5 (by omega)) (by omega)) n5 (by show σ5.2.1 = _; rw [hf5.1.2.1]; exact u1) g7 ⟨by show pe_K σ5 σ.1 = 10; rw [s1.1]; exact q1.1, by show pe_L σ5 σ.1 = 4; rw [s1.2.1]; exact q1.2⟩ ⟨by show pe_K σ5 _ = 10; rw [s2.1]; exact q2.1, by show pe_L σ5 _ = 4; rw [s2.2.1]; exact q2.2⟩ (fun j j0 j1 => ?_)
                    by_cases ej : j = p
                    · subst ej
                      have hne : σ.1 ≠ σ.1 + 1 := by omega
                      exact ⟨by rw [pe_I_ner hne]; exact pe_I_same, pe_I_same⟩
                    · have hj := hI j j0 (by omega)
                      have hne : σ.1 ≠ σ.1 + 1 := by omega
                      have hne2 : σ.1 + 1 ≠ σ.1 := by omega
                      exact ⟨by rw [pe_I_ner hne, pe_I_nej ej, (s1.2.2 j).1]; exact hj.1, by rw [pe_I_nej ej, pe_I_ner hne2, (s2.2.2 j).1]; exact hj.2⟩
                exact loop 4 0 _ σa (by decide) (by decide) ⟨⟨by omega, by omega⟩, fun y hy _ _ => ha y hy⟩ na ua hGa k1 k2 (fun j j0 j1 => by omega)
          · refine b100_31 (k := ?_)
            exact hno (by omega)
    · refine b100_13 (k1 := fun _ => ?_) (k2 := fun r => absurd rfl r)
      refine b100_31 (k := ?_)
      exact hno (by omega)
  · refine b100_5 (k1 := fun _ => ?_) (k2 := fun r => absurd rfl r)
    refine b100_31 (k := ?_)
    exact hno (by omega)
end
