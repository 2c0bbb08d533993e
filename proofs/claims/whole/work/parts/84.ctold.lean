/-! THE CLASS: one more, told rows looked at, which program, programs alike -/
/-- thinking beside a row at P -/
def pg_V (C : Nat) (T U : Nat → Prop) (σ0 : pe_H) (a : pa_M) (im : Option pa_M) (h : Int → pa_Sh) (D : Int) (P : Nat) (σ : pe_H) (s : pa_M) : Prop := pg_Q C T U σ0 a im h 0 σ s ∧ pe_R σ (C + 177) D = P
section
variable {d C B P : Nat} {Φ : Option pe_V → pe_H → Prop} {T U : Nat → Prop} {σ σ' σ1 σ2 : pe_H} {c i x D n p : Int} {l : List Int} {a s s' t : pa_M} {im : Option pa_M} {h : Int → pa_Sh}
theorem pg_ptr {B : Nat} (hB : C + 179 ≤ B) (hf : pk_fr (pk_Z B) σ1 σ2) (j : Int) : pe_R σ2 (C + 177) j = pe_R σ1 (C + 177) j ∧ pe_R σ2 (C + 176) j = pe_R σ1 (C + 176) j := ⟨(hf.2 _ (fun q => by unfold pk_Z at q; omega) j).2, (hf.2 _ (fun q => by unfold pk_Z at q; omega) j).2⟩
theorem pg_V.next (q : pg_V C T U σ a im h D P σ1 s) (hw : pg_W a im h) (hf : pk_fr (pk_Z (pk_m C 0)) σ1 σ2) (hM : pk_RM (pk_m C 0) T σ2 s') (hs : pa_wf s') : pg_V C T U σ a im h D P σ2 s' := ⟨q.1.next hw (by decide) (by decide) hf hM hs, by rw [(pg_ptr (by unfold pk_m; omega) hf D).1]; exact q.2⟩
theorem pg_V.row (q : pg_V C T U σ a im h D P σ1 s) (hW : ¬ pa_W h D < 0) : pg_Rw σ1 P (h D).2.1.1 (h D).2.2 := by
  have := (q.1.G.S.row hW).1
  rw [q.2] at this
  exact this
theorem pg_V.K (q : pg_V C T U σ a im h D P σ1 s) (hW : ¬ pa_W h D < 0) : pe_K σ1 P = 6 := (q.row hW).1.1
theorem k122v (hf : pk_fr (pg_X C) σ σ1) (hP : pe_R σ1 (C + 177) D = P) (hG : pg_G C T U σ1 a im h) (hw : pg_W a im h) (k : ∀ σ2, pg_V C T U σ a im h D P σ2 a → Φ (some (.inr (.inr (pk_m C 0)))) σ2) : pe_M (d + 4) 122 [.inr (.inr C)] σ1 Φ :=
  k122 hG hw (fun σ2 e1 e2 e3 => k σ2 ⟨⟨pk_fr_trans hf (pk_fr_mono e1 (pg_mX (by decide) (by decide))), e2, e3, hw.1.1⟩, by rw [(pg_ptr (by unfold pk_m; omega) e1 D).1]; exact hP⟩)
/-- a row's sort and length -/
theorem pg_W.row (hw : pg_W a im h) (hW : ¬ pa_W h D < 0) : (0 ≤ (h D).2.1.1 ∧ (h D).2.1.1 ≤ 2) ∧ (h D).2.2.length ≤ 100 ∧ ∀ i : Nat, i < (h D).2.2.length → pa_rng (h D).2.1.1 ((h D).2.2.getD i 0) := by
  obtain ⟨⟨h0, h8⟩, h2, -⟩ := pa_W_0 hW
  exact (hw.2.2 D h0 h8).2.2 h2
theorem pt_at_D {l : List Int} {k : Int} (h0 : 0 ≤ k) (h1 : k < (l.length : Int)) : pt_at l k = l.getD k.toNat 0 := by
  unfold pt_at
  rw [if_pos ⟨h0, h1⟩]
/-- comes -/
theorem k82 (hG : pg_G C T U σ a im h) (hw : pg_W a im h) (hp : -2147483648 ≤ p ∧ p < 2147483648) (hD : -2147483648 ≤ D ∧ D < 2147483648) (k : ∀ σ2, pk_fr (pg_X C) σ σ2 → pg_G C T U σ2 (pa_doComes a h p D).1 im h → Φ (some (.inl (pa_doComes a h p D).2)) σ2) : pe_M (d + 4) 82 [.inr (.inr C), .inl p, .inl D] σ Φ := by
  have hF := hG.F
  unfold pa_doComes at k
  have hKr := pa_K_r h D
  refine pe_M_of ck82 (Nat.le_of_ble_eq_true rfl) ?_
  refine b82_0 (k := ?_)
  refine pe_M.up (k116 (d := 0) hp (fun rp => ?_) (fun r => ?_)) (by omega)
  · rw [if_neg (by omega)] at k
    refine b82_4 (k1 := fun _ => ?_) (k2 := fun r => by omega)
    refine b82_9 (k := ?_)
    refine pe_M.up (k120 (d := 0) hF hG.S hw.2.2 hD ?_) (by omega)
    by_cases hK : pa_K h D < 0
    · rw [if_pos hK] at k
      refine b82_14 (k1 := fun r => by omega) (k2 := fun _ => ?_)
      refine b82_19 (k := ?_)
      exact k σ (pk_fr_refl _ _) hG
    · rw [if_neg hK] at k
      obtain ⟨⟨h0, h8⟩, h1, e0⟩ := pa_K_0 hw.2.2 hK
      obtain ⟨b1, b2, b3, b4, b5, b6⟩ := (hG.S.1 D h0 h8).2.1 h1
      refine b82_14 (k1 := fun _ => ?_) (k2 := fun r => by omega)
      refine b82_21 (k := ?_)
      refine k24 (d := d) hG.M hw.1.1.1 rp.1 rp.2 b3 b4 b5 b6 (fun q => ?_) (fun σ2 q e1 e2 => ?_)
      · rw [if_pos (by omega)] at k
        refine b82_35 (k := ?_)
        exact k σ (pk_fr_refl _ _) hG
      · rw [if_neg (by omega)] at k
        have e3 := pk_fr_mono e1 pk_Zs_Z
        refine b82_35 (k := ?_)
        exact k σ2 (pk_fr_mono e3 pg_nX) (hG.now hw e3 e2)
  · rw [if_pos (by omega)] at k
    refine b82_4 (k1 := fun r => by omega) (k2 := fun _ => ?_)
    refine b82_7 (k := ?_)
    exact k σ (pk_fr_refl _ _) hG
/-- forged -/
theorem k103 (hG : pg_G C T U σ a im h) (hw : pg_W a im h) (hD : -2147483648 ≤ D ∧ D < 2147483648) (k : Φ (some (.inl (pa_aForged a h D))) σ) : pe_M (d + 3) 103 [.inr (.inr C), .inl D] σ Φ := by
  have hF := hG.F
  have h8 := hw.1.1.1.1
  unfold pa_aForged at k
  have hWr := pa_W_r h D
  refine pe_M_of ck103 (Nat.le_of_ble_eq_true rfl) ?_
  refine b103_0 (k := ?_)
  refine pe_M.up (k119 (d := 0) hF hG.S hw.2.2 hD ?_) (by omega)
  by_cases hW : pa_W h D < 0
  · rw [if_pos hW] at k
    refine b103_5 (k1 := fun r => by omega) (k2 := fun _ => ?_)
    refine b103_10 (k := ?_)
    exact k
  · rw [if_neg hW] at k
    obtain ⟨r1, r2, r3, r4, r5, r6⟩ := hG.S.row hW
    obtain ⟨w1, w2, w3⟩ := hw.row hW
    obtain ⟨V, hV⟩ : ∃ V, V = pa_fgN a (h D).2.2 (h D).2.2.length 0 := ⟨_, rfl⟩
    rw [← hV] at k
    have hK := r1.1.1
    refine b103_5 (k1 := fun _ => ?_) (k2 := fun r => by omega)
    refine b103_12 (k := ?_)
    have loop : ∀ (m : Nat) (i : Int) (o1 o2 : Option pe_V), i + m = ((h D).2.2.length : Int) → 0 ≤ i → pa_fgN a (h D).2.2 m i = V → pe_X (d + 2) 103 (22, [some (.inr (.inr C)), o1, o2, some (.inr (.inr (pe_R σ (C + 177) D))), some (.inl i)], [], σ) Φ := by
      intro m
      induction m with
      | zero =>
        intro i o1 o2 hi hi0 hv
        have hv : -4 = V := hv
        refine b103_22 (k := ?_)
        refine pe_M.up (k57 (d := 0) r1 ?_) (by omega)
        refine b103_28 (k1 := fun _ => ?_) (k2 := fun r => by omega)
        refine b103_71 (k := ?_)
        rw [hv]; exact k
      | succ m ih =>
        intro i o1 o2 hi hi0 hv
        unfold pa_fgN at hv
        refine b103_22 (k := ?_)
        refine pe_M.up (k57 (d := 0) r1 ?_) (by omega)
        refine b103_28 (k1 := fun r => by omega) (k2 := fun _ => ?_)
        refine b103_31 (k := ?_)
        refine pe_M.up (k117 (d := 0) hF hG.M hw.1.1.1 (by omega) (fun rc => ?_) (fun rc => ?_)) (by omega)
        · have i2 := (hG.M.i rc.1 rc.2).2.1
          have hb2 := (hw.1.1.1.2.2.1 i rc.1 rc.2).1.2.1
          have hat := pt_at_D (l := (h D).2.2) hi0 (by omega)
          have hrg := (w3 i.toNat (by omega)).2.2
          refine b103_37 (k1 := fun r => by omega) (k2 := fun _ => ?_)
          refine b103_40 (k := ?_)
          refine pe_M.up (k60 (d := 0) r1 w2 (by omega) ?_) (by omega)
          rw [hat]
          refine b103_59 (k1 := fun r9 => ?_) (k2 := fun r9 => ?_)
          · rw [if_neg (by omega)] at hv
            refine b103_65 (k := ?_)
            exact ih (i + 1) _ _ (by omega) (by omega) hv
          · rw [if_pos (by omega)] at hv
            refine b103_62 (k := ?_)
            rw [hv]; exact k
        · rw [if_pos (by omega)] at hv
          refine b103_37 (k1 := fun _ => ?_) (k2 := fun r => absurd rfl r)
          refine b103_62 (k := ?_)
          rw [hv]; exact k
    exact loop (h D).2.2.length 0 _ _ (by omega) (by decide) hV.symm
  done
/-- judge -/
theorem k104 (hG : pg_G C T U σ a im h) (hw : pg_W a im h) (hD : -2147483648 ≤ D ∧ D < 2147483648) (k : ∀ σ2, pk_fr (pg_X C) σ σ2 → pg_G C T U σ2 a im h → Φ (some (.inl (pa_aJudge a h D))) σ2) : pe_M (d + 15) 104 [.inr (.inr C), .inl D] σ Φ := by
  have hF := hG.F
  have h8 := hw.1.1.1.1
  unfold pa_aJudge at k
  have hWr := pa_W_r h D
  refine pe_M_of ck104 (Nat.le_of_ble_eq_true rfl) ?_
  refine b104_0 (k := ?_)
  refine pe_M.up (k119 (d := 0) hF hG.S hw.2.2 hD ?_) (by omega)
  by_cases hW : pa_W h D < 0
  · rw [if_pos hW] at k
    refine b104_5 (k1 := fun r => by omega) (k2 := fun _ => ?_)
    refine b104_10 (k := ?_)
    exact k σ (pk_fr_refl _ _) hG
  · rw [if_neg hW] at k
    obtain ⟨r1, r2, r3, r4, r5, r6⟩ := hG.S.row hW
    obtain ⟨w1, w2, w3⟩ := hw.row hW
    obtain ⟨V, hV⟩ : ∃ V, V = pa_jgN (h D).2.1.1 (h D).2.2 (h D).2.2.length 0 a := ⟨_, rfl⟩
    rw [← hV] at k
    have hK := r1.1.1
    refine b104_5 (k1 := fun _ => ?_) (k2 := fun r => by omega)
    refine b104_12 (k := ?_)
    refine pe_M.up (k62 (d := 0) r1 w1 ?_) (by omega)
    refine b104_23 (k := ?_)
    refine pe_M.up (k122v (d := 0) (D := D) (P := pe_R σ (C + 177) D) (pk_fr_refl _ _) rfl hG hw (fun σ2 q2 => ?_)) (by omega)
    have hm2 := q2.1.m
    refine b104_29 (k := ?_)
    have hl := pa_least_r (h D).2.1.1
    have loop : ∀ (m : Nat) (i : Int) (o0 o1 o2 o7 : Option pe_V) (σ1 : pe_H) (s : pa_M), i + m = ((h D).2.2.length : Int) → 0 ≤ i → pg_V C T U σ a im h D (pe_R σ (C + 177) D) σ1 s → pa_jgN (h D).2.1.1 (h D).2.2 m i s = V → pe_X (d + 14) 104 (34, [o0, o1, o2, some (.inr (.inr (pe_R σ (C + 177) D))), some (.inl (pa_least (h D).2.1.1)), some (.inr (.inr (pk_m C 0))), some (.inl i), o7], [], σ1) Φ := by
      intro m
      induction m with
      | zero =>
        intro i o0 o1 o2 o7 σ1 s hi hi0 q1 hv
        have hm1 := q1.1.m
        have hK1 := q1.K hW
        have hv : -4 = V := hv
        refine b104_34 (k := ?_)
        refine pe_M.up (k57 (d := 0) (q1.row hW) ?_) (by omega)
        refine b104_40 (k1 := fun _ => ?_) (k2 := fun r => by omega)
        refine b104_90 (k := ?_)
        rw [hv]; exact k σ1 q1.1.1 q1.1.G
      | succ m ih =>
        intro i o0 o1 o2 o7 σ1 s hi hi0 q1 hv
        have hm1 := q1.1.m
        have hK1 := q1.K hW
        have h84 := q1.1.w.1.1
        have hb := pa_bits_255 (pa_isEnd s) (n := (s.1 4).toNat) (by omega)
        have hcb := pa_cnt_b (pa_isEnd s) (s.1 4).toNat
        have hat := pt_at_D (l := (h D).2.2) hi0 (by omega)
        have hrg := (w3 i.toNat (by omega)).2.2
        unfold pa_jgN at hv
        rw [pb_c_bits _ _ (by omega)] at hv
        refine b104_34 (k := ?_)
        refine pe_M.up (k57 (d := 0) (q1.row hW) ?_) (by omega)
        refine b104_40 (k1 := fun r => by omega) (k2 := fun _ => ?_)
        refine b104_43 (k := ?_)
        refine pe_M.up (k17 (d := 0) q1.1.M q1.1.w.1 ?_) (by omega)
        refine b104_48 (k := ?_)
        refine pe_M.up (k245 (d := 0) ?_) (by omega)
        rw [pb_c_bits _ _ (by omega)]
        refine b104_51 (k := ?_)
        refine pe_M.up (k60 (d := 0) (q1.row hW) w2 (by omega) ?_) (by omega)
        rw [hat]
        have go : ∀ o7, pa_jgN (h D).2.1.1 (h D).2.2 m (i + 1) (pa_round s) = V → pe_X (d + 14) 104 (78, [o0, o1, o2, some (.inr (.inr (pe_R σ (C + 177) D))), some (.inl (pa_least (h D).2.1.1)), some (.inr (.inr (pk_m C 0))), some (.inl i), o7], [], σ1) Φ := fun o7 hv => by
          refine b104_78 (k := ?_)
          refine pe_M.up (k28 (d := 0) q1.1.M q1.1.w (fun σ3 e1 e2 e3 => ?_)) (by omega)
          have hr := pa_round_wf q1.1.w
          have q3 := q1.next hw (pk_fr_mono e1 pk_Zb_Z) e3 hr.1
          have hm3 := q3.1.m
          refine b104_83 (k := ?_)
          exact ih (i + 1) _ _ _ _ σ3 _ (by omega) (by omega) q3 hv
        refine b104_59 (k1 := fun r7 => ?_) (k2 := fun r7 => ?_)
        · rw [if_neg (by omega)] at hv
          exact go _ hv
        · refine b104_64 (k := ?_)
          refine pe_M.up (k60 (d := 0) (q1.row hW) w2 (by omega) ?_) (by omega)
          rw [hat]
          refine b104_70 (k1 := fun r8 => ?_) (k2 := fun r8 => ?_)
          · rw [if_neg (by omega)] at hv
            exact go _ hv
          · rw [if_pos (by omega)] at hv
            refine b104_75 (k := ?_)
            rw [hv]; exact k σ1 q1.1.1 q1.1.G
    exact loop (h D).2.2.length 0 _ _ _ _ σ2 a (by omega) (by decide) q2 hV.symm
/-- yieldsAll -/
theorem k124 (hf : pk_fr (pg_X C) σ σ1) (hPe : pe_R σ1 (C + 177) D = P) (hG : pg_G C T U σ1 a im h) (hw : pg_W a im h) (hW : ¬ pa_W h D < 0) (hp : 0 ≤ p ∧ p < 5) (h48 : a.1 4 < 8) (k : ∀ σ2, pg_V C T U σ a im h D P σ2 a ∨ (∃ s, pg_V C T U σ a im h D P σ2 s) → Φ (some (.inl (if pa_yr a (h D).2.1.1 (h D).2.2 p = true then 1 else 0))) σ2) : pe_M (d + 15) 124 [.inr (.inr C), .inl p, .inr (.inr P)] σ1 Φ := by
  have hF := hG.F
  have h8 := hw.1.1.1.1
  obtain ⟨w1, w2, w3⟩ := hw.row hW
  unfold pa_yr at k
  obtain ⟨V, hV⟩ : ∃ V, V = pa_yrN (h D).2.1.1 (h D).2.2 (a.1 4) (h D).2.2.length 0 (pa_more a p 0 0) := ⟨_, rfl⟩
  rw [← hV] at k
  obtain ⟨m1, m2, m3, m4⟩ := pa_more_wf (k := 0) (f := 0) hw.1.1 h48 hp (by decide) (by decide)
  refine pe_M_of ck124 (Nat.le_of_ble_eq_true rfl) ?_
  refine b124_0 (k := ?_)
  refine pe_M.up (k122v (d := 0) (D := D) (P := P) hf hPe hG hw (fun σ2 q2 => ?_)) (by omega)
  have hF2 := q2.1.F
  have hm2 := q2.1.m
  obtain ⟨t1, t2, t3⟩ := q2.1.G.2.2.1
  refine b124_4 (k := ?_)
  refine k24 (d := d + 11) q2.1.M hw.1.1.1 hp.1 hp.2 t1 (pk_sK5 hF2) t2 t3 (fun q => absurd h48 q) (fun σ3 _ e1 e2 => ?_)
  have q3 := q2.next hw (pk_fr_mono e1 pk_Zs_Z) e2 m1
  have hm3 := q3.1.m
  have hK3 := q3.K hW
  refine b124_14 (k := ?_)
  refine pe_M.up (k62 (d := 0) (q3.row hW) w1 ?_) (by omega)
  have ho3 : pk_Fo (pk_c (pk_m C 0) (a.1 4)) σ3 := pk_mO hm3 h8.1 h48
  refine b124_29 (k := ?_)
  have hl := pa_least_r (h D).2.1.1
  have loop : ∀ (m : Nat) (i : Int) (o0 o1 : Option pe_V) (σ4 : pe_H) (s : pa_M), i + m = ((h D).2.2.length : Int) → 0 ≤ i → pg_V C T U σ a im h D P σ4 s → a.1 4 < s.1 4 → (s.2.1 (a.1 4)).1 2 ≤ 2 → pa_yrN (h D).2.1.1 (h D).2.2 (a.1 4) m i s = V → pe_X (d + 14) 124 (34, [o0, o1, some (.inr (.inr P)), some (.inr (.inr (pk_m C 0))), some (.inl (a.1 4)), some (.inr (.inr (pk_c (pk_m C 0) (a.1 4)))), some (.inl (pa_least (h D).2.1.1)), some (.inl i)], [], σ4) Φ := by
    intro m
    induction m with
    | zero =>
      intro i o0 o1 σ4 s hi hi0 q1 hs4 hs2 hv
      have hm1 := q1.1.m
      have hK1 := q1.K hW
      have ho1 : pk_Fo (pk_c (pk_m C 0) (a.1 4)) σ4 := pk_mO hm1 h8.1 h48
      have hv : true = V := hv
      refine b124_34 (k := ?_)
      refine pe_M.up (k57 (d := 0) (q1.row hW) ?_) (by omega)
      refine b124_40 (k1 := fun _ => ?_) (k2 := fun r => by omega)
      refine b124_94 (k := ?_)
      have := k σ4 (Or.inr ⟨s, q1⟩)
      rw [← hv, if_pos rfl] at this
      exact this
    | succ m ih =>
      intro i o0 o1 σ4 s hi hi0 q1 hs4 hs2 hv
      have hm1 := q1.1.m
      have hK1 := q1.K hW
      have ho1 : pk_Fo (pk_c (pk_m C 0) (a.1 4)) σ4 := pk_mO hm1 h8.1 h48
      have hat := pt_at_D (l := (h D).2.2) hi0 (by omega)
      have hrg := (w3 i.toNat (by omega)).2.2
      unfold pa_yrN at hv
      refine b124_34 (k := ?_)
      refine pe_M.up (k57 (d := 0) (q1.row hW) ?_) (by omega)
      refine b124_40 (k1 := fun r => by omega) (k2 := fun _ => ?_)
      refine b124_43 (k := ?_)
      refine k25 (d := d + 1) q1.1.M q1.1.w h8.1 hs4 hs2 (by decide) (fun σ5 e1 e2 => ?_)
      have hws := pa_send_wf (v := 0) q1.1.w h8.1 hs4 hs2 (by decide)
      have q5 := q1.next hw (pk_fr_mono e1 pk_Zs_Z) e2 hws.1
      have hm5 := q5.1.m
      have hK5 := q5.K hW
      have ho5 : pk_Fo (pk_c (pk_m C 0) (a.1 4)) σ5 := pk_mO hm5 h8.1 h48
      have hc5 : a.1 4 < (pa_send s (a.1 4) 0).1 4 := by rw [hws.2]; exact hs4
      obtain ⟨-, i2, -, i4, -⟩ := q5.1.M.i h8.1 hc5
      have hb5 := (hws.1.1.2.2.1 (a.1 4) h8.1 hc5).1
      have hb52 := hb5.2.1
      have hb54 := hb5.2.2.2.1
      have hF0 : V = false → ∀ o0 o1 o2 o3 o4 o5 o6 o7, pe_X (d + 14) 124 (86, [o0, o1, o2, o3, o4, o5, o6, o7], [], σ5) Φ := fun hvf o0 o1 o2 o3 o4 o5 o6 o7 => by
        refine b124_86 (k := ?_)
        have := k σ5 (Or.inr ⟨_, q5⟩)
        rw [hvf, if_neg (by simp)] at this
        exact this
      refine b124_50 (k1 := fun r5 => ?_) (k2 := fun r5 => ?_)
      · rw [i2] at r5
        have go : ((h D).2.2.getD i.toNat 0 = pa_least (h D).2.1.1 ∨ (h D).2.2.getD i.toNat 0 = ((pa_send s (a.1 4) 0).2.1 (a.1 4)).1 4) → pe_X (d + 14) 124 (88, [o0, o1, some (.inr (.inr P)), some (.inr (.inr (pk_m C 0))), some (.inl (a.1 4)), some (.inr (.inr (pk_c (pk_m C 0) (a.1 4)))), some (.inl (pa_least (h D).2.1.1)), some (.inl i)], [], σ5) Φ := fun hq => by
          rw [if_pos ⟨r5, hq⟩] at hv
          refine b124_88 (k := ?_)
          exact ih (i + 1) _ _ σ5 _ (by omega) (by omega) q5 hc5 (by omega) hv
        refine b124_61 (k := ?_)
        refine pe_M.up (k60 (d := 0) (q5.row hW) w2 (by omega) ?_) (by omega)
        rw [hat]
        refine b124_67 (k1 := fun r6 => ?_) (k2 := fun r6 => ?_)
        · exact go (Or.inl r6)
        · refine b124_72 (k := ?_)
          refine pe_M.up (k60 (d := 0) (q5.row hW) w2 (by omega) ?_) (by omega)
          rw [hat]
          refine b124_78 (k1 := fun r7 => ?_) (k2 := fun r7 => ?_)
          · rw [i4] at r7
            exact go (Or.inr r7)
          · rw [i4] at r7
            rw [if_neg (by omega)] at hv
            exact hF0 hv.symm _ _ _ _ _ _ _ _
      · rw [i2] at r5
        rw [if_neg (fun q => r5 q.1)] at hv
        refine b124_59 (k := ?_)
        have := k σ5 (Or.inr ⟨_, q5⟩)
        rw [← hv, if_neg (by simp)] at this
        exact this
  exact loop (h D).2.2.length 0 _ _ σ3 _ (by omega) (by decide) q3 (by omega) (by rw [m3]; simp [pa_newC, pa_s]) hV.symm
/-- whatProgram -/
theorem k98 (hG : pg_G C T U σ a im h) (hw : pg_W a im h) (hD : -2147483648 ≤ D ∧ D < 2147483648) (k : ∀ σ2, pk_fr (pg_X C) σ σ2 → pg_G C T U σ2 a im h → Φ (some (.inl (pa_aWhat a h D))) σ2) : pe_M (d + 16) 98 [.inr (.inr C), .inl D] σ Φ := by
  have hF := hG.F
  have h8 := hw.1.1.1.1
  have e4 := hG.M.cnt.1
  unfold pa_aWhat at k
  have hWr := pa_W_r h D
  refine pe_M_of ck98 (Nat.le_of_ble_eq_true rfl) ?_
  refine b98_0 (k := ?_)
  refine pe_M.up (k119 (d := 0) hF hG.S hw.2.2 hD ?_) (by omega)
  by_cases hW : pa_W h D < 0
  · rw [if_pos hW] at k
    refine b98_5 (k1 := fun r => by omega) (k2 := fun _ => ?_)
    refine b98_10 (k := ?_)
    exact k σ (pk_fr_refl _ _) hG
  · rw [if_neg hW] at k
    obtain ⟨r1, r2, r3, r4, r5, r6⟩ := hG.S.row hW
    refine b98_5 (k1 := fun _ => ?_) (k2 := fun r => by omega)
    refine b98_12 (k1 := fun r7 => ?_) (k2 := fun r7 => ?_)
    · rw [if_neg (by omega)] at k
      refine b98_27 (k := ?_)
      have loop : ∀ (m i : Nat) (o2 : Option pe_V) (σ1 : pe_H), i + m = 5 → pk_fr (pg_X C) σ σ1 → pg_G C T U σ1 a im h → pe_R σ1 (C + 177) D = pe_R σ (C + 177) D → pe_X (d + 15) 98 (32, [some (.inr (.inr C)), some (.inl D), o2, some (.inl (pa_bits (pa_yr a (h D).2.1.1 (h D).2.2) i)), some (.inl (i : Int))], [], σ1) Φ := by
        intro m
        induction m with
        | zero =>
          intro i o2 σ1 hi f1 g1 p1
          have hF1 := g1.F
          refine b98_32 (k1 := fun _ => ?_) (k2 := fun r => by omega)
          refine b98_66 (k := ?_)
          rw [show i = 5 by omega]
          exact k σ1 f1 g1
        | succ m ih =>
          intro i o2 σ1 hi f1 g1 p1
          have hF1 := g1.F
          have hb := pa_bits_b (pa_yr a (h D).2.1.1 (h D).2.2) i
          refine b98_32 (k1 := fun r => by omega) (k2 := fun _ => ?_)
          refine b98_38 (k := ?_)
          rw [p1]
          refine k124 (d := d) (D := D) (P := pe_R σ (C + 177) D) f1 p1 g1 hw hW ⟨by omega, by omega⟩ (by omega) (fun σ2 hq => ?_)
          obtain ⟨s2, q2⟩ : ∃ s, pg_V C T U σ a im h D (pe_R σ (C + 177) D) σ2 s := by
            rcases hq with q | q
            · exact ⟨a, q⟩
            · exact q
          have hF2 := q2.1.F
          by_cases hy : pa_yr a (h D).2.1.1 (h D).2.2 (i : Int) = true
          · rw [if_pos hy]
            refine b98_50 (k1 := fun r => by omega) (k2 := fun _ => ?_)
            refine b98_53 (k := ?_)
            rw [(pb_or (by omega) hb.1 hb.2).1]
            refine b98_60 (k := ?_)
            have := ih (i + 1) (pe_nl o2) σ2 (by omega) q2.1.1 q2.1.G q2.2
            rw [pa_bits, if_pos hy] at this
            push_cast at this
            exact this
          · rw [if_neg hy]
            refine b98_50 (k1 := fun _ => ?_) (k2 := fun r => absurd rfl r)
            refine b98_60 (k := ?_)
            have := ih (i + 1) o2 σ2 (by omega) q2.1.1 q2.1.G q2.2
            rw [pa_bits, if_neg hy, Int.add_zero] at this
            push_cast at this
            exact this
      exact loop 5 0 _ σ (by decide) (pk_fr_refl _ _) hG rfl
    · rw [if_pos (by omega)] at k
      refine b98_24 (k := ?_)
      exact k σ (pk_fr_refl _ _) hG
/-- alike -/
theorem k99 {r : Int} (hG : pg_G C T U σ a im h) (hw : pg_W a im h) (hp : -2147483648 ≤ p ∧ p < 2147483648) (hr : -2147483648 ≤ r ∧ r < 2147483648) (hn : -2147483648 ≤ n ∧ n < 2147483648) (k : ∀ σ2, pk_fr (pg_X C) σ σ2 → pg_G C T U σ2 a im h → Φ (some (.inl (pa_aAlike a p r n))) σ2) : pe_M (d + 15) 99 [.inr (.inr C), .inl p, .inl r, .inl n] σ Φ := by
  have hF := hG.F
  have h8 := hw.1.1.1.1
  have e4 := hG.M.cnt.1
  unfold pa_aAlike at k
  have hno : ¬ ((0 ≤ p ∧ p ≤ 4) ∧ (0 ≤ r ∧ r ≤ 4) ∧ p ≠ r ∧ 0 ≤ n ∧ n ≤ 20) → Φ (some (.inl (-1))) σ := fun q => by
    rw [if_pos q] at k
    exact k σ (pk_fr_refl _ _) hG
  refine pe_M_of ck99 (Nat.le_of_ble_eq_true rfl) ?_
  refine b99_0 (k := ?_)
  refine pe_M.up (k116 (d := 0) hp (fun rp => ?_) (fun q => ?_)) (by omega)
  · refine b99_4 (k1 := fun r => by omega) (k2 := fun _ => ?_)
    refine b99_7 (k := ?_)
    refine pe_M.up (k116 (d := 0) hr (fun rr => ?_) (fun q => ?_)) (by omega)
    · refine b99_11 (k1 := fun r => by omega) (k2 := fun _ => ?_)
      refine b99_14 (k1 := fun r1 => ?_) (k2 := fun r1 => ?_)
      · refine b99_29 (k := ?_)
        exact hno (by omega)
      · refine b99_19 (k1 := fun r2 => ?_) (k2 := fun r2 => ?_)
        · refine b99_29 (k := ?_)
          exact hno (by omega)
        · refine b99_23 (k1 := fun r3 => ?_) (k2 := fun r3 => ?_)
          · rw [if_neg (by omega)] at k
            refine b99_31 (k1 := fun r4 => ?_) (k2 := fun r4 => ?_)
            · rw [if_neg (by omega)] at k
              obtain ⟨V, hV⟩ : ∃ V, V = pa_alN (a.1 4) n.toNat (pa_more a p 0 0) (pa_more a r 0 0) := ⟨_, rfl⟩
              rw [← hV] at k
              have h48 : a.1 4 < 8 := by omega
              obtain ⟨m1, m2, m3, m4⟩ := pa_more_wf (k := 0) (f := 0) hw.1.1 h48 rp (by decide) (by decide)
              obtain ⟨n1, n2, n3, n4⟩ := pa_more_wf (k := 0) (f := 0) hw.1.1 h48 rr (by decide) (by decide)
              have keep : ∀ {i j : Int} {σ1 σ2 : pe_H} {s : pa_M}, 0 ≤ i → i < 8 → 0 ≤ j → j < 8 → i ≠ j → pg_G C T U σ1 a im h → pk_RM (pk_m C j) T σ1 s → pa_wf s → pk_fr (pk_Z (pk_m C i)) σ1 σ2 → pk_RM (pk_m C j) T σ2 s := fun i0 i8 j0 j8 hij g hM hs hf => pk_RM_fr hM hs.1.w9 hf (fun x hx q => by unfold pk_Z pk_m at hx; unfold pk_m at q; omega) (fun x hx => g.Tm i0 i8 x hx)
              refine b99_46 (k := ?_)
              refine pe_M.up (k122q (d := 0) (pk_fr_refl _ _) hG hw (fun σ2 q2 => ?_)) (by omega)
              have hF2 := q2.F
              have hm2 := q2.m
              refine b99_50 (k := ?_)
              refine pe_M.up (k15 (d := 0) q2.G.M hw.1.1.1 hw.1.1.2.1 (pk_sMi hF2 (by decide) (by decide)) (by unfold pk_m; omega) (q2.G.Tm (by decide) (by decide)) (fun σ3 e1 e2 e3 => ?_)) (by omega)
              have g3 := q2.G.mind hw (by decide) (by decide) e1 e3.F
              have f3 := pk_fr_trans q2.1 (pk_fr_mono e1 (pg_mX (C := C) (i := 1) (by decide) (by decide)))
              have a3 := keep (i := 1) (j := 0) (by decide) (by decide) (by decide) (by decide) (by decide) q2.G q2.M hw.1.1 e1
              have hF3 := g3.F
              have hm3 := a3.F
              have hk3 := e3.F
              obtain ⟨t1, t2, t3⟩ := g3.2.2.1
              refine b99_69 (k := ?_)
              refine pe_M.up (k24 (d := 0) a3 hw.1.1.1 rp.1 rp.2 t1 (pk_sK5 hF3) t2 t3 (fun q => absurd h48 q) (fun σ4 _ e1 e4 => ?_)) (by omega)
              have e1 := pk_fr_mono e1 pk_Zs_Z
              have g4 := g3.mind hw (by decide) (by decide) e1 e4.F
              have f4 := pk_fr_trans f3 (pk_fr_mono e1 (pg_mX (C := C) (i := 0) (by decide) (by decide)))
              have b4 := keep (i := 0) (j := 1) (by decide) (by decide) (by decide) (by decide) (by decide) g3 e3 hw.1.1 e1
              have hF4 := g4.F
              have hm4 := e4.F
              have hk4 := b4.F
              obtain ⟨t1, t2, t3⟩ := g4.2.2.1
              refine b99_79 (k := ?_)
              refine pe_M.up (k24 (d := 0) b4 hw.1.1.1 rr.1 rr.2 t1 (pk_sK5 hF4) t2 t3 (fun q => absurd h48 q) (fun σ5 _ e1 e5 => ?_)) (by omega)
              have e1 := pk_fr_mono e1 pk_Zs_Z
              have g5 := g4.mind hw (by decide) (by decide) e1 e5.F
              have f5 := pk_fr_trans f4 (pk_fr_mono e1 (pg_mX (C := C) (i := 1) (by decide) (by decide)))
              have a5 := keep (i := 1) (j := 0) (by decide) (by decide) (by decide) (by decide) (by decide) g4 e4 m1 e1
              have hm5 := a5.F
              have hk5 := e5.F
              refine b99_91 (k := ?_)
              have loop : ∀ (m : Nat) (i : Int) (o0 o1 o2 : Option pe_V) (σ1 : pe_H) (s t : pa_M), i + m = n → 0 ≤ i → pk_fr (pg_X C) σ σ1 → pg_G C T U σ1 a im h → pk_RM (pk_m C 0) T σ1 s → pk_RM (pk_m C 1) T σ1 t → pa_wf s → pa_wf t → a.1 4 < s.1 4 → a.1 4 < t.1 4 → pa_alN (a.1 4) m s t = V → pe_X (d + 14) 99 (115, [o0, o1, o2, some (.inl n), some (.inr (.inr (pk_m C 0))), some (.inr (.inr (pk_m C 1))), some (.inl (a.1 4)), some (.inr (.inr (pk_c (pk_m C 0) (a.1 4)))), some (.inr (.inr (pk_c (pk_m C 1) (a.1 4)))), some (.inl i)], [], σ1) Φ := by
                intro m
                induction m with
                | zero =>
                  intro i o0 o1 o2 σ1 s t hi hi0 f1 g1 s1 t1 ws wt s4 t4 hv
                  have hm1 := s1.F
                  have hk1 := t1.F
                  have ho1 : pk_Fo (pk_c (pk_m C 0) (a.1 4)) σ1 := pk_mO hm1 h8.1 h48
                  have ho2 : pk_Fo (pk_c (pk_m C 1) (a.1 4)) σ1 := pk_mO hk1 h8.1 h48
                  have hv : 1 = V := hv
                  refine b99_115 (k1 := fun _ => ?_) (k2 := fun r => by omega)
                  refine b99_187 (k := ?_)
                  rw [hv]; exact k σ1 f1 g1
                | succ m ih =>
                  intro i o0 o1 o2 σ1 s t hi hi0 f1 g1 s1 t1 ws wt s4 t4 hv
                  have hm1 := s1.F
                  have hk1 := t1.F
                  have ho1 : pk_Fo (pk_c (pk_m C 0) (a.1 4)) σ1 := pk_mO hm1 h8.1 h48
                  have ho2 : pk_Fo (pk_c (pk_m C 1) (a.1 4)) σ1 := pk_mO hk1 h8.1 h48
                  unfold pa_alN at hv
                  refine b99_115 (k1 := fun r => by omega) (k2 := fun _ => ?_)
                  refine b99_121 (k := ?_)
                  refine pe_M.up (k4 (d := 0) ho1 (s1.i h8.1 s4).2.1 (ws.1.2.2.1 _ h8.1 s4).1.2.1 (fun ra => ?_) (fun ra => ?_)) (by omega)
                  · refine b99_126 (k1 := fun r => by omega) (k2 := fun _ => ?_)
                    refine b99_129 (k := ?_)
                    refine pe_M.up (k4 (d := 0) ho2 (t1.i h8.1 t4).2.1 (wt.1.2.2.1 _ h8.1 t4).1.2.1 (fun rb => ?_) (fun rb => ?_)) (by omega)
                    · rw [if_pos ⟨ra, rb⟩] at hv
                      refine b99_134 (k1 := fun r => by omega) (k2 := fun _ => ?_)
                      refine b99_137 (k := ?_)
                      refine k25 (d := d + 1) s1 ws h8.1 s4 ra (by decide) (fun σ6 e1 e6 => ?_)
                      have e1 := pk_fr_mono e1 pk_Zs_Z
                      have ws6 := pa_send_wf (v := 0) ws h8.1 s4 ra (by decide)
                      have g6 := g1.mind hw (by decide) (by decide) e1 e6.F
                      have f6 := pk_fr_trans f1 (pk_fr_mono e1 (pg_mX (C := C) (i := 0) (by decide) (by decide)))
                      have t6 := keep (i := 0) (j := 1) (by decide) (by decide) (by decide) (by decide) (by decide) g1 t1 wt e1
                      have hm6 := e6.F
                      have hk6 := t6.F
                      have ho16 : pk_Fo (pk_c (pk_m C 0) (a.1 4)) σ6 := pk_mO hm6 h8.1 h48
                      have ho26 : pk_Fo (pk_c (pk_m C 1) (a.1 4)) σ6 := pk_mO hk6 h8.1 h48
                      refine b99_145 (k := ?_)
                      refine k25 (d := d + 1) t6 wt h8.1 t4 rb (by decide) (fun σ7 e1 e7 => ?_)
                      have e1 := pk_fr_mono e1 pk_Zs_Z
                      have wt7 := pa_send_wf (v := 0) wt h8.1 t4 rb (by decide)
                      have g7 := g6.mind hw (by decide) (by decide) e1 e7.F
                      have f7 := pk_fr_trans f6 (pk_fr_mono e1 (pg_mX (C := C) (i := 1) (by decide) (by decide)))
                      have s7 := keep (i := 1) (j := 0) (by decide) (by decide) (by decide) (by decide) (by decide) g6 e6 ws6.1 e1
                      have hm7 := s7.F
                      have hk7 := e7.F
                      have ho17 : pk_Fo (pk_c (pk_m C 0) (a.1 4)) σ7 := pk_mO hm7 h8.1 h48
                      have ho27 : pk_Fo (pk_c (pk_m C 1) (a.1 4)) σ7 := pk_mO hk7 h8.1 h48
                      have s47 : a.1 4 < (pa_send s (a.1 4) 0).1 4 := by rw [ws6.2]; exact s4
                      have t47 : a.1 4 < (pa_send t (a.1 4) 0).1 4 := by rw [wt7.2]; exact t4
                      obtain ⟨-, is2, -, is4, -⟩ := s7.i h8.1 s47
                      obtain ⟨-, it2, -, it4, -⟩ := e7.i h8.1 t47
                      have hs7 := (ws6.1.1.2.2.1 _ h8.1 s47).1
                      have ht7 := (wt7.1.1.2.2.1 _ h8.1 t47).1
                      have hs72 := hs7.2.1
                      have ht72 := ht7.2.1
                      have hs74 := hs7.2.2.2.1
                      have ht74 := ht7.2.2.2.1
                      refine b99_153 (k1 := fun rc => ?_) (k2 := fun rc => ?_)
                      · rw [is2, it2] at rc
                        rw [if_neg (fun q => rc q.1)] at hv
                        refine b99_179 (k := ?_)
                        rw [hv]; exact k σ7 f7 g7
                      · rw [is2, it2] at rc
                        refine b99_166 (k1 := fun rd => ?_) (k2 := fun rd => ?_)
                        · rw [is4, it4] at rd
                          rw [if_pos ⟨rc, rd⟩] at hv
                          refine b99_181 (k := ?_)
                          exact ih (i + 1) _ _ _ σ7 _ _ (by omega) (by omega) f7 g7 s7 e7 ws6.1 wt7.1 s47 t47 hv
                        · rw [is4, it4] at rd
                          rw [if_neg (fun q => rd q.2)] at hv
                          refine b99_179 (k := ?_)
                          rw [hv]; exact k σ7 f7 g7
                    · rw [if_neg (fun q => rb q.2)] at hv
                      refine b99_134 (k1 := fun _ => ?_) (k2 := fun r => absurd rfl r)
                      refine b99_187 (k := ?_)
                      rw [hv]; exact k σ1 f1 g1
                  · rw [if_neg (fun q => ra q.1)] at hv
                    refine b99_126 (k1 := fun _ => ?_) (k2 := fun r => absurd rfl r)
                    refine b99_187 (k := ?_)
                    rw [hv]; exact k σ1 f1 g1
              exact loop n.toNat 0 _ _ _ σ5 _ _ (by omega) (by decide) f5 g5 a5 e5 m1 n1 (by omega) (by omega) hV.symm
            · rw [if_pos (by omega)] at k
              refine b99_43 (k := ?_)
              exact k σ (pk_fr_refl _ _) hG
          · refine b99_29 (k := ?_)
            exact hno (by omega)
    · refine b99_11 (k1 := fun _ => ?_) (k2 := fun r => absurd rfl r)
      refine b99_29 (k := ?_)
      exact hno (by omega)
  · refine b99_4 (k1 := fun _ => ?_) (k2 := fun r => absurd rfl r)
    refine b99_29 (k := ?_)
    exact hno (by omega)
end
