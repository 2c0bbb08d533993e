/-! THE CLASS: runs by lot, the image -/
section
variable {d C B P : Nat} {Φ : Option pe_V → pe_H → Prop} {T U : Nat → Prop} {σ σ' σ1 σ2 : pe_H} {c i x D n p z : Int} {l : List Int} {a b s s' t : pa_M} {im : Option pa_M} {h : Int → pa_Sh}
/-- a number of the class's own, neither imageTaken -/
theorem pg_G.num {j v : Int} (g : pg_G C T U σ a im h) (hw : pg_W a im h) (hj : j ≠ 6) : pg_G C T U (pe_wI σ C j v) a im h := by
  obtain ⟨g1, ⟨g2, g3, g4⟩, ⟨g5, g6, g7⟩, g8, ⟨g9, g10⟩, g11⟩ := g
  have hT : ∀ x, T x → x ≠ C := fun x hx e => (g2 x hx).1 (Or.inl e)
  have hs : ∀ x, x ≠ C → pg_same σ (pe_wI σ C j v) x := fun x hx => pg_same_wI hx
  refine ⟨g1, ⟨g2, g3, g4⟩, ⟨g5, by rw [pe_I_ner (hT _ g5)]; exact g6, by rw [pe_I_ner (hT _ g5)]; exact g7⟩, pk_RM_sm g8 hw.1.1.1.w9 (fun x hx => hs x (by unfold pk_Z at hx; omega)) (fun x hx => hs x (hT x hx)) (fun _ q => q) (fun x hx q => (g2 x hx).1 (Or.inr (Or.inr (Or.inl q)))), ⟨fun q => by rw [pe_I_nej (Ne.symm hj)]; exact g9 q, fun b hb => ⟨by rw [pe_I_nej (Ne.symm hj)]; exact (g10 b hb).1, pk_RM_sm (g10 b hb).2 (hw.2.1 b hb).1.1.w9 (fun x hx => hs x (by unfold pk_Z at hx; omega)) (fun x hx => hs x (hT x hx)) (fun _ q => q) (fun x hx q => (g2 x hx).1 (Or.inr (Or.inr (Or.inr (Or.inl q)))))⟩⟩, pg_S_sm (fun x hx => hs x ?_) (fun _ q => q) (fun _ q => q) g11⟩
  rcases hx with q | q | q | q
  · exact hT x q
  · intro e
    exact (g3 x q).1 ⟨by omega, by omega⟩
  · omega
  · omega
theorem pg_Q.num {v : Int} (q : pg_Q C T U σ a im h 0 σ1 s) (hw : pg_W a im h) : pg_Q C T U σ a im h 0 (pe_wI σ1 C 7 v) s := by
  refine ⟨pk_fr_trans q.1 (pk_frI_wI ⟨Nat.le_refl _, by omega⟩).1, q.G.num hw (by decide), pk_RM_sm q.M q.w.1.w9 (fun x hx => pg_same_wI (by unfold pk_Z pk_m at hx; omega)) (fun x hx => pg_same_wI (fun e => q.G.TZ hx (Or.inl e))) (fun _ w => w) (q.G.Tm (by decide) (by decide)), q.w⟩
/-- draw -/
theorem k131 {b : Int} (hF : pk_Fs C σ) (hb0 : 0 < b) (hb : b < 2147483648) (k : Φ (some (.inl (pa_dv (pa_dr (pe_I σ C 7)) b))) (pe_wI σ C 7 (pa_dr (pe_I σ C 7)))) : pe_M (d + 1) 131 [.inr (.inr C), .inl b] σ Φ := by
  refine pe_M_of ck131 (Nat.le_of_ble_eq_true rfl) ?_
  refine b131_0 (k1 := fun _ => ?_) (k2 := fun r => by omega)
  have hF2 : pk_Fs C (pe_wI σ C 7 (pe_I σ C 7 * 1103515245 + 12345)) := hF
  have hm := pe_and_max (pe_I σ C 7 * 1103515245 + 12345)
  have hq : 0 ≤ Int.tdiv (pe_and (pe_I σ C 7 * 1103515245 + 12345) 2147483647) 65536 ∧ Int.tdiv (pe_and (pe_I σ C 7 * 1103515245 + 12345) 2147483647) 65536 ≤ 2147483647 := by
    rw [Int.tdiv_eq_ediv_of_nonneg hm.1]
    omega
  have e7 : pe_I (pe_wI σ C 7 (pe_I σ C 7 * 1103515245 + 12345)) C 7 = pe_I σ C 7 * 1103515245 + 12345 := pe_I_same
  refine b131_24 (h0 := by decide) (h1 := by omega) (w0 := by rw [e7]; unfold pe_in; omega) (w2 := by rw [e7]; unfold pe_in; omega) (k := ?_)
  rw [e7]
  refine b131_38 (k := ?_)
  exact k
/-- runByLot -/
theorem k130 (hw : pg_W a im h) (q1 : pg_Q C T U σ a im h 0 σ1 s) (h4 : 0 < s.1 4) (hz : pe_I σ1 C 7 = z) (k : ∀ σ2 s2, pg_Q C T U σ a im h 0 σ2 s2 → s2.2 = (pa_lotR s z).2 → s2.1 4 = (pa_lotR s z).1 4 → pe_I σ2 C 7 = (pa_lot 6 s z).2 → Φ none σ2) : pe_M (d + 15) 130 [.inr (.inr C), .inr (.inr (pk_m C 0))] σ1 Φ := by
  have hF := q1.F
  have hm := q1.m
  obtain ⟨R, hR⟩ : ∃ R, R = pa_lot 6 s z := ⟨_, rfl⟩
  unfold pa_lotR at k
  rw [← hR] at k
  have loop : ∀ (m : Nat) (i : Int) (o3 o4 : Option pe_V) (σ2 : pe_H) (s2 : pa_M) (z2 : Int), i + m = 6 → 0 ≤ i → pg_Q C T U σ a im h 0 σ2 s2 → s2.1 = s.1 → pe_I σ2 C 7 = z2 → pa_lot m s2 z2 = R → pe_X (d + 14) 130 (2, [some (.inr (.inr C)), some (.inr (.inr (pk_m C 0))), some (.inl i), o3, o4], [], σ2) Φ := by
    intro m
    induction m with
    | zero =>
      intro i o3 o4 σ2 s2 z2 hi hi0 q2 e1 ez hv
      have hF2 := q2.F
      have hm2 := q2.m
      have hv : (s2, z2) = R := hv
      refine b130_2 (k1 := fun _ => ?_) (k2 := fun r => by omega)
      refine b130_50 (k := ?_)
      refine pe_M.up (k27 (d := 0) q2.M q2.w (by decide) (by decide) (fun σ3 a2 u1 u2 u3 u4 u5 => ?_)) (by omega)
      have q3 := q2.next hw (by decide) (by decide) (pk_fr_mono u1 pk_Zb_Z) u2 u3
      have hm3 := q3.m
      have e7 : pe_I σ3 C 7 = pe_I σ2 C 7 := (u1.2 C (fun w => by have := pk_Zb_Z _ w; unfold pk_Z pk_m at this; omega) 7).1
      refine b130_55 (k := ?_)
      rw [← hv] at k
      exact k σ3 a2 q3 u4 (u5 4 (by decide)) (by rw [e7]; exact ez)
    | succ m ih =>
      intro i o3 o4 σ2 s2 z2 hi hi0 q2 e1 ez hv
      have hF2 := q2.F
      have hm2 := q2.m
      have h84 := q2.w.1.1
      have e4 : pe_I σ2 (pk_m C 0) 4 = s2.1 4 := q2.M.cnt.1
      have e1' := congrFun e1 4
      unfold pa_lot at hv
      refine b130_2 (k1 := fun r => by omega) (k2 := fun _ => ?_)
      refine b130_8 (k := ?_)
      rw [e4]
      refine pe_M.up (k131 (d := 0) hF2 (by omega) (by omega) ?_) (by omega)
      rw [ez]
      have q3 := q2.num (v := pa_dr z2) hw
      have hF3 := q3.F
      have hm3 := q3.m
      refine b130_16 (k := ?_)
      refine pe_M.up (k131 (d := 0) hF3 (by decide) (by decide) ?_) (by omega)
      rw [pe_I_same]
      have q4 := q3.num (v := pa_dr (pa_dr z2)) hw
      have hF4 := q4.F
      have hm4 := q4.m
      have e74 : pe_I (pe_wI (pe_wI σ2 C 7 (pa_dr z2)) C 7 (pa_dr (pa_dr z2))) C 7 = pa_dr (pa_dr z2) := pe_I_same
      generalize pe_wI (pe_wI σ2 C 7 (pa_dr z2)) C 7 (pa_dr (pa_dr z2)) = σ4 at *
      have hc := pa_dv_b (z := pa_dr z2) (b := s2.1 4) (by omega)
      have hvb := pa_dv_b (z := pa_dr (pa_dr z2)) (b := 100) (by decide)
      generalize pa_dv (pa_dr z2) (s2.1 4) = c at *
      generalize pa_dv (pa_dr (pa_dr z2)) 100 = v at *
      have ho : pk_Fo (pk_c (pk_m C 0) c) σ4 := pk_mO hm4 hc.1 (by omega)
      refine b130_23 (k := ?_)
      refine pe_M.up (k4 (d := 0) ho (q4.M.i hc.1 hc.2).2.1 (q4.w.1.2.2.1 c hc.1 hc.2).1.2.1 (fun rb => ?_) (fun rb => ?_)) (by omega)
      · rw [if_pos rb] at hv
        refine b130_34 (k1 := fun r => by omega) (k2 := fun _ => ?_)
        refine b130_37 (k := ?_)
        refine k25 (d := d + 1) q4.M q4.w hc.1 hc.2 rb (by omega) (fun σ5 u1 u2 => ?_)
        have ws := pa_send_wf (v := v) q4.w hc.1 hc.2 rb (by omega)
        have u1 := pk_fr_mono u1 pk_Zs_Z
        have q5 := q4.next hw (by decide) (by decide) u1 u2 ws.1
        have hF5 := q5.F
        have hm5 := q5.m
        have e75 : pe_I σ5 C 7 = pe_I σ4 C 7 := (u1.2 C (fun w => by unfold pk_Z pk_m at w; omega) 7).1
        refine b130_44 (k := ?_)
        exact ih (i + 1) _ _ σ5 _ _ (by omega) (by omega) q5 (ws.2.trans e1) (by rw [e75]; exact e74) hv
      · rw [if_neg rb] at hv
        refine b130_34 (k1 := fun _ => ?_) (k2 := fun r => absurd rfl r)
        refine b130_44 (k := ?_)
        exact ih (i + 1) _ _ σ4 _ _ (by omega) (by omega) q4 e1 e74 hv
  refine pe_M_of ck130 (Nat.le_of_ble_eq_true rfl) ?_
  refine b130_0 (k := ?_)
  exact loop 6 0 _ _ σ1 s z (by decide) (by decide) q1 rfl hz hR.symm
/-- lots -/
theorem k105 (hG : pg_G C T U σ a im h) (hw : pg_W a im h) (hn : -2147483648 ≤ n ∧ n < 2147483648) (hx : -2147483648 ≤ x ∧ x < 2147483648) (k : ∀ σ2, pk_fr (pg_X C) σ σ2 → pg_G C T U σ2 a im h → Φ (some (.inl (pa_aLots a n z x))) σ2) : pe_M (d + 16) 105 [.inr (.inr C), .inl n, .inl z, .inl x] σ Φ := by
  have hF := hG.F
  have h8 := hw.1.1.1.1
  have e4 := hG.M.cnt.1
  unfold pa_aLots at k
  have hno : ¬ ((1 ≤ n ∧ n ≤ 20) ∧ 0 ≤ x ∧ x ≤ 1) → Φ (some (.inl (-1))) σ := fun q => by
    rw [if_pos q] at k
    exact k σ (pk_fr_refl _ _) hG
  refine pe_M_of ck105 (Nat.le_of_ble_eq_true rfl) ?_
  refine b105_0 (k1 := fun r1 => ?_) (k2 := fun r1 => ?_)
  · refine b105_20 (k := ?_)
    exact hno (by omega)
  · refine b105_5 (k1 := fun r2 => ?_) (k2 := fun r2 => ?_)
    · refine b105_20 (k := ?_)
      exact hno (by omega)
    · refine b105_11 (k1 := fun r3 => ?_) (k2 := fun r3 => ?_)
      · refine b105_20 (k := ?_)
        exact hno (by omega)
      · refine b105_15 (k1 := fun r4 => ?_) (k2 := fun r4 => ?_)
        · rw [if_neg (by omega)] at k
          refine b105_22 (k1 := fun r5 => ?_) (k2 := fun r5 => ?_)
          · rw [if_neg (by omega)] at k
            refine b105_34 (k := ?_)
            obtain ⟨V, hV⟩ : ∃ V, V = pa_lotsN a x n.toNat z 0 := ⟨_, rfl⟩
            rw [← hV] at k
            have hCn := hG.2.1.2.2
            have loop : ∀ (m : Nat) (i z2 v : Int) (o2 o6 : Option pe_V) (σ1 : pe_H), i + m = n → 0 ≤ i → pk_fr (pg_X C) σ σ1 → pg_G C T U σ1 a im h → pe_I σ1 C 7 = z2 → pa_lotsN a x m z2 v = V → pe_X (d + 15) 105 (45, [some (.inr (.inr C)), some (.inl n), o2, some (.inl x), some (.inl v), some (.inl i), o6], [], σ1) Φ := by
              intro m
              induction m with
              | zero =>
                intro i z2 v o2 o6 σ1 hi hi0 f1 g1 ez hv
                have hF1 := g1.F
                have hv : v = V := hv
                refine b105_45 (k1 := fun _ => ?_) (k2 := fun r => by omega)
                refine b105_102 (k := ?_)
                rw [hv]; exact k σ1 f1 g1
              | succ m ih =>
                intro i z2 v o2 o6 σ1 hi hi0 f1 g1 ez hv
                have hF1 := g1.F
                unfold pa_lotsN at hv
                refine b105_45 (k1 := fun r => by omega) (k2 := fun _ => ?_)
                refine b105_51 (k := ?_)
                refine pe_M.up (k122 (d := 0) g1 hw (fun σ2 u1 u2 u3 => ?_)) (by omega)
                have q2 : pg_Q C T U σ a im h 0 σ2 a := ⟨pk_fr_trans f1 (pk_fr_mono u1 (pg_mX (by decide) (by decide))), u2, u3, hw.1.1⟩
                have hF2 := q2.F
                have hm2 := q2.m
                have e72 : pe_I σ2 C 7 = z2 := (u1.2 C (fun w => by unfold pk_Z pk_m at w; omega) 7).1.trans ez
                refine b105_55 (k := ?_)
                refine k130 (d := d) hw q2 (by omega) e72 (fun σ3 s3 q3 v1 v2 v3 => ?_)
                have hF3 := q3.F
                have hm3 := q3.m
                have h84 := q3.w.1.1
                refine b105_63 (k1 := fun rx => ?_) (k2 := fun rx => ?_)
                · rw [if_neg rx] at hv
                  have hb := pa_bits_255 (pa_isEnd s3) (n := (s3.1 4).toNat) (by omega)
                  have eb : pa_bits (pa_isEnd s3) (s3.1 4).toNat = pa_bits (pa_isEnd (pa_lotR a z2)) ((pa_lotR a z2).1 4).toNat := by
                    rw [v2]
                    exact pa_bits_ext _ (fun i hi => by unfold pa_isEnd; rw [v1])
                  refine b105_85 (k := ?_)
                  refine pe_M.up (k17 (d := 0) q3.M q3.w.1 ?_) (by omega)
                  refine b105_90 (k := ?_)
                  refine pe_M.up (k245 (d := 0) ?_) (by omega)
                  rw [eb]
                  refine b105_93 (k := ?_)
                  exact ih (i + 1) _ _ _ _ σ3 (by omega) (by omega) q3.1 q3.G v3 hv
                · rw [if_pos rx] at hv
                  refine b105_69 (k := ?_)
                  refine pe_M.up (k20 (d := 0) q3.M q3.w.1 ?_) (by omega)
                  refine b105_74 (k := ?_)
                  refine pe_M.up (k20 (d := 0) q3.G.M hw.1.1.1 ?_) (by omega)
                  refine b105_81 (k := ?_)
                  refine b105_93 (k := ?_)
                  have eo : pa_sum (fun c => (s3.2.1 c).1 5) (s3.1 4).toNat = pa_outs (pa_lotR a z2) := by
                    unfold pa_outs
                    rw [v2, v1]
                  rw [eo]
                  exact ih (i + 1) _ _ _ _ σ3 (by omega) (by omega) q3.1 q3.G v3 hv
            exact loop n.toNat 0 z 0 _ _ _ (by omega) (by decide) (pk_frI_wI ⟨Nat.le_refl _, by omega⟩).1 (hG.num hw (by decide)) pe_I_same hV.symm
          · rw [if_pos (by omega)] at k
            refine b105_32 (k := ?_)
            exact k σ (pk_fr_refl _ _) hG
        · refine b105_20 (k := ?_)
          exact hno (by omega)
theorem pg_G.img (g : pg_G C T U σ a im h) (hw : pg_W a im h) (hf : pk_fr (pk_Z (C + 88)) σ σ') (hM : pk_RM (C + 88) T σ' b) (hb : pa_wf0 b) : pg_G C T U (pe_wI σ' C 6 1) a (some b) h := by
  obtain ⟨g1, ⟨g2, g3, g4⟩, ⟨g5, g6, g7⟩, g8, ⟨g9, g10⟩, g11⟩ := g
  have hn : σ'.1 = σ.1 := hf.1.1
  have hTC : ∀ x, T x → x ≠ C := fun x hx e => (g2 x hx).1 (Or.inl e)
  have hT : ∀ x, T x → ¬ pk_Z (C + 88) x := fun x hx q => (g2 x hx).1 (Or.inr (Or.inr (Or.inr (Or.inl q))))
  have hU : ∀ x, U x → ¬ pk_Z (C + 88) x := fun x hx q => (g3 x hx).1 (pg_Z_in (Or.inr (Or.inr (Or.inr (Or.inl q)))))
  have hs : ∀ x, ¬ pk_Z (C + 88) x → x ≠ C → pg_same σ (pe_wI σ' C 6 1) x := fun x h1 h2 => (hf.same h1).trans (pg_same_wI h2)
  have s8 := hs _ (hT _ g5) (hTC _ g5)
  have hFs0 : pk_Fs C σ' := pk_Fs_mach g1 (Or.inr (Or.inl rfl)) hf hM.F
  have hFs : pk_Fs C (pe_wI σ' C 6 1) := hFs0
  refine ⟨hFs, ⟨fun x hx => ⟨(g2 x hx).1, by show x < σ'.1; rw [hn]; exact (g2 x hx).2⟩, fun x hx => ⟨(g3 x hx).1, (g3 x hx).2.1, by show x < σ'.1; rw [hn]; exact (g3 x hx).2.2⟩, by show _ ≤ σ'.1; rw [hn]; exact g4⟩, ⟨g5, by rw [(s8.2.2 0).1]; exact g6, by rw [(s8.2.2 1).1]; exact g7⟩, pk_RM_sm g8 hw.1.1.1.w9 (fun x hx => hs x (fun q => by unfold pk_Z at hx q; omega) (by unfold pk_Z at hx; omega)) (fun x hx => hs x (hT x hx) (hTC x hx)) (fun _ q => q) (fun x hx q => (g2 x hx).1 (Or.inr (Or.inr (Or.inl q)))), ⟨fun q => (by cases q), fun b' hb' => by
    cases hb'
    exact ⟨pe_I_same, pk_RM_sm hM hb.w9 (fun x hx => pg_same_wI (by unfold pk_Z at hx; omega)) (fun x hx => pg_same_wI (hTC x hx)) (fun _ q => q) hT⟩⟩, pg_S_sm (fun x hx => ?_) (fun _ q => q) (fun _ q => q) g11⟩
  rcases hx with q | q | q | q
  · exact hs x (hT x q) (hTC x q)
  · exact hs x (hU x q) (fun e => (g3 x q).1 ⟨by omega, by omega⟩)
  · exact hs x (fun w => by unfold pk_Z at w; omega) (by omega)
  · exact hs x (fun w => by unfold pk_Z at w; omega) (by omega)
/-- image -/
theorem k106 (hG : pg_G C T U σ a im h) (hw : pg_W a im h) (k : ∀ σ2, pk_fr (pg_X C) σ σ2 → pg_G C T U σ2 a (some a) h → Φ (some (.inl (a.1 6))) σ2) : pe_M (d + 4) 106 [.inr (.inr C)] σ Φ := by
  have hF := hG.F
  refine pe_M_of ck106 (Nat.le_of_ble_eq_true rfl) ?_
  refine b106_0 (k := ?_)
  refine pe_M.up (k15 (d := 0) hG.M hw.1.1.1 hw.1.1.2.1 (pk_sM1 hF) (by omega) (fun x hx q => hG.TZ hx (Or.inr (Or.inr (Or.inr (Or.inl q))))) (fun σ2 e1 _ e2 => ?_)) (by omega)
  have hF2 := pk_Fs_mach hF (Or.inr (Or.inl rfl)) e1 e2.F
  have m2 := pk_RM_fr hG.M hw.1.1.1.w9 e1 (fun x hx q => by unfold pk_Z at hx; omega) (fun x hx q => hG.TZ hx (Or.inr (Or.inr (Or.inr (Or.inl q)))))
  have e6 := m2.cnt.2.2
  refine b106_11 (k := ?_)
  rw [e6]
  exact k _ (pk_fr_trans (pk_fr_mono e1 pg_kX) (pk_frI_wI ⟨Nat.le_refl _, by omega⟩).1) (hG.img hw e1 e2 hw.1.1.1)
/-- restore -/
theorem k107 (hG : pg_G C T U σ a im h) (hw : pg_W a im h) (k : ∀ σ2, pk_fr (pg_X C) σ σ2 → pg_G C T U σ2 (pa_doRestore a im).1 im h → Φ (some (.inl (pa_doRestore a im).2)) σ2) : pe_M (d + 4) 107 [.inr (.inr C)] σ Φ := by
  have hF := hG.F
  obtain ⟨g9, g10⟩ := hG.2.2.2.2.1
  refine pe_M_of ck107 (Nat.le_of_ble_eq_true rfl) ?_
  cases im with
  | none =>
    have e6 := g9 rfl
    refine b107_0 (k1 := fun r => by omega) (k2 := fun _ => ?_)
    refine b107_7 (k := ?_)
    exact k σ (pk_fr_refl _ _) hG
  | some b =>
    obtain ⟨e6, hM⟩ := g10 b rfl
    have hwb := (hw.2.1 b rfl).1
    refine b107_0 (k1 := fun _ => ?_) (k2 := fun r => by omega)
    refine b107_10 (k := ?_)
    refine pe_M.up (k15 (d := 0) hM hwb.1 hwb.2.1 (pk_sM0 hF) (by omega) (fun x hx q => hG.TZ hx (Or.inr (Or.inr (Or.inl q)))) (fun σ2 e1 _ e2 => ?_)) (by omega)
    have g2 := hG.now hw e1 e2
    have hF2 := g2.F
    have e62 := e2.cnt.2.2
    refine b107_21 (k := ?_)
    rw [e62]
    exact k σ2 (pk_fr_mono e1 pg_nX) g2
end
