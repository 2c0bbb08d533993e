/-! THE CLASS: send to leastWidth -/
theorem pg_nX {C : Nat} (x : Nat) (h : pk_Z (C + 1) x) : pg_X C x := by unfold pk_Z at h; unfold pg_X; omega
theorem pg_kX {C : Nat} (x : Nat) (h : pk_Z (C + 88) x) : pg_X C x := by unfold pk_Z at h; unfold pg_X; omega
theorem pg_mX {C : Nat} {i : Int} (i0 : 0 ≤ i) (i8 : i < 8) (x : Nat) (h : pk_Z (pk_m C i) x) : pg_X C x := by unfold pk_Z pk_m at h; unfold pg_X; omega
/-- thinking: since σ0 only the class's cells have changed; mind i is at s -/
def pg_Q (C : Nat) (T U : Nat → Prop) (σ0 : pe_H) (a : pa_M) (im : Option pa_M) (h : Int → pa_Sh) (i : Int) (σ : pe_H) (s : pa_M) : Prop := pk_fr (pg_X C) σ0 σ ∧ pg_G C T U σ a im h ∧ pk_RM (pk_m C i) T σ s ∧ pa_wf s
section
variable {d C B P : Nat} {Φ : Option pe_V → pe_H → Prop} {T U : Nat → Prop} {σ σ' σ1 σ2 : pe_H} {c i x D n : Int} {l : List Int} {a s s' : pa_M} {im : Option pa_M} {h : Int → pa_Sh}
theorem pg_Q.G (q : pg_Q C T U σ a im h i σ1 s) : pg_G C T U σ1 a im h := q.2.1
theorem pg_Q.M (q : pg_Q C T U σ a im h i σ1 s) : pk_RM (pk_m C i) T σ1 s := q.2.2.1
theorem pg_Q.m (q : pg_Q C T U σ a im h i σ1 s) : pk_Fm (pk_m C i) σ1 := q.2.2.1.F
theorem pg_Q.w (q : pg_Q C T U σ a im h i σ1 s) : pa_wf s := q.2.2.2
theorem pg_Q.F (q : pg_Q C T U σ a im h i σ1 s) : pk_Fs C σ1 := q.2.1.1
theorem pg_Q.next (q : pg_Q C T U σ a im h i σ1 s) (hw : pg_W a im h) (i0 : 0 ≤ i) (i8 : i < 8) (hf : pk_fr (pk_Z (pk_m C i)) σ1 σ2) (hM : pk_RM (pk_m C i) T σ2 s') (hs : pa_wf s') : pg_Q C T U σ a im h i σ2 s' := ⟨pk_fr_trans q.1 (pk_fr_mono hf (pg_mX i0 i8)), q.2.1.mind hw i0 i8 hf hM.F, hM, hs⟩
/-- think, from the beginning or anew -/
theorem k122q (hf : pk_fr (pg_X C) σ σ1) (hG : pg_G C T U σ1 a im h) (hw : pg_W a im h) (k : ∀ σ2, pg_Q C T U σ a im h 0 σ2 a → Φ (some (.inr (.inr (pk_m C 0)))) σ2) : pe_M (d + 4) 122 [.inr (.inr C)] σ1 Φ :=
  k122 hG hw (fun σ2 e1 e2 e3 => k σ2 ⟨pk_fr_trans hf (pk_fr_mono e1 (pg_mX (by decide) (by decide))), e2, e3, hw.1.1⟩)
/-- send -/
theorem k87 {v : Int} (hG : pg_G C T U σ a im h) (hw : pg_W a im h) (hc : -2147483648 ≤ c ∧ c < 2147483648) (hv : -2147483648 ≤ v ∧ v < 2147483648) (k : ∀ σ2, pk_fr (pg_X C) σ σ2 → pg_G C T U σ2 (pa_doSend a c v).1 im h → Φ (some (.inl (pa_doSend a c v).2)) σ2) : pe_M (d + 15) 87 [.inr (.inr C), .inl c, .inl v] σ Φ := by
  have hF := hG.F
  have hM := hG.M
  have h8 := hw.1.1.1.1
  unfold pa_doSend at k
  have hno : ¬ ((0 ≤ c ∧ c < a.1 4) ∧ 0 ≤ v ∧ v ≤ 999) → Φ (some (.inl (-1))) σ := fun q => by
    rw [if_pos q] at k
    exact k σ (pk_fr_refl _ _) hG
  refine pe_M_of ck87 (Nat.le_of_ble_eq_true rfl) ?_
  refine b87_0 (k := ?_)
  refine pe_M.up (k117 (d := 0) hF hM hw.1.1.1 hc (fun rc => ?_) (fun r => ?_)) (by omega)
  · refine b87_5 (k1 := fun r => by omega) (k2 := fun _ => ?_)
    have h1 : c < 8 := by omega
    refine b87_8 (k1 := fun r1 => ?_) (k2 := fun r1 => ?_)
    · refine b87_19 (k := ?_)
      exact hno (by omega)
    · refine b87_12 (k1 := fun r2 => ?_) (k2 := fun r2 => ?_)
      · rw [if_neg (by omega)] at k
        have ho : pk_Fo (pk_c (C + 1) c) σ := pk_mO (pk_sM0 hF) rc.1 h1
        have i2 := (hM.i rc.1 rc.2).2.1
        have hb := (hw.1.1.1.2.2.1 c rc.1 rc.2).1.2.1
        refine b87_21 (k := ?_)
        refine pe_M.up (k4 (d := 0) ho i2 hb (fun r3 => ?_) (fun r3 => ?_)) (by omega)
        · rw [if_neg (by omega)] at k
          refine b87_33 (k1 := fun _ => ?_) (k2 := fun r => by omega)
          refine b87_39 (k := ?_)
          refine k25 (d := d + 1) hM hw.1.1 rc.1 rc.2 r3 (by omega) (fun σ2 e1 e2 => ?_)
          have hws := pa_send_wf (v := v) hw.1.1 rc.1 rc.2 r3 (by omega)
          have e3 := pk_fr_mono e1 pk_Zs_Z
          have g2 := hG.now hw e3 e2
          have hF2 := g2.F
          refine b87_48 (k := ?_)
          have i22 := (e2.i rc.1 (by rw [hws.2]; exact rc.2)).2.1
          rw [i22]
          exact k σ2 (pk_fr_mono e3 pg_nX) g2
        · rw [if_pos (by omega)] at k
          refine b87_33 (k1 := fun r => by omega) (k2 := fun _ => ?_)
          refine b87_36 (k := ?_)
          exact k σ (pk_fr_refl _ _) hG
      · refine b87_19 (k := ?_)
        exact hno (by omega)
  · refine b87_5 (k1 := fun _ => ?_) (k2 := fun r => absurd rfl r)
    refine b87_19 (k := ?_)
    exact hno (by omega)
/-- close -/
theorem k88 (hG : pg_G C T U σ a im h) (hw : pg_W a im h) (hc : -2147483648 ≤ c ∧ c < 2147483648) (k : ∀ σ2, pk_fr (pg_X C) σ σ2 → pg_G C T U σ2 (pa_doClose a c).1 im h → Φ (some (.inl (pa_doClose a c).2)) σ2) : pe_M (d + 15) 88 [.inr (.inr C), .inl c] σ Φ := by
  have hF := hG.F
  have hM := hG.M
  have h8 := hw.1.1.1.1
  unfold pa_doClose at k
  refine pe_M_of ck88 (Nat.le_of_ble_eq_true rfl) ?_
  refine b88_0 (k := ?_)
  refine pe_M.up (k117 (d := 0) hF hM hw.1.1.1 hc (fun rc => ?_) (fun r => ?_)) (by omega)
  · rw [if_neg (by omega)] at k
    refine b88_5 (k1 := fun _ => ?_) (k2 := fun r => by omega)
    have h1 : c < 8 := by omega
    have ho : pk_Fo (pk_c (C + 1) c) σ := pk_mO (pk_sM0 hF) rc.1 h1
    have i2 := (hM.i rc.1 rc.2).2.1
    have hb := (hw.1.1.1.2.2.1 c rc.1 rc.2).1.2.1
    refine b88_10 (k := ?_)
    refine pe_M.up (k3 (d := 0) ho i2 hb (fun r3 => ?_) (fun r3 => ?_)) (by omega)
    · rw [if_pos (by omega)] at k
      refine b88_22 (k1 := fun r => by omega) (k2 := fun _ => ?_)
      refine b88_25 (k := ?_)
      exact k σ (pk_fr_refl _ _) hG
    · rw [if_neg (by omega)] at k
      refine b88_22 (k1 := fun _ => ?_) (k2 := fun r => by omega)
      refine b88_28 (k := ?_)
      refine k26 (d := d + 1) hM hw.1.1 rc.1 rc.2 (by omega) (fun σ2 e1 e2 => ?_)
      have hws := pa_shut_wf hw.1.1 rc.1 rc.2 (by omega)
      have e3 := pk_fr_mono e1 pk_Zs_Z
      have g2 := hG.now hw e3 e2
      have hF2 := g2.F
      refine b88_36 (k := ?_)
      have i22 := (e2.i rc.1 (by rw [hws.2]; exact rc.2)).2.1
      rw [i22]
      exact k σ2 (pk_fr_mono e3 pg_nX) g2
  · rw [if_pos (by omega)] at k
    refine b88_5 (k1 := fun r => by omega) (k2 := fun _ => ?_)
    refine b88_8 (k := ?_)
    exact k σ (pk_fr_refl _ _) hG
/-- width -/
theorem k89 {w : Int} (hG : pg_G C T U σ a im h) (hw : pg_W a im h) (hw1 : -2147483648 ≤ w ∧ w < 2147483648) (k : ∀ σ2, pk_fr (pg_X C) σ σ2 → pg_G C T U σ2 (pa_doWidth a w).1 im h → Φ (some (.inl (pa_doWidth a w).2)) σ2) : pe_M (d + 1) 89 [.inr (.inr C), .inl w] σ Φ := by
  have hF := hG.F
  have hM := hG.M
  unfold pa_doWidth at k
  have hno : ¬ (1 ≤ w ∧ w ≤ 8) → Φ (some (.inl (-1))) σ := fun q => by
    rw [if_pos q] at k
    exact k σ (pk_fr_refl _ _) hG
  refine pe_M_of ck89 (Nat.le_of_ble_eq_true rfl) ?_
  refine b89_0 (k1 := fun r => ?_) (k2 := fun r => ?_)
  · refine b89_11 (k := ?_)
    exact hno (by omega)
  · refine b89_5 (k1 := fun r2 => ?_) (k2 := fun r2 => ?_)
    · rw [if_neg (by omega)] at k
      refine b89_13 (k := ?_)
      rw [hM.cnt.2.1]
      have e3 : pk_fr (pk_Z (C + 1)) σ (pe_wI σ (C + 1) 5 w) := (pk_frI_wI (by unfold pk_Z; omega)).1
      exact k _ (pk_fr_mono e3 pg_nX) (hG.now hw e3 (pk_RM_B (j := 5) (Or.inl rfl) hM hw.1.1.1.w9))
    · refine b89_11 (k := ?_)
      exact hno (by omega)
/-- rounds -/
theorem k90 (hG : pg_G C T U σ a im h) (hw : pg_W a im h) (hn : -2147483648 ≤ n ∧ n < 2147483648) (k : ∀ σ2, pk_fr (pg_X C) σ σ2 → pg_G C T U σ2 (pa_doRounds a n).1 im h → Φ (some (.inl (pa_doRounds a n).2)) σ2) : pe_M (d + 15) 90 [.inr (.inr C), .inl n] σ Φ := by
  have hF := hG.F
  have hM := hG.M
  have h6 := hw.1.2
  have e6 := hM.cnt.2.2
  unfold pa_doRounds at k
  have hno : ¬ (1 ≤ n ∧ n ≤ 60) → Φ (some (.inl (-1))) σ := fun q => by
    rw [if_pos q] at k
    exact k σ (pk_fr_refl _ _) hG
  have loop : ∀ (m : Nat) (i : Int) (σ1 : pe_H) (s : pa_M), i + m = n → 0 ≤ i → n ≤ 60 → pk_fr (pk_Z (C + 1)) σ σ1 → pk_Fs C σ1 → pk_RM (C + 1) T σ1 s → pa_wf s → (∀ σ2, pk_fr (pk_Z (C + 1)) σ σ2 → pk_Fs C σ2 → pk_RM (C + 1) T σ2 (pa_rounds m s) → pe_X (d + 14) 90 (52, [some (.inr (.inr C)), some (.inl n), some (.inl n)], [], σ2) Φ) → pe_X (d + 14) 90 (33, [some (.inr (.inr C)), some (.inl n), some (.inl i)], [], σ1) Φ := by
    intro m
    induction m with
    | zero =>
      intro i σ1 s hi hi0 hn0 g1 g2 g3 g4 kk
      have := kk σ1 g1 g2 g3
      rw [show i = n by omega]
      refine b90_33 (k1 := fun _ => ?_) (k2 := fun r => by omega)
      exact this
    | succ m ih =>
      intro i σ1 s hi hi0 hn0 g1 g2 g3 g4 kk
      refine b90_33 (k1 := fun r => by omega) (k2 := fun _ => ?_)
      refine b90_38 (k := ?_)
      refine pe_M.up (k28 (d := 0) g3 g4 (fun σ2 e1 e2 e3 => ?_)) (by omega)
      have e1 := pk_fr_mono e1 pk_Zb_Z
      have g2' := pk_Fs_mach g2 (Or.inl rfl) e1 e3.F
      refine b90_45 (k := ?_)
      exact ih (i + 1) σ2 (pa_round s) (by omega) (by omega) hn0 (pk_fr_trans g1 e1) g2' e3 (pa_round_wf g4).1 kk
  refine pe_M_of ck90 (Nat.le_of_ble_eq_true rfl) ?_
  refine b90_0 (k1 := fun r => ?_) (k2 := fun r => ?_)
  · refine b90_11 (k := ?_)
    exact hno (by omega)
  · refine b90_5 (k1 := fun r2 => ?_) (k2 := fun r2 => ?_)
    · rw [if_neg (by omega)] at k
      refine b90_13 (k1 := fun r3 => ?_) (k2 := fun r3 => ?_)
      · rw [if_neg (by omega)] at k
        refine b90_31 (k := ?_)
        refine loop n.toNat 0 σ a (by omega) (by decide) r2 (pk_fr_refl _ _) hF hM hw.1.1 (fun σ2 e1 e2 e3 => ?_)
        have hws := pa_rounds_wf n.toNat a hw.1.1
        have g2 := hG.now hw e1 e3
        have h8 := hws.1.1
        have hb := pa_bits_255 (pa_isEnd (pa_rounds n.toNat a)) (n := ((pa_rounds n.toNat a).1 4).toNat) (by omega)
        refine b90_52 (k := ?_)
        refine pe_M.up (k17 (d := 0) e3 hws.1 ?_) (by omega)
        refine b90_59 (k := ?_)
        refine pe_M.up (k245 (d := 0) ?_) (by omega)
        refine b90_62 (k := ?_)
        exact k σ2 (pk_fr_mono e1 pg_nX) g2
      · rw [if_pos (by omega)] at k
        refine b90_28 (k := ?_)
        exact k σ (pk_fr_refl _ _) hG
    · refine b90_11 (k := ?_)
      exact hno (by omega)
/-- then -/
theorem k91 (hG : pg_G C T U σ a im h) (hw : pg_W a im h) (hc : -2147483648 ≤ c ∧ c < 2147483648) (hn : -2147483648 ≤ n ∧ n < 2147483648) (hx : -2147483648 ≤ x ∧ x < 2147483648) (k : ∀ σ2, pk_fr (pg_X C) σ σ2 → pg_G C T U σ2 a im h → Φ (some (.inl (pa_aThen a c n x))) σ2) : pe_M (d + 16) 91 [.inr (.inr C), .inl c, .inl n, .inl x] σ Φ := by
  have hF := hG.F
  have h8 := hw.1.1.1.1
  unfold pa_aThen at k
  have hno : ¬ ((0 ≤ c ∧ c < a.1 4) ∧ (0 ≤ n ∧ n ≤ 60) ∧ 0 ≤ x ∧ x ≤ 4) → Φ (some (.inl (-1))) σ := fun q => by
    rw [if_pos q] at k
    exact k σ (pk_fr_refl _ _) hG
  refine pe_M_of ck91 (Nat.le_of_ble_eq_true rfl) ?_
  refine b91_0 (k := ?_)
  refine pe_M.up (k117 (d := 0) hF hG.M hw.1.1.1 hc (fun rc => ?_) (fun r => ?_)) (by omega)
  · refine b91_5 (k1 := fun r => by omega) (k2 := fun _ => ?_)
    have h1 : c < 8 := by omega
    refine b91_8 (k1 := fun r1 => ?_) (k2 := fun r1 => ?_)
    · refine b91_27 (k := ?_)
      exact hno (by omega)
    · refine b91_12 (k1 := fun r2 => ?_) (k2 := fun r2 => ?_)
      · refine b91_27 (k := ?_)
        exact hno (by omega)
      · refine b91_18 (k1 := fun r3 => ?_) (k2 := fun r3 => ?_)
        · refine b91_27 (k := ?_)
          exact hno (by omega)
        · refine b91_22 (k1 := fun r4 => ?_) (k2 := fun r4 => ?_)
          · rw [if_neg (by omega)] at k
            refine b91_29 (k := ?_)
            refine pe_M.up (k122q (d := 0) (pk_fr_refl _ _) hG hw (fun σ2 q2 => ?_)) (by omega)
            have hm2 := q2.m
            refine b91_33 (k := ?_)
            refine pe_M.up (k27 (d := 0) q2.M hw.1.1 (by omega) (by omega) (fun σ3 a2 e1 e2 e3 e4 e5 => ?_)) (by omega)
            have q3 := q2.next hw (by decide) (by decide) (pk_fr_mono e1 pk_Zb_Z) e2 e3
            have hm3 := q3.m
            refine b91_41 (k := ?_)
            have e14 : a2.1 4 = a.1 4 := (e5 4 (by decide)).trans (pa_rounds4 n.toNat a hw.1.1)
            have ho : pk_Fo (pk_c (pk_m C 0) c) σ3 := pk_mO hm3 rc.1 h1
            obtain ⟨i0, i2, i3, i4, i5, i6, i7⟩ := q3.M.i rc.1 (by omega : c < a2.1 4)
            refine pe_M.up (k9 (d := 0) ho (by omega) ?_) (by omega)
            refine b91_52 (k := ?_)
            unfold pa_of at k
            rw [i2, i3, i4, i5, i6, e4]
            exact k σ3 q3.1 q3.G
          · refine b91_27 (k := ?_)
            exact hno (by omega)
  · refine b91_5 (k1 := fun _ => ?_) (k2 := fun r => absurd rfl r)
    refine b91_27 (k := ?_)
    exact hno (by omega)
/-- ends -/
theorem k92 (hG : pg_G C T U σ a im h) (hw : pg_W a im h) (hc : -2147483648 ≤ c ∧ c < 2147483648) (k : ∀ σ2, pk_fr (pg_X C) σ σ2 → pg_G C T U σ2 a im h → Φ (some (.inl (pa_aEnds a c))) σ2) : pe_M (d + 15) 92 [.inr (.inr C), .inl c] σ Φ := by
  have hF := hG.F
  have h8 := hw.1.1.1.1
  unfold pa_aEnds at k
  refine pe_M_of ck92 (Nat.le_of_ble_eq_true rfl) ?_
  refine b92_0 (k := ?_)
  refine pe_M.up (k117 (d := 0) hF hG.M hw.1.1.1 hc (fun rc => ?_) (fun r => ?_)) (by omega)
  · rw [if_neg (by omega)] at k
    refine b92_5 (k1 := fun _ => ?_) (k2 := fun r => by omega)
    have h1 : c < 8 := by omega
    refine b92_10 (k := ?_)
    refine pe_M.up (k122q (d := 0) (pk_fr_refl _ _) hG hw (fun σ2 q2 => ?_)) (by omega)
    have hm2 := q2.m
    refine b92_14 (k := ?_)
    obtain ⟨V, hV⟩ : ∃ V, V = pa_endsN c 61 0 a := ⟨_, rfl⟩
    rw [← hV] at k
    have loop : ∀ (m : Nat) (i : Int) (σ1 : pe_H) (s : pa_M), i + m = 61 → 0 ≤ i → pg_Q C T U σ a im h 0 σ1 s → s.1 4 = a.1 4 → pa_endsN c m i s = V → pe_X (d + 14) 92 (17, [some (.inr (.inr C)), some (.inl c), some (.inr (.inr (pk_m C 0))), some (.inl i)], [], σ1) Φ := by
      intro m
      induction m with
      | zero =>
        intro i σ1 s hi hi0 q1 e4 hv
        have hm1 := q1.m
        refine b92_17 (k1 := fun _ => ?_) (k2 := fun r => by omega)
        refine b92_48 (k := ?_)
        unfold pa_endsN at hv
        rw [← hv] at k
        exact k σ1 q1.1 q1.G
      | succ m ih =>
        intro i σ1 s hi hi0 q1 e4 hv
        have hm1 := q1.m
        have ho : pk_Fo (pk_c (pk_m C 0) c) σ1 := pk_mO hm1 rc.1 h1
        have i2 := (q1.M.i rc.1 (by omega : c < s.1 4)).2.1
        have hb := (q1.w.1.2.2.1 c rc.1 (by omega)).1.2.1
        unfold pa_endsN at hv
        refine b92_17 (k1 := fun r => by omega) (k2 := fun _ => ?_)
        refine b92_23 (k := ?_)
        refine pe_M.up (k3 (d := 0) ho i2 hb (fun r3 => ?_) (fun r3 => ?_)) (by omega)
        · rw [if_pos r3] at hv
          refine b92_32 (k1 := fun r => by omega) (k2 := fun _ => ?_)
          refine b92_35 (k := ?_)
          rw [hv]
          exact k σ1 q1.1 q1.G
        · rw [if_neg r3] at hv
          refine b92_32 (k1 := fun _ => ?_) (k2 := fun r => by omega)
          refine b92_37 (k := ?_)
          refine pe_M.up (k28 (d := 0) q1.M q1.w (fun σ2 e1 e2 e3 => ?_)) (by omega)
          have hr := pa_round_wf q1.w
          have q2 := q1.next hw (by decide) (by decide) (pk_fr_mono e1 pk_Zb_Z) e3 hr.1
          have hm2 := q2.m
          refine b92_41 (k := ?_)
          exact ih (i + 1) σ2 _ (by omega) (by omega) q2 (by rw [hr.2.1]; exact (pa_day4 s).1.trans e4) hv
    exact loop 61 0 σ2 a (by decide) (by decide) q2 rfl hV.symm
  · rw [if_pos (by omega)] at k
    refine b92_5 (k1 := fun r => by omega) (k2 := fun _ => ?_)
    refine b92_8 (k := ?_)
    exact k σ (pk_fr_refl _ _) hG
/-- nobody can go -/
theorem pa_able_0 {s : pa_M} (hs : pa_wf s) : pa_bits (pa_isAble s) (s.1 4).toNat = 0 ↔ pa_line s = [] := by
  have h8 := hs.1.1
  have key : ∀ n : Nat, pa_bits (pa_isAble s) n = 0 ↔ pa_lineN s n = [] := by
    intro n
    induction n with
    | zero => simp [pa_bits, pa_lineN]
    | succ n ih =>
      have hb := pa_bits_b (pa_isAble s) n
      unfold pa_bits pa_lineN
      by_cases q : (s.2.1 (n : Int)).1 2 ≤ 2
      · have e : pa_isAble s (n : Int) = true := by unfold pa_isAble; exact decide_eq_true q
        rw [if_pos e, if_pos q]
        constructor
        · intro w
          have : (0 : Int) < 2 ^ n := by omega
          omega
        · intro w
          exfalso
          cases hl : pa_lineN s n with
          | nil => rw [hl] at w; simp [pa_ins] at w
          | cons x l =>
            rw [hl] at w
            unfold pa_ins at w
            split at w <;> simp at w
      · have e : ¬ pa_isAble s (n : Int) = true := by unfold pa_isAble; simp; omega
        rw [if_neg e, if_neg q, Int.add_zero]
        exact ih
  exact key _
/-- stuck -/
theorem k93 (hG : pg_G C T U σ a im h) (hw : pg_W a im h) (hx : -2147483648 ≤ x ∧ x < 2147483648) (k : ∀ σ2, pk_fr (pg_X C) σ σ2 → pg_G C T U σ2 a im h → Φ (some (.inl (pa_aStuck a x))) σ2) : pe_M (d + 15) 93 [.inr (.inr C), .inl x] σ Φ := by
  have hF := hG.F
  have h8 := hw.1.1.1.1
  unfold pa_aStuck at k
  have hno : ¬ (0 ≤ x ∧ x ≤ 1) → Φ (some (.inl (-1))) σ := fun q => by
    rw [if_pos q] at k
    exact k σ (pk_fr_refl _ _) hG
  refine pe_M_of ck93 (Nat.le_of_ble_eq_true rfl) ?_
  refine b93_0 (k1 := fun r1 => ?_) (k2 := fun r1 => ?_)
  · refine b93_9 (k := ?_)
    exact hno (by omega)
  · refine b93_4 (k1 := fun r2 => ?_) (k2 := fun r2 => ?_)
    · rw [if_neg (by omega)] at k
      refine b93_11 (k := ?_)
      refine pe_M.up (k122q (d := 0) (pk_fr_refl _ _) hG hw (fun σ2 q2 => ?_)) (by omega)
      have hm2 := q2.m
      refine b93_15 (k := ?_)
      obtain ⟨V, hV⟩ : ∃ V, V = pa_stuckN 61 0 a := ⟨_, rfl⟩
      rw [← hV] at k
      have loop : ∀ (m : Nat) (i : Int) (σ1 : pe_H) (s : pa_M), i + m = 61 → 0 ≤ i → pg_Q C T U σ a im h 0 σ1 s → pa_stuckN m i s = V → pe_X (d + 14) 93 (18, [some (.inr (.inr C)), some (.inl x), some (.inr (.inr (pk_m C 0))), some (.inl i)], [], σ1) Φ := by
        intro m
        induction m with
        | zero =>
          intro i σ1 s hi hi0 q1 hv
          have hm1 := q1.m
          refine b93_18 (k1 := fun _ => ?_) (k2 := fun r => by omega)
          refine b93_62 (k := ?_)
          unfold pa_stuckN at hv
          rw [← hv] at k
          have := k σ1 q1.1 q1.G
          split at this <;> exact this
        | succ m ih =>
          intro i σ1 s hi hi0 q1 hv
          have hm1 := q1.m
          have h84 := q1.w.1.1
          have hb := pa_bits_255 (pa_isAble s) (n := (s.1 4).toNat) (by omega)
          unfold pa_stuckN at hv
          refine b93_18 (k1 := fun r => by omega) (k2 := fun _ => ?_)
          refine b93_24 (k := ?_)
          refine pe_M.up (k19 (d := 0) q1.M q1.w.1 ?_) (by omega)
          by_cases hl : pa_line s = []
          · rw [if_pos hl] at hv
            rw [(pa_able_0 q1.w).mpr hl]
            refine b93_28 (k1 := fun r => absurd rfl r) (k2 := fun _ => ?_)
            rw [← hv] at k
            refine b93_31 (k1 := fun rx => ?_) (k2 := fun rx => ?_)
            · rw [if_neg rx] at k
              refine b93_39 (k := ?_)
              refine pe_M.up (k16 (d := 0) q1.M ?_) (by omega)
              refine b93_43 (k := ?_)
              refine pe_M.up (k17 (d := 0) q1.M q1.w.1 ?_) (by omega)
              refine b93_47 (k := ?_)
              refine b93_50 (k := ?_)
              exact k σ1 q1.1 q1.G
            · rw [if_pos rx] at k
              refine b93_35 (k := ?_)
              refine b93_50 (k := ?_)
              exact k σ1 q1.1 q1.G
          · rw [if_neg hl] at hv
            have h0 := fun q => hl ((pa_able_0 q1.w).mp q)
            refine b93_28 (k1 := fun _ => ?_) (k2 := fun r => absurd r h0)
            refine b93_51 (k := ?_)
            refine pe_M.up (k28 (d := 0) q1.M q1.w (fun σ2 e1 e2 e3 => ?_)) (by omega)
            have hr := pa_round_wf q1.w
            have q2 := q1.next hw (by decide) (by decide) (pk_fr_mono e1 pk_Zb_Z) e3 hr.1
            have hm2 := q2.m
            refine b93_55 (k := ?_)
            exact ih (i + 1) σ2 _ (by omega) (by omega) q2 hv
      exact loop 61 0 σ2 a (by decide) (by decide) q2 hV.symm
    · refine b93_9 (k := ?_)
      exact hno (by omega)
/-- all are ended: the bits, and how many they are -/
theorem pa_all_end {p : Int → Bool} {n : Nat} (hn : n ≤ 8) : pa_bits p n = pe_shl 1 (n : Int) - 1 ↔ pb_c (pa_bits p n) = (n : Int) := by
  have key : ∀ m : Nat, pa_bits p m ≤ 2 ^ m - 1 ∧ pa_cnt p m ≤ m ∧ (pa_bits p m = 2 ^ m - 1 ↔ pa_cnt p m = m) := by
    intro m
    induction m with
    | zero => simp [pa_bits, pa_cnt]
    | succ m ih =>
      obtain ⟨a1, a2, a3⟩ := ih
      unfold pa_bits pa_cnt
      rw [Int.pow_succ]
      have hp : (0 : Int) < 2 ^ m := Int.pow_pos (by decide)
      split
      · refine ⟨by omega, by push_cast; omega, ?_⟩
        push_cast
        constructor
        · intro q
          have := a3.mp (by omega)
          omega
        · intro q
          have := a3.mpr (by omega)
          omega
      · refine ⟨by omega, by push_cast; omega, ?_⟩
        push_cast
        constructor
        · intro q; omega
        · intro q; omega
  rw [pb_shl hn, pb_c_bits p n hn]
  exact (key n).2.2
/-- leastWidth -/
theorem k94 (hG : pg_G C T U σ a im h) (hw : pg_W a im h) (hn : -2147483648 ≤ n ∧ n < 2147483648) (k : ∀ σ2, pk_fr (pg_X C) σ σ2 → pg_G C T U σ2 a im h → Φ (some (.inl (pa_aLeast a n))) σ2) : pe_M (d + 16) 94 [.inr (.inr C), .inl n] σ Φ := by
  have hF := hG.F
  have h8 := hw.1.1.1.1
  unfold pa_aLeast at k
  have hno : ¬ (0 ≤ n ∧ n ≤ 60) → Φ (some (.inl (-1))) σ := fun q => by
    rw [if_pos q] at k
    exact k σ (pk_fr_refl _ _) hG
  refine pe_M_of ck94 (Nat.le_of_ble_eq_true rfl) ?_
  refine b94_0 (k1 := fun r1 => ?_) (k2 := fun r1 => ?_)
  · refine b94_10 (k := ?_)
    exact hno (by omega)
  · refine b94_4 (k1 := fun r2 => ?_) (k2 := fun r2 => ?_)
    · rw [if_neg (by omega)] at k
      refine b94_12 (k := ?_)
      obtain ⟨V, hV⟩ : ∃ V, V = pa_lwN a n 8 1 := ⟨_, rfl⟩
      rw [← hV] at k
      have loop : ∀ (m : Nat) (w : Int) (σ1 : pe_H) (o3 : Option pe_V), w + m = 9 → 1 ≤ w → pk_fr (pg_X C) σ σ1 → pg_G C T U σ1 a im h → pa_lwN a n m w = V → pe_X (d + 15) 94 (14, [some (.inr (.inr C)), some (.inl n), some (.inl w), o3], [], σ1) Φ := by
        intro m
        induction m with
        | zero =>
          intro w σ1 o3 hi hi0 f1 g1 hv
          have hF1 := g1.F
          refine b94_14 (k1 := fun _ => ?_) (k2 := fun r => by omega)
          refine b94_54 (k := ?_)
          unfold pa_lwN at hv
          rw [← hv] at k
          exact k σ1 f1 g1
        | succ m ih =>
          intro w σ1 o3 hi hi0 f1 g1 hv
          have hF1 := g1.F
          unfold pa_lwN at hv
          refine b94_14 (k1 := fun r => by omega) (k2 := fun _ => ?_)
          refine b94_20 (k := ?_)
          refine pe_M.up (k122q (d := 0) f1 g1 hw (fun σ2 q2 => ?_)) (by omega)
          have hm2 := q2.m
          have hF2 := q2.F
          have e3 : pk_fr (pk_Z (pk_m C 0)) σ2 (pe_wI σ2 (pk_m C 0) 5 w) := (pk_frI_wI (by unfold pk_Z; omega)).1
          have hww := pa_wid_wf hw.1.1 hi0 (by omega : w ≤ 8)
          have q3 := q2.next hw (by decide) (by decide) e3 (pk_RM_B (j := 5) (v := w) (Or.inl rfl) q2.M hw.1.1.1.w9) hww
          refine b94_24 (k := ?_)
          refine pe_M.up (k27 (d := 0) q3.M hww (by omega) (by omega) (fun σ4 a2 e1 e2 e3 e4 e5 => ?_)) (by omega)
          have q4 := q3.next hw (by decide) (by decide) (pk_fr_mono e1 pk_Zb_Z) e2 e3
          have hm4 := q4.m
          have hF4 := q4.F
          have h84 := e3.1.1
          have ew : a2.2 = (pa_lwR a n w).2 := e4
          have ew4 : a2.1 4 = (pa_lwR a n w).1 4 := e5 4 (by decide)
          have eb : pa_bits (pa_isEnd a2) (a2.1 4).toNat = pa_bits (pa_isEnd (pa_lwR a n w)) ((pa_lwR a n w).1 4).toNat := by
            rw [ew4]
            exact pa_bits_ext _ (fun i hi => by unfold pa_isEnd; rw [ew])
          have hb := pa_bits_255 (pa_isEnd a2) (n := (a2.1 4).toNat) (by omega)
          have hall := pa_all_end (p := pa_isEnd a2) (n := (a2.1 4).toNat) (by omega)
          have en : (((a2.1 4).toNat : Nat) : Int) = a2.1 4 := by omega
          rw [en] at hall
          have hsh := pb_shl (c := (a2.1 4).toNat) (by omega)
          have hpw := pb_pow_b (n := (a2.1 4).toNat) (by omega)
          rw [en] at hsh
          refine b94_35 (k := ?_)
          refine pe_M.up (k17 (d := 0) q4.M e3.1 ?_) (by omega)
          refine b94_39 (k := ?_)
          refine pe_M.up (k16 (d := 0) q4.M ?_) (by omega)
          refine b94_43 (k1 := fun re => ?_) (k2 := fun re => ?_)
          · rw [if_neg (fun hh => re (by rw [← eb, ← ew4] at hh; exact hall.mpr hh))] at hv
            refine b94_48 (k := ?_)
            exact ih (w + 1) σ4 _ (by omega) (by omega) q4.1 q4.G hv
          · rw [if_pos (by rw [← eb, ← ew4]; exact hall.mp re)] at hv
            refine b94_46 (k := ?_)
            rw [hv]
            exact k σ4 q4.1 q4.G
      exact loop 8 1 σ _ (by decide) (by decide) (pk_fr_refl _ _) hG hV.symm
    · refine b94_10 (k := ?_)
      exact hno (by omega)
end

