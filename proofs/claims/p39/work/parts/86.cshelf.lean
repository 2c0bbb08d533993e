/-! THE CLASS: shelves -/
section
variable {d C B P : Nat} {Φ : Option pe_V → pe_H → Prop} {T T' U U' Y : Nat → Prop} {σ σ' τ σ1 σ2 : pe_H} {c i x D n p z : Int} {l : List Int} {a b s t : pa_M} {im : Option pa_M} {h : Int → pa_Sh} {s' : pa_Sh}
/-- a shelf has changed, and what stood on it -/
theorem pg_G.shelf (g : pg_G C T U σ a im h) (hw : pg_W a im h) (hn : σ.1 ≤ τ.1) (hY : ∀ x, Y x → x = C + 176 ∨ x = C + 177 ∨ U x) (hs : ∀ x, x < σ.1 → ¬ Y x → pg_same σ τ x) (h6 : ∀ r, r = C + 176 ∨ r = C + 177 → pe_K τ r = pe_K σ r ∧ pe_L τ r = pe_L σ r ∧ ∀ j, j ≠ D → pe_R τ r j = pe_R σ r j) (hTT : ∀ x, T x → T' x) (hT' : ∀ x, T' x → T x ∨ (σ.1 ≤ x ∧ x < τ.1)) (hUU : ∀ x, U x → U' x) (hU' : ∀ x, U' x → U x ∨ (σ.1 ≤ x ∧ x < τ.1)) (hTU : ∀ x, U' x → ¬ T' x) (hoth : ∀ e, 0 ≤ e → e < 8 → e ≠ D → (h e).1 = 2 → ¬ Y (pe_R σ (pe_R σ (C + 177) e) 1)) (hnew : pg_S1 C T' U' τ D s') (hdis : s'.1 = 2 → ∀ e, 0 ≤ e → e < 8 → e ≠ D → (h e).1 = 2 → pe_R τ (pe_R τ (C + 177) D) 1 ≠ pe_R σ (pe_R σ (C + 177) e) 1) : pg_G C T' U' τ a im (pa_shw h D s') := by
  obtain ⟨g1, ⟨g2, g3, g4⟩, ⟨g5, g6, g7⟩, g8, ⟨g9, g10⟩, g11⟩ := g
  have hTs : ∀ x, T x → pg_same σ τ x := fun x hx => hs x (g2 x hx).2 (fun q => by
    rcases hY x q with e | e | e
    · exact (g2 x hx).1 (Or.inr (Or.inl (by omega)))
    · exact (g2 x hx).1 (Or.inr (Or.inl (by omega)))
    · exact (g3 x e).2.1 hx)
  have hXs : ∀ x, pg_X C x → x ≠ C + 176 → x ≠ C + 177 → pg_same σ τ x := fun x hx h1 h2 => hs x (by unfold pg_X at hx; omega) (fun q => by
    rcases hY x q with e | e | e
    · exact h1 e
    · exact h2 e
    · exact (g3 x e).1 hx)
  have hmX : ∀ B, (B = C + 1 ∨ B = C + 88 ∨ ∃ i : Int, 0 ≤ i ∧ i < 8 ∧ B = pk_m C i) → ∀ x, pk_Z B x → pg_same σ τ x := fun B hB x hx => hXs x (by
    rcases hB with e | e | ⟨i, i0, i8, e⟩
    · subst e; exact pg_nX x hx
    · subst e; exact pg_kX x hx
    · subst e; exact pg_mX i0 i8 x hx) (by
    rcases hB with e | e | ⟨i, i0, i8, e⟩ <;> subst e <;> unfold pk_Z at hx <;> (try unfold pk_m at hx) <;> omega) (by
    rcases hB with e | e | ⟨i, i0, i8, e⟩ <;> subst e <;> unfold pk_Z at hx <;> (try unfold pk_m at hx) <;> omega)
  have s0 := hXs C ⟨by omega, by omega⟩ (by omega) (by omega)
  have s5 := hXs (C + 175) ⟨by omega, by omega⟩ (by omega) (by omega)
  have s8 := hXs (C + 178) ⟨by omega, by omega⟩ (by omega) (by omega)
  have hT'Z : ∀ x, T' x → ¬ pg_Z C x := fun x hx q => by
    rcases hT' x hx with w | w
    · exact (g2 x w).1 q
    · have := pg_Z_in q
      omega
  refine ⟨?_, ⟨fun x hx => ⟨hT'Z x hx, ?_⟩, fun x hx => ⟨fun q => ?_, hTU x hx, ?_⟩, Nat.le_trans g4 hn⟩, ⟨hTT _ g5, by rw [(s8.2.2 0).1]; exact g6, by rw [(s8.2.2 1).1]; exact g7⟩, pk_RM_sm g8 hw.1.1.1.w9 (hmX _ (Or.inl rfl)) hTs hTT (fun x hx q => hT'Z x hx (Or.inr (Or.inr (Or.inl q)))), ⟨fun q => by rw [(s0.2.2 6).1]; exact g9 q, fun b hb => ⟨by rw [(s0.2.2 6).1]; exact (g10 b hb).1, pk_RM_sm (g10 b hb).2 (hw.2.1 b hb).1.1.w9 (hmX _ (Or.inr (Or.inl rfl))) hTs hTT (fun x hx q => hT'Z x hx (Or.inr (Or.inr (Or.inr (Or.inl q)))))⟩⟩, fun e e0 e8 => ?_, fun e f e0 e8 f0 f8 hef he hf => ?_⟩
  · obtain ⟨⟨a1, a2⟩, ⟨b1, b2⟩, ⟨c1, c2, c3⟩, ⟨d1, d2, d3⟩, ⟨e1, e2, e3⟩, ⟨f1, f2⟩, ⟨g1, g2⟩, k⟩ := g1
    obtain ⟨u1, u2, -⟩ := h6 (C + 176) (Or.inl rfl)
    obtain ⟨v1, v2, -⟩ := h6 (C + 177) (Or.inr rfl)
    exact ⟨⟨a1, by rw [s0.1]; exact a2⟩, ⟨by rw [(s0.2.2 0).2]; exact b1, by rw [(s0.2.2 1).2]; exact b2⟩, ⟨by rw [(s0.2.2 2).2]; exact c1, by rw [s5.1]; exact c2, by rw [s5.2.1]; exact c3⟩, ⟨by rw [(s0.2.2 3).2]; exact d1, by rw [u1]; exact d2, by rw [u2]; exact d3⟩, ⟨by rw [(s0.2.2 4).2]; exact e1, by rw [v1]; exact e2, by rw [v2]; exact e3⟩, ⟨by rw [(s0.2.2 5).2]; exact f1, by rw [s8.1]; exact f2⟩, ⟨pk_Fm_sm (hmX _ (Or.inl rfl)) g1, pk_Fm_sm (hmX _ (Or.inr (Or.inl rfl))) g2⟩, fun i i0 i8 => ⟨by rw [(s5.2.2 i).2]; exact (k i i0 i8).1, pk_Fm_sm (hmX _ (Or.inr (Or.inr ⟨i, i0, i8, rfl⟩))) (k i i0 i8).2⟩⟩
  · rcases hT' x hx with w | w
    · have := (g2 x w).2; omega
    · omega
  · rcases hU' x hx with w | w
    · exact (g3 x w).1 q
    · unfold pg_X at q; omega
  · rcases hU' x hx with w | w
    · have := (g3 x w).2.2; omega
    · omega
  · unfold pa_shw
    by_cases q : e = D
    · rw [if_pos q, q]; exact hnew
    · rw [if_neg q]
      have r6 := (h6 (C + 176) (Or.inl rfl)).2.2 e q
      have r7 := (h6 (C + 177) (Or.inr rfl)).2.2 e q
      obtain ⟨a1, a2, a3⟩ := g11.1 e e0 e8
      unfold pg_S1
      rw [r6, r7]
      refine ⟨a1, fun w => ?_, fun w => ?_⟩
      · obtain ⟨b1, b2, b3, b4, b5, b6⟩ := a2 w
        have sm := hTs _ b3
        exact ⟨b1, b2, hTT _ b3, by rw [sm.1]; exact b4, by rw [(sm.2.2 0).1]; exact b5, by rw [(sm.2.2 1).1]; exact b6⟩
      · obtain ⟨b1, ⟨b2, b3⟩, b4, b5⟩ := a3 w
        have sp := hTs _ b3
        have su := hs _ (g3 _ b5).2.2 (hoth e e0 e8 q w)
        exact ⟨b1, ⟨b2, hTT _ b3⟩, pg_Rw_sm sp su b4, by rw [(sp.2.2 1).2]; exact hUU _ b5⟩
  · have hR : ∀ e, 0 ≤ e → e < 8 → e ≠ D → (h e).1 = 2 → pe_R τ (pe_R τ (C + 177) e) 1 = pe_R σ (pe_R σ (C + 177) e) 1 := fun e e0 e8 q w => by
      rw [(h6 (C + 177) (Or.inr rfl)).2.2 e q, ((hTs _ ((g11.1 e e0 e8).2.2 w).2.1.2).2.2 1).2]
    unfold pa_shw at he hf
    by_cases q : e = D
    · rw [if_pos q] at he
      rw [if_neg (by omega)] at hf
      rw [q, hR f f0 f8 (by omega) hf]
      exact hdis he f f0 f8 (by omega) hf
    · rw [if_neg q] at he
      rw [hR e e0 e8 q he]
      by_cases q2 : f = D
      · rw [if_pos q2] at hf
        rw [q2]
        exact fun w => hdis hf e e0 e8 q he w.symm
      · rw [if_neg q2] at hf
        rw [hR f f0 f8 q2 hf]
        exact g11.2 e f e0 e8 f0 f8 hef he hf
/-- keep -/
theorem k109 {w kk f : Int} (hG : pg_G C T U σ a im h) (hw : pg_W a im h) (hD : -2147483648 ≤ D ∧ D < 2147483648) (hwi : -2147483648 ≤ w ∧ w < 2147483648) (hk : -2147483648 ≤ kk ∧ kk < 2147483648) (hf : -2147483648 ≤ f ∧ f < 2147483648) (k : ∀ σ2 T', pg_st C U σ σ2 → σ2.1 ≤ σ.1 + 1 → σ2.2.1 ≤ σ.2.1 + 2 → (∀ x, T' x → T x ∨ σ.1 ≤ x) → pg_G C T' U σ2 a im (pa_doKeep h D w kk f).1 → Φ (some (.inl (pa_doKeep h D w kk f).2)) σ2) : pe_M (d + 2) 109 [.inr (.inr C), .inl D, .inl w, .inl kk, .inl f] σ Φ := by
  have hF := hG.F
  have hCn := hG.2.1.2.2
  unfold pa_doKeep at k
  have hno : ¬ ((0 ≤ D ∧ D ≤ 7) ∧ (0 ≤ w ∧ w ≤ 1) ∧ (w = 1 → (0 ≤ kk ∧ kk ≤ 5) ∧ 0 ≤ f ∧ f ≤ 9)) → Φ (some (.inl (-1))) σ := fun q => by
    rw [if_pos q] at k
    exact k σ T (pg_st.refl _) (by omega) (by omega) (fun _ q => Or.inl q) hG
  have fin : ((0 ≤ D ∧ D ≤ 7) ∧ (0 ≤ w ∧ w ≤ 1) ∧ (w = 1 → (0 ≤ kk ∧ kk ≤ 5) ∧ 0 ≤ f ∧ f ≤ 9)) → pe_X (d + 1) 109 (46, [some (.inr (.inr C)), some (.inl D), some (.inl w), some (.inl kk), some (.inl f)], [], σ) Φ := fun hq => by
    rw [if_neg (fun q => q hq)] at k
    obtain ⟨hD7, hw1, hkf⟩ := hq
    refine b109_46 (k1 := fun r9 => ?_) (k2 := fun r9 => ?_)
    · have ew : w = 0 := by omega
      subst ew
      refine b109_76 (k := ?_)
      refine b109_77 (h0 := by rw [pe_K_wR, pk_sK3 hF]; decide) (h1 := Or.inl rfl) (h2 := hD7.1) (h3 := by rw [pe_L_wR, pk_sL3 hF]; omega) (h4 := by have := pk_s2 hF; omega) (k := ?_)
      refine k _ T ⟨⟨Nat.le_refl _, Nat.le_refl _⟩, fun y hy h1 h2 => (pg_same_wR (fun e => h1 ⟨by omega, by omega⟩)).trans (pg_same_wR (fun e => h1 ⟨by omega, by omega⟩))⟩ (Nat.le_succ _) (Nat.le_add_right _ _) (fun _ q => Or.inl q) ?_
      refine hG.shelf (Y := fun y => y = C + 176 ∨ y = C + 177) hw (Nat.le_refl _) (fun y hy => hy.elim Or.inl (fun e => Or.inr (Or.inl e))) (fun y hy hy2 => (pg_same_wR (fun e => hy2 (Or.inr e))).trans (pg_same_wR (fun e => hy2 (Or.inl e)))) (fun r hr => ⟨rfl, rfl, fun j hj => ?_⟩) (fun _ q => q) (fun _ q => Or.inl q) (fun _ q => q) (fun _ q => Or.inl q) (fun y hy => (hG.2.1.2.1 y hy).2.1) (fun e e0 e8 he h2 q => ?_) ⟨fun _ => ⟨?_, pe_R_same⟩, fun q => (by cases q), fun q => (by cases q)⟩ (fun q => (by cases q))
      · rw [pe_R_nej hj, pe_R_nej hj]
      · have := (hG.2.1.2.1 _ ((hG.S.1 e e0 e8).2.2 h2).2.2.2).1
        exact this ⟨by omega, by omega⟩
      · rw [pe_R_ner (by omega)]; exact pe_R_same
    · have ew : w = 1 := by omega
      subst ew
      obtain ⟨hk5, hf9⟩ := hkf rfl
      have n0 : pe_n (pe_wR σ (C + 177) D 0) = σ.1 := rfl
      refine b109_63 (h0 := by rw [n0]; omega) (k := ?_)
      rw [n0]
      refine pe_M_of ck41 (Nat.le_of_ble_eq_true rfl) ?_
      have kP : pe_K (pe_new (pe_wR σ (C + 177) D 0) 3 0 2) σ.1 = 3 := if_pos rfl
      refine b41_0 (h0 := by omega) (h1 := kP) (k := ?_)
      generalize hσ2 : pe_wI (pe_wI (pe_new (pe_wR σ (C + 177) D 0) 3 0 2) σ.1 0 kk) σ.1 1 f = σ2
      have n2 : σ2.1 = σ.1 + 1 := by rw [← hσ2]; rfl
      have u2 : σ2.2.1 = σ.2.1 + 2 := by rw [← hσ2]; rfl
      have K2 : ∀ y, pe_K σ2 y = if y = σ.1 then 3 else pe_K σ y := fun y => by rw [← hσ2]; rfl
      have L2 : ∀ y, pe_L σ2 y = if y = σ.1 then 0 else pe_L σ y := fun y => by rw [← hσ2]; rfl
      have s2 : ∀ y, y < σ.1 → y ≠ C + 177 → pg_same σ σ2 y := fun y hy h7 => by
        rw [← hσ2]
        exact (((pg_same_wR h7).trans (pg_same_new hy)).trans (pg_same_wI (by omega))).trans (pg_same_wI (by omega))
      have r7 : ∀ j, pe_R σ2 (C + 177) j = if j = D then 0 else pe_R σ (C + 177) j := fun j => by
        rw [← hσ2]
        show (if C + 177 = σ.1 then 0 else if C + 177 = C + 177 ∧ j = D then 0 else pe_R σ (C + 177) j) = _
        rw [if_neg (by omega)]
        by_cases e : j = D
        · rw [if_pos ⟨rfl, e⟩, if_pos e]
        · rw [if_neg (fun q => e q.2), if_neg e]
      have i20 : pe_I σ2 σ.1 0 = kk := by rw [← hσ2, pe_I_nej (by decide)]; exact pe_I_same
      have i21 : pe_I σ2 σ.1 1 = f := by rw [← hσ2]; exact pe_I_same
      clear hσ2
      refine b109_73 (k := ?_)
      refine b109_77 (h0 := by rw [K2, if_neg (by omega), pk_sK3 hF]; decide) (h1 := Or.inr (by rw [K2, K2, if_neg (by omega), if_pos rfl, pk_sK3 hF]; rfl)) (h2 := hD7.1) (h3 := by rw [L2, if_neg (by omega), pk_sL3 hF]; omega) (h4 := by have := pk_s2 hF; omega) (k := ?_)
      refine k _ (fun y => T y ∨ y = σ.1) ⟨⟨by show σ.1 ≤ σ2.1; omega, by show σ.2.1 ≤ σ2.2.1; omega⟩, fun y hy h1 h2 => (s2 y hy (fun e => h1 ⟨by omega, by omega⟩)).trans (pg_same_wR (fun e => h1 ⟨by omega, by omega⟩))⟩ (by show σ2.1 ≤ _; omega) (by show σ2.2.1 ≤ _; omega) (fun y q => q.elim Or.inl (fun e => Or.inr (by omega))) ?_
      refine hG.shelf (Y := fun y => y = C + 176 ∨ y = C + 177) hw (by show σ.1 ≤ σ2.1; omega) (fun y hy => hy.elim Or.inl (fun e => Or.inr (Or.inl e))) (fun y hy hy2 => (s2 y hy (fun e => hy2 (Or.inr e))).trans (pg_same_wR (fun e => hy2 (Or.inl e)))) (fun r hr => ⟨?_, ?_, fun j hj => ?_⟩) (fun _ q => Or.inl q) (fun y q => q.elim Or.inl (fun e => Or.inr ⟨by omega, by show y < σ2.1; omega⟩)) (fun _ q => q) (fun _ q => Or.inl q) (fun y hy q => q.elim (hG.2.1.2.1 y hy).2.1 (fun e => by have := (hG.2.1.2.1 y hy).2.2; omega)) (fun e e0 e8 he h2 q => ?_) ⟨fun q => (by cases q), fun _ => ⟨?_, ?_⟩, fun q => (by cases q)⟩ (fun q => (by cases q))
      · show pe_K σ2 r = _
        rw [K2, if_neg (by omega)]
      · show pe_L σ2 r = _
        rw [L2, if_neg (by omega)]
      · rw [pe_R_nej hj]
        rcases hr with e | e
        · rw [e, ((s2 (C + 176) (by omega) (by omega)).2.2 j).2]
        · rw [e, r7, if_neg hj]
      · have := (hG.2.1.2.1 _ ((hG.S.1 e e0 e8).2.2 h2).2.2.2).1
        exact this ⟨by omega, by omega⟩
      · rw [pe_R_ner (by omega), r7, if_pos rfl]
      · rw [pe_R_same]
        exact ⟨by omega, Or.inr rfl, by show pe_K σ2 σ.1 = 3; rw [K2, if_pos rfl], i20, i21⟩
  refine pe_M_of ck109 (Nat.le_of_ble_eq_true rfl) ?_
  refine b109_0 (k := ?_)
  refine pe_M.up (k115 (d := 0) hD (fun r => ?_) (fun r => ?_)) (by omega)
  · refine b109_4 (k1 := fun r => by omega) (k2 := fun _ => ?_)
    refine b109_7 (k1 := fun r1 => ?_) (k2 := fun r1 => ?_)
    · refine b109_16 (k := ?_)
      exact hno (by omega)
    · refine b109_11 (k1 := fun r2 => ?_) (k2 := fun r2 => ?_)
      · refine b109_18 (k1 := fun r3 => ?_) (k2 := fun r3 => ?_)
        · exact fin ⟨by omega, by omega, fun q => absurd q r3⟩
        · refine b109_23 (k1 := fun r4 => ?_) (k2 := fun r4 => ?_)
          · refine b109_44 (k := ?_)
            exact hno (fun q => by have := q.2.2 r3; omega)
          · refine b109_27 (k1 := fun r5 => ?_) (k2 := fun r5 => ?_)
            · refine b109_44 (k := ?_)
              exact hno (fun q => by have := q.2.2 r3; omega)
            · refine b109_32 (k1 := fun r6 => ?_) (k2 := fun r6 => ?_)
              · refine b109_44 (k := ?_)
                exact hno (fun q => by have := q.2.2 r3; omega)
              · refine b109_37 (k1 := fun r7 => ?_) (k2 := fun r7 => ?_)
                · exact fin ⟨by omega, by omega, fun _ => ⟨by omega, by omega⟩⟩
                · refine b109_44 (k := ?_)
                  exact hno (fun q => by have := q.2.2 r3; omega)
      · refine b109_16 (k := ?_)
        exact hno (by omega)
  · refine b109_4 (k1 := fun _ => ?_) (k2 := fun r => absurd rfl r)
    refine b109_16 (k := ?_)
    exact hno (by omega)
/-- row -/
theorem k110 {t : Int} (hG : pg_G C T U σ a im h) (hw : pg_W a im h) (hD : -2147483648 ≤ D ∧ D < 2147483648) (ht : -2147483648 ≤ t ∧ t < 2147483648) (hn : -2147483648 ≤ n ∧ n < 2147483648) (k : ∀ σ2 T' U', pg_st C U σ σ2 → σ2.1 ≤ σ.1 + 2 → σ2.2.1 ≤ σ.2.1 + 102 → (∀ x, T' x → T x ∨ σ.1 ≤ x) → (∀ x, U' x → U x ∨ σ.1 ≤ x) → pg_G C T' U' σ2 a im (pa_doRow h D t n).1 → Φ (some (.inl (pa_doRow h D t n).2)) σ2) : pe_M (d + 2) 110 [.inr (.inr C), .inl D, .inl t, .inl n] σ Φ := by
  have hF := hG.F
  have hCn := hG.2.1.2.2
  unfold pa_doRow at k
  have hno : ¬ ((0 ≤ D ∧ D ≤ 7) ∧ (0 ≤ t ∧ t ≤ 2) ∧ n ≤ 100) → Φ (some (.inl (-1))) σ := fun q => by
    rw [if_pos q] at k
    exact k σ T U (pg_st.refl _) (by omega) (by omega) (fun _ q => Or.inl q) (fun _ q => Or.inl q) hG
  refine pe_M_of ck110 (Nat.le_of_ble_eq_true rfl) ?_
  refine b110_0 (k := ?_)
  refine pe_M.up (k115 (d := 0) hD (fun r => ?_) (fun r => ?_)) (by omega)
  · refine b110_4 (k1 := fun r => by omega) (k2 := fun _ => ?_)
    refine b110_7 (k1 := fun r1 => ?_) (k2 := fun r1 => ?_)
    · refine b110_22 (k := ?_)
      exact hno (by omega)
    · refine b110_11 (k1 := fun r2 => ?_) (k2 := fun r2 => ?_)
      · refine b110_22 (k := ?_)
        exact hno (by omega)
      · refine b110_16 (k1 := fun r3 => ?_) (k2 := fun r3 => ?_)
        · rw [if_neg (by omega)] at k
          refine b110_24 (k1 := fun r4 => ?_) (k2 := fun r4 => ?_)
          · rw [if_neg (by omega)] at k
            have n0 : pe_n (pe_wR σ (C + 176) D 0) = σ.1 := rfl
            refine b110_31 (h0 := r.1) (h1 := r.2) (h2 := by rw [n0]; omega) (k := ?_)
            rw [n0]
            refine pe_M_of ck56 (Nat.le_of_ble_eq_true rfl) ?_
            have kP : pe_K (pe_new (pe_wR σ (C + 176) D 0) 6 0 2) σ.1 = 6 := if_pos rfl
            have n1 : pe_n (pe_wI (pe_new (pe_wR σ (C + 176) D 0) 6 0 2) σ.1 0 t) = σ.1 + 1 := rfl
            refine b56_0 (h0 := by omega) (h1 := kP) (h2 := r4) (h3 := by omega) (h4 := ?_) (k := ?_)
            · show (if σ.1 = σ.1 + 1 then 10 else pe_K (pe_new (pe_wR σ (C + 176) D 0) 6 0 2) σ.1) = 6
              rw [if_neg (by omega)]; exact kP
            rw [n1]
            generalize hσ2 : pe_wR (pe_new (pe_wI (pe_new (pe_wR σ (C + 176) D 0) 6 0 2) σ.1 0 t) 10 n ((n : Int).toNat)) σ.1 1 (σ.1 + 1) = σ2
            have n2 : σ2.1 = σ.1 + 2 := by rw [← hσ2]; rfl
            have u2 : σ2.2.1 = σ.2.1 + 2 + n.toNat := by rw [← hσ2]; rfl
            have K2 : ∀ y, pe_K σ2 y = if y = σ.1 + 1 then 10 else if y = σ.1 then 6 else pe_K σ y := fun y => by rw [← hσ2]; rfl
            have L2 : ∀ y, pe_L σ2 y = if y = σ.1 + 1 then n else if y = σ.1 then 0 else pe_L σ y := fun y => by rw [← hσ2]; rfl
            have s2 : ∀ y, y < σ.1 → y ≠ C + 176 → pg_same σ σ2 y := fun y hy h7 => by
              rw [← hσ2]
              exact ((((pg_same_wR h7).trans (pg_same_new hy)).trans (pg_same_wI (by omega))).trans (pg_same_new (by show y < σ.1 + 1; omega))).trans (pg_same_wR (by omega))
            have r6 : ∀ j, pe_R σ2 (C + 176) j = if j = D then 0 else pe_R σ (C + 176) j := fun j => by
              rw [← hσ2, pe_R_ner (by omega)]
              show (if C + 176 = σ.1 + 1 then 0 else if C + 176 = σ.1 then 0 else if C + 176 = C + 176 ∧ j = D then 0 else pe_R σ (C + 176) j) = _
              rw [if_neg (by omega), if_neg (by omega)]
              by_cases e : j = D
              · rw [if_pos ⟨rfl, e⟩, if_pos e]
              · rw [if_neg (fun q => e q.2), if_neg e]
            have i20 : pe_I σ2 σ.1 0 = t := by
              rw [← hσ2]
              show (if σ.1 = σ.1 + 1 then 0 else if σ.1 = σ.1 ∧ (0 : Int) = 0 then t else _) = t
              rw [if_neg (by omega), if_pos ⟨rfl, rfl⟩]
            have i2A : ∀ j, pe_I σ2 (σ.1 + 1) j = 0 := fun j => by
              rw [← hσ2]
              show (if σ.1 + 1 = σ.1 + 1 then 0 else _) = 0
              rw [if_pos rfl]
            have r21 : pe_R σ2 σ.1 1 = σ.1 + 1 := by rw [← hσ2]; exact pe_R_same
            clear hσ2
            refine b110_52 (h0 := by rw [K2, if_neg (by omega), if_neg (by omega), pk_sK4 hF]; decide) (h1 := Or.inr (by rw [K2, K2, if_neg (by omega), if_neg (by omega), if_neg (by omega), if_pos rfl, pk_sK4 hF]; rfl)) (h2 := r.1) (h3 := by rw [L2, if_neg (by omega), if_neg (by omega), pk_sL4 hF]; omega) (h4 := by have := pk_s2 hF; omega) (k := ?_)
            refine k _ (fun y => T y ∨ y = σ.1) (fun y => U y ∨ y = σ.1 + 1) ⟨⟨by show σ.1 ≤ σ2.1; omega, by show σ.2.1 ≤ σ2.2.1; omega⟩, fun y hy h1 h2 => (s2 y hy (fun e => h1 ⟨by omega, by omega⟩)).trans (pg_same_wR (fun e => h1 ⟨by omega, by omega⟩))⟩ (by show σ2.1 ≤ _; omega) (by show σ2.2.1 ≤ _; omega) (fun y q => q.elim Or.inl (fun e => Or.inr (by omega))) (fun y q => q.elim Or.inl (fun e => Or.inr (by omega))) ?_
            refine hG.shelf (Y := fun y => y = C + 176 ∨ y = C + 177) hw (by show σ.1 ≤ σ2.1; omega) (fun y hy => hy.elim Or.inl (fun e => Or.inr (Or.inl e))) (fun y hy hy2 => (s2 y hy (fun e => hy2 (Or.inl e))).trans (pg_same_wR (fun e => hy2 (Or.inr e)))) (fun r hr => ⟨?_, ?_, fun j hj => ?_⟩) (fun _ q => Or.inl q) (fun y q => q.elim Or.inl (fun e => Or.inr ⟨by omega, by show y < σ2.1; omega⟩)) (fun _ q => Or.inl q) (fun y q => q.elim Or.inl (fun e => Or.inr ⟨by omega, by show y < σ2.1; omega⟩)) (fun y hy q => ?_) (fun e e0 e8 he h2 q => ?_) ⟨fun q => (by cases q), fun q => (by cases q), fun _ => ⟨?_, ?_, ?_, ?_⟩⟩ (fun _ e e0 e8 he h2 => ?_)
            · show pe_K σ2 r = _
              rw [K2, if_neg (by omega), if_neg (by omega)]
            · show pe_L σ2 r = _
              rw [L2, if_neg (by omega), if_neg (by omega)]
            · rw [pe_R_nej hj]
              rcases hr with e | e
              · rw [e, r6, if_neg hj]
              · rw [e, ((s2 (C + 177) (by omega) (by omega)).2.2 j).2]
            · rcases hy with w | w <;> rcases q with v | v
              · exact (hG.2.1.2.1 y w).2.1 v
              · have := (hG.2.1.2.1 y w).2.2; omega
              · have := (hG.2.1.1 y v).2; omega
              · omega
            · have := (hG.2.1.2.1 _ ((hG.S.1 e e0 e8).2.2 h2).2.2.2).1
              exact this ⟨by omega, by omega⟩
            · rw [pe_R_ner (by omega), r6, if_pos rfl]
            · rw [pe_R_same]
              exact ⟨by omega, Or.inr rfl⟩
            · rw [pe_R_same]
              have e1 : pe_R (pe_wR σ2 (C + 177) D σ.1) σ.1 1 = σ.1 + 1 := by rw [pe_R_ner (by omega)]; exact r21
              unfold pg_Rw
              rw [e1]
              refine ⟨⟨by show pe_K σ2 σ.1 = 6; rw [K2, if_neg (by omega), if_pos rfl], i20⟩, ⟨by show pe_K σ2 _ = 10; rw [K2, if_pos rfl], ?_, by omega⟩, fun i hi => ?_⟩
              · show pe_L σ2 _ = _
                rw [L2, if_pos rfl, List.length_replicate]; omega
              · show pe_I σ2 _ _ = _
                rw [i2A]
                have hi : i < (List.replicate n.toNat (0 : Int)).length := hi
                rw [List.getD_eq_getElem?_getD, List.getElem?_eq_getElem hi, List.getElem_replicate]
                rfl
            · rw [pe_R_same, pe_R_ner (by omega), r21]
              exact Or.inr rfl
            · rw [pe_R_same, pe_R_ner (by omega), r21]
              have := (hG.2.1.2.1 _ ((hG.S.1 e e0 e8).2.2 h2).2.2.2).2.2
              omega
          · rw [if_pos (by omega)] at k
            refine b110_28 (k := ?_)
            exact k σ T U (pg_st.refl _) (by omega) (by omega) (fun _ q => Or.inl q) (fun _ q => Or.inl q) hG
        · refine b110_22 (k := ?_)
          exact hno (by omega)
  · refine b110_4 (k1 := fun _ => ?_) (k2 := fun r => absurd rfl r)
    refine b110_22 (k := ?_)
    exact hno (by omega)
/-- a row's contents have changed -/
theorem pg_G.cell (g : pg_G C T U σ a im h) (hw : pg_W a im h) (hW : ¬ pa_W h D < 0) (hn : τ.1 = σ.1) (hs : ∀ x, x ≠ pe_R σ (pe_R σ (C + 177) D) 1 → pg_same σ τ x) (hA : pe_K τ (pe_R σ (pe_R σ (C + 177) D) 1) = pe_K σ (pe_R σ (pe_R σ (C + 177) D) 1) ∧ pe_L τ (pe_R σ (pe_R σ (C + 177) D) 1) = pe_L σ (pe_R σ (pe_R σ (C + 177) D) 1)) {l' : List Int} (hl : l'.length = (h D).2.2.length) (hI : ∀ i : Nat, i < l'.length → pe_I τ (pe_R σ (pe_R σ (C + 177) D) 1) i = l'.getD i 0) : pg_G C T U τ a im (pa_shw h D (2, (h D).2.1, l')) := by
  obtain ⟨r1, r2, r3, r4, r5, r6⟩ := g.S.row hW
  have h2 := (pa_W_0 hW).2.1
  obtain ⟨u1, u2, u3⟩ := g.2.1.2.1 _ r4
  have s6 := hs (C + 176) (fun e => u1 (by rw [← e]; exact ⟨by omega, by omega⟩))
  have s7 := hs (C + 177) (fun e => u1 (by rw [← e]; exact ⟨by omega, by omega⟩))
  have sP := hs _ (fun e => u2 (by rw [← e]; exact r3))
  have b1 := ((g.S.1 D r5 r6).2.2 h2).1
  refine g.shelf (Y := fun y => y = pe_R σ (pe_R σ (C + 177) D) 1) hw (by omega) (fun y hy => Or.inr (Or.inr (by rw [hy]; exact r4))) (fun y hy hy2 => hs y hy2) (fun r hr => ?_) (fun _ q => q) (fun _ q => Or.inl q) (fun _ q => q) (fun _ q => Or.inl q) (fun y hy => (g.2.1.2.1 y hy).2.1) (fun e e0 e8 he he2 q => ?_) ⟨fun q => (by cases q), fun q => (by cases q), fun _ => ?_⟩ (fun _ e e0 e8 he he2 => ?_)
  · rcases hr with e | e
    · rw [e]; exact ⟨s6.1, s6.2.1, fun j _ => (s6.2.2 j).2⟩
    · rw [e]; exact ⟨s7.1, s7.2.1, fun j _ => (s7.2.2 j).2⟩
  · exact g.S.2 e D e0 e8 r5 r6 he he2 h2 q
  · unfold pg_Rw
    rw [(s6.2.2 D).2, (s7.2.2 D).2, (sP.2.2 1).2]
    obtain ⟨⟨q1, q2⟩, ⟨q3, q4, q6⟩, q5⟩ := r1
    refine ⟨b1, ⟨r2, r3⟩, ⟨⟨by rw [sP.1]; exact q1, by rw [(sP.2.2 0).1]; exact q2⟩, ⟨by rw [hA.1]; exact q3, by rw [hA.2, q4]; show _ = (l'.length : Int); rw [hl], q6⟩, hI⟩, r4⟩
  · rw [(s7.2.2 D).2, (sP.2.2 1).2]
    exact fun q => g.S.2 D e r5 r6 e0 e8 (by omega) h2 he2 q
theorem pg_st_U {A : Nat} (q : U A) (hn : τ.1 = σ.1 ∧ τ.2.1 = σ.2.1) (hs : ∀ x, x ≠ A → pg_same σ τ x) : pg_st C U σ τ := ⟨⟨by rw [hn.1]; exact Nat.le_refl _, by rw [hn.2]; exact Nat.le_refl _⟩, fun x _ _ h2 => hs x (fun e => h2 (by rw [e]; exact q))⟩
/-- put -/
theorem k111 {v : Int} (hG : pg_G C T U σ a im h) (hw : pg_W a im h) (hD : -2147483648 ≤ D ∧ D < 2147483648) (hi : -2147483648 ≤ i ∧ i < 2147483648) (hv : -2147483648 ≤ v ∧ v < 2147483648) (k : ∀ σ2, pg_st C U σ σ2 → σ2.1 = σ.1 → σ2.2.1 = σ.2.1 → pg_G C T U σ2 a im (pa_doPut h D i v).1 → Φ (some (.inl (pa_doPut h D i v).2)) σ2) : pe_M (d + 3) 111 [.inr (.inr C), .inl D, .inl i, .inl v] σ Φ := by
  have hF := hG.F
  have hWr := pa_W_r h D
  unfold pa_doPut at k
  refine pe_M_of ck111 (Nat.le_of_ble_eq_true rfl) ?_
  refine b111_0 (k := ?_)
  refine pe_M.up (k119 (d := 0) hF hG.S hw.2.2 hD ?_) (by omega)
  by_cases hW : pa_W h D < 0
  · rw [if_pos hW] at k
    refine b111_5 (k1 := fun r => by omega) (k2 := fun _ => ?_)
    refine b111_12 (k := ?_)
    exact k σ (pg_st.refl _) rfl rfl hG
  · rw [if_neg hW] at k
    obtain ⟨r1, r2, r3, r4, r5, r6⟩ := hG.S.row hW
    obtain ⟨w1, w2, w3⟩ := hw.row hW
    have hK := r1.1.1
    refine b111_5 (k1 := fun _ => ?_) (k2 := fun r => by omega)
    refine b111_15 (k := ?_)
    refine pe_M.up (k58 (d := 0) r1 w2 hi (fun i0 i1 => ?_) (fun q => ?_)) (by omega)
    · rw [if_neg (by omega)] at k
      refine b111_25 (k1 := fun _ => ?_) (k2 := fun r => by omega)
      refine b111_31 (k := ?_)
      refine pe_M.up (k61 (d := 0) r1 w1 w2 i0 i1 hv ?_) (by omega)
      refine b111_42 (k := ?_)
      refine k _ (pg_st_U r4 ⟨rfl, rfl⟩ (fun x hx => pg_same_wI hx)) rfl rfl (hG.cell (τ := pe_wI σ (pe_R σ (pe_R σ (C + 177) D) 1) i (pa_nar v (h D).2.1.1)) (l' := (h D).2.2.set i.toNat (pa_nar v (h D).2.1.1)) hw hW rfl (fun x hx => pg_same_wI hx) ⟨rfl, rfl⟩ (by simp) (fun j hj => ?_))
      rw [List.length_set] at hj
      rw [pa_getD_set _ _ _ _ (by omega)]
      by_cases e : j = i.toNat
      · rw [if_pos e, show ((j : Nat) : Int) = i by omega]
        exact pe_I_same
      · rw [if_neg e, pe_I_nej (by omega)]
        exact r1.2.2 j hj
    · rw [if_pos q] at k
      refine b111_25 (k1 := fun r => by omega) (k2 := fun _ => ?_)
      refine b111_28 (k := ?_)
      exact k σ (pg_st.refl _) rfl rfl hG
end

