/-! THE CLASS: text -/
section
variable {d C B P X Q : Nat} {Φ : Option pe_V → pe_H → Prop} {T T' U U' : Nat → Prop} {σ σ' τ σ1 σ2 : pe_H} {c i x D n p z j k0 : Int} {l : List Int} {a b s t : pa_M} {im : Option pa_M} {h : Int → pa_Sh} {g : pa_P}
theorem pg_Tx_sm (hX : pg_Tx σ X P Q l) (sX : pg_same σ σ2 X) (sP : pg_same σ σ2 P) (sQ : pg_same σ σ2 Q) (sR : pg_same σ σ2 (pe_R σ P 1)) : pg_Tx σ2 X P Q l := by
  obtain ⟨⟨a1, a2, a3⟩, ⟨b1, b2, b3⟩, hR⟩ := hX
  exact ⟨⟨by rw [sX.1]; exact a1, by rw [(sX.2.2 0).2]; exact a2, by rw [(sX.2.2 1).2]; exact a3⟩, ⟨by rw [sQ.1]; exact b1, by rw [sQ.2.1]; exact b2, b3⟩, pg_Rw_sm sP sR hR⟩
/-- a program put into a machine -/
theorem pk_RM_prog {P0 : Nat} (hM : pk_RM B T σ s) (hw9 : pa_wf9 s) (p0 : 0 ≤ p) (p5 : p < 5) (hP : pk_RPr T σ P0 g) : pk_RM B T (pe_wR σ (B + 1) p P0) (pa_prog s p g) := by
  obtain ⟨w, n, ⟨a1, a2, a3, a4, a5, a6, a7⟩, hn⟩ := hM
  have hz : ∀ x, x ≠ B + 1 → pg_same σ (pe_wR σ (B + 1) p P0) x := fun x hx => pg_same_wR hx
  have hT : ∀ x, T x → pg_same σ (pe_wR σ (B + 1) p P0) x := fun x hx => hz x (fun e => a2 x hx (by rw [e]; unfold pk_Z; omega))
  have h0 : pk_RM B T (pe_wR σ (B + 1) p P0) (pa_prog s p g) ↔ True := by
    refine ⟨fun _ => trivial, fun _ => ⟨w, n, ⟨?_, a2, a3, a4, fun c c0 c1 => ?_, fun q q0 q5 => ?_, fun ch c0 c3 => ?_⟩, hn⟩⟩
    · obtain ⟨m1, m2, m3, m4, m5⟩ := a1
      refine ⟨m1, ?_, fun i i0 i8 => ?_, fun i i0 i3 => ?_, fun i i0 i3 => ?_⟩
      · obtain ⟨⟨b1, b2, b3⟩, r⟩ := m2
        refine ⟨⟨?_, b2, b3⟩, ?_⟩
        · rw [pe_R_ner (by omega)]; exact b1
        · have e : ∀ j, pe_R (pe_wR σ (B + 1) p P0) B j = pe_R σ B j := fun j => pe_R_ner (by omega)
          simp only [e]
          exact r
      · obtain ⟨b1, b2⟩ := m3 i i0 i8
        exact ⟨by rw [pe_R_ner (by omega)]; exact b1, pk_Fo_sm (fun x x0 x1 => hz x (by unfold pk_c at x0; omega)) b2⟩
      · obtain ⟨b1, b2⟩ := m4 i i0 i3
        exact ⟨by rw [pe_R_ner (by omega)]; exact b1, pk_Fq_sm (hz _ (by unfold pk_q; omega)) (hz _ (by unfold pk_q; omega)) b2⟩
      · obtain ⟨b1, b2⟩ := m5 i i0 i3
        exact ⟨by rw [pe_R_ner (by omega)]; exact b1, pk_Fq_sm (hz _ (by unfold pk_g; omega)) (hz _ (by unfold pk_g; omega)) b2⟩
    · obtain ⟨⟨b0, b8, b9, b10, b11⟩, c2, c3, c4⟩ := a5 c c0 c1
      have zc : ∀ x, pk_c B c ≤ x → x ≠ B + 1 := fun x x0 => by unfold pk_c at x0; omega
      have er : pe_R (pe_wR σ (B + 1) p P0) (pk_c B c) 1 = pe_R σ (pk_c B c) 1 := pe_R_ner (zc _ (Nat.le_refl _))
      refine ⟨⟨b0, by rw [er]; exact b8, by rw [er]; exact b9, by rw [er]; exact b10, by rw [er]; exact b11⟩, c2, c3, pk_RFs_sm (m := 6) (fun i hi j => (hz _ (zc _ (by unfold pk_f; omega))).2.2 j) hT (fun _ q => q) _ _ (hw9.2 c c0 c1) c4⟩
    · show pk_RPr T _ _ (if q = p then g else s.2.2.1 q)
      by_cases e : q = p
      · rw [if_pos e, e, pe_R_same]
        exact pk_RPr_sm hT (fun _ q => q) hP
      · rw [if_neg e, pe_R_nej e]
        exact pk_RPr_sm hT (fun _ q => q) (a6 q q0 q5)
    · obtain ⟨b1, b2⟩ := a7 ch c0 c3
      exact ⟨pk_RQ_keep rfl (fun _ => rfl) b1, pk_RQ_keep rfl (fun _ => rfl) b2⟩
  exact h0.mpr trivial
theorem pg_mZ {C y : Nat} (h : pk_Z (pk_m C 0) y) : pg_Z C y := Or.inr (Or.inr (Or.inr (Or.inr ⟨0, by decide, by decide, h⟩)))
/-- a text on the way: what it rests on -/
def pg_tx (C : Nat) (T U : Nat → Prop) (σ : pe_H) (a : pa_M) (im : Option pa_M) (h : Int → pa_Sh) (X P Q : Nat) (l : List Int) : Prop := pg_G C T U σ a im h ∧ pg_Tx σ X P Q l ∧ (X < σ.1 ∧ P < σ.1 ∧ Q < σ.1 ∧ pe_R σ P 1 < σ.1) ∧ (X ≠ Q ∧ P ≠ Q ∧ pe_R σ P 1 ≠ Q) ∧ (¬ pg_X C X ∧ ¬ pg_Z C P ∧ ¬ pg_X C Q ∧ ¬ pg_X C (pe_R σ P 1)) ∧ ¬ T Q ∧ ¬ U Q
/-- a statement's doing: at most two objects, 18 slots; only the class's cells and Q's -/
def pg_ts (C : Nat) (Q : Nat) (T T' : Nat → Prop) (σ σ2 : pe_H) : Prop := (σ.1 ≤ σ2.1 ∧ σ2.1 ≤ σ.1 + 2 ∧ σ.2.1 ≤ σ2.2.1 ∧ σ2.2.1 ≤ σ.2.1 + 18) ∧ (∀ y, y < σ.1 → ¬ pg_Z C y → y ≠ Q → pg_same σ σ2 y) ∧ (∀ x, T x → T' x) ∧ ∀ x, T' x → T x ∨ (σ.1 ≤ x ∧ x < σ2.1)
theorem pg_tx.step (q : pg_tx C T U σ a im h X P Q l) (ts : pg_ts C Q T T' σ σ2) (g2 : pg_G C T' U σ2 a im h) (t2 : pg_Tx σ2 X P Q l) : pg_tx C T' U σ2 a im h X P Q l := by
  obtain ⟨q1, q2, ⟨n1, n2, n3, n4⟩, ⟨e1, e2, e3⟩, ⟨x1, x2, x3, x4⟩, tq, uq⟩ := q
  obtain ⟨⟨c1, c2, c3, c4⟩, hs, hT, hT'⟩ := ts
  have sP := hs P n2 x2 e2
  have er := (sP.2.2 1).2
  refine ⟨g2, t2, ⟨by omega, by omega, by omega, by rw [er]; omega⟩, ⟨e1, e2, by rw [er]; exact e3⟩, ⟨x1, x2, x3, by rw [er]; exact x4⟩, fun w => ?_, uq⟩
  rcases hT' Q w with v | v
  · exact tq v
  · omega
/-- the mind alone has changed -/
theorem pg_tx.mind (q : pg_tx C T U σ a im h X P Q l) (hw : pg_W a im h) (hf : pk_fr (pk_Z (pk_m C 0)) σ σ2) (hm : pk_Fm (pk_m C 0) σ2) : pg_tx C T U σ2 a im h X P Q l ∧ pg_ts C Q T T σ σ2 := by
  have hX : ∀ y, ¬ pg_Z C y → pg_same σ σ2 y := fun y hy => hf.same (fun w => hy (pg_mZ w))
  have ts : pg_ts C Q T T σ σ2 := ⟨⟨by rw [hf.1.1]; exact Nat.le_refl _, by rw [hf.1.1]; omega, by rw [hf.1.2.1]; exact Nat.le_refl _, by rw [hf.1.2.1]; omega⟩, fun y _ hy _ => hX y hy, fun _ w => w, fun _ w => Or.inl w⟩
  refine ⟨q.step ts (q.1.mind hw (by decide) (by decide) hf hm) ?_, ts⟩
  obtain ⟨q1, q2, -, -, ⟨x1, x2, x3, x4⟩, -⟩ := q
  exact pg_Tx_sm q2 (hX X (fun w => x1 (pg_Z_in w))) (hX P x2) (hX Q (fun w => x3 (pg_Z_in w))) (hX _ (fun w => x4 (pg_Z_in w)))
/-- areRoundsDone -/
theorem k78 {o0 : Nat} (hM : pk_RM B T σ s) (hs : pa_wf s) (h6 : 0 ≤ s.1 6 ∧ s.1 6 ≤ 999) (hn : 0 ≤ n ∧ n ≤ 999) (k0 : ¬ ((1 ≤ n ∧ n ≤ 60) ∧ s.1 6 + n ≤ 999) → Φ (some (.inl 0)) σ) (k1 : ((1 ≤ n ∧ n ≤ 60) ∧ s.1 6 + n ≤ 999) → ∀ σ2, pk_fr (pk_Z B) σ σ2 → pk_RM B T σ2 (pa_rounds n.toNat s) → Φ (some (.inl 1)) σ2) : pe_M (d + 14) 78 [.inr (.inr o0), .inl n, .inr (.inr B)] σ Φ := by
  have hF := hM.F
  have e6 := hM.cnt.2.2
  have loop : ∀ (m : Nat) (i : Int) (o0 : Option pe_V) (σ1 : pe_H) (t : pa_M), i + m = n → 0 ≤ i → pk_fr (pk_Z B) σ σ1 → pk_RM B T σ1 t → pa_wf t → (∀ σ2, pk_fr (pk_Z B) σ σ2 → pk_RM B T σ2 (pa_rounds m t) → Φ (some (.inl 1)) σ2) → pe_X (d + 13) 78 (27, [o0, some (.inl n), some (.inr (.inr B)), some (.inl i)], [], σ1) Φ := by
    intro m
    induction m with
    | zero =>
      intro i o0 σ1 t hi hi0 f1 m1 w1 kk
      have hF1 := m1.F
      refine b78_27 (k1 := fun _ => ?_) (k2 := fun r => by omega)
      refine b78_43 (k := ?_)
      exact kk σ1 f1 m1
    | succ m ih =>
      intro i o0 σ1 t hi hi0 f1 m1 w1 kk
      have hF1 := m1.F
      refine b78_27 (k1 := fun r => by omega) (k2 := fun _ => ?_)
      refine b78_32 (k := ?_)
      refine pe_M.up (k28 (d := 0) m1 w1 (fun σ2 e1 e2 e3 => ?_)) (by omega)
      have hF2 := e3.F
      refine b78_36 (k := ?_)
      exact ih (i + 1) _ σ2 _ (by omega) (by omega) (pk_fr_trans f1 (pk_fr_mono e1 pk_Zb_Z)) e3 (pa_round_wf w1).1 kk
  refine pe_M_of ck78 (Nat.le_of_ble_eq_true rfl) ?_
  refine b78_0 (k1 := fun r1 => ?_) (k2 := fun r1 => ?_)
  · refine b78_23 (k := ?_)
    exact k0 (by omega)
  · refine b78_5 (k1 := fun r2 => ?_) (k2 := fun r2 => ?_)
    · refine b78_23 (k := ?_)
      exact k0 (by omega)
    · refine b78_11 (k1 := fun r3 => ?_) (k2 := fun r3 => ?_)
      · refine b78_25 (k := ?_)
        exact loop n.toNat 0 _ σ s (by omega) (by decide) (pk_fr_refl _ _) hM hs (k1 (by omega))
      · refine b78_23 (k := ?_)
        exact k0 (by omega)
/-- isProgramDone -/
theorem k75 (hw : pg_W a im h) (q : pg_tx C T U σ a im h X P Q l) (hl : pg_By l) (hM : pk_RM (pk_m C 0) T σ s) (hs : pa_wf s) (hj : 0 ≤ k0 ∧ k0 ≤ 100) (hg : 0 ≤ pt_stmt l k0) (h112 : pt_at l k0 = 112)
    (kn : ∀ σ2, pt_do l k0 s = none → pg_ts C Q T T σ σ2 → pg_G C T U σ2 a im h → Φ (some (.inl 0)) σ2)
    (ky : ∀ σ2 T' s', pt_do l k0 s = some s' → pg_ts C Q T T' σ σ2 → pg_tx C T' U σ2 a im h X P Q l → pk_RM (pk_m C 0) T' σ2 s' → Φ (some (.inl 1)) σ2) : pe_M (d + 5) 75 [.inr (.inr X), .inl k0, .inr (.inr (pk_m C 0))] σ Φ := by
  have q0 := q
  obtain ⟨q1, hX, ⟨n1, n2, n3, n4⟩, ⟨e1, e2, e3⟩, ⟨x1, x2, x3, x4⟩, tq, uq⟩ := q
  have hK := hX.1.1
  have hm := hM.F
  obtain ⟨-, hd1, -, -⟩ := pt_stmt_ok hj.1 hg
  have hpe : 0 ≤ pt_pend l 101 (k0 + 2) := by
    unfold pt_stmt at hg
    rw [if_pos h112, if_pos hd1] at hg
    exact hg
  have hdb : 0 ≤ pt_d l (k0 + 1) ∧ pt_d l (k0 + 1) ≤ 9 := by
    have := hd1.1
    have := hd1.2
    unfold pt_d
    omega
  have hB : ∀ y, pk_Z (pk_m C 0) y → y ≠ Q := fun y hy e => x3 (by rw [← e]; exact pg_mX (by decide) (by decide) y hy)
  have hCn := q1.2.1.2.2
  have hBl : ∀ y, pk_Z (pk_m C 0) y → y < σ.1 := fun y hy => by have := pg_mX (C := C) (i := 0) (by decide) (by decide) y hy; unfold pg_X at this; omega
  have hdo : pt_do l k0 s = if pt_d l (k0 + 1) < 5 ∧ (pt_steps l 101 (k0 + 2)).length ≤ 16 ∧ pt_fs (pt_steps l 101 (k0 + 2)) ≤ 1 then some (pa_prog s (pt_d l (k0 + 1)) (pt_steps l 101 (k0 + 2))) else none := by
    unfold pt_do
    rw [if_pos h112]
  have hTl : ∀ y, T y → y < σ.1 := fun y hy => (q1.2.1.1 y hy).2
  have hUl : ∀ y, U y → y < σ.1 := fun y hy => (q1.2.1.2.1 y hy).2.2
  refine pe_M_of ck75 (Nat.le_of_ble_eq_true rfl) ?_
  refine b75_0 (k := ?_)
  refine pe_M.up (k72 (d := 0) hX hl (by omega) ?_) (by omega)
  refine b75_7 (k := ?_)
  refine k76 (d := d) hX hl hj ⟨n1, n2, n3, n4⟩ ⟨e1, e2, e3⟩ hpe (fun σ2 m1 m2 m3 m4 m5 => ?_) (fun σ2 m1 m2 m3 m4 m5 m6 m7 => ?_)
  · have g2 : pg_G C T U σ2 a im h := q1.sm hw (by omega) (fun y hy => m3 y (by
      rcases hy with w | w | w
      · intro e; rw [e] at w; exact x3 w
      · intro e; rw [e] at w; exact tq w
      · intro e; rw [e] at w; exact uq w))
    have hm2 : pk_Fm (pk_m C 0) σ2 := pk_Fm_sm (fun y hy => m3 y (hB y hy)) hm
    have ts : pg_ts C Q T T σ σ2 := ⟨⟨by omega, by omega, by omega, by omega⟩, fun y _ _ hy => m3 y hy, fun _ w => w, fun _ w => Or.inl w⟩
    have hnone : pt_do l k0 s = none := by rw [hdo, if_neg (fun w => m5 w.2)]
    refine b75_15 (k1 := fun r => by omega) (k2 := fun _ => ?_)
    refine b75_21 (k1 := fun r => ?_) (k2 := fun r => ?_)
    · refine b75_31 (k := ?_)
      exact kn σ2 hnone ts g2
    · refine b75_26 (k1 := fun r => by omega) (k2 := fun _ => ?_)
      refine b75_31 (k := ?_)
      exact kn σ2 hnone ts g2
  · have hs2 : ∀ y, pg_X C y ∨ T y ∨ U y → pg_same σ σ2 y := fun y hy => m3 y (by
      rcases hy with w | w | w
      · unfold pg_X at w; omega
      · exact hTl y w
      · exact hUl y w) (by
      rcases hy with w | w | w
      · intro e; rw [e] at w; exact x3 w
      · intro e; rw [e] at w; exact tq w
      · intro e; rw [e] at w; exact uq w)
    have g2 : pg_G C T U σ2 a im h := q1.sm hw (by omega) hs2
    have hm2 : pk_Fm (pk_m C 0) σ2 := pk_Fm_sm (fun y hy => hs2 y (Or.inl (pg_mX (by decide) (by decide) y hy))) hm
    have ts : pg_ts C Q T T σ σ2 := ⟨⟨by omega, by omega, m2.1, by omega⟩, fun y hy _ hyQ => m3 y hy hyQ, fun _ w => w, fun _ w => Or.inl w⟩
    refine b75_15 (k1 := fun r => by omega) (k2 := fun _ => ?_)
    refine b75_21 (k1 := fun r => ?_) (k2 := fun r => ?_)
    · refine b75_31 (k := ?_)
      exact kn σ2 (by rw [hdo, if_neg (fun w => by omega)]) ts g2
    · refine b75_26 (k1 := fun _ => ?_) (k2 := fun r => by omega)
      have hK4 : pe_K σ2 σ.1 = 4 := (m7 (fun _ => True) trivial trivial).2.1
      refine b75_33 (h0 := Or.inr (by rw [hK4]; decide)) (h1 := by omega) (h2 := by omega) (k := ?_)
      have hT' : ∀ y, (T y ∨ y = σ.1 ∨ y = σ.1 + 1) → ¬ pg_Z C y ∧ ¬ U y ∧ y < σ2.1 := fun y hy => by
        rcases hy with w | w
        · have := hTl y w
          exact ⟨q1.TZ w, fun v => (q1.2.1.2.1 y v).2.1 w, by omega⟩
        · refine ⟨fun v => by have := pg_Z_in v; omega, fun v => by have := hUl y v; omega, by omega⟩
      have g3 : pg_G C (fun y => T y ∨ y = σ.1 ∨ y = σ.1 + 1) U σ2 a im h := g2.more hw (fun _ w => Or.inl w) hT'
      have mm2 : pk_RM (pk_m C 0) (fun y => T y ∨ y = σ.1 ∨ y = σ.1 + 1) σ2 s := pk_RM_sm hM hs.1.w9 (fun y hy => hs2 y (Or.inl (pg_mX (by decide) (by decide) y hy))) (fun y hy => hs2 y (Or.inr (Or.inl hy))) (fun _ w => Or.inl w) (fun y hy w => (hT' y hy).1 (Or.inr (Or.inr (Or.inr (Or.inr ⟨0, by decide, by decide, w⟩)))))
      have mm3 := pk_RM_prog (p := pt_d l (k0 + 1)) mm2 hs.1.w9 hdb.1 (by omega) (m7 (fun y => T y ∨ y = σ.1 ∨ y = σ.1 + 1) (Or.inr (Or.inl rfl)) (Or.inr (Or.inr rfl)))
      have hfr : pk_fr (pk_Z (pk_m C 0)) σ2 (pe_wR σ2 (pk_m C 0 + 1) (pt_d l (k0 + 1)) σ.1) := pk_fr_wR (by unfold pk_Z; omega)
      have g4 := g3.mind hw (by decide) (by decide) hfr mm3.F
      have ts2 : pg_ts C Q T (fun y => T y ∨ y = σ.1 ∨ y = σ.1 + 1) σ (pe_wR σ2 (pk_m C 0 + 1) (pt_d l (k0 + 1)) σ.1) := ⟨⟨ts.1.1, ts.1.2.1, ts.1.2.2.1, ts.1.2.2.2⟩, fun y hy hyX hyQ => (m3 y hy hyQ).trans (hfr.same (fun w => hyX (pg_mZ w))), fun _ w => Or.inl w, fun y w => w.elim Or.inl (fun v => Or.inr ⟨by omega, by show y < σ2.1; omega⟩)⟩
      have hX4 : ∀ y, ¬ pg_Z C y → pg_same σ2 (pe_wR σ2 (pk_m C 0 + 1) (pt_d l (k0 + 1)) σ.1) y := fun y hy => hfr.same (fun w => hy (pg_mZ w))
      have er : pe_R σ2 P 1 = pe_R σ P 1 := ((m3 P n2 e2).2.2 1).2
      exact ky _ _ _ (by rw [hdo, if_pos ⟨by omega, m5, m6⟩]) ts2 (q0.step ts2 g4 (pg_Tx_sm m4 (hX4 X (fun w => x1 (pg_Z_in w))) (hX4 P x2) (hX4 Q (fun w => x3 (pg_Z_in w))) (hX4 _ (by rw [er]; exact fun w => x4 (pg_Z_in w))))) mm3
/-- isComingDone -/
theorem k77 (hw : pg_W a im h) (q : pg_tx C T U σ a im h X P Q l) (hl : pg_By l) (hM : pk_RM (pk_m C 0) T σ s) (hs : pa_wf s) (hj : 0 ≤ k0 ∧ k0 ≤ 100) (hg : 0 ≤ pt_stmt l k0) (h99 : pt_at l k0 = 99)
    (kn : ∀ σ2 T', pt_do l k0 s = none → pg_ts C Q T T' σ σ2 → pg_G C T' U σ2 a im h → Φ (some (.inl 0)) σ2)
    (ky : ∀ σ2 T' s', pt_do l k0 s = some s' → pg_ts C Q T T' σ σ2 → pg_tx C T' U σ2 a im h X P Q l → pk_RM (pk_m C 0) T' σ2 s' → Φ (some (.inl 1)) σ2) : pe_M (d + 5) 77 [.inr (.inr X), .inl k0, .inr (.inr (pk_m C 0))] σ Φ := by
  have q0 := q
  obtain ⟨q1, hX, ⟨n1, n2, n3, n4⟩, ⟨e1, e2, e3⟩, ⟨x1, x2, x3, x4⟩, tq, uq⟩ := q
  have hK := hX.1.1
  have hm := hM.F
  obtain ⟨-, hd1, hd23, -⟩ := pt_stmt_ok hj.1 hg
  obtain ⟨hd2, hd3⟩ := hd23 (Or.inl h99)
  have hdb : (0 ≤ pt_d l (k0 + 1) ∧ pt_d l (k0 + 1) ≤ 9) ∧ (0 ≤ pt_d l (k0 + 2) ∧ pt_d l (k0 + 2) ≤ 9) ∧ 0 ≤ pt_d l (k0 + 3) ∧ pt_d l (k0 + 3) ≤ 9 := by
    have := hd1.1
    have := hd1.2
    have := hd2.1
    have := hd2.2
    have := hd3.1
    have := hd3.2
    unfold pt_d
    omega
  have hCn := q1.2.1.2.2
  have hdo : pt_do l k0 s = if pt_d l (k0 + 1) < 5 ∧ pt_d l (k0 + 2) ≤ 5 ∧ s.1 4 < 8 then some (pa_more s (pt_d l (k0 + 1)) (pt_d l (k0 + 2)) (pt_d l (k0 + 3))) else none := by
    unfold pt_do
    rw [h99, if_neg (by decide), if_pos rfl]
  have ts0 : pg_ts C Q T T σ σ := ⟨⟨by omega, by omega, by omega, by omega⟩, fun y _ _ _ => pg_same.refl _ _, fun _ w => w, fun _ w => Or.inl w⟩
  have hTl : ∀ y, T y → y < σ.1 := fun y hy => (q1.2.1.1 y hy).2
  have hUl : ∀ y, U y → y < σ.1 := fun y hy => (q1.2.1.2.1 y hy).2.2
  refine pe_M_of ck77 (Nat.le_of_ble_eq_true rfl) ?_
  refine b77_0 (k := ?_)
  refine pe_M.up (k72 (d := 0) hX hl (by omega) ?_) (by omega)
  refine b77_7 (k := ?_)
  refine pe_M.up (k72 (d := 0) hX hl (by omega) ?_) (by omega)
  refine b77_15 (k1 := fun r1 => ?_) (k2 := fun r1 => ?_)
  · refine b77_28 (k := ?_)
    exact kn σ T (by rw [hdo, if_neg (by omega)]) ts0 q1
  · refine b77_22 (k1 := fun r2 => ?_) (k2 := fun r2 => ?_)
    · have sn : ∀ y, y < σ.1 → pg_same σ (pe_new σ 3 0 2) y := fun y hy => pg_same_new hy
      have hX1 : pg_Tx (pe_new σ 3 0 2) X P Q l := pg_Tx_sm hX (sn X n1) (sn P n2) (sn Q n3) (sn _ n4)
      have np : pe_n σ = σ.1 := rfl
      refine b77_30 (h0 := hX1.1.1) (k := ?_)
      rw [np]
      refine pe_M.up (k72 (d := 0) hX1 hl (by omega) ?_) (by omega)
      have hmn : pk_Fm (pk_m C 0) (pe_new σ 3 0 2) := pk_Fm_sm (fun y hy => sn y (by have := pg_mX (C := C) (i := 0) (by decide) (by decide) y hy; unfold pg_X at this; omega)) hm
      refine b77_45 (f_b0 := hmn) (h0 := by omega) (k := ?_)
      refine pe_M.up (d := 1) (pe_M_of (d := 0) ck41 (Nat.le_of_ble_eq_true rfl) ?_) (by omega)
      have kP : pe_K (pe_new σ 3 0 2) σ.1 = 3 := if_pos rfl
      refine b41_0 (h0 := by omega) (h1 := kP) (k := ?_)
      generalize hσ2 : pe_wI (pe_wI (pe_new σ 3 0 2) σ.1 0 (pt_d l (k0 + 2))) σ.1 1 (pt_d l (k0 + 3)) = σ2
      have n2' : σ2.1 = σ.1 + 1 := by rw [← hσ2]; rfl
      have u2' : σ2.2.1 = σ.2.1 + 2 := by rw [← hσ2]; rfl
      have s2 : ∀ y, y < σ.1 → pg_same σ σ2 y := fun y hy => by
        rw [← hσ2]
        exact ((sn y hy).trans (pg_same_wI (by omega))).trans (pg_same_wI (by omega))
      have k2 : pe_K σ2 σ.1 = 3 := by rw [← hσ2]; exact kP
      have i20 : pe_I σ2 σ.1 0 = pt_d l (k0 + 2) := by rw [← hσ2, pe_I_nej (by decide)]; exact pe_I_same
      have i21 : pe_I σ2 σ.1 1 = pt_d l (k0 + 3) := by rw [← hσ2]; exact pe_I_same
      clear hσ2
      have hXl : ∀ y, pg_X C y → y < σ.1 := fun y hy => by unfold pg_X at hy; omega
      have hT' : ∀ y, (T y ∨ y = σ.1) → ¬ pg_Z C y ∧ ¬ U y ∧ y < σ2.1 := fun y hy => by
        rcases hy with w | w
        · have := hTl y w
          exact ⟨q1.TZ w, fun v => (q1.2.1.2.1 y v).2.1 w, by omega⟩
        · refine ⟨fun v => by have := pg_Z_in v; omega, fun v => by have := hUl y v; omega, by omega⟩
      have g2 : pg_G C T U σ2 a im h := q1.old hw (by omega) s2
      have g3 : pg_G C (fun y => T y ∨ y = σ.1) U σ2 a im h := g2.more hw (fun _ w => Or.inl w) hT'
      have mm2 : pk_RM (pk_m C 0) (fun y => T y ∨ y = σ.1) σ2 s := pk_RM_sm hM hs.1.w9 (fun y hy => s2 y (hXl y (pg_mX (by decide) (by decide) y hy))) (fun y hy => s2 y (hTl y hy)) (fun _ w => Or.inl w) (fun y hy w => (hT' y hy).1 (Or.inr (Or.inr (Or.inr (Or.inr ⟨0, by decide, by decide, w⟩)))))
      have hm2 := mm2.F
      have ts2 : pg_ts C Q T (fun y => T y ∨ y = σ.1) σ σ2 := ⟨⟨by omega, by omega, by omega, by omega⟩, fun y hy _ _ => s2 y hy, fun _ w => Or.inl w, fun y w => w.elim Or.inl (fun v => Or.inr ⟨by omega, by omega⟩)⟩
      have hX2 : pg_Tx σ2 X P Q l := pg_Tx_sm hX (s2 X n1) (s2 P n2) (s2 Q n3) (s2 _ n4)
      have q2 := q0.step ts2 g3 hX2
      have hTP : T σ.1 ∨ σ.1 = σ.1 := Or.inr rfl
      refine b77_48 (k := ?_)
      refine pe_M.up (k24 (d := 0) mm2 hs.1 hdb.1.1 (by omega : pt_d l (k0 + 1) < 5) hTP k2 i20 i21 (fun w => ?_) (fun σ3 w f1 f2 => ?_)) (by omega)
      · refine b77_51 (k1 := fun _ => ?_) (k2 := fun r => by omega)
        refine b77_58 (k := ?_)
        refine b77_59 (k := ?_)
        exact kn σ2 _ (by rw [hdo, if_neg (by omega)]) ts2 g3
      · have f1 := pk_fr_mono f1 pk_Zs_Z
        obtain ⟨q3, ts3⟩ := q2.mind hw f1 f2.F
        have h84 := hs.1.1
        refine b77_51 (k1 := fun r => by omega) (k2 := fun _ => ?_)
        refine b77_54 (k := ?_)
        refine b77_59 (k := ?_)
        refine ky σ3 _ _ (by rw [hdo, if_pos ⟨by omega, r2, w⟩]) ⟨⟨by rw [f1.1.1]; omega, by rw [f1.1.1]; omega, by rw [f1.1.2.1]; omega, by rw [f1.1.2.1]; omega⟩, fun y hy hyX hyQ => (s2 y hy).trans (f1.same (fun v => hyX (pg_mZ v))), fun _ v => Or.inl v, fun y v => v.elim Or.inl (fun v => Or.inr ⟨by omega, by rw [f1.1.1]; omega⟩)⟩ q3 f2
    · refine b77_28 (k := ?_)
      exact kn σ T (by rw [hdo, if_neg (by omega)]) ts0 q1
/-- isDone -/
theorem k74 (hw : pg_W a im h) (q : pg_tx C T U σ a im h X P Q l) (hl : pg_By l) (hM : pk_RM (pk_m C 0) T σ s) (hs : pa_wf s) (h6 : 0 ≤ s.1 6 ∧ s.1 6 ≤ 999) (hj : 0 ≤ k0 ∧ k0 ≤ 100) (hg : 0 ≤ pt_stmt l k0)
    (kn : ∀ σ2 T', pt_do l k0 s = none → pg_ts C Q T T' σ σ2 → pg_G C T' U σ2 a im h → Φ (some (.inl 0)) σ2)
    (ky : ∀ σ2 T' s', pt_do l k0 s = some s' → pg_ts C Q T T' σ σ2 → pg_tx C T' U σ2 a im h X P Q l → pk_RM (pk_m C 0) T' σ2 s' → Φ (some (.inl 1)) σ2) : pe_M (d + 15) 74 [.inr (.inr X), .inl k0, .inr (.inr (pk_m C 0))] σ Φ := by
  have hX := q.2.1
  have hK := hX.1.1
  have hK0 := hX.K0
  have hm := hM.F
  have h84 := hs.1.1
  have e4 := hM.cnt.1
  have hok := pt_stmt_ok hj.1 hg
  have hd1 := hok.2.1
  have hdb : 0 ≤ pt_d l (k0 + 1) ∧ pt_d l (k0 + 1) ≤ 9 := by
    have := hd1.1
    have := hd1.2
    unfold pt_d
    omega
  have hat := pt_at_r hl.2 k0
  have ts0 : pg_ts C Q T T σ σ := ⟨⟨by omega, by omega, by omega, by omega⟩, fun y _ _ _ => pg_same.refl _ _, fun _ w => w, fun _ w => Or.inl w⟩
  have fail : pt_do l k0 s = none → Φ (some (.inl 0)) σ := fun e => kn σ T e ts0 q.1
  have good : ∀ s' σ2, pt_do l k0 s = some s' → pk_fr (pk_Z (pk_m C 0)) σ σ2 → pk_RM (pk_m C 0) T σ2 s' → Φ (some (.inl 1)) σ2 := fun s' σ2 e f1 f2 => by
    obtain ⟨q2, ts2⟩ := q.mind hw f1 f2.F
    exact ky σ2 T s' e ts2 q2 f2
  refine pe_M_of ck74 (Nat.le_of_ble_eq_true rfl) ?_
  refine b74_0 (k := ?_)
  refine pe_M.up (k72 (d := 0) hX hl (by omega) ?_) (by omega)
  refine b74_7 (k := ?_)
  refine pe_M.up (hX.at (d := 0) hl (by omega) ?_) (by omega)
  refine b74_16 (k0 := fun r => ?_) (k1 := fun r => ?_) (k2 := fun r => ?_) (k3 := fun r => ?_) (k4 := fun r => ?_) (kd := fun r0 r1 r2 r3 r4 => ?_)
  · refine b74_75 (k := ?_)
    refine pe_M.up (k77 (d := 0) hw q hl hM hs hj hg r (fun σ2 T' w1 w2 w3 => ?_) (fun σ2 T' s' w1 w2 w3 w4 => ?_)) (by omega)
    · refine b74_81 (k := ?_)
      exact kn σ2 T' w1 w2 w3
    · refine b74_81 (k := ?_)
      exact ky σ2 T' s' w1 w2 w3 w4
  · have hdo : pt_do l k0 s = if pt_d l (k0 + 1) < s.1 4 ∧ (s.2.1 (pt_d l (k0 + 1))).1 2 ≤ 2 then some (pa_send s (pt_d l (k0 + 1)) (pt_dd l (k0 + 2))) else none := by
      unfold pt_do
      rw [r, if_neg (by decide), if_neg (by decide), if_pos rfl]
    obtain ⟨hd2, hd3⟩ := hok.2.2.1 (Or.inr r)
    have hdd : 0 ≤ pt_dd l (k0 + 2) ∧ pt_dd l (k0 + 2) ≤ 99 := by
      have := hd2.1
      have := hd2.2
      have := hd3.1
      have := hd3.2
      unfold pt_dd pt_d
      rw [show k0 + 2 + 1 = k0 + 3 by omega]
      omega
    refine b74_82 (k1 := fun r1 => ?_) (k2 := fun r1 => ?_)
    · refine b74_102 (k := ?_)
      exact fail (by rw [hdo, if_neg (by omega)])
    · have ho : pk_Fo (pk_c (pk_m C 0) (pt_d l (k0 + 1))) σ := pk_mO hm hdb.1 (by omega)
      refine b74_90 (k := ?_)
      refine pe_M.up (k4 (d := 0) ho (hM.i hdb.1 (by omega)).2.1 (hs.1.2.2.1 _ hdb.1 (by omega)).1.2.1 (fun r2 => ?_) (fun r2 => ?_)) (by omega)
      · refine b74_99 (k1 := fun _ => ?_) (k2 := fun r => by omega)
        refine b74_104 (k := ?_)
        refine pe_M.up (k73 (d := 0) hX hl (by omega) ?_) (by omega)
        refine b74_113 (k := ?_)
        refine k25 (d := d + 1) hM hs hdb.1 (by omega) r2 (by omega) (fun σ2 f1 f2 => ?_)
        refine b74_116 (k := ?_)
        exact good _ σ2 (by rw [hdo, if_pos ⟨by omega, r2⟩]) (pk_fr_mono f1 pk_Zs_Z) f2
      · refine b74_99 (k1 := fun r => by omega) (k2 := fun _ => ?_)
        refine b74_102 (k := ?_)
        exact fail (by rw [hdo, if_neg (fun w => r2 w.2)])
  · refine b74_68 (k := ?_)
    refine pe_M.up (k75 (d := 0) hw q hl hM hs hj hg r (fun σ2 w1 w2 w3 => ?_) (fun σ2 T' s' w1 w2 w3 w4 => ?_)) (by omega)
    · refine b74_74 (k := ?_)
      exact kn σ2 T w1 w2 w3
    · refine b74_74 (k := ?_)
      exact ky σ2 T' s' w1 w2 w3 w4
  · have hdo : pt_do l k0 s = if 1 ≤ pt_d l (k0 + 1) ∧ pt_d l (k0 + 1) ≤ 8 then some (pa_wid s (pt_d l (k0 + 1))) else none := by
      unfold pt_do
      rw [r, if_neg (by decide), if_neg (by decide), if_neg (by decide), if_neg (by decide), if_pos rfl]
    refine b74_147 (k1 := fun r1 => ?_) (k2 := fun r1 => ?_)
    · refine b74_158 (k := ?_)
      exact fail (by rw [hdo, if_neg (by omega)])
    · refine b74_152 (k1 := fun r2 => ?_) (k2 := fun r2 => ?_)
      · refine b74_160 (k := ?_)
        exact good (pa_wid s (pt_d l (k0 + 1))) _ (by rw [hdo, if_pos ⟨by omega, r2⟩]) (pk_frI_wI (by unfold pk_Z; omega)).1 (pk_RM_B (j := 5) (Or.inl rfl) hM hs.1.w9)
      · refine b74_158 (k := ?_)
        exact fail (by rw [hdo, if_neg (by omega)])
  · have hdo : pt_do l k0 s = if pt_d l (k0 + 1) < s.1 4 ∧ (s.2.1 (pt_d l (k0 + 1))).1 2 < 6 then some (pa_shut s (pt_d l (k0 + 1))) else none := by
      unfold pt_do
      rw [r, if_neg (by decide), if_neg (by decide), if_neg (by decide), if_pos rfl]
    refine b74_118 (k1 := fun r1 => ?_) (k2 := fun r1 => ?_)
    · refine b74_138 (k := ?_)
      exact fail (by rw [hdo, if_neg (by omega)])
    · have ho : pk_Fo (pk_c (pk_m C 0) (pt_d l (k0 + 1))) σ := pk_mO hm hdb.1 (by omega)
      refine b74_126 (k := ?_)
      refine pe_M.up (k3 (d := 0) ho (hM.i hdb.1 (by omega)).2.1 (hs.1.2.2.1 _ hdb.1 (by omega)).1.2.1 (fun r2 => ?_) (fun r2 => ?_)) (by omega)
      · refine b74_135 (k1 := fun r => by omega) (k2 := fun _ => ?_)
        refine b74_138 (k := ?_)
        exact fail (by rw [hdo, if_neg (by omega)])
      · refine b74_135 (k1 := fun _ => ?_) (k2 := fun r => by omega)
        refine b74_140 (k := ?_)
        refine k26 (d := d + 1) hM hs hdb.1 (by omega) (by omega) (fun σ2 f1 f2 => ?_)
        refine b74_145 (k := ?_)
        exact good _ σ2 (by rw [hdo, if_pos ⟨by omega, by omega⟩]) (pk_fr_mono f1 pk_Zs_Z) f2
  · have h108 : pt_at l k0 = 108 := by
      have := hok.1
      omega
    have hdo : pt_do l k0 s = if (1 ≤ pt_dd l (k0 + 1) ∧ pt_dd l (k0 + 1) ≤ 60) ∧ s.1 6 + pt_dd l (k0 + 1) ≤ 999 then some (pa_rounds (pt_dd l (k0 + 1)).toNat s) else none := by
      unfold pt_do
      rw [h108, if_neg (by decide), if_neg (by decide), if_neg (by decide), if_neg (by decide), if_neg (by decide)]
    have hd2 := hok.2.2.2 h108
    have hdd : 0 ≤ pt_dd l (k0 + 1) ∧ pt_dd l (k0 + 1) ≤ 99 := by
      have := hd2.1
      have := hd2.2
      unfold pt_dd pt_d
      rw [show k0 + 1 + 1 = k0 + 2 by omega]
      unfold pt_d at hdb
      omega
    refine b74_167 (k := ?_)
    refine pe_M.up (k73 (d := 0) hX hl (by omega) ?_) (by omega)
    refine b74_175 (k := ?_)
    refine pe_M.up (k78 (d := 0) hM hs h6 (by omega) (fun w => ?_) (fun w σ2 f1 f2 => ?_)) (by omega)
    · refine b74_179 (k := ?_)
      exact fail (by rw [hdo, if_neg w])
    · refine b74_179 (k := ?_)
      exact good _ σ2 (by rw [hdo, if_pos w]) f1 f2
/-- the places of the statements are good -/
theorem pt_cnt_ge {l : List Int} : ∀ (f : Nat) (i k : Int), 0 ≤ k → k ≤ (l.length : Int) → 0 ≤ i → pt_cnt l f i k < 0 ∨ i ≤ pt_cnt l f i k
  | 0, i, k, _, _, hi => by unfold pt_cnt; omega
  | f + 1, i, k, h0, h1, hi => by
    unfold pt_cnt
    split
    · omega
    · split
      · rename_i q
        exact Or.inl q
      · rcases pt_stmt_r (l := l) h0 with q | q
        · omega
        · have := pt_cnt_ge f (i + 1) (pt_stmt l k) (by omega) q.2.1 (by omega)
          omega
theorem pt_cnt_b {l : List Int} {N : Int} (hl : l.length ≤ 100) (hN : N = pt_cnt l 100 0 0) : -1400 ≤ N ∧ N ≤ 100 := by
  have key : ∀ (f : Nat) (i k : Int), 0 ≤ k → k ≤ (l.length : Int) → 0 ≤ i → -1400 ≤ pt_cnt l f i k ∧ pt_cnt l f i k ≤ i + f := by
    intro f
    induction f with
    | zero => intro i k _ _ hi; unfold pt_cnt; omega
    | succ f ih =>
      intro i k h0 h1 hi
      unfold pt_cnt
      rcases pt_stmt_r (l := l) h0 with q | q
      · split
        · omega
        · rw [if_pos q.1]; omega
      · split
        · omega
        · rw [if_neg (by omega)]
          have := ih (i + 1) (pt_stmt l k) (by omega) q.2.1 (by omega)
          omega
  have := key 100 0 0 (by decide) (by omega) (by decide)
  omega
/-- text -/
theorem k80 (hG : pg_G C T U σ a im h) (hw : pg_W a im h) (hD : -2147483648 ≤ D ∧ D < 2147483648) (k : ∀ σ2 T', pg_st C U σ σ2 → σ2.1 ≤ σ.1 + 300 → σ2.2.1 ≤ σ.2.1 + 2000 → (∀ x, T' x → T x ∨ σ.1 ≤ x) → pg_G C T' U σ2 (pa_doText a h D).1 im h → Φ (some (.inl (pa_doText a h D).2)) σ2) : pe_M (d + 16) 80 [.inr (.inr C), .inl D] σ Φ := by
  have hF := hG.F
  have hCn := hG.2.1.2.2
  have hWr := pa_W_r h D
  unfold pa_doText at k
  refine pe_M_of ck80 (Nat.le_of_ble_eq_true rfl) ?_
  refine b80_0 (k := ?_)
  refine pe_M.up (k119 (d := 0) hF hG.S hw.2.2 hD ?_) (by omega)
  by_cases hW : pa_W h D < 0
  · rw [if_pos hW] at k
    refine b80_5 (k1 := fun r => by omega) (k2 := fun _ => ?_)
    refine b80_10 (k := ?_)
    exact k σ T (pg_st.refl _) (by omega) (by omega) (fun _ w => Or.inl w) hG
  · rw [if_neg hW] at k
    obtain ⟨r1, r2, r3, r4, r5, r6⟩ := hG.S.row hW
    obtain ⟨w1, w2, w3⟩ := hw.row hW
    have hK := r1.1.1
    have hK0 := r1.1.2
    refine b80_5 (k1 := fun _ => ?_) (k2 := fun r => by omega)
    refine b80_12 (k1 := fun r7 => ?_) (k2 := fun r7 => ?_)
    · rw [hK0] at r7
      rw [if_neg (by omega)] at k
      have np : pe_n σ = σ.1 := rfl
      have sn : ∀ y, y < σ.1 → pg_same σ (pe_new σ 7 0 2) y := fun y hy => pg_same_new hy
      have s7 := sn (C + 177) (by omega)
      have sC := sn C (by omega)
      have e4 : pe_R (pe_new σ 7 0 2) C 4 = C + 177 := (sC.2.2 4).2.trans (pk_sR4 hF)
      refine b80_27 (h0 := by rw [sC.1]; exact pk_sK hF) (h1 := by rw [e4, s7.1, pk_sK4 hF]; decide) (h2 := r5) (h3 := by rw [e4, s7.2.1, pk_sL4 hF]; omega) (h4 := by rw [np]; omega) (k := ?_)
      rw [e4, (s7.2.2 D).2, np]
      generalize hP : pe_R σ (C + 177) D = P at *
      generalize hl : (h D).2.2 = l at *
      rw [r7] at r1 w3
      have hPn : P < σ.1 := (hG.2.1.1 P r3).2
      have hPZ := (hG.2.1.1 P r3).1
      obtain ⟨a1, a2, a3⟩ := hG.2.1.2.1 _ r4
      have hby : pg_By l := ⟨w2, fun j hj => (w3 j hj).1 rfl⟩
      refine pe_M.up (d := 1) (pe_M_of (d := 0) ck63 (Nat.le_of_ble_eq_true rfl) ?_) (by omega)
      have kX : pe_K (pe_new σ 7 0 2) σ.1 = 7 := if_pos rfl
      have kX2 : pe_K (pe_new (pe_new σ 7 0 2) 10 16 ((16 : Int).toNat)) σ.1 = 7 := (if_neg (by show ¬ σ.1 = σ.1 + 1; omega)).trans kX
      refine b63_0 (h0 := by omega) (h1 := kX2) (h2 := kX2) (k := ?_)
      have np2 : pe_n (pe_new σ 7 0 2) = σ.1 + 1 := rfl
      rw [np2]
      generalize hσ2 : pe_wR (pe_wR (pe_new (pe_new σ 7 0 2) 10 16 ((16 : Int).toNat)) σ.1 1 (σ.1 + 1)) σ.1 0 P = σ2
      have n2 : σ2.1 = σ.1 + 2 := by rw [← hσ2]; rfl
      have u2 : σ2.2.1 = σ.2.1 + 18 := by rw [← hσ2]; rfl
      have s2 : ∀ y, y < σ.1 → pg_same σ σ2 y := fun y hy => by
        rw [← hσ2]
        exact (((sn y hy).trans (pg_same_new (by show y < σ.1 + 1; omega))).trans (pg_same_wR (by omega))).trans (pg_same_wR (by omega))
      have hX : pg_Tx σ2 σ.1 P (σ.1 + 1) l := by
        refine ⟨⟨by rw [← hσ2]; exact kX2, by rw [← hσ2]; exact pe_R_same, by rw [← hσ2, pe_R_nej (by decide)]; exact pe_R_same⟩, ⟨by rw [← hσ2]; exact if_pos rfl, by rw [← hσ2]; exact if_pos rfl, by omega⟩, pg_Rw_sm (s2 P hPn) (s2 _ a3) r1⟩
      clear hσ2
      have g2 := hG.old hw (by omega) s2
      have hF2 := g2.F
      have hK2 := hX.1.1
      have q2 : pg_tx C T U σ2 a im h σ.1 P (σ.1 + 1) l := ⟨g2, hX, ⟨by omega, by omega, by omega, by rw [((s2 P hPn).2.2 1).2]; omega⟩, ⟨by omega, by omega, by rw [((s2 P hPn).2.2 1).2]; omega⟩, ⟨fun w => by unfold pg_X at w; omega, hPZ, fun w => by unfold pg_X at w; omega, by rw [((s2 P hPn).2.2 1).2]; exact a1⟩, fun w => by have := (hG.2.1.1 _ w).2; omega, fun w => by have := (hG.2.1.2.1 _ w).2.2; omega⟩
      have st2 : pg_st C U σ σ2 := ⟨⟨by omega, by omega⟩, fun y hy _ _ => s2 y hy⟩
      refine b80_40 (k := ?_)
      refine pe_M.up (k64 (d := 0) hX hby ?_) (by omega)
      by_cases hl0 : l.length = 0
      · rw [if_pos hl0] at k ⊢
        refine b80_45 (k1 := fun r => by omega) (k2 := fun _ => ?_)
        refine b80_52 (k := ?_)
        exact k σ2 T st2 (by omega) (by omega) (fun _ w => Or.inl w) g2
      · rw [if_neg hl0] at k ⊢
        obtain ⟨N, hN⟩ : ∃ N, N = pt_cnt l 100 0 0 := ⟨_, rfl⟩
        rw [← hN] at k ⊢
        have hNb : -1400 ≤ N ∧ N ≤ 100 := pt_cnt_b hby.1 hN
        by_cases hN0 : N < 0
        · rw [if_pos hN0] at k
          refine b80_45 (k1 := fun r => by omega) (k2 := fun _ => ?_)
          refine b80_52 (k := ?_)
          exact k σ2 T st2 (by omega) (by omega) (fun _ w => Or.inl w) g2
        · rw [if_neg hN0] at k
          obtain ⟨R, hR⟩ : ∃ R, R = pt_run l N.toNat 0 a := ⟨_, rfl⟩
          rw [← hR] at k
          refine b80_45 (k1 := fun _ => ?_) (k2 := fun r => by omega)
          refine b80_55 (k := ?_)
          refine pe_M.up (k122 (d := 0) g2 hw (fun σ3 e1 e2 e3 => ?_)) (by omega)
          obtain ⟨q3, ts3⟩ := q2.mind hw e1 e3.F
          have hF3 := q3.1.F
          have hm3 := e3.F
          refine b80_59 (k := ?_)
          have loop : ∀ (o2 : Option pe_V) (m f : Nat) (i place : Int) (σi : pe_H) (T' : Nat → Prop) (s : pa_M), i + m = N → i + f = 100 → 0 ≤ i → 0 ≤ place → place ≤ (l.length : Int) → pt_cnt l f i place = N → pt_run l m place s = R → pg_tx C T' U σi a im h σ.1 P (σ.1 + 1) l → pk_RM (pk_m C 0) T' σi s → pa_wf s → (0 ≤ s.1 6 ∧ s.1 6 ≤ 999) → pg_st C U σ σi → (σi.1 : Int) ≤ σ.1 + 2 + 2 * i → (σi.2.1 : Int) ≤ σ.2.1 + 18 + 18 * i → (∀ x, T' x → T x ∨ σ.1 ≤ x) → pe_X (d + 15) 80 (67, [some (.inr (.inr C)), some (.inl D), o2, some (.inr (.inr σ.1)), some (.inl N), some (.inr (.inr (pk_m C 0))), some (.inl place), some (.inl i)], [], σi) Φ := by
            intro o2 m
            induction m with
            | zero =>
              intro f i place σi T' s hi hf hi0 hp0 hp hc hr q mi ws s6 st n3 u3 hT'
              have hFi := q.1.F
              have hmi := mi.F
              have hr : (s, (0 : Int)) = R := hr
              rw [← hr, if_neg (show ¬ ((0 : Int) < 0) by decide)] at k
              refine b80_67 (k1 := fun _ => ?_) (k2 := fun r => by omega)
              refine b80_106 (k := ?_)
              refine pe_M.up (k15 (d := 0) mi ws.1 ws.2.1 (pk_sM0 hFi) (by unfold pk_m; omega) (fun y hy w => q.1.TZ hy (Or.inr (Or.inr (Or.inl w)))) (fun σ4 f1 _ f2 => ?_)) (by omega)
              refine b80_115 (k := ?_)
              exact k σ4 T' (st.trans (pg_st_fr (U := U) (pk_fr_mono f1 pg_nX)) (fun y w => Or.inl w)) (by rw [f1.1.1]; omega) (by rw [f1.1.2.1]; omega) hT' (q.1.now hw f1 f2)
            | succ m ih =>
              intro f i place σi T' s hi hf hi0 hp0 hp hc hr q mi ws s6 st n3 u3 hT'
              have hFi := q.1.F
              have hmi := mi.F
              have hKi := q.2.1.1.1
              push_cast at hi
              cases f with
              | zero => omega
              | succ f =>
                unfold pt_cnt at hc
                have hlt : ¬ (l.length : Int) ≤ place := fun w => by
                  rw [if_pos w] at hc
                  omega
                rw [if_neg hlt] at hc
                have hsg : ¬ pt_stmt l place < 0 := fun w => by
                  rw [if_pos w] at hc
                  omega
                rw [if_neg hsg] at hc
                have hsr : place + 3 ≤ pt_stmt l place ∧ pt_stmt l place ≤ (l.length : Int) := by
                  rcases pt_stmt_r (l := l) hp0 with w | w
                  · omega
                  · exact ⟨w.1, w.2.1⟩
                have hlen := hby.1
                unfold pt_run at hr
                refine b80_67 (k1 := fun r => by omega) (k2 := fun _ => ?_)
                refine b80_74 (k := ?_)
                refine pe_M.up (k74 (d := 0) hw q hby mi ws s6 ⟨hp0, by omega⟩ (by omega) (fun σ4 T4 w1 ts g4 => ?_) (fun σ4 T4 s4 w1 ts q4 m4 => ?_)) (by omega)
                · rw [w1] at hr
                  have hr : (s, -2000 - place) = R := hr
                  rw [← hr, if_pos (by show -2000 - place < 0; omega)] at k
                  have hF4 := g4.F
                  have hm4 := pk_sMi hF4 (i := 0) (by decide) (by decide)
                  refine b80_82 (k1 := fun r => by omega) (k2 := fun _ => ?_)
                  refine b80_85 (k := ?_)
                  obtain ⟨⟨c1, c2, c3, c4⟩, c5, c6, c7⟩ := ts
                  refine k σ4 T4 (st.trans (U' := fun y => y = σ.1 + 1) ⟨⟨c1, c3⟩, fun y hy h1 h2 => c5 y hy (fun w => h1 (pg_Z_in w)) h2⟩ (fun y w => Or.inr (by omega))) (by omega) (by omega) (fun y w => ?_) g4
                  rcases c7 y w with v | v
                  · exact hT' y v
                  · have := st.1.1; omega
                · rw [w1] at hr
                  have hr : pt_run l m (pt_stmt l place) s4 = R := hr
                  have hF4 := q4.1.F
                  have hm4 := m4.F
                  have hK4 := q4.2.1.1.1
                  obtain ⟨ws4, s46⟩ := pt_do_wf hp0 (by omega) ws s6 w1
                  refine b80_82 (k1 := fun _ => ?_) (k2 := fun r => by omega)
                  refine b80_92 (k := ?_)
                  refine pe_M.up (k71 (d := 0) q4.2.1 hby ⟨hp0, by omega⟩ (by omega) ?_) (by omega)
                  refine b80_98 (k := ?_)
                  obtain ⟨⟨c1, c2, c3, c4⟩, c5, c6, c7⟩ := ts
                  refine ih f (i + 1) (pt_stmt l place) σ4 T4 s4 (by omega) (by omega) (by omega) (by omega) hsr.2 hc hr q4 m4 ws4 s46 (st.trans (U' := fun y => y = σ.1 + 1) ⟨⟨c1, c3⟩, fun y hy h1 h2 => c5 y hy (fun w => h1 (pg_Z_in w)) h2⟩ (fun y w => Or.inr (by omega))) (by omega) (by omega) (fun y w => ?_)
                  rcases c7 y w with v | v
                  · exact hT' y v
                  · have := st.1.1; omega
          exact loop _ N.toNat 100 0 0 σ3 T a (by omega) (by decide) (by decide) (by decide) (by omega) hN.symm hR.symm q3 e3 hw.1.1 hw.1.2 (st2.trans (pg_st_fr (U := U) (pk_fr_mono e1 (pg_mX (by decide) (by decide)))) (fun y w => Or.inl w)) (by rw [e1.1.1]; omega) (by rw [e1.1.2.1]; omega) (fun _ w => Or.inl w)
    · rw [hK0] at r7
      rw [if_pos r7] at k
      refine b80_24 (k := ?_)
      exact k σ T (pg_st.refl _) (by omega) (by omega) (fun _ w => Or.inl w) hG
end

