/-! THE CLASS: rows, shelves, small things -/
section
variable {d C B P : Nat} {Φ : Option pe_V → pe_H → Prop} {T U : Nat → Prop} {σ σ' : pe_H} {c i t D : Int} {l : List Int} {a s : pa_M} {im : Option pa_M} {h : Int → pa_Sh}
/-- size -/
theorem k57 (hR : pg_Rw σ P t l) (k : Φ (some (.inl (l.length : Int))) σ) : pe_M (d + 1) 57 [.inr (.inr P)] σ Φ := by
  obtain ⟨⟨b1, b2⟩, ⟨b3, b4, b6⟩, b5⟩ := hR
  refine pe_M_of ck57 (Nat.le_of_ble_eq_true rfl) ?_
  refine b57_0 (h1 := by omega) (k := ?_)
  rw [b4]; exact k
/-- has -/
theorem k58 (hR : pg_Rw σ P t l) (hl : l.length ≤ 100) (hi : -2147483648 ≤ i ∧ i < 2147483648) (k1 : 0 ≤ i → i < (l.length : Int) → Φ (some (.inl 1)) σ) (k0 : ¬ (0 ≤ i ∧ i < (l.length : Int)) → Φ (some (.inl 0)) σ) : pe_M (d + 1) 58 [.inr (.inr P), .inl i] σ Φ := by
  obtain ⟨⟨b1, b2⟩, ⟨b3, b4, b6⟩, b5⟩ := hR
  refine pe_M_of ck58 (Nat.le_of_ble_eq_true rfl) ?_
  refine b58_0 (k1 := fun r => ?_) (k2 := fun r => ?_)
  · refine b58_17 (k := ?_)
    refine b58_18 (k := ?_)
    exact k0 (by omega)
  · refine b58_4 (h1 := by omega) (k1 := fun r2 => ?_) (k2 := fun r2 => ?_)
    · refine b58_17 (k := ?_)
      refine b58_18 (k := ?_)
      exact k0 (by omega)
    · refine b58_13 (k := ?_)
      refine b58_18 (k := ?_)
      exact k1 (by omega) (by omega)
/-- at -/
theorem k60 (hR : pg_Rw σ P t l) (hl : l.length ≤ 100) (hi : -2147483648 ≤ i ∧ i < 2147483648) (k : Φ (some (.inl (pt_at l i))) σ) : pe_M (d + 2) 60 [.inr (.inr P), .inl i] σ Φ := by
  have hR0 := hR
  obtain ⟨⟨b1, b2⟩, ⟨b3, b4, b6⟩, b5⟩ := hR
  unfold pt_at at k
  refine pe_M_of ck60 (Nat.le_of_ble_eq_true rfl) ?_
  refine b60_0 (k := ?_)
  refine k58 hR0 hl hi (fun r1 r2 => ?_) (fun r => ?_)
  · refine b60_5 (k1 := fun r => by omega) (k2 := fun _ => ?_)
    refine b60_8 (k := ?_)
    refine b60_18 (k := ?_)
    rw [if_pos ⟨r1, r2⟩] at k
    have := b5 i.toNat (by omega)
    rw [show ((i.toNat : Nat) : Int) = i by omega] at this
    rw [this]
    exact k
  · refine b60_5 (k1 := fun _ => ?_) (k2 := fun r => absurd rfl r)
    refine b60_17 (k := ?_)
    refine b60_18 (k := ?_)
    rw [if_neg r] at k
    exact k
/-- become -/
theorem k61 {v : Int} (hR : pg_Rw σ P t l) (ht : 0 ≤ t ∧ t ≤ 2) (hl : l.length ≤ 100) (hi0 : 0 ≤ i) (hi1 : i < (l.length : Int)) (hv : -2147483648 ≤ v ∧ v < 2147483648) (k : Φ none (pe_wI σ (pe_R σ P 1) i (pa_nar v t))) : pe_M (d + 2) 61 [.inr (.inr P), .inl i, .inl v] σ Φ := by
  have hR0 := hR
  obtain ⟨⟨b1, b2⟩, ⟨b3, b4, b6⟩, b5⟩ := hR
  unfold pa_nar at k
  refine pe_M_of ck61 (Nat.le_of_ble_eq_true rfl) ?_
  refine b61_0 (k := ?_)
  refine k58 hR0 hl (by omega) (fun r1 r2 => ?_) (fun r => absurd ⟨hi0, hi1⟩ r)
  refine b61_5 (k1 := fun r => by omega) (k2 := fun _ => ?_)
  refine b61_8 (k1 := fun r => ?_) (k2 := fun r => ?_)
  · rw [if_neg (by omega)] at k
    refine b61_25 (k1 := fun r2 => ?_) (k2 := fun r2 => ?_)
    · rw [if_neg (by omega), pe_wi hv] at k
      refine b61_38 (k := ?_)
      refine b61_39 (h2 := by omega) (k := ?_)
      refine b61_40 (k := ?_)
      exact k
    · rw [if_pos (by omega)] at k
      refine b61_33 (k := ?_)
      refine b61_39 (h2 := by omega) (k := ?_)
      refine b61_40 (k := ?_)
      exact k
  · rw [if_pos (by omega)] at k
    refine b61_20 (k := ?_)
    refine b61_39 (h2 := by omega) (k := ?_)
    refine b61_40 (k := ?_)
    exact k
/-- a shelf's row -/
theorem pg_S.row (hS : pg_S C T U σ h) (hW : ¬ pa_W h D < 0) : pg_Rw σ (pe_R σ (C + 177) D) (h D).2.1.1 (h D).2.2 ∧ pe_R σ (C + 177) D ≠ 0 ∧ T (pe_R σ (C + 177) D) ∧ U (pe_R σ (pe_R σ (C + 177) D) 1) ∧ 0 ≤ D ∧ D < 8 := by
  obtain ⟨⟨h0, h8⟩, h2, -⟩ := pa_W_0 hW
  obtain ⟨b1, ⟨b2, b3⟩, b4, b5⟩ := (hS.1 D h0 h8).2.2 h2
  exact ⟨b4, b2, b3, b5, h0, h8⟩
theorem k115 (hD : -2147483648 ≤ D ∧ D < 2147483648) (k1 : 0 ≤ D ∧ D < 8 → Φ (some (.inl 1)) σ) (k0 : ¬ (0 ≤ D ∧ D < 8) → Φ (some (.inl 0)) σ) : pe_M (d + 1) 115 [.inl D] σ Φ := by
  refine pe_M_of ck115 (Nat.le_of_ble_eq_true rfl) ?_
  refine b115_0 (k1 := fun r => ?_) (k2 := fun r => ?_)
  · refine b115_14 (k := ?_)
    refine b115_15 (k := ?_)
    exact k0 (by omega)
  · refine b115_4 (k1 := fun r2 => ?_) (k2 := fun r2 => ?_)
    · refine b115_14 (k := ?_)
      refine b115_15 (k := ?_)
      exact k0 (by omega)
    · refine b115_10 (k := ?_)
      refine b115_15 (k := ?_)
      exact k1 (by omega)
theorem k116 {p : Int} (hp : -2147483648 ≤ p ∧ p < 2147483648) (k1 : 0 ≤ p ∧ p < 5 → Φ (some (.inl 1)) σ) (k0 : ¬ (0 ≤ p ∧ p < 5) → Φ (some (.inl 0)) σ) : pe_M (d + 1) 116 [.inl p] σ Φ := by
  refine pe_M_of ck116 (Nat.le_of_ble_eq_true rfl) ?_
  refine b116_0 (k1 := fun r => ?_) (k2 := fun r => ?_)
  · refine b116_13 (k := ?_)
    refine b116_14 (k := ?_)
    exact k0 (by omega)
  · refine b116_4 (k1 := fun r2 => ?_) (k2 := fun r2 => ?_)
    · refine b116_13 (k := ?_)
      refine b116_14 (k := ?_)
      exact k0 (by omega)
    · refine b116_9 (k := ?_)
      refine b116_14 (k := ?_)
      exact k1 (by omega)
theorem k117 (hF : pk_Fs C σ) (hM : pk_RM (C + 1) T σ a) (hwf : pa_wf0 a) (hc : -2147483648 ≤ c ∧ c < 2147483648) (k1 : 0 ≤ c ∧ c < a.1 4 → Φ (some (.inl 1)) σ) (k0 : ¬ (0 ≤ c ∧ c < a.1 4) → Φ (some (.inl 0)) σ) : pe_M (d + 1) 117 [.inr (.inr C), .inl c] σ Φ := by
  have e4 := hM.cnt.1
  have h8 := hwf.1
  refine pe_M_of ck117 (Nat.le_of_ble_eq_true rfl) ?_
  refine b117_0 (k1 := fun r => ?_) (k2 := fun r => ?_)
  · refine b117_19 (k := ?_)
    refine b117_20 (k := ?_)
    exact k0 (by omega)
  · refine b117_4 (k1 := fun r2 => ?_) (k2 := fun r2 => ?_)
    · refine b117_19 (k := ?_)
      refine b117_20 (k := ?_)
      exact k0 (by omega)
    · refine b117_15 (k := ?_)
      refine b117_20 (k := ?_)
      exact k1 (by omega)
/-- what stands on a shelf -/
theorem pg_S.on (hS : pg_S C T U σ h) (hw : pa_wfS h) (h0 : 0 ≤ D) (h8 : D < 8) : (pe_R σ (C + 177) D = 0 ↔ (h D).1 ≠ 2) ∧ (pe_R σ (C + 176) D = 0 ↔ (h D).1 ≠ 1) := by
  obtain ⟨a1, a2, a3⟩ := hS.1 D h0 h8
  rcases (hw D h0 h8).1 with e | e | e
  · have := a1 e
    constructor <;> constructor <;> intro _ <;> first | omega | exact this.1 | exact this.2
  · have := a2 e
    constructor <;> constructor <;> intro q <;> first | omega | exact this.1 | exact absurd q this.2.1
  · have := a3 e
    constructor <;> constructor <;> intro q <;> first | omega | exact this.1 | exact absurd q this.2.1.1
theorem k119 (hF : pk_Fs C σ) (hS : pg_S C T U σ h) (hw : pa_wfS h) (hD : -2147483648 ≤ D ∧ D < 2147483648) (k : Φ (some (.inl (pa_W h D))) σ) : pe_M (d + 2) 119 [.inr (.inr C), .inl D] σ Φ := by
  unfold pa_W at k
  refine pe_M_of ck119 (Nat.le_of_ble_eq_true rfl) ?_
  refine b119_0 (k := ?_)
  refine k115 hD (fun r => ?_) (fun r => ?_)
  · rw [if_neg (by omega)] at k
    obtain ⟨o1, o2⟩ := hS.on hw r.1 r.2
    have hk := (hw D r.1 r.2).1
    refine b119_4 (k1 := fun _ => ?_) (k2 := fun r => by omega)
    refine b119_9 (k1 := fun r2 => ?_) (k2 := fun r2 => ?_)
    · refine b119_20 (k1 := fun r3 => ?_) (k2 := fun r3 => ?_)
      · refine b119_34 (k := ?_)
        refine b119_36 (k := ?_)
        rw [if_neg (by omega), if_pos (by omega)] at k
        exact k
      · refine b119_29 (k := ?_)
        refine b119_36 (k := ?_)
        rw [if_pos (by omega)] at k
        exact k
    · refine b119_18 (k := ?_)
      rw [if_neg (by omega), if_neg (by omega)] at k
      exact k
  · rw [if_pos (by omega)] at k
    refine b119_4 (k1 := fun r => absurd rfl r) (k2 := fun _ => ?_)
    refine b119_7 (k := ?_)
    exact k
theorem k120 (hF : pk_Fs C σ) (hS : pg_S C T U σ h) (hw : pa_wfS h) (hD : -2147483648 ≤ D ∧ D < 2147483648) (k : Φ (some (.inl (pa_K h D))) σ) : pe_M (d + 2) 120 [.inr (.inr C), .inl D] σ Φ := by
  unfold pa_K at k
  refine pe_M_of ck120 (Nat.le_of_ble_eq_true rfl) ?_
  refine b120_0 (k := ?_)
  refine k115 hD (fun r => ?_) (fun r => ?_)
  · rw [if_neg (by omega)] at k
    obtain ⟨o1, o2⟩ := hS.on hw r.1 r.2
    have hk := (hw D r.1 r.2).1
    refine b120_4 (k1 := fun _ => ?_) (k2 := fun r => by omega)
    refine b120_9 (k1 := fun r2 => ?_) (k2 := fun r2 => ?_)
    · refine b120_20 (k1 := fun r3 => ?_) (k2 := fun r3 => ?_)
      · refine b120_34 (k := ?_)
        refine b120_36 (k := ?_)
        rw [if_neg (by omega), if_pos (by omega)] at k
        exact k
      · refine b120_29 (k := ?_)
        refine b120_36 (k := ?_)
        rw [if_pos (by omega)] at k
        exact k
    · refine b120_18 (k := ?_)
      rw [if_neg (by omega), if_neg (by omega)] at k
      exact k
  · rw [if_pos (by omega)] at k
    refine b120_4 (k1 := fun r => absurd rfl r) (k2 := fun _ => ?_)
    refine b120_7 (k := ?_)
    exact k
/-- what a frame holds, told -/
theorem k121 {w : Int → Int × List Int} {n own f ub : Int} {v : Option (List Int)} (hF : pk_Fs C σ) (hn : pe_I σ (C + 1) 12 = n ∧ 0 ≤ n ∧ n ≤ 512) (hst : pr_st (pe_I σ (C + 1 + 7)) (pe_I σ (C + 1 + 8)) n w) (hh : pr_hl w own f ub v) (hub : ub ≤ n) (k : Φ (some (.inl (pa_held v))) σ) : pe_M (d + 2) 121 [.inr (.inr C), .inl f] σ Φ := by
  obtain ⟨n1, n0, n5⟩ := hn
  refine pe_M_of ck121 (Nat.le_of_ble_eq_true rfl) ?_
  rcases hh with ⟨g1, g2⟩ | ⟨g1, g2⟩ | ⟨g1, g2, g3, g4, g5⟩
  · refine b121_0 (k1 := fun r => by omega) (k2 := fun _ => ?_)
    refine b121_6 (k := ?_)
    rw [g2] at k
    exact k
  · refine b121_0 (k1 := fun _ => ?_) (k2 := fun r => by omega)
    refine b121_8 (k1 := fun r => by omega) (k2 := fun _ => ?_)
    refine b121_13 (k := ?_)
    refine b121_28 (k := ?_)
    rw [g2] at k
    exact k
  · refine b121_0 (k1 := fun _ => ?_) (k2 := fun r => by omega)
    refine b121_8 (k1 := fun _ => ?_) (k2 := fun r => by omega)
    refine b121_17 (k := ?_)
    refine k21 (pk_sM0 hF) ⟨by omega, by omega⟩ (by omega) ?_
    rw [if_pos ⟨g1, by omega⟩]
    refine b121_27 (k := ?_)
    refine b121_28 (k := ?_)
    rw [g4] at k
    obtain ⟨x1, l1, hxl⟩ := List.exists_cons_of_ne_nil g5
    have ht := (pr_st_tail hst g1 (by omega) hxl).1
    rw [hxl] at k
    rw [← ht]
    exact k
/-- a mind that is as now -/
theorem k122 (hG : pg_G C T U σ a im h) (hw : pg_W a im h) (k : ∀ σ2, pk_fr (pk_Z (pk_m C 0)) σ σ2 → pg_G C T U σ2 a im h → pk_RM (pk_m C 0) T σ2 a → Φ (some (.inr (.inr (pk_m C 0)))) σ2) : pe_M (d + 4) 122 [.inr (.inr C)] σ Φ := by
  have hF := hG.F
  refine pe_M_of ck122 (Nat.le_of_ble_eq_true rfl) ?_
  refine b122_0 (k := ?_)
  refine k15 hG.M hw.1.1.1 hw.1.1.2.1 (pk_sMi hF (by decide) (by decide)) (by unfold pk_m; omega) (hG.Tm (by decide) (by decide)) (fun σ2 e1 e2 e3 => ?_)
  have g2 := hG.mind hw (by decide) (by decide) e1 e3.F
  have hF2 := g2.F
  refine b122_13 (k := ?_)
  exact k σ2 e1 g2 e3
end

