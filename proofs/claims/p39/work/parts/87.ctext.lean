/-! THE CLASS: a text is read -/
/-- no ';' ahead of the one that ends the statement -/
theorem pt_pend_no {l : List Int} : ∀ (f : Nat) (j : Int), 0 ≤ pt_pend l f j → 0 ≤ j → ∀ i, j ≤ i → i < pt_pend l f j - 1 → pt_at l i ≠ 59
  | 0, j, h, h0, i, i0, i1 => by
    unfold pt_pend at h
    omega
  | f + 1, j, h, h0, i, i0, i1 => by
    unfold pt_pend at h i1
    by_cases e : pt_at l j = 59
    · rw [if_pos e] at i1
      omega
    · rw [if_neg e] at h i1
      by_cases e2 : pt_at l j = 102
      · rw [if_pos e2] at h i1
        by_cases q : i = j
        · rw [q]; exact e
        · exact pt_pend_no f (j + 1) h (by omega) i (by omega) i1
      · rw [if_neg e2] at h i1
        by_cases e3 : pt_ns (pt_at l j)
        · rw [if_pos e3] at h i1
          by_cases e4 : pt_dg l (j + 1)
          · rw [if_pos e4] at h i1
            by_cases q : i = j
            · rw [q]; exact e
            · by_cases q2 : i = j + 1
              · rw [q2]
                have := e4.1
                have := e4.2
                omega
              · exact pt_pend_no f (j + 2) h (by omega) i (by omega) i1
          · rw [if_neg e4] at h
            omega
        · rw [if_neg e3] at h
          omega
theorem pt_nums_no {l : List Int} : ∀ (m : Nat) (j : Int), 0 ≤ pt_nums l m j → 0 ≤ j → ∀ i, j ≤ i → i < pt_nums l m j - 1 → pt_at l i ≠ 59
  | 0, j, h, h0, i, i0, i1 => by
    unfold pt_nums at h i1
    split at h
    · rename_i e
      rw [if_pos e] at i1
      omega
    · omega
  | m + 1, j, h, h0, i, i0, i1 => by
    unfold pt_nums at h i1
    by_cases e : pt_dg l j
    · rw [if_pos e] at h i1
      by_cases q : i = j
      · rw [q]
        have := e.1
        have := e.2
        omega
      · exact pt_nums_no m (j + 1) h (by omega) i (by omega) i1
    · rw [if_neg e] at h
      omega
theorem pt_stmt_no {l : List Int} {k : Int} (h0 : 0 ≤ k) (h : 0 ≤ pt_stmt l k) : ∀ i, k ≤ i → i < pt_stmt l k - 1 → pt_at l i ≠ 59 := by
  intro i i0 i1
  unfold pt_stmt at h i1
  by_cases e1 : pt_at l k = 112
  · rw [if_pos e1] at h i1
    by_cases e2 : pt_dg l (k + 1)
    · rw [if_pos e2] at h i1
      by_cases q : i = k
      · rw [q, e1]; decide
      · by_cases q2 : i = k + 1
        · rw [q2]
          have := e2.1
          have := e2.2
          omega
        · exact pt_pend_no _ _ h (by omega) i (by omega) i1
    · rw [if_neg e2] at h
      omega
  · rw [if_neg e1] at h i1
    by_cases e2 : pt_at l k = 99 ∨ pt_at l k = 110
    · rw [if_pos e2] at h i1
      by_cases q : i = k
      · rw [q]; omega
      · exact pt_nums_no _ _ h (by omega) i (by omega) i1
    · rw [if_neg e2] at h i1
      by_cases e3 : pt_at l k = 108
      · rw [if_pos e3] at h i1
        by_cases q : i = k
        · rw [q]; omega
        · exact pt_nums_no _ _ h (by omega) i (by omega) i1
      · rw [if_neg e3] at h i1
        by_cases e4 : pt_at l k = 120 ∨ pt_at l k = 119
        · rw [if_pos e4] at h i1
          by_cases q : i = k
          · rw [q]; omega
          · exact pt_nums_no _ _ h (by omega) i (by omega) i1
        · rw [if_neg e4] at h
          omega
/-- a Text at X over the row at P, its codes at Q -/
def pg_Tx (σ : pe_H) (X P Q : Nat) (l : List Int) : Prop := (pe_K σ X = 7 ∧ pe_R σ X 0 = P ∧ pe_R σ X 1 = Q) ∧ (pe_K σ Q = 10 ∧ pe_L σ Q = 16 ∧ 2 ≤ Q) ∧ pg_Rw σ P 0 l
def pg_By (l : List Int) : Prop := l.length ≤ 100 ∧ ∀ j : Nat, j < l.length → -128 ≤ l.getD j 0 ∧ l.getD j 0 ≤ 127
section
variable {d C B P X Q : Nat} {Φ : Option pe_V → pe_H → Prop} {T T' U U' : Nat → Prop} {σ σ' τ σ1 σ2 : pe_H} {c i x D n p z j k0 : Int} {l : List Int} {a b s t : pa_M} {im : Option pa_M} {h : Int → pa_Sh}
theorem k65 (hx : -1000 ≤ x ∧ x ≤ 1000) (k : Φ (some (.inl (-1000 - x))) σ) : pe_M (d + 1) 65 [.inl x] σ Φ := by
  refine pe_M_of ck65 (Nat.le_of_ble_eq_true rfl) ?_
  refine b65_0 (k := ?_)
  exact k
theorem k69 (hx : -1000 ≤ x ∧ x ≤ 1000) (k1 : 48 ≤ x ∧ x ≤ 57 → Φ (some (.inl 1)) σ) (k0 : ¬ (48 ≤ x ∧ x ≤ 57) → Φ (some (.inl 0)) σ) : pe_M (d + 1) 69 [.inl x] σ Φ := by
  refine pe_M_of ck69 (Nat.le_of_ble_eq_true rfl) ?_
  refine b69_0 (k1 := fun r => ?_) (k2 := fun r => ?_)
  · refine b69_16 (k := ?_)
    refine b69_17 (k := ?_)
    exact k0 (by omega)
  · refine b69_6 (k1 := fun r2 => ?_) (k2 := fun r2 => ?_)
    · refine b69_16 (k := ?_)
      refine b69_17 (k := ?_)
      exact k0 (by omega)
    · refine b69_12 (k := ?_)
      refine b69_17 (k := ?_)
      exact k1 (by omega)
theorem pg_Tx.at (hX : pg_Tx σ X P Q l) (hl : pg_By l) (hj : -1000 ≤ j ∧ j ≤ 1000) (k : Φ (some (.inl (pt_at l j))) σ) : pe_M (d + 2) 60 [.inr (.inr (pe_R σ X 0)), .inl j] σ Φ := by
  rw [hX.1.2.1]
  exact k60 hX.2.2 hl.1 (by omega) k
theorem pg_Tx.K0 (hX : pg_Tx σ X P Q l) : pe_K σ (pe_R σ X 0) = 6 := by rw [hX.1.2.1]; exact hX.2.2.1.1
/-- digit -/
theorem k72 (hX : pg_Tx σ X P Q l) (hl : pg_By l) (hj : -1000 ≤ j ∧ j ≤ 1000) (k : Φ (some (.inl (pt_d l j))) σ) : pe_M (d + 3) 72 [.inr (.inr X), .inl j] σ Φ := by
  have hK := hX.1.1
  have hK0 := hX.K0
  refine pe_M_of ck72 (Nat.le_of_ble_eq_true rfl) ?_
  refine b72_0 (k := ?_)
  refine hX.at hl hj ?_
  refine b72_8 (k := ?_)
  exact k
/-- twoDigits -/
theorem k73 (hX : pg_Tx σ X P Q l) (hl : pg_By l) (hj : -900 ≤ j ∧ j ≤ 900) (k : Φ (some (.inl (pt_dd l j))) σ) : pe_M (d + 4) 73 [.inr (.inr X), .inl j] σ Φ := by
  have hK := hX.1.1
  refine pe_M_of ck73 (Nat.le_of_ble_eq_true rfl) ?_
  refine b73_0 (k := ?_)
  refine k72 hX hl (by omega) ?_
  refine b73_7 (k := ?_)
  refine k72 hX hl (by omega) ?_
  refine b73_15 (k := ?_)
  have e : pt_d l j * 10 + pt_d l (j + 1) = pt_dd l j := by unfold pt_dd; omega
  first
    | exact k
    | (rw [← e] at k; exact k)
/-- endOfNumbers -/
theorem k67 {m : Nat} (hX : pg_Tx σ X P Q l) (hl : pg_By l) (hm : m ≤ 3) (hj : 0 ≤ j ∧ j ≤ 500) (k : Φ (some (.inl (pt_nums l m j))) σ) : pe_M (d + 3) 67 [.inr (.inr X), .inl j, .inl (m : Int)] σ Φ := by
  have hK := hX.1.1
  have hK0 := hX.K0
  have loop : ∀ (m : Nat) (i : Int) (o1 o2 : Option pe_V), m ≤ 3 → 0 ≤ i → i + m ≤ 510 → Φ (some (.inl (pt_nums l m i))) σ → pe_X (d + 2) 67 (7, [some (.inr (.inr X)), o1, o2, some (.inl (i + m)), some (.inl i)], [], σ) Φ := by
    intro m
    induction m with
    | zero =>
      intro i o1 o2 hm hi0 hi k
      have hat := pt_at_r hl.2 i
      have hat2 := pt_at_r hl.2 (i + ((0 : Nat) : Int))
      unfold pt_nums at k
      refine b67_7 (k1 := fun _ => ?_) (k2 := fun r => by omega)
      refine b67_40 (k := ?_)
      refine hX.at hl (by omega) ?_
      rw [show i + ((0 : Nat) : Int) = i by omega]
      refine b67_48 (k1 := fun r => ?_) (k2 := fun r => ?_)
      · rw [if_neg r] at k
        refine b67_59 (k := ?_)
        refine pe_M.up (k65 (d := 0) (by omega) ?_) (by omega)
        refine b67_63 (k := ?_)
        exact k
      · rw [if_pos r] at k
        refine b67_53 (k := ?_)
        refine b67_63 (k := ?_)
        exact k
    | succ m ih =>
      intro i o1 o2 hm hi0 hi k
      have hat := pt_at_r hl.2 i
      unfold pt_nums at k
      refine b67_7 (k1 := fun r => by omega) (k2 := fun _ => ?_)
      refine b67_13 (k := ?_)
      refine hX.at hl (by omega) ?_
      refine b67_22 (k := ?_)
      refine pe_M.up (k69 (d := 0) (by omega) (fun r => ?_) (fun r => ?_)) (by omega)
      · rw [if_pos r] at k
        refine b67_25 (k1 := fun _ => ?_) (k2 := fun r => by omega)
        refine b67_34 (k := ?_)
        have := ih (i + 1) o1 o2 (by omega) (by omega) (by push_cast at hi; omega) k
        rw [show i + 1 + (m : Int) = i + ((m + 1 : Nat) : Int) by push_cast; omega] at this
        exact this
      · rw [if_neg r] at k
        refine b67_25 (k1 := fun r => by omega) (k2 := fun _ => ?_)
        refine b67_28 (k := ?_)
        refine pe_M.up (k65 (d := 0) (by omega) ?_) (by omega)
        refine b67_33 (k := ?_)
        exact k
  refine pe_M_of ck67 (Nat.le_of_ble_eq_true rfl) ?_
  refine b67_0 (k := ?_)
  exact loop m j _ _ hm hj.1 (by omega) k
/-- isNumberedStep -/
theorem k70 (hx : -1000 ≤ x ∧ x ≤ 1000) (k1 : pt_ns x → Φ (some (.inl 1)) σ) (k0 : ¬ pt_ns x → Φ (some (.inl 0)) σ) : pe_M (d + 1) 70 [.inl x] σ Φ := by
  refine pe_M_of ck70 (Nat.le_of_ble_eq_true rfl) ?_
  refine b70_0 (k0 := fun q1 => ?_) (k1 := fun q1 => ?_) (k2 := fun q1 => ?_) (k3 := fun q1 => ?_) (k4 := fun q1 => ?_) (k5 := fun q1 => ?_) (k6 := fun q1 => ?_) (k7 := fun q1 => ?_) (k8 := fun q1 => ?_) (k9 := fun q1 => ?_) (k10 := fun q1 => ?_) (k11 := fun q1 => ?_) (k12 := fun q1 => ?_) (k13 := fun q1 => ?_) (k14 := fun q1 => ?_) (k15 := fun q1 => ?_) (k16 := fun q1 => ?_) (k17 := fun q1 => ?_) (k18 := fun q1 => ?_) (k19 := fun q1 => ?_) (k20 := fun q1 => ?_) (k21 := fun q1 => ?_) (k22 := fun q1 => ?_) (k23 := fun q1 => ?_) (k24 := fun q1 => ?_) (k25 := fun q1 => ?_) (kd := fun q1_0 q1_1 q1_2 q1_3 q1_4 q1_5 q1_6 q1_7 q1_8 q1_9 q1_10 q1_11 q1_12 q1_13 q1_14 q1_15 q1_16 q1_17 q1_18 q1_19 q1_20 q1_21 q1_22 q1_23 q1_24 q1_25 => ?_)
  · refine b70_120 (k := ?_)
    exact k1 (by unfold pt_ns; omega)
  · refine b70_122 (k := ?_)
    exact k0 (by unfold pt_ns; omega)
  · refine b70_122 (k := ?_)
    exact k0 (by unfold pt_ns; omega)
  · refine b70_120 (k := ?_)
    exact k1 (by unfold pt_ns; omega)
  · refine b70_122 (k := ?_)
    exact k0 (by unfold pt_ns; omega)
  · refine b70_122 (k := ?_)
    exact k0 (by unfold pt_ns; omega)
  · refine b70_120 (k := ?_)
    exact k1 (by unfold pt_ns; omega)
  · refine b70_122 (k := ?_)
    exact k0 (by unfold pt_ns; omega)
  · refine b70_122 (k := ?_)
    exact k0 (by unfold pt_ns; omega)
  · refine b70_120 (k := ?_)
    exact k1 (by unfold pt_ns; omega)
  · refine b70_122 (k := ?_)
    exact k0 (by unfold pt_ns; omega)
  · refine b70_122 (k := ?_)
    exact k0 (by unfold pt_ns; omega)
  · refine b70_120 (k := ?_)
    exact k1 (by unfold pt_ns; omega)
  · refine b70_122 (k := ?_)
    exact k0 (by unfold pt_ns; omega)
  · refine b70_122 (k := ?_)
    exact k0 (by unfold pt_ns; omega)
  · refine b70_122 (k := ?_)
    exact k0 (by unfold pt_ns; omega)
  · refine b70_122 (k := ?_)
    exact k0 (by unfold pt_ns; omega)
  · refine b70_120 (k := ?_)
    exact k1 (by unfold pt_ns; omega)
  · refine b70_120 (k := ?_)
    exact k1 (by unfold pt_ns; omega)
  · refine b70_120 (k := ?_)
    exact k1 (by unfold pt_ns; omega)
  · refine b70_122 (k := ?_)
    exact k0 (by unfold pt_ns; omega)
  · refine b70_122 (k := ?_)
    exact k0 (by unfold pt_ns; omega)
  · refine b70_122 (k := ?_)
    exact k0 (by unfold pt_ns; omega)
  · refine b70_122 (k := ?_)
    exact k0 (by unfold pt_ns; omega)
  · refine b70_120 (k := ?_)
    exact k1 (by unfold pt_ns; omega)
  · refine b70_120 (k := ?_)
    exact k1 (by unfold pt_ns; omega)
  · refine b70_122 (k := ?_)
    exact k0 (by unfold pt_ns; omega)
/-- endOfProgram -/
theorem k68 (hX : pg_Tx σ X P Q l) (hl : pg_By l) (hj : 0 ≤ k0 ∧ k0 ≤ 100) (k : Φ (some (.inl (if pt_dg l (k0 + 1) then pt_pend l 101 (k0 + 2) else -1000 - (k0 + 1)))) σ) : pe_M (d + 3) 68 [.inr (.inr X), .inl (k0 + 1)] σ Φ := by
  have hK := hX.1.1
  have hK0 := hX.K0
  have hlen := hl.1
  have loop : ∀ (f : Nat) (i : Int) (o1 : Option pe_V), 2 ≤ i → 103 ≤ i + f → i ≤ 205 → Φ (some (.inl (pt_pend l f i))) σ → pe_X (d + 2) 68 (23, [some (.inr (.inr X)), o1, some (.inl i)], [], σ) Φ := by
    have stop : ∀ (i : Int) (o1 : Option pe_V), 0 ≤ i → i ≤ 205 → Φ (some (.inl (if pt_at l i = 59 then i + 1 else -1000 - i))) σ → pe_X (d + 2) 68 (107, [some (.inr (.inr X)), o1, some (.inl i)], [], σ) Φ := fun i o1 hi0 hi k => by
      have hat := pt_at_r hl.2 i
      refine b68_107 (k := ?_)
      refine hX.at hl (by omega) ?_
      refine b68_115 (k1 := fun r => ?_) (k2 := fun r => ?_)
      · rw [if_neg r] at k
        refine b68_126 (k := ?_)
        refine pe_M.up (k65 (d := 0) (by omega) ?_) (by omega)
        refine b68_130 (k := ?_)
        exact k
      · rw [if_pos r] at k
        refine b68_120 (k := ?_)
        refine b68_130 (k := ?_)
        exact k
    have z : ∀ i, (l.length : Int) ≤ i → pt_at l i = 0 := fun i hi => by unfold pt_at; rw [if_neg (by omega)]
    intro f
    induction f with
    | zero =>
      intro i o1 hi0 hf hi k
      unfold pt_pend at k
      refine b68_23 (k := ?_)
      rw [hX.1.2.1]
      refine pe_M.up (k57 (d := 0) hX.2.2 ?_) (by omega)
      refine b68_31 (k1 := fun _ => ?_) (k2 := fun r => by omega)
      refine stop i _ (by omega) hi ?_
      rw [z i (by omega), if_neg (by decide)]
      exact k
    | succ f ih =>
      intro i o1 hi0 hf hi k
      have hat := pt_at_r hl.2 i
      have hat1 := pt_at_r hl.2 (i + 1)
      unfold pt_pend at k
      push_cast at hf
      refine b68_23 (k := ?_)
      rw [hX.1.2.1]
      refine pe_M.up (k57 (d := 0) hX.2.2 ?_) (by omega)
      refine b68_31 (k1 := fun r1 => ?_) (k2 := fun r1 => ?_)
      · rw [z i r1, if_neg (by decide), if_neg (by decide), if_neg (by unfold pt_ns; decide)] at k
        refine stop i _ (by omega) hi ?_
        rw [z i r1, if_neg (by decide)]
        exact k
      · refine b68_34 (k := ?_)
        refine hX.at hl (by omega) ?_
        refine b68_42 (k1 := fun r2 => ?_) (k2 := fun r2 => ?_)
        · rw [if_pos r2] at k
          refine stop i _ (by omega) hi ?_
          rw [if_pos r2]
          exact k
        · rw [if_neg r2] at k
          refine b68_47 (k := ?_)
          refine hX.at hl (by omega) ?_
          refine b68_55 (k1 := fun r3 => ?_) (k2 := fun r3 => ?_)
          · rw [if_pos r3] at k
            refine b68_101 (k := ?_)
            exact ih (i + 1) _ (by omega) (by omega) (by omega) k
          · rw [if_neg r3] at k
            refine b68_60 (k := ?_)
            refine hX.at hl (by omega) ?_
            refine b68_68 (k := ?_)
            refine pe_M.up (k70 (d := 0) (by omega) (fun r4 => ?_) (fun r4 => ?_)) (by omega)
            · rw [if_pos r4] at k
              refine b68_71 (k1 := fun _ => ?_) (k2 := fun r => by omega)
              refine b68_79 (k := ?_)
              refine hX.at hl (by omega) ?_
              refine b68_90 (k := ?_)
              refine pe_M.up (k69 (d := 0) (by omega) (fun r5 => ?_) (fun r5 => ?_)) (by omega)
              · rw [if_pos r5] at k
                refine b68_93 (k1 := fun _ => ?_) (k2 := fun r => by omega)
                refine b68_101 (k := ?_)
                have := ih (i + 2) (pe_nl (pe_nl o1)) (by omega) (by omega) (by omega) k
                rw [show i + 2 = i + 1 + 1 by omega] at this
                exact this
              · rw [if_neg r5] at k
                refine b68_93 (k1 := fun r => by omega) (k2 := fun _ => ?_)
                refine b68_96 (k := ?_)
                refine pe_M.up (k65 (d := 0) (by omega) ?_) (by omega)
                refine b68_100 (k := ?_)
                exact k
            · rw [if_neg r4] at k
              refine b68_71 (k1 := fun r => by omega) (k2 := fun _ => ?_)
              refine b68_74 (k := ?_)
              refine pe_M.up (k65 (d := 0) (by omega) ?_) (by omega)
              refine b68_78 (k := ?_)
              exact k
  have hat := pt_at_r hl.2 (k0 + 1)
  refine pe_M_of ck68 (Nat.le_of_ble_eq_true rfl) ?_
  refine b68_0 (k := ?_)
  refine hX.at hl (by omega) ?_
  refine b68_8 (k := ?_)
  refine pe_M.up (k69 (d := 0) (by omega) (fun r => ?_) (fun r => ?_)) (by omega)
  · rw [if_pos r] at k
    refine b68_11 (k1 := fun _ => ?_) (k2 := fun r => by omega)
    refine b68_19 (k := ?_)
    rw [show k0 + 1 + 1 = k0 + 2 by omega]
    exact loop 101 (k0 + 2) _ (by omega) (by omega) (by omega) k
  · rw [if_neg r] at k
    refine b68_11 (k1 := fun r => by omega) (k2 := fun _ => ?_)
    refine b68_14 (k := ?_)
    refine pe_M.up (k65 (d := 0) (by omega) ?_) (by omega)
    refine b68_18 (k := ?_)
    exact k
/-- endOfStatement -/
theorem k66 (hX : pg_Tx σ X P Q l) (hl : pg_By l) (hj : 0 ≤ k0 ∧ k0 ≤ 100) (k : Φ (some (.inl (pt_stmt l k0))) σ) : pe_M (d + 4) 66 [.inr (.inr X), .inl k0] σ Φ := by
  have hK := hX.1.1
  have hK0 := hX.K0
  have hat := pt_at_r hl.2 k0
  unfold pt_stmt at k
  refine pe_M_of ck66 (Nat.le_of_ble_eq_true rfl) ?_
  refine b66_0 (k := ?_)
  refine pe_M.up (hX.at (d := 0) hl (by omega) ?_) (by omega)
  refine b66_8 (k0 := fun r => ?_) (k1 := fun r => ?_) (k2 := fun r => ?_) (k3 := fun r => ?_) (k4 := fun r => ?_) (k5 := fun r => ?_) (kd := fun r0 r1 r2 r3 r4 r5 => ?_)
  · rw [if_neg (by omega), if_pos (by omega)] at k
    refine b66_76 (k := ?_)
    refine k67 (m := 3) hX hl (by decide) (by omega) ?_
    refine b66_84 (k := ?_)
    exact k
  · rw [if_neg (by omega), if_neg (by omega), if_pos (by omega)] at k
    refine b66_85 (k := ?_)
    refine k67 (m := 2) hX hl (by decide) (by omega) ?_
    refine b66_93 (k := ?_)
    exact k
  · rw [if_neg (by omega), if_pos (by omega)] at k
    refine b66_76 (k := ?_)
    refine k67 (m := 3) hX hl (by decide) (by omega) ?_
    refine b66_84 (k := ?_)
    exact k
  · rw [if_pos (by omega)] at k
    refine b66_68 (k := ?_)
    refine k68 hX hl hj ?_
    refine b66_75 (k := ?_)
    exact k
  · rw [if_neg (by omega), if_neg (by omega), if_neg (by omega), if_pos (by omega)] at k
    refine b66_94 (k := ?_)
    refine k67 (m := 1) hX hl (by decide) (by omega) ?_
    refine b66_102 (k := ?_)
    exact k
  · rw [if_neg (by omega), if_neg (by omega), if_neg (by omega), if_pos (by omega)] at k
    refine b66_94 (k := ?_)
    refine k67 (m := 1) hX hl (by decide) (by omega) ?_
    refine b66_102 (k := ?_)
    exact k
  · rw [if_neg (by omega), if_neg (by omega), if_neg (by omega), if_neg (by omega)] at k
    refine b66_103 (k := ?_)
    refine pe_M.up (k65 (d := 0) (by omega) ?_) (by omega)
    refine b66_107 (k := ?_)
    exact k
/-- statements -/
theorem k64 (hX : pg_Tx σ X P Q l) (hl : pg_By l) (k : Φ (some (.inl (if l.length = 0 then -1000 else pt_cnt l 100 0 0))) σ) : pe_M (d + 5) 64 [.inr (.inr X)] σ Φ := by
  have hK := hX.1.1
  have hK0 := hX.K0
  have hlen := hl.1
  have loop : ∀ (f : Nat) (i place : Int), i + f = 100 → 0 ≤ i → 0 ≤ place → place ≤ 100 → (l.length ≠ 0 → i = 0 → place = 0) → (l.length = 0 → i = 0 ∧ place = 0) → Φ (some (.inl (if l.length = 0 then -1000 else pt_cnt l f i place))) σ → pe_X (d + 4) 64 (4, [some (.inr (.inr X)), some (.inl place), some (.inl i)], [], σ) Φ := by
    intro f
    induction f with
    | zero =>
      intro i place hi hi0 hp0 hp h1 h2 k
      unfold pt_cnt at k
      refine b64_4 (k1 := fun _ => ?_) (k2 := fun r => by omega)
      rw [if_neg (fun q => by have := (h2 q).1; omega)] at k
      refine b64_39 (k1 := fun _ => ?_) (k2 := fun r => by omega)
      refine b64_50 (k := ?_)
      refine b64_51 (k := ?_)
      exact k
    | succ f ih =>
      intro i place hi hi0 hp0 hp h1 h2 k
      unfold pt_cnt at k
      refine b64_4 (k1 := fun r => by omega) (k2 := fun _ => ?_)
      refine b64_10 (k := ?_)
      rw [hX.1.2.1]
      refine pe_M.up (k57 (d := 0) hX.2.2 ?_) (by omega)
      refine b64_18 (k1 := fun r1 => ?_) (k2 := fun r1 => ?_)
      · by_cases q : l.length = 0
        · rw [if_pos q] at k
          refine b64_39 (k1 := fun r => by omega) (k2 := fun _ => ?_)
          refine b64_43 (k := ?_)
          refine pe_M.up (k65 (d := 0) (by decide) ?_) (by omega)
          refine b64_47 (k := ?_)
          refine b64_51 (k := ?_)
          exact k
        · rw [if_neg q, if_pos r1] at k
          have : ¬ i = 0 := fun e => by have := h1 q e; omega
          refine b64_39 (k1 := fun _ => ?_) (k2 := fun r => by omega)
          refine b64_50 (k := ?_)
          refine b64_51 (k := ?_)
          exact k
      · rw [if_neg (by omega), if_neg (by omega)] at k
        have hr := pt_stmt_r (l := l) (k := place) hp0
        refine b64_21 (k := ?_)
        refine pe_M.up (k66 (d := 0) hX hl (by omega) ?_) (by omega)
        refine b64_26 (k1 := fun r2 => ?_) (k2 := fun r2 => ?_)
        · rw [if_neg (by omega)] at k
          have hr2 : pt_stmt l place ≤ (l.length : Int) := by omega
          refine b64_33 (k := ?_)
          exact ih (i + 1) (pt_stmt l place) (by omega) (by omega) r2 (by omega) (fun _ e => by omega) (fun e => by omega) (by rw [if_neg (by omega)]; exact k)
        · rw [if_pos (by omega)] at k
          refine b64_31 (k := ?_)
          exact k
  refine pe_M_of ck64 (Nat.le_of_ble_eq_true rfl) ?_
  refine b64_0 (k := ?_)
  exact loop 100 0 0 (by decide) (by decide) (by decide) (by decide) (fun _ _ => rfl) (fun _ => ⟨rfl, rfl⟩) k
/-- behindStatement -/
theorem k71 (hX : pg_Tx σ X P Q l) (hl : pg_By l) (hj : 0 ≤ k0 ∧ k0 ≤ 100) (hg : 0 ≤ pt_stmt l k0) (k : Φ (some (.inl (pt_stmt l k0))) σ) : pe_M (d + 3) 71 [.inr (.inr X), .inl k0] σ Φ := by
  have hK := hX.1.1
  have hK0 := hX.K0
  have hlen := hl.1
  have hno := pt_stmt_no hj.1 hg
  obtain ⟨r1, r2, r3⟩ : k0 + 3 ≤ pt_stmt l k0 ∧ pt_stmt l k0 ≤ (l.length : Int) ∧ pt_at l (pt_stmt l k0 - 1) = 59 := by
    rcases pt_stmt_r (l := l) hj.1 with q | q
    · omega
    · exact q
  have loop : ∀ (m : Nat) (i : Int) (o1 : Option pe_V), i + m = pt_stmt l k0 - 1 → k0 ≤ i → pe_X (d + 2) 71 (2, [some (.inr (.inr X)), o1, some (.inl i)], [], σ) Φ := by
    intro m
    induction m with
    | zero =>
      intro i o1 hi hi0
      refine b71_2 (k := ?_)
      rw [hX.1.2.1]
      refine pe_M.up (k57 (d := 0) hX.2.2 ?_) (by omega)
      refine b71_10 (k1 := fun r => by omega) (k2 := fun _ => ?_)
      refine b71_13 (k := ?_)
      refine hX.at hl (by omega) ?_
      rw [show i = pt_stmt l k0 - 1 by omega, r3]
      refine b71_21 (k1 := fun _ => ?_) (k2 := fun r => by omega)
      refine b71_32 (k := ?_)
      rw [show pt_stmt l k0 - 1 + 1 = pt_stmt l k0 by omega]
      exact k
    | succ m ih =>
      intro i o1 hi hi0
      have hat := pt_at_r hl.2 i
      have := hno i hi0 (by omega)
      refine b71_2 (k := ?_)
      rw [hX.1.2.1]
      refine pe_M.up (k57 (d := 0) hX.2.2 ?_) (by omega)
      refine b71_10 (k1 := fun r => by omega) (k2 := fun _ => ?_)
      refine b71_13 (k := ?_)
      refine hX.at hl (by omega) ?_
      refine b71_21 (k1 := fun r => by omega) (k2 := fun _ => ?_)
      refine b71_26 (k := ?_)
      exact ih (i + 1) _ (by omega) (by omega)
  refine pe_M_of ck71 (Nat.le_of_ble_eq_true rfl) ?_
  refine b71_0 (k := ?_)
  exact loop (pt_stmt l k0 - 1 - k0).toNat k0 _ (by omega) (Int.le_refl _)
end

