/-! THE MODEL: what is read -/
def pa_outs (a : pa_M) : Int := pa_sum (fun c => (a.2.1 c).1 5) (a.1 4).toNat
def pa_isWait (a : pa_M) (c : Int) : Bool := decide (3 ≤ (a.2.1 c).1 2 ∧ (a.2.1 c).1 2 ≤ 5)
def pa_aCount (a : pa_M) (x : Int) : Int := if x = 0 then a.1 4 else if x = 1 then a.1 6 else if x = 2 then a.1 5 else if x = 3 then pa_bits (pa_isEnd a) (a.1 4).toNat else if x = 4 then pa_bits (pa_isWait a) (a.1 4).toNat else if x = 5 then pa_outs a else -1
def pa_aProg (a : pa_M) (p i x : Int) : Int := if ¬ ((0 ≤ p ∧ p ≤ 4) ∧ (-1 ≤ i ∧ i < ((a.2.2.1 p).length : Int)) ∧ 0 ≤ x ∧ x ≤ 1) then -1 else if i < 0 then ((a.2.2.1 p).length : Int) else if x = 0 then (pa_at (a.2.2.1 p) i).1 else (pa_at (a.2.2.1 p) i).2
def pa_aCo (a : pa_M) (c x : Int) : Int := if ¬ ((0 ≤ c ∧ c < a.1 4) ∧ 0 ≤ x ∧ x ≤ 11) then -1 else if x = 5 then (a.2.1 c).1 0 else if x = 6 then (a.2.1 c).1 20 else if x = 7 then (a.2.1 c).1 21 else if x = 8 then pa_weight ((a.2.1 c).1 20) ((a.2.1 c).1 21) + 100 else if x = 9 then ((a.2.1 c).2.2.length : Int) else if x = 10 then (a.2.1 c).1 7 else if x = 11 then ((a.2.1 c).2.1.length : Int) else pa_of (a.2.1 c) x
def pa_held (v : Option (List Int)) : Int := match v with
  | none => 0
  | some [] => 1
  | some (x :: _) => 10 + x
/-- the frame i, counted from the lowest -/
def pa_fr (l : List pa_F) (i : Int) : pa_F := l.getD (l.length - 1 - i.toNat) (pa_nf 0 [])
def pa_aFrame (a : pa_M) (c i x : Int) : Int := if ¬ ((0 ≤ c ∧ c < a.1 4) ∧ (0 ≤ x ∧ x ≤ 4) ∧ 0 ≤ i ∧ i < ((a.2.1 c).2.2.length : Int)) then -1 else if x = 0 then (pa_fr (a.2.1 c).2.2 i).1 1 else if x = 1 then (pa_fr (a.2.1 c).2.2 i).1 2 else if x = 2 then (pa_fr (a.2.1 c).2.2 i).1 3 else if x = 3 then (pa_fr (a.2.1 c).2.2 i).1 4 else pa_held (pa_fr (a.2.1 c).2.2 i).2.2
def pa_aCause (a : pa_M) (c i : Int) : Int := if ¬ ((0 ≤ c ∧ c < a.1 4) ∧ 0 ≤ i ∧ i < ((a.2.1 c).2.1.length : Int)) then -1 else (a.2.1 c).2.1.getD i.toNat 0
def pa_aChan (a : pa_M) (ch i x : Int) : Int := if ¬ ((0 ≤ ch ∧ ch ≤ 2) ∧ 0 ≤ x ∧ x ≤ 1) then -1 else if i = -1 then ((a.2.2.2 x.toNat ch).length : Int) else if 0 ≤ i ∧ i < ((a.2.2.2 x.toNat ch).length : Int) then (a.2.2.2 x.toNat ch).getD i.toNat 0 else -1
theorem pa_sum_b {f : Int → Int} {m : Int} (hm : 0 ≤ m) : ∀ n : Nat, n ≤ 8 → (∀ i : Nat, i < n → 0 ≤ f i ∧ f i ≤ 999) → 0 ≤ pa_sum f n ∧ pa_sum f n ≤ 999 * n
  | 0, _, _ => ⟨Int.le_refl _, Int.le_refl _⟩
  | n + 1, h8, h => by
    have h1 := pa_sum_b hm n (by omega) (fun i hi => h i (by omega))
    have h2 := h n (by omega)
    unfold pa_sum
    push_cast
    omega
theorem pa_outs_b {a : pa_M} (h : pa_wf0 a) : 0 ≤ pa_outs a ∧ pa_outs a ≤ 8000 := by
  have h8 := h.1
  have := pa_sum_b (f := fun c => (a.2.1 c).1 5) (m := 0) (Int.le_refl _) (a.1 4).toNat (by omega) (fun i hi => (h.2.2.1 i (by omega) (by omega)).1.2.2.2.2.1)
  unfold pa_outs
  omega
section
variable {d M q : Nat} {Φ : Option pe_V → pe_H → Prop} {σ : pe_H} {y : Nat → Int → Int} {a : pa_M} {c n : Int}
theorem pm_RFs_at {w : Int → Int × List Int} {o : Int} : ∀ (fs : List pa_F) (ub : Int) (i : Nat), pm_RFs y w o fs ub → i < fs.length → ∃ ub', ub' ≤ ub ∧ pm_RFr y w (o + i) ub' (fs.getD (fs.length - 1 - i) (pa_nf 0 []))
  | [], _, _, _, h => absurd h (Nat.not_lt_zero _)
  | f :: fs, ub, i, h, hi => by
    rw [List.length_cons] at hi ⊢
    by_cases e : i = fs.length
    · rw [show fs.length + 1 - 1 - i = 0 by omega, e]
      exact ⟨ub, Int.le_refl _, h.1⟩
    · obtain ⟨u, hu, h2⟩ := pm_RFs_at fs _ i h.2 (by omega)
      rw [show fs.length + 1 - 1 - i = (fs.length - 1 - i) + 1 by omega, List.getD_cons_succ]
      refine ⟨u, ?_, h2⟩
      refine Int.le_trans hu ?_
      unfold pr_nb
      split
      · have h3 := h.1.2.2
        unfold pr_hl at h3
        omega
      · exact Int.le_refl _
/-- allOuts -/
theorem c228 (hF : pm_F M σ) (hM : pm_R y a) (hwf : pa_wf0 a) (k : Φ (some (.inl (pa_outs a))) (pm_h M σ q y)) : pe_M (d + 1) 228 [.inr (.inr M)] (pm_h M σ q y) Φ := by
  have h8 := hwf.1
  have e4 := hM.cnt.1
  have loop : ∀ (m i : Nat) (v : Int), (i : Int) + m = a.1 4 → v = pa_sum (fun c => (a.2.1 c).1 5) i → pe_X d 228 (4, [some (.inr (.inr M)), some (.inl v), some (.inl (i : Int))], [], pm_h M σ q y) Φ := by
    intro m
    induction m with
    | zero =>
      intro i v hi hv
      refine b228_4 hF (k1 := fun _ => ?_) (k2 := fun r => by omega)
      refine b228_27 hF (k := ?_)
      unfold pa_outs at k
      rw [show (a.1 4).toNat = i by omega, ← hv] at k
      exact k
    | succ m ih =>
      intro i v hi hv
      have i2 := (hM.nn (by omega : 0 ≤ (i : Int)) (by omega)).1.1.2.2.2.2.1
      refine b228_4 hF (k1 := fun r => by omega) (k2 := fun _ => ?_)
      refine b228_12 hF (k := ?_)
      rw [i2]
      exact ih (i + 1) _ (by push_cast; omega) (by rw [hv]; rfl)
  refine pe_M_of ck228 (Nat.le_of_ble_eq_true rfl) ?_
  refine b228_0 hF (k := ?_)
  exact loop (a.1 4).toNat 0 0 (by omega) rfl
/-- waitingBits -/
theorem c231 (hF : pm_F M σ) (hM : pm_R y a) (hwf : pa_wf0 a) (k : Φ (some (.inl (pa_bits (pa_isWait a) (a.1 4).toNat))) (pm_h M σ q y)) : pe_M (d + 3) 231 [.inr (.inr M)] (pm_h M σ q y) Φ := by
  have e4 := hM.cnt.1
  have h8 := hwf.1
  have loop : ∀ (m i : Nat), (i : Int) + m = a.1 4 → pe_X (d + 2) 231 (4, [some (.inr (.inr M)), some (.inl (pa_bits (pa_isWait a) i)), some (.inl (i : Int))], [], pm_h M σ q y) Φ := by
    intro m
    induction m with
    | zero =>
      intro i hi
      refine b231_4 hF (k1 := fun _ => ?_) (k2 := fun r => by omega)
      refine b231_36 hF (k := ?_)
      rw [show (a.1 4).toNat = i by omega] at k
      exact k
    | succ m ih =>
      intro i hi
      have hb := pa_bits_b (pa_isWait a) i
      have hb5 := pa_bits_255 (pa_isWait a) (n := i) (by omega)
      refine b231_4 hF (k1 := fun r => by omega) (k2 := fun _ => ?_)
      refine b231_12 hF (k := ?_)
      refine c194 hF hM hwf (by omega) (by omega) (fun r => ?_) (fun r => ?_)
      · refine b231_18 hF (k1 := fun r => by omega) (k2 := fun _ => ?_)
        refine b231_21 hF (k := ?_)
        refine b231_28 hF (k := ?_)
        rw [(pb_or (by omega) hb.1 hb.2).1]
        have := ih (i + 1) (by push_cast; omega)
        rw [pa_bits, show pa_isWait a (i : Int) = true from decide_eq_true r, if_pos rfl] at this
        exact this
      · refine b231_18 hF (k1 := fun _ => ?_) (k2 := fun r => absurd rfl r)
        refine b231_27 hF (k := ?_)
        refine b231_28 hF (k := ?_)
        rw [pb_or_z hb5.1 hb5.2]
        have := ih (i + 1) (by push_cast; omega)
        rw [pa_bits, show pa_isWait a (i : Int) = false from decide_eq_false r, if_neg (by simp), Int.add_zero] at this
        exact this
  refine pe_M_of ck231 (Nat.le_of_ble_eq_true rfl) ?_
  refine b231_0 hF (k := ?_)
  exact loop (a.1 4).toNat 0 (by omega)
/-- count -/
theorem c232 {x : Int} (hF : pm_F M σ) (hM : pm_R y a) (hwf : pa_wf a) (hx : -2147483648 ≤ x ∧ x < 2147483648) (k : ∀ q' y2, pm_Pb y y2 a → Φ (some (.inl (pa_aCount a x))) (pm_h M σ q' y2)) : pe_M (d + 4) 232 [.inr (.inr M), .inl x] (pm_h M σ q y) Φ := by
  have hP := pm_Pb_37 hM hwf
  have h := hP.R.cnt
  unfold pa_aCount at k
  refine pe_M_of ck232 (Nat.le_of_ble_eq_true rfl) ?_
  refine b232_0 hF (k0 := fun r => ?_) (k1 := fun r => ?_) (k2 := fun r => ?_) (k3 := fun r => ?_) (k4 := fun r => ?_) (k5 := fun r => ?_) (kd := fun r0 r1 r2 r3 r4 r5 => ?_)
  · refine b232_44 hF (k := ?_)
    rw [if_pos r] at k
    rw [h.1]; exact k _ _ hP
  · refine b232_49 hF (k := ?_)
    rw [if_neg (by omega), if_pos r] at k
    rw [h.2.2]; exact k _ _ hP
  · refine b232_54 hF (k := ?_)
    rw [if_neg (by omega), if_neg (by omega), if_pos r] at k
    rw [h.2.1]; exact k _ _ hP
  · rw [if_neg (by omega), if_neg (by omega), if_neg (by omega), if_pos r] at k
    refine b232_59 hF (k := ?_)
    refine pe_M.up (c141 (d := 0) hF hP.R hwf.1 ?_) (by omega)
    refine b232_63 hF (k := ?_)
    exact k _ _ hP
  · rw [if_neg (by omega), if_neg (by omega), if_neg (by omega), if_neg (by omega), if_pos r] at k
    refine b232_64 hF (k := ?_)
    refine pe_M.up (c231 (d := 0) hF hP.R hwf.1 ?_) (by omega)
    refine b232_68 hF (k := ?_)
    exact k _ _ hP
  · rw [if_neg (by omega), if_neg (by omega), if_neg (by omega), if_neg (by omega), if_neg (by omega), if_pos r] at k
    refine b232_69 hF (k := ?_)
    refine pe_M.up (c228 (d := 0) hF hP.R hwf.1 ?_) (by omega)
    refine b232_73 hF (k := ?_)
    exact k _ _ hP
  · rw [if_neg r0, if_neg r1, if_neg r2, if_neg r3, if_neg r4, if_neg r5] at k
    refine b232_74 hF (k := ?_)
    exact k _ _ hP
/-- coroutine -/
theorem c196 {x : Int} (hF : pm_F M σ) (hM : pm_R y a) (hwf : pa_wf a) (hc : -2147483648 ≤ c ∧ c < 2147483648) (hx : -2147483648 ≤ x ∧ x < 2147483648) (k : ∀ q' y2, pm_Pb y y2 a → Φ (some (.inl (pa_aCo a c x))) (pm_h M σ q' y2)) : pe_M (d + 4) 196 [.inr (.inr M), .inl c, .inl x] (pm_h M σ q y) Φ := by
  have h8 := hwf.1.1
  have hP := pm_Pb_37 hM hwf
  unfold pa_aCo at k
  have hno : ¬ ((0 ≤ c ∧ c < a.1 4) ∧ 0 ≤ x ∧ x ≤ 11) → pe_X (d + 3) 196 (25, [some (.inr (.inr M)), some (.inl c), some (.inl x)], [], pm_h M σ q (pm_u y 0 37 0)) Φ := fun h => by
    rw [if_pos h] at k
    refine b196_25 hF (k := ?_)
    exact k _ _ hP
  have e4 := hP.R.cnt.1
  refine pe_M_of ck196 (Nat.le_of_ble_eq_true rfl) ?_
  refine b196_0 hF (k := ?_)
  generalize pm_u y 0 37 0 = z at *
  refine pe_M.up (c138 (d := 0) hF (by omega) hc (fun r => ?_) (fun r => ?_)) (by omega)
  · refine b196_10 hF (k1 := fun r => by omega) (k2 := fun _ => ?_)
    refine b196_13 hF (k := ?_)
    refine pe_M.up (c134 (d := 0) hF (by omega) (by omega) (by omega) (fun rx => ?_) (fun rx => ?_)) (by omega)
    · refine b196_22 hF (k1 := fun _ => ?_) (k2 := fun r => by omega)
      rw [if_neg (by omega)] at k
      have h1 : c < a.1 4 := by omega
      obtain ⟨⟨⟨a0, a2, a3, a4, a5, a6, a7, a8⟩, a12⟩, a14⟩ := hP.R.nn r.1 h1
      have hwc := (hwf.1.2.2.1 c r.1 h1).1
      have hk := hwc.2.2.2.2.2.2.1
      have hf := hwc.2.2.2.2.2.2.2.1
      refine b196_27 hF (k0 := fun r => ?_) (k1 := fun r => ?_) (k2 := fun r => ?_) (k3 := fun r => ?_) (k4 := fun r => ?_) (k5 := fun r => ?_) (k6 := fun r => ?_) (kd := fun r0 r1 r2 r3 r4 r5 r6 => ?_)
      · refine b196_72 hF (k := ?_)
        rw [if_pos r] at k
        rw [a0]; exact k _ _ hP
      · refine b196_79 hF (k := ?_)
        rw [if_neg (by omega), if_pos r] at k
        rw [a7]; exact k _ _ hP
      · refine b196_86 hF (k := ?_)
        rw [if_neg (by omega), if_neg (by omega), if_pos r] at k
        rw [a8]; exact k _ _ hP
      · refine b196_93 hF (k := ?_)
        rw [if_neg (by omega), if_neg (by omega), if_neg (by omega), if_pos r] at k
        refine pe_M.up (c142 (d := 0) hF (by omega) (by omega) (by omega) (by omega) ?_) (by omega)
        refine b196_98 hF (k := ?_)
        rw [a7, a8]; exact k _ _ hP
      · refine b196_102 hF (k := ?_)
        rw [if_neg (by omega), if_neg (by omega), if_neg (by omega), if_neg (by omega), if_pos r] at k
        rw [a14]; exact k _ _ hP
      · rw [if_neg (by omega), if_neg (by omega), if_neg (by omega), if_neg (by omega), if_neg (by omega), if_pos r] at k
        refine b196_109 hF (k := ?_)
        refine pe_M.up (c194 (d := 0) hF hP.R hwf.1 (by omega) h1 (fun rw => ?_) (fun rw => ?_)) (by omega)
        · refine b196_114 hF (k1 := fun r => by omega) (k2 := fun _ => ?_)
          refine b196_117 hF (k := ?_)
          refine b196_128 hF (k := ?_)
          rw [a12 rw.1 rw.2]; exact k _ _ hP
        · refine b196_114 hF (k1 := fun _ => ?_) (k2 := fun r => absurd rfl r)
          refine b196_126 hF (k := ?_)
          refine b196_128 hF (k := ?_)
          rw [hwc.2.2.2.2.2.2.2.2 (by omega)] at k
          exact k _ _ hP
      · rw [if_neg (by omega), if_neg (by omega), if_neg (by omega), if_neg (by omega), if_neg (by omega), if_neg (by omega), if_pos r] at k
        refine b196_129 hF (k := ?_)
        refine pe_M.up (c193 (d := 0) hF hP.R hwf.1 (by omega) h1 ?_) (by omega)
        refine b196_134 hF (k := ?_)
        exact k _ _ hP
      · rw [if_neg r0, if_neg r1, if_neg r2, if_neg r3, if_neg r4, if_neg r5, if_neg r6] at k
        refine b196_135 hF (k := ?_)
        refine pe_M.up (c195 (d := 0) hF hP.R hwf.1 (by omega) h1 hx ?_) (by omega)
        refine b196_141 hF (k := ?_)
        exact k _ _ hP
    · refine b196_22 hF (k1 := fun r => absurd rfl r) (k2 := fun _ => ?_)
      exact hno (by omega)
  · refine b196_10 hF (k1 := fun _ => ?_) (k2 := fun r => absurd rfl r)
    exact hno (by omega)
/-- frame -/
theorem c197 {i x : Int} (hF : pm_F M σ) (hM : pm_R y a) (hwf : pa_wf a) (hc : -2147483648 ≤ c ∧ c < 2147483648) (hi : -2147483648 ≤ i ∧ i < 2147483648) (hx : -2147483648 ≤ x ∧ x < 2147483648) (k : ∀ q' y2, pm_Pb y y2 a → Φ (some (.inl (pa_aFrame a c i x))) (pm_h M σ q' y2)) : pe_M (d + 4) 197 [.inr (.inr M), .inl c, .inl i, .inl x] (pm_h M σ q y) Φ := by
  have h8 := hwf.1.1
  have hP := pm_Pb_37 hM hwf
  unfold pa_aFrame at k
  have hno : ¬ ((0 ≤ c ∧ c < a.1 4) ∧ (0 ≤ x ∧ x ≤ 4) ∧ 0 ≤ i ∧ i < ((a.2.1 c).2.2.length : Int)) → pe_X (d + 3) 197 (55, [some (.inr (.inr M)), some (.inl c), some (.inl i), some (.inl x), none], [], pm_h M σ q (pm_u y 0 37 0)) Φ := fun h => by
    rw [if_pos h] at k
    refine b197_55 hF (k := ?_)
    exact k _ _ hP
  have e4 := hP.R.cnt.1
  refine pe_M_of ck197 (Nat.le_of_ble_eq_true rfl) ?_
  refine b197_0 hF (k := ?_)
  generalize pm_u y 0 37 0 = z at *
  refine pe_M.up (c138 (d := 0) hF (by omega) hc (fun r => ?_) (fun r => ?_)) (by omega)
  · refine b197_10 hF (k1 := fun r => by omega) (k2 := fun _ => ?_)
    refine b197_13 hF (k := ?_)
    refine pe_M.up (c134 (d := 0) hF (by omega) (by omega) (by omega) (fun rx => ?_) (fun rx => ?_)) (by omega)
    · refine b197_22 hF (k1 := fun r => by omega) (k2 := fun _ => ?_)
      refine b197_25 hF (k := ?_)
      refine pe_M.up (c138 (d := 0) hF (by omega) hc (fun _ => ?_) (fun r2 => absurd r r2)) (by omega)
      refine b197_37 hF (k1 := fun r => by omega) (k2 := fun _ => ?_)
      refine b197_40 hF (k := ?_)
      have h1 : c < a.1 4 := by omega
      have a14 := (hP.R.nn r.1 h1).2
      have hl := (hwf.1.2.2.1 c r.1 h1).2.1
      refine b197_45 hF (k := ?_)
      refine pe_M.up (c134 (d := 0) hF (by omega) (by omega) (by omega) (fun ri => ?_) (fun ri => ?_)) (by omega)
      · refine b197_52 hF (k1 := fun _ => ?_) (k2 := fun r => by omega)
        rw [if_neg (by omega)] at k
        obtain ⟨w, n, hR, hn⟩ := hP.R
        have hp := pa_pots_0 (a := a)
        obtain ⟨ub, hub, ⟨b1, b2, b3, b4⟩, b5, b6⟩ := pm_RFs_at _ _ i.toNat (hR.co r.1 h1).2.2.2 (by omega)
        rw [show 6 * c + ((i.toNat : Nat) : Int) = 6 * c + i by omega] at b1 b2 b3 b4 b5 b6
        have hst := hR.st
        refine b197_57 hF (k0 := fun r => ?_) (k1 := fun r => ?_) (k2 := fun r => ?_) (k3 := fun r => ?_) (kd := fun r0 r1 r2 r3 => ?_)
        · refine b197_96 hF (k := ?_)
          rw [if_pos r] at k
          rw [b1]; exact k _ _ hP
        · refine b197_104 hF (k := ?_)
          rw [if_neg (by omega), if_pos r] at k
          rw [b2]; exact k _ _ hP
        · refine b197_112 hF (k := ?_)
          rw [if_neg (by omega), if_neg (by omega), if_pos r] at k
          rw [b3]; exact k _ _ hP
        · refine b197_120 hF (k := ?_)
          rw [if_neg (by omega), if_neg (by omega), if_neg (by omega), if_pos r] at k
          rw [b4]; exact k _ _ hP
        · rw [if_neg r0, if_neg r1, if_neg r2, if_neg r3] at k
          have b6 : pr_hl w (6 * c + i) (z 20 (6 * c + i) - 2) ub (pa_fr (a.2.1 c).2.2 i).2.2 := b6
          rcases b6 with ⟨g1, g2⟩ | ⟨g1, g2⟩ | ⟨g1, g2, g3, g4, g5⟩
          · refine b197_128 hF (k1 := fun r => by omega) (k2 := fun _ => ?_)
            refine b197_139 hF (k := ?_)
            refine b197_166 hF (k := ?_)
            rw [g2] at k
            rw [show z 20 (6 * c + i) = 0 by omega]
            exact k _ _ hP
          · refine b197_128 hF (k1 := fun r => by omega) (k2 := fun _ => ?_)
            refine b197_139 hF (k := ?_)
            refine b197_166 hF (k := ?_)
            rw [g2] at k
            rw [show z 20 (6 * c + i) = 1 by omega]
            exact k _ _ hP
          · refine b197_128 hF (k1 := fun _ => ?_) (k2 := fun r => by omega)
            refine b197_149 hF (k := ?_)
            refine b197_166 hF (k := ?_)
            rw [g4] at k
            obtain ⟨x1, l1, hxl⟩ := List.exists_cons_of_ne_nil g5
            have ht := (pr_st_tail hst g1 (by omega) hxl).1
            rw [hxl] at k
            rw [← ht]
            exact k _ _ hP
      · refine b197_52 hF (k1 := fun r => absurd rfl r) (k2 := fun _ => ?_)
        exact hno (by omega)
    · refine b197_22 hF (k1 := fun _ => ?_) (k2 := fun r => absurd rfl r)
      exact hno (by omega)
  · refine b197_10 hF (k1 := fun _ => ?_) (k2 := fun r => absurd rfl r)
    exact hno (by omega)
/-- cause -/
theorem c198 {i : Int} (hF : pm_F M σ) (hM : pm_R y a) (hwf : pa_wf a) (hc : -2147483648 ≤ c ∧ c < 2147483648) (hi : -2147483648 ≤ i ∧ i < 2147483648) (k : ∀ q' y2, pm_Pb y y2 a → Φ (some (.inl (pa_aCause a c i))) (pm_h M σ q' y2)) : pe_M (d + 4) 198 [.inr (.inr M), .inl c, .inl i] (pm_h M σ q y) Φ := by
  have h8 := hwf.1.1
  have hP := pm_Pb_37 hM hwf
  unfold pa_aCause at k
  have hno : ¬ ((0 ≤ c ∧ c < a.1 4) ∧ 0 ≤ i ∧ i < ((a.2.1 c).2.1.length : Int)) → pe_X (d + 3) 198 (30, [some (.inr (.inr M)), some (.inl c), some (.inl i), none, none], [], pm_h M σ q (pm_u y 0 37 0)) Φ := fun h => by
    rw [if_pos h] at k
    refine b198_30 hF (k := ?_)
    exact k _ _ hP
  have e4 := hP.R.cnt.1
  refine pe_M_of ck198 (Nat.le_of_ble_eq_true rfl) ?_
  refine b198_0 hF (k := ?_)
  generalize pm_u y 0 37 0 = z at *
  refine pe_M.up (c138 (d := 0) hF (by omega) hc (fun r => ?_) (fun r => ?_)) (by omega)
  · refine b198_10 hF (k1 := fun r => by omega) (k2 := fun _ => ?_)
    refine b198_13 hF (k := ?_)
    have h1 : c < a.1 4 := by omega
    obtain ⟨w, n, hR, hn⟩ := hP.R
    have hp := pa_pots_0 (a := a)
    have hst := hR.st
    obtain ⟨b1, b2, b3, b4⟩ := hR.co r.1 h1
    have hlen : ((a.2.1 c).2.1.length : Int) ≤ 512 := by
      rcases b3 with e | ⟨-, e1, e2, e3, e4⟩
      · rw [e]; simp
      · have := pr_st_len hst (n.toNat) _ (by omega) e1 e2
        rw [e4] at this
        omega
    refine pe_M.up (c193 (d := 0) hF hP.R hwf.1 r.1 h1 ?_) (by omega)
    refine b198_21 hF (k := ?_)
    refine pe_M.up (c134 (d := 0) hF (by omega) (by omega) (by omega) (fun ri => ?_) (fun ri => ?_)) (by omega)
    · refine b198_27 hF (k1 := fun _ => ?_) (k2 := fun r => by omega)
      refine b198_32 hF (k := ?_)
      rw [if_neg (by omega)] at k
      have loop : ∀ (m j : Nat) (f : Int) (o1 : Option pe_V), (j : Int) + m = i → (0 ≤ f ∧ f < n) → (w f).2 = (a.2.1 c).2.1.drop j → pe_X (d + 3) 198 (42, [some (.inr (.inr M)), o1, some (.inl i), some (.inl f), some (.inl (j : Int))], [], pm_h M σ q z) Φ := by
        intro m
        induction m with
        | zero =>
          intro j f o1 hj hf hw
          refine b198_42 hF (k1 := fun _ => ?_) (k2 := fun r => by omega)
          refine b198_61 hF (k := ?_)
          have hdr : (a.2.1 c).2.1.drop j = (a.2.1 c).2.1[j]'(by omega) :: (a.2.1 c).2.1.drop (j + 1) := List.drop_eq_getElem_cons (by omega)
          have ht := (pr_st_tail hst hf.1 hf.2 (hw.trans hdr)).1
          rw [← ht]
          rw [show i.toNat = j by omega, List.getD_eq_getElem?_getD, List.getElem?_eq_getElem (by omega)] at k
          exact k _ _ hP
        | succ m ih =>
          intro j f o1 hj hf hw
          have hdr : (a.2.1 c).2.1.drop j = (a.2.1 c).2.1[j]'(by omega) :: (a.2.1 c).2.1.drop (j + 1) := List.drop_eq_getElem_cons (by omega)
          have ht := (pr_st_tail hst hf.1 hf.2 (hw.trans hdr)).2
          refine b198_42 hF (k1 := fun r => by omega) (k2 := fun _ => ?_)
          refine b198_48 hF (k := ?_)
          rcases ht with ⟨t1, t2⟩ | ⟨t1, t2, t3⟩
          · have := congrArg List.length t2
            rw [List.length_drop, List.length_nil] at this
            omega
          · exact ih (j + 1) _ _ (by push_cast; omega) ⟨t1, by omega⟩ t3
      rcases b3 with e | ⟨-, e1, e2, e3, e4⟩
      · rw [e] at ri
        simp at ri
        omega
      · exact loop i.toNat 0 _ _ (by omega) ⟨e1, e2⟩ (by rw [e4]; rfl)
    · refine b198_27 hF (k1 := fun r => absurd rfl r) (k2 := fun _ => ?_)
      exact hno (by omega)
  · refine b198_10 hF (k1 := fun _ => ?_) (k2 := fun r => absurd rfl r)
    exact hno (by omega)
/-- channel -/
theorem c199 {ch i x : Int} (hF : pm_F M σ) (hM : pm_R y a) (hwf : pa_wf a) (hc : -2147483648 ≤ ch ∧ ch < 2147483648) (hi : -2147483648 ≤ i ∧ i < 2147483648) (hx : -2147483648 ≤ x ∧ x < 2147483648) (k : ∀ q' y2, pm_Pb y y2 a → Φ (some (.inl (pa_aChan a ch i x))) (pm_h M σ q' y2)) : pe_M (d + 4) 199 [.inr (.inr M), .inl ch, .inl i, .inl x] (pm_h M σ q y) Φ := by
  have h8 := hwf.1.1
  have hP := pm_Pb_37 hM hwf
  unfold pa_aChan at k
  have hno : ¬ ((0 ≤ ch ∧ ch ≤ 2) ∧ 0 ≤ x ∧ x ≤ 1) → pe_X (d + 3) 199 (27, [some (.inr (.inr M)), some (.inl ch), some (.inl i), some (.inl x), none], [], pm_h M σ q (pm_u y 0 37 0)) Φ := fun h => by
    rw [if_pos h] at k
    refine b199_27 hF (k := ?_)
    exact k _ _ hP
  refine pe_M_of ck199 (Nat.le_of_ble_eq_true rfl) ?_
  refine b199_0 hF (k := ?_)
  generalize pm_u y 0 37 0 = z at *
  refine pe_M.up (c134 (d := 0) hF (by omega) (by omega) (by omega) (fun r => ?_) (fun r => ?_)) (by omega)
  · refine b199_14 hF (k1 := fun r => by omega) (k2 := fun _ => ?_)
    refine b199_17 hF (k := ?_)
    refine pe_M.up (c134 (d := 0) hF (by omega) (by omega) (by omega) (fun rx => ?_) (fun rx => ?_)) (by omega)
    · refine b199_24 hF (k1 := fun _ => ?_) (k2 := fun r => by omega)
      refine b199_29 hF (k1 := fun ri => ?_) (k2 := fun ri => ?_)
      · obtain ⟨w, n, hR, hn⟩ := hP.R
        obtain ⟨b1, b2⟩ := hR.2.2.2.2 x.toNat (by omega) ch (by omega) (by omega)
        have hl := hwf.w3.ql x.toNat (by omega) ch (by omega) (by omega)
        rw [show 3 * ((x.toNat : Nat) : Int) + ch = ch + 3 * x by omega] at b1 b2
        rw [if_neg (by omega), if_neg ri] at k
        refine b199_51 hF (k := ?_)
        refine pe_M.up (c134 (d := 0) hF (by omega) (by omega) (by omega) (fun rr => ?_) (fun rr => ?_)) (by omega)
        · rw [if_pos (by omega)] at k
          refine b199_67 hF (k1 := fun r => by omega) (k2 := fun _ => ?_)
          refine b199_70 hF (k := ?_)
          refine b199_86 hF (k := ?_)
          have := b2 i.toNat (by omega)
          rw [show 8 * (ch + 3 * x) + ((i.toNat : Nat) : Int) = 8 * (ch + 3 * x) + i by omega] at this
          rw [this]
          exact k _ _ hP
        · rw [if_neg (by omega)] at k
          refine b199_67 hF (k1 := fun _ => ?_) (k2 := fun r => absurd rfl r)
          refine b199_85 hF (k := ?_)
          refine b199_86 hF (k := ?_)
          exact k _ _ hP
      · obtain ⟨w, n, hR, hn⟩ := hP.R
        obtain ⟨b1, b2⟩ := hR.2.2.2.2 x.toNat (by omega) ch (by omega) (by omega)
        rw [show 3 * ((x.toNat : Nat) : Int) + ch = ch + 3 * x by omega] at b1
        rw [if_neg (by omega), if_pos ri] at k
        refine b199_41 hF (k := ?_)
        refine b199_86 hF (k := ?_)
        rw [b1]
        exact k _ _ hP
    · refine b199_24 hF (k1 := fun r => absurd rfl r) (k2 := fun _ => ?_)
      exact hno (by omega)
  · refine b199_14 hF (k1 := fun _ => ?_) (k2 := fun r => absurd rfl r)
    exact hno (by omega)
/-- program -/
theorem c191 {p i x : Int} (hF : pm_F M σ) (hM : pm_R y a) (hwf : pa_wf a) (hp : -2147483648 ≤ p ∧ p < 2147483648) (hi : -2147483648 ≤ i ∧ i < 2147483648) (hx : -2147483648 ≤ x ∧ x < 2147483648) (k : ∀ q' y2, pm_Pb y y2 a → Φ (some (.inl (pa_aProg a p i x))) (pm_h M σ q' y2)) : pe_M (d + 4) 191 [.inr (.inr M), .inl p, .inl i, .inl x] (pm_h M σ q y) Φ := by
  have hP := pm_Pb_37 hM hwf
  unfold pa_aProg at k
  have hno : ¬ ((0 ≤ p ∧ p ≤ 4) ∧ (-1 ≤ i ∧ i < ((a.2.2.1 p).length : Int)) ∧ 0 ≤ x ∧ x ≤ 1) → pe_X (d + 3) 191 (63, [some (.inr (.inr M)), some (.inl p), some (.inl i), some (.inl x)], [], pm_h M σ q (pm_u y 0 37 0)) Φ := fun h => by
    rw [if_pos h] at k
    refine b191_63 hF (k := ?_)
    exact k _ _ hP
  refine pe_M_of ck191 (Nat.le_of_ble_eq_true rfl) ?_
  refine b191_0 hF (k := ?_)
  generalize pm_u y 0 37 0 = z at *
  refine pe_M.up (c134 (d := 0) hF (by omega) (by omega) (by omega) (fun r => ?_) (fun r => ?_)) (by omega)
  · refine b191_14 hF (k1 := fun r => by omega) (k2 := fun _ => ?_)
    refine b191_17 hF (k := ?_)
    refine pe_M.up (c134 (d := 0) hF (by omega) (by omega) (by omega) (fun _ => ?_) (fun r2 => absurd r r2)) (by omega)
    obtain ⟨w, n, hR, hn⟩ := hP.R
    obtain ⟨b1, b2⟩ := hR.2.2.2.1 p r.1 (by omega)
    have hl := (hwf.1.2.2.2 p r.1 (by omega)).1
    refine b191_35 hF (k1 := fun r => by omega) (k2 := fun _ => ?_)
    refine b191_38 hF (k := ?_)
    refine b191_43 hF (k := ?_)
    refine pe_M.up (c134 (d := 0) hF (by omega) (by omega) (by omega) (fun ri => ?_) (fun ri => ?_)) (by omega)
    · refine b191_50 hF (k1 := fun r => by omega) (k2 := fun _ => ?_)
      refine b191_53 hF (k := ?_)
      refine pe_M.up (c134 (d := 0) hF (by omega) (by omega) (by omega) (fun rx => ?_) (fun rx => ?_)) (by omega)
      · rw [if_neg (by omega)] at k
        refine b191_60 hF (k1 := fun _ => ?_) (k2 := fun r => by omega)
        refine b191_65 hF (k1 := fun r0 => ?_) (k2 := fun r0 => ?_)
        · rw [if_neg (by omega)] at k
          obtain ⟨g1, g2⟩ := b2 i r0 (by omega)
          refine b191_78 hF (k1 := fun r1 => ?_) (k2 := fun r1 => ?_)
          · rw [if_neg r1] at k
            refine b191_96 hF (k := ?_)
            refine b191_107 hF (k := ?_)
            have g2 : z 3 (16 * p + i) = _ := g2
            rw [g2]; exact k _ _ hP
          · rw [if_pos r1] at k
            refine b191_82 hF (k := ?_)
            refine b191_107 hF (k := ?_)
            have g1 : z 2 (16 * p + i) = _ := g1
            rw [g1]; exact k _ _ hP
        · rw [if_pos (by omega)] at k
          refine b191_69 hF (k := ?_)
          refine b191_107 hF (k := ?_)
          rw [b1]; exact k _ _ hP
      · refine b191_60 hF (k1 := fun r => absurd rfl r) (k2 := fun _ => ?_)
        exact hno (by omega)
    · refine b191_50 hF (k1 := fun _ => ?_) (k2 := fun r => absurd rfl r)
      exact hno (by omega)
  · refine b191_14 hF (k1 := fun _ => ?_) (k2 := fun r => absurd rfl r)
    exact hno (by omega)
end
