/-! THE MODEL: going deeper, yielding, a step -/
def pm_yl (c : Int) (y y' : Nat → Int → Int) (st : Int) : Prop := (st = 2 → y' 0 30 = pe_or (y 0 30) (pe_shl 1 c)) ∧ (st ≠ 2 → y' 0 30 = y 0 30)
theorem pm_yl_no {c st : Int} {y y' : Nat → Int → Int} (h : pm_fr pm_Zt y y') (h2 : st ≠ 2) : pm_yl c y y' st := ⟨fun e => absurd e h2, fun _ => h 0 30 (by unfold pm_Zt; omega)⟩
section
variable {d M q : Nat} {Φ : Option pe_V → pe_H → Prop} {σ : pe_H} {y y' : Nat → Int → Int} {c n : Int} {a : pa_M}
/-- frameComes -/
theorem c146 {p : Int} (hF : pm_F M σ) (hM : pm_R y a) (hwf : pa_wf0 a) (h0 : 0 ≤ c) (h1 : c < a.1 4) (hl : (a.2.1 c).2.2.length < 6) (hne : (a.2.1 c).2.2 ≠ []) (hp0 : 0 ≤ p) (hp5 : p < 5) (k : ∀ y2, pm_fr pm_Zt y y2 → pm_R y2 (pa_cw a c ((a.2.1 c).1, (a.2.1 c).2.1, pa_nf p (a.2.2.1 p) :: (a.2.1 c).2.2)) → Φ none (pm_h M σ q y2)) : pe_M (d + 1) 146 [.inr (.inr M), .inl c, .inl p] (pm_h M σ q y) Φ := by
  have h8 := hwf.1
  have h14 := (hM.nn h0 h1).2
  have hpush := fun z => pm_R_push (z := z) hM hwf h0 h1 hl hne hp0 hp5
  generalize hN : (a.2.1 c).2.2.length = N at *
  have loop : ∀ (r : Nat) (i : Int) (z : Nat → Int → Int), i + r = 16 → 0 ≤ i → pm_fr (fun k j => (k = 14 ∧ j = c) ∨ (15 ≤ k ∧ k ≤ 20 ∧ j = 6 * c + (N : Int)) ∨ (21 ≤ k ∧ k ≤ 22 ∧ 16 * (6 * c + (N : Int)) ≤ j ∧ j < 16 * (6 * c + (N : Int)) + 16)) y z → (z 14 c = N + 1 ∧ z 15 (6 * c + (N : Int)) = p ∧ z 16 (6 * c + (N : Int)) = y 1 p ∧ z 17 (6 * c + (N : Int)) = 0 ∧ z 18 (6 * c + (N : Int)) = 0 ∧ z 19 (6 * c + (N : Int)) = 0 ∧ z 20 (6 * c + (N : Int)) = 0) → (∀ j, 0 ≤ j → j < i → z 21 (16 * (6 * c + (N : Int)) + j) = y 2 (16 * p + j) ∧ z 22 (16 * (6 * c + (N : Int)) + j) = y 3 (16 * p + j)) → pe_X d 146 (72, [some (.inr (.inr M)), some (.inl c), some (.inl p), some (.inl (6 * c + (N : Int))), some (.inl i)], [], pm_h M σ q z) Φ := by
    intro r
    induction r with
    | zero =>
      intro i z hi hi0 g1 g2 g3
      refine b146_72 hF (k1 := fun _ => ?_) (k2 := fun r => by omega)
      refine b146_133 hF (k := ?_)
      exact k z (pm_fr_mono g1 (fun k j h => by unfold pm_Zt; omega)) (hpush z g1 g2 (fun j j0 j1 => g3 j j0 (by omega)))
    | succ r ih =>
      intro i z hi hi0 g1 g2 g3
      refine b146_72 hF (k1 := fun r => by omega) (k2 := fun _ => ?_)
      refine b146_79 hF (k := ?_)
      refine b146_127 hF (k := ?_)
      have e : ∀ k, k ≠ 21 → k ≠ 22 → (pm_u (pm_u z 21 (16 * (6 * c + (N : Int)) + i) (z 2 (16 * p + i))) 22 (16 * (6 * c + (N : Int)) + i) (z 3 (16 * p + i))) k = z k := fun k k1 k2 => by funext j; simp [pm_u, k1, k2]
      have e2 : z 2 (16 * p + i) = y 2 (16 * p + i) := g1 2 _ (by omega)
      have e3 : z 3 (16 * p + i) = y 3 (16 * p + i) := g1 3 _ (by omega)
      refine ih (i + 1) _ (by omega) (by omega) (pm_fr_then (pm_fr_then g1 (Or.inr (Or.inr ⟨by decide, by decide, by omega, by omega⟩))) (Or.inr (Or.inr ⟨by decide, by decide, by omega, by omega⟩))) ?_ (fun j j0 j1 => ?_)
      · rw [e 14 (by decide) (by decide), e 15 (by decide) (by decide), e 16 (by decide) (by decide), e 17 (by decide) (by decide), e 18 (by decide) (by decide), e 19 (by decide) (by decide), e 20 (by decide) (by decide)]
        exact g2
      · by_cases hj : j = i
        · subst hj
          simp [pm_u, e2, e3]
        · have := g3 j j0 (by omega)
          simp only [pm_u]
          rw [if_neg (by omega), if_neg (by omega), if_neg (by omega), if_neg (by omega)]
          first
            | exact this
            | (rw [if_pos]; exact this)
  refine pe_M_of ck146 (Nat.le_of_ble_eq_true rfl) ?_
  refine b146_0 hF (k := ?_)
  refine b146_29 hF (k := ?_)
  refine b146_62 hF (k := ?_)
  rw [h14]
  refine loop 16 0 _ (by omega) (by omega) ?_ ?_ (fun j j0 j1 => by omega)
  · refine pm_fr_then (pm_fr_then (pm_fr_then (pm_fr_then (pm_fr_then (pm_fr_then (pm_fr_u (Or.inl ⟨rfl, rfl⟩)) ?_) ?_) ?_) ?_) ?_) ?_ <;> exact Or.inr (Or.inl ⟨by decide, by decide, rfl⟩)
  · simp [pm_u]
/-- deeper -/
theorem c161 {p : Int} (hF : pm_F M σ) (hM : pm_R y a) (hwf : pa_wf0 a) (h0 : 0 ≤ c) (h1 : c < a.1 4) (h3 : (a.2.1 c).1 2 < 3) (hp0 : 0 ≤ p) (hp9 : p ≤ 9) (k : ∀ y2, pm_fr pm_Zt y y2 → pm_R y2 (pa_cw a c (pa_into a (a.2.1 c) p)) → Φ none (pm_h M σ q y2)) : pe_M (d + 3) 161 [.inr (.inr M), .inl c, .inl p] (pm_h M σ q y) Φ := by
  have h8 := hwf.1
  have h14 := (hM.nn h0 h1).2
  have hwc := hwf.2.2.1 c h0 h1
  have hl := hwc.2.1
  have hthrow : ∀ x : Int, pa_into a (a.2.1 c) p = pa_throw (a.2.1 c) [x] → pe_X (d + 2) 161 (37, [some (.inr (.inr M)), some (.inl c), some (.inl p)], [.inl x, .inr (.inr M), .inl c, .inr (.inr M)], pm_h M σ q y) Φ := fun x hx => by
    refine b161_37 hF (k := ?_)
    refine cTN hF hM hwf h0 h1 h3 (Or.inl ⟨rfl, rfl⟩) (fun m y1 g => ?_)
    refine b161_41 hF (k := ?_)
    refine g _ _ (fun y2 e1 e3' => ?_)
    refine b161_44 hF (k := ?_)
    refine b161_53 hF (k := ?_)
    refine k y2 e1 ?_
    rw [hx]
    exact e3'
  refine pe_M_of ck161 (Nat.le_of_ble_eq_true rfl) ?_
  refine b161_0 hF (k1 := fun r => ?_) (k2 := fun r => ?_)
  · refine b161_16 hF (k1 := fun r2 => by omega) (k2 := fun _ => ?_)
    refine b161_30 hF (k := ?_)
    refine hthrow 7 ?_
    unfold pa_into
    rw [if_pos (by omega)]
  · refine b161_11 hF (k1 := fun r2 => ?_) (k2 := fun r2 => ?_)
    · refine b161_47 hF (k := ?_)
      refine pe_M.up (c146 (d := 0) hF hM hwf h0 h1 (by omega) (fun r => by have := hwc.2.2.2.1.mpr r; omega) hp0 (by omega) (fun y2 e1 e2 => ?_)) (by omega)
      refine b161_53 hF (k := ?_)
      refine k y2 e1 ?_
      have : pa_into a (a.2.1 c) p = ((a.2.1 c).1, (a.2.1 c).2.1, pa_nf p (a.2.2.1 p) :: (a.2.1 c).2.2) := by
        unfold pa_into
        rw [if_neg (by omega), if_neg (by omega)]
      rw [this]
      exact e2
    · refine b161_16 hF (k1 := fun _ => ?_) (k2 := fun r2 => by omega)
      refine b161_35 hF (k := ?_)
      refine hthrow 6 ?_
      unfold pa_into
      rw [if_neg (by omega), if_pos (by omega)]
/-- yieldOf -/
theorem c143 (hF : pm_F M σ) (h0 : 0 ≤ c) (h8 : c < 8) (h3 : 0 ≤ y 8 c ∧ y 8 c ≤ 999) (hk : 0 ≤ y 5 c ∧ y 5 c ≤ 5) (hf : 0 ≤ y 6 c ∧ y 6 c ≤ 9) (hn : 0 ≤ n ∧ n ≤ 9) (k : Φ (some (.inl (pa_yield (y 5 c) (y 6 c) (Int.tmod (y 8 c + n) 1000)))) (pm_h M σ q y)) : pe_M (d + 1) 143 [.inr (.inr M), .inl c, .inl n] (pm_h M σ q y) Φ := by
  have hu := pa_tmod_b (x := y 8 c + n) (by omega)
  refine pe_M_of ck143 (Nat.le_of_ble_eq_true rfl) ?_
  refine b143_0 hF (k0 := fun r => ?_) (k1 := fun r => ?_) (k2 := fun r => ?_) (kd := fun r0 r1 r2 => ?_)
  · refine b143_44 hF (k := ?_)
    rw [pa_yield, if_neg (by omega), if_pos (by omega)] at k
    exact k
  · refine b143_48 hF (k := ?_)
    rw [pa_yield, if_pos r] at k
    exact k
  · refine b143_44 hF (k := ?_)
    rw [pa_yield, if_neg (by omega), if_pos (by omega)] at k
    exact k
  · refine b143_61 hF (k := ?_)
    rw [pa_yield, if_neg (by omega), if_neg (by omega)] at k
    exact k
/-- held -/
theorem c137 {x m : Int} (hF : pm_F M σ) (hx : -2147483648 ≤ x ∧ x < 2147483648) (hm : -2147483648 ≤ m ∧ m < 2147483648) (k : Φ (some (.inl (if 0 ≤ x then (if x ≤ m then x else m) else 0))) (pm_h M σ q y)) : pe_M (d + 1) 137 [.inl x, .inl m] (pm_h M σ q y) Φ := by
  refine pe_M_of ck137 (Nat.le_of_ble_eq_true rfl) ?_
  refine b137_0 hF (k1 := fun r => ?_) (k2 := fun r => ?_)
  · rw [if_pos r] at k
    refine b137_8 hF (k1 := fun r => ?_) (k2 := fun r => ?_)
    · rw [if_pos r] at k
      refine b137_17 hF (k := ?_)
      exact b137_18 hF (k := k)
    · rw [if_neg r] at k
      refine b137_13 hF (k := ?_)
      exact b137_18 hF (k := k)
  · rw [if_neg r] at k
    refine b137_4 hF (k := ?_)
    exact b137_18 hF (k := k)
/-- yields -/
theorem c162 (hF : pm_F M σ) (hM : pm_R y a) (hwf : pa_wf0 a) (h0 : 0 ≤ c) (h1 : c < a.1 4) (hn0 : 0 ≤ n) (hn9 : n ≤ 9) (k : ∀ y2, pm_fr pm_Zs y y2 → y2 0 30 = pe_or (y 0 30) (pe_shl 1 c) → pm_R y2 (pa_cw a c (pa_yields (a.2.1 c) n)) → Φ none (pm_h M σ q y2)) : pe_M (d + 2) 162 [.inr (.inr M), .inl c, .inl n] (pm_h M σ q y) Φ := by
  have h8 := hwf.1
  have hwc := hwf.2.2.1 c h0 h1
  obtain ⟨n0, n2, n3, n4, n5, n6, n20, n21, -⟩ := hwc.1
  obtain ⟨⟨a0, a2, a3, a4, a5, a6, a7, a8⟩, b⟩ := (hM.nn h0 h1).1
  have hu := pa_tmod_b (x := y 8 c + n) (by omega)
  refine pe_M_of ck162 (Nat.le_of_ble_eq_true rfl) ?_
  refine b162_0 hF (k := ?_)
  refine pe_M.up (c143 (d := 0) hF h0 (by omega) (by omega) (by omega) (by omega) (by omega) ?_) (by omega)
  generalize hv : pa_yield (y 5 c) (y 6 c) (Int.tmod (y 8 c + n) 1000) = v
  refine b162_11 hF (k := ?_)
  refine pe_M.up (c137 (d := 0) hF (by omega) (by omega) ?_) (by omega)
  rw [if_pos (by omega)]
  have hs : (if y 10 c + 1 ≤ 999 then y 10 c + 1 else 999) = (if (a.2.1 c).1 5 < 999 then (a.2.1 c).1 5 + 1 else 999) := by
    rw [a5]
    by_cases e : (a.2.1 c).1 5 < 999
    · rw [if_pos e, if_pos (by omega)]
    · rw [if_neg e, if_neg (by omega)]
  rw [hs]
  generalize hv5 : (if (a.2.1 c).1 5 < 999 then (a.2.1 c).1 5 + 1 else 999) = v5
  refine b162_31 hF (k := ?_)
  have e30 : (pm_u y 9 c v) 0 30 = y 0 30 := by simp [pm_u]
  rw [e30]
  have hyl : pa_yields (a.2.1 c) n = (pa_s (pa_s (pa_s (a.2.1 c).1 4 v) 5 v5) 2 2, (a.2.1 c).2) := by
    unfold pa_yields
    rw [hv5, ← hv, a7, a8, a3]
  have g1 := pm_R_nu (nu := pa_s (pa_s (pa_s (a.2.1 c).1 4 v) 5 v5) 2 2) (y' := pm_u (pm_u (pm_u y 9 c v) 10 c v5) 7 c 2) hM hwf.w8 h0 h1 (pm_fr_then (pm_fr_then (pm_fr_u ⟨by decide, by decide, rfl⟩) ⟨by decide, by decide, rfl⟩) ⟨by decide, by decide, rfl⟩) (by
    refine ⟨⟨?_, ?_, ?_, ?_, ?_, ?_, ?_, ?_⟩, fun q1 q2 => by simp [pa_s] at q1⟩
    · simpa [pm_u, pa_s] using a0
    · simp [pm_u, pa_s]
    · simpa [pm_u, pa_s] using a3
    · simp [pm_u, pa_s]
    · simp [pm_u, pa_s]
    · simpa [pm_u, pa_s] using a6
    · simpa [pm_u, pa_s] using a7
    · simpa [pm_u, pa_s] using a8)
  have g2 := pm_R_30 (v := pe_or (y 0 30) (pe_shl 1 c)) g1 (pa_wf8_cw hwf.w8 hwc.2.1 hwc.2.2.1)
  refine k _ ?_ (by simp [pm_u]) (by rw [hyl]; exact g2)
  exact pm_fr_then (pm_fr_then (pm_fr_then (pm_fr_u (Or.inl ⟨by decide, by decide⟩)) (Or.inl ⟨by decide, by decide⟩)) (Or.inl ⟨by decide, by decide⟩)) (Or.inr ⟨rfl, by decide⟩)
/-- doesOther -/
theorem c164 {l : Int} {f : pa_F} {fs : List pa_F} (hF : pm_F M σ) (hM : pm_R y a) (hwf : pa_wf3 a) (h0 : 0 ≤ c) (h1 : c < a.1 4) (h3 : (a.2.1 c).1 2 = 1) (hfs : (a.2.1 c).2.2 = f :: fs) (hn0 : 0 ≤ n) (hn9 : n ≤ 9) (hl : l = 100 ∨ l = 103 ∨ l = 106 ∨ l = 115 ∨ l = 121 ∨ l = 114) (k : ∀ y2, pm_fr pm_Zs y y2 → pm_yl c y y2 ((pa_live a c l n (a.2.1 c)).2.1 c |>.1 2) → pm_R y2 (pa_live a c l n (a.2.1 c)) → Φ none (pm_h M σ q y2)) : pe_M (d + 5) 164 [.inr (.inr M), .inl c, .inl (6 * c + (fs.length : Int)), .inl l, .inl n] (pm_h M σ q y) Φ := by
  have h8 := hwf.1.1
  have hwc := hwf.1.2.2.1 c h0 h1
  have hll := hwc.2.1
  rw [hfs, List.length_cons] at hll
  obtain ⟨t9, ⟨t1, t2, t3, t4⟩, tP⟩ := hM.tp h0 h1 hfs
  have hff := pa_wfc_top hwc hfs
  have f3 := hff.2.2.1
  have f4 := hff.2.2.2.1
  refine pe_M_of ck164 (Nat.le_of_ble_eq_true rfl) ?_
  refine b164_0 hF (k0 := fun r => ?_) (k1 := fun r => ?_) (k2 := fun r => ?_) (k3 := fun r => ?_) (k4 := fun r => ?_) (kd := fun r0 r1 r2 r3 r4 => ?_)
  · subst r
    refine b164_92 hF (k := ?_)
    refine pe_M.up (c161 (d := 0) hF hM hwf.1 h0 h1 (by omega) hn0 hn9 (fun y2 e1 e3 => ?_)) (by omega)
    refine b164_99 hF (k := ?_)
    refine b164_139 hF (k := ?_)
    have : pa_live a c 100 n (a.2.1 c) = pa_cw a c (pa_into a (a.2.1 c) n) := by simp [pa_live]
    rw [this] at k
    exact k y2 (pm_fr_mono e1 pm_Zt_Zs) (pm_yl_no e1 (by rw [pa_cw_same]; exact pa_into_st h3)) e3
  · subst r
    refine b164_72 hF (k := ?_)
    refine pe_M.up (c156 (d := 0) hF hM hwf h0 h1 (by omega) hn0 hn9 (fun y2 e1 e3 => ?_)) (by omega)
    refine b164_79 hF (k := ?_)
    refine b164_139 hF (k := ?_)
    have : pa_live a c 103 n (a.2.1 c) = pa_getAt a c (a.2.1 c) n := by simp [pa_live]
    rw [this] at k
    exact k y2 (pm_fr_mono e1 pm_Zt_Zs) (pm_yl_no e1 (pa_getAt_st h3)) e3
  · subst r
    refine b164_82 hF (k := ?_)
    refine pe_M.up (c158 (d := 0) hF hM hwf h0 h1 (by omega) hn0 hn9 (fun y2 e1 e3 => ?_)) (by omega)
    refine b164_89 hF (k := ?_)
    refine b164_139 hF (k := ?_)
    have : pa_live a c 106 n (a.2.1 c) = pa_cw a c (pa_join a c (a.2.1 c) n) := by simp [pa_live]
    rw [this] at k
    exact k y2 (pm_fr_mono e1 pm_Zt_Zs) (pm_yl_no e1 (by rw [pa_cw_same]; exact pa_join_st h3)) e3
  · subst r
    refine b164_62 hF (k := ?_)
    refine pe_M.up (c155 (d := 0) hF hM hwf h0 h1 (by omega) hn0 hn9 (fun y2 e1 e3 => ?_)) (by omega)
    refine b164_69 hF (k := ?_)
    refine b164_139 hF (k := ?_)
    have : pa_live a c 115 n (a.2.1 c) = pa_sendAt a c (a.2.1 c) n := by simp [pa_live]
    rw [this] at k
    exact k y2 (pm_fr_mono e1 pm_Zt_Zs) (pm_yl_no e1 (pa_sendAt_st h3)) e3
  · subst r
    refine b164_52 hF (k := ?_)
    refine pe_M.up (c162 (d := 0) hF hM hwf.1 h0 h1 hn0 hn9 (fun y2 e1 e2 e3 => ?_)) (by omega)
    refine b164_59 hF (k := ?_)
    refine b164_139 hF (k := ?_)
    have : pa_live a c 121 n (a.2.1 c) = pa_cw a c (pa_yields (a.2.1 c) n) := by simp [pa_live]
    rw [this] at k
    exact k y2 e1 ⟨fun _ => e2, fun e => absurd (by rw [pa_cw_same]; simp [pa_yields, pa_s]) e⟩ e3
  · have hl : l = 114 := by omega
    subst hl
    have : pa_live a c 114 n (a.2.1 c) = pa_cw a c (pa_again (a.2.1 c) n) := by simp [pa_live]
    rw [this] at k
    have hst := pa_again_st (p := n) h3
    have hag : pa_again (a.2.1 c) n = if f.1 4 = 0 ∧ f.1 3 < n then ((a.2.1 c).1, (a.2.1 c).2.1, (pa_s (pa_s f.1 3 (f.1 3 + 1)) 2 0, f.2) :: fs) else a.2.1 c := by
      unfold pa_again; rw [hfs]
    have hsame : ¬ (f.1 4 = 0 ∧ f.1 3 < n) → pe_X (d + 4) 164 (139, [some (.inr (.inr M)), some (.inl c), some (.inl (6 * c + (fs.length : Int))), some (.inl 114), some (.inl n)], [], pm_h M σ q y) Φ := fun hno => by
      refine b164_139 hF (k := ?_)
      exact k y (pm_fr_refl _ _) (pm_yl_no (pm_fr_refl _ _) (by rw [pa_cw_same]; exact hst)) (by rw [hag, if_neg hno, pa_cw_id]; exact hM)
    refine b164_102 hF (k1 := fun r => ?_) (k2 := fun r => ?_)
    · exact hsame (by omega)
    · refine b164_111 hF (k1 := fun r2 => ?_) (k2 := fun r2 => ?_)
      · exact hsame (by omega)
      · refine b164_122 hF (k := ?_)
        refine b164_139 hF (k := ?_)
        rw [t3]
        have g1 := pm_R_top (k := 18) (j := 3) (v := f.1 3 + 1) (by decide) hM hwf.1.w8 h0 h1 hfs
        have hff2 : ∀ g ∈ (pa_s f.1 3 (f.1 3 + 1), f.2) :: fs, pa_wff g := fun g hg => by
          rcases List.mem_cons.mp hg with rfl | hg
          · refine ⟨?_, ?_, ?_, ?_, hff.2.2.2.2.1, ?_⟩
            · simp [pa_s]; exact hff.1
            · simp [pa_s]; exact hff.2.1
            · simp [pa_s]; omega
            · simp [pa_s]; exact hff.2.2.2.1
            · simp [pa_s]; exact hff.2.2.2.2.2
          · exact hwc.2.2.1 g (by rw [hfs]; exact List.mem_cons_of_mem _ hg)
        have g2 := pm_R_top (c := c) (f := (pa_s f.1 3 (f.1 3 + 1), f.2)) (fs := fs) (k := 17) (j := 2) (v := 0) (by decide) g1 (pa_wf8_cw hwf.1.w8 (by show (_ :: fs : List pa_F).length ≤ 6; rw [List.length_cons]; omega) hff2) h0 h1 (by rw [pa_cw_same])
        rw [pa_cw_same, pa_cw_cw] at g2
        have hz : pm_fr pm_Zt y (pm_u (pm_u y 18 (6 * c + (fs.length : Int)) (f.1 3 + 1)) 17 (6 * c + (fs.length : Int)) 0) := pm_fr_then (pm_fr_u (Or.inl ⟨by decide, by decide⟩)) (Or.inl ⟨by decide, by decide⟩)
        refine k _ (pm_fr_mono hz pm_Zt_Zs) (pm_yl_no hz (by rw [pa_cw_same]; exact hst)) ?_
        rw [hag, if_pos (by omega)]
        exact g2
end
