/-! HOW MANY FAULTS: class and model -/
/-- one of a coroutine's five numbers -/
def pa_of (c : pa_C) (what : Int) : Int := if what = 0 then c.1 2 else if what = 1 then c.1 3 else if what = 2 then c.1 4 else if what = 3 then c.1 5 else c.1 6
theorem pr_st_tail {cd cs : Int → Int} {n : Int} {w : Int → Int × List Int} (h : pr_st cd cs n w) {f x : Int} {l : List Int} (h0 : 0 ≤ f) (h1 : f < n) (hl : (w f).2 = x :: l) : x = cd f ∧ ((cs f = -1 ∧ l = []) ∨ (0 ≤ cs f ∧ cs f < f ∧ (w (cs f)).2 = l)) := by
  rcases h.2 f h0 h1 with ⟨a, b⟩ | ⟨a, b, c, e⟩
  · rw [b] at hl
    obtain ⟨rfl, rfl⟩ := List.cons.inj hl
    exact ⟨rfl, Or.inl ⟨a, rfl⟩⟩
  · rw [e] at hl
    obtain ⟨rfl, rfl⟩ := List.cons.inj hl
    exact ⟨rfl, Or.inr ⟨a, b, rfl⟩⟩
section
variable {d M q : Nat} {Φ : Option pe_V → pe_H → Prop} {σ : pe_H} {y : Nat → Int → Int} {a : pa_M} {c : Int}
/-- faultMany -/
theorem c193 (hF : pm_F M σ) (hM : pm_R y a) (hwf : pa_wf0 a) (h0 : 0 ≤ c) (h1 : c < a.1 4) (k : Φ (some (.inl ((a.2.1 c).2.1.length : Int))) (pm_h M σ q y)) : pe_M (d + 1) 193 [.inr (.inr M), .inl c] (pm_h M σ q y) Φ := by
  obtain ⟨w, n, hR, hn⟩ := hM
  have h8 := hwf.1
  have hp := pa_pots_0 (a := a)
  have hst := hR.st
  obtain ⟨b1, b2, b3, b4⟩ := hR.co h0 h1
  have hwc := hwf.2.2.1 c h0 h1
  have hb := hwc.1.2.1
  have e7 : y 7 c = (a.2.1 c).1 2 := b1.1.2.1
  have loop : ∀ (l : List Int) (f cnt : Int) (o1 : Option pe_V), ((f = -1 ∧ l = []) ∨ (0 ≤ f ∧ f < n ∧ (w f).2 = l)) → cnt + l.length = (a.2.1 c).2.1.length → 0 ≤ cnt → pe_X d 193 (24, [some (.inr (.inr M)), o1, some (.inl cnt), some (.inl f)], [], pm_h M σ q y) Φ := by
    intro l
    induction l with
    | nil =>
      intro f cnt o1 hf hc c0
      have hf1 : f = -1 := by
        rcases hf with ⟨e, -⟩ | ⟨e1, e2, e3⟩
        · exact e
        · exact absurd e3 (pr_st_ne hst e1 e2)
      subst hf1
      refine b193_24 hF (k1 := fun _ => ?_) (k2 := fun r => by omega)
      refine b193_41 hF (k := ?_)
      rw [show cnt = ((a.2.1 c).2.1.length : Int) by rw [← hc]; simp]
      exact k
    | cons x l ih =>
      intro f cnt o1 hf hc c0
      obtain ⟨f0, f1, f2⟩ : 0 ≤ f ∧ f < n ∧ (w f).2 = x :: l := by
        rcases hf with ⟨-, e⟩ | e
        · cases e
        · exact e
      obtain ⟨-, ht⟩ := pr_st_tail hst f0 f1 f2
      refine b193_24 hF (k1 := fun r => by omega) (k2 := fun _ => ?_)
      refine b193_28 hF (k := ?_)
      rw [List.length_cons] at hc
      refine ih _ _ _ ?_ (by push_cast at hc; omega) (by omega)
      rcases ht with e | ⟨e1, e2, e3⟩
      · exact Or.inl e
      · exact Or.inr ⟨e1, by omega, e3⟩
  refine pe_M_of ck193 (Nat.le_of_ble_eq_true rfl) ?_
  refine b193_0 hF (k1 := fun r => ?_) (k2 := fun r => ?_)
  · have he : (a.2.1 c).2.1 = [] := Classical.byContradiction fun e => by have := hwc.2.2.2.2.mpr e; omega
    refine b193_22 hF (k := ?_)
    refine b193_23 hF (k := ?_)
    exact loop [] _ _ _ (Or.inl ⟨rfl, rfl⟩) (by rw [he]; simp) (Int.le_refl _)
  · have he : (a.2.1 c).2.1 ≠ [] := hwc.2.2.2.2.mp (by omega)
    rcases b3 with e | ⟨-, e1, e2, e3, e4⟩
    · exact absurd e he
    · refine b193_13 hF (k := ?_)
      refine b193_23 hF (k := ?_)
      exact loop (a.2.1 c).2.1 _ _ _ (Or.inr ⟨e1, e2, e4⟩) (by simp) (Int.le_refl _)
/-- waits -/
theorem c194 (hF : pm_F M σ) (hM : pm_R y a) (hwf : pa_wf0 a) (h0 : 0 ≤ c) (h1 : c < a.1 4) (k1 : 3 ≤ (a.2.1 c).1 2 ∧ (a.2.1 c).1 2 ≤ 5 → Φ (some (.inl 1)) (pm_h M σ q y)) (k0 : ¬ (3 ≤ (a.2.1 c).1 2 ∧ (a.2.1 c).1 2 ≤ 5) → Φ (some (.inl 0)) (pm_h M σ q y)) : pe_M (d + 2) 194 [.inr (.inr M), .inl c] (pm_h M σ q y) Φ := by
  have h8 := hwf.1
  have hb := (hwf.2.2.1 c h0 h1).1.2.1
  have e7 : y 7 c = (a.2.1 c).1 2 := (hM.nn h0 h1).1.1.2.1
  refine pe_M_of ck194 (Nat.le_of_ble_eq_true rfl) ?_
  refine b194_0 hF (k := ?_)
  refine c134 hF (by omega) (by omega) (by omega) (fun r => ?_) (fun r => ?_)
  · refine b194_16 hF (k := ?_)
    exact k1 (by omega)
  · refine b194_16 hF (k := ?_)
    exact k0 (by omega)
/-- ofOne -/
theorem c195 {x : Int} (hF : pm_F M σ) (hM : pm_R y a) (hwf : pa_wf0 a) (h0 : 0 ≤ c) (h1 : c < a.1 4) (hx : -2147483648 ≤ x ∧ x < 2147483648) (k : Φ (some (.inl (pa_of (a.2.1 c) x))) (pm_h M σ q y)) : pe_M (d + 1) 195 [.inr (.inr M), .inl c, .inl x] (pm_h M σ q y) Φ := by
  have h8 := hwf.1
  obtain ⟨⟨a0, a2, a3, a4, a5, a6, a7, a8⟩, -⟩ := (hM.nn h0 h1).1
  unfold pa_of at k
  refine pe_M_of ck195 (Nat.le_of_ble_eq_true rfl) ?_
  refine b195_0 hF (k0 := fun r => ?_) (k1 := fun r => ?_) (k2 := fun r => ?_) (k3 := fun r => ?_) (kd := fun r0 r1 r2 r3 => ?_)
  · refine b195_32 hF (k := ?_)
    rw [if_pos r] at k
    rw [a2]; exact k
  · refine b195_39 hF (k := ?_)
    rw [if_neg (by omega), if_pos r] at k
    rw [a3]; exact k
  · refine b195_46 hF (k := ?_)
    rw [if_neg (by omega), if_neg (by omega), if_pos r] at k
    rw [a4]; exact k
  · refine b195_53 hF (k := ?_)
    rw [if_neg (by omega), if_neg (by omega), if_neg (by omega), if_pos r] at k
    rw [a5]; exact k
  · refine b195_60 hF (k := ?_)
    rw [if_neg r0, if_neg r1, if_neg r2, if_neg r3] at k
    rw [a6]; exact k
end
section
variable {d B : Nat} {Φ : Option pe_V → pe_H → Prop} {T : Nat → Prop} {σ σ' : pe_H} {c x : Int} {a : pa_M}
/-- faultsOf -/
theorem k23 (hM : pk_RM B T σ a) (hwf : pa_wf0 a) (h0 : 0 ≤ c) (h1 : c < a.1 4) (k : Φ (some (.inl ((a.2.1 c).2.1.length : Int))) σ) : pe_M (d + 1) 23 [.inr (.inr B), .inl c] σ Φ := by
  obtain ⟨w, n, hR, hn⟩ := hM
  have hF := hR.F
  have h8 := hwf.1
  have hp := pa_pots_0 (a := a)
  have hst := hR.st
  have h12 := hR.n12
  obtain ⟨b1, b2, b3, b4⟩ := hR.co h0 h1
  have hlen : ((a.2.1 c).2.1.length : Int) ≤ 512 := by
    rcases b3 with ⟨e, -⟩ | ⟨-, e1, e2, e3, e4⟩
    · rw [e]; simp
    · have := pr_st_len hst (n.toNat) _ (by omega) e1 e2
      rw [e4] at this
      omega
  have loop : ∀ (l : List Int) (f cnt : Int) (o1 : Option pe_V), ((f = -1 ∧ l = []) ∨ (0 ≤ f ∧ f < n ∧ (w f).2 = l)) → cnt + l.length = (a.2.1 c).2.1.length → 0 ≤ cnt → pe_X d 23 (12, [some (.inr (.inr B)), o1, some (.inl f), some (.inl cnt)], [], σ) Φ := by
    intro l
    induction l with
    | nil =>
      intro f cnt o1 hf hc c0
      have hf1 : f = -1 := by
        rcases hf with ⟨e, -⟩ | ⟨e1, e2, e3⟩
        · exact e
        · exact absurd e3 (pr_st_ne hst e1 e2)
      subst hf1
      have hc : cnt = ((a.2.1 c).2.1.length : Int) := by rw [← hc]; simp
      refine b23_12 (k1 := fun _ => ?_) (k2 := fun _ => ?_)
      · refine b23_44 (k := ?_)
        rw [hc]; exact k
      · refine b23_19 (k1 := fun _ => ?_) (k2 := fun r => by omega)
        refine b23_44 (k := ?_)
        rw [hc]; exact k
    | cons x l ih =>
      intro f cnt o1 hf hc c0
      obtain ⟨f0, f1, f2⟩ : 0 ≤ f ∧ f < n ∧ (w f).2 = x :: l := by
        rcases hf with ⟨-, e⟩ | e
        · cases e
        · exact e
      obtain ⟨-, ht⟩ := pr_st_tail hst f0 f1 f2
      rw [List.length_cons] at hc
      refine b23_12 (k1 := fun r => by push_cast at hc; omega) (k2 := fun _ => ?_)
      refine b23_19 (k1 := fun r => by omega) (k2 := fun _ => ?_)
      refine b23_23 (k1 := fun r => by omega) (k2 := fun _ => ?_)
      refine b23_31 (k := ?_)
      refine ih _ _ _ ?_ (by push_cast at hc; omega) (by omega)
      rcases ht with e | ⟨e1, e2, e3⟩
      · exact Or.inl e
      · exact Or.inr ⟨e1, by omega, e3⟩
  refine pe_M_of ck23 (Nat.le_of_ble_eq_true rfl) ?_
  refine b23_0 (k := ?_)
  rcases b3 with ⟨e, e8⟩ | ⟨-, e1, e2, e3, e4⟩
  · refine loop [] _ _ _ (Or.inl ⟨e8, rfl⟩) (by rw [e]; simp) (Int.le_refl _)
  · exact loop (a.2.1 c).2.1 _ _ _ (Or.inr ⟨e1, e2, e4⟩) (by simp) (Int.le_refl _)
end
