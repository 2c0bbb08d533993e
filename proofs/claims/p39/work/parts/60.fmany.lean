/-! HOW MANY FAULTS: class and model -/
/-- one of a coroutine's five numbers -/
def pa_of (c : pa_C) (what : Int) : Int := if what = 0 then c.1 2 else if what = 1 then c.1 3 else if what = 2 then c.1 4 else if what = 3 then c.1 5 else c.1 6
theorem pr_st_tail {cd cs : Int → Int} {n : Int} {w : Int → Int × List Int} (h : pr_st cd cs n w) {f x : Int} {l : List Int} (h0 : 0 ≤ f) (h1 : f < n) (hl : (w f).2 = x :: l) : x = cd f ∧ ((cs f = -1 ∧ l = []) ∨ (0 ≤ cs f ∧ cs f < f ∧ (w (cs f)).2 = l)) := by
  rcases h.2 f h0 h1 with ⟨a, b⟩ | ⟨a, b, c, e⟩
  · rw [b] at hl
    obtain ⟨rfl, rfl⟩ := List.cons.inj hl
    exact ⟨rfl, Or.inl ⟨a, rfl⟩⟩
  · rw [e] at hl
    obtain ⟨rfl, rfl⟩ := List.cons.inj hl
    exact ⟨rfl, Or.inr ⟨a, b, rfl⟩⟩
section
variable {d M q : Nat} {Φ : Option pe_V → pe_H → Prop} {σ : pe_H} {y : Nat → Int → Int} {a : pa_M} {c : Int}
end
section
variable {d B : Nat} {Φ : Option pe_V → pe_H → Prop} {T : Nat → Prop} {σ σ' : pe_H} {c x : Int} {a : pa_M}
/-- faultsOf -/
theorem k23 (hM : pk_RM B T σ a) (hwf : pa_wf0 a) (h0 : 0 ≤ c) (h1 : c < a.1 4) (k : Φ (some (.inl ((a.2.1 c).2.1.length : Int))) σ) : pe_M (d + 1) 23 [.inr (.inr B), .inl c] σ Φ := by
  obtain ⟨w, n, hR, hn⟩ := hM
  have hF := hR.F
  have h8 := hwf.1
  have hp := pa_pots_0 (a := a)
  have hst := hR.st
  have h12 := hR.n12
  obtain ⟨b1, b2, b3, b4⟩ := hR.co h0 h1
  have hlen : ((a.2.1 c).2.1.length : Int) ≤ 512 := by
    rcases b3 with ⟨e, -⟩ | ⟨-, e1, e2, e3, e4⟩
    · rw [e]; simp
    · have := pr_st_len hst (n.toNat) _ (by omega) e1 e2
      rw [e4] at this
      omega
  have loop : ∀ (l : List Int) (f cnt : Int) (o1 : Option pe_V), ((f = -1 ∧ l = []) ∨ (0 ≤ f ∧ f < n ∧ (w f).2 = l)) → cnt + l.length = (a.2.1 c).2.1.length → 0 ≤ cnt → pe_X d 23 (12, [some (.inr (.inr B)), o1, some (.inl f), some (.inl cnt)], [], σ) Φ := by
    intro l
    induction l with
    | nil =>
      intro f cnt o1 hf hc c0
      have hf1 : f = -1 := by
        rcases hf with ⟨e, -⟩ | ⟨e1, e2, e3⟩
        · exact e
        · exact absurd e3 (pr_st_ne hst e1 e2)
      subst hf1
      have hc : cnt = ((a.2.1 c).2.1.length : Int) := by rw [← hc]; simp
      refine b23_12 (k1 := fun _ => ?_) (k2 := fun _ => ?_)
      · refine b23_44 (k := ?_)
        rw [hc]; exact k
      · refine b23_19 (k1 := fun _ => ?_) (k2 := fun r => by omega)
        refine b23_44 (k := ?_)
        rw [hc]; exact k
    | cons x l ih =>
      intro f cnt o1 hf hc c0
      obtain ⟨f0, f1, f2⟩ : 0 ≤ f ∧ f < n ∧ (w f).2 = x :: l := by
        rcases hf with ⟨-, e⟩ | e
        · cases e
        · exact e
      obtain ⟨-, ht⟩ := pr_st_tail hst f0 f1 f2
      rw [List.length_cons] at hc
      refine b23_12 (k1 := fun r => by push_cast at hc; omega) (k2 := fun _ => ?_)
      refine b23_19 (k1 := fun r => by omega) (k2 := fun _ => ?_)
      refine b23_23 (k1 := fun r => by omega) (k2 := fun _ => ?_)
      refine b23_31 (k := ?_)
      refine ih _ _ _ ?_ (by push_cast at hc; omega) (by omega)
      rcases ht with e | ⟨e1, e2, e3⟩
      · exact Or.inl e
      · exact Or.inr ⟨e1, by omega, e3⟩
  refine pe_M_of ck23 (Nat.le_of_ble_eq_true rfl) ?_
  refine b23_0 (k := ?_)
  rcases b3 with ⟨e, e8⟩ | ⟨-, e1, e2, e3, e4⟩
  · refine loop [] _ _ _ (Or.inl ⟨e8, rfl⟩) (by rw [e]; simp) (Int.le_refl _)
  · exact loop (a.2.1 c).2.1 _ _ _ (Or.inr ⟨e1, e2, e4⟩) (by simp) (Int.le_refl _)
end

