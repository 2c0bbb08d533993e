/-! THE MODEL: anyFree -/
section
variable {d M q : Nat} {Φ : Option pe_V → pe_H → Prop} {σ : pe_H} {y : Nat → Int → Int} {a : pa_M} {c n : Int}
theorem c206 (hF : pm_F M σ) (hM : pm_R y a) (hwf : pa_wf0 a) (k : Φ (some (.inl (if pa_line a = [] then 0 else 1))) (pm_h M σ q y)) : pe_M (d + 2) 206 [.inr (.inr M)] (pm_h M σ q y) Φ := by
  have h8 := hwf.1
  have e4 := hM.cnt.1
  have loop : ∀ (m i : Nat), (i : Int) + m = a.1 4 → ∀ x1 : Int, x1 = (if pa_lineN a i = [] then 0 else 1) → pe_X (d + 1) 206 (4, [some (.inr (.inr M)), some (.inl x1), some (.inl (i : Int))], [], pm_h M σ q y) Φ := by
    intro m
    induction m with
    | zero =>
      intro i hi x1 hx
      have hx2 : x1 = 0 ∨ x1 = 1 := by rw [hx]; split <;> simp
      refine b206_4 hF (k1 := fun _ => ?_) (k2 := fun r => by omega)
      refine b206_36 hF (k := ?_)
      unfold pa_line at k
      rw [show (a.1 4).toNat = i by omega, ← hx] at k
      exact k
    | succ m ih =>
      intro i hi x1 hx
      have hx2 : x1 = 0 ∨ x1 = 1 := by rw [hx]; split <;> simp
      have i2 : y 7 (i : Int) = (a.2.1 i).1 2 := (hM.nn (by omega : 0 ≤ (i : Int)) (by omega)).1.1.2.1
      have hb2 := (hwf.2.2.1 i (by omega) (by omega)).1.2.1
      have hnext : ∀ v, v = (if pa_lineN a (i + 1) = [] then 0 else 1) → ∀ o1, pe_X (d + 1) 206 (29, [some (.inr (.inr M)), o1, some (.inl (i : Int))], [.inl v], pm_h M σ q y) Φ := fun v hv o1 => by
        refine b206_29 hF (k := ?_)
        exact ih (i + 1) (by push_cast; omega) v hv
      have hins : pa_ins (pa_rk a) i (pa_lineN a i) ≠ [] := fun e => by
        have := pa_ins_len (pa_rk a) i (pa_lineN a i)
        rw [e] at this
        simp at this
      have eN1 : (a.2.1 (i : Int)).1 2 ≤ 2 → pa_lineN a (i + 1) = pa_ins (pa_rk a) i (pa_lineN a i) := fun h => by
        show (if (a.2.1 (i : Int)).1 2 ≤ 2 then _ else _) = _
        exact if_pos h
      have eN0 : ¬ (a.2.1 (i : Int)).1 2 ≤ 2 → pa_lineN a (i + 1) = pa_lineN a i := fun h => by
        show (if (a.2.1 (i : Int)).1 2 ≤ 2 then _ else _) = _
        exact if_neg h
      refine b206_4 hF (k1 := fun r => by omega) (k2 := fun _ => ?_)
      refine b206_12 hF (k1 := fun r => ?_) (k2 := fun r => ?_)
      · have hne : pa_lineN a i ≠ [] := fun e => by rw [if_pos e] at hx; exact r hx
        refine b206_24 hF (k := ?_)
        refine hnext 1 ?_ _
        by_cases q2 : (a.2.1 (i : Int)).1 2 ≤ 2
        · rw [eN1 q2, if_neg hins]
        · rw [eN0 q2, if_neg hne]
      · have he : pa_lineN a i = [] := Classical.byContradiction fun e => by rw [if_neg e] at hx; omega
        refine b206_16 hF (k := ?_)
        refine c140 hF (by omega) (by omega) (by omega) (fun r2 => ?_) (fun r2 => ?_)
        · refine b206_21 hF (k1 := fun r => by omega) (k2 := fun _ => ?_)
          refine b206_24 hF (k := ?_)
          refine hnext 1 ?_ _
          rw [eN1 (by omega), if_neg hins]
        · refine b206_21 hF (k1 := fun _ => ?_) (k2 := fun r => absurd rfl r)
          refine b206_28 hF (k := ?_)
          refine hnext 0 ?_ _
          rw [eN0 (by omega), he, if_pos rfl]
  refine pe_M_of ck206 (Nat.le_of_ble_eq_true rfl) ?_
  refine b206_0 hF (k := ?_)
  exact loop (a.1 4).toNat 0 (by omega) 0 rfl
end
