/-! THE MODEL: a round -/
theorem pb_or_0a : ∀ x : Fin 256, pe_or (x.val : Int) 0 = x.val := by decide +kernel
theorem pb_or_z {x : Int} (h0 : 0 ≤ x) (h1 : x ≤ 255) : pe_or x 0 = x := by
  obtain ⟨u, rfl⟩ := pb_fin h0 h1
  exact pb_or_0a u
theorem pa_take_a6 {v w : Int} {c : pa_C} : pa_take (pa_a6 v c) w = pa_a6 v (pa_take c w) := by
  unfold pa_take
  rw [pa_a6_n 2 (by decide), pa_a6_n 20 (by decide), pa_a6_n 21 (by decide), pa_a6_n 3 (by decide)]
  unfold pa_a6
  dsimp only
  split
  · rw [pa_sc (j := 2) (k := 6) (by decide), pa_sc (j := 3) (k := 6) (by decide)]
  · rw [pa_sc (j := 2) (k := 6) (by decide)]
theorem pa_young_a6 {c : pa_C} : pa_young c = pa_a6 0 c := rfl
theorem pa_goes_age : ∀ (l : List Int) (s : pa_M) (c : Int), ((l.foldl pa_go s).2.1 c).1 6 = if c ∈ l then 0 else (s.2.1 c).1 6
  | [], s, c => by simp
  | x :: l, s, c => by
    rw [List.foldl_cons, pa_goes_age l _ c]
    have e : ((pa_go s x).2.1 c).1 6 = if c = x then 0 else (s.2.1 c).1 6 := by
      unfold pa_go
      rw [pa_step_age]
      by_cases h : c = x
      · rw [if_pos h, h, pa_cw_same, pa_young_a6, pa_take_a6]
        simp [pa_a6, pa_s]
      · rw [if_neg h, pa_cw_ne h]
    rw [e]
    by_cases h1 : c ∈ l
    · rw [if_pos h1, if_pos (List.mem_cons_of_mem _ h1)]
    · rw [if_neg h1]
      by_cases h2 : c = x
      · rw [if_pos h2, if_pos (by rw [h2]; exact List.mem_cons_self)]
      · rw [if_neg h2, if_neg (fun h => by rcases List.mem_cons.mp h with h | h; exact h2 h; exact h1 h)]
theorem pa_a6_wf {v : Int} {c : pa_C} (h : pa_wfc c) (hv : 0 ≤ v ∧ v ≤ 999) : pa_wfc (pa_a6 v c) := by
  obtain ⟨⟨a0, a2, a3, a4, a5, a6, a20, a21, a7⟩, b, d, e, g⟩ := h
  refine ⟨⟨?_, ?_, ?_, ?_, ?_, ?_, ?_, ?_, ?_⟩, b, d, ?_, ?_⟩ <;> simp [pa_a6, pa_s] <;> first | assumption | omega
theorem pa_A_wf {a : pa_M} {e : Int → Int} (h : pa_wf a) (he : ∀ c, 0 ≤ c → c < a.1 4 → 0 ≤ e c ∧ e c ≤ 999) : pa_wf (pa_A e a) := by
  have e2 : ∀ i, ((pa_A e a).2.1 i).1 2 = (a.2.1 i).1 2 ∧ ((pa_A e a).2.1 i).1 7 = (a.2.1 i).1 7 := fun i => by
    rw [pa_A_co, pa_a6_n 2 (by decide), pa_a6_n 7 (by decide)]
    exact ⟨rfl, rfl⟩
  obtain ⟨⟨b1, b2, b3, b4⟩, b5, b6, b7⟩ := h
  refine ⟨⟨b1, b2, fun c h0 h1 => pa_a6_wf (b3 c h0 h1) (he c h0 h1), b4⟩, fun w hw ch h0 h3 => ?_, fun c h0 h1 => ?_, fun c h0 h1 h5 => ?_⟩
  · obtain ⟨q1, q2⟩ := b5 w hw ch h0 h3
    refine ⟨q1, fun c => ?_⟩
    rw [(e2 c).1, (e2 c).2]
    exact q2 c
  · rw [(e2 c).1, (e2 c).2]; exact b6 c h0 h1
  · rw [(e2 c).1] at h5
    rw [(e2 c).2, (e2 _).1]; exact b7 c h0 h1 h5
theorem pa_line_bef (a : pa_M) : (pa_line a).Pairwise (pa_bef (pa_rk a)) := pa_lineN_bef a _
section
variable {d M q : Nat} {Φ : Option pe_V → pe_H → Prop} {σ : pe_H} {y y' : Nat → Int → Int} {c n : Int} {a : pa_M}
theorem pa_take_no {c : pa_C} {v : Int} (h : c.1 2 ≠ 2) : pa_take c v = (pa_s (pa_s c.1 3 (c.1 3)) 2 1, c.2) := by
  unfold pa_take
  rw [if_neg h]
  congr 2
  funext i
  unfold pa_s
  by_cases e : i = 3
  · simp [e]
  · simp [e]
end

