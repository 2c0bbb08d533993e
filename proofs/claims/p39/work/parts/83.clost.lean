/-! THE CLASS: rounds lost, shares -/
theorem pa_at_nn {p : pa_P} (hp : pa_wfp p) (i : Int) : 0 ≤ (pa_at p i).2 := by
  unfold pa_at
  rw [List.getD_eq_getElem?_getD]
  by_cases h : i.toNat < p.length
  · rw [List.getElem?_eq_getElem h]
    exact (hp.2.1 _ (List.getElem_mem h)).2.1
  · rw [List.getElem?_eq_none (by omega)]
    exact Int.le_refl _
section
variable {a s : pa_M} {who i c t n : Int} {v : pa_C}
theorem pa_sendAt_o (hq : pa_wfq a) (hn : 0 ≤ n) (hi : i ≠ who) (h6 : 6 ≤ (a.2.1 i).1 2) : (pa_sendAt a who v n).2.1 i = a.2.1 i := by
  unfold pa_sendAt
  split
  · exact pa_cw_ne hi
  · rename_i h3
    split
    · rename_i g l hg
      have hgm := ((hq 1 (by decide) n hn (by omega)).2 g).mp (by rw [hg]; exact List.mem_cons_self)
      have hne : i ≠ g := fun e => by
        rw [e] at h6
        have := hgm.2.1
        omega
      show (pa_cw (pa_cw a who v) g _).2.1 i = _
      rw [pa_cw_ne hne, pa_cw_ne hi]
    · show (pa_cw a who _).2.1 i = _
      exact pa_cw_ne hi
theorem pa_getAt_o (hq : pa_wfq a) (hn : 0 ≤ n) (hi : i ≠ who) (h6 : 6 ≤ (a.2.1 i).1 2) : (pa_getAt a who v n).2.1 i = a.2.1 i := by
  unfold pa_getAt
  split
  · exact pa_cw_ne hi
  · rename_i h3
    split
    · rename_i g l hg
      have hgm := ((hq 0 (by decide) n hn (by omega)).2 g).mp (by rw [hg]; exact List.mem_cons_self)
      have hne : i ≠ g := fun e => by
        rw [e] at h6
        have := hgm.2.1
        omega
      show (pa_cw (pa_cw (pa_cw a who v) who _) g _).2.1 i = _
      rw [pa_cw_ne hne, pa_cw_ne hi, pa_cw_ne hi]
    · show (pa_cw a who _).2.1 i = _
      exact pa_cw_ne hi
theorem pa_live_o {l : Int} (hq : pa_wfq a) (hn : 0 ≤ n) (hi : i ≠ who) (h6 : 6 ≤ (a.2.1 i).1 2) : (pa_live a who l n v).2.1 i = a.2.1 i := by
  unfold pa_live
  repeat' split
  all_goals first
    | exact pa_cw_ne hi
    | exact pa_sendAt_o hq hn hi h6
    | exact pa_getAt_o hq hn hi h6
theorem pa_st1_o {cl : Bool} (h : pa_wf a) (h0 : 0 ≤ who) (h1 : who < a.1 4) (hi : i ≠ who) (h6 : 6 ≤ (a.2.1 i).1 2) : (pa_st1 a who cl).2.1 i = a.2.1 i := by
  have hwc := (h.1.2.2.1 who h0 h1).2.2.1
  unfold pa_st1
  split
  · rfl
  · rename_i f fs hf
    split
    · exact pa_cw_ne hi
    · have hp : pa_wfp f.2.1 := (hwc f (by rw [hf]; exact List.mem_cons_self)).2.2.2.2.1
      have hn := pa_at_nn hp (f.1 2)
      unfold pa_do
      repeat' split
      all_goals first
        | exact pa_cw_ne hi
        | exact pa_live_o h.2.1 hn hi h6
/-- who is ended stays as it is -/
theorem pa_step_o {cl : Bool} (h : pa_wf a) (h0 : 0 ≤ who) (h1 : who < a.1 4) (hi : i ≠ who) (h6 : 6 ≤ (a.2.1 i).1 2) : (pa_step a who cl).2.1 i = a.2.1 i := by
  have e := pa_st1_o (cl := cl) h h0 h1 hi h6
  unfold pa_step
  split
  · rcases (pa_settle_mid (pa_st1 a who cl)).2.2 i with q | ⟨n, q⟩
    · rw [q, e]
    · have := (pa_told_5 q).2.1
      rw [e] at this
      omega
  · exact e
theorem pa_lose_o : ((pa_lose a).2.1 i).1 2 = (a.2.1 i).1 2 := pa_olds_2 i
theorem pa_lose_wf (h : pa_wf a) : pa_wf (pa_lose a) := pa_olds_wf (pa_day_wf h)
theorem pa_lose_none (h : pa_line s = []) : (pa_lose s).2 = s.2 ∧ (pa_lose s).1 = (pa_day s).1 := by
  unfold pa_lose
  rw [h]
  refine ⟨?_, rfl⟩
  unfold pa_olds
  refine Prod.ext ?_ rfl
  funext i
  simp [pa_day]
theorem pa_ways_none : ∀ (m : Nat) (s : pa_M), pa_line s = [] → ¬ 6 ≤ (s.2.1 c).1 2 → pa_ways t c m s = 0
  | 0, s, _, h6 => by
    unfold pa_ways
    rw [if_neg h6]
  | m + 1, s, hl, h6 => by
    obtain ⟨u1, u2⟩ := pa_round_none hl
    obtain ⟨v1, v2⟩ := pa_lose_none hl
    have l1 : pa_line (pa_round s) = [] := by
      rw [pa_line_eq (a := s) (b := pa_round s) (by rw [u1]) (by rw [u2]; exact (pa_day4 s).1)]; exact hl
    have l2 : pa_line (pa_lose s) = [] := by
      rw [pa_line_eq (a := s) (b := pa_lose s) (by rw [v1]) (by rw [v2]; exact (pa_day4 s).1)]; exact hl
    unfold pa_ways
    rw [pa_ways_none m _ l1 (by rw [u1]; exact h6), pa_ways_none m _ l2 (by rw [v1]; exact h6)]
    simp
end
section
variable {d C B P : Nat} {Φ : Option pe_V → pe_H → Prop} {T U : Nat → Prop} {σ σ' σ1 σ2 : pe_H} {c i x D n t : Int} {l : List Int} {a s s' : pa_M} {im : Option pa_M} {h : Int → pa_Sh}
end

