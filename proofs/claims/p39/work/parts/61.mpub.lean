/-! THE MODEL: public methods, send to rounds -/
/-- what a public call of the model may change, that keeps shelves and image -/
def pm_Zp (k : Nat) (j : Int) : Prop := ¬ ((27 ≤ k ∧ k ≤ 32) ∨ k = 39 ∨ k = 101 ∨ (k = 0 ∧ j = 50))
theorem pm_Zs_Zp (k : Nat) (j : Int) (h : pm_Zs k j) : pm_Zp k j := by unfold pm_Zs at h; unfold pm_Zp; omega
noncomputable def pa_doSend (a : pa_M) (c v : Int) : pa_M × Int := if ¬ ((0 ≤ c ∧ c < a.1 4) ∧ 0 ≤ v ∧ v ≤ 999) then (a, -1) else if 2 < (a.2.1 c).1 2 then (a, -3) else (pa_send a c v, ((pa_send a c v).2.1 c).1 2)
noncomputable def pa_doClose (a : pa_M) (c : Int) : pa_M × Int := if ¬ (0 ≤ c ∧ c < a.1 4) then (a, -1) else if 6 ≤ (a.2.1 c).1 2 then (a, -3) else (pa_shut a c, ((pa_shut a c).2.1 c).1 2)
def pa_doWidth (a : pa_M) (w : Int) : pa_M × Int := if ¬ (1 ≤ w ∧ w ≤ 8) then (a, -1) else ((pa_s a.1 5 w, a.2), a.1 5)
section
variable {d M q : Nat} {Φ : Option pe_V → pe_H → Prop} {σ : pe_H} {y : Nat → Int → Int} {a : pa_M} {c : Int}
theorem pa_loop_wf : ∀ (m : Nat) (s : pa_M), pa_wf s → 0 ≤ c → c < s.1 4 → pa_wf (pa_loop m s c) ∧ (pa_loop m s c).1 = s.1
  | 0, s, h, _, _ => ⟨h, rfl⟩
  | m + 1, s, h, h0, h1 => by
    unfold pa_loop
    split
    · rename_i q
      have e := (pa_step_1 (cl := false) h ⟨h0, h1⟩ (by omega : (s.2.1 c).1 2 < 3)).1
      have ih := pa_loop_wf m (pa_step s c false) (pa_step_wf h ⟨h0, h1⟩ (by omega)) h0 (by rw [e]; exact h1)
      exact ⟨ih.1, ih.2.trans e⟩
    · exact ⟨h, rfl⟩
theorem pa_send_wf {v : Int} (hwf : pa_wf a) (h0 : 0 ≤ c) (h1 : c < a.1 4) (h2 : (a.2.1 c).1 2 ≤ 2) (hv : 0 ≤ v ∧ v ≤ 999) : pa_wf (pa_send a c v) ∧ (pa_send a c v).1 = a.1 := by
  have := pa_loop_wf (c := c) 40 _ (pa_take_wf3 hwf h0 h1 h2 hv) h0 h1
  exact ⟨this.1, this.2⟩
theorem pa_cl_wf : ∀ (m : Nat) (s : pa_M), pa_wf s → 0 ≤ c → c < s.1 4 → ((s.2.1 c).1 2 = 1 ∨ 6 ≤ (s.2.1 c).1 2) → pa_wf (pa_cl m s c) ∧ (pa_cl m s c).1 = s.1
  | 0, s, h, _, _, _ => ⟨h, rfl⟩
  | m + 1, s, h, h0, h1, hs => by
    unfold pa_cl
    split
    · exact ⟨h, rfl⟩
    · rename_i q
      have h3 : (s.2.1 c).1 2 = 1 := by omega
      have e := (pa_step_1 (cl := true) h ⟨h0, h1⟩ (by omega : (s.2.1 c).1 2 < 3)).1
      have ih := pa_cl_wf m (pa_step s c true) (pa_step_wf h ⟨h0, h1⟩ (by omega)) h0 (by rw [e]; exact h1) (pa_step_cl h ⟨h0, h1⟩ h3)
      exact ⟨ih.1, ih.2.trans e⟩
theorem pa_shut_wf (hwf : pa_wf a) (h0 : 0 ≤ c) (h1 : c < a.1 4) (h6 : (a.2.1 c).1 2 < 6) : pa_wf (pa_shut a c) ∧ (pa_shut a c).1 = a.1 := by
  obtain ⟨u1, u2, u3, u4⟩ := pa_shut2_wf hwf h0 h1 h6
  have := pa_cl_wf (c := c) 1000 _ u1 h0 (by rw [u2]; exact h1) u4
  exact ⟨this.1, this.2.trans u2⟩
end

