/-! THE MODEL: closing -/
def pa_mu : List pa_F → Int
  | [] => 0
  | f :: fs => (26 - f.1 2) + pa_mu fs
theorem pa_mu_0 : ∀ fs : List pa_F, (∀ f ∈ fs, pa_wff f) → 0 ≤ pa_mu fs
  | [], _ => Int.le_refl _
  | f :: fs, h => by
    have h1 := (h f List.mem_cons_self).2.1
    have h2 := pa_mu_0 fs (fun g hg => h g (List.mem_cons_of_mem _ hg))
    unfold pa_mu
    omega
theorem pa_mu_156 : ∀ fs : List pa_F, (∀ f ∈ fs, pa_wff f) → pa_mu fs ≤ 26 * fs.length
  | [], _ => by simp [pa_mu]
  | f :: fs, h => by
    have h1 := (h f List.mem_cons_self).2.1
    have h2 := pa_mu_156 fs (fun g hg => h g (List.mem_cons_of_mem _ hg))
    unfold pa_mu
    rw [List.length_cons]
    push_cast
    omega
theorem pa_mu_throwF {n : Nat → Int} {e : List Int} : ∀ (fs : List pa_F) (φ : List Int), (∀ f ∈ fs, pa_wff f) → pa_mu (pa_throwF n e fs φ).2.2 ≤ pa_mu fs
  | [], φ, _ => by unfold pa_throwF; exact Int.le_refl _
  | f :: fs, φ, h => by
    have h1 := (h f List.mem_cons_self).2.1
    unfold pa_throwF
    split
    · show (26 - (pa_catch f φ).1 2) + pa_mu fs ≤ (26 - f.1 2) + pa_mu fs
      have : (pa_catch f φ).1 2 = pa_fin f.2.1 + 1 := by simp [pa_catch, pa_s]
      omega
    · have h2 := pa_mu_throwF (n := n) (e := e) fs (pa_add φ f.2.2) (fun g hg => h g (List.mem_cons_of_mem _ hg))
      show _ ≤ (26 - f.1 2) + pa_mu fs
      omega
theorem pa_mu_closeF {n : Nat → Int} {e : List Int} : ∀ (fs : List pa_F), (∀ f ∈ fs, pa_wff f) → pa_mu (pa_closeF n e fs).2.2 ≤ pa_mu fs
  | [], _ => by unfold pa_closeF; exact Int.le_refl _
  | f :: fs, h => by
    have h1 := (h f List.mem_cons_self).2.1
    unfold pa_closeF
    split
    · exact Int.le_refl _
    · split
      · show (26 - (pa_catch f []).1 2) + pa_mu fs ≤ (26 - f.1 2) + pa_mu fs
        have : (pa_catch f []).1 2 = pa_fin f.2.1 + 1 := by simp [pa_catch, pa_s]
        omega
      · have h2 := pa_mu_closeF (n := n) (e := e) fs (fun g hg => h g (List.mem_cons_of_mem _ hg))
        show _ ≤ (26 - f.1 2) + pa_mu fs
        omega
theorem pa_mu_end {c : pa_C} {f : pa_F} {fs : List pa_F} (hf : c.2.2 = f :: fs) (h : ∀ g ∈ f :: fs, pa_wff g) : pa_mu (pa_endTop c).2.2 + 1 ≤ pa_mu (f :: fs) := by
  have h1 := (h f List.mem_cons_self).2.1
  have h2 : ∀ g ∈ fs, pa_wff g := fun g hg => h g (List.mem_cons_of_mem _ hg)
  show _ ≤ (26 - f.1 2) + pa_mu fs
  unfold pa_endTop
  rw [hf]
  dsimp only
  split
  · split
    · show pa_mu [] + 1 ≤ _
      have := pa_mu_0 _ h2
      unfold pa_mu
      omega
    · dsimp only
      omega
  · have := pa_mu_closeF (n := c.1) (e := c.2.1) fs h2
    omega
  · rename_i g gs _
    have := pa_mu_throwF (n := c.1) (e := c.2.1) fs (g :: gs) h2
    omega
theorem pa_mu_st1 {a : pa_M} {who : Int} {f : pa_F} {fs : List pa_F} (hc : pa_wfc (a.2.1 who)) (hf : (a.2.1 who).2.2 = f :: fs) : pa_mu ((pa_st1 a who true).2.1 who).2.2 + 1 ≤ pa_mu (a.2.1 who).2.2 := by
  have hff := hc.2.2.1
  rw [hf] at hff
  have hw := pa_wfc_top hc hf
  unfold pa_st1
  rw [hf]
  dsimp only
  split
  · rw [pa_cw_same]
    exact pa_mu_end hf hff
  · rename_i hlen
    have hC := pa_next_wf hc hf hlen
    have hmem := pa_at_mem (p := f.2.1) (i := f.1 2) hw.2.1.1 (by omega)
    obtain ⟨hlo, hn0, hn9⟩ := hw.2.2.2.2.1.2.1 _ hmem
    have hmu : pa_mu ((pa_s f.1 2 (f.1 2 + 1), f.2) :: fs) + 1 = pa_mu (f :: fs) := by
      unfold pa_mu
      simp [pa_s]
      omega
    generalize (pa_at f.2.1 (f.1 2)).1 = l at *
    generalize (pa_at f.2.1 (f.1 2)).2 = n at *
    generalize hCe : ((a.2.1 who).1, (a.2.1 who).2.1, ((pa_s f.1 2 (f.1 2 + 1), f.2) :: fs : List pa_F)) = C at *
    have Cf : C.2.2 = (pa_s f.1 2 (f.1 2 + 1), f.2) :: fs := by rw [← hCe]
    have hmC : pa_mu C.2.2 + 1 ≤ pa_mu (f :: fs) := by rw [Cf]; omega
    unfold pa_do
    split
    · rw [pa_cw_same]; exact hmC
    split
    · rw [pa_cw_same]; exact hmC
    split
    · rw [pa_cw_same]
      split
      · unfold pa_top
        rw [Cf]
        dsimp only
        rw [← hmu]
        unfold pa_mu
        simp [pa_s]
        omega
      · exact hmC
    split
    · rw [pa_cw_same]
      unfold pa_top
      rw [Cf]
      dsimp only
      rw [← hmu]
      unfold pa_mu
      simp [pa_s]
    split
    · rw [pa_cw_same]
      have := pa_mu_throwF (n := C.1) (e := C.2.1) C.2.2 [n] hC.2.2.1
      unfold pa_throw
      omega
    split
    · rw [pa_cw_same]; exact hmC
    · rename_i r; exact absurd rfl r
theorem pa_mu_step {a : pa_M} {who : Int} (h : pa_wf a) (hwho : 0 ≤ who ∧ who < a.1 4) (hs1 : (a.2.1 who).1 2 = 1) : pa_mu ((pa_step a who true).2.1 who).2.2 + 1 ≤ pa_mu (a.2.1 who).2.2 := by
  have hc := h.1.2.2.1 who hwho.1 hwho.2
  have hne : (a.2.1 who).2.2 ≠ [] := fun r => by have := hc.2.2.2.1.mpr r; omega
  obtain ⟨f, fs, hfs⟩ := List.exists_cons_of_ne_nil hne
  have h1 := pa_st1_cl (a := a) hs1
  rcases pa_step_end (cl := true) h hwho (by omega) with e | e
  · rw [e]; exact pa_mu_st1 hc hfs
  · omega
section
variable {d M q : Nat} {Φ : Option pe_V → pe_H → Prop} {σ : pe_H} {y y' : Nat → Int → Int} {c n : Int} {a : pa_M}
end

