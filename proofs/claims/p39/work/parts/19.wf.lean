/-! WHAT IS ALWAYS SO: throwing, closing, ending keep it -/
theorem pa_ff_b : ∀ (p : pa_P) (i : Int), 0 ≤ i → pa_ff p i = -1 ∨ (i ≤ pa_ff p i ∧ pa_ff p i < i + p.length)
  | [], _, _ => Or.inl rfl
  | q :: l, i, hi => by
    unfold pa_ff
    split
    · right; rw [List.length_cons]; omega
    · rcases pa_ff_b l (i + 1) (by omega) with h | h
      · exact Or.inl h
      · right; rw [List.length_cons]; omega
theorem pa_fin_b (p : pa_P) : -1 ≤ pa_fin p ∧ pa_fin p < p.length := by
  rcases pa_ff_b p 0 (by omega) with h | h
  · unfold pa_fin; rw [h]; omega
  · unfold pa_fin; omega
theorem pa_add_ne {φ : List Int} {h : Option (List Int)} (hφ : φ ≠ []) : pa_add φ h ≠ [] := by
  unfold pa_add
  split
  · split
    · simp
    · exact hφ
  · exact hφ
theorem pa_wff_catch {f : pa_F} {h : List Int} (hf : pa_wff f) (hc : f.1 2 ≤ pa_fin f.2.1) : pa_wff (pa_catch f h) := by
  obtain ⟨h1, h2, h3, h4, h5, h6⟩ := hf
  have hb := pa_fin_b f.2.1
  have hl := h5.1
  refine ⟨?_, ?_, ?_, ?_, h5, ?_⟩ <;> simp [pa_catch, pa_s] <;> first | assumption | omega
theorem pa_wfn_2 {n : Nat → Int} {v : Int} (h : pa_wfn n) (h7 : n 7 = -4) (h0 : 0 ≤ v) (h8 : v ≤ 8) : pa_wfn (pa_s n 2 v) := by
  obtain ⟨a0, a2, a3, a4, a5, a6, a20, a21, a7⟩ := h
  refine ⟨?_, ?_, ?_, ?_, ?_, ?_, ?_, ?_, ?_⟩ <;> simp [pa_s] <;> first | assumption | omega
theorem pa_throwF_wf {n : Nat → Int} (hn : pa_wfn n) (h3 : n 2 < 3) : ∀ (fs : List pa_F) (φ : List Int), φ ≠ [] → fs.length ≤ 6 → (∀ f ∈ fs, pa_wff f) → pa_wfc (pa_throwF n [] fs φ)
  | [], φ, hφ, _, _ => by
    refine ⟨pa_wfn_2 hn (hn.2.2.2.2.2.2.2.2 (Or.inl h3)) (by decide) (by decide), Nat.zero_le _, (fun f hf => by cases hf), ?_, ?_⟩
    · show 6 ≤ pa_s n 2 7 2 ↔ ([] : List pa_F) = []
      rw [pa_ss]; simp
    · show pa_s n 2 7 2 = 7 ↔ φ ≠ []
      rw [pa_ss]; simp [hφ]
  | f :: fs, φ, hφ, hl, hf => by
    unfold pa_throwF
    split
    · rename_i hc
      refine ⟨hn, hl, ?_, ?_, ?_⟩
      · intro g hg
        rcases List.mem_cons.mp hg with rfl | hg
        · exact pa_wff_catch (hf f List.mem_cons_self) hc.2
        · exact hf g (List.mem_cons_of_mem _ hg)
      · show 6 ≤ n 2 ↔ _
        simp; omega
      · show n 2 = 7 ↔ _
        simp; omega
    · rw [List.length_cons] at hl
      exact pa_throwF_wf hn h3 fs _ (pa_add_ne hφ) (by omega) (fun g hg => hf g (List.mem_cons_of_mem _ hg))
theorem pa_closeF_wf {n : Nat → Int} (hn : pa_wfn n) (h3 : n 2 < 3) : ∀ (fs : List pa_F), fs.length ≤ 6 → (∀ f ∈ fs, pa_wff f) → pa_wfc (pa_closeF n [] fs)
  | [], _, _ => by
    refine ⟨pa_wfn_2 hn (hn.2.2.2.2.2.2.2.2 (Or.inl h3)) (by decide) (by decide), Nat.zero_le _, (fun f hf => by cases hf), ?_, ?_⟩
    · show 6 ≤ pa_s n 2 8 2 ↔ ([] : List pa_F) = []
      rw [pa_ss]; simp
    · show pa_s n 2 8 2 = 7 ↔ ([] : List Int) ≠ []
      rw [pa_ss]; simp
  | f :: fs, hl, hf => by
    have hf0 := hf f List.mem_cons_self
    unfold pa_closeF
    split
    · rename_i hc
      refine ⟨hn, hl, ?_, ?_, ?_⟩
      · intro g hg
        rcases List.mem_cons.mp hg with rfl | hg
        · obtain ⟨h1, h2, h3, h4, h5, h6⟩ := hf0
          exact ⟨h1, h2, h3, h4, h5, fun _ => hc⟩
        · exact hf g (List.mem_cons_of_mem _ hg)
      · show 6 ≤ n 2 ↔ _
        simp; omega
      · show n 2 = 7 ↔ _
        simp; omega
    · split
      · rename_i hc
        refine ⟨hn, hl, ?_, ?_, ?_⟩
        · intro g hg
          rcases List.mem_cons.mp hg with rfl | hg
          · exact pa_wff_catch hf0 hc
          · exact hf g (List.mem_cons_of_mem _ hg)
        · show 6 ≤ n 2 ↔ _
          simp; omega
        · show n 2 = 7 ↔ _
          simp; omega
      · rw [List.length_cons] at hl
        exact pa_closeF_wf hn h3 fs (by omega) (fun g hg => hf g (List.mem_cons_of_mem _ hg))
theorem pa_wfc_e {c : pa_C} (h : pa_wfc c) (h2 : c.1 2 ≠ 7) : c.2.1 = [] := Classical.byContradiction fun q => h2 (h.2.2.2.2.mpr q)
theorem pa_throw_wf {c : pa_C} {φ : List Int} (h : pa_wfc c) (h3 : c.1 2 < 3) (hφ : φ ≠ []) : pa_wfc (pa_throw c φ) := by
  unfold pa_throw
  rw [pa_wfc_e h (by omega)]
  exact pa_throwF_wf h.1 h3 _ _ hφ h.2.1 h.2.2.1
theorem pa_close_wf {c : pa_C} (h : pa_wfc c) (h3 : c.1 2 < 3) : pa_wfc (pa_close c) := by
  unfold pa_close
  rw [pa_wfc_e h (by omega)]
  exact pa_closeF_wf h.1 h3 _ h.2.1 h.2.2.1
theorem pa_endTop_wf {c : pa_C} (h : pa_wfc c) (h3 : c.1 2 < 3) : pa_wfc (pa_endTop c) := by
  have he := pa_wfc_e h (by omega)
  unfold pa_endTop
  split
  · exact h
  · rename_i f fs hfs
    have hl := h.2.1
    have hm := h.2.2.1
    rw [hfs] at hl hm
    rw [List.length_cons] at hl
    have hm2 : ∀ g ∈ fs, pa_wff g := fun g hg => hm g (List.mem_cons_of_mem _ hg)
    split
    · split
      · rw [he]
        refine ⟨pa_wfn_2 h.1 (h.1.2.2.2.2.2.2.2.2 (Or.inl h3)) (by decide) (by decide), Nat.zero_le _, (fun f hf => by cases hf), ?_, ?_⟩
        · show 6 ≤ pa_s c.1 2 6 2 ↔ ([] : List pa_F) = []
          rw [pa_ss]; simp
        · show pa_s c.1 2 6 2 = 7 ↔ ([] : List Int) ≠ []
          rw [pa_ss]; simp
      · rename_i g gs _
        rw [he]
        refine ⟨h.1, (by show (_ :: _ : List pa_F).length ≤ 6; omega), hm2, ?_, ?_⟩
        · show 6 ≤ c.1 2 ↔ _
          simp; omega
        · show c.1 2 = 7 ↔ _
          simp; omega
    · rw [he]
      exact pa_closeF_wf h.1 h3 _ (by omega) hm2
    · rw [he]
      exact pa_throwF_wf h.1 h3 _ _ (by simp) (by omega) hm2
theorem pa_wfc_n {c : pa_C} {n : Nat → Int} (h : pa_wfc c) (hn : pa_wfn n) (h6 : c.1 2 < 6) (h2 : n 2 < 6) : pa_wfc (n, c.2) := by
  obtain ⟨-, b, d, e, g⟩ := h
  refine ⟨hn, b, d, ?_, ?_⟩
  · show 6 ≤ n 2 ↔ c.2.2 = []
    rw [← e]; omega
  · show n 2 = 7 ↔ c.2.1 ≠ []
    rw [← g]; omega
theorem pa_tmod_b {x : Int} (h : 0 ≤ x) : 0 ≤ Int.tmod x 1000 ∧ Int.tmod x 1000 ≤ 999 := by
  rw [Int.tmod_eq_emod_of_nonneg h]; omega
theorem pa_on_wf {c : pa_C} (h : pa_wfc c) (h6 : c.1 2 < 6) : pa_wfc (pa_on c) := by
  refine pa_wfc_n h ?_ h6 (by rw [pa_sn (by decide), pa_ss]; decide)
  obtain ⟨a0, a2, a3, a4, a5, a6, a20, a21, a7⟩ := h.1
  refine ⟨?_, ?_, ?_, ?_, ?_, ?_, ?_, ?_, ?_⟩ <;> simp [pa_s] <;> first | assumption | omega
theorem pa_acc_wf {c : pa_C} {v : Int} (h : pa_wfc c) (h0 : 0 ≤ v) (h9 : v ≤ 999) : pa_wfc (pa_s c.1 3 v, c.2) := by
  obtain ⟨⟨a0, a2, a3, a4, a5, a6, a20, a21, a7⟩, b, d, e, g⟩ := h
  refine ⟨⟨?_, ?_, ?_, ?_, ?_, ?_, ?_, ?_, ?_⟩, b, d, ?_, ?_⟩ <;> simp [pa_s] <;> first | assumption | omega
theorem pa_have_wf {c o : pa_C} (h : pa_wfc c) (h3 : c.1 2 < 3) (ho : pa_wfc o) : pa_wfc (pa_have c o) := by
  unfold pa_have
  split
  · exact pa_acc_wf h ho.1.2.2.1.1 ho.1.2.2.1.2
  · split
    · exact pa_throw_wf h h3 (by simp)
    · exact pa_throw_wf h h3 (by simp)
theorem pa_sent_b {k f v acc : Int} (hf : 0 ≤ f) (hv : 0 ≤ v) (hv9 : v ≤ 999) (ha : 0 ≤ acc ∧ acc ≤ 999) : 0 ≤ pa_sent k f v acc ∧ pa_sent k f v acc ≤ 999 := by
  unfold pa_sent
  split
  · exact pa_tmod_b (by omega)
  · split
    · split
      · exact ha
      · omega
    · omega
theorem pa_take_wf {c : pa_C} {v : Int} (h : pa_wfc c) (h3 : c.1 2 < 3) (hv : 0 ≤ v) (hv9 : v ≤ 999) : pa_wfc (pa_take c v) := by
  refine pa_wfc_n h ?_ (by omega) (by rw [pa_ss]; decide)
  have hb := pa_sent_b (k := c.1 20) h.1.2.2.2.2.2.2.2.1.1 hv hv9 h.1.2.2.1
  obtain ⟨a0, a2, a3, a4, a5, a6, a20, a21, a7⟩ := h.1
  split
  · refine ⟨?_, ?_, ?_, ?_, ?_, ?_, ?_, ?_, ?_⟩ <;> simp [pa_s] <;> first | assumption | omega
  · refine ⟨?_, ?_, ?_, ?_, ?_, ?_, ?_, ?_, ?_⟩ <;> simp [pa_s] <;> first | assumption | omega
theorem pa_take2 (c : pa_C) (v : Int) : (pa_take c v).1 2 = 1 := by
  simp [pa_take, pa_s]
/-! how many faults may still come -/
theorem pa_pt_b (f : pa_F) : 1 ≤ pa_pt f ∧ pa_pt f ≤ 2 := by
  unfold pa_pt; split <;> omega
theorem pa_pw_b (n : Nat) : 0 ≤ pa_pw n := by
  unfold pa_pw; split <;> omega
theorem pa_pw_1 {n : Nat} (h : n ≤ 5) : 1 ≤ pa_pw n := by
  match n, h with
  | 0, _ => decide
  | 1, _ => decide
  | 2, _ => decide
  | 3, _ => decide
  | 4, _ => decide
  | 5, _ => decide
theorem pa_pw_h (n : Nat) (h : n ≤ 4) : pa_pw n = 2 * pa_pw (n + 1) := by
  match n, h with
  | 0, _ => decide
  | 1, _ => decide
  | 2, _ => decide
  | 3, _ => decide
  | 4, _ => decide
theorem pa_pt_2 {f : pa_F} (h : f.2.2 ≠ none → f.1 4 = 1) (h4 : f.1 4 = 0) : pa_pt f = 2 := by
  unfold pa_pt
  split
  · rename_i q
    have := h (by rw [q]; simp)
    omega
  · rfl
theorem pa_pt_catch {f : pa_F} {φ : List Int} (h : φ ≠ []) : pa_pt (pa_catch f φ) = 1 := by
  unfold pa_pt
  show (match some φ with | some (_ :: _) => (1 : Int) | _ => 2) = 1
  cases φ with
  | nil => exact absurd rfl h
  | cons x l => rfl
theorem pa_pb_0 : ∀ fs : List pa_F, 0 ≤ pa_pb fs
  | [] => by decide
  | f :: fs => by
    unfold pa_pb
    have h1 := pa_pb_0 fs
    have h2 := pa_pt_b f
    have h3 := pa_pw_b fs.length
    have h4 : 0 ≤ (pa_pt f - 1) * pa_pw fs.length := Int.mul_nonneg (by omega) h3
    omega
theorem pa_pot_0 : ∀ fs : List pa_F, 0 ≤ pa_pot fs
  | [] => by decide
  | f :: fs => by
    have h1 := pa_pb_0 fs
    have h2 := pa_pt_b f
    have h3 := pa_pw_b fs.length
    have h4 : 0 ≤ pa_pt f * pa_pw fs.length := Int.mul_nonneg (by omega) h3
    show 0 ≤ pa_pt f * pa_pw fs.length + pa_pb fs
    omega
/-- thrown at from above -/
theorem pa_pot_thr {n : Nat → Int} {e : List Int} : ∀ (fs : List pa_F) (φ : List Int), φ ≠ [] → (∀ f ∈ fs, pa_wff f) → pa_pot (pa_throwF n e fs φ).2.2 ≤ pa_pb fs
  | [], φ, _, _ => by unfold pa_throwF; exact Int.le_refl _
  | f :: fs, φ, hφ, hf => by
    have hf0 := hf f List.mem_cons_self
    unfold pa_throwF
    split
    · rename_i hc
      show pa_pt (pa_catch f φ) * pa_pw fs.length + pa_pb fs ≤ (pa_pt f - 1) * pa_pw fs.length + pa_pb fs
      rw [pa_pt_catch hφ, pa_pt_2 hf0.2.2.2.2.2 hc.1]
      omega
    · have h1 := pa_pot_thr (n := n) (e := e) fs (pa_add φ f.2.2) (pa_add_ne hφ) (fun g hg => hf g (List.mem_cons_of_mem _ hg))
      have h2 := pa_pt_b f
      have h3 := pa_pw_b fs.length
      have h4 : 0 ≤ (pa_pt f - 1) * pa_pw fs.length := Int.mul_nonneg (by omega) h3
      show _ ≤ (pa_pt f - 1) * pa_pw fs.length + pa_pb fs
      omega
/-- a new fault -/
theorem pa_pot_new {n : Nat → Int} {e : List Int} {f : pa_F} {fs : List pa_F} {φ : List Int} (hφ : φ ≠ []) (hf : ∀ g ∈ f :: fs, pa_wff g) (hl : fs.length ≤ 5) : pa_pot (pa_throwF n e (f :: fs) φ).2.2 + 1 ≤ pa_pot (f :: fs) := by
  have hf0 := hf f List.mem_cons_self
  have h3 := pa_pw_1 hl
  unfold pa_throwF
  split
  · rename_i hc
    show pa_pt (pa_catch f φ) * pa_pw fs.length + pa_pb fs + 1 ≤ pa_pt f * pa_pw fs.length + pa_pb fs
    rw [pa_pt_catch hφ, pa_pt_2 hf0.2.2.2.2.2 hc.1]
    omega
  · have h1 := pa_pot_thr (n := n) (e := e) fs (pa_add φ f.2.2) (pa_add_ne hφ) (fun g hg => hf g (List.mem_cons_of_mem _ hg))
    have h2 := pa_pt_b f
    have h4 : pa_pw fs.length ≤ pa_pt f * pa_pw fs.length := by
      have := Int.mul_le_mul_of_nonneg_right h2.1 (by omega : 0 ≤ pa_pw fs.length)
      omega
    show _ + 1 ≤ pa_pt f * pa_pw fs.length + pa_pb fs
    omega
theorem pa_pot_down {f : pa_F} {fs : List pa_F} (h : pa_pt f = 2) (hl : fs.length ≤ 5) : pa_pot fs ≤ pa_pot (f :: fs) := by
  cases fs with
  | nil =>
    have := pa_pot_0 [f]
    exact this
  | cons g gs =>
    show pa_pt g * pa_pw gs.length + pa_pb gs ≤ pa_pt f * pa_pw (g :: gs).length + ((pa_pt g - 1) * pa_pw gs.length + pa_pb gs)
    rw [List.length_cons] at *
    rw [h, pa_pw_h gs.length (by omega), Int.sub_mul, Int.one_mul]
    omega
theorem pa_pot_cls {n : Nat → Int} {e : List Int} : ∀ (fs : List pa_F), fs.length ≤ 6 → (∀ f ∈ fs, pa_wff f) → pa_pot (pa_closeF n e fs).2.2 ≤ pa_pot fs
  | [], _, _ => by unfold pa_closeF; exact Int.le_refl _
  | f :: fs, hl, hf => by
    have hf0 := hf f List.mem_cons_self
    rw [List.length_cons] at hl
    unfold pa_closeF
    split
    · show pa_pt (f.1, f.2.1, if f.2.2 = none then some [] else f.2.2) * pa_pw fs.length + pa_pb fs ≤ pa_pt f * pa_pw fs.length + pa_pb fs
      have : pa_pt (f.1, f.2.1, if f.2.2 = none then some [] else f.2.2) = pa_pt f := by
        unfold pa_pt
        by_cases q : f.2.2 = none
        · rw [if_pos q, q]
        · rw [if_neg q]
      rw [this]
      exact Int.le_refl _
    · rename_i h1
      have h0 : f.1 4 = 0 := by have := hf0.2.2.2.1; omega
      have h2 := pa_pt_2 hf0.2.2.2.2.2 h0
      split
      · show 2 * pa_pw fs.length + pa_pb fs ≤ pa_pt f * pa_pw fs.length + pa_pb fs
        rw [h2]
        exact Int.le_refl _
      · exact Int.le_trans (pa_pot_cls fs (by omega) (fun g hg => hf g (List.mem_cons_of_mem _ hg))) (pa_pot_down h2 (by omega))
theorem pa_pot_end {c : pa_C} (h : pa_wfc c) : pa_pot (pa_endTop c).2.2 ≤ pa_pot c.2.2 := by
  unfold pa_endTop
  split
  · exact Int.le_refl _
  · rename_i f fs hfs
    have hl := h.2.1
    have hm := h.2.2.1
    rw [hfs] at hl hm
    rw [List.length_cons] at hl
    have hm2 : ∀ g ∈ fs, pa_wff g := fun g hg => hm g (List.mem_cons_of_mem _ hg)
    rw [hfs]
    split
    · rename_i q
      have h2 : pa_pt f = 2 := by unfold pa_pt; rw [q]
      split
      · exact pa_pot_0 _
      · exact pa_pot_down h2 (by omega : (_ :: _ : List pa_F).length ≤ 5)
    · rename_i q
      have h2 : pa_pt f = 2 := by unfold pa_pt; rw [q]
      exact Int.le_trans (pa_pot_cls fs (by omega) hm2) (pa_pot_down h2 (by omega))
    · rename_i g gs _
      have h1 := pa_pot_thr (n := c.1) (e := c.2.1) fs (g :: gs) (by simp) hm2
      refine Int.le_trans h1 ?_
      have h2 := pa_pt_b f
      have h3 := pa_pw_b fs.length
      have h4 : 0 ≤ pa_pt f * pa_pw fs.length := Int.mul_nonneg (by omega) h3
      show _ ≤ pa_pt f * pa_pw fs.length + pa_pb fs
      omega
theorem pa_pot_push {fs : List pa_F} {n : Int} {p : pa_P} (hl : fs.length ≤ 5) (hne : fs ≠ []) : pa_pot (pa_nf n p :: fs) ≤ pa_pot fs := by
  cases fs with
  | nil => exact absurd rfl hne
  | cons f fs =>
    rw [List.length_cons] at hl
    show 2 * pa_pw (f :: fs).length + ((pa_pt f - 1) * pa_pw fs.length + pa_pb fs) ≤ pa_pt f * pa_pw fs.length + pa_pb fs
    rw [List.length_cons, Int.sub_mul, Int.one_mul, pa_pw_h fs.length (by omega)]
    omega

