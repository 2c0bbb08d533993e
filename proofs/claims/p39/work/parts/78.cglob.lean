/-! THE CLASS WHOLE: what stands where, and what keeps it -/
/-- what is known of an object is the same in both heaps -/
def pg_same (σ σ' : pe_H) (x : Nat) : Prop := pe_K σ' x = pe_K σ x ∧ pe_L σ' x = pe_L σ x ∧ ∀ j, pe_I σ' x j = pe_I σ x j ∧ pe_R σ' x j = pe_R σ x j
theorem pg_same.refl (σ : pe_H) (x : Nat) : pg_same σ σ x := ⟨rfl, rfl, fun _ => ⟨rfl, rfl⟩⟩
theorem pg_same.trans {σ σ' σ'' : pe_H} {x : Nat} (h : pg_same σ σ' x) (h' : pg_same σ' σ'' x) : pg_same σ σ'' x := ⟨h'.1.trans h.1, h'.2.1.trans h.2.1, fun j => ⟨(h'.2.2 j).1.trans (h.2.2 j).1, (h'.2.2 j).2.trans (h.2.2 j).2⟩⟩
theorem pk_fr.same {Z : Nat → Prop} {σ σ' : pe_H} (h : pk_fr Z σ σ') {x : Nat} (hx : ¬ Z x) : pg_same σ σ' x := ⟨pk_frK h x, pk_frL h x, fun j => h.2 x hx j⟩
section
variable {B : Nat} {T T' : Nat → Prop} {σ σ' : pe_H} {a : pa_M}
theorem pk_Fo_sm {r : Nat} (hs : ∀ x, r ≤ x → x < r + 8 → pg_same σ σ' x) (h : pk_Fo r σ) : pk_Fo r σ' := by
  obtain ⟨a1, a2, a3, a4, a5, a6⟩ := h
  have s0 := hs r (by omega) (by omega)
  have s1 := hs (r + 1) (by omega) (by omega)
  refine ⟨a1, by rw [s0.1]; exact a2, by rw [(s0.2.2 10).2]; exact a3, by rw [s1.1]; exact a4, by rw [s1.2.1]; exact a5, fun i h0 h1 => ⟨by rw [(s1.2.2 i).2]; exact (a6 i h0 h1).1, ?_⟩⟩
  rw [(hs (pk_f r i) (by unfold pk_f; omega) (by unfold pk_f; omega)).1]
  exact (a6 i h0 h1).2
theorem pk_Fq_sm {r : Nat} (s0 : pg_same σ σ' r) (s1 : pg_same σ σ' (r + 1)) (h : pk_Fq r σ) : pk_Fq r σ' := by
  obtain ⟨a1, a2, a3, a4, a5⟩ := h
  exact ⟨a1, by rw [s0.1]; exact a2, by rw [(s0.2.2 0).2]; exact a3, by rw [s1.1]; exact a4, by rw [s1.2.1]; exact a5⟩
theorem pk_Fm_sm (hs : ∀ x, pk_Z B x → pg_same σ σ' x) (h : pk_Fm B σ) : pk_Fm B σ' := by
  have z : ∀ k, k ≤ 8 → pg_same σ σ' (B + k) := fun k hk => hs _ (by unfold pk_Z; omega)
  have z0 : pg_same σ σ' B := z 0 (by decide)
  obtain ⟨⟨a1, a2⟩, a3, a4, a5, a6⟩ := h
  have e : ∀ j, pe_R σ' B j = pe_R σ B j := fun j => (z0.2.2 j).2
  have k1 := (z 1 (by decide)).1
  have k2 := (z 2 (by decide)).1
  have k3 := (z 3 (by decide)).1
  have k4 := (z 4 (by decide)).1
  have k5 := (z 5 (by decide)).1
  have k6 := (z 6 (by decide)).1
  have k7 := (z 7 (by decide)).1
  have k8 := (z 8 (by decide)).1
  have l1 := (z 1 (by decide)).2.1
  have l2 := (z 2 (by decide)).2.1
  have l3 := (z 3 (by decide)).2.1
  have l4 := (z 4 (by decide)).2.1
  have l5 := (z 5 (by decide)).2.1
  have l6 := (z 6 (by decide)).2.1
  have l7 := (z 7 (by decide)).2.1
  have l8 := (z 8 (by decide)).2.1
  refine ⟨⟨a1, by rw [z0.1]; exact a2⟩, ?_, ?_, ?_, ?_⟩
  · simp only [e, k1, k2, k3, k4, k5, k6, k7, k8, l1, l2, l3, l4, l5, l6, l7, l8]
    exact a3
  · intro i h0 h1
    obtain ⟨b1, b2⟩ := a4 i h0 h1
    refine ⟨by rw [((z 2 (by decide)).2.2 i).2]; exact b1, pk_Fo_sm (fun x x0 x1 => hs x ?_) b2⟩
    unfold pk_c at x0 x1
    unfold pk_Z
    omega
  · intro i h0 h1
    obtain ⟨b1, b2⟩ := a5 i h0 h1
    exact ⟨by rw [((z 3 (by decide)).2.2 i).2]; exact b1, pk_Fq_sm (hs _ (by unfold pk_q pk_Z; omega)) (hs _ (by unfold pk_q pk_Z; omega)) b2⟩
  · intro i h0 h1
    obtain ⟨b1, b2⟩ := a6 i h0 h1
    exact ⟨by rw [((z 4 (by decide)).2.2 i).2]; exact b1, pk_Fq_sm (hs _ (by unfold pk_g pk_Z; omega)) (hs _ (by unfold pk_g pk_Z; omega)) b2⟩
theorem pk_RPr_sm {P : Nat} {p : pa_P} (hs : ∀ x, T x → pg_same σ σ' x) (hT : ∀ x, T x → T' x) (h : pk_RPr T σ P p) : pk_RPr T' σ' P p := by
  obtain ⟨⟨a1, a2⟩, a3, a4, a5, a6, a7⟩ := h
  have s1 := hs _ a1
  have s2 := hs _ a2
  have e := (s1.2.2 0).2
  unfold pk_RPr
  rw [e]
  exact ⟨⟨hT _ a1, hT _ a2⟩, by rw [s1.1]; exact a3, by rw [(s1.2.2 1).1]; exact a4, by rw [s2.1]; exact a5, by rw [s2.2.1]; exact a6, fun i h0 h1 => by rw [(s2.2.2 i).1]; exact a7 i h0 h1⟩
theorem pk_RFs_sm {w : Int → Int × List Int} {r m : Nat} {own : Int} (hI : ∀ i : Nat, i < m → ∀ j, pe_I σ' (pk_f r i) j = pe_I σ (pk_f r i) j ∧ pe_R σ' (pk_f r i) j = pe_R σ (pk_f r i) j) (hs : ∀ x, T x → pg_same σ σ' x) (hT : ∀ x, T x → T' x) : ∀ (fs : List pa_F) (ub : Int), fs.length ≤ m → pk_RFs T σ w r own fs ub → pk_RFs T' σ' w r own fs ub
  | [], _, _, _ => trivial
  | f :: fs, ub, hl, h => by
    rw [List.length_cons] at hl
    obtain ⟨⟨⟨b1, b2, b3, b4⟩, b5, b6⟩, b7⟩ := h
    have hi := hI fs.length (by omega)
    refine ⟨⟨⟨by rw [(hi 1).1]; exact b1, by rw [(hi 2).1]; exact b2, by rw [(hi 3).1]; exact b3, by rw [(hi 4).1]; exact b4⟩, by rw [(hi 0).2]; exact pk_RPr_sm hs hT b5, by rw [(hi 5).1]; exact b6⟩, ?_⟩
    rw [(hi 5).1]
    exact pk_RFs_sm hI hs hT fs _ (by omega) b7
/-- a machine stands where its cells and what never changes stand -/
theorem pk_RM_sm (h : pk_RM B T σ a) (hw9 : pa_wf9 a) (hz : ∀ x, pk_Z B x → pg_same σ σ' x) (hs : ∀ x, T x → pg_same σ σ' x) (hT : ∀ x, T x → T' x) (hT' : ∀ x, T' x → ¬ pk_Z B x) : pk_RM B T' σ' a := by
  obtain ⟨w, n, ⟨a1, a2, a3, a4, a5, a6, a7⟩, hn⟩ := h
  have z : ∀ k, k ≤ 8 → pg_same σ σ' (B + k) := fun k hk => hz _ (by unfold pk_Z; omega)
  have z0 : pg_same σ σ' B := z 0 (by decide)
  have h8 := hw9.1
  refine ⟨w, n, ⟨pk_Fm_sm hz a1, hT', ?_, ?_, fun c c0 c1 => ?_, fun p p0 p5 => ?_, fun ch c0 c3 => ?_⟩, hn⟩
  · rw [(z0.2.2 4).1, (z0.2.2 5).1, (z0.2.2 6).1, (z0.2.2 12).1]; exact a3
  · rw [show pe_I σ' (B + 7) = pe_I σ (B + 7) from funext fun j => ((z 7 (by decide)).2.2 j).1, show pe_I σ' (B + 8) = pe_I σ (B + 8) from funext fun j => ((z 8 (by decide)).2.2 j).1]
    exact a4
  · obtain ⟨⟨⟨b0, b2, b3, b4, b5, b6, b7⟩, b8, b9, b10, b11⟩, c2, c3, c4⟩ := a5 c c0 c1
    have zc : ∀ x, pk_c B c ≤ x → x < pk_c B c + 8 → pg_same σ σ' x := fun x x0 x1 => hz x (by unfold pk_c at x0 x1; unfold pk_Z; omega)
    have s0 := zc (pk_c B c) (by omega) (by omega)
    have sm := hs _ b8
    refine ⟨⟨?_, by rw [(s0.2.2 1).2]; exact hT _ b8, by rw [(s0.2.2 1).2, sm.1]; exact b9, by rw [(s0.2.2 1).2, (sm.2.2 0).1]; exact b10, by rw [(s0.2.2 1).2, (sm.2.2 1).1]; exact b11⟩, by rw [(s0.2.2 9).1]; exact c2, ?_, pk_RFs_sm (m := 6) (fun i hi j => (zc _ (by unfold pk_f; omega) (by unfold pk_f; omega)).2.2 j) hs hT _ _ (hw9.2 c c0 c1) c4⟩
    · rw [(s0.2.2 0).1, (s0.2.2 2).1, (s0.2.2 3).1, (s0.2.2 4).1, (s0.2.2 5).1, (s0.2.2 6).1, (s0.2.2 7).1]
      exact ⟨b0, b2, b3, b4, b5, b6, b7⟩
    · unfold pk_RCe
      rw [(s0.2.2 8).1]
      exact c3
  · rw [((z 1 (by decide)).2.2 p).2]
    exact pk_RPr_sm hs hT (a6 p p0 p5)
  · obtain ⟨b1, b2⟩ := a7 ch c0 c3
    have q : ∀ x, B + 75 ≤ x → x < B + 87 → pg_same σ σ' x := fun x x0 x1 => hz x (by unfold pk_Z; omega)
    exact ⟨pk_RQ_keep ((q _ (by unfold pk_q; omega) (by unfold pk_q; omega)).2.2 1).1 (fun j => ((q _ (by unfold pk_q; omega) (by unfold pk_q; omega)).2.2 j).1) b1, pk_RQ_keep ((q _ (by unfold pk_g; omega) (by unfold pk_g; omega)).2.2 1).1 (fun j => ((q _ (by unfold pk_g; omega) (by unfold pk_g; omega)).2.2 j).1) b2⟩
end
/-- the class's own cells that may change -/
def pg_Z (C x : Nat) : Prop := x = C ∨ (C + 175 ≤ x ∧ x ≤ C + 177) ∨ pk_Z (C + 1) x ∨ pk_Z (C + 88) x ∨ ∃ i : Int, 0 ≤ i ∧ i < 8 ∧ pk_Z (pk_m C i) x
theorem pg_Z_in {C x : Nat} (h : pg_Z C x) : C ≤ x ∧ x < C + 875 := by
  rcases h with h | h | h | h | ⟨i, i0, i8, h⟩
  · omega
  · omega
  · unfold pk_Z at h; omega
  · unfold pk_Z at h; omega
  · unfold pk_Z pk_m at h; omega
/-- all cells of the class -/
def pg_X (C x : Nat) : Prop := C ≤ x ∧ x < C + 875
/-- a row of some sort holds l -/
def pg_Rw (σ : pe_H) (P : Nat) (t : Int) (l : List Int) : Prop := (pe_K σ P = 6 ∧ pe_I σ P 0 = t) ∧ (pe_K σ (pe_R σ P 1) = 10 ∧ pe_L σ (pe_R σ P 1) = l.length ∧ 2 ≤ pe_R σ P 1) ∧ ∀ i : Nat, i < l.length → pe_I σ (pe_R σ P 1) i = l.getD i 0
/-- a shelf: s -/
def pg_S1 (C : Nat) (T U : Nat → Prop) (σ : pe_H) (d : Int) (s : pa_Sh) : Prop := (s.1 = 0 → pe_R σ (C + 177) d = 0 ∧ pe_R σ (C + 176) d = 0) ∧ (s.1 = 1 → pe_R σ (C + 177) d = 0 ∧ (pe_R σ (C + 176) d ≠ 0 ∧ T (pe_R σ (C + 176) d) ∧ pe_K σ (pe_R σ (C + 176) d) = 3 ∧ pe_I σ (pe_R σ (C + 176) d) 0 = s.2.1.1 ∧ pe_I σ (pe_R σ (C + 176) d) 1 = s.2.1.2)) ∧ (s.1 = 2 → pe_R σ (C + 176) d = 0 ∧ (pe_R σ (C + 177) d ≠ 0 ∧ T (pe_R σ (C + 177) d)) ∧ pg_Rw σ (pe_R σ (C + 177) d) s.2.1.1 s.2.2 ∧ U (pe_R σ (pe_R σ (C + 177) d) 1))
def pg_S (C : Nat) (T U : Nat → Prop) (σ : pe_H) (h : Int → pa_Sh) : Prop := (∀ d, 0 ≤ d → d < 8 → pg_S1 C T U σ d (h d)) ∧ ∀ d e, 0 ≤ d → d < 8 → 0 ≤ e → e < 8 → d ≠ e → (h d).1 = 2 → (h e).1 = 2 → pe_R σ (pe_R σ (C + 177) d) 1 ≠ pe_R σ (pe_R σ (C + 177) e) 1
/-- THE CLASS: T what never changes, U the rows' elements -/
def pg_G (C : Nat) (T U : Nat → Prop) (σ : pe_H) (a : pa_M) (im : Option pa_M) (h : Int → pa_Sh) : Prop := pk_Fs C σ ∧ ((∀ x, T x → ¬ pg_Z C x ∧ x < σ.1) ∧ (∀ x, U x → ¬ pg_X C x ∧ ¬ T x ∧ x < σ.1) ∧ C + 875 ≤ σ.1) ∧ (T (C + 178) ∧ pe_I σ (C + 178) 0 = 0 ∧ pe_I σ (C + 178) 1 = 0) ∧ pk_RM (C + 1) T σ a ∧ ((im = none → pe_I σ C 6 = 0) ∧ ∀ b, im = some b → pe_I σ C 6 = 1 ∧ pk_RM (C + 88) T σ b) ∧ pg_S C T U σ h
/-- what is always so -/
def pg_W (a : pa_M) (im : Option pa_M) (h : Int → pa_Sh) : Prop := (pa_wf a ∧ 0 ≤ a.1 6 ∧ a.1 6 ≤ 999) ∧ (∀ b, im = some b → pa_wf b ∧ 0 ≤ b.1 6 ∧ b.1 6 ≤ 999) ∧ pa_wfS h
section
variable {C : Nat} {T T' U U' : Nat → Prop} {σ σ' : pe_H} {a a' : pa_M} {im : Option pa_M} {h : Int → pa_Sh} {i : Int}
theorem pg_G.F (g : pg_G C T U σ a im h) : pk_Fs C σ := g.1
theorem pg_G.M (g : pg_G C T U σ a im h) : pk_RM (C + 1) T σ a := g.2.2.2.1
theorem pg_G.S (g : pg_G C T U σ a im h) : pg_S C T U σ h := g.2.2.2.2.2
theorem pg_G.TZ (g : pg_G C T U σ a im h) {x : Nat} (hx : T x) : ¬ pg_Z C x := (g.2.1.1 x hx).1
theorem pg_G.Tm (g : pg_G C T U σ a im h) (i0 : 0 ≤ i) (i8 : i < 8) : ∀ x, T x → ¬ pk_Z (pk_m C i) x := fun x hx q => g.TZ hx (Or.inr (Or.inr (Or.inr (Or.inr ⟨i, i0, i8, q⟩))))
theorem pk_Fs_sm (hs : ∀ x, pg_Z C x ∨ x = C + 178 → pg_same σ σ' x) (hF : pk_Fs C σ) : pk_Fs C σ' := by
  have s0 := hs C (Or.inl (Or.inl rfl))
  have s5 := hs (C + 175) (Or.inl (Or.inr (Or.inl ⟨by omega, by omega⟩)))
  have s6 := hs (C + 176) (Or.inl (Or.inr (Or.inl ⟨by omega, by omega⟩)))
  have s7 := hs (C + 177) (Or.inl (Or.inr (Or.inl ⟨by omega, by omega⟩)))
  have s8 := hs (C + 178) (Or.inr rfl)
  obtain ⟨⟨a1, a2⟩, ⟨b1, b2⟩, ⟨c1, c2, c3⟩, ⟨d1, d2, d3⟩, ⟨e1, e2, e3⟩, ⟨f1, f2⟩, ⟨g1, g2⟩, k⟩ := hF
  refine ⟨⟨a1, by rw [s0.1]; exact a2⟩, ⟨by rw [(s0.2.2 0).2]; exact b1, by rw [(s0.2.2 1).2]; exact b2⟩, ⟨by rw [(s0.2.2 2).2]; exact c1, by rw [s5.1]; exact c2, by rw [s5.2.1]; exact c3⟩, ⟨by rw [(s0.2.2 3).2]; exact d1, by rw [s6.1]; exact d2, by rw [s6.2.1]; exact d3⟩, ⟨by rw [(s0.2.2 4).2]; exact e1, by rw [s7.1]; exact e2, by rw [s7.2.1]; exact e3⟩, ⟨by rw [(s0.2.2 5).2]; exact f1, by rw [s8.1]; exact f2⟩, ⟨pk_Fm_sm (fun x hx => hs x (Or.inl (Or.inr (Or.inr (Or.inl hx))))) g1, pk_Fm_sm (fun x hx => hs x (Or.inl (Or.inr (Or.inr (Or.inr (Or.inl hx)))))) g2⟩, fun i i0 i8 => ⟨by rw [(s5.2.2 i).2]; exact (k i i0 i8).1, pk_Fm_sm (fun x hx => hs x (Or.inl (Or.inr (Or.inr (Or.inr (Or.inr ⟨i, i0, i8, hx⟩)))))) (k i i0 i8).2⟩⟩
/-- the shape, a machine's cells changed -/
theorem pk_Fs_mach (hF : pk_Fs C σ) {B : Nat} (hB : B = C + 1 ∨ B = C + 88 ∨ ∃ i : Int, 0 ≤ i ∧ i < 8 ∧ B = pk_m C i) (hf : pk_fr (pk_Z B) σ σ') (hm : pk_Fm B σ') : pk_Fs C σ' := by
  have dis : ∀ x, pk_Z B x → C < x ∧ x ≠ C + 175 ∧ x ≠ C + 176 ∧ x ≠ C + 177 ∧ x ≠ C + 178 := fun x hx => by
    rcases hB with e | e | ⟨i, i0, i8, e⟩
    · subst e; unfold pk_Z at hx; omega
    · subst e; unfold pk_Z at hx; omega
    · subst e; unfold pk_Z pk_m at hx; omega
  have s0 := hf.same (x := C) (fun q => by have := dis _ q; omega)
  have s5 := hf.same (x := C + 175) (fun q => by have := dis _ q; omega)
  have s6 := hf.same (x := C + 176) (fun q => by have := dis _ q; omega)
  have s7 := hf.same (x := C + 177) (fun q => by have := dis _ q; omega)
  have s8 := hf.same (x := C + 178) (fun q => by have := dis _ q; omega)
  have key : ∀ B', (B' = C + 1 ∨ B' = C + 88 ∨ ∃ i : Int, 0 ≤ i ∧ i < 8 ∧ B' = pk_m C i) → pk_Fm B' σ → pk_Fm B' σ' := fun B' hB' h' => by
    by_cases e : B' = B
    · rw [e]; exact hm
    · refine pk_Fm_sm (fun x hx => hf.same (fun q => e ?_)) h'
      unfold pk_Z at hx q
      rcases hB with e1 | e1 | ⟨i, i0, i8, e1⟩ <;> rcases hB' with e2 | e2 | ⟨j, j0, j8, e2⟩ <;> subst e1 <;> subst e2 <;> unfold pk_m at * <;> omega
  obtain ⟨⟨a1, a2⟩, ⟨b1, b2⟩, ⟨c1, c2, c3⟩, ⟨d1, d2, d3⟩, ⟨e1, e2, e3⟩, ⟨f1, f2⟩, ⟨g1, g2⟩, k⟩ := hF
  exact ⟨⟨a1, by rw [s0.1]; exact a2⟩, ⟨by rw [(s0.2.2 0).2]; exact b1, by rw [(s0.2.2 1).2]; exact b2⟩, ⟨by rw [(s0.2.2 2).2]; exact c1, by rw [s5.1]; exact c2, by rw [s5.2.1]; exact c3⟩, ⟨by rw [(s0.2.2 3).2]; exact d1, by rw [s6.1]; exact d2, by rw [s6.2.1]; exact d3⟩, ⟨by rw [(s0.2.2 4).2]; exact e1, by rw [s7.1]; exact e2, by rw [s7.2.1]; exact e3⟩, ⟨by rw [(s0.2.2 5).2]; exact f1, by rw [s8.1]; exact f2⟩, ⟨key _ (Or.inl rfl) g1, key _ (Or.inr (Or.inl rfl)) g2⟩, fun i i0 i8 => ⟨by rw [(s5.2.2 i).2]; exact (k i i0 i8).1, key _ (Or.inr (Or.inr ⟨i, i0, i8, rfl⟩)) (k i i0 i8).2⟩⟩
theorem pg_Rw_sm {P : Nat} {t : Int} {l : List Int} (s1 : pg_same σ σ' P) (s2 : pg_same σ σ' (pe_R σ P 1)) (hR : pg_Rw σ P t l) : pg_Rw σ' P t l := by
  obtain ⟨⟨b1, b2⟩, ⟨b3, b4, b6⟩, b5⟩ := hR
  unfold pg_Rw
  rw [(s1.2.2 1).2]
  exact ⟨⟨by rw [s1.1]; exact b1, by rw [(s1.2.2 0).1]; exact b2⟩, ⟨by rw [s2.1]; exact b3, by rw [s2.2.1]; exact b4, b6⟩, fun i hi => by rw [(s2.2.2 i).1]; exact b5 i hi⟩
theorem pg_S1_sm {d : Int} {s : pa_Sh} (hs : ∀ x, T x ∨ U x ∨ x = C + 176 ∨ x = C + 177 → pg_same σ σ' x) (hT : ∀ x, T x → T' x) (hU : ∀ x, U x → U' x) (hS : pg_S1 C T U σ d s) : pg_S1 C T' U' σ' d s := by
  have e6 := ((hs (C + 176) (Or.inr (Or.inr (Or.inl rfl)))).2.2 d).2
  have e7 := ((hs (C + 177) (Or.inr (Or.inr (Or.inr rfl)))).2.2 d).2
  obtain ⟨a1, a2, a3⟩ := hS
  unfold pg_S1
  rw [e6, e7]
  refine ⟨a1, fun q => ?_, fun q => ?_⟩
  · obtain ⟨b1, b2, b3, b4, b5, b6⟩ := a2 q
    have sm := hs _ (Or.inl b3)
    exact ⟨b1, b2, hT _ b3, by rw [sm.1]; exact b4, by rw [(sm.2.2 0).1]; exact b5, by rw [(sm.2.2 1).1]; exact b6⟩
  · obtain ⟨b1, ⟨b2, b3⟩, b4, b5⟩ := a3 q
    have sp := hs _ (Or.inl b3)
    have su := hs _ (Or.inr (Or.inl b5))
    exact ⟨b1, ⟨b2, hT _ b3⟩, pg_Rw_sm sp su b4, by rw [(sp.2.2 1).2]; exact hU _ b5⟩
theorem pg_S_sm (hs : ∀ x, T x ∨ U x ∨ x = C + 176 ∨ x = C + 177 → pg_same σ σ' x) (hT : ∀ x, T x → T' x) (hU : ∀ x, U x → U' x) (hS : pg_S C T U σ h) : pg_S C T' U' σ' h := by
  refine ⟨fun d d0 d8 => pg_S1_sm hs hT hU (hS.1 d d0 d8), fun d e d0 d8 e0 e8 hne hd he => ?_⟩
  have e7 := fun j => ((hs (C + 177) (Or.inr (Or.inr (Or.inr rfl)))).2.2 j).2
  rw [e7, e7, ((hs _ (Or.inl ((hS.1 d d0 d8).2.2 hd).2.1.2)).2.2 1).2, ((hs _ (Or.inl ((hS.1 e e0 e8).2.2 he).2.1.2)).2.2 1).2]
  exact hS.2 d e d0 d8 e0 e8 hne hd he
/-- the machine 'now' has changed -/
theorem pg_G.now (g : pg_G C T U σ a im h) (hw : pg_W a im h) (hf : pk_fr (pk_Z (C + 1)) σ σ') (hM : pk_RM (C + 1) T σ' a') : pg_G C T U σ' a' im h := by
  obtain ⟨g1, ⟨g2, g3, g4⟩, ⟨g5, g6, g7⟩, g8, ⟨g9, g10⟩, g11⟩ := g
  have hn : σ'.1 = σ.1 := hf.1.1
  have hT : ∀ x, T x → ¬ pk_Z (C + 1) x := fun x hx q => (g2 x hx).1 (Or.inr (Or.inr (Or.inl q)))
  have hU : ∀ x, U x → ¬ pk_Z (C + 1) x := fun x hx q => (g3 x hx).1 (pg_Z_in (Or.inr (Or.inr (Or.inl q))))
  have sC := hf.same (x := C) (fun q => by unfold pk_Z at q; omega)
  have s8 := hf.same (hT _ g5)
  refine ⟨pk_Fs_mach g1 (Or.inl rfl) hf hM.F, ⟨by rw [hn]; exact g2, by rw [hn]; exact g3, by rw [hn]; exact g4⟩, ⟨g5, by rw [(s8.2.2 0).1]; exact g6, by rw [(s8.2.2 1).1]; exact g7⟩, hM, ⟨fun q => by rw [(sC.2.2 6).1]; exact g9 q, fun b hb => ⟨by rw [(sC.2.2 6).1]; exact (g10 b hb).1, pk_RM_sm (g10 b hb).2 (hw.2.1 b hb).1.1.w9 (fun x hx => hf.same (fun q => by unfold pk_Z at hx q; omega)) (fun x hx => hf.same (hT x hx)) (fun _ q => q) (fun x hx q => (g2 x hx).1 (Or.inr (Or.inr (Or.inr (Or.inl q)))))⟩⟩, pg_S_sm (fun x hx => hf.same ?_) (fun _ q => q) (fun _ q => q) g11⟩
  rcases hx with q | q | q | q
  · exact hT x q
  · exact hU x q
  · intro q2; unfold pk_Z at q2; omega
  · intro q2; unfold pk_Z at q2; omega
/-- a mind has changed -/
theorem pg_G.mind (g : pg_G C T U σ a im h) (hw : pg_W a im h) (i0 : 0 ≤ i) (i8 : i < 8) (hf : pk_fr (pk_Z (pk_m C i)) σ σ') (hm : pk_Fm (pk_m C i) σ') : pg_G C T U σ' a im h := by
  have gT := g.Tm i0 i8
  obtain ⟨g1, ⟨g2, g3, g4⟩, ⟨g5, g6, g7⟩, g8, ⟨g9, g10⟩, g11⟩ := g
  have hn : σ'.1 = σ.1 := hf.1.1
  have hU : ∀ x, U x → ¬ pk_Z (pk_m C i) x := fun x hx q => (g3 x hx).1 (pg_Z_in (Or.inr (Or.inr (Or.inr (Or.inr ⟨i, i0, i8, q⟩)))))
  have sC := hf.same (x := C) (fun q => by unfold pk_Z pk_m at q; omega)
  have s8 := hf.same (gT _ g5)
  refine ⟨pk_Fs_mach g1 (Or.inr (Or.inr ⟨i, i0, i8, rfl⟩)) hf hm, ⟨by rw [hn]; exact g2, by rw [hn]; exact g3, by rw [hn]; exact g4⟩, ⟨g5, by rw [(s8.2.2 0).1]; exact g6, by rw [(s8.2.2 1).1]; exact g7⟩, pk_RM_sm g8 hw.1.1.1.w9 (fun x hx => hf.same (fun q => by unfold pk_Z at hx; unfold pk_Z pk_m at q; omega)) (fun x hx => hf.same (gT x hx)) (fun _ q => q) (fun x hx q => (g2 x hx).1 (Or.inr (Or.inr (Or.inl q)))), ⟨fun q => by rw [(sC.2.2 6).1]; exact g9 q, fun b hb => ⟨by rw [(sC.2.2 6).1]; exact (g10 b hb).1, pk_RM_sm (g10 b hb).2 (hw.2.1 b hb).1.1.w9 (fun x hx => hf.same (fun q => by unfold pk_Z at hx; unfold pk_Z pk_m at q; omega)) (fun x hx => hf.same (gT x hx)) (fun _ q => q) (fun x hx q => (g2 x hx).1 (Or.inr (Or.inr (Or.inr (Or.inl q)))))⟩⟩, pg_S_sm (fun x hx => hf.same ?_) (fun _ q => q) (fun _ q => q) g11⟩
  rcases hx with q | q | q | q
  · exact gT x q
  · exact hU x q
  · intro q2; unfold pk_Z pk_m at q2; omega
  · intro q2; unfold pk_Z pk_m at q2; omega
/-- all that was there is as it was, more may be there; or cells of others have changed -/
theorem pg_G.sm (g : pg_G C T U σ a im h) (hw : pg_W a im h) (hn : σ.1 ≤ σ'.1) (hs : ∀ x, pg_X C x ∨ T x ∨ U x → pg_same σ σ' x) : pg_G C T U σ' a im h := by
  obtain ⟨g1, ⟨g2, g3, g4⟩, ⟨g5, g6, g7⟩, g8, ⟨g9, g10⟩, g11⟩ := g
  have hz : ∀ x, pg_Z C x → pg_same σ σ' x := fun x hx => hs x (Or.inl (pg_Z_in hx))
  have sC := hs C (Or.inl ⟨by omega, by omega⟩)
  have s8 := hs _ (Or.inr (Or.inl g5))
  refine ⟨pk_Fs_sm (fun x hx => hs x (Or.inl ?_)) g1, ⟨fun x hx => ⟨(g2 x hx).1, Nat.lt_of_lt_of_le (g2 x hx).2 hn⟩, fun x hx => ⟨(g3 x hx).1, (g3 x hx).2.1, Nat.lt_of_lt_of_le (g3 x hx).2.2 hn⟩, Nat.le_trans g4 hn⟩, ⟨g5, by rw [(s8.2.2 0).1]; exact g6, by rw [(s8.2.2 1).1]; exact g7⟩, pk_RM_sm g8 hw.1.1.1.w9 (fun x hx => hz x (Or.inr (Or.inr (Or.inl hx)))) (fun x hx => hs x (Or.inr (Or.inl hx))) (fun _ q => q) (fun x hx q => (g2 x hx).1 (Or.inr (Or.inr (Or.inl q)))), ⟨fun q => by rw [(sC.2.2 6).1]; exact g9 q, fun b hb => ⟨by rw [(sC.2.2 6).1]; exact (g10 b hb).1, pk_RM_sm (g10 b hb).2 (hw.2.1 b hb).1.1.w9 (fun x hx => hz x (Or.inr (Or.inr (Or.inr (Or.inl hx))))) (fun x hx => hs x (Or.inr (Or.inl hx))) (fun _ q => q) (fun x hx q => (g2 x hx).1 (Or.inr (Or.inr (Or.inr (Or.inl q)))))⟩⟩, pg_S_sm (fun x hx => hs x ?_) (fun _ q => q) (fun _ q => q) g11⟩
  · rcases hx with q | q
    · exact pg_Z_in q
    · subst q; exact ⟨by omega, by omega⟩
  · rcases hx with q | q | q | q
    · exact Or.inr (Or.inl q)
    · exact Or.inr (Or.inr q)
    · exact Or.inl ⟨by omega, by omega⟩
    · exact Or.inl ⟨by omega, by omega⟩
/-- what never changes may be more -/
theorem pg_G.more (g : pg_G C T U σ a im h) (hw : pg_W a im h) (hT : ∀ x, T x → T' x) (hT' : ∀ x, T' x → ¬ pg_Z C x ∧ ¬ U x ∧ x < σ.1) : pg_G C T' U σ a im h := by
  obtain ⟨g1, ⟨g2, g3, g4⟩, ⟨g5, g6, g7⟩, g8, ⟨g9, g10⟩, g11⟩ := g
  exact ⟨g1, ⟨fun x hx => ⟨(hT' x hx).1, (hT' x hx).2.2⟩, fun x hx => ⟨(g3 x hx).1, fun q => (hT' x q).2.1 hx, (g3 x hx).2.2⟩, g4⟩, ⟨hT _ g5, g6, g7⟩, pk_RM_sm g8 hw.1.1.1.w9 (fun x _ => pg_same.refl _ _) (fun x _ => pg_same.refl _ _) hT (fun x hx q => (hT' x hx).1 (Or.inr (Or.inr (Or.inl q)))), ⟨g9, fun b hb => ⟨(g10 b hb).1, pk_RM_sm (g10 b hb).2 (hw.2.1 b hb).1.1.w9 (fun x _ => pg_same.refl _ _) (fun x _ => pg_same.refl _ _) hT (fun x hx q => (hT' x hx).1 (Or.inr (Or.inr (Or.inr (Or.inl q)))))⟩⟩, pg_S_sm (fun x _ => pg_same.refl _ _) hT (fun _ q => q) g11⟩
end

