/-! WHAT IS ALWAYS SO: a step keeps it -/
def pa_wf3 (a : pa_M) : Prop := pa_wf0 a ∧ pa_wfq a ∧ pa_wfw a
theorem pa_wf.w3 {a : pa_M} (h : pa_wf a) : pa_wf3 a := ⟨h.1, h.2.1, h.2.2.1⟩
theorem pa_wf3.wf {a : pa_M} (h : pa_wf3 a) (hm : pa_max a) : pa_wf a := ⟨h.1, h.2.1, h.2.2, hm⟩
theorem pa_wf3_cw {a : pa_M} {who : Int} {c : pa_C} (h : pa_wf3 a) (h34 : (a.2.1 who).1 2 ≠ 3 ∧ (a.2.1 who).1 2 ≠ 4) (hc : pa_wfc c) (hs : c.1 2 ≠ 3 ∧ c.1 2 ≠ 4) (h5 : c.1 2 = 5 → 0 ≤ c.1 7 ∧ c.1 7 < a.1 4) : pa_wf3 (pa_cw a who c) := by
  obtain ⟨h0, hq, hw⟩ := h
  refine ⟨⟨h0.1, h0.2.1, fun i hi0 hi1 => ?_, h0.2.2.2⟩, fun w hw2 ch hc0 hc3 => ?_, fun i hi0 hi1 => ?_⟩
  · by_cases e : i = who
    · rw [e, pa_cw_same]; exact hc
    · rw [pa_cw_ne e]; exact h0.2.2.1 i hi0 hi1
  · obtain ⟨q1, q2⟩ := hq w hw2 ch hc0 hc3
    refine ⟨q1, fun i => ?_⟩
    by_cases e : i = who
    · subst e
      rw [pa_cw_same]
      refine Iff.trans (q2 i) ?_
      constructor
      · rintro ⟨-, e1, -⟩; exfalso; omega
      · rintro ⟨-, e1, -⟩; exfalso; omega
    · rw [pa_cw_ne e]; exact q2 i
  · by_cases e : i = who
    · rw [e, pa_cw_same]
      exact ⟨fun q => by omega, h5⟩
    · rw [pa_cw_ne e]; exact hw i hi0 hi1
theorem pa_max_cw {a : pa_M} {who : Int} {c : pa_C} (hm : pa_max a) (hn : c.1 2 < 6) (h5 : c.1 2 = 5 → c.1 7 ≠ who ∧ (a.2.1 (c.1 7)).1 2 < 6) : pa_max (pa_cw a who c) := by
  intro i hi0 hi1 h
  by_cases e : i = who
  · subst e
    rw [pa_cw_same] at h ⊢
    rw [pa_cw_ne (h5 h).1]; exact (h5 h).2
  · rw [pa_cw_ne e] at h ⊢
    by_cases e2 : (a.2.1 i).1 7 = who
    · rw [e2, pa_cw_same]; exact hn
    · rw [pa_cw_ne e2]; exact hm i hi0 hi1 h
theorem pa_qw_same {a : pa_M} {w : Nat} {n : Int} {l : List Int} : (pa_qw a w n l).2.2.2 w n = l := if_pos ⟨rfl, rfl⟩
theorem pa_qw_ne {a : pa_M} {w w' : Nat} {n n' : Int} {l : List Int} (h : ¬ (w' = w ∧ n' = n)) : (pa_qw a w n l).2.2.2 w' n' = a.2.2.2 w' n' := if_neg h
theorem pa_wf3_meet {a : pa_M} {w : Nat} {n g : Int} {l : List Int} {c : pa_C} (h : pa_wf3 a) (hw2 : w < 2) (hn0 : 0 ≤ n) (hn3 : n < 3) (hg : a.2.2.2 w n = g :: l) (hc : pa_wfc c) (hs : c.1 2 = 1) : pa_wf3 (pa_qw (pa_cw a g c) w n ((g :: l).filter (fun z => decide (z ≠ g)))) := by
  obtain ⟨h0, hq, hw⟩ := h
  have hgm := ((hq w hw2 n hn0 hn3).2 g).mp (by rw [hg]; exact List.mem_cons_self)
  refine ⟨⟨h0.1, h0.2.1, fun i hi0 hi1 => ?_, h0.2.2.2⟩, fun w' hw2' ch hc0 hc3 => ?_, fun i hi0 hi1 => ?_⟩
  · show pa_wfc ((pa_cw a g c).2.1 i)
    by_cases e : i = g
    · rw [e, pa_cw_same]; exact hc
    · rw [pa_cw_ne e]; exact h0.2.2.1 i hi0 hi1
  · obtain ⟨q1, q2⟩ := hq w' hw2' ch hc0 hc3
    show ((pa_qw (pa_cw a g c) w n _).2.2.2 w' ch).Nodup ∧ ∀ i, i ∈ (pa_qw (pa_cw a g c) w n _).2.2.2 w' ch ↔ (0 ≤ i ∧ i < a.1 4) ∧ ((pa_cw a g c).2.1 i).1 2 = 3 + w' ∧ ((pa_cw a g c).2.1 i).1 7 = ch
    by_cases e : w' = w ∧ ch = n
    · obtain ⟨rfl, rfl⟩ := e
      rw [pa_qw_same, ← hg]
      refine ⟨q1.filter _, fun i => ?_⟩
      rw [List.mem_filter, q2 i]
      by_cases e : i = g
      · subst e
        rw [pa_cw_same]
        constructor
        · rintro ⟨-, q⟩; simp at q
        · rintro ⟨-, q, -⟩; exfalso; omega
      · rw [pa_cw_ne e]; simp [e]
    · rw [pa_qw_ne e]
      refine ⟨q1, fun i => ?_⟩
      show i ∈ a.2.2.2 w' ch ↔ _
      rw [q2 i]
      by_cases e2 : i = g
      · subst e2
        rw [pa_cw_same]
        constructor
        · rintro ⟨-, e3, e4⟩; exact absurd ⟨by omega, by omega⟩ e
        · rintro ⟨-, q, -⟩; exfalso; omega
      · rw [pa_cw_ne e2]
  · show ((((pa_cw a g c).2.1 i).1 2 = 3 ∨ _ → _) ∧ _)
    by_cases e : i = g
    · subst e
      show ((((pa_cw a i c).2.1 i).1 2 = 3 ∨ ((pa_cw a i c).2.1 i).1 2 = 4 → _) ∧ (((pa_cw a i c).2.1 i).1 2 = 5 → _))
      rw [pa_cw_same]
      exact ⟨fun q => by omega, fun q => by omega⟩
    · have := hw i hi0 hi1
      rw [← pa_cw_ne (a := a) (v := c) e] at this
      exact this
theorem pa_wf3_line {a : pa_M} {w : Nat} {n who : Int} {c : pa_C} (h : pa_wf3 a) (hw2 : w < 2) (hn0 : 0 ≤ n) (hn3 : n < 3) (hwho : 0 ≤ who ∧ who < a.1 4) (h34 : (a.2.1 who).1 2 ≠ 3 ∧ (a.2.1 who).1 2 ≠ 4) (hc : pa_wfc c) (hs : c.1 2 = 3 + w) (h7 : c.1 7 = n) : pa_wf3 (pa_qw (pa_cw a who c) w n (a.2.2.2 w n ++ [who])) := by
  obtain ⟨h0, hq, hw⟩ := h
  refine ⟨⟨h0.1, h0.2.1, fun i hi0 hi1 => ?_, h0.2.2.2⟩, fun w' hw2' ch hc0 hc3 => ?_, fun i hi0 hi1 => ?_⟩
  · show pa_wfc ((pa_cw a who c).2.1 i)
    by_cases e : i = who
    · rw [e, pa_cw_same]; exact hc
    · rw [pa_cw_ne e]; exact h0.2.2.1 i hi0 hi1
  · obtain ⟨q1, q2⟩ := hq w' hw2' ch hc0 hc3
    show ((pa_qw (pa_cw a who c) w n _).2.2.2 w' ch).Nodup ∧ ∀ i, i ∈ (pa_qw (pa_cw a who c) w n _).2.2.2 w' ch ↔ (0 ≤ i ∧ i < a.1 4) ∧ ((pa_cw a who c).2.1 i).1 2 = 3 + w' ∧ ((pa_cw a who c).2.1 i).1 7 = ch
    have hno : who ∉ a.2.2.2 w' ch := fun q => by
      have := (q2 who).mp q
      omega
    by_cases e : w' = w ∧ ch = n
    · obtain ⟨rfl, rfl⟩ := e
      rw [pa_qw_same]
      refine ⟨?_, fun i => ?_⟩
      · rw [List.nodup_append]
        refine ⟨q1, by simp, fun x hx y hy => ?_⟩
        have : y = who := by simpa using hy
        subst this
        exact fun q => hno (q ▸ hx)
      · rw [List.mem_append, q2 i]
        by_cases e : i = who
        · subst e
          rw [pa_cw_same]
          constructor
          · intro _; exact ⟨hwho, hs, h7⟩
          · intro _; right; simp
        · rw [pa_cw_ne e]; simp [e]
    · rw [pa_qw_ne e]
      refine ⟨q1, fun i => ?_⟩
      show i ∈ a.2.2.2 w' ch ↔ _
      by_cases e2 : i = who
      · subst e2
        rw [pa_cw_same]
        constructor
        · intro q; exact absurd q hno
        · rintro ⟨-, q, q2⟩; exact absurd ⟨by omega, by omega⟩ e
      · rw [pa_cw_ne e2]; exact q2 i
  · by_cases e : i = who
    · subst e
      show ((((pa_cw a i c).2.1 i).1 2 = 3 ∨ ((pa_cw a i c).2.1 i).1 2 = 4 → 0 ≤ ((pa_cw a i c).2.1 i).1 7 ∧ ((pa_cw a i c).2.1 i).1 7 < 3) ∧ (((pa_cw a i c).2.1 i).1 2 = 5 → _))
      rw [pa_cw_same]
      exact ⟨fun q => by omega, fun q => by omega⟩
    · have := hw i hi0 hi1
      rw [← pa_cw_ne (a := a) (v := c) e] at this
      exact this
/-! one step -/
theorem pa_at_mem {p : pa_P} {i : Int} (h0 : 0 ≤ i) (h1 : i < p.length) : pa_at p i ∈ p := by
  unfold pa_at
  have : i.toNat < p.length := by omega
  rw [List.getD_eq_getElem?_getD, List.getElem?_eq_getElem this]
  exact List.getElem_mem this
theorem pa_wfc_f {c : pa_C} {f g : pa_F} {fs : List pa_F} (h : pa_wfc c) (hf : c.2.2 = f :: fs) (hg : pa_wff g) : pa_wfc (c.1, c.2.1, g :: fs) := by
  obtain ⟨hn, hl, hm, h6, h7⟩ := h
  rw [hf] at hl hm h6
  refine ⟨hn, hl, ?_, ?_, h7⟩
  · intro q hq
    rcases List.mem_cons.mp hq with rfl | hq
    · exact hg
    · exact hm q (List.mem_cons_of_mem _ hq)
  · rw [h6]; simp
theorem pa_wff_2 {f : pa_F} {v : Int} (h : pa_wff f) (h0 : 0 ≤ v) (h1 : v ≤ 25) : pa_wff (pa_s f.1 2 v, f.2) := by
  obtain ⟨a1, a2, a3, a4, a5, a6⟩ := h
  refine ⟨?_, ?_, ?_, ?_, a5, ?_⟩ <;> simp [pa_s] <;> first | assumption | omega
theorem pa_wfc_top {c : pa_C} (h : pa_wfc c) {f : pa_F} {fs : List pa_F} (hf : c.2.2 = f :: fs) : pa_wff f := h.2.2.1 f (by rw [hf]; exact List.mem_cons_self)
theorem pa_next_wf {c : pa_C} {f : pa_F} {fs : List pa_F} (h : pa_wfc c) (hf : c.2.2 = f :: fs) (hs : ¬ (f.2.1.length : Int) ≤ f.1 2) : pa_wfc (c.1, c.2.1, (pa_s f.1 2 (f.1 2 + 1), f.2) :: fs) := by
  have hw := pa_wfc_top h hf
  have hl := hw.2.2.2.2.1.1
  exact pa_wfc_f h hf (pa_wff_2 hw (by have := hw.2.1; omega) (by omega))
theorem pa_yields_wf {c : pa_C} {n : Int} (h : pa_wfc c) (h3 : c.1 2 < 3) (hn : 0 ≤ n) : pa_wfc (pa_yields c n) := by
  refine pa_wfc_n h ?_ (by omega) (by rw [pa_ss]; decide)
  have hu := pa_tmod_b (x := c.1 3 + n) (by have := h.1.2.2.1; omega)
  have hy : 0 ≤ pa_yield (c.1 20) (c.1 21) (Int.tmod (c.1 3 + n) 1000) ∧ pa_yield (c.1 20) (c.1 21) (Int.tmod (c.1 3 + n) 1000) ≤ 999 := by
    unfold pa_yield
    split
    · exact pa_tmod_b (by have := h.1.2.2.2.2.2.2.2.1; omega)
    · split
      · rw [Int.tdiv_eq_ediv_of_nonneg hu.1]; omega
      · exact hu
  obtain ⟨a0, a2, a3, a4, a5, a6, a20, a21, a7⟩ := h.1
  refine ⟨?_, ?_, ?_, ?_, ?_, ?_, ?_, ?_, ?_⟩ <;> simp [pa_s] <;> first | assumption | omega | (split <;> omega)
theorem pa_again_wf {c : pa_C} {n : Int} (h : pa_wfc c) (hn : n ≤ 9) : pa_wfc (pa_again c n) := by
  unfold pa_again
  split
  · rename_i f fs hf
    split
    · rename_i q
      have hw := pa_wfc_top h hf
      refine pa_wfc_f h hf ?_
      obtain ⟨a1, a2, a3, a4, a5, a6⟩ := hw
      refine ⟨?_, ?_, ?_, ?_, a5, ?_⟩ <;> simp [pa_s] <;> first | assumption | omega
    · exact h
  · exact h
theorem pa_nf_wf {n : Int} {p : pa_P} (h0 : 0 ≤ n) (h4 : n ≤ 4) (hp : pa_wfp p) : pa_wff (pa_nf n p) := by
  refine ⟨?_, ?_, ?_, ?_, hp, ?_⟩ <;> simp [pa_nf, pa_s] <;> omega
theorem pa_into_wf {a : pa_M} {c : pa_C} {n : Int} (h0 : pa_wf0 a) (h : pa_wfc c) (h3 : c.1 2 < 3) (hn : 0 ≤ n) : pa_wfc (pa_into a c n) := by
  unfold pa_into
  split
  · exact pa_throw_wf h h3 (by simp)
  · split
    · exact pa_throw_wf h h3 (by simp)
    · rename_i q1 q2
      obtain ⟨hn1, hl, hm, h6, h7⟩ := h
      refine ⟨hn1, by simp; omega, ?_, ?_, h7⟩
      · intro g hg
        rcases List.mem_cons.mp hg with rfl | hg
        · exact pa_nf_wf hn (by omega) (h0.2.2.2 n hn (by omega))
        · exact hm g hg
      · show 6 ≤ c.1 2 ↔ _
        simp; omega
theorem pa_wait_wf {c : pa_C} {whom st : Int} (h : pa_wfc c) (h6 : c.1 2 < 6) (h3 : 3 ≤ st) (h5 : st ≤ 5) : pa_wfc (pa_wait c whom st) := by
  refine pa_wfc_n h ?_ h6 (by rw [pa_sn (by decide), pa_ss]; omega)
  obtain ⟨a0, a2, a3, a4, a5, a6, a20, a21, a7⟩ := h.1
  refine ⟨?_, ?_, ?_, ?_, ?_, ?_, ?_, ?_, ?_⟩ <;> simp [pa_s] <;> first | assumption | omega
theorem pa_wait2 {c : pa_C} {whom st : Int} : (pa_wait c whom st).1 2 = st ∧ (pa_wait c whom st).1 7 = whom := by
  constructor
  · simp [pa_wait, pa_s]
  · simp [pa_wait, pa_s]
theorem pa_throw2 (c : pa_C) (φ : List Int) : (pa_throw c φ).1 2 = c.1 2 ∨ (pa_throw c φ).1 2 = 7 := by
  rcases pa_throwF_n c.1 c.2.1 c.2.2 φ with h | h
  · exact Or.inl (by unfold pa_throw; rw [h])
  · exact Or.inr (by unfold pa_throw; rw [h]; exact pa_ss)
theorem pa_closeF_n (n : Nat → Int) (e : List Int) : ∀ fs : List pa_F, (pa_closeF n e fs).1 = n ∨ (pa_closeF n e fs).1 = pa_s n 2 8
  | [] => Or.inr rfl
  | f :: fs => by
    unfold pa_closeF
    split
    · exact Or.inl rfl
    · split
      · exact Or.inl rfl
      · exact pa_closeF_n n e fs
theorem pa_endTop2 (c : pa_C) : (pa_endTop c).1 2 = c.1 2 ∨ 6 ≤ (pa_endTop c).1 2 := by
  unfold pa_endTop
  split
  · exact Or.inl rfl
  · split
    · split
      · right; show 6 ≤ pa_s c.1 2 6 2; rw [pa_ss]; decide
      · exact Or.inl rfl
    · rename_i fs _ _ _
      rcases pa_closeF_n c.1 c.2.1 fs with h | h
      · left; rw [h]
      · right; rw [h, pa_ss]; decide
    · rename_i fs _ _ g gs _
      rcases pa_throwF_n c.1 c.2.1 fs (g :: gs) with h | h
      · left; rw [h]
      · right; rw [h, pa_ss]; decide
/-- nobody but who joins `who` joins one that is ended -/
def pa_mxx (a : pa_M) (who : Int) : Prop := ∀ c, 0 ≤ c → c < a.1 4 → (a.2.1 c).1 2 = 5 → (a.2.1 c).1 7 = who ∨ (a.2.1 ((a.2.1 c).1 7)).1 2 < 6
theorem pa_max.mxx {a : pa_M} (h : pa_max a) (who : Int) : pa_mxx a who := fun c h0 h1 h5 => Or.inr (h c h0 h1 h5)
theorem pa_mxx.max {a : pa_M} {who : Int} (h : pa_mxx a who) (h6 : (a.2.1 who).1 2 < 6) : pa_max a := fun c h0 h1 h5 => by
  rcases h c h0 h1 h5 with e | e
  · rw [e]; exact h6
  · exact e
theorem pa_mxx_cw {a : pa_M} {who : Int} {c : pa_C} (hm : pa_mxx a who) (h5 : c.1 2 = 5 → c.1 7 ≠ who → (a.2.1 (c.1 7)).1 2 < 6) : pa_mxx (pa_cw a who c) who := by
  intro i hi0 hi1 h
  by_cases e : i = who
  · subst e
    rw [pa_cw_same] at h ⊢
    by_cases e2 : c.1 7 = i
    · exact Or.inl e2
    · right; rw [pa_cw_ne e2]; exact h5 h e2
  · rw [pa_cw_ne e] at h ⊢
    rcases hm i hi0 hi1 h with q | q
    · exact Or.inl q
    · by_cases e2 : (a.2.1 i).1 7 = who
      · exact Or.inl e2
      · right; rw [pa_cw_ne e2]; exact q
theorem pa_mxx_cw2 {a : pa_M} {who g : Int} {c : pa_C} (hm : pa_mxx a who) (hc : c.1 2 < 5) : pa_mxx (pa_cw a g c) who := by
  intro i hi0 hi1 h
  by_cases e : i = g
  · subst e
    rw [pa_cw_same] at h
    omega
  · rw [pa_cw_ne e] at h ⊢
    rcases hm i hi0 hi1 h with q | q
    · exact Or.inl q
    · right
      by_cases e2 : (a.2.1 i).1 7 = g
      · rw [e2, pa_cw_same]; omega
      · rw [pa_cw_ne e2]; exact q
/-- after its step: what is always so; who could go and isn't at it stays as he is; nobody joins one that is ended -/
def pa_kept (a : pa_M) (who : Int) (b : pa_M) : Prop := pa_wf3 b ∧ b.1 = a.1 ∧ b.2.2.1 = a.2.2.1 ∧ (∀ c, c ≠ who → (a.2.1 c).1 2 ≤ 2 → b.2.1 c = a.2.1 c) ∧ (pa_max a → pa_mxx b who)
theorem pa_kept_cw {a : pa_M} {who : Int} {c : pa_C} (h : pa_wf3 a) (hs1 : (a.2.1 who).1 2 < 3) (hc : pa_wfc c) (hs : c.1 2 < 3 ∨ 6 ≤ c.1 2) : pa_kept a who (pa_cw a who c) := by
  refine ⟨pa_wf3_cw h (by omega) hc (by omega) (fun q => by omega), rfl, rfl, fun i hi _ => pa_cw_ne hi, fun hm => ?_⟩
  exact pa_mxx_cw (hm.mxx who) (fun q => by omega)
theorem pa_sendAt_wf {a : pa_M} {who n : Int} {c : pa_C} (h : pa_wf3 a) (hwho : 0 ≤ who ∧ who < a.1 4) (hs1 : (a.2.1 who).1 2 < 3) (hc : pa_wfc c) (hs : c.1 2 < 3) (hn : 0 ≤ n) : pa_kept a who (pa_sendAt a who c n) := by
  unfold pa_sendAt
  split
  · exact pa_kept_cw h hs1 (pa_throw_wf hc hs (by simp)) (by rcases pa_throw2 c [6] with e | e <;> rw [e] <;> omega)
  · rename_i q3
    split
    · rename_i g l hg
      have hgm := ((h.2.1 1 (by decide) n hn (by omega)).2 g).mp (by rw [hg]; exact List.mem_cons_self)
      have hgw : g ≠ who := fun e => by rw [e] at hgm; omega
      have k := pa_kept_cw h hs1 hc (Or.inl hs)
      have e1 : (pa_cw a who c).2.1 g = a.2.1 g := pa_cw_ne hgw
      have hcg := h.1.2.2.1 g hgm.1.1 hgm.1.2
      have ha := hc.1.2.2.1
      dsimp only
      rw [e1]
      refine ⟨pa_wf3_meet k.1 (by decide) hn (by omega) hg (pa_on_wf (pa_acc_wf hcg ha.1 ha.2) (by simp [pa_s]; omega)) (pa_on2 _), rfl, rfl, fun i hi hi2 => ?_, fun hm => ?_⟩
      · have : i ≠ g := fun e => by rw [e] at hi2; omega
        show (pa_cw (pa_cw a who c) g _).2.1 i = _
        rw [pa_cw_ne this, pa_cw_ne hi]
      · exact pa_mxx_cw2 (k.2.2.2.2 hm) (by rw [pa_on2]; decide)
    · rename_i hg
      refine ⟨pa_wf3_line h (by decide) hn (by omega) hwho (by omega) (pa_wait_wf hc (by omega) (by decide) (by decide)) pa_wait2.1 pa_wait2.2, rfl, rfl, fun i hi _ => pa_cw_ne hi, fun hm => ?_⟩
      exact pa_mxx_cw (hm.mxx who) (fun q => by rw [pa_wait2.1] at q; omega)
theorem pa_getAt_wf {a : pa_M} {who n : Int} {c : pa_C} (h : pa_wf3 a) (hwho : 0 ≤ who ∧ who < a.1 4) (hs1 : (a.2.1 who).1 2 < 3) (hc : pa_wfc c) (hs : c.1 2 < 3) (hn : 0 ≤ n) : pa_kept a who (pa_getAt a who c n) := by
  unfold pa_getAt
  split
  · exact pa_kept_cw h hs1 (pa_throw_wf hc hs (by simp)) (by rcases pa_throw2 c [6] with e | e <;> rw [e] <;> omega)
  · rename_i q3
    split
    · rename_i g l hg
      have hgm := ((h.2.1 0 (by decide) n hn (by omega)).2 g).mp (by rw [hg]; exact List.mem_cons_self)
      have hgw : g ≠ who := fun e => by rw [e] at hgm; omega
      have e1 : (pa_cw a who c).2.1 g = a.2.1 g := pa_cw_ne hgw
      have hcg := h.1.2.2.1 g hgm.1.1 hgm.1.2
      have ha := hcg.1.2.2.1
      have hc2 : pa_wfc (pa_s c.1 3 ((a.2.1 g).1 3), c.2) := pa_acc_wf hc ha.1 ha.2
      have k := pa_kept_cw h hs1 hc2 (Or.inl (by simp [pa_s]; omega))
      dsimp only
      rw [e1, show ∀ v, pa_cw (pa_cw a who c) who v = pa_cw a who v from fun v => by
        unfold pa_cw
        refine congrArg (fun f => (a.1, f, a.2.2)) ?_
        funext i
        by_cases e : i = who <;> simp [e]]
      have e2 : (pa_cw a who (pa_s c.1 3 ((a.2.1 g).1 3), c.2)).2.1 g = a.2.1 g := pa_cw_ne hgw
      rw [e2]
      refine ⟨pa_wf3_meet k.1 (by decide) hn (by omega) hg (pa_on_wf hcg (by omega)) (pa_on2 _), rfl, rfl, fun i hi hi2 => ?_, fun hm => ?_⟩
      · have : i ≠ g := fun e => by rw [e] at hi2; omega
        show (pa_cw (pa_cw a who _) g _).2.1 i = _
        rw [pa_cw_ne this, pa_cw_ne hi]
      · exact pa_mxx_cw2 (k.2.2.2.2 hm) (by rw [pa_on2]; decide)
    · rename_i hg
      refine ⟨pa_wf3_line h (by decide) hn (by omega) hwho (by omega) (pa_wait_wf hc (by omega) (by decide) (by decide)) pa_wait2.1 pa_wait2.2, rfl, rfl, fun i hi _ => pa_cw_ne hi, fun hm => ?_⟩
      exact pa_mxx_cw (hm.mxx who) (fun q => by rw [pa_wait2.1] at q; omega)
theorem pa_join_wf {a : pa_M} {who n : Int} {c : pa_C} (h : pa_wf3 a) (hs1 : (a.2.1 who).1 2 < 3) (hc : pa_wfc c) (hs : c.1 2 < 3) (hn : 0 ≤ n) : pa_kept a who (pa_cw a who (pa_join a who c n)) := by
  unfold pa_join
  split
  · exact pa_kept_cw h hs1 (pa_throw_wf hc hs (by simp)) (by rcases pa_throw2 c [6] with e | e <;> rw [e] <;> omega)
  · rename_i q
    split
    · exact pa_kept_cw h hs1 (pa_have_wf hc hs (h.1.2.2.1 n hn (by omega))) (by rcases pa_have_st c (a.2.1 n) with e | e <;> rw [e] <;> omega)
    · rename_i q6
      refine ⟨pa_wf3_cw h (by omega) (pa_wait_wf hc (by omega) (by decide) (by decide)) (by rw [pa_wait2.1]; decide) (fun _ => by rw [pa_wait2.2]; omega), rfl, rfl, fun i hi _ => pa_cw_ne hi, fun hm => ?_⟩
      exact pa_mxx_cw (hm.mxx who) (fun _ _ => by rw [pa_wait2.2]; omega)
theorem pa_st1_wf {a : pa_M} {who : Int} {cl : Bool} (h : pa_wf3 a) (hwho : 0 ≤ who ∧ who < a.1 4) (hs1 : (a.2.1 who).1 2 < 3) : pa_kept a who (pa_st1 a who cl) := by
  have hc := h.1.2.2.1 who hwho.1 hwho.2
  unfold pa_st1
  split
  · rename_i q
    have := hc.2.2.2.1.mpr q
    omega
  · rename_i f fs hf
    split
    · exact pa_kept_cw h hs1 (pa_endTop_wf hc hs1) (by rcases pa_endTop2 (a.2.1 who) with e | e <;> omega)
    · rename_i hlen
      have hc1 := pa_next_wf hc hf hlen
      have hw := pa_wfc_top hc hf
      have hmem := pa_at_mem (p := f.2.1) (i := f.1 2) hw.2.1.1 (by omega)
      obtain ⟨-, hn0, hn9⟩ := hw.2.2.2.2.1.2.1 _ hmem
      have hl16 := hw.2.2.2.2.1.1
      generalize (pa_at f.2.1 (f.1 2)).1 = l
      generalize (pa_at f.2.1 (f.1 2)).2 = n at hn0 hn9
      have hcs : ((a.2.1 who).1, (a.2.1 who).2.1, ((pa_s f.1 2 (f.1 2 + 1), f.2) :: fs : List pa_F)).1 2 < 3 := hs1
      have htop : ((a.2.1 who).1, (a.2.1 who).2.1, ((pa_s f.1 2 (f.1 2 + 1), f.2) :: fs : List pa_F)).2.2 = (pa_s f.1 2 (f.1 2 + 1), f.2) :: fs := rfl
      generalize hC : ((a.2.1 who).1, (a.2.1 who).2.1, ((pa_s f.1 2 (f.1 2 + 1), f.2) :: fs : List pa_F)) = C at hc1 hcs htop
      unfold pa_do
      split
      · exact pa_kept_cw h hs1 (by have := pa_tmod_b (x := C.1 3 + n) (by have := hc1.1.2.2.1; omega); exact pa_acc_wf hc1 this.1 this.2) (Or.inl (by simp [pa_s]; omega))
      split
      · exact pa_kept_cw h hs1 (by have := pa_tmod_b (x := C.1 3 * n) (Int.mul_nonneg hc1.1.2.2.1.1 hn0); exact pa_acc_wf hc1 this.1 this.2) (Or.inl (by simp [pa_s]; omega))
      split
      · split
        · unfold pa_top
          rw [htop]
          have hw1 := pa_wfc_top hc1 htop
          have h2 : (pa_s f.1 2 (f.1 2 + 1)) 2 = f.1 2 + 1 := pa_ss
          refine pa_kept_cw h hs1 (pa_wfc_f hc1 htop (pa_wff_2 hw1 ?_ ?_)) (Or.inl hcs)
          · show 0 ≤ (pa_s f.1 2 (f.1 2 + 1)) 2 + n
            rw [h2]; have := hw.2.1; omega
          · show (pa_s f.1 2 (f.1 2 + 1)) 2 + n ≤ 25
            rw [h2]; omega
        · exact pa_kept_cw h hs1 hc1 (Or.inl hcs)
      split
      · unfold pa_top
        rw [htop]
        have hw1 := pa_wfc_top hc1 htop
        refine pa_kept_cw h hs1 (pa_wfc_f hc1 htop ?_) (Or.inl hcs)
        obtain ⟨a1, a2, a3, a4, a5, a6⟩ := hw1
        refine ⟨?_, ?_, ?_, ?_, a5, ?_⟩ <;> simp [pa_s] at * <;> first | assumption | omega
      split
      · exact pa_kept_cw h hs1 (pa_throw_wf hc1 hcs (by simp)) (by rcases pa_throw2 C [n] with e | e <;> rw [e] <;> omega)
      split
      · exact pa_kept_cw h hs1 hc1 (Or.inl hcs)
      unfold pa_live
      split
      · exact pa_kept_cw h hs1 (pa_yields_wf hc1 hcs hn0) (Or.inl (by simp [pa_yields, pa_s]))
      split
      · refine pa_kept_cw h hs1 (pa_again_wf hc1 hn9) (Or.inl ?_)
        unfold pa_again
        split
        · split <;> exact hcs
        · exact hcs
      split
      · refine pa_kept_cw h hs1 (pa_into_wf h.1 hc1 hcs hn0) ?_
        unfold pa_into
        split
        · rcases pa_throw2 C [7] with e | e <;> rw [e] <;> omega
        · split
          · rcases pa_throw2 C [6] with e | e <;> rw [e] <;> omega
          · exact Or.inl hcs
      split
      · exact pa_sendAt_wf h hwho hs1 hc1 hcs hn0
      split
      · exact pa_getAt_wf h hwho hs1 hc1 hcs hn0
      split
      · exact pa_join_wf h hs1 hc1 hcs hn0
      · exact pa_kept_cw h hs1 hc1 (Or.inl hcs)

