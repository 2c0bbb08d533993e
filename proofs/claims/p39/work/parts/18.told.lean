/-! WHO IS TOLD OF AN END: in whatever order, it comes to one and the same -/
theorem pa_throwF_n (n : Nat → Int) (e : List Int) : ∀ (fs : List pa_F) (φ : List Int), (pa_throwF n e fs φ).1 = n ∨ (pa_throwF n e fs φ).1 = pa_s n 2 7
  | [], φ => Or.inr rfl
  | f :: fs, φ => by
    unfold pa_throwF
    split
    · exact Or.inl rfl
    · exact pa_throwF_n n e fs _
theorem pa_have_st (c o : pa_C) : (pa_have c o).1 2 = c.1 2 ∨ (pa_have c o).1 2 = 7 := by
  unfold pa_have
  have key : ∀ φ, (pa_throw c φ).1 2 = c.1 2 ∨ (pa_throw c φ).1 2 = 7 := fun φ => by
    rcases pa_throwF_n c.1 c.2.1 c.2.2 φ with h | h
    · exact Or.inl (by unfold pa_throw; rw [h])
    · exact Or.inr (by unfold pa_throw; rw [h]; exact pa_ss)
  split
  · left
    show pa_s c.1 3 (o.1 3) 2 = c.1 2
    rw [pa_sn (by decide)]
  · split
    · exact key _
    · exact key _
theorem pa_on2 (c : pa_C) : (pa_on c).1 2 = 1 := by
  show pa_s (pa_s c.1 2 1) 7 (-4) 2 = 1
  rw [pa_sn (by decide), pa_ss]
theorem pa_told_5 {a : pa_M} {n : Nat} {c : Int} {v : pa_C} (h : pa_told a n c v) : (0 ≤ c ∧ c < a.1 4) ∧ (a.2.1 c).1 2 = 5 ∧ v.1 2 ≠ 5 := by
  cases n with
  | zero => exact h.elim
  | succ n =>
    obtain ⟨⟨h1, h2, h3⟩, o, -, -, rfl⟩ := h
    refine ⟨⟨h1, h2⟩, h3, ?_⟩
    rcases pa_have_st (pa_on (a.2.1 c)) o with h | h <;> rw [h]
    · rw [pa_on2]; decide
    · decide
theorem pa_told_uni (a : pa_M) : ∀ (n m : Nat) (c : Int) (v v' : pa_C), pa_told a n c v → pa_told a m c v' → v = v' := by
  intro n
  induction n with
  | zero => intro m c v v' h; exact h.elim
  | succ n ih =>
    intro m c v v' h h'
    cases m with
    | zero => exact h'.elim
    | succ m =>
      obtain ⟨-, o, ho, ho6, rfl⟩ := h
      obtain ⟨-, o', ho', ho6', rfl⟩ := h'
      have : o = o' := by
        rcases ho with ho | ho
        · rcases ho' with ho' | ho'
          · rw [ho, ho']
          · have := (pa_told_5 ho').2.1
            rw [← ho] at this
            omega
        · rcases ho' with ho' | ho'
          · have := (pa_told_5 ho).2.1
            rw [← ho'] at this
            omega
          · exact ih m _ _ _ ho ho'
      rw [this]
/-- some who could be told have been told -/
def pa_mid (a s : pa_M) : Prop := s.1 = a.1 ∧ s.2.2 = a.2.2 ∧ ∀ c, s.2.1 c = a.2.1 c ∨ pa_isTold a c (s.2.1 c)
theorem pa_mid_refl (a : pa_M) : pa_mid a a := ⟨rfl, rfl, fun _ => Or.inl rfl⟩
theorem pa_cw_same {a : pa_M} {c : Int} {v : pa_C} : (pa_cw a c v).2.1 c = v := if_pos rfl
theorem pa_cw_ne {a : pa_M} {c i : Int} {v : pa_C} (h : i ≠ c) : (pa_cw a c v).2.1 i = a.2.1 i := if_neg h
theorem pa_mid_tell {a s : pa_M} {c : Int} (h : pa_mid a s) (h0 : 0 ≤ c) (h1 : c < a.1 4) (h5 : (s.2.1 c).1 2 = 5) (h6 : 6 ≤ (s.2.1 ((s.2.1 c).1 7)).1 2) : pa_mid a (pa_cw s c (pa_have (pa_on (s.2.1 c)) (s.2.1 ((s.2.1 c).1 7)))) := by
  refine ⟨h.1, h.2.1, fun i => ?_⟩
  by_cases hi : i = c
  · subst hi
    rw [pa_cw_same]
    right
    have e1 : s.2.1 i = a.2.1 i := by
      rcases h.2.2 i with e | ⟨n, e⟩
      · exact e
      · exact absurd h5 (pa_told_5 e).2.2
    rcases h.2.2 ((s.2.1 i).1 7) with e | ⟨n, e⟩
    · refine ⟨1, ⟨h0, h1, by rw [← e1]; exact h5⟩, s.2.1 ((s.2.1 i).1 7), Or.inl (by rw [e, e1]), h6, by rw [e1]⟩
    · refine ⟨n + 1, ⟨h0, h1, by rw [← e1]; exact h5⟩, s.2.1 ((s.2.1 i).1 7), Or.inr (by rw [← e1]; exact e), h6, by rw [e1]⟩
  · rw [pa_cw_ne hi]
    exact h.2.2 i
theorem pa_mid_all {a s : pa_M} (h : pa_mid a s) (hm : pa_max s) : ∀ (n : Nat) (c : Int) (v : pa_C), pa_told a n c v → s.2.1 c = v := by
  intro n
  induction n with
  | zero => intro c v hv; exact hv.elim
  | succ n ih =>
    intro c v hv
    rcases h.2.2 c with e | ⟨m, e⟩
    · exfalso
      obtain ⟨⟨h0, h1, h5⟩, o, ho, h6, -⟩ := hv
      have := hm c h0 (by rw [h.1]; exact h1) (by rw [e]; exact h5)
      rw [e] at this
      rcases ho with ho | ho
      · rcases h.2.2 ((a.2.1 c).1 7) with e2 | ⟨m, e2⟩
        · rw [e2, ← ho] at this; omega
        · have := (pa_told_5 e2).2.1
          rw [← ho] at this; omega
      · rw [ih _ _ ho] at this; omega
    · exact pa_told_uni a m (n + 1) c _ _ e hv
theorem pa_settleC_told {a : pa_M} {c : Int} {v : pa_C} (h : pa_isTold a c v) : pa_settleC a c = v := by
  have hx : ∃ v, pa_isTold a c v := ⟨v, h⟩
  have : pa_settleC a c = hx.choose := by
    unfold pa_settleC
    exact dif_pos hx
  rw [this]
  obtain ⟨n, h1⟩ := hx.choose_spec
  obtain ⟨m, h2⟩ := h
  exact pa_told_uni a n m c _ _ h1 h2
theorem pa_settleC_not {a : pa_M} {c : Int} (h : ¬ ∃ v, pa_isTold a c v) : pa_settleC a c = a.2.1 c := by
  unfold pa_settleC
  exact dif_neg h
theorem pa_settle_mid (a : pa_M) : pa_mid a (pa_settle a) := by
  refine ⟨rfl, rfl, fun c => ?_⟩
  by_cases h : ∃ v, pa_isTold a c v
  · obtain ⟨v, hv⟩ := h
    right
    show pa_isTold a c (pa_settleC a c)
    rw [pa_settleC_told hv]; exact hv
  · left; exact pa_settleC_not h
theorem pa_settle_max (a : pa_M) : pa_max (pa_settle a) := by
  intro c h0 h1 h5
  refine Classical.byContradiction fun h6 => ?_
  have h6 : 6 ≤ ((pa_settle a).2.1 (((pa_settle a).2.1 c).1 7)).1 2 := by omega
  have hm := pa_mid_tell (pa_settle_mid a) h0 h1 h5 h6
  have e := hm.2.2 c
  rw [pa_cw_same] at e
  have ne : (pa_have (pa_on ((pa_settle a).2.1 c)) ((pa_settle a).2.1 (((pa_settle a).2.1 c).1 7))).1 2 ≠ 5 := by
    rcases pa_have_st (pa_on ((pa_settle a).2.1 c)) ((pa_settle a).2.1 (((pa_settle a).2.1 c).1 7)) with h | h <;> rw [h]
    · rw [pa_on2]; decide
    · decide
  have e0 : (pa_settle a).2.1 c = a.2.1 c := by
    rcases (pa_settle_mid a).2.2 c with q | ⟨n, q⟩
    · exact q
    · exact absurd h5 (pa_told_5 q).2.2
  rcases e with e | e
  · rw [e] at ne
    rw [e0] at h5
    exact ne h5
  · have q : (pa_settle a).2.1 c = pa_have (pa_on ((pa_settle a).2.1 c)) ((pa_settle a).2.1 (((pa_settle a).2.1 c).1 7)) := pa_settleC_told e
    rw [← q] at ne
    exact ne h5
theorem pa_mid_max {a s : pa_M} (h : pa_mid a s) (hm : pa_max s) : s = pa_settle a := by
  obtain ⟨s1, s2, s3⟩ := s
  have e1 : s1 = a.1 := h.1
  have e3 : s3 = a.2.2 := h.2.1
  have e2 : s2 = pa_settleC a := by
    funext c
    by_cases hx : ∃ v, pa_isTold a c v
    · obtain ⟨v, hv⟩ := hx
      rw [pa_settleC_told hv]
      obtain ⟨n, hn⟩ := hv
      exact pa_mid_all h hm n c v hn
    · rw [pa_settleC_not hx]
      rcases h.2.2 c with q | q
      · exact q
      · exact absurd ⟨_, q⟩ hx
  rw [e1, e2, e3]
  rfl
/-- nobody to be told: nothing changes -/
theorem pa_settle_id {a : pa_M} (h : pa_max a) : pa_settle a = a := (pa_mid_max (pa_mid_refl a) h).symm

