/-! AGES: a step neither looks at them nor changes them -/
def pa_a6 (v : Int) (c : pa_C) : pa_C := (pa_s c.1 6 v, c.2)
def pa_A (e : Int → Int) (a : pa_M) : pa_M := (a.1, fun i => pa_a6 (e i) (a.2.1 i), a.2.2)
section
variable {v : Int} {c : pa_C} {n : Nat → Int}
theorem pa_a6_n (k : Nat) (h : k ≠ 6) : (pa_a6 v c).1 k = c.1 k := by simp [pa_a6, pa_s, h]
theorem pa_a6_a6 {u : Int} : pa_a6 u (pa_a6 v c) = pa_a6 u c := by
  refine Prod.ext ?_ rfl
  funext i
  show pa_s (pa_s c.1 6 v) 6 u i = pa_s c.1 6 u i
  unfold pa_s
  split <;> rfl
theorem pa_a6_id (h : v = c.1 6) : pa_a6 v c = c := by
  refine Prod.ext ?_ rfl
  funext i
  show pa_s c.1 6 v i = c.1 i
  unfold pa_s
  split
  · rename_i q; rw [q, h]
  · rfl
theorem pa_a6_s {j : Nat} {x : Int} (h : j ≠ 6) : pa_a6 v (pa_s c.1 j x, c.2) = (pa_s (pa_a6 v c).1 j x, (pa_a6 v c).2) := by
  unfold pa_a6
  rw [pa_sc h]
theorem pa_throwF_a6 {e : List Int} : ∀ (fs : List pa_F) (φ : List Int), pa_throwF (pa_s n 6 v) e fs φ = pa_a6 v (pa_throwF n e fs φ)
  | [], φ => by
    unfold pa_throwF pa_a6
    rw [pa_sc (by decide)]
  | f :: fs, φ => by
    unfold pa_throwF
    split
    · rfl
    · exact pa_throwF_a6 fs _
theorem pa_throw_a6 {φ : List Int} : pa_throw (pa_a6 v c) φ = pa_a6 v (pa_throw c φ) := pa_throwF_a6 _ _
theorem pa_closeF_a6 {e : List Int} : ∀ (fs : List pa_F), pa_closeF (pa_s n 6 v) e fs = pa_a6 v (pa_closeF n e fs)
  | [] => by
    unfold pa_closeF pa_a6
    rw [pa_sc (by decide)]
  | f :: fs => by
    unfold pa_closeF
    split
    · rfl
    · split
      · rfl
      · exact pa_closeF_a6 fs
theorem pa_endTop_a6 : pa_endTop (pa_a6 v c) = pa_a6 v (pa_endTop c) := by
  obtain ⟨n, e, fs⟩ := c
  unfold pa_endTop pa_a6
  cases fs with
  | nil => rfl
  | cons f fs =>
    dsimp only
    cases hf : f.2.2 with
    | none =>
      dsimp only
      cases fs with
      | nil => dsimp only; rw [pa_sc (by decide)]
      | cons g gs => rfl
    | some l =>
      cases l with
      | nil => exact pa_closeF_a6 _
      | cons x l => exact pa_throwF_a6 _ _
theorem pa_on_a6 : pa_on (pa_a6 v c) = pa_a6 v (pa_on c) := by
  unfold pa_on pa_a6
  dsimp only
  rw [pa_sc (j := 7) (k := 6) (by decide), pa_sc (j := 2) (k := 6) (by decide)]
theorem pa_wait_a6 {w st : Int} : pa_wait (pa_a6 v c) w st = pa_a6 v (pa_wait c w st) := by
  unfold pa_wait pa_a6
  dsimp only
  rw [pa_sc (j := 7) (k := 6) (by decide), pa_sc (j := 2) (k := 6) (by decide)]
theorem pa_have_a6 {u : Int} {o : pa_C} : pa_have (pa_a6 v c) (pa_a6 u o) = pa_a6 v (pa_have c o) := by
  unfold pa_have
  rw [pa_a6_n 2 (by decide), pa_a6_n 3 (by decide)]
  split
  · rw [pa_a6_s (by decide)]
  · split
    · exact pa_throw_a6
    · exact pa_throw_a6
theorem pa_yields_a6 {x : Int} : pa_yields (pa_a6 v c) x = pa_a6 v (pa_yields c x) := by
  unfold pa_yields
  rw [pa_a6_n 20 (by decide), pa_a6_n 21 (by decide), pa_a6_n 3 (by decide), pa_a6_n 5 (by decide)]
  unfold pa_a6
  dsimp only
  rw [pa_sc (j := 2) (k := 6) (by decide), pa_sc (j := 5) (k := 6) (by decide), pa_sc (j := 4) (k := 6) (by decide)]
theorem pa_again_a6 {x : Int} : pa_again (pa_a6 v c) x = pa_a6 v (pa_again c x) := by
  unfold pa_again
  show (match c.2.2 with | f :: fs => _ | [] => _) = _
  cases c.2.2 with
  | nil => rfl
  | cons f fs =>
    dsimp only
    split <;> rfl
theorem pa_top_a6 {j : Nat} {x : pa_F → Int} : pa_top (pa_a6 v c) j x = pa_a6 v (pa_top c j x) := by
  unfold pa_top
  show (match c.2.2 with | f :: fs => _ | [] => _) = _
  cases c.2.2 with
  | nil => rfl
  | cons f fs => rfl
end
section
variable {e : Int → Int} {a : pa_M} {who : Int} {c : pa_C} {n : Int}
theorem pa_A_cw {i : Int} {v : pa_C} : pa_A e (pa_cw a i v) = pa_cw (pa_A e a) i (pa_a6 (e i) v) := by
  refine Prod.ext rfl (Prod.ext ?_ rfl)
  funext j
  show pa_a6 (e j) (if j = i then v else a.2.1 j) = if j = i then pa_a6 (e i) v else pa_a6 (e j) (a.2.1 j)
  by_cases q : j = i
  · rw [if_pos q, if_pos q, q]
  · rw [if_neg q, if_neg q]
theorem pa_A_co (i : Int) : (pa_A e a).2.1 i = pa_a6 (e i) (a.2.1 i) := rfl
theorem pa_A_qw {k : Nat} {ch : Int} {l : List Int} : pa_A e (pa_qw a k ch l) = pa_qw (pa_A e a) k ch l := rfl
theorem pa_into_A : pa_into (pa_A e a) (pa_a6 (e who) c) n = pa_a6 (e who) (pa_into a c n) := by
  unfold pa_into
  show (if 6 ≤ c.2.2.length then _ else _) = _
  split
  · exact pa_throw_a6
  · split
    · exact pa_throw_a6
    · rfl
theorem pa_sendAt_A : pa_sendAt (pa_A e a) who (pa_a6 (e who) c) n = pa_A e (pa_sendAt a who c n) := by
  unfold pa_sendAt
  split
  · rw [pa_throw_a6, pa_A_cw]
  · show (match a.2.2.2 1 n with | g :: l => _ | [] => _) = _
    cases a.2.2.2 1 n with
    | nil =>
      dsimp only
      rw [pa_wait_a6, pa_A_qw, pa_A_cw]
      rfl
    | cons g l =>
      dsimp only
      rw [pa_A_qw, pa_A_cw, ← pa_A_cw, pa_A_co, ← pa_on_a6, pa_a6_s (by decide), pa_a6_n 3 (by decide)]
theorem pa_getAt_A : pa_getAt (pa_A e a) who (pa_a6 (e who) c) n = pa_A e (pa_getAt a who c n) := by
  unfold pa_getAt
  split
  · rw [pa_throw_a6, pa_A_cw]
  · show (match a.2.2.2 0 n with | g :: l => _ | [] => _) = _
    cases a.2.2.2 0 n with
    | nil =>
      dsimp only
      rw [pa_wait_a6, pa_A_qw, pa_A_cw]
      rfl
    | cons g l =>
      dsimp only
      rw [← pa_A_cw, pa_A_co, pa_a6_n 3 (by decide), ← pa_a6_s (by decide), ← pa_A_cw, pa_A_co, pa_on_a6, ← pa_A_cw, pa_A_qw]
theorem pa_join_A : pa_join (pa_A e a) who (pa_a6 (e who) c) n = pa_a6 (e who) (pa_join a who c n) := by
  unfold pa_join
  show (if n = who ∨ a.1 4 ≤ n then _ else _) = _
  split
  · exact pa_throw_a6
  · rw [pa_A_co, pa_a6_n 2 (by decide)]
    split
    · exact pa_have_a6
    · exact pa_wait_a6
theorem pa_live_A {l : Int} : pa_live (pa_A e a) who l n (pa_a6 (e who) c) = pa_A e (pa_live a who l n c) := by
  unfold pa_live
  split
  · rw [pa_yields_a6, pa_A_cw]
  split
  · rw [pa_again_a6, pa_A_cw]
  split
  · rw [pa_into_A, pa_A_cw]
  split
  · exact pa_sendAt_A
  split
  · exact pa_getAt_A
  split
  · rw [pa_join_A, pa_A_cw]
  · rw [pa_A_cw]
theorem pa_do_A {l : Int} {cl : Bool} : pa_do (pa_A e a) who cl l n (pa_a6 (e who) c) = pa_A e (pa_do a who cl l n c) := by
  unfold pa_do
  split
  · rw [pa_a6_n 3 (by decide), ← pa_a6_s (by decide), pa_A_cw]
  split
  · rw [pa_a6_n 3 (by decide), ← pa_a6_s (by decide), pa_A_cw]
  split
  · rw [pa_a6_n 3 (by decide), pa_top_a6, pa_A_cw]
    congr 1
    split <;> rfl
  split
  · rw [pa_top_a6, pa_A_cw]
  split
  · rw [pa_throw_a6, pa_A_cw]
  split
  · rw [pa_A_cw]
  · exact pa_live_A
theorem pa_st1_A {cl : Bool} : pa_st1 (pa_A e a) who cl = pa_A e (pa_st1 a who cl) := by
  unfold pa_st1
  show (match (a.2.1 who).2.2 with | [] => _ | f :: fs => _) = _
  cases hf : (a.2.1 who).2.2 with
  | nil => rfl
  | cons f fs =>
    dsimp only
    split
    · rw [pa_A_co, pa_endTop_a6, pa_A_cw]
    · rw [pa_A_co]
      exact pa_do_A (c := ((a.2.1 who).1, (a.2.1 who).2.1, (pa_s f.1 2 (f.1 2 + 1), f.2) :: fs))
theorem pa_told_A : ∀ (m : Nat) (i : Int) (v : pa_C), pa_told a m i v → pa_told (pa_A e a) m i (pa_a6 (e i) v)
  | 0, _, _, h => h.elim
  | m + 1, i, v, h => by
    obtain ⟨⟨h0, h1, h5⟩, o, ho, h6, rfl⟩ := h
    refine ⟨⟨h0, h1, by rw [pa_A_co, pa_a6_n 2 (by decide)]; exact h5⟩, pa_a6 (e ((a.2.1 i).1 7)) o, ?_, by rw [pa_a6_n 2 (by decide)]; exact h6, ?_⟩
    · have e7 : ((pa_A e a).2.1 i).1 7 = (a.2.1 i).1 7 := by rw [pa_A_co, pa_a6_n 7 (by decide)]
      rw [e7]
      rcases ho with rfl | ho
      · exact Or.inl rfl
      · exact Or.inr (pa_told_A m _ _ ho)
    · rw [pa_A_co, pa_on_a6, pa_have_a6]
theorem pa_settle_A : pa_settle (pa_A e a) = pa_A e (pa_settle a) := by
  symm
  obtain ⟨m1, m2, m3⟩ := pa_settle_mid a
  refine pa_mid_max ⟨m1, m2, fun i => ?_⟩ (fun i i0 i1 i5 => ?_)
  · rcases m3 i with q | ⟨m, q⟩
    · left
      rw [pa_A_co, pa_A_co, q]
    · right
      exact ⟨m, pa_told_A m i _ q⟩
  · rw [pa_A_co, pa_a6_n 2 (by decide)] at i5
    have e7 : ((pa_A e (pa_settle a)).2.1 i).1 7 = ((pa_settle a).2.1 i).1 7 := by rw [pa_A_co, pa_a6_n 7 (by decide)]
    rw [e7, pa_A_co, pa_a6_n 2 (by decide)]
    exact pa_settle_max a i i0 i1 i5
theorem pa_step_A {cl : Bool} : pa_step (pa_A e a) who cl = pa_A e (pa_step a who cl) := by
  unfold pa_step
  rw [pa_st1_A, pa_A_co, pa_a6_n 2 (by decide)]
  split
  · exact pa_settle_A
  · rfl
theorem pa_A_id : pa_A (fun i => (a.2.1 i).1 6) a = a := by
  refine Prod.ext rfl (Prod.ext ?_ rfl)
  funext i
  exact pa_a6_id rfl
/-- a step leaves the ages -/
theorem pa_step_age {cl : Bool} (i : Int) : ((pa_step a who cl).2.1 i).1 6 = (a.2.1 i).1 6 := by
  have h := pa_step_A (e := fun i => (a.2.1 i).1 6) (a := a) (who := who) (cl := cl)
  rw [pa_A_id] at h
  rw [h, pa_A_co]
  simp [pa_a6, pa_s]
end

