/-! TEXT: how it is read -/
def pt_at (l : List Int) (j : Int) : Int := if 0 ≤ j ∧ j < (l.length : Int) then l.getD j.toNat 0 else 0
abbrev pt_dg (l : List Int) (j : Int) : Prop := 48 ≤ pt_at l j ∧ pt_at l j ≤ 57
def pt_d (l : List Int) (j : Int) : Int := pt_at l j - 48
def pt_dd (l : List Int) (j : Int) : Int := 10 * pt_d l j + pt_d l (j + 1)
/-- a step with a number -/
abbrev pt_ns (b : Int) : Prop := b = 100 ∨ b = 103 ∨ b = 106 ∨ b = 115 ∨ b = 121 ∨ b = 114 ∨ b = 97 ∨ b = 109 ∨ b = 122 ∨ b = 116
/-- behind a program's steps from j on, or the fault -/
def pt_pend (l : List Int) : Nat → Int → Int
  | 0, j => -1000 - j
  | f + 1, j => if pt_at l j = 59 then j + 1 else if pt_at l j = 102 then pt_pend l f (j + 1) else if pt_ns (pt_at l j) then (if pt_dg l (j + 1) then pt_pend l f (j + 2) else -1000 - (j + 1)) else -1000 - j
def pt_steps (l : List Int) : Nat → Int → pa_P
  | 0, _ => []
  | f + 1, j => if pt_at l j = 102 then (102, 0) :: pt_steps l f (j + 1) else if pt_ns (pt_at l j) then (pt_at l j, pt_d l (j + 1)) :: pt_steps l f (j + 2) else []
def pt_nums (l : List Int) : Nat → Int → Int
  | 0, j => if pt_at l j = 59 then j + 1 else -1000 - j
  | m + 1, j => if pt_dg l j then pt_nums l m (j + 1) else -1000 - j
/-- behind the statement at k, or the fault -/
def pt_stmt (l : List Int) (k : Int) : Int := if pt_at l k = 112 then (if pt_dg l (k + 1) then pt_pend l 101 (k + 2) else -1000 - (k + 1)) else if pt_at l k = 99 ∨ pt_at l k = 110 then pt_nums l 3 (k + 1) else if pt_at l k = 108 then pt_nums l 2 (k + 1) else if pt_at l k = 120 ∨ pt_at l k = 119 then pt_nums l 1 (k + 1) else -1000 - k
def pt_cnt (l : List Int) : Nat → Int → Int → Int
  | 0, i, _ => i
  | f + 1, i, k => if (l.length : Int) ≤ k then i else if pt_stmt l k < 0 then pt_stmt l k else pt_cnt l f (i + 1) (pt_stmt l k)
def pt_fs : pa_P → Int
  | [] => 0
  | q :: p => (if q.1 = 102 then 1 else 0) + pt_fs p
def pa_prog (s : pa_M) (p : Int) (g : pa_P) : pa_M := (s.1, s.2.1, (fun i => if i = p then g else s.2.2.1 i), s.2.2.2)
/-- what the statement at k does -/
noncomputable def pt_do (l : List Int) (k : Int) (s : pa_M) : Option pa_M :=
  if pt_at l k = 112 then (if pt_d l (k + 1) < 5 ∧ (pt_steps l 101 (k + 2)).length ≤ 16 ∧ pt_fs (pt_steps l 101 (k + 2)) ≤ 1 then some (pa_prog s (pt_d l (k + 1)) (pt_steps l 101 (k + 2))) else none)
  else if pt_at l k = 99 then (if pt_d l (k + 1) < 5 ∧ pt_d l (k + 2) ≤ 5 ∧ s.1 4 < 8 then some (pa_more s (pt_d l (k + 1)) (pt_d l (k + 2)) (pt_d l (k + 3))) else none)
  else if pt_at l k = 110 then (if pt_d l (k + 1) < s.1 4 ∧ (s.2.1 (pt_d l (k + 1))).1 2 ≤ 2 then some (pa_send s (pt_d l (k + 1)) (pt_dd l (k + 2))) else none)
  else if pt_at l k = 120 then (if pt_d l (k + 1) < s.1 4 ∧ (s.2.1 (pt_d l (k + 1))).1 2 < 6 then some (pa_shut s (pt_d l (k + 1))) else none)
  else if pt_at l k = 119 then (if 1 ≤ pt_d l (k + 1) ∧ pt_d l (k + 1) ≤ 8 then some (pa_wid s (pt_d l (k + 1))) else none)
  else (if (1 ≤ pt_dd l (k + 1) ∧ pt_dd l (k + 1) ≤ 60) ∧ s.1 6 + pt_dd l (k + 1) ≤ 999 then some (pa_rounds (pt_dd l (k + 1)).toNat s) else none)
noncomputable def pt_run (l : List Int) : Nat → Int → pa_M → pa_M × Int
  | 0, _, s => (s, 0)
  | m + 1, k, s => match pt_do l k s with
    | none => (s, -2000 - k)
    | some s' => pt_run l m (pt_stmt l k) s'
noncomputable def pa_doText (a : pa_M) (h : Int → pa_Sh) (d : Int) : pa_M × Int := if pa_W h d < 0 then (a, pa_W h d) else if (h d).2.1.1 ≠ 0 then (a, -12) else if (h d).2.2.length = 0 then (a, -1000) else if pt_cnt (h d).2.2 100 0 0 < 0 then (a, pt_cnt (h d).2.2 100 0 0) else if (pt_run (h d).2.2 (pt_cnt (h d).2.2 100 0 0).toNat 0 a).2 < 0 then (a, (pt_run (h d).2.2 (pt_cnt (h d).2.2 100 0 0).toNat 0 a).2) else ((pt_run (h d).2.2 (pt_cnt (h d).2.2 100 0 0).toNat 0 a).1, pt_cnt (h d).2.2 100 0 0)
section
variable {l : List Int}
theorem pt_at_in {j : Int} (h : pt_at l j ≠ 0) : 0 ≤ j ∧ j < (l.length : Int) := by
  unfold pt_at at h
  split at h
  · assumption
  · exact absurd rfl h
theorem pt_pend_r : ∀ (f : Nat) (j : Int), 0 ≤ j → (pt_pend l f j < 0 ∧ -1001 - j - 2 * f ≤ pt_pend l f j) ∨ (j < pt_pend l f j ∧ pt_pend l f j ≤ (l.length : Int) ∧ pt_at l (pt_pend l f j - 1) = 59)
  | 0, j, h => Or.inl (by unfold pt_pend; omega)
  | f + 1, j, h => by
    unfold pt_pend
    by_cases q1 : pt_at l j = 59
    · rw [if_pos q1]
      have := pt_at_in (l := l) (j := j) (by omega)
      right
      rw [show j + 1 - 1 = j by omega]
      omega
    · rw [if_neg q1]
      by_cases q2 : pt_at l j = 102
      · rw [if_pos q2]
        have := pt_pend_r f (j + 1) (by omega)
        push_cast
        omega
      · rw [if_neg q2]
        by_cases q3 : pt_ns (pt_at l j)
        · rw [if_pos q3]
          by_cases q4 : pt_dg l (j + 1)
          · rw [if_pos q4]
            have := pt_pend_r f (j + 2) (by omega)
            push_cast
            omega
          · rw [if_neg q4]; push_cast; omega
        · rw [if_neg q3]; push_cast; omega
theorem pt_nums_r : ∀ (m : Nat) (j : Int), 0 ≤ j → (pt_nums l m j < 0 ∧ -1000 - j - m ≤ pt_nums l m j) ∨ (pt_nums l m j = j + m + 1 ∧ pt_nums l m j ≤ (l.length : Int) ∧ pt_at l (pt_nums l m j - 1) = 59 ∧ ∀ i : Nat, i < m → pt_dg l (j + i))
  | 0, j, h => by
    unfold pt_nums
    by_cases q1 : pt_at l j = 59
    · rw [if_pos q1]
      have := pt_at_in (l := l) (j := j) (by omega)
      right
      rw [show j + 1 - 1 = j by omega]
      exact ⟨by omega, by omega, q1, fun i hi => absurd hi (Nat.not_lt_zero _)⟩
    · rw [if_neg q1]; left; omega
  | m + 1, j, h => by
    unfold pt_nums
    by_cases q1 : pt_dg l j
    · rw [if_pos q1]
      rcases pt_nums_r m (j + 1) (by omega) with ⟨h1, h2⟩ | ⟨h1, h2, h3, h4⟩
      · left; push_cast; omega
      · refine Or.inr ⟨by push_cast; omega, h2, h3, fun i hi => ?_⟩
        cases i with
        | zero => simpa using q1
        | succ i =>
          have := h4 i (by omega)
          rw [show j + 1 + (i : Int) = j + ((i + 1 : Nat) : Int) by push_cast; omega] at this
          exact this
    · rw [if_neg q1]; left; push_cast; omega
theorem pt_stmt_r {k : Int} (h : 0 ≤ k) : (pt_stmt l k < 0 ∧ -1300 - k ≤ pt_stmt l k) ∨ (k + 3 ≤ pt_stmt l k ∧ pt_stmt l k ≤ (l.length : Int) ∧ pt_at l (pt_stmt l k - 1) = 59) := by
  unfold pt_stmt
  by_cases q1 : pt_at l k = 112
  · rw [if_pos q1]
    by_cases q2 : pt_dg l (k + 1)
    · rw [if_pos q2]
      have := pt_pend_r (l := l) 101 (k + 2) (by omega)
      omega
    · rw [if_neg q2]; left; omega
  · rw [if_neg q1]
    by_cases q2 : pt_at l k = 99 ∨ pt_at l k = 110
    · rw [if_pos q2]
      rcases pt_nums_r (l := l) 3 (k + 1) (by omega) with h | ⟨h1, h2, h3, -⟩
      · left; omega
      · right; exact ⟨by omega, h2, h3⟩
    · rw [if_neg q2]
      by_cases q3 : pt_at l k = 108
      · rw [if_pos q3]
        rcases pt_nums_r (l := l) 2 (k + 1) (by omega) with h | ⟨h1, h2, h3, -⟩
        · left; omega
        · right; exact ⟨by omega, h2, h3⟩
      · rw [if_neg q3]
        by_cases q4 : pt_at l k = 120 ∨ pt_at l k = 119
        · rw [if_pos q4]
          rcases pt_nums_r (l := l) 1 (k + 1) (by omega) with h | ⟨h1, h2, h3, -⟩
          · left; omega
          · right; exact ⟨by omega, h2, h3⟩
        · rw [if_neg q4]; left; omega
/-- a good statement: its letter, its digits -/
theorem pt_stmt_ok {k : Int} (h : 0 ≤ k) (hg : 0 ≤ pt_stmt l k) : (pt_at l k = 112 ∨ pt_at l k = 99 ∨ pt_at l k = 110 ∨ pt_at l k = 108 ∨ pt_at l k = 120 ∨ pt_at l k = 119) ∧ pt_dg l (k + 1) ∧ (pt_at l k = 99 ∨ pt_at l k = 110 → pt_dg l (k + 2) ∧ pt_dg l (k + 3)) ∧ (pt_at l k = 108 → pt_dg l (k + 2)) := by
  unfold pt_stmt at hg
  have key : ∀ m : Nat, 0 ≤ pt_nums l m (k + 1) → ∀ i : Nat, i < m → pt_dg l (k + 1 + i) := fun m hm => by
    rcases pt_nums_r (l := l) m (k + 1) (by omega) with h | ⟨-, -, -, h4⟩
    · omega
    · exact h4
  by_cases q1 : pt_at l k = 112
  · rw [if_pos q1] at hg
    by_cases q2 : pt_dg l (k + 1)
    · exact ⟨Or.inl q1, q2, fun e => by omega, fun e => by omega⟩
    · rw [if_neg q2] at hg; omega
  · rw [if_neg q1] at hg
    by_cases q2 : pt_at l k = 99 ∨ pt_at l k = 110
    · rw [if_pos q2] at hg
      have h0 := key 3 hg 0 (by omega)
      have h1 := key 3 hg 1 (by omega)
      have h2 := key 3 hg 2 (by omega)
      rw [show k + 1 + ((0 : Nat) : Int) = k + 1 by omega] at h0
      rw [show k + 1 + ((1 : Nat) : Int) = k + 2 by omega] at h1
      rw [show k + 1 + ((2 : Nat) : Int) = k + 3 by omega] at h2
      exact ⟨by omega, h0, fun _ => ⟨h1, h2⟩, fun e => by omega⟩
    · rw [if_neg q2] at hg
      by_cases q3 : pt_at l k = 108
      · rw [if_pos q3] at hg
        have h0 := key 2 hg 0 (by omega)
        have h1 := key 2 hg 1 (by omega)
        rw [show k + 1 + ((0 : Nat) : Int) = k + 1 by omega] at h0
        rw [show k + 1 + ((1 : Nat) : Int) = k + 2 by omega] at h1
        exact ⟨by omega, h0, fun e => by omega, fun _ => h1⟩
      · rw [if_neg q3] at hg
        by_cases q4 : pt_at l k = 120 ∨ pt_at l k = 119
        · rw [if_pos q4] at hg
          have h0 := key 1 hg 0 (by omega)
          rw [show k + 1 + ((0 : Nat) : Int) = k + 1 by omega] at h0
          exact ⟨by omega, h0, fun e => by omega, fun e => by omega⟩
        · rw [if_neg q4] at hg; omega
theorem pt_fs_b : ∀ p : pa_P, 0 ≤ pt_fs p ∧ pt_fs p ≤ p.length
  | [] => ⟨Int.le_refl _, Int.le_refl _⟩
  | q :: p => by
    have := pt_fs_b p
    unfold pt_fs
    rw [List.length_cons]
    split <;> (push_cast; omega)
theorem pt_fs_0 : ∀ p : pa_P, pt_fs p = 0 → ∀ q ∈ p, q.1 ≠ 102
  | [], _, q, hq => by cases hq
  | x :: p, h, q, hq => by
    have := pt_fs_b p
    unfold pt_fs at h
    rcases List.mem_cons.mp hq with rfl | hq
    · intro e
      rw [if_pos e] at h
      omega
    · refine pt_fs_0 p ?_ q hq
      split at h <;> omega
theorem pt_ff_at : ∀ (p : pa_P) (o : Int) (i : Nat), pt_fs p ≤ 1 → i < p.length → (p.getD i (0, 0)).1 = 102 → pa_ff p o = o + i
  | [], _, _, _, h, _ => absurd h (Nat.not_lt_zero _)
  | q :: p, o, i, hf, hi, he => by
    have hb := pt_fs_b p
    unfold pt_fs at hf
    unfold pa_ff
    cases i with
    | zero =>
      have he : q.1 = 102 := he
      rw [if_pos he]
      simp
    | succ i =>
      rw [List.length_cons] at hi
      rw [List.getD_cons_succ] at he
      by_cases e : q.1 = 102
      · rw [if_pos e] at hf
        have hm : p.getD i (0, 0) ∈ p := by
          rw [List.getD_eq_getElem?_getD, List.getElem?_eq_getElem (by omega)]
          exact List.getElem_mem _
        exact absurd he (pt_fs_0 p (by omega) _ hm)
      · rw [if_neg e] at hf ⊢
        rw [pt_ff_at p (o + 1) i (by omega) (by omega) he]
        push_cast
        omega
theorem pt_steps_ok : ∀ (f : Nat) (j : Int), 0 ≤ pt_pend l f j → ∀ q ∈ pt_steps l f j, pa_okl q.1 ∧ 0 ≤ q.2 ∧ q.2 ≤ 9
  | 0, j, _, q, hq => by cases hq
  | f + 1, j, hg, q, hq => by
    unfold pt_pend at hg
    unfold pt_steps at hq
    by_cases q2 : pt_at l j = 102
    · rw [if_neg (by omega), if_pos q2] at hg
      rw [if_pos q2] at hq
      rcases List.mem_cons.mp hq with rfl | hq
      · exact ⟨by unfold pa_okl; omega, by decide, by decide⟩
      · exact pt_steps_ok f _ hg q hq
    · rw [if_neg q2] at hq
      by_cases q3 : pt_ns (pt_at l j)
      · rw [if_pos q3] at hq
        rw [if_neg (by omega), if_neg q2, if_pos q3] at hg
        by_cases q4 : pt_dg l (j + 1)
        · rw [if_pos q4] at hg
          rcases List.mem_cons.mp hq with rfl | hq
          · unfold pa_okl pt_d
            dsimp only
            omega
          · exact pt_steps_ok f _ hg q hq
        · rw [if_neg q4] at hg
          have := pt_at_in (l := l) (j := j) (by omega)
          omega
      · rw [if_neg q3] at hq
        cases hq
theorem pt_wfp {k : Int} (h : 0 ≤ k) (hg : 0 ≤ pt_stmt l k) (hc : pt_at l k = 112) (h16 : (pt_steps l 101 (k + 2)).length ≤ 16) (hf : pt_fs (pt_steps l 101 (k + 2)) ≤ 1) : pa_wfp (pt_steps l 101 (k + 2)) := by
  unfold pt_stmt at hg
  rw [if_pos hc] at hg
  by_cases q2 : pt_dg l (k + 1)
  · rw [if_pos q2] at hg
    refine ⟨h16, pt_steps_ok 101 _ hg, fun i hi he => ?_⟩
    unfold pa_fin
    rw [pt_ff_at _ 0 i hf hi he]
    omega
  · rw [if_neg q2] at hg; omega
theorem pa_prog_wf {s : pa_M} {p : Int} {g : pa_P} (h : pa_wf s) (hg : pa_wfp g) : pa_wf (pa_prog s p g) := by
  refine ⟨⟨h.1.1, h.1.2.1, h.1.2.2.1, fun i i0 i5 => ?_⟩, h.2⟩
  show pa_wfp (if i = p then g else s.2.2.1 i)
  split
  · exact hg
  · exact h.1.2.2.2 i i0 i5
theorem pa_rounds_wf : ∀ (m : Nat) (s : pa_M), pa_wf s → pa_wf (pa_rounds m s)
  | 0, _, h => h
  | m + 1, s, h => pa_rounds_wf m _ (pa_round_wf h).1
theorem pa_rounds6 : ∀ (m : Nat) (s : pa_M), pa_wf s → (pa_rounds m s).1 6 = s.1 6 + m
  | 0, s, _ => by show s.1 6 = _; simp
  | m + 1, s, h => by
    unfold pa_rounds
    rw [pa_rounds6 m _ (pa_round_wf h).1, (pa_round_wf h).2.1]
    show s.1 6 + 1 + m = _
    push_cast
    omega
/-- what a good statement does is well -/
theorem pt_do_wf {k : Int} {s s' : pa_M} (h : 0 ≤ k) (hg : 0 ≤ pt_stmt l k) (hs : pa_wf s) (h6 : 0 ≤ s.1 6 ∧ s.1 6 ≤ 999) (hd : pt_do l k s = some s') : pa_wf s' ∧ 0 ≤ s'.1 6 ∧ s'.1 6 ≤ 999 := by
  obtain ⟨g1, g2, g3, g4⟩ := pt_stmt_ok h hg
  have h8 := hs.1.1
  unfold pt_do at hd
  have d1 : pt_d l (k + 1) = pt_at l (k + 1) - 48 := rfl
  by_cases c1 : pt_at l k = 112
  · rw [if_pos c1] at hd
    split at hd
    · rename_i q
      cases hd
      exact ⟨pa_prog_wf hs (pt_wfp h hg c1 q.2.1 q.2.2), h6⟩
    · cases hd
  · rw [if_neg c1] at hd
    by_cases c2 : pt_at l k = 99
    · rw [if_pos c2] at hd
      have g3 := g3 (Or.inl c2)
      have d2 : pt_d l (k + 2) = pt_at l (k + 2) - 48 := rfl
      have d3 : pt_d l (k + 3) = pt_at l (k + 3) - 48 := rfl
      split at hd
      · rename_i q
        cases hd
        have := pa_more_wf hs q.2.2 (p := pt_d l (k + 1)) (k := pt_d l (k + 2)) (f := pt_d l (k + 3)) (by omega) (by omega) (by omega)
        exact ⟨this.1, by rw [this.2.2.2]; exact h6⟩
      · cases hd
    · rw [if_neg c2] at hd
      by_cases c3 : pt_at l k = 110
      · rw [if_pos c3] at hd
        have g3 := g3 (Or.inr c3)
        have d2 : pt_d l (k + 2) = pt_at l (k + 2) - 48 := rfl
        have d3 : pt_d l (k + 2 + 1) = pt_at l (k + 3) - 48 := by
          show pt_at l (k + 2 + 1) - 48 = _
          rw [show k + 2 + 1 = k + 3 by omega]
        split at hd
        · rename_i q
          cases hd
          have := pa_send_wf hs (by omega : 0 ≤ pt_d l (k + 1)) q.1 q.2 (v := pt_dd l (k + 2)) (by unfold pt_dd; omega)
          exact ⟨this.1, by rw [this.2]; exact h6⟩
        · cases hd
      · rw [if_neg c3] at hd
        by_cases c4 : pt_at l k = 120
        · rw [if_pos c4] at hd
          split at hd
          · rename_i q
            cases hd
            have := pa_shut_wf hs (by omega : 0 ≤ pt_d l (k + 1)) q.1 q.2
            exact ⟨this.1, by rw [this.2]; exact h6⟩
          · cases hd
        · rw [if_neg c4] at hd
          by_cases c5 : pt_at l k = 119
          · rw [if_pos c5] at hd
            split at hd
            · rename_i q
              cases hd
              exact ⟨pa_wid_wf hs q.1 q.2, h6⟩
            · cases hd
          · rw [if_neg c5] at hd
            split at hd
            · rename_i q
              cases hd
              have := pa_rounds6 (pt_dd l (k + 1)).toNat s hs
              exact ⟨pa_rounds_wf _ _ hs, by omega⟩
            · cases hd
end

