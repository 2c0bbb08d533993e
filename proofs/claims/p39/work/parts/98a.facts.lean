/-! FACTS ON THE MACHINE for holds -/
section
variable {a b s : pa_M} {u v w : pa_C} {i c n : Int} {l : List Int}
theorem pa_rounds_add : ∀ (m k : Nat) (s : pa_M), pa_rounds (m + k) s = pa_rounds k (pa_rounds m s)
  | 0, k, s => by rw [Nat.zero_add]; rfl
  | m + 1, k, s => by
    rw [show m + 1 + k = (m + k) + 1 by omega]
    exact pa_rounds_add m k (pa_round s)
theorem ll_then {x : Int} (h0 : 0 ≤ c) (h1 : c < a.1 4) (n0 : 0 ≤ n) (n60 : n ≤ 60) (x0 : 0 ≤ x) (x4 : x ≤ 4) : pa_aThen a c n x = pa_of ((pa_rounds n.toNat a).2.1 c) x := by
  unfold pa_aThen
  rw [if_neg (by omega)]
theorem ll_endsN (c : Int) : ∀ (m : Nat) (i : Int) (s : pa_M), (pa_endsN c m i s = -4 ∧ ∀ j : Nat, j < m → ((pa_rounds j s).2.1 c).1 2 < 6) ∨ ∃ j : Nat, j < m ∧ pa_endsN c m i s = i + j ∧ 6 ≤ ((pa_rounds j s).2.1 c).1 2 ∧ ∀ k : Nat, k < j → ((pa_rounds k s).2.1 c).1 2 < 6
  | 0, i, s => Or.inl ⟨rfl, fun j hj => absurd hj (Nat.not_lt_zero _)⟩
  | m + 1, i, s => by
    unfold pa_endsN
    by_cases h : 6 ≤ (s.2.1 c).1 2
    · rw [if_pos h]
      exact Or.inr ⟨0, by omega, by simp, h, fun k hk => absurd hk (Nat.not_lt_zero _)⟩
    · rw [if_neg h]
      rcases ll_endsN c m (i + 1) (pa_round s) with ⟨e1, e2⟩ | ⟨j, e1, e2, e3, e4⟩
      · refine Or.inl ⟨e1, fun j hj => ?_⟩
        cases j with
        | zero => show (s.2.1 c).1 2 < 6; omega
        | succ j => exact e2 j (by omega)
      · refine Or.inr ⟨j + 1, by omega, by rw [e2]; push_cast; omega, e3, fun k hk => ?_⟩
        cases k with
        | zero => show (s.2.1 c).1 2 < 6; omega
        | succ k => exact e4 k (by omega)
theorem ll_stuckN : ∀ (m : Nat) (i : Int) (s : pa_M), (pa_stuckN m i s = (-4, -4)) ∨ ∃ j : Nat, j < m ∧ (pa_stuckN m i s).1 = i + j ∧ pa_line (pa_rounds j s) = [] ∧ (pa_stuckN m i s).2 = pe_and (pe_shl 1 ((pa_rounds j s).1 4) - 1) (pe_xor (pa_bits (pa_isEnd (pa_rounds j s)) ((pa_rounds j s).1 4).toNat) (-1))
  | 0, i, s => Or.inl rfl
  | m + 1, i, s => by
    unfold pa_stuckN
    by_cases h : pa_line s = []
    · rw [if_pos h]
      exact Or.inr ⟨0, by omega, by simp, h, rfl⟩
    · rw [if_neg h]
      rcases ll_stuckN m (i + 1) (pa_round s) with e | ⟨j, e1, e2, e3, e4⟩
      · exact Or.inl e
      · exact Or.inr ⟨j + 1, by omega, by rw [e2]; push_cast; omega, e3, e4⟩
theorem ll_sbN (a : pa_M) (c : Int) : ∀ (m : Nat) (v : Int) (b : Int × Int), ((pa_sbN a c m v b = b) ∨ ((pa_sbN a c m v b).2 = ((pa_send a c (pa_sbN a c m v b).1).2.1 c).1 4 ∧ v ≤ (pa_sbN a c m v b).1 ∧ (pa_sbN a c m v b).1 < v + m)) ∧ b.2 ≤ (pa_sbN a c m v b).2 ∧ ∀ k, v ≤ k → k < v + m → ((pa_send a c k).2.1 c).1 4 ≤ (pa_sbN a c m v b).2
  | 0, v, b => ⟨Or.inl rfl, Int.le_refl _, fun k k0 k1 => by omega⟩
  | m + 1, v, b => by
    unfold pa_sbN
    by_cases h : b.2 < ((pa_send a c v).2.1 c).1 4
    · rw [if_pos h]
      obtain ⟨e1, e2, e3⟩ := ll_sbN a c m (v + 1) (v, ((pa_send a c v).2.1 c).1 4)
      have e2 : ((pa_send a c v).2.1 c).1 4 ≤ (pa_sbN a c m (v + 1) (v, ((pa_send a c v).2.1 c).1 4)).2 := e2
      refine ⟨Or.inr ?_, by omega, fun k k0 k1 => ?_⟩
      · rcases e1 with e | ⟨p1, p2, p3⟩
        · rw [e]
          exact ⟨rfl, Int.le_refl _, by show v < v + ((m + 1 : Nat) : Int); push_cast; omega⟩
        · exact ⟨p1, by omega, by push_cast; omega⟩
      · by_cases e : k = v
        · rw [e]; exact e2
        · exact e3 k (by omega) (by push_cast at k1; omega)
    · rw [if_neg h]
      obtain ⟨e1, e2, e3⟩ := ll_sbN a c m (v + 1) b
      refine ⟨?_, e2, fun k k0 k1 => ?_⟩
      · rcases e1 with e | ⟨p1, p2, p3⟩
        · exact Or.inl e
        · exact Or.inr ⟨p1, by omega, by push_cast; omega⟩
      · by_cases e : k = v
        · rw [e]; omega
        · exact e3 k (by omega) (by push_cast at k1; omega)
/-- the greatest that comes out -/
theorem ll_best (hwf : pa_wf a) (h0 : 0 ≤ c) (h1 : c < a.1 4) (h2 : (a.2.1 c).1 2 ≤ 2) : (0 ≤ (pa_sbN a c 21 0 (0, -4)).1 ∧ (pa_sbN a c 21 0 (0, -4)).1 ≤ 20) ∧ ((pa_send a c (pa_sbN a c 21 0 (0, -4)).1).2.1 c).1 4 = (pa_sbN a c 21 0 (0, -4)).2 ∧ ∀ k, 0 ≤ k → k ≤ 20 → ((pa_send a c k).2.1 c).1 4 ≤ (pa_sbN a c 21 0 (0, -4)).2 := by
  obtain ⟨e1, e2, e3⟩ := ll_sbN a c 21 0 (0, -4)
  refine ⟨?_, ?_, fun k k0 k1 => e3 k k0 (by omega)⟩
  · rcases e1 with e | ⟨p1, p2, p3⟩
    · rw [e]; decide
    · exact ⟨p2, by omega⟩
  · rcases e1 with e | ⟨p1, p2, p3⟩
    · have := e3 0 (by decide) (by decide)
      rw [e] at this ⊢
      have hw := pa_send_wf (v := 0) hwf h0 h1 h2 (by decide)
      have := (hw.1.1.2.2.1 c h0 (by rw [hw.2]; exact h1)).1.2.2.2.1.1
      show ((pa_send a c 0).2.1 c).1 4 = -4
      omega
    · exact p1.symm
theorem ll_send_1 {v : Int} (hwf : pa_wf a) (h0 : 0 ≤ c) (h1 : c < a.1 4) (h2 : (a.2.1 c).1 2 ≤ 2) (hv : 0 ≤ v ∧ v ≤ 999) : 1 ≤ ((pa_send a c v).2.1 c).1 2 := by
  have := (ll_loop_go (c := c) 40 _ (pa_take_wf3 hwf h0 h1 h2 hv) h0 h1).1 c
  refine this.2.2.1 ?_
  rw [pa_cw_same, pa_take2]
  decide
/-- who closes: the others stand or are told; nobody's outs change -/
def ll_cr (c : Int) (a b : pa_M) : Prop := b.1 4 = a.1 4 ∧ (∀ i, (b.2.1 i).1 5 = (a.2.1 i).1 5) ∧ ∀ i, i ≠ c → b.2.1 i = a.2.1 i ∨ (b.2.1 i).1 2 = 1 ∨ (b.2.1 i).1 2 = 7
theorem ll_cr_refl (c : Int) (a : pa_M) : ll_cr c a a := ⟨rfl, fun _ => rfl, fun _ _ => Or.inl rfl⟩
theorem ll_cr_st {a b d : pa_M} (h : ll_cr c a b) (h4 : d.1 4 = b.1 4) (h5 : ∀ i, (d.2.1 i).1 5 = (b.2.1 i).1 5) (hi : ∀ i, i ≠ c → d.2.1 i = b.2.1 i ∨ ((b.2.1 i).1 2 = 5 ∧ ((d.2.1 i).1 2 = 1 ∨ (d.2.1 i).1 2 = 7))) : ll_cr c a d := by
  refine ⟨h4.trans h.1, fun i => (h5 i).trans (h.2.1 i), fun i hne => ?_⟩
  rcases hi i hne with e | ⟨e1, e2⟩
  · rw [e]; exact h.2.2 i hne
  · exact Or.inr e2
theorem ll_cr_settle {a b : pa_M} (h : ll_cr c a b) : ll_cr c a (pa_settle b) := by
  refine ll_cr_st h rfl (fun i => ?_) (fun i _ => ?_)
  · rcases (pa_settle_mid b).2.2 i with e | ⟨m, e⟩
    · rw [e]
    · exact (ll_told_le e).2.2
  · rcases (pa_settle_mid b).2.2 i with e | ⟨m, e⟩
    · exact Or.inl e
    · exact Or.inr ⟨(pa_told_5 e).2.1, (ll_told_le e).2.1⟩
theorem ll_throw_5 (u : pa_C) (φ : List Int) : (pa_throw u φ).1 5 = u.1 5 := by
  rcases ll_throw_n u φ with e | e
  · rw [e]
  · rw [e, pa_sn (by decide)]
theorem ll_cw_5 {a : pa_M} {v : pa_C} (h : v.1 5 = (a.2.1 c).1 5) : ∀ i, ((pa_cw a c v).2.1 i).1 5 = (a.2.1 i).1 5 := fun i => by
  by_cases e : i = c
  · subst e; rw [pa_cw_same]; exact h
  · rw [pa_cw_ne e]
theorem ll_st1_cr (h3 : (a.2.1 c).1 2 = 1) : (pa_st1 a c true).1 4 = a.1 4 ∧ (∀ i, ((pa_st1 a c true).2.1 i).1 5 = (a.2.1 i).1 5) ∧ ∀ i, i ≠ c → (pa_st1 a c true).2.1 i = a.2.1 i := by
  have key : ∀ v : pa_C, v.1 5 = (a.2.1 c).1 5 → (pa_cw a c v).1 4 = a.1 4 ∧ (∀ i, ((pa_cw a c v).2.1 i).1 5 = (a.2.1 i).1 5) ∧ ∀ i, i ≠ c → (pa_cw a c v).2.1 i = a.2.1 i := fun v h => ⟨rfl, ll_cw_5 h, fun i hi => pa_cw_ne hi⟩
  unfold pa_st1
  split
  · exact ⟨rfl, fun _ => rfl, fun _ _ => rfl⟩
  · split
    · refine key _ ?_
      rcases ll_endTop_n (a.2.1 c) with e | ⟨z, hz, e⟩
      · rw [e]
      · rw [e, pa_sn (by decide)]
    · unfold pa_do
      split
      · exact key _ (by simp [pa_s])
      · split
        · exact key _ (by simp [pa_s])
        · split
          · split
            · refine key _ ?_
              unfold pa_top
              split <;> rfl
            · exact key _ rfl
          · split
            · refine key _ ?_
              unfold pa_top
              split <;> rfl
            · split
              · exact key _ (ll_throw_5 _ _)
              · split
                · exact key _ rfl
                · rename_i h; exact absurd rfl h
theorem ll_step_cr {b : pa_M} (h : ll_cr c a b) (h3 : (b.2.1 c).1 2 = 1) : ll_cr c a (pa_step b c true) := by
  obtain ⟨e4, e5, ei⟩ := ll_st1_cr h3
  have h1 : ll_cr c a (pa_st1 b c true) := ll_cr_st h e4 e5 (fun i hi => Or.inl (ei i hi))
  unfold pa_step
  split
  · exact ll_cr_settle h1
  · exact h1
theorem ll_cl_cr : ∀ (m : Nat) (b : pa_M), ll_cr c a b → pa_wf b → 0 ≤ c → c < b.1 4 → ((b.2.1 c).1 2 = 1 ∨ 6 ≤ (b.2.1 c).1 2) → ll_cr c a (pa_cl m b c)
  | 0, b, h, _, _, _, _ => h
  | m + 1, b, h, hw, h0, h1, h16 => by
    unfold pa_cl
    split
    · exact h
    · have h3 : (b.2.1 c).1 2 = 1 := by omega
      have hw2 := pa_step_wf (cl := true) hw ⟨h0, h1⟩ (by omega)
      have e1 := (pa_step_1 (cl := true) hw ⟨h0, h1⟩ (by omega : (b.2.1 c).1 2 < 3)).1
      exact ll_cl_cr m _ (ll_step_cr h h3) hw2 h0 (by rw [e1]; exact h1) (pa_step_cl hw ⟨h0, h1⟩ h3)
theorem ll_cl_end : ∀ (m n' : Nat) (b : pa_M), pa_wf b → 0 ≤ c → c < b.1 4 → ((b.2.1 c).1 2 = 1 ∨ 6 ≤ (b.2.1 c).1 2) → pa_mu (b.2.1 c).2.2 < m → m ≤ n' → 6 ≤ ((pa_cl n' b c).2.1 c).1 2
  | 0, n', b, hw, h0, h1, h16, hmu, hm => by
    have := pa_mu_0 _ (hw.1.2.2.1 c h0 h1).2.2.1
    omega
  | m + 1, 0, b, hw, h0, h1, h16, hmu, hm => by omega
  | m + 1, n' + 1, b, hw, h0, h1, h16, hmu, hm => by
    unfold pa_cl
    split
    · assumption
    · have h3 : (b.2.1 c).1 2 = 1 := by omega
      have hw2 := pa_step_wf (cl := true) hw ⟨h0, h1⟩ (by omega)
      have e1 := (pa_step_1 (cl := true) hw ⟨h0, h1⟩ (by omega : (b.2.1 c).1 2 < 3)).1
      have hmu2 := pa_mu_step hw ⟨h0, h1⟩ h3
      exact ll_cl_end m n' _ hw2 h0 (by rw [e1]; exact h1) (pa_step_cl hw ⟨h0, h1⟩ h3) (by omega) (by omega)
/-- close: he is ended, his outs stand, who joined him is told -/
theorem ll_shut (hwf : pa_wf a) (h0 : 0 ≤ c) (h1 : c < a.1 4) (h6 : (a.2.1 c).1 2 < 6) : 6 ≤ ((pa_shut a c).2.1 c).1 2 ∧ ((pa_shut a c).2.1 c).1 5 = (a.2.1 c).1 5 ∧ ∀ i, 0 ≤ i → i < a.1 4 → i ≠ c → (a.2.1 i).1 2 = 5 → (a.2.1 i).1 7 = c → ((pa_shut a c).2.1 i).1 2 ≠ 5 ∧ ((pa_shut a c).2.1 i).1 2 ≠ 6 := by
  obtain ⟨u1, u2, u3, u4⟩ := pa_shut2_wf hwf h0 h1 h6
  have h1' : c < (pa_shut2 a c).1 4 := by rw [u2]; exact h1
  have r1 : ll_cr c a (pa_shut1 a c) := by
    refine ⟨rfl, ll_cw_5 (a := pa_lv a c) ?_, fun i hi => Or.inl (pa_cw_ne hi)⟩
    show (pa_close (pa_on (a.2.1 c))).1 5 = (a.2.1 c).1 5
    rcases ll_close_n (pa_on (a.2.1 c)) with e | e
    · rw [e]; exact (ll_on_n _).1
    · rw [e, pa_sn (by decide)]; exact (ll_on_n _).1
  have r2 : ll_cr c a (pa_shut2 a c) := by
    unfold pa_shut2
    split
    · exact ll_cr_settle r1
    · exact r1
  have r3 : ll_cr c a (pa_shut a c) := ll_cl_cr 1000 _ r2 u1 h0 h1' u4
  have hff := (u1.1.2.2.1 c h0 h1')
  have hmu := pa_mu_156 _ hff.2.2.1
  have hl6 := hff.2.1
  have e6 : 6 ≤ ((pa_shut a c).2.1 c).1 2 := ll_cl_end 157 1000 _ u1 h0 h1' u4 (by omega) (by decide)
  obtain ⟨w1, w2⟩ := pa_shut_wf hwf h0 h1 h6
  refine ⟨e6, r3.2.1 c, fun i i0 i1 hne i5 i7 => ?_⟩
  rcases r3.2.2 i hne with e | e
  · exfalso
    have := w1.2.2.2 i i0 (by rw [w2]; exact i1) (by rw [e]; exact i5)
    rw [e, i7] at this
    omega
  · omega
theorem ll_lwN (a : pa_M) (n : Int) : ∀ (m : Nat) (w : Int), (pa_lwN a n m w = -4 ∧ ∀ j : Nat, j < m → ¬ pb_c (pa_bits (pa_isEnd (pa_lwR a n (w + j))) ((pa_lwR a n (w + j)).1 4).toNat) = (pa_lwR a n (w + j)).1 4) ∨ ∃ j : Nat, j < m ∧ pa_lwN a n m w = w + j ∧ pb_c (pa_bits (pa_isEnd (pa_lwR a n (w + j))) ((pa_lwR a n (w + j)).1 4).toNat) = (pa_lwR a n (w + j)).1 4 ∧ ∀ k : Nat, k < j → ¬ pb_c (pa_bits (pa_isEnd (pa_lwR a n (w + k))) ((pa_lwR a n (w + k)).1 4).toNat) = (pa_lwR a n (w + k)).1 4
  | 0, w => Or.inl ⟨rfl, fun j hj => absurd hj (Nat.not_lt_zero _)⟩
  | m + 1, w => by
    have ew : w + ((0 : Nat) : Int) = w := by omega
    have es : ∀ k : Nat, w + ((k + 1 : Nat) : Int) = w + 1 + k := fun k => by push_cast; omega
    unfold pa_lwN
    by_cases h : pb_c (pa_bits (pa_isEnd (pa_lwR a n w)) ((pa_lwR a n w).1 4).toNat) = (pa_lwR a n w).1 4
    · rw [if_pos h]
      exact Or.inr ⟨0, by omega, by omega, by rw [ew]; exact h, fun k hk => absurd hk (Nat.not_lt_zero _)⟩
    · rw [if_neg h]
      rcases ll_lwN a n m (w + 1) with ⟨e1, e2⟩ | ⟨j, e1, e2, e3, e4⟩
      · refine Or.inl ⟨e1, fun j hj => ?_⟩
        cases j with
        | zero => rw [ew]; exact h
        | succ j => rw [es]; exact e2 j (by omega)
      · refine Or.inr ⟨j + 1, by omega, by rw [e2]; push_cast; omega, by rw [es]; exact e3, fun k hk => ?_⟩
        cases k with
        | zero => rw [ew]; exact h
        | succ k => rw [es]; exact e4 k (by omega)
theorem ll_stk_all : ∀ n : Fin 9, (0 ≤ pe_shl 1 (n.val : Int) - 1 ∧ pe_shl 1 (n.val : Int) - 1 ≤ 255) ∧ ∀ c : Fin 8, pb_h (pe_shl 1 (n.val : Int) - 1) c.val = decide (c.val < n.val) := by decide +kernel
/-- who is stuck, as bits -/
theorem ll_stk (hw : pa_wf0 s) : (0 ≤ pe_and (pe_shl 1 (s.1 4) - 1) (pe_xor (pa_bits (pa_isEnd s) (s.1 4).toNat) (-1)) ∧ pe_and (pe_shl 1 (s.1 4) - 1) (pe_xor (pa_bits (pa_isEnd s) (s.1 4).toNat) (-1)) ≤ 255) ∧ ∀ c, 0 ≤ c → c < s.1 4 → (pb_h (pe_and (pe_shl 1 (s.1 4) - 1) (pe_xor (pa_bits (pa_isEnd s) (s.1 4).toNat) (-1))) c.toNat = true ↔ (s.2.1 c).1 2 < 6) := by
  have h8 := hw.1
  obtain ⟨q1, q2⟩ := ll_stk_all ⟨(s.1 4).toNat, by omega⟩
  dsimp only at q1 q2
  have e : (((s.1 4).toNat : Nat) : Int) = s.1 4 := by omega
  rw [e] at q1 q2
  refine ⟨pb_and_255 q1.1 q1.2, fun c c0 c1 => ?_⟩
  have q3 := q2 ⟨c.toNat, by omega⟩
  dsimp only at q3
  have q4 := pb_h_bits (pa_isEnd s) (s.1 4).toNat (by omega) c.toNat (by omega)
  rw [pb_h_and, pb_h_xor, q3, q4, pb_h_m1 ⟨c.toNat, by omega⟩, show ((c.toNat : Nat) : Int) = c by omega]
  have e1 : decide (c.toNat < (s.1 4).toNat) = true := decide_eq_true (by omega)
  rw [e1]
  unfold pa_isEnd
  simp
end
