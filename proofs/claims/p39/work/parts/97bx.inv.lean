/-! WHAT STEPS KEEP, one by one: outs don't fall, who is ended stays, nobody joins himself, no channel has both -/
def ll_le (i : Int) (u v : pa_C) : Prop := u.1 5 ≤ v.1 5 ∧ (6 ≤ u.1 2 → v = u) ∧ (1 ≤ u.1 2 → 1 ≤ v.1 2) ∧ ((u.1 2 = 5 → u.1 7 ≠ i) → v.1 2 = 5 → v.1 7 ≠ i)
section
variable {a b : pa_M} {u v w : pa_C} {i c n : Int} {l : List Int}
theorem ll_le_refl (i : Int) (u : pa_C) : ll_le i u u := ⟨Int.le_refl _, fun _ => rfl, fun h => h, fun h => h⟩
theorem ll_le_trans (h : ll_le i u v) (h' : ll_le i v w) : ll_le i u w := by
  obtain ⟨a1, a2, a3, a4⟩ := h
  obtain ⟨b1, b2, b3, b4⟩ := h'
  refine ⟨by omega, fun q => ?_, fun q => b3 (a3 q), fun q => b4 (a4 q)⟩
  have e := a2 q
  rw [b2 (by rw [e]; exact q), e]
/-- one who isn't ended -/
theorem ll_le_low (h6 : u.1 2 < 6) (h5 : u.1 5 ≤ v.1 5) (h1 : 1 ≤ u.1 2 → 1 ≤ v.1 2) (h7 : v.1 2 = 5 → (u.1 2 = 5 ∧ v.1 7 = u.1 7) ∨ v.1 7 ≠ i) : ll_le i u v := by
  refine ⟨h5, fun q => by omega, h1, fun q q5 => ?_⟩
  rcases h7 q5 with ⟨e, e7⟩ | e
  · rw [e7]; exact q e
  · exact e
theorem ll_throw_n (c : pa_C) (φ : List Int) : (pa_throw c φ).1 = c.1 ∨ (pa_throw c φ).1 = pa_s c.1 2 7 := pa_throwF_n _ _ _ _
theorem ll_closeF_n (n : Nat → Int) (e : List Int) : ∀ (fs : List pa_F), (pa_closeF n e fs).1 = n ∨ (pa_closeF n e fs).1 = pa_s n 2 8
  | [] => Or.inr rfl
  | f :: fs => by
    unfold pa_closeF
    split
    · exact Or.inl rfl
    · split
      · exact Or.inl rfl
      · exact ll_closeF_n n e fs
theorem ll_endTop_n (c : pa_C) : (pa_endTop c).1 = c.1 ∨ ∃ z, 6 ≤ z ∧ (pa_endTop c).1 = pa_s c.1 2 z := by
  unfold pa_endTop
  split
  · exact Or.inl rfl
  · split
    · split
      · exact Or.inr ⟨6, by decide, rfl⟩
      · exact Or.inl rfl
    · rcases ll_closeF_n c.1 c.2.1 _ with e | e
      · exact Or.inl e
      · exact Or.inr ⟨8, by decide, e⟩
    · rcases pa_throwF_n c.1 c.2.1 _ _ with e | e
      · exact Or.inl e
      · exact Or.inr ⟨7, by decide, e⟩
/-- one who is at it: what becomes of him has the same numbers but for his state, or is as told -/
theorem ll_le_st {z : Int} (h1 : u.1 2 = 1) (h : v.1 = u.1 ∨ (6 ≤ z ∧ v.1 = pa_s u.1 2 z)) : ll_le i u v := by
  rcases h with e | ⟨hz, e⟩
  · exact ll_le_low (by omega) (by rw [e]; exact Int.le_refl _) (fun _ => by rw [e, h1]; decide) (fun q => by rw [e] at q; omega)
  · exact ll_le_low (by omega) (by rw [e, pa_sn (by decide)]; exact Int.le_refl _) (fun _ => by rw [e, pa_ss]; omega) (fun q => by rw [e, pa_ss] at q; omega)
theorem ll_have_n (c o : pa_C) : (pa_have c o).1 5 = c.1 5 ∧ ((pa_have c o).1 2 = c.1 2 ∨ (pa_have c o).1 2 = 7) ∧ (pa_have c o).1 7 = c.1 7 := by
  have key : ∀ φ, (pa_throw c φ).1 5 = c.1 5 ∧ ((pa_throw c φ).1 2 = c.1 2 ∨ (pa_throw c φ).1 2 = 7) ∧ (pa_throw c φ).1 7 = c.1 7 := fun φ => by
    rcases ll_throw_n c φ with e | e
    · rw [e]; exact ⟨rfl, Or.inl rfl, rfl⟩
    · rw [e, pa_sn (by decide), pa_ss, pa_sn (by decide)]; exact ⟨rfl, Or.inr rfl, rfl⟩
  unfold pa_have
  split
  · refine ⟨?_, Or.inl ?_, ?_⟩ <;> simp [pa_s]
  · split
    · exact key _
    · exact key _
theorem ll_on_n (c : pa_C) : (pa_on c).1 5 = c.1 5 ∧ (pa_on c).1 2 = 1 := ⟨by unfold pa_on; simp [pa_s], pa_on2 c⟩
theorem ll_told_le {m : Nat} (h : pa_told a m i v) : ll_le i (a.2.1 i) v ∧ (v.1 2 = 1 ∨ v.1 2 = 7) ∧ v.1 5 = (a.2.1 i).1 5 := by
  have h5 := pa_told_5 h
  cases m with
  | zero => exact h.elim
  | succ m =>
    obtain ⟨-, o, -, -, rfl⟩ := h
    obtain ⟨q1, q2, q3⟩ := ll_have_n (pa_on (a.2.1 i)) o
    obtain ⟨p1, p2⟩ := ll_on_n (a.2.1 i)
    refine ⟨ll_le_low (by omega) (by rw [q1, p1]; exact Int.le_refl _) (fun _ => by omega) (fun q => by omega), by omega, by rw [q1, p1]⟩
theorem ll_settle_le (a : pa_M) (i : Int) : ll_le i (a.2.1 i) ((pa_settle a).2.1 i) := by
  rcases (pa_settle_mid a).2.2 i with e | ⟨m, e⟩
  · rw [e]; exact ll_le_refl _ _
  · exact (ll_told_le e).1
/-- one changes -/
theorem ll_cw_le (h : ll_le c (a.2.1 c) v) : ∀ i, ll_le i (a.2.1 i) ((pa_cw a c v).2.1 i) := fun i => by
  by_cases e : i = c
  · subst e; rw [pa_cw_same]; exact h
  · rw [pa_cw_ne e]; exact ll_le_refl _ _
theorem ll_yields_le (h1 : u.1 2 = 1) (h5 : u.1 5 ≤ 999) : ll_le i u (pa_yields u n) := by
  unfold pa_yields
  refine ll_le_low (by omega) ?_ (fun _ => ?_) (fun q => ?_)
  · simp [pa_s]
    split <;> omega
  · simp [pa_s]
  · simp [pa_s] at q
theorem ll_wait_le {st : Int} (h1 : u.1 2 = 1) (hs : 3 ≤ st ∧ st ≤ 5) (hw : st = 5 → n ≠ i) : ll_le i u (pa_wait u n st) := by
  unfold pa_wait
  refine ll_le_low (by omega) ?_ (fun _ => ?_) (fun q => Or.inr ?_)
  · simp [pa_s]
  · simp [pa_s]; omega
  · simp [pa_s] at q ⊢
    exact hw q
theorem ll_throw_le {φ : List Int} (h1 : u.1 2 = 1) : ll_le i u (pa_throw u φ) := ll_le_st (z := 7) h1 ((ll_throw_n u φ).elim Or.inl (fun e => Or.inr ⟨by decide, e⟩))
theorem ll_same_le (h1 : u.1 2 = 1) (h : v.1 = u.1) : ll_le i u v := ll_le_st (z := 7) h1 (Or.inl h)
theorem ll_acc_le {z : Int} (h1 : u.1 2 = 1) : ll_le i u (pa_s u.1 3 z, u.2) := ll_le_low (by omega) (by simp [pa_s]) (fun _ => by simp [pa_s]; omega) (fun q => by simp [pa_s] at q; omega)
theorem ll_have_le {o : pa_C} (h1 : u.1 2 = 1) : ll_le i u (pa_have u o) := by
  obtain ⟨q1, q2, q3⟩ := ll_have_n u o
  exact ll_le_low (by omega) (by rw [q1]; exact Int.le_refl _) (fun _ => by omega) (fun q => by omega)
/-- one who waited at a channel goes on -/
theorem ll_on_le {z : Int} (h34 : u.1 2 = 3 ∨ u.1 2 = 4) : ll_le i u (pa_on (pa_s u.1 3 z, u.2)) := by
  refine ll_le_low (by omega) ?_ (fun _ => ?_) (fun q => ?_)
  · rw [(ll_on_n _).1]; simp [pa_s]
  · rw [(ll_on_n _).2]; decide
  · rw [(ll_on_n _).2] at q; omega
theorem ll_live_le {lt : Int} (hwf : pa_wf3 a) (h0 : 0 ≤ c) (h1 : c < a.1 4) (h3 : (a.2.1 c).1 2 = 1) (hn0 : 0 ≤ n) : (∀ i, ll_le i (a.2.1 i) ((pa_live a c lt n (a.2.1 c)).2.1 i)) := by
  unfold pa_live
  split
  · exact ll_cw_le (ll_yields_le h3 (hwf.1.2.2.1 c h0 h1).1.2.2.2.2.1.2)
  · split
    · refine ll_cw_le ?_
      unfold pa_again
      split
      · split
        · exact ll_same_le h3 rfl
        · exact ll_le_refl _ _
      · exact ll_le_refl _ _
    · split
      · refine ll_cw_le ?_
        unfold pa_into
        split
        · exact ll_throw_le h3
        · split
          · exact ll_throw_le h3
          · exact ll_same_le h3 rfl
      · split
        · unfold pa_sendAt
          split
          · exact ll_cw_le (ll_throw_le h3)
          · split
            · rename_i g l hl
              have hg := ((hwf.2.1 1 (by decide) n hn0 (by omega)).2 g).mp (by rw [hl]; exact List.mem_cons_self)
              rw [pa_cw_id]
              exact ll_cw_le (a := a) (ll_on_le (by omega))
            · exact ll_cw_le (a := a) (ll_wait_le h3 (by decide) (fun e => absurd e (by decide)))
        · split
          · unfold pa_getAt
            split
            · exact ll_cw_le (ll_throw_le h3)
            · split
              · rename_i g l hl
                have hg := ((hwf.2.1 0 (by decide) n hn0 (by omega)).2 g).mp (by rw [hl]; exact List.mem_cons_self)
                rw [pa_cw_id]
                intro i
                show ll_le i (a.2.1 i) ((pa_cw (pa_cw a c (pa_s (a.2.1 c).1 3 ((a.2.1 g).1 3), (a.2.1 c).2)) g (pa_on ((pa_cw a c (pa_s (a.2.1 c).1 3 ((a.2.1 g).1 3), (a.2.1 c).2)).2.1 g))).2.1 i)
                have hgc : g ≠ c := fun e => by rw [e] at hg; omega
                rw [pa_cw_ne hgc]
                by_cases ei : i = g
                · subst ei
                  rw [pa_cw_same]
                  have e1 : pa_s (a.2.1 i).1 3 ((a.2.1 i).1 3) = (a.2.1 i).1 := by
                    funext j
                    unfold pa_s
                    split
                    · rename_i e; rw [e]
                    · rfl
                  have := ll_on_le (i := i) (u := a.2.1 i) (z := (a.2.1 i).1 3) (by omega)
                  rw [e1] at this
                  exact this
                · rw [pa_cw_ne ei]
                  exact ll_cw_le (a := a) (ll_acc_le h3) i
              · exact ll_cw_le (a := a) (ll_wait_le h3 (by decide) (fun e => absurd e (by decide)))
          · split
            · refine ll_cw_le ?_
              unfold pa_join
              split
              · exact ll_throw_le h3
              · split
                · exact ll_have_le h3
                · exact ll_wait_le h3 (by decide) (fun _ => by omega)
            · exact ll_cw_le (ll_le_refl _ _)
/-- no channel has both who send and who get -/
def ll_ch (a : pa_M) : Prop := ∀ n, 0 ≤ n → n < 3 → a.2.2.2 0 n = [] ∨ a.2.2.2 1 n = []
def ll_ns (a : pa_M) : Prop := ∀ i, 0 ≤ i → i < a.1 4 → (a.2.1 i).1 2 = 5 → (a.2.1 i).1 7 ≠ i
def ll_I (a : pa_M) : Prop := ll_ns a ∧ ll_ch a
/-- both: what becomes of each, and of the channels -/
def ll_go (a b : pa_M) : Prop := (∀ i, ll_le i (a.2.1 i) (b.2.1 i)) ∧ b.1 4 = a.1 4 ∧ (ll_ch a → ll_ch b)
theorem ll_go.I (h : ll_go a b) (hI : ll_I a) : ll_I b := ⟨fun i i0 i1 => (h.1 i).2.2.2 (hI.1 i i0 (by rw [← h.2.1]; exact i1)), h.2.2 hI.2⟩
theorem ll_go_refl (a : pa_M) : ll_go a a := ⟨fun _ => ll_le_refl _ _, rfl, fun h => h⟩
theorem ll_go_trans {b c : pa_M} (h : ll_go a b) (h' : ll_go b c) : ll_go a c := ⟨fun i => ll_le_trans (h.1 i) (h'.1 i), h'.2.1.trans h.2.1, fun q => h'.2.2 (h.2.2 q)⟩
theorem ll_go_cw (h : ll_le c (a.2.1 c) v) : ll_go a (pa_cw a c v) := ⟨ll_cw_le h, rfl, fun q => q⟩
theorem ll_go_settle (a : pa_M) : ll_go a (pa_settle a) := ⟨ll_settle_le a, rfl, fun q => q⟩
theorem ll_filter_nil {p : Int → Bool} (h : l = []) : l.filter p = [] := by rw [h]; rfl
theorem ll_live_go {lt : Int} (hwf : pa_wf3 a) (h0 : 0 ≤ c) (h1 : c < a.1 4) (h3 : (a.2.1 c).1 2 = 1) (hn0 : 0 ≤ n) : ll_go a (pa_live a c lt n (a.2.1 c)) := by
  refine ⟨ll_live_le hwf h0 h1 h3 hn0, ?_, fun q => ?_⟩
  · unfold pa_live pa_sendAt pa_getAt
    repeat' split
    all_goals rfl
  · unfold pa_live
    split
    · exact q
    · split
      · exact q
      · split
        · exact q
        · split
          · unfold pa_sendAt
            split
            · exact q
            · split
              · rename_i g l hl
                intro m m0 m3
                rcases q m m0 m3 with e | e
                · left
                  show (if (0 : Nat) = 1 ∧ m = n then ((g :: l).filter (fun z => decide (z ≠ g))) else a.2.2.2 0 m) = []
                  rw [if_neg (by omega)]
                  exact e
                · right
                  show (if (1 : Nat) = 1 ∧ m = n then _ else a.2.2.2 1 m) = []
                  by_cases em : m = n
                  · subst em; rw [hl] at e; cases e
                  · rw [if_neg (fun h => em h.2)]; exact e
              · rename_i hl
                intro m m0 m3
                by_cases em : m = n
                · right
                  show (if (1 : Nat) = 0 ∧ m = n then (a.2.2.2 0 n ++ [c]) else a.2.2.2 1 m) = []
                  rw [if_neg (by omega), em]
                  exact hl
                · show (if (0 : Nat) = 0 ∧ m = n then (a.2.2.2 0 n ++ [c]) else a.2.2.2 0 m) = [] ∨ (if (1 : Nat) = 0 ∧ m = n then (a.2.2.2 0 n ++ [c]) else a.2.2.2 1 m) = []
                  rw [if_neg (fun h => em h.2), if_neg (fun h => em h.2)]
                  exact q m m0 m3
          · split
            · unfold pa_getAt
              split
              · exact q
              · split
                · rename_i g l hl
                  intro m m0 m3
                  rcases q m m0 m3 with e | e
                  · left
                    show (if (0 : Nat) = 0 ∧ m = n then _ else a.2.2.2 0 m) = []
                    by_cases em : m = n
                    · subst em; rw [hl] at e; cases e
                    · rw [if_neg (fun h => em h.2)]; exact e
                  · right
                    show (if (1 : Nat) = 0 ∧ m = n then ((g :: l).filter (fun z => decide (z ≠ g))) else a.2.2.2 1 m) = []
                    rw [if_neg (by omega)]
                    exact e
                · rename_i hl
                  intro m m0 m3
                  by_cases em : m = n
                  · left
                    show (if (0 : Nat) = 1 ∧ m = n then (a.2.2.2 1 n ++ [c]) else a.2.2.2 0 m) = []
                    rw [if_neg (by omega), em]
                    exact hl
                  · show (if (0 : Nat) = 1 ∧ m = n then (a.2.2.2 1 n ++ [c]) else a.2.2.2 0 m) = [] ∨ (if (1 : Nat) = 1 ∧ m = n then (a.2.2.2 1 n ++ [c]) else a.2.2.2 1 m) = []
                    rw [if_neg (fun h => em h.2), if_neg (fun h => em h.2)]
                    exact q m m0 m3
            · split
              · exact q
              · exact q
theorem ll_st1_go {cl : Bool} (hwf : pa_wf3 a) (h0 : 0 ≤ c) (h1 : c < a.1 4) (h3 : (a.2.1 c).1 2 = 1) : ll_go a (pa_st1 a c cl) := by
  unfold pa_st1
  split
  · exact ll_go_refl _
  · rename_i f fs hfs
    have hwc := hwf.1.2.2.1 c h0 h1
    split
    · refine ll_go_cw ?_
      rcases ll_endTop_n (a.2.1 c) with e | ⟨z, hz, e⟩
      · exact ll_same_le h3 e
      · exact ll_le_st h3 (Or.inr ⟨hz, e⟩)
    · rename_i hlen
      have hff := pa_wfc_top hwc hfs
      have hmem := pa_at_mem (p := f.2.1) (i := f.1 2) hff.2.1.1 (by omega)
      obtain ⟨hlo, hn0, hn9⟩ := hff.2.2.2.2.1.2.1 _ hmem
      have hc1 := pa_next_wf hwc hfs hlen
      generalize hC' : ((a.2.1 c).1, (a.2.1 c).2.1, ((pa_s f.1 2 (f.1 2 + 1), f.2) :: fs : List pa_F)) = C at *
      have C1 : C.1 = (a.2.1 c).1 := by rw [← hC']
      have C3 : C.1 2 = 1 := by rw [C1]; exact h3
      have hw3 : pa_wf3 (pa_cw a c C) := pa_wf3_cw hwf (by omega) hc1 (by omega) (fun e => by omega)
      have g1 : ll_go a (pa_cw a c C) := ll_go_cw (ll_same_le h3 C1)
      have sm : ∀ {v : pa_C}, ll_le c C v → ll_go a (pa_cw a c v) := fun h => ll_go_cw (ll_le_trans (ll_same_le h3 C1) h)
      unfold pa_do
      split
      · exact sm (ll_acc_le C3)
      · split
        · exact sm (ll_acc_le C3)
        · split
          · split
            · refine sm ?_
              unfold pa_top
              split
              · exact ll_same_le C3 rfl
              · exact ll_le_refl _ _
            · exact g1
          · split
            · refine sm ?_
              unfold pa_top
              split
              · exact ll_same_le C3 rfl
              · exact ll_le_refl _ _
            · split
              · exact sm (ll_throw_le C3)
              · split
                · exact g1
                · have g2 := ll_live_go (a := pa_cw a c C) (c := c) (lt := (pa_at f.2.1 (f.1 2)).1) (n := (pa_at f.2.1 (f.1 2)).2) hw3 h0 h1 (by rw [pa_cw_same]; exact C3) hn0
                  rw [pa_cw_same, pa_live_cw] at g2
                  exact ll_go_trans g1 g2
theorem ll_step_go {cl : Bool} (hwf : pa_wf a) (h0 : 0 ≤ c) (h1 : c < a.1 4) (h3 : (a.2.1 c).1 2 = 1) : ll_go a (pa_step a c cl) := by
  have g1 := ll_st1_go (cl := cl) hwf.w3 h0 h1 h3
  unfold pa_step
  split
  · exact ll_go_trans g1 (ll_go_settle _)
  · exact g1
theorem ll_take_le {z : Int} (h2 : u.1 2 ≤ 2) : ll_le i u (pa_take u z) := by
  refine ll_le_low (by omega) ?_ (fun _ => by rw [pa_take2]; decide) (fun q => by rw [pa_take2] at q; omega)
  unfold pa_take
  split
  · simp [pa_s]
  · simp [pa_s]
theorem ll_loop_go : ∀ (m : Nat) (s : pa_M), pa_wf s → 0 ≤ c → c < s.1 4 → ll_go s (pa_loop m s c)
  | 0, s, _, _, _ => ll_go_refl _
  | m + 1, s, h, h0, h1 => by
    unfold pa_loop
    split
    · rename_i h3
      have g1 := ll_step_go (cl := false) h h0 h1 h3
      have hw := pa_step_wf (cl := false) h ⟨h0, h1⟩ (by omega)
      exact ll_go_trans g1 (ll_loop_go m _ hw h0 (by rw [g1.2.1]; exact h1))
    · exact ll_go_refl _
theorem ll_send_go {v : Int} (hwf : pa_wf a) (h0 : 0 ≤ c) (h1 : c < a.1 4) (h2 : (a.2.1 c).1 2 ≤ 2) (hv : 0 ≤ v ∧ v ≤ 999) : ll_go a (pa_send a c v) := by
  unfold pa_send
  exact ll_go_trans (ll_go_cw (ll_take_le h2)) (ll_loop_go 40 _ (pa_take_wf3 hwf h0 h1 h2 hv) h0 h1)
theorem ll_cl_go : ∀ (m : Nat) (s : pa_M), pa_wf s → 0 ≤ c → c < s.1 4 → ((s.2.1 c).1 2 = 1 ∨ 6 ≤ (s.2.1 c).1 2) → ll_go s (pa_cl m s c)
  | 0, s, _, _, _, _ => ll_go_refl _
  | m + 1, s, h, h0, h1, h16 => by
    unfold pa_cl
    split
    · exact ll_go_refl _
    · have h3 : (s.2.1 c).1 2 = 1 := by omega
      have g1 := ll_step_go (cl := true) h h0 h1 h3
      have hw := pa_step_wf (cl := true) h ⟨h0, h1⟩ (by omega)
      exact ll_go_trans g1 (ll_cl_go m _ hw h0 (by rw [g1.2.1]; exact h1) (pa_step_cl h ⟨h0, h1⟩ h3))
theorem ll_lv_go : ll_go a (pa_lv a c) := ⟨fun _ => ll_le_refl _ _, rfl, fun q n n0 n3 => (q n n0 n3).elim (fun e => Or.inl (ll_filter_nil e)) (fun e => Or.inr (ll_filter_nil e))⟩
theorem ll_close_n (c : pa_C) : (pa_close c).1 = c.1 ∨ (pa_close c).1 = pa_s c.1 2 8 := ll_closeF_n _ _ _
theorem ll_shut1_go (h6 : (a.2.1 c).1 2 < 6) : ll_go a (pa_shut1 a c) := by
  refine ll_go_trans (b := pa_lv a c) ll_lv_go (ll_go_cw ?_)
  show ll_le c (a.2.1 c) (pa_close (pa_on (a.2.1 c)))
  obtain ⟨p1, p2⟩ := ll_on_n (a.2.1 c)
  refine ll_le_trans (v := pa_on (a.2.1 c)) (ll_le_low h6 (by rw [p1]; exact Int.le_refl _) (fun _ => by omega) (fun q => by omega)) ?_
  rcases ll_close_n (pa_on (a.2.1 c)) with e | e
  · exact ll_same_le p2 e
  · exact ll_le_st (z := 8) p2 (Or.inr ⟨by decide, e⟩)
theorem ll_shut_go (hwf : pa_wf a) (h0 : 0 ≤ c) (h1 : c < a.1 4) (h6 : (a.2.1 c).1 2 < 6) : ll_go a (pa_shut a c) := by
  obtain ⟨u1, u2, u3, u4⟩ := pa_shut2_wf hwf h0 h1 h6
  have g1 := ll_shut1_go h6
  have g2 : ll_go a (pa_shut2 a c) := by
    unfold pa_shut2
    split
    · exact ll_go_trans g1 (ll_go_settle _)
    · exact g1
  unfold pa_shut
  exact ll_go_trans g2 (ll_cl_go 1000 _ u1 h0 (by rw [u2]; exact h1) u4)
theorem ll_a6_le {z : Int} (h6 : u.1 2 < 6) : ll_le i u (pa_s u.1 6 z, u.2) := by
  have e2 : pa_s u.1 6 z 2 = u.1 2 := pa_sn (by decide)
  have e5 : pa_s u.1 6 z 5 = u.1 5 := pa_sn (by decide)
  have e7 : pa_s u.1 6 z 7 = u.1 7 := pa_sn (by decide)
  refine ll_le_low h6 ?_ (fun q => ?_) (fun q => Or.inl ⟨?_, e7⟩)
  · show u.1 5 ≤ pa_s u.1 6 z 5
    rw [e5]
    exact Int.le_refl _
  · show 1 ≤ pa_s u.1 6 z 2
    rw [e2]
    exact q
  · have q : pa_s u.1 6 z 2 = 5 := q
    rw [e2] at q
    exact q
theorem ll_day_go : ll_go a (pa_day a) := ⟨fun _ => ll_le_refl _ _, (pa_day4 a).1, fun q => q⟩
theorem ll_goes_go : ∀ (l : List Int) (s : pa_M), pa_wf s → l.Nodup → (∀ c ∈ l, (0 ≤ c ∧ c < s.1 4) ∧ (s.2.1 c).1 2 ≤ 2) → ll_go s (l.foldl pa_go s)
  | [], s, _, _, _ => ll_go_refl _
  | c :: l, s, h, hn, hc => by
    have hcc := hc c List.mem_cons_self
    obtain ⟨w1, w2, w3, w4⟩ := pa_go_wf h hcc.1.1 hcc.1.2 hcc.2
    have hr := pa_ready_wf h hcc.1.1 hcc.1.2 hcc.2
    have g1 : ll_go s (pa_go s c) := by
      unfold pa_go
      refine ll_go_trans (ll_go_cw ?_) (ll_step_go (cl := false) hr hcc.1.1 hcc.1.2 (by rw [pa_cw_same, pa_take2]))
      refine ll_le_trans (v := pa_young (s.2.1 c)) (ll_a6_le (by omega)) (ll_take_le ?_)
      show pa_s (s.2.1 c).1 6 0 2 ≤ 2
      rw [pa_sn (by decide)]
      exact hcc.2
    have hnd := List.nodup_cons.mp hn
    refine ll_go_trans g1 (ll_goes_go l _ w1 hnd.2 (fun z hz => ?_))
    have hz' := hc z (List.mem_cons_of_mem _ hz)
    have hne : z ≠ c := fun e => hnd.1 (by rw [← e]; exact hz)
    rw [w2]
    exact ⟨hz'.1, by rw [w4 z hne hz'.2]; exact hz'.2⟩
theorem ll_round_go (h : pa_wf a) : ll_go a (pa_round a) := by
  have h8 := h.1.1
  obtain ⟨p1, p2⟩ := pa_line_go h8.1 (a.1 5).toNat
  have g1 := ll_go_trans (ll_day_go (a := a)) (ll_goes_go _ _ (pa_day_wf h) p1 p2)
  obtain ⟨w1, w2, w3, w4⟩ := pa_goes_wf _ _ (pa_day_wf h) p1 p2
  refine ll_go_trans g1 ⟨fun i => ?_, rfl, fun q => q⟩
  unfold pa_round
  generalize hs : ((pa_line a).take (a.1 5).toNat).foldl pa_go (pa_day a) = s at *
  show ll_le i (s.2.1 i) (if i ∈ (pa_line a).drop (a.1 5).toNat then pa_old (s.2.1 i) else s.2.1 i)
  by_cases e : i ∈ (pa_line a).drop (a.1 5).toNat
  · rw [if_pos e]
    have hm := (pa_line_mem h8.1 i).mp (List.mem_of_mem_drop e)
    have hnd := (pa_lineN_ok a (a.1 4).toNat).1
    have hnot : i ∉ (pa_line a).take (a.1 5).toNat := fun q => by
      have : (pa_line a).Nodup := hnd
      rw [← List.take_append_drop (a.1 5).toNat (pa_line a)] at this
      exact (List.nodup_append.mp this).2.2 i q i e rfl
    have hsi := w4 i hnot hm.2
    exact ll_a6_le (by rw [hsi]; show (a.2.1 i).1 2 < 6; omega)
  · rw [if_neg e]; exact ll_le_refl _ _
theorem ll_rounds_go : ∀ (m : Nat) (s : pa_M), pa_wf s → ll_go s (pa_rounds m s)
  | 0, s, _ => ll_go_refl _
  | m + 1, s, h => ll_go_trans (ll_round_go h) (ll_rounds_go m _ (pa_round_wf h).1)
end
