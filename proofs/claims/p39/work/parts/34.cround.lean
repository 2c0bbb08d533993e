/-! ROUNDS: the line, who goes, who waits -/
theorem pa_ins_split (rk : Int → Int) (c : Int) : ∀ (L1 L2 : List Int), (∀ h ∈ L1, ¬ rk h < rk c) → (∀ h ∈ L2, rk h < rk c) → pa_ins rk c (L1 ++ L2) = L1 ++ c :: L2
  | [], [], _, _ => rfl
  | [], h :: t, _, h2 => by
    show pa_ins rk c (h :: t) = _
    unfold pa_ins
    rw [if_pos (h2 h List.mem_cons_self)]
    rfl
  | h :: t, L2, h1, h2 => by
    show pa_ins rk c (h :: (t ++ L2)) = _
    unfold pa_ins
    rw [if_neg (h1 h List.mem_cons_self), pa_ins_split rk c t L2 (fun x hx => h1 x (List.mem_cons_of_mem _ hx)) h2]
    rfl
theorem pa_ins_mem (rk : Int → Int) (c : Int) : ∀ (L : List Int) (z : Int), z ∈ pa_ins rk c L ↔ z = c ∨ z ∈ L
  | [], z => by simp [pa_ins]
  | h :: t, z => by
    unfold pa_ins
    split
    · simp
    · rw [List.mem_cons, pa_ins_mem rk c t z, List.mem_cons]
      constructor
      · rintro (q | q | q)
        · exact Or.inr (Or.inl q)
        · exact Or.inl q
        · exact Or.inr (Or.inr q)
      · rintro (q | q | q)
        · exact Or.inr (Or.inl q)
        · exact Or.inl q
        · exact Or.inr (Or.inr q)
theorem pa_ins_len (rk : Int → Int) (c : Int) : ∀ (L : List Int), (pa_ins rk c L).length = L.length + 1
  | [] => rfl
  | h :: t => by
    unfold pa_ins
    split
    · rfl
    · rw [List.length_cons, pa_ins_len rk c t, List.length_cons]
theorem pa_ins_nodup (rk : Int → Int) (c : Int) : ∀ (L : List Int), c ∉ L → L.Nodup → (pa_ins rk c L).Nodup
  | [], _, _ => by simp [pa_ins]
  | h :: t, hc, hn => by
    unfold pa_ins
    split
    · exact List.nodup_cons.mpr ⟨hc, hn⟩
    · have hn2 := List.nodup_cons.mp hn
      refine List.nodup_cons.mpr ⟨fun q => ?_, pa_ins_nodup rk c t (fun q => hc (List.mem_cons_of_mem _ q)) hn2.2⟩
      rcases (pa_ins_mem rk c t h).mp q with e | e
      · exact hc (by rw [← e]; exact List.mem_cons_self)
      · exact hn2.1 e
theorem pa_ins_sort (rk : Int → Int) (c : Int) : ∀ (L : List Int), L.Pairwise (fun x y => rk y ≤ rk x) → (pa_ins rk c L).Pairwise (fun x y => rk y ≤ rk x)
  | [], _ => by simp [pa_ins]
  | h :: t, hp => by
    have hp2 := List.pairwise_cons.mp hp
    unfold pa_ins
    split
    · refine List.pairwise_cons.mpr ⟨fun z hz => ?_, hp⟩
      rcases List.mem_cons.mp hz with e | e
      · subst e; omega
      · have := hp2.1 z e; omega
    · refine List.pairwise_cons.mpr ⟨fun z hz => ?_, pa_ins_sort rk c t hp2.2⟩
      rcases (pa_ins_mem rk c t z).mp hz with e | e
      · subst e; omega
      · exact hp2.1 z e
theorem pa_lineN_mem (a : pa_M) : ∀ (n : Nat) (z : Int), z ∈ pa_lineN a n ↔ (0 ≤ z ∧ z < n) ∧ (a.2.1 z).1 2 ≤ 2
  | 0, z => by
    unfold pa_lineN
    constructor
    · intro q; cases q
    · rintro ⟨q, -⟩; omega
  | n + 1, z => by
    unfold pa_lineN
    split
    · rename_i q
      rw [pa_ins_mem, pa_lineN_mem a n z]
      constructor
      · rintro (e | ⟨e, e2⟩)
        · subst e; exact ⟨by omega, q⟩
        · exact ⟨by omega, e2⟩
      · rintro ⟨e, e2⟩
        by_cases h : z = n
        · exact Or.inl h
        · exact Or.inr ⟨by omega, e2⟩
    · rename_i q
      rw [pa_lineN_mem a n z]
      constructor
      · rintro ⟨e, e2⟩; exact ⟨by omega, e2⟩
      · rintro ⟨e, e2⟩
        have : z ≠ n := fun h => by subst h; exact q e2
        exact ⟨by omega, e2⟩
theorem pa_lineN_ok (a : pa_M) : ∀ n : Nat, (pa_lineN a n).Nodup ∧ (pa_lineN a n).Pairwise (fun x y => pa_rk a y ≤ pa_rk a x) ∧ (pa_lineN a n).length ≤ n
  | 0 => ⟨List.nodup_nil, List.Pairwise.nil, Nat.le_refl _⟩
  | n + 1 => by
    obtain ⟨h1, h2, h3⟩ := pa_lineN_ok a n
    unfold pa_lineN
    split
    · refine ⟨pa_ins_nodup _ _ _ (fun q => ?_) h1, pa_ins_sort _ _ _ h2, by rw [pa_ins_len]; omega⟩
      have := ((pa_lineN_mem a n n).mp q).1
      omega
    · exact ⟨h1, h2, by omega⟩
theorem pa_line_mem {a : pa_M} (h : 0 ≤ a.1 4) (z : Int) : z ∈ pa_line a ↔ (0 ≤ z ∧ z < a.1 4) ∧ (a.2.1 z).1 2 ≤ 2 := by
  unfold pa_line
  rw [pa_lineN_mem]
  have : ((a.1 4).toNat : Int) = a.1 4 := by omega
  rw [this]
noncomputable def pa_gy (p : pa_M × Int) (c : Int) : pa_M × Int := (pa_go p.1 c, if ((pa_st1 (pa_cw p.1 c (pa_take (pa_young (p.1.2.1 c)) 0)) c false).2.1 c).1 2 = 2 then pe_or p.2 (pe_shl 1 c) else p.2)
/-- bits of those who yield in a round, besides y -/
noncomputable def pa_ry (a : pa_M) (y : Int) : Int := (((pa_line a).take (a.1 5).toNat).foldl pa_gy (pa_day a, y)).2
theorem pa_gy_1 : ∀ (l : List Int) (s : pa_M) (y : Int), (l.foldl pa_gy (s, y)).1 = l.foldl pa_go s
  | [], _, _ => rfl
  | c :: l, s, y => by
    rw [List.foldl_cons, List.foldl_cons]
    exact pa_gy_1 l _ _
theorem pa_olds_fold : ∀ (l : List Int) (s : pa_M), l.Nodup → l.foldl (fun s c => pa_cw s c (pa_old (s.2.1 c))) s = pa_olds s l
  | [], s, _ => by
    unfold pa_olds
    refine Prod.ext rfl (Prod.ext ?_ rfl)
    funext i
    simp
  | c :: l, s, h => by
    have h2 := List.nodup_cons.mp h
    rw [List.foldl_cons, pa_olds_fold l _ h2.2]
    unfold pa_olds
    refine Prod.ext rfl (Prod.ext ?_ rfl)
    funext i
    show (if i ∈ l then pa_old ((pa_cw s c (pa_old (s.2.1 c))).2.1 i) else (pa_cw s c (pa_old (s.2.1 c))).2.1 i) = (if i ∈ c :: l then pa_old (s.2.1 i) else s.2.1 i)
    by_cases e : i = c
    · subst e
      rw [if_neg h2.1, pa_cw_same, if_pos List.mem_cons_self]
    · rw [pa_cw_ne e]
      by_cases e2 : i ∈ l
      · rw [if_pos e2, if_pos (List.mem_cons_of_mem _ e2)]
      · rw [if_neg e2, if_neg (fun q => by rcases List.mem_cons.mp q with q | q; exact e q; exact e2 q)]
theorem pa_young_wf {a : pa_M} {c : Int} (hwf : pa_wf a) (h0 : 0 ≤ c) (h1 : c < a.1 4) (h2 : (a.2.1 c).1 2 ≤ 2) : pa_wf (pa_cw a c (pa_young (a.2.1 c))) ∧ (pa_young (a.2.1 c)).1 2 = (a.2.1 c).1 2 := by
  have hc := hwf.1.2.2.1 c h0 h1
  have e : (pa_young (a.2.1 c)).1 2 = (a.2.1 c).1 2 := by simp [pa_young, pa_s]
  have hy : pa_wfc (pa_young (a.2.1 c)) := by
    refine pa_wfc_n hc ?_ (by omega) (by simp [pa_s]; omega)
    obtain ⟨a0, a2, a3, a4, a5, a6, a20, a21, a7⟩ := hc.1
    refine ⟨?_, ?_, ?_, ?_, ?_, ?_, ?_, ?_, ?_⟩ <;> simp [pa_s] <;> first | assumption | omega
  exact ⟨(pa_wf3_cw hwf.w3 (by omega) hy (by omega) (fun q => by omega)).wf (pa_max_cw hwf.2.2.2 (by omega) (fun q => by omega)), e⟩
theorem pa_ready_wf {a : pa_M} {c : Int} (hwf : pa_wf a) (h0 : 0 ≤ c) (h1 : c < a.1 4) (h2 : (a.2.1 c).1 2 ≤ 2) : pa_wf (pa_cw a c (pa_take (pa_young (a.2.1 c)) 0)) := by
  obtain ⟨g1, g2⟩ := pa_young_wf hwf h0 h1 h2
  have := pa_take_wf3 (v := 0) g1 h0 h1 (by rw [pa_cw_same]; omega) (by decide)
  rw [pa_cw_same, pa_cw_cw] at this
  exact this
theorem pa_go_wf {a : pa_M} {c : Int} (hwf : pa_wf a) (h0 : 0 ≤ c) (h1 : c < a.1 4) (h2 : (a.2.1 c).1 2 ≤ 2) : pa_wf (pa_go a c) ∧ (pa_go a c).1 = a.1 ∧ (pa_go a c).2.2.1 = a.2.2.1 ∧ ∀ i, i ≠ c → (a.2.1 i).1 2 ≤ 2 → (pa_go a c).2.1 i = a.2.1 i := by
  have hw := pa_ready_wf hwf h0 h1 h2
  have e1 : ((pa_cw a c (pa_take (pa_young (a.2.1 c)) 0)).2.1 c).1 2 < 3 := by rw [pa_cw_same, pa_take2]; decide
  unfold pa_go
  refine ⟨pa_step_wf hw ⟨h0, h1⟩ e1, (pa_step_1 hw ⟨h0, h1⟩ e1).1, (pa_step_1 hw ⟨h0, h1⟩ e1).2, fun i hi hi2 => ?_⟩
  have e2 : (pa_cw a c (pa_take (pa_young (a.2.1 c)) 0)).2.1 i = a.2.1 i := pa_cw_ne hi
  rw [pa_step_else hw ⟨h0, h1⟩ e1 hi (by rw [e2]; exact hi2), e2]
/-- all of a line, one behind the other -/
theorem pa_goes_wf : ∀ (l : List Int) (a : pa_M), pa_wf a → l.Nodup → (∀ c ∈ l, (0 ≤ c ∧ c < a.1 4) ∧ (a.2.1 c).1 2 ≤ 2) → pa_wf (l.foldl pa_go a) ∧ (l.foldl pa_go a).1 = a.1 ∧ (l.foldl pa_go a).2.2.1 = a.2.2.1 ∧ ∀ i, i ∉ l → (a.2.1 i).1 2 ≤ 2 → (l.foldl pa_go a).2.1 i = a.2.1 i
  | [], a, hwf, _, _ => ⟨hwf, rfl, rfl, fun _ _ _ => rfl⟩
  | c :: l, a, hwf, hn, h => by
    obtain ⟨⟨h0, h1⟩, h2⟩ := h c List.mem_cons_self
    have hn2 := List.nodup_cons.mp hn
    obtain ⟨g1, g2, g3, g4⟩ := pa_go_wf hwf h0 h1 h2
    rw [List.foldl_cons]
    have ih := pa_goes_wf l (pa_go a c) g1 hn2.2 (fun i hi => by
      obtain ⟨q1, q2⟩ := h i (List.mem_cons_of_mem _ hi)
      have hic : i ≠ c := fun e => hn2.1 (by rw [← e]; exact hi)
      rw [g4 i hic q2, g2]
      exact ⟨q1, q2⟩)
    refine ⟨ih.1, ih.2.1.trans g2, ih.2.2.1.trans g3, fun i hi hi2 => ?_⟩
    have hic : i ≠ c := fun e => hi (by rw [e]; exact List.mem_cons_self)
    have e := g4 i hic hi2
    rw [ih.2.2.2 i (fun q => hi (List.mem_cons_of_mem _ q)) (by rw [e]; exact hi2), e]
theorem pa_day_wf {a : pa_M} (h : pa_wf a) : pa_wf (pa_day a) := by
  have e : ∀ k, k ≠ 6 → (pa_day a).1 k = a.1 k := fun k hk => pa_sn hk
  obtain ⟨⟨b1, b2, b3, b4⟩, b5, b6, b7⟩ := h
  have e4 := e 4 (by decide)
  have e5 := e 5 (by decide)
  refine ⟨⟨by rw [e4]; exact b1, by rw [e5]; exact b2, fun c h0 h1 => b3 c h0 (by rw [e4] at h1; exact h1), b4⟩, fun w hw ch h0 h3 => ?_, fun c h0 h1 => ?_, fun c h0 h1 => b7 c h0 (by rw [e4] at h1; exact h1)⟩
  · rw [e4]; exact b5 w hw ch h0 h3
  · rw [e4] at h1 ⊢; exact b6 c h0 h1
theorem pa_old2 (c : pa_C) : (pa_old c).1 2 = c.1 2 ∧ (pa_old c).1 7 = c.1 7 := by
  constructor <;> simp [pa_old, pa_s]
theorem pa_old_wf {c : pa_C} (h : pa_wfc c) : pa_wfc (pa_old c) := by
  obtain ⟨⟨a0, a2, a3, a4, a5, a6, a20, a21, a7⟩, b, d, e, g⟩ := h
  refine ⟨⟨?_, ?_, ?_, ?_, ?_, ?_, ?_, ?_, ?_⟩, b, d, ?_, ?_⟩ <;> simp [pa_old, pa_s] <;> first | assumption | omega | (split <;> omega)
theorem pa_olds_wf {a : pa_M} {l : List Int} (h : pa_wf a) : pa_wf (pa_olds a l) := by
  have e : ∀ i, ((pa_olds a l).2.1 i).1 2 = (a.2.1 i).1 2 ∧ ((pa_olds a l).2.1 i).1 7 = (a.2.1 i).1 7 := fun i => by
    show ((if i ∈ l then pa_old (a.2.1 i) else a.2.1 i)).1 2 = _ ∧ ((if i ∈ l then pa_old (a.2.1 i) else a.2.1 i)).1 7 = _
    split
    · exact pa_old2 _
    · exact ⟨rfl, rfl⟩
  obtain ⟨⟨b1, b2, b3, b4⟩, b5, b6, b7⟩ := h
  refine ⟨⟨b1, b2, fun c h0 h1 => ?_, b4⟩, fun w hw ch h0 h3 => ?_, fun c h0 h1 => ?_, fun c h0 h1 h5 => ?_⟩
  · show pa_wfc (if c ∈ l then pa_old (a.2.1 c) else a.2.1 c)
    split
    · exact pa_old_wf (b3 c h0 h1)
    · exact b3 c h0 h1
  · obtain ⟨q1, q2⟩ := b5 w hw ch h0 h3
    refine ⟨q1, fun c => ?_⟩
    rw [(e c).1, (e c).2]
    exact q2 c
  · rw [(e c).1, (e c).2]; exact b6 c h0 h1
  · rw [(e c).1] at h5
    rw [(e c).2, (e _).1]; exact b7 c h0 h1 h5
theorem pa_line_go {a : pa_M} (h : 0 ≤ a.1 4) (m : Nat) : ((pa_line a).take m).Nodup ∧ (∀ c ∈ (pa_line a).take m, (0 ≤ c ∧ c < (pa_day a).1 4) ∧ ((pa_day a).2.1 c).1 2 ≤ 2) := by
  refine ⟨(pa_lineN_ok a _).1.sublist (List.take_sublist _ _), fun c hc => ?_⟩
  have e : (pa_day a).1 4 = a.1 4 := by simp [pa_day, pa_s]
  rw [e]
  exact (pa_line_mem h c).mp (List.mem_of_mem_take hc)
theorem pa_round_wf {a : pa_M} (h : pa_wf a) : pa_wf (pa_round a) ∧ (pa_round a).1 = (pa_day a).1 ∧ (pa_round a).2.2.1 = a.2.2.1 := by
  obtain ⟨q1, q2⟩ := pa_line_go h.1.1.1 (a.1 5).toNat
  obtain ⟨g1, g2, g3, g4⟩ := pa_goes_wf _ _ (pa_day_wf h) q1 q2
  exact ⟨pa_olds_wf g1, g2, g3⟩

