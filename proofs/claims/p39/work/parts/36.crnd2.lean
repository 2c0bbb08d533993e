/-! THE CLASS: makeRound, makeRounds, loseRound -/
theorem pa_lineN_eq {a b : pa_M} (h : b.2.1 = a.2.1) : ∀ n, pa_lineN b n = pa_lineN a n
  | 0 => rfl
  | n + 1 => by
    have hr : pa_rk b = pa_rk a := by unfold pa_rk; rw [h]
    unfold pa_lineN
    rw [h, hr, pa_lineN_eq h n]
theorem pa_line_eq {a b : pa_M} (h : b.2.1 = a.2.1) (h4 : b.1 4 = a.1 4) : pa_line b = pa_line a := by
  unfold pa_line
  rw [h4, pa_lineN_eq h]
theorem pa_day4 (a : pa_M) : (pa_day a).1 4 = a.1 4 ∧ (pa_day a).1 5 = a.1 5 := by constructor <;> simp [pa_day, pa_s]
theorem pa_line_day (a : pa_M) : pa_line (pa_day a) = pa_line a := pa_line_eq rfl (pa_day4 a).1
theorem pa_olds_mem {a : pa_M} {l l' : List Int} (h : ∀ i, i ∈ l ↔ i ∈ l') : pa_olds a l = pa_olds a l' := by
  unfold pa_olds
  refine Prod.ext rfl (Prod.ext ?_ rfl)
  funext i
  show (if i ∈ l then _ else _) = (if i ∈ l' then _ else _)
  by_cases e : i ∈ l
  · rw [if_pos e, if_pos ((h i).mp e)]
  · rw [if_neg e, if_neg (fun q => e ((h i).mpr q))]
theorem pa_olds_cons {a : pa_M} {c : Int} {l : List Int} (h : c ∉ l) : pa_cw (pa_olds a l) c (pa_old ((pa_olds a l).2.1 c)) = pa_olds a (c :: l) := by
  unfold pa_olds
  refine Prod.ext rfl (Prod.ext ?_ rfl)
  funext i
  show (if i = c then pa_old (if c ∈ l then pa_old (a.2.1 c) else a.2.1 c) else if i ∈ l then pa_old (a.2.1 i) else a.2.1 i) = (if i ∈ c :: l then pa_old (a.2.1 i) else a.2.1 i)
  by_cases e : i = c
  · subst e; rw [if_pos rfl, if_neg h, if_pos List.mem_cons_self]
  · rw [if_neg e]
    by_cases e2 : i ∈ l
    · rw [if_pos e2, if_pos (List.mem_cons_of_mem _ e2)]
    · rw [if_neg e2, if_neg (fun q => by rcases List.mem_cons.mp q with q | q; exact e q; exact e2 q)]
theorem pa_olds_2 {a : pa_M} {l : List Int} (c : Int) : ((pa_olds a l).2.1 c).1 2 = (a.2.1 c).1 2 := by
  show ((if c ∈ l then pa_old (a.2.1 c) else a.2.1 c)).1 2 = _
  split
  · exact (pa_old2 _).1
  · rfl
/-- nobody can go: nothing but the round changes -/
theorem pa_round_none {a : pa_M} (h : pa_line a = []) : (pa_round a).2 = a.2 ∧ (pa_round a).1 = (pa_day a).1 := by
  unfold pa_round
  rw [h]
  simp only [List.take_nil, List.drop_nil, List.foldl_nil]
  refine ⟨?_, rfl⟩
  unfold pa_olds
  refine Prod.ext ?_ rfl
  funext i
  simp [pa_day]
theorem pa_rounds_none : ∀ (m : Nat) (a : pa_M), pa_line a = [] → (pa_rounds m a).2 = a.2 ∧ ∀ j, j ≠ 6 → (pa_rounds m a).1 j = a.1 j
  | 0, _, _ => ⟨rfl, fun _ _ => rfl⟩
  | m + 1, a, h => by
    obtain ⟨e1, e2⟩ := pa_round_none h
    have e4 : ∀ j, j ≠ 6 → (pa_round a).1 j = a.1 j := fun j hj => by rw [e2]; exact pa_sn hj
    have := pa_rounds_none m (pa_round a) (by rw [pa_line_eq (by rw [e1]) (e4 4 (by decide))]; exact h)
    unfold pa_rounds
    exact ⟨this.1.trans e1, fun j hj => (this.2 j hj).trans (e4 j hj)⟩
section
variable {d B : Nat} {Φ : Option pe_V → pe_H → Prop} {T : Nat → Prop} {σ σ' : pe_H} {c : Int} {a : pa_M}
theorem pk_Zl_not {x : Nat} (h : pk_Zs B x) : x ≠ B + 5 ∧ x ≠ B + 6 := by unfold pk_Zs at h; omega
theorem k6M (hM : pk_RM B T σ a) (hwf : pa_wf0 a) (h0 : 0 ≤ c) (h1 : c < a.1 4) (k : ∀ σ2, pk_frI (pk_Zs B) σ σ2 → pe_I σ2 B 7 = pe_I σ B 7 → pk_RM B T σ2 (pa_cw a c (pa_old (a.2.1 c))) → Φ none σ2) : pe_M (d + 1) 6 [.inr (.inr (pk_c B c))] σ Φ := by
  obtain ⟨w, n, hR, hn⟩ := hM
  exact k6 hR hwf.w9 h0 h1 (hwf.2.2.1 c h0 h1).1.2.2.2.2.2.1 (fun σ2 g1 g2 => k σ2 (pk_frI_mono g1 (pk_Zc_Zs h0 (by have := hwf.1; omega))) (g1.1.2 B pk_B_Zc 7).1 (pk_RM_cw hn h0 h1 (Int.le_refl _) g2))
theorem pk_day (hM : pk_RM B T σ a) (hw9 : pa_wf9 a) : pk_RM B T (pe_wI σ B 6 (pe_I σ B 6 + 1)) (pa_day a) := by
  have h6 := hM.cnt.2.2
  have := pk_RM_B (j := 6) (v := pe_I σ B 6 + 1) (Or.inr rfl) hM hw9
  rw [h6] at this ⊢
  exact this
theorem k28_go {L : List Int} {g : Int} : ∀ (l2 l1 R : List Int) (σ1 : pe_H) (s : pa_M) (y : Int) (o4 : Option pe_V), L = l1 ++ (l2 ++ R) → g = l1.length + l2.length → L.length ≤ 8 → pk_RM B T σ1 s → pa_wf s → l2.Nodup → (∀ c ∈ l2, (0 ≤ c ∧ c < s.1 4) ∧ (s.2.1 c).1 2 ≤ 2) → (∀ j : Nat, j < L.length → pe_I σ1 (B + 5) j = L.getD j 0) → pe_I σ1 B 7 = y →
    (∀ σ2 o4, pk_fr (pk_Zs B) σ1 σ2 → pe_I σ2 B 7 = (l2.foldl pa_gy (s, y)).2 → pk_RM B T σ2 (l2.foldl pa_go s) → pe_X (d + 12) 28 (73, [some (.inr (.inr B)), some (.inl (L.length : Int)), some (.inl g), some (.inl g), o4], [], σ2) Φ) →
    pe_X (d + 12) 28 (26, [some (.inr (.inr B)), some (.inl (L.length : Int)), some (.inl g), some (.inl (l1.length : Int)), o4], [], σ1) Φ
  | [], l1, R, σ1, s, y, o4, hL, hg, hl, hM, hwf, hn, hc, hline, hy, k => by
    have hF := hM.F
    rw [List.length_nil] at hg
    have hl1 : l1.length ≤ L.length := by rw [hL]; simp
    have e : (l1.length : Int) = g := by omega
    refine b28_26 (k1 := fun _ => ?_) (k2 := fun q => by omega)
    have := k σ1 o4 (pk_fr_refl _ _) hy hM
    rw [e]
    exact this
  | c :: l2, l1, R, σ1, s, y, o4, hL, hg, hl, hM, hwf, hn, hc, hline, hy, k => by
    have hF := hM.F
    have h8 := hwf.1.1
    rw [List.length_cons] at hg
    have hl1 : l1.length + (l2.length + 1) ≤ L.length := by rw [hL]; simp <;> omega
    obtain ⟨⟨h0, h1⟩, h2⟩ := hc c List.mem_cons_self
    have hn2 := List.nodup_cons.mp hn
    have ec : pe_I σ1 (B + 5) (l1.length : Int) = c := by
      rw [hline l1.length (by omega), hL]
      have := pa_getD_app2 (L1 := l1) (L2 := (c :: l2) ++ R) (j := 0)
      simpa using this
    have hw1 := pa_young_wf hwf h0 h1 h2
    have hw2 := pa_ready_wf hwf h0 h1 h2
    obtain ⟨w1, w2, w3, w4⟩ := pa_go_wf hwf h0 h1 h2
    refine b28_26 (k1 := fun q => by omega) (k2 := fun _ => ?_)
    refine b28_31 (k := ?_)
    rw [ec]
    have g1 := pk_RM_set (j := 6) (x := 0) (by decide) hM hwf.1.w9 h0 h1
    have hz := pk_Zc_Zs h0 (by omega) _ (pk_r_Zc (B := B) (c := c))
    refine pe_M.up (k5M (d := 0) (v := 0) g1 hw1.1.1 h0 h1 (by decide) (fun σ2 e1 e2 e3 => ?_)) (by omega)
    rw [pa_cw_same, pa_cw_cw] at e3
    have e3 : pk_RM B T σ2 (pa_cw s c (pa_take (pa_young (s.2.1 c)) 0)) := e3
    have hF2 := e3.F
    have hfr2 : pk_fr (pk_Zs B) σ1 σ2 := pk_fr_trans (pk_frI_wI hz).1 e1.1
    have hline2 : ∀ x, x = B + 5 → ∀ j, pe_I σ2 x j = pe_I σ1 x j := fun x hx j => (hfr2.2 x (fun q => (pk_Zl_not q).1 hx) j).1
    have e7 : pe_I σ2 B 7 = y := by
      rw [e2, pe_I_ner (by unfold pk_c; omega)]; exact hy
    have ec2 : pe_I σ2 (B + 5) (l1.length : Int) = c := by rw [hline2 _ rfl, ec]
    refine b28_56 (k := ?_)
    rw [ec2]
    refine k31f (d := d) e3 hw2 h0 h1 (by rw [pa_cw_same, pa_take2]) (fun σ3 e4 e5 e6 => ?_)
    have hF3 := e6.F
    have hfr3 := pk_fr_trans hfr2 e4
    refine b28_67 (k := ?_)
    have hlen : ((l1 ++ [c]).length : Int) = (l1.length : Int) + 1 := by simp
    have := k28_go l2 (l1 ++ [c]) R σ3 (pa_go s c) (if ((pa_st1 (pa_cw s c (pa_take (pa_young (s.2.1 c)) 0)) c false).2.1 c).1 2 = 2 then pe_or y (pe_shl 1 c) else y) (some (.inr (.inr (pk_c B c)))) (by rw [hL]; simp) (by rw [hlen]; omega) hl e6 w1 hn2.2 (fun i hi => by
      obtain ⟨q1, q2⟩ := hc i (List.mem_cons_of_mem _ hi)
      have hic : i ≠ c := fun e => hn2.1 (by rw [← e]; exact hi)
      rw [w4 i hic q2, w2]
      exact ⟨q1, q2⟩) (fun j hj => by rw [(hfr3.2 (B + 5) (fun q => (pk_Zl_not q).1 rfl) j).1]; exact hline j hj) (by
        by_cases q : ((pa_st1 (pa_cw s c (pa_take (pa_young (s.2.1 c)) 0)) c false).2.1 c).1 2 = 2
        · rw [if_pos q, e5.1 q, e7]
        · rw [if_neg q, e5.2 q, e7]) (fun σ4 o4 f1 f2 f3 => k σ4 o4 (pk_fr_trans hfr3 f1) f2 f3)
    rw [hlen] at this
    exact this
theorem k28_old {L : List Int} : ∀ (l2 l1 : List Int) (σ1 : pe_H) (s : pa_M) (o2 o4 : Option pe_V), L = l1 ++ l2 → L.length ≤ 8 → pk_RM B T σ1 s → pa_wf s → (∀ c ∈ l2, 0 ≤ c ∧ c < s.1 4) → (∀ j : Nat, j < L.length → pe_I σ1 (B + 5) j = L.getD j 0) →
    (∀ σ2, pk_fr (pk_Zs B) σ1 σ2 → pe_I σ2 B 7 = pe_I σ1 B 7 → pk_RM B T σ2 (l2.foldl (fun s c => pa_cw s c (pa_old (s.2.1 c))) s) → Φ (some (.inl (if L = [] then 0 else 1))) σ2) →
    pe_X (d + 12) 28 (75, [some (.inr (.inr B)), some (.inl (L.length : Int)), o2, some (.inl (l1.length : Int)), o4], [], σ1) Φ
  | [], l1, σ1, s, o2, o4, hL, hl, hM, hwf, hc, hline, k => by
    have hF := hM.F
    rw [List.append_nil] at hL
    have hl1 : l1.length = L.length := by rw [hL]
    refine b28_75 (k1 := fun _ => ?_) (k2 := fun q => by omega)
    refine b28_100 (k1 := fun q => ?_) (k2 := fun q => ?_)
    · refine b28_108 (k := ?_)
      refine b28_109 (k := ?_)
      have e : L = [] := List.length_eq_zero_iff.mp (by omega)
      have := k σ1 (pk_fr_refl _ _) rfl hM
      rw [if_pos e] at this
      exact this
    · refine b28_104 (k := ?_)
      refine b28_109 (k := ?_)
      have e : L ≠ [] := fun e => by rw [e] at q; simp at q
      have := k σ1 (pk_fr_refl _ _) rfl hM
      rw [if_neg e] at this
      exact this
  | c :: l2, l1, σ1, s, o2, o4, hL, hl, hM, hwf, hc, hline, k => by
    have hF := hM.F
    have h8 := hwf.1.1
    have hl1 : l1.length + (l2.length + 1) ≤ L.length := by rw [hL]; simp
    obtain ⟨h0, h1⟩ := hc c List.mem_cons_self
    have ec : pe_I σ1 (B + 5) (l1.length : Int) = c := by
      rw [hline l1.length (by omega), hL]
      have := pa_getD_app2 (L1 := l1) (L2 := c :: l2) (j := 0)
      simpa using this
    have hw2 : pa_wf (pa_cw s c (pa_old (s.2.1 c))) := by
      have := pa_olds_wf (l := [c]) hwf
      rw [← pa_olds_fold [c] s (by simp)] at this
      exact this
    refine b28_75 (k1 := fun q => by omega) (k2 := fun _ => ?_)
    refine b28_80 (k := ?_)
    rw [ec]
    refine pe_M.up (k6M (d := 0) hM hwf.1 h0 h1 (fun σ2 e1 e2 e3 => ?_)) (by omega)
    have hF2 := e3.F
    refine b28_94 (k := ?_)
    have hlen : ((l1 ++ [c]).length : Int) = (l1.length : Int) + 1 := by simp
    have := k28_old (L := L) l2 (l1 ++ [c]) σ2 _ (pe_nl o2) o4 (by rw [hL]; simp) hl e3 hw2 (fun i hi => hc i (List.mem_cons_of_mem _ hi)) (fun j hj => by rw [(e1.1.2 (B + 5) (fun q => (pk_Zl_not q).1 rfl) j).1]; exact hline j hj) (fun σ4 f1 f2 f3 => k σ4 (pk_fr_trans e1.1 f1) (f2.trans e2) f3)
    rw [hlen] at this
    exact this
theorem pk_Zs_Zb (x : Nat) (h : pk_Zs B x) : pk_Zb B x := Or.inl h
theorem pk_Zl_Zb (x : Nat) (h : pk_Zl B x) : pk_Zb B x := Or.inr h
theorem pk_Zb_Z (x : Nat) (h : pk_Zb B x) : pk_Z B x := h.elim (pk_Zs_Z x) (pk_Zl_Z x)
/-- makeRound -/
theorem k28 (hM : pk_RM B T σ a) (hwf : pa_wf a) (k : ∀ σ2, pk_fr (pk_Zb B) σ σ2 → pe_I σ2 B 7 = pa_ry a (pe_I σ B 7) → pk_RM B T σ2 (pa_round a) → Φ (some (.inl (if pa_line a = [] then 0 else 1))) σ2) : pe_M (d + 13) 28 [.inr (.inr B)] σ Φ := by
  have hF := hM.F
  have h8 := hwf.1.1
  have hwd := pa_day_wf hwf
  have g1 := pk_day hM hwf.1.w9
  obtain ⟨q1, q2, q3⟩ := pa_lineN_ok a (a.1 4).toNat
  have hL8 : (pa_line a).length ≤ 8 := by have : (pa_line a).length ≤ (a.1 4).toNat := q3; omega
  obtain ⟨p1, p2⟩ := pa_line_go h8.1 (a.1 5).toNat
  obtain ⟨w1, w2, w3, w4⟩ := pa_goes_wf _ _ hwd p1 p2
  refine pe_M_of ck28 (Nat.le_of_ble_eq_true rfl) ?_
  refine b28_0 (k := ?_)
  refine pe_M.up (k30 (d := 0) g1 hwd (fun σ2 e1 e2 e3 => ?_)) (by omega)
  rw [pa_line_day] at e3 ⊢
  have hF2 := e2.F
  have h5 := e2.cnt.2.1
  rw [(pa_day4 a).2] at h5
  have hb5 := hwf.1.2.1
  refine b28_14 (k := ?_)
  have hgo : (if ((pa_line a).length : Int) < pe_I σ2 B 5 then ((pa_line a).length : Int) else pe_I σ2 B 5) = ((([] : List Int).length : Nat) : Int) + (((pa_line a).take (a.1 5).toNat).length : Int) := by
    rw [h5, List.length_take, List.length_nil]
    split <;> omega
  rw [hgo]
  have h7 : pe_I σ2 B 7 = pe_I σ B 7 := by
    rw [(e1.1.2 B (fun q => by unfold pk_Zl at q; omega) 7).1, pe_I_nej (by decide)]
  have hfr : pk_fr (pk_Zb B) σ σ2 := pk_fr_trans (pk_frI_wI (Z := pk_Zb B) (Or.inl (Or.inl rfl))).1 (pk_frI_mono e1 pk_Zl_Zb).1
  refine k28_go (d := d) (Φ := Φ) (L := pa_line a) ((pa_line a).take (a.1 5).toNat) [] ((pa_line a).drop (a.1 5).toNat) σ2 (pa_day a) (pe_I σ B 7) _ (by simp) rfl hL8 e2 hwd p1 p2 e3 h7 (fun σ3 o4 f1 f2 f3 => ?_)
  · have hF3 := f3.F
    have f4 : ∀ j : Nat, j < (pa_line a).length → pe_I σ3 (B + 5) j = (pa_line a).getD j 0 := fun j hj => by rw [(f1.2 (B + 5) (fun q => (pk_Zl_not q).1 rfl) j).1]; exact e3 j hj
    refine b28_73 (k := ?_)
    have := k28_old (d := d) (Φ := Φ) (L := pa_line a) ((pa_line a).drop (a.1 5).toNat) ((pa_line a).take (a.1 5).toNat) σ3 _ (some (.inl (((([] : List Int).length : Nat) : Int) + (((pa_line a).take (a.1 5).toNat).length : Int)))) o4 (by simp) hL8 f3 w1 (fun c hc => ?_) f4 (fun σ4 u1 u2 u3 => ?_)
    · simp only [List.length_nil] at this ⊢
      simpa using this
    · rw [w2, (pa_day4 a).1]
      exact ((pa_line_mem h8.1 c).mp (List.mem_of_mem_drop hc)).1
    · rw [pa_olds_fold ((pa_line a).drop (a.1 5).toNat) _ (q1.sublist (List.drop_sublist _ _))] at u3
      exact k σ4 (pk_fr_trans hfr (pk_fr_mono (pk_fr_trans f1 u1) pk_Zs_Zb)) (u2.trans f2) u3
/-- makeRounds: what is asked of the machine is as n rounds on -/
theorem k27 {n : Int} (hM : pk_RM B T σ a) (hwf : pa_wf a) (hn0 : 0 ≤ n) (hn : n ≤ 1000) (k : ∀ σ2 a2, pk_fr (pk_Zb B) σ σ2 → pk_RM B T σ2 a2 → pa_wf a2 → a2.2 = (pa_rounds n.toNat a).2 → (∀ j, j ≠ 6 → a2.1 j = (pa_rounds n.toNat a).1 j) → Φ none σ2) : pe_M (d + 14) 27 [.inr (.inr B), .inl n] σ Φ := by
  have loop : ∀ (m : Nat) (i : Int) (σ1 : pe_H) (s : pa_M) (o2 : pe_V), i + m = n → 0 ≤ i → pk_fr (pk_Zb B) σ σ1 → pk_RM B T σ1 s → pa_wf s → (o2 = .inl 1 ∨ (o2 = .inl 0 ∧ pa_line s = [])) → ((pa_rounds m s).2 = (pa_rounds n.toNat a).2 ∧ ∀ j, j ≠ 6 → (pa_rounds m s).1 j = (pa_rounds n.toNat a).1 j) → pe_X (d + 13) 27 (4, [some (.inr (.inr B)), some (.inl n), some o2, some (.inl i)], [], σ1) Φ := by
    intro m
    induction m with
    | zero =>
      intro i σ1 s o2 hi hi0 g1 g2 g3 g4 g5
      have hF1 := g2.F
      rcases g4 with rfl | ⟨rfl, -⟩
      · refine b27_4 (k1 := fun _ => ?_) (k2 := fun q => by omega)
        refine b27_24 (k := ?_)
        exact k σ1 s g1 g2 g3 g5.1 g5.2
      · refine b27_4 (k1 := fun _ => ?_) (k2 := fun q => by omega)
        refine b27_24 (k := ?_)
        exact k σ1 s g1 g2 g3 g5.1 g5.2
    | succ m ih =>
      intro i σ1 s o2 hi hi0 g1 g2 g3 g4 g5
      have hF1 := g2.F
      rcases g4 with rfl | ⟨rfl, q0⟩
      · refine b27_4 (k1 := fun q => by omega) (k2 := fun _ => ?_)
        refine b27_9 (k1 := fun q => by omega) (k2 := fun _ => ?_)
        refine b27_13 (k := ?_)
        refine k28 g2 g3 (fun σ2 e1 e2 e3 => ?_)
        have hw := (pa_round_wf g3).1
        have hF2 := e3.F
        have hb := (pa_round_wf g3).2.1
        refine b27_17 (k := ?_)
        refine ih (i + 1) σ2 (pa_round s) _ (by omega) (by omega) (pk_fr_trans g1 e1) e3 hw ?_ g5
        by_cases q : pa_line s = []
        · right
          rw [if_pos q]
          refine ⟨rfl, ?_⟩
          obtain ⟨u1, u2⟩ := pa_round_none q
          rw [pa_line_eq (a := s) (b := pa_round s) (by rw [u1]) (by rw [u2]; exact (pa_day4 s).1)]
          exact q
        · left; rw [if_neg q]
      · obtain ⟨u1, u2⟩ := pa_rounds_none (m + 1) s q0
        refine b27_4 (k1 := fun q => by omega) (k2 := fun _ => ?_)
        refine b27_9 (k1 := fun _ => ?_) (k2 := fun q => by omega)
        refine b27_24 (k := ?_)
        exact k σ1 s g1 g2 g3 (u1.symm.trans g5.1) (fun j hj => (u2 j hj).symm.trans (g5.2 j hj))
  have hF := hM.F
  refine pe_M_of ck27 (Nat.le_of_ble_eq_true rfl) ?_
  refine b27_0 (k := ?_)
  exact loop n.toNat 0 σ a _ (by omega) (by omega) (pk_fr_refl _ _) hM hwf (Or.inl rfl) ⟨rfl, fun _ _ => rfl⟩
end

