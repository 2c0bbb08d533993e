/-! THE MODEL: lines -/
def pm_RQ (y : Nat → Int → Int) (L : Int) (l : List Int) : Prop := y 25 L = l.length ∧ ∀ i : Nat, i < l.length → y 26 (8 * L + i) = l.getD i 0
def pm_Zl (L : Int) (k : Nat) (j : Int) : Prop := (k = 25 ∧ j = L) ∨ (k = 26 ∧ 8 * L ≤ j ∧ j < 8 * L + 8)
theorem pa_sc {nu : Nat → Int} {j k : Nat} {v w : Int} (h : j ≠ k) : pa_s (pa_s nu j v) k w = pa_s (pa_s nu k w) j v := by
  funext i
  unfold pa_s
  by_cases h1 : i = k
  · have : i ≠ j := by omega
    simp [h1, Ne.symm h]
  · simp [h1]
theorem pa_cw_comm {a : pa_M} {c o : Int} {u v : pa_C} (h : c ≠ o) : pa_cw (pa_cw a c u) o v = pa_cw (pa_cw a o v) c u := by
  unfold pa_cw
  refine Prod.ext rfl (Prod.ext ?_ rfl)
  funext i
  by_cases h1 : i = o
  · have : i ≠ c := by omega
    simp [h1, Ne.symm h]
  · simp [h1]
theorem c154_loop {d M q : Nat} {Φ : Option pe_V → pe_H → Prop} {σ : pe_H} {L x : Int} (hF : pm_F M σ) (hL : 0 ≤ L ∧ L < 6) (hx : 0 ≤ x ∧ x < 8) : ∀ (suf pre : List Int) (y : Nat → Int → Int), y 25 L = (pre.length : Int) + suf.length → (∀ j : Nat, j < (pk_wo x pre).length → y 26 (8 * L + j) = (pk_wo x pre).getD j 0) → (∀ j : Nat, j < suf.length → y 26 (8 * L + (pre.length : Int) + j) = suf.getD j 0) → pre.length + suf.length ≤ 8 → (∀ z ∈ suf, 0 ≤ z ∧ z < 8) →
    (∀ y', pm_fr (pm_Zl L) y y' → pm_RQ y' L (pk_wo x (pre ++ suf)) → Φ none (pm_h M σ q y')) → pe_X d 154 (5, [some (.inr (.inr M)), some (.inl L), some (.inl x), some (.inl ((pk_wo x pre).length : Int)), some (.inl (pre.length : Int))], [], pm_h M σ q y) Φ
  | [], pre, y, h1, hk, hs, hl, hz, k => by
    rw [List.length_nil] at h1 hl
    refine b154_5 hF (k1 := fun _ => ?_) (k2 := fun r => by omega)
    refine b154_69 hF (k := ?_)
    rw [List.append_nil] at k
    exact k _ (pm_fr_u (Or.inl ⟨rfl, rfl⟩)) ⟨by simp [pm_u], fun i hi => by simp [pm_u]; simpa using hk i hi⟩
  | z :: suf, pre, y, h1, hk, hs, hl, hz, k => by
    have hle : (pk_wo x pre).length ≤ pre.length := List.length_filter_le _ _
    rw [List.length_cons] at h1 hl
    have hz0 := hz z List.mem_cons_self
    have e0 : y 26 (8 * L + (pre.length : Int)) = z := by
      have := hs 0 (by simp)
      simpa using this
    have happ : pre ++ z :: suf = (pre ++ [z]) ++ suf := by simp
    rw [happ] at k
    have e1 : ((pre ++ [z]).length : Int) = (pre.length : Int) + 1 := by simp
    have e5 : (pm_u y 26 (8 * L + ((pk_wo x pre).length : Int)) (y 26 (8 * L + (pre.length : Int)))) 26 (8 * L + (pre.length : Int)) = z := by
      rw [e0]
      simp only [pm_u]
      split
      · rfl
      · exact e0
    have hfr : pm_fr (pm_Zl L) y (pm_u y 26 (8 * L + ((pk_wo x pre).length : Int)) z) := pm_fr_u (Or.inr ⟨rfl, by omega, by omega⟩)
    have e25 : (pm_u y 26 (8 * L + ((pk_wo x pre).length : Int)) z) 25 L = y 25 L := by simp [pm_u]
    have hsuf : ∀ j : Nat, j < suf.length → (pm_u y 26 (8 * L + ((pk_wo x pre).length : Int)) z) 26 (8 * L + ((pre ++ [z]).length : Int) + j) = suf.getD j 0 := fun j hj => by
      have := hs (j + 1) (by simp; omega)
      rw [e1, show 8 * L + ((pre.length : Int) + 1) + (j : Int) = 8 * L + (pre.length : Int) + ((j + 1 : Nat) : Int) by push_cast; omega]
      simp only [pm_u]
      rw [if_neg (by omega), this]
      simp
    refine b154_5 hF (k1 := fun r => by omega) (k2 := fun _ => ?_)
    refine b154_16 hF (w3 := by rw [e5]; unfold pe_in; omega) (k1 := fun r => ?_) (k2 := fun r => ?_)
    · rw [e5] at r
      rw [e0]
      refine b154_60 hF (k := ?_)
      refine b154_61 hF (k := ?_)
      have e2 : pk_wo x (pre ++ [z]) = pk_wo x pre ++ [z] := by
        rw [pk_wo_app]
        have : pk_wo x [z] = [z] := by unfold pk_wo; rw [List.filter_cons_of_pos (by simp; omega)]; rfl
        rw [this]
      have e3 : ((pk_wo x (pre ++ [z])).length : Int) = ((pk_wo x pre).length : Int) + 1 := by rw [e2]; simp
      have := c154_loop (d := d) (Φ := Φ) (q := q) hF hL hx suf (pre ++ [z]) _ (by rw [e25, h1, e1]; push_cast; omega) (fun j hj => ?_) hsuf (by simp; omega) (fun y hy => hz y (List.mem_cons_of_mem _ hy)) (fun y' g1 g2 => k y' (pm_fr_trans hfr g1) g2)
      · rw [e1, e3] at this; exact this
      · rw [e2] at hj ⊢
        rw [List.length_append, List.length_singleton] at hj
        simp only [pm_u]
        by_cases e : j = (pk_wo x pre).length
        · subst e; simp
        · rw [if_neg (by omega), hk j (by omega)]
          simp only [List.getD_eq_getElem?_getD]
          rw [List.getElem?_append_left (by omega)]
    · rw [e5] at r
      rw [e0]
      refine b154_56 hF (k := ?_)
      refine b154_61 hF (k := ?_)
      have e2 : pk_wo x (pre ++ [z]) = pk_wo x pre := by
        rw [pk_wo_app]
        have : pk_wo x [z] = [] := by unfold pk_wo; rw [List.filter_cons_of_neg (by simp; omega)]; rfl
        rw [this, List.append_nil]
      have := c154_loop (d := d) (Φ := Φ) (q := q) hF hL hx suf (pre ++ [z]) _ (by rw [e25, h1, e1]; push_cast; omega) (fun j hj => ?_) hsuf (by simp; omega) (fun y hy => hz y (List.mem_cons_of_mem _ hy)) (fun y' g1 g2 => k y' (pm_fr_trans hfr g1) g2)
      · rw [e1, e2] at this; rw [Int.add_zero]; exact this
      · rw [e2] at hj ⊢
        simp only [pm_u]
        rw [if_neg (by omega), hk j hj]
section
variable {d M q : Nat} {Φ : Option pe_V → pe_H → Prop} {σ : pe_H} {y y' : Nat → Int → Int} {c L x ch : Int} {a : pa_M} {l : List Int}
/-- leaves -/
theorem c154 (hF : pm_F M σ) (hL : 0 ≤ L ∧ L < 6) (hx : 0 ≤ x ∧ x < 8) (hQ : pm_RQ y L l) (hl : l.length ≤ 8) (hz : ∀ z ∈ l, 0 ≤ z ∧ z < 8) (k : ∀ y', pm_fr (pm_Zl L) y y' → pm_RQ y' L (pk_wo x l) → Φ none (pm_h M σ q y')) : pe_M (d + 1) 154 [.inr (.inr M), .inl L, .inl x] (pm_h M σ q y) Φ := by
  refine pe_M_of ck154 (Nat.le_of_ble_eq_true rfl) ?_
  refine b154_0 hF (k := ?_)
  exact c154_loop hF hL hx l [] y (by rw [hQ.1]; simp) (fun j hj => by simp [pk_wo] at hj) (fun j hj => by rw [← hQ.2 j hj]; simp) (by simp; exact hl) hz k
theorem pm_R.ln {k : Nat} (h : pm_R y a) (hk : k < 2) (h0 : 0 ≤ ch) (h3 : ch < 3) : pm_RQ y (3 * k + ch) (a.2.2.2 k ch) := by
  obtain ⟨w, n, h, -⟩ := h
  exact h.2.2.2.2 k hk ch h0 h3
/-- a line has changed -/
theorem pm_R_q {k : Nat} (hM : pm_R y a) (hb : ∀ k : Nat, k < 2 → ∀ ch, 0 ≤ ch → ch < 3 → (a.2.2.2 k ch).length ≤ 8) (hk : k < 2) (h0 : 0 ≤ ch) (h3 : ch < 3) (hf : pm_fr (pm_Zl (3 * k + ch)) y y') (hQ : pm_RQ y' (3 * k + ch) l) : pm_R y' (pa_qw a k ch l) := by
  obtain ⟨w, n, ⟨a1, a2, a3, a4, a5⟩, hn⟩ := hM
  have e : ∀ k, k < 25 → y' k = y k := fun k hk => funext fun j => hf k j (by unfold pm_Zl; omega)
  refine ⟨w, n, ⟨?_, ?_, fun i i0 i1 => ?_, ?_, fun k' hk' ch' c0 c3 => ?_⟩, hn⟩
  · rw [e 0 (by decide)]
    exact ⟨a1.1, a1.2.1, a1.2.2.1, a1.2.2.2.1, pm_gh_keep a1.2.2.2.2 (fun j => hf 23 j (by unfold pm_Zl; omega)) (fun g hg j => hf g j (by unfold pm_Zl; omega)) (Int.le_refl _)⟩
  · rw [e 23 (by decide), e 24 (by decide)]; exact a2
  · have := a3 i i0 i1
    have h1 : ∀ (fs : List pa_F) (o ub : Int), pm_RFs y w o fs ub → pm_RFs y' w o fs ub := by
      intro fs
      induction fs with
      | nil => intros; trivial
      | cons g gs ih =>
        intro o ub h
        unfold pm_RFs pm_RFr
        rw [e 15 (by decide), e 16 (by decide), e 17 (by decide), e 18 (by decide), e 19 (by decide), e 20 (by decide), e 21 (by decide), e 22 (by decide)]
        exact ⟨h.1, ih _ _ h.2⟩
    obtain ⟨b1, b2, b3, b4⟩ := this
    refine ⟨pm_RCn_keep (fun k k1 k2 => by rw [e k (by omega)]) b1, by rw [e 14 (by decide)]; exact b2, ?_, h1 _ _ _ b4⟩
    unfold pm_RCe
    rw [e 13 (by decide)]; exact b3
  · rw [e 1 (by decide), e 2 (by decide), e 3 (by decide)]; exact a4
  · show y' 25 _ = ((if k' = k ∧ ch' = ch then l else a.2.2.2 k' ch').length : Int) ∧ ∀ i : Nat, i < (if k' = k ∧ ch' = ch then l else a.2.2.2 k' ch').length → _ = (if k' = k ∧ ch' = ch then l else a.2.2.2 k' ch').getD i 0
    by_cases r : k' = k ∧ ch' = ch
    · rw [if_pos r]; obtain ⟨rfl, rfl⟩ := r; exact hQ
    · rw [if_neg r]
      have hl := hb k' hk' ch' c0 c3
      have hne : 3 * (k' : Int) + ch' ≠ 3 * k + ch := by omega
      obtain ⟨g1, g2⟩ := a5 k' hk' ch' c0 c3
      refine ⟨by rw [hf 25 _ (by unfold pm_Zl; omega)]; exact g1, fun i hi => ?_⟩
      rw [hf 26 _ (by unfold pm_Zl; omega)]
      exact g2 i hi
theorem pm_Zl_Zt {k : Nat} {L : Int} (j : Nat) (i : Int) (h : pm_Zl L j i) : pm_Zt j i := by
  unfold pm_Zl at h
  unfold pm_Zt
  omega
theorem pa_wf3.ql (hwf : pa_wf3 a) (k : Nat) (hk : k < 2) (ch : Int) (h0 : 0 ≤ ch) (h3 : ch < 3) : (a.2.2.2 k ch).length ≤ 8 := (pa_wfq_b hwf.2.1 hwf.1.1.2 hk h0 h3).2.1
/-- lineUp -/
theorem c152 {k : Nat} {st : Int} (hF : pm_F M σ) (hM : pm_R y a) (hwf : pa_wf3 a) (hc0 : 0 ≤ c) (hc1 : c < a.1 4) (hs : (a.2.1 c).1 2 < 3) (hk : k < 2) (h0 : 0 ≤ ch) (h3 : ch < 3) (hL : L = 3 * k + ch) (hst : st = 3 + k) (kk : ∀ y', pm_fr pm_Zt y y' → pm_R y' (pa_qw (pa_cw a c (pa_wait (a.2.1 c) ch st)) k ch (a.2.2.2 k ch ++ [c])) → Φ none (pm_h M σ q y')) : pe_M (d + 1) 152 [.inr (.inr M), .inl L, .inl c, .inl st] (pm_h M σ q y) Φ := by
  have h8 := hwf.1.1
  obtain ⟨g1, g2, g3⟩ := pa_wfq_b hwf.2.1 h8.2 hk h0 h3
  have hnot : c ∉ a.2.2.2 k ch := fun hc => by
    have := ((hwf.2.1 k hk ch h0 h3).2 c).mp hc
    omega
  have hlen := g3 c hc0 (by omega) hnot
  have hQ := hM.ln hk h0 h3
  rw [← hL] at hQ
  have hQ1 := hQ.1
  refine pe_M_of ck152 (Nat.le_of_ble_eq_true rfl) ?_
  refine b152_0 hF (k := ?_)
  refine b152_34 hF (k := ?_)
  have ht : Int.tmod L 3 = ch := by
    have : ch = 0 ∨ ch = 1 ∨ ch = 2 := by omega
    have : k = 0 ∨ k = 1 := by omega
    rcases this with rfl | rfl <;> rcases ‹ch = 0 ∨ ch = 1 ∨ ch = 2› with rfl | rfl | rfl <;> subst hL <;> rfl
  rw [ht]
  have hfr : pm_fr (pm_Zl L) y (pm_u (pm_u y 26 (8 * L + y 25 L) c) 25 L (y 25 L + 1)) := pm_fr_then (pm_fr_u (Or.inr ⟨rfl, by omega, by omega⟩)) (Or.inl ⟨rfl, rfl⟩)
  have hM1 := pm_R_q (l := a.2.2.2 k ch ++ [c]) hM hwf.ql hk h0 h3 (by rw [← hL]; exact hfr) (by
    rw [← hL]
    refine ⟨by simp [pm_u, hQ1], fun i hi => ?_⟩
    rw [List.length_append, List.length_singleton] at hi
    rw [hQ1]
    simp only [pm_u]
    by_cases e : i = (a.2.2.2 k ch).length
    · subst e; simp
    · have e2 : (8 * L + (i : Int) = 8 * L + ((a.2.2.2 k ch).length : Int)) ↔ False := by
        constructor
        · intro h; omega
        · exact False.elim
      simp only [e2]
      simp
      rw [hQ.2 i (by omega)]
      simp only [List.getD_eq_getElem?_getD]
      rw [List.getElem?_append_left (by omega)])
  have hw8 : pa_wf8 (pa_qw a k ch (a.2.2.2 k ch ++ [c])) := hwf.1.w8
  have hM2 := pm_R_nu (c := c) (nu := pa_s (pa_s (a.2.1 c).1 2 st) 7 ch) (y' := pm_u (pm_u (pm_u (pm_u y 26 (8 * L + y 25 L) c) 25 L (y 25 L + 1)) 7 c st) 12 c ch) hM1 hw8 hc0 hc1 (pm_fr_then (pm_fr_u ⟨by decide, by decide, rfl⟩) ⟨by decide, by decide, rfl⟩) (by
    have hN1 : pm_RCn _ c (a.2.1 c).1 := (hM1.nn hc0 hc1).1
    obtain ⟨⟨a0, a2, a3, a4, a5, a6, a7, a8⟩, b⟩ := hN1
    refine ⟨⟨?_, ?_, ?_, ?_, ?_, ?_, ?_, ?_⟩, fun q1 q2 => by simp [pm_u, pa_s]⟩
    · simpa [pm_u, pa_s] using a0
    · simp [pm_u, pa_s]
    · simpa [pm_u, pa_s] using a3
    · simpa [pm_u, pa_s] using a4
    · simpa [pm_u, pa_s] using a5
    · simpa [pm_u, pa_s] using a6
    · simpa [pm_u, pa_s] using a7
    · simpa [pm_u, pa_s] using a8)
  refine kk _ ?_ hM2
  exact pm_fr_then (pm_fr_then (pm_fr_mono hfr (pm_Zl_Zt (k := 0))) (Or.inl ⟨by decide, by decide⟩)) (Or.inl ⟨by decide, by decide⟩)
/-- firstOf -/
theorem c153 {k : Nat} {g : Int} (hF : pm_F M σ) (hM : pm_R y a) (hwf : pa_wf3 a) (hk : k < 2) (h0 : 0 ≤ ch) (h3 : ch < 3) (hL : L = 3 * k + ch) (hg : a.2.2.2 k ch = g :: l) (kk : ∀ y', pm_fr pm_Zt y y' → pm_R y' (pa_qw (pa_cw a g (pa_on (a.2.1 g))) k ch (pk_wo g (g :: l))) → Φ (some (.inl g)) (pm_h M σ q y')) : pe_M (d + 2) 153 [.inr (.inr M), .inl L] (pm_h M σ q y) Φ := by
  have h8 := hwf.1.1
  obtain ⟨g1, g2, g3⟩ := pa_wfq_b hwf.2.1 h8.2 hk h0 h3
  have hQ := hM.ln hk h0 h3
  have hgc : 0 ≤ g ∧ g < a.1 4 := ((hwf.2.1 k hk ch h0 h3).2 g).mp (by rw [hg]; exact List.mem_cons_self) |>.1
  rw [← hL, hg] at hQ
  rw [hg] at g1 g2
  have e0 : y 26 (8 * L) = g := by
    have := hQ.2 0 (by simp)
    simpa using this
  refine pe_M_of ck153 (Nat.le_of_ble_eq_true rfl) ?_
  refine b153_0 hF (w0 := by unfold pe_in; omega) (k := ?_)
  rw [e0]
  refine c154 hF (by omega) (by omega) hQ g2 g1 (fun y' f1 f2 => ?_)
  have hM1 := pm_R_q (l := pk_wo g (g :: l)) hM hwf.ql hk h0 h3 (by rw [← hL]; exact f1) (by rw [← hL]; exact f2)
  have hw8 : pa_wf8 (pa_qw a k ch (pk_wo g (g :: l))) := hwf.1.w8
  refine b153_16 hF (k := ?_)
  exact kk _ (pm_fr_then (pm_fr_mono f1 (pm_Zl_Zt (k := 0))) (Or.inl ⟨by decide, by decide⟩)) (pm_R_on hM1 hw8 hgc.1 hgc.2)
/-- sends -/
theorem c155 {n : Int} (hF : pm_F M σ) (hM : pm_R y a) (hwf : pa_wf3 a) (h0 : 0 ≤ c) (h1 : c < a.1 4) (h3 : (a.2.1 c).1 2 < 3) (hn0 : 0 ≤ n) (hn9 : n ≤ 9) (k : ∀ y2, pm_fr pm_Zt y y2 → pm_R y2 (pa_sendAt a c (a.2.1 c) n) → Φ none (pm_h M σ q y2)) : pe_M (d + 3) 155 [.inr (.inr M), .inl c, .inl n] (pm_h M σ q y) Φ := by
  have h8 := hwf.1.1
  refine pe_M_of ck155 (Nat.le_of_ble_eq_true rfl) ?_
  refine b155_0 hF (k1 := fun r => ?_) (k2 := fun r => ?_)
  · have hQ := (hM.ln (k := 1) (by decide) hn0 (by omega))
    have hQ1 := hQ.1
    have hql := hwf.ql 1 (by decide) n hn0 (by omega)
    rw [show 3 * ((1 : Nat) : Int) + n = 3 + n by omega] at hQ1
    refine b155_20 hF (k1 := fun r2 => ?_) (k2 := fun r2 => ?_)
    · have hl : a.2.2.2 1 n = [] := List.length_eq_zero_iff.mp (by omega)
      refine b155_52 hF (k := ?_)
      refine pe_M.up (c152 (d := 0) (k := 0) hF hM hwf h0 h1 h3 (by decide) hn0 (by omega) (by simp) rfl (fun y2 e1 e2 => ?_)) (by omega)
      refine b155_59 hF (k := ?_)
      refine k y2 e1 ?_
      unfold pa_sendAt
      rw [if_neg (by omega), hl]
      exact e2
    · obtain ⟨g, l, hl⟩ := List.exists_cons_of_ne_nil (l := a.2.2.2 1 n) (fun e => by rw [e] at hQ1; simp at hQ1; omega)
      have hgc : 0 ≤ g ∧ g < a.1 4 := ((hwf.2.1 1 (by decide) n hn0 (by omega)).2 g).mp (by rw [hl]; exact List.mem_cons_self) |>.1
      have hgs := ((hwf.2.1 1 (by decide) n hn0 (by omega)).2 g).mp (by rw [hl]; exact List.mem_cons_self) |>.2.1
      have hne : c ≠ g := fun e => by subst e; omega
      refine b155_31 hF (k := ?_)
      refine pe_M.up (c153 (d := 0) (k := 1) hF hM hwf (by decide) hn0 (by omega) (by simp) hl (fun y2 e1 e2 => ?_)) (by omega)
      refine b155_42 hF (k := ?_)
      refine b155_59 hF (k := ?_)
      have hc3 : y2 8 c = (a.2.1 c).1 3 := by
        have := (e2.nn h0 h1).1.1.2.2.1
        rw [this]
        show (if c = g then _ else a.2.1 c).1 3 = _
        rw [if_neg hne]
      have hwg := hwf.1.2.2.1 g hgc.1 hgc.2
      have hw8 : pa_wf8 (pa_qw (pa_cw a g (pa_on (a.2.1 g))) 1 n (pk_wo g (g :: l))) := pa_wf8_cw (a := pa_qw a 1 n (pk_wo g (g :: l))) hwf.1.w8 hwg.2.1 hwg.2.2.1
      have hM2 := pm_R_set (k := 8) (j := 3) (v := y2 8 c) (c := g) (by decide) e2 hw8 hgc.1 hgc.2
      refine k _ (pm_fr_then e1 (Or.inl ⟨by decide, by decide⟩)) ?_
      have e4 : pa_sendAt a c (a.2.1 c) n = pa_cw (pa_qw (pa_cw a g (pa_on (a.2.1 g))) 1 n (pk_wo g (g :: l))) g (pa_s ((pa_qw (pa_cw a g (pa_on (a.2.1 g))) 1 n (pk_wo g (g :: l))).2.1 g).1 3 (y2 8 c), ((pa_qw (pa_cw a g (pa_on (a.2.1 g))) 1 n (pk_wo g (g :: l))).2.1 g).2) := by
        unfold pa_sendAt
        rw [if_neg (by omega), hl, pa_cw_id]
        show pa_qw (pa_cw a g (pa_on (pa_s (a.2.1 g).1 3 ((a.2.1 c).1 3), (a.2.1 g).2))) 1 n (pk_wo g (g :: l)) = pa_qw (pa_cw (pa_cw a g (pa_on (a.2.1 g))) g (pa_s ((pa_cw a g (pa_on (a.2.1 g))).2.1 g).1 3 (y2 8 c), ((pa_cw a g (pa_on (a.2.1 g))).2.1 g).2)) 1 n (pk_wo g (g :: l))
        rw [pa_cw_cw, pa_cw_same, hc3]
        unfold pa_on
        simp only
        rw [pa_sc (j := 7) (k := 3) (by decide), pa_sc (j := 2) (k := 3) (by decide)]
      rw [e4]
      exact hM2
  · refine b155_5 hF (k := ?_)
    refine cTN hF hM hwf.1 h0 h1 h3 (Or.inl ⟨rfl, rfl⟩) (fun m y1 g => ?_)
    refine b155_14 hF (k := ?_)
    refine g _ _ (fun y2 e1 e3' => ?_)
    refine b155_17 hF (k := ?_)
    refine b155_59 hF (k := ?_)
    refine k y2 e1 ?_
    unfold pa_sendAt
    rw [if_pos (by omega)]
    exact e3'
/-- gets -/
theorem c156 {n : Int} (hF : pm_F M σ) (hM : pm_R y a) (hwf : pa_wf3 a) (h0 : 0 ≤ c) (h1 : c < a.1 4) (h3 : (a.2.1 c).1 2 < 3) (hn0 : 0 ≤ n) (hn9 : n ≤ 9) (k : ∀ y2, pm_fr pm_Zt y y2 → pm_R y2 (pa_getAt a c (a.2.1 c) n) → Φ none (pm_h M σ q y2)) : pe_M (d + 3) 156 [.inr (.inr M), .inl c, .inl n] (pm_h M σ q y) Φ := by
  have h8 := hwf.1.1
  refine pe_M_of ck156 (Nat.le_of_ble_eq_true rfl) ?_
  refine b156_0 hF (k1 := fun r => ?_) (k2 := fun r => ?_)
  · have hQ := (hM.ln (k := 0) (by decide) hn0 (by omega))
    have hQ1 := hQ.1
    have hql := hwf.ql 0 (by decide) n hn0 (by omega)
    rw [show 3 * ((0 : Nat) : Int) + n = n by omega] at hQ1
    refine b156_20 hF (k1 := fun r2 => ?_) (k2 := fun r2 => ?_)
    · have hl : a.2.2.2 0 n = [] := List.length_eq_zero_iff.mp (by omega)
      refine b156_48 hF (k := ?_)
      refine pe_M.up (c152 (d := 0) (k := 1) hF hM hwf h0 h1 h3 (by decide) hn0 (by omega) (by simp) rfl (fun y2 e1 e2 => ?_)) (by omega)
      refine b156_57 hF (k := ?_)
      refine k y2 e1 ?_
      unfold pa_getAt
      rw [if_neg (by omega), hl]
      exact e2
    · obtain ⟨g, l, hl⟩ := List.exists_cons_of_ne_nil (l := a.2.2.2 0 n) (fun e => by rw [e] at hQ1; simp at hQ1; omega)
      have hgc : 0 ≤ g ∧ g < a.1 4 := ((hwf.2.1 0 (by decide) n hn0 (by omega)).2 g).mp (by rw [hl]; exact List.mem_cons_self) |>.1
      have hgs := ((hwf.2.1 0 (by decide) n hn0 (by omega)).2 g).mp (by rw [hl]; exact List.mem_cons_self) |>.2.1
      have hne : c ≠ g := fun e => by subst e; omega
      refine b156_29 hF (k := ?_)
      refine pe_M.up (c153 (d := 0) (k := 0) hF hM hwf (by decide) hn0 (by omega) (by simp) hl (fun y2 e1 e2 => ?_)) (by omega)
      refine b156_43 hF (k := ?_)
      refine b156_57 hF (k := ?_)
      have hg3 : y2 8 g = (a.2.1 g).1 3 := by
        have := (e2.nn hgc.1 hgc.2).1.1.2.2.1
        rw [this]
        show (if g = g then pa_on (a.2.1 g) else a.2.1 g).1 3 = _
        rw [if_pos rfl]
        simp [pa_on, pa_s]
      have hwg := hwf.1.2.2.1 g hgc.1 hgc.2
      have hw8 : pa_wf8 (pa_qw (pa_cw a g (pa_on (a.2.1 g))) 0 n (pk_wo g (g :: l))) := pa_wf8_cw (a := pa_qw a 0 n (pk_wo g (g :: l))) hwf.1.w8 hwg.2.1 hwg.2.2.1
      have hM2 := pm_R_set (k := 8) (j := 3) (v := y2 8 g) (c := c) (by decide) e2 hw8 h0 h1
      refine k _ (pm_fr_then e1 (Or.inl ⟨by decide, by decide⟩)) ?_
      have e4 : pa_getAt a c (a.2.1 c) n = pa_cw (pa_qw (pa_cw a g (pa_on (a.2.1 g))) 0 n (pk_wo g (g :: l))) c (pa_s ((pa_qw (pa_cw a g (pa_on (a.2.1 g))) 0 n (pk_wo g (g :: l))).2.1 c).1 3 (y2 8 g), ((pa_qw (pa_cw a g (pa_on (a.2.1 g))) 0 n (pk_wo g (g :: l))).2.1 c).2) := by
        unfold pa_getAt
        rw [if_neg (by omega), hl, pa_cw_id]
        show pa_qw (pa_cw (pa_cw a c (pa_s (a.2.1 c).1 3 ((a.2.1 g).1 3), (a.2.1 c).2)) g (pa_on ((pa_cw a c (pa_s (a.2.1 c).1 3 ((a.2.1 g).1 3), (a.2.1 c).2)).2.1 g))) 0 n (pk_wo g (g :: l)) = pa_qw (pa_cw (pa_cw a g (pa_on (a.2.1 g))) c (pa_s ((pa_cw a g (pa_on (a.2.1 g))).2.1 c).1 3 (y2 8 g), ((pa_cw a g (pa_on (a.2.1 g))).2.1 c).2)) 0 n (pk_wo g (g :: l))
        rw [pa_cw_ne (Ne.symm hne), pa_cw_ne hne, hg3, pa_cw_comm hne]
      rw [e4]
      exact hM2
  · refine b156_5 hF (k := ?_)
    refine cTN hF hM hwf.1 h0 h1 h3 (Or.inl ⟨rfl, rfl⟩) (fun m y1 g => ?_)
    refine b156_14 hF (k := ?_)
    refine g _ _ (fun y2 e1 e3' => ?_)
    refine b156_17 hF (k := ?_)
    refine b156_57 hF (k := ?_)
    refine k y2 e1 ?_
    unfold pa_getAt
    rw [if_pos (by omega)]
    exact e3'
end
