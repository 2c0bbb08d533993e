/-! THE MODEL: think, again -/
theorem pm_crt {kq : Nat} (hkq : kq ≠ 0) : ∀ (l : List (Nat × Int)) (y : Nat → Int → Int), (∀ c ∈ l, pm_ok kq c) → (∀ k j, k ≠ kq → ¬ (k = 0 ∧ j = 51) → (pm_cr true kq l y) k j = y k j) ∧ (∀ j, j < y 0 51 → (pm_cr true kq l y) kq j = y kq j) ∧ ∀ i : Nat, i < l.length → (pm_cr true kq l y) kq (y 0 51 + i) = y (l.getD i (0, 0)).1 (l.getD i (0, 0)).2
  | [], y, _ => ⟨fun _ _ _ _ => rfl, fun _ _ => rfl, fun i hi => by simp at hi⟩
  | c :: l, y, h => by
    have hc := h c List.mem_cons_self
    have h1 := pm_c1_0 (t := true) (y := y) hkq hc
    obtain ⟨g1, g2, g3⟩ := pm_crt hkq l (pm_c1 true kq c y) (fun x hx => h x (List.mem_cons_of_mem _ hx))
    have e : pm_cr true kq (c :: l) y = pm_cr true kq l (pm_c1 true kq c y) := rfl
    have ec : ∀ k j, k ≠ kq → ¬ (k = 0 ∧ j = 51) → (pm_c1 true kq c y) k j = y k j := fun k j hk hj => by
      show (pm_u (pm_u y kq (y 0 51) (y c.1 c.2)) 0 51 (y 0 51 + 1)) k j = _
      simp only [pm_u]
      rw [if_neg hj, if_neg (fun e => hk e.1)]
    have eq : ∀ j, (pm_c1 true kq c y) kq j = if j = y 0 51 then y c.1 c.2 else y kq j := fun j => by
      show (pm_u (pm_u y kq (y 0 51) (y c.1 c.2)) 0 51 (y 0 51 + 1)) kq j = _
      simp only [pm_u]
      rw [if_neg (fun e => hkq e.1)]
      simp
    rw [e]
    rw [h1.1] at g2 g3
    refine ⟨fun k j hk hj => (g1 k j hk hj).trans (ec k j hk hj), fun j hj => ?_, fun i hi => ?_⟩
    · rw [g2 j (by omega), eq, if_neg (by omega)]
    · cases i with
      | zero =>
        rw [g2 _ (by omega), eq, if_pos (by simp)]
        simp
      | succ i =>
        rw [List.length_cons] at hi
        have := g3 i (by omega)
        rw [show y 0 51 + ((i + 1 : Nat) : Int) = y 0 51 + 1 + (i : Int) by push_cast; omega, this]
        rw [List.getD_cons_succ]
        have hm : l.getD i (0, 0) ∈ l := by
          rw [List.getD_eq_getElem?_getD, List.getElem?_eq_getElem (by omega)]
          exact List.getElem_mem _
        have ho := h _ (List.mem_cons_of_mem _ hm)
        exact ec _ _ ho.1 (fun e => ho.2 ⟨e.1, Or.inl e.2⟩)
theorem pm_crf {kq : Nat} {o : Nat → Int → Int} (hkq : kq ≠ 0) : ∀ (l : List (Nat × Int)) (y : Nat → Int → Int), (∀ c ∈ l, pm_ok kq c) → (∀ i : Nat, i < l.length → y kq (y 0 51 + i) = o (l.getD i (0, 0)).1 (l.getD i (0, 0)).2) → ∀ k j, ¬ (k = 0 ∧ j = 51) → ((k, j) ∈ l → (pm_cr false kq l y) k j = o k j) ∧ ((k, j) ∉ l → (pm_cr false kq l y) k j = y k j)
  | [], y, _, _, k, j, _ => ⟨fun h => absurd h List.not_mem_nil, fun _ => rfl⟩
  | c :: l, y, h, ho, k, j, hj => by
    have hc := h c List.mem_cons_self
    have h1 := pm_c1_0 (t := false) (y := y) hkq hc
    have e : pm_cr false kq (c :: l) y = pm_cr false kq l (pm_c1 false kq c y) := rfl
    have ec : ∀ k j, ¬ (k = 0 ∧ j = 51) → (pm_c1 false kq c y) k j = if k = c.1 ∧ j = c.2 then y kq (y 0 51) else y k j := fun k j hj => by
      show (pm_u (pm_u y 0 51 (y 0 51 + 1)) c.1 c.2 (y kq (y 0 51))) k j = _
      simp only [pm_u]
      rw [if_neg hj]
    have h0 : y kq (y 0 51) = o c.1 c.2 := by
      have := ho 0 (by simp)
      simpa using this
    have ih := pm_crf (o := o) hkq l (pm_c1 false kq c y) (fun x hx => h x (List.mem_cons_of_mem _ hx)) (fun i hi => by
      rw [h1.1, ec _ _ (fun e => hkq e.1), if_neg (fun e => hc.1 e.1.symm)]
      have := ho (i + 1) (by rw [List.length_cons]; omega)
      rw [List.getD_cons_succ] at this
      rw [← this]
      congr 1
      push_cast
      omega) k j hj
    rw [e]
    constructor
    · intro hm
      by_cases hl : (k, j) ∈ l
      · exact ih.1 hl
      · rw [ih.2 hl, ec k j hj]
        rcases List.mem_cons.mp hm with q | q
        · rw [← q] at h0 ⊢
          rw [if_pos ⟨rfl, rfl⟩]
          exact h0
        · exact absurd q hl
    · intro hm
      rw [ih.2 (fun q => hm (List.mem_cons_of_mem _ q)), ec k j hj, if_neg (fun q => hm (by
        rw [show (k, j) = c from Prod.ext q.1 q.2]
        exact List.mem_cons_self))]
theorem pm_cl_ok {kq : Nat} (hkq : 27 ≤ kq) : ∀ c ∈ pm_cl, pm_ok kq c := by
  have h0 : ∀ c ∈ ([] : List (Nat × Int)), pm_ok kq c := fun c hc => by cases hc
  have h1 := pm_ok_app h0 (pm_ok_0 (j := 3) (by omega) (by decide) (by decide))
  have h2 := pm_ok_app h1 (pm_ok_0 (j := 23) (by omega) (by decide) (by decide))
  have h3 := pm_ok_app h2 (pm_ok_0 (j := 28) (by omega) (by decide) (by decide))
  have h4 := pm_ok_app h3 (pm_ok_0 (j := 29) (by omega) (by decide) (by decide))
  exact pm_ok_sg (n := 600) (pm_gC_ok (by omega)) (pm_ok_sg (n := 768) (pm_gB_ok (by omega)) (pm_ok_sg (n := 48) (pm_gA_ok (by omega)) (pm_ok_sg (n := 6) (pm_gG_ok (by omega)) (pm_ok_sg (n := 8) (pm_gF_ok (by omega)) (pm_ok_sg (n := 80) (pm_gE_ok (by omega)) (pm_ok_sg (n := 5) (pm_gD_ok (by omega)) h4))))))
/-- what is carried -/
theorem pm_cl_mem {k : Nat} {j : Int} (h : (k = 0 ∧ (j = 3 ∨ j = 23 ∨ j = 28 ∨ j = 29)) ∨ (k = 1 ∧ 0 ≤ j ∧ j < 5) ∨ ((k = 2 ∨ k = 3) ∧ 0 ≤ j ∧ j < 80) ∨ (4 ≤ k ∧ k ≤ 14 ∧ 0 ≤ j ∧ j < 8) ∨ (k = 25 ∧ 0 ≤ j ∧ j < 6) ∨ (((15 ≤ k ∧ k ≤ 20) ∨ k = 26) ∧ 0 ≤ j ∧ j < 48) ∨ ((k = 21 ∨ k = 22) ∧ 0 ≤ j ∧ j < 768) ∨ (k = 24 ∧ 0 ≤ j ∧ j < 600)) : (k, j) ∈ pm_cl := by
  have sg : ∀ (n : Nat) (g : Int → List (Nat × Int)), 0 ≤ j → j < n → (k, j) ∈ g j → (k, j) ∈ pm_sg n g := fun n g h0 h1 hg => pm_sg_mem.mpr ⟨j.toNat, by omega, by rw [show ((j.toNat : Nat) : Int) = j by omega]; exact hg⟩
  unfold pm_cl
  simp only [List.mem_append]
  rcases h with ⟨rfl, h⟩ | ⟨rfl, h0, h1⟩ | ⟨hk, h0, h1⟩ | ⟨hk1, hk2, h0, h1⟩ | ⟨rfl, h0, h1⟩ | ⟨hk, h0, h1⟩ | ⟨hk, h0, h1⟩ | ⟨rfl, h0, h1⟩
  · rcases h with rfl | rfl | rfl | rfl <;> simp
  · have := sg 5 pm_gD h0 h1 (by simp [pm_gD])
    simp [this]
  · have := sg 80 pm_gE h0 h1 (by rcases hk with rfl | rfl <;> simp [pm_gE])
    simp [this]
  · have hk : k = 4 ∨ k = 5 ∨ k = 6 ∨ k = 7 ∨ k = 8 ∨ k = 9 ∨ k = 10 ∨ k = 11 ∨ k = 12 ∨ k = 13 ∨ k = 14 := by omega
    have := sg 8 pm_gF h0 h1 (by rcases hk with rfl | rfl | rfl | rfl | rfl | rfl | rfl | rfl | rfl | rfl | rfl <;> simp [pm_gF])
    simp [this]
  · have := sg 6 pm_gG h0 h1 (by simp [pm_gG])
    simp [this]
  · have hk : k = 15 ∨ k = 16 ∨ k = 17 ∨ k = 18 ∨ k = 19 ∨ k = 20 ∨ k = 26 := by omega
    have := sg 48 pm_gA h0 h1 (by rcases hk with rfl | rfl | rfl | rfl | rfl | rfl | rfl <;> simp [pm_gA])
    simp [this]
  · have := sg 768 pm_gB h0 h1 (by rcases hk with rfl | rfl <;> simp [pm_gB])
    simp [this]
  · have := sg 600 pm_gC h0 h1 (by simp [pm_gC])
    simp [this]
section
variable {d M q : Nat} {Φ : Option pe_V → pe_H → Prop} {σ : pe_H} {y z : Nat → Int → Int} {a : pa_M}
/-- the same cells, the same machine -/
theorem pm_R_sub (hM : pm_R y a) (hwf : pa_wf0 a) (hq : ∀ k : Nat, k < 2 → ∀ ch, 0 ≤ ch → ch < 3 → (a.2.2.2 k ch).length ≤ 8) (hz : ∀ k j, (k, j) ∈ pm_cl → z k j = y k j) (h23 : ∀ j, 0 ≤ j → j < y 0 23 → z 23 j = y 23 j) (hg : pm_gh z (y 0 23)) : pm_R z a := by
  obtain ⟨w, n, ⟨a1, a2, a3, a4, a5⟩, hn⟩ := hM
  have h8 := hwf.1
  have hw8 := hwf.w8
  have hpots := pa_pots_0 (a := a)
  have en := a1.2.2.2.1
  rw [en] at h23 hg
  have z0 : ∀ j, j = 3 ∨ j = 23 ∨ j = 28 ∨ j = 29 → z 0 j = y 0 j := fun j hj => hz 0 j (pm_cl_mem (Or.inl ⟨rfl, hj⟩))
  refine ⟨w, n, ⟨⟨?_, ?_, ?_, ?_, hg⟩, ?_, fun i i0 i1 => ?_, fun p p0 p5 => ?_, fun k hk ch c0 c3 => ?_⟩, hn⟩
  · rw [z0 3 (by decide)]; exact a1.1
  · rw [z0 28 (by decide)]; exact a1.2.1
  · rw [z0 29 (by decide)]; exact a1.2.2.1
  · rw [z0 23 (by decide)]; exact en
  · exact pr_st_eq a2 (fun i i0 i1 => ⟨h23 i i0 i1, hz 24 i (pm_cl_mem (by omega))⟩)
  · refine pm_RCo_keep (fun k j hk => hz k j (pm_cl_mem ?_)) (Int.le_refl _) (fun _ _ => rfl) (hw8.2 i i0 i1).1 (hw8.2 i i0 i1).2 (a3 i i0 i1)
    unfold pm_own at hk
    omega
  · have hl := (hwf.2.2.2 p p0 p5).1
    obtain ⟨b1, b2⟩ := a4 p p0 p5
    refine ⟨by rw [hz 1 p (pm_cl_mem (by omega))]; exact b1, fun i i0 i1 => ?_⟩
    show z 2 _ = _ ∧ z 3 _ = _
    rw [hz 2 _ (pm_cl_mem (by omega)), hz 3 _ (pm_cl_mem (by omega))]
    exact b2 i i0 i1
  · obtain ⟨b1, b2⟩ := a5 k hk ch c0 c3
    have hl := hq k hk ch c0 c3
    refine ⟨by rw [hz 25 _ (pm_cl_mem (by omega))]; exact b1, fun i hi => ?_⟩
    rw [hz 26 _ (pm_cl_mem (by omega))]
    exact b2 i hi
/-- the codes at a time, kept as a ghost -/
def pm_gs (g : Nat) (y : Nat → Int → Int) : Nat → Int → Int := fun k j => if k = g then (if j = -1 then y 0 23 else y 23 j) else y k j
theorem pm_h_gs {g : Nat} (hg : 43 ≤ g) : pm_h M σ q (pm_gs g y) = pm_h M σ q y := by
  unfold pm_h
  congr 4
  refine Prod.ext ?_ rfl
  funext a j
  show (if M ≤ a ∧ a ≤ M + 42 then pm_gs g y (a - M) j else _) = (if M ≤ a ∧ a ≤ M + 42 then y (a - M) j else _)
  by_cases h : M ≤ a ∧ a ≤ M + 42
  · rw [if_pos h, if_pos h]
    unfold pm_gs
    rw [if_neg (by omega)]
  · rw [if_neg h, if_neg h]
end
/-! what a moment's thinking may change, and what keeping it changes -/
def pm_Zy (k : Nat) (j : Int) : Prop := (1 ≤ k ∧ k ≤ 26) ∨ (k = 0 ∧ (j = 3 ∨ j = 23 ∨ j = 28 ∨ j = 29 ∨ j = 30))
def pm_Zk (k : Nat) (j : Int) : Prop := k = 38 ∨ k = 100 ∨ (k = 0 ∧ (j = 51 ∨ j = 52))
theorem pm_Zs_Zy (k : Nat) (j : Int) (h : pm_Zs k j) : pm_Zy k j := by unfold pm_Zs at h; unfold pm_Zy; omega
theorem pm_Zm_Zy (k : Nat) (j : Int) (h : pm_Zm k j) : pm_Zy k j := by unfold pm_Zm pm_Zs at h; unfold pm_Zy; omega
/-- y2 is y, kept -/
def pm_sv (y y2 : Nat → Int → Int) : Prop := pm_fr pm_Zk y y2 ∧ (∀ i : Nat, i < pm_cl.length → y2 38 i = y (pm_cl.getD i (0, 0)).1 (pm_cl.getD i (0, 0)).2) ∧ y2 100 (-1) = y 0 23 ∧ ∀ j, 0 ≤ j → y2 100 j = y 23 j
theorem pm_cl_no {k : Nat} {j : Int} (h : (k, j) ∈ pm_cl) : k ≠ 38 ∧ k ≠ 39 ∧ k ≠ 100 ∧ k ≠ 101 ∧ ¬ (k = 0 ∧ (j = 51 ∨ j = 52)) := ⟨(pm_cl_ok (kq := 38) (by decide) _ h).1, (pm_cl_ok (kq := 39) (by decide) _ h).1, (pm_cl_ok (kq := 100) (by decide) _ h).1, (pm_cl_ok (kq := 101) (by decide) _ h).1, (pm_cl_ok (kq := 38) (by decide) _ h).2⟩
section
variable {d M q : Nat} {Φ : Option pe_V → pe_H → Prop} {σ : pe_H} {y z : Nat → Int → Int} {a : pa_M}
theorem pm_cl_23 : ∀ c ∈ pm_cl, c.1 ≠ 23 := by
  have sg : ∀ (n : Nat) (l : List (Nat × Int)) (g : Int → List (Nat × Int)), (∀ i, ∀ c ∈ g i, c.1 ≠ 23) → (∀ c ∈ l, c.1 ≠ 23) → ∀ c ∈ l ++ pm_sg n g, c.1 ≠ 23 := fun n l g hg h c hc => by
    rcases List.mem_append.mp hc with e | e
    · exact h c e
    · obtain ⟨i, -, hi⟩ := pm_sg_mem.mp e
      exact hg _ c hi
  refine sg 600 _ pm_gC (by simp [pm_gC]) (sg 768 _ pm_gB (by simp [pm_gB]) (sg 48 _ pm_gA (by simp [pm_gA]) (sg 6 _ pm_gG (by simp [pm_gG]) (sg 8 _ pm_gF (by simp [pm_gF]) (sg 80 _ pm_gE (by simp [pm_gE]) (sg 5 _ pm_gD (by simp [pm_gD]) (by simp)))))))
/-- think -/
theorem c187 (hF : pm_F M σ) (hM : pm_R y a) (hwf : pa_wf3 a) (k : ∀ y2, pm_sv y y2 → pm_R y2 a → Φ none (pm_h M σ (M + 38) y2)) : pe_M (d + 4) 187 [.inr (.inr M)] (pm_h M σ q y) Φ := by
  have hok := pm_cl_ok (kq := 38) (by decide)
  refine pe_M_of ck187 (Nat.le_of_ble_eq_true rfl) ?_
  refine b187_0 hF (k := ?_)
  have key : ∀ y1, y1 = pm_cr true 38 pm_cl (pm_u (pm_u y 0 52 1) 0 51 0) → Φ none (pm_h M σ (M + 38) y1) := fun y1 hy1 => by
    obtain ⟨g1, g2, g3⟩ := pm_crt (kq := 38) (by decide) pm_cl (pm_u (pm_u y 0 52 1) 0 51 0) hok
    rw [← hy1] at g1 g2 g3
    have e51 : (pm_u (pm_u y 0 52 1) 0 51 0) 0 51 = 0 := pm_us
    rw [e51] at g2 g3
    have e1 : ∀ k j, k ≠ 38 → ¬ (k = 0 ∧ (j = 51 ∨ j = 52)) → y1 k j = y k j := fun k j hk hj => by
      rw [g1 k j hk (fun e => hj ⟨e.1, Or.inl e.2⟩)]
      simp only [pm_u]
      rw [if_neg (fun e => hj ⟨e.1, Or.inl e.2⟩), if_neg (fun e => hj ⟨e.1, Or.inr e.2⟩)]
    rw [← pm_h_gs (g := 100) (by decide)]
    have e0 : y1 0 23 = y 0 23 := e1 0 23 (by decide) (by omega)
    have e23 : ∀ j, y1 23 j = y 23 j := fun j => e1 23 j (by decide) (by omega)
    have e2 : ∀ k j, k ≠ 100 → pm_gs 100 y1 k j = y1 k j := fun k j hk => if_neg hk
    have esv : pm_sv y (pm_gs 100 y1) := by
      refine ⟨fun k j hk => ?_, fun i hi => ?_, ?_, fun j hj => ?_⟩
      · unfold pm_Zk at hk
        rw [e2 k j (by omega), e1 k j (by omega) (by omega)]
      · rw [e2 38 _ (by decide)]
        have := g3 i hi
        rw [Int.zero_add] at this
        rw [this]
        have hm : pm_cl.getD i (0, 0) ∈ pm_cl := by
          rw [List.getD_eq_getElem?_getD, List.getElem?_eq_getElem (by omega)]
          exact List.getElem_mem _
        have ho := hok _ hm
        simp only [pm_u]
        rw [if_neg (fun e => ho.2 ⟨e.1, Or.inl e.2⟩), if_neg (fun e => ho.2 ⟨e.1, Or.inr e.2⟩)]
      · unfold pm_gs; rw [if_pos rfl, if_pos rfl]; exact e0
      · unfold pm_gs; rw [if_pos rfl, if_neg (by omega)]; exact e23 j
    have hgh : pm_gh y (y 0 23) := by
      obtain ⟨w, n, h, -⟩ := hM
      rw [h.1.2.2.2.1]
      exact h.1.2.2.2.2
    refine k _ esv (pm_R_sub hM hwf.1 hwf.ql (fun k j hc => ?_) (fun j j0 j1 => ?_) (fun g hg => ?_))
    · have := pm_cl_no hc
      rw [e2 k j this.2.2.1, e1 k j this.1 this.2.2.2.2]
    · rw [e2 23 j (by decide), e23]
    · rcases hg with rfl | rfl
      · rw [esv.2.2.1]
        refine ⟨Int.le_refl _, fun j j0 _ => ?_⟩
        rw [esv.2.2.2 j j0, e2 23 j (by decide), e23]
      · obtain ⟨h1, h2⟩ := hgh 101 (Or.inr rfl)
        rw [e2 101 _ (by decide), e1 101 _ (by decide) (by omega)]
        refine ⟨h1, fun j j0 j1 => ?_⟩
        rw [e2 101 _ (by decide), e1 101 _ (by decide) (by omega), e2 23 j (by decide), e23]
        exact h2 j j0 j1
  refine c186 (t := true) (d := d) hF (Or.inl rfl) ?_
  refine b187_9 hF (k := ?_)
  exact key _ rfl
/-- again -/
theorem c188 {y2 y4 : Nat → Int → Int} {a4 : pa_M} (hF : pm_F M σ) (hM : pm_R y a) (hwf : pa_wf3 a) (hsv : pm_sv y y2) (hfr : pm_fr pm_Zy y2 y4) (hM4 : pm_R y4 a4) (k : ∀ y5, pm_R y5 a → pm_fr (fun k j => pm_Zy k j ∨ pm_Zk k j) y y5 → Φ none (pm_h M σ (M + 38) y5)) : pe_M (d + 4) 188 [.inr (.inr M)] (pm_h M σ q y4) Φ := by
  have hok := pm_cl_ok (kq := 38) (by decide)
  obtain ⟨s1, s2, s3, s4⟩ := hsv
  refine pe_M_of ck188 (Nat.le_of_ble_eq_true rfl) ?_
  refine b188_0 hF (k := ?_)
  have key : ∀ y5, y5 = pm_cr false 38 pm_cl (pm_u (pm_u y4 0 52 0) 0 51 0) → Φ none (pm_h M σ (M + 38) y5) := fun y5 hy5 => by
    have e51 : (pm_u (pm_u y4 0 52 0) 0 51 0) 0 51 = 0 := pm_us
    have e38 : ∀ j, y4 38 j = y2 38 j := fun j => hfr 38 j (by unfold pm_Zy; omega)
    have g := pm_crf (kq := 38) (o := y) (by decide) pm_cl (pm_u (pm_u y4 0 52 0) 0 51 0) hok (fun i hi => by
      rw [e51, Int.zero_add]
      have : (pm_u (pm_u y4 0 52 0) 0 51 0) 38 (i : Int) = y4 38 i := by simp [pm_u]
      rw [this, e38, s2 i hi])
    rw [← hy5] at g
    have gno : ∀ k j, (k, j) ∉ pm_cl → ¬ (k = 0 ∧ (j = 51 ∨ j = 52)) → y5 k j = y4 k j := fun k j hk hj => by
      rw [(g k j (fun e => hj ⟨e.1, Or.inl e.2⟩)).2 hk]
      simp only [pm_u]
      rw [if_neg (fun e => hj ⟨e.1, Or.inl e.2⟩), if_neg (fun e => hj ⟨e.1, Or.inr e.2⟩)]
    have gin : ∀ k j, (k, j) ∈ pm_cl → y5 k j = y k j := fun k j hk => (g k j (fun e => (pm_cl_no hk).2.2.2.2 ⟨e.1, Or.inl e.2⟩)).1 hk
    have hgh : pm_gh y (y 0 23) := by
      obtain ⟨w, n, h, -⟩ := hM
      rw [h.1.2.2.2.1]
      exact h.1.2.2.2.2
    have hgh4 : pm_gh y4 (y4 0 23) := by
      obtain ⟨w, n, h, -⟩ := hM4
      rw [h.1.2.2.2.1]
      exact h.1.2.2.2.2
    have e100 : ∀ j, y4 100 j = y2 100 j := fun j => hfr 100 j (by unfold pm_Zy; omega)
    have n23 : ∀ j, ((23 : Nat), j) ∉ pm_cl := fun j h => (pm_cl_23 _ h) rfl
    have h23 : ∀ j, 0 ≤ j → j < y 0 23 → y5 23 j = y 23 j := fun j j0 j1 => by
      rw [gno 23 j (n23 j) (by omega)]
      have := (hgh4 100 (Or.inl rfl)).2 j j0 (by rw [e100, s3]; exact j1)
      rw [this, e100, s4 j j0]
    have out : ∀ g : Nat, g = 100 ∨ g = 101 → ∀ j, y5 g j = y4 g j := fun g hg j => gno g j (fun h => by have := pm_cl_no h; omega) (by omega)
    refine k y5 (pm_R_sub hM hwf.1 hwf.ql gin h23 (fun g hg => ?_)) (fun k j hk => ?_)
    · rcases hg with rfl | rfl
      · rw [out 100 (Or.inl rfl), e100, s3]
        refine ⟨Int.le_refl _, fun j j0 j1 => ?_⟩
        rw [out 100 (Or.inl rfl), e100, s4 j j0, h23 j j0 j1]
      · have e101 : ∀ j, y4 101 j = y 101 j := fun j => (hfr 101 j (by unfold pm_Zy; omega)).trans (s1 101 j (by unfold pm_Zk; omega))
        obtain ⟨h1, h2⟩ := hgh 101 (Or.inr rfl)
        rw [out 101 (Or.inr rfl), e101]
        refine ⟨h1, fun j j0 j1 => ?_⟩
        rw [out 101 (Or.inr rfl), e101, h23 j j0 (by omega)]
        exact h2 j j0 j1
    · by_cases hc : (k, j) ∈ pm_cl
      · exact gin k j hc
      · rw [gno k j hc (fun e => hk (Or.inr (Or.inr (Or.inr e)))), hfr k j (fun e => hk (Or.inl e)), s1 k j (fun e => hk (Or.inr e))]
  refine c186 (t := false) (d := d) hF (Or.inl rfl) ?_
  refine b188_9 hF (k := ?_)
  exact key _ rfl
end
