/-! THE MODEL: think, again -/
theorem pm_crt {kq : Nat} (hkq : kq ≠ 0) : ∀ (l : List (Nat × Int)) (y : Nat → Int → Int), (∀ c ∈ l, pm_ok kq c) → (∀ k j, k ≠ kq → ¬ (k = 0 ∧ j = 51) → (pm_cr true kq l y) k j = y k j) ∧ (∀ j, j < y 0 51 → (pm_cr true kq l y) kq j = y kq j) ∧ ∀ i : Nat, i < l.length → (pm_cr true kq l y) kq (y 0 51 + i) = y (l.getD i (0, 0)).1 (l.getD i (0, 0)).2
  | [], y, _ => ⟨fun _ _ _ _ => rfl, fun _ _ => rfl, fun i hi => by simp at hi⟩
  | c :: l, y, h => by
    have hc := h c List.mem_cons_self
    have h1 := pm_c1_0 (t := true) (y := y) hkq hc
    obtain ⟨g1, g2, g3⟩ := pm_crt hkq l (pm_c1 true kq c y) (fun x hx => h x (List.mem_cons_of_mem _ hx))
    have e : pm_cr true kq (c :: l) y = pm_cr true kq l (pm_c1 true kq c y) := rfl
    have ec : ∀ k j, k ≠ kq → ¬ (k = 0 ∧ j = 51) → (pm_c1 true kq c y) k j = y k j := fun k j hk hj => by
      show (pm_u (pm_u y kq (y 0 51) (y c.1 c.2)) 0 51 (y 0 51 + 1)) k j = _
      simp only [pm_u]
      rw [if_neg hj, if_neg (fun e => hk e.1)]
    have eq : ∀ j, (pm_c1 true kq c y) kq j = if j = y 0 51 then y c.1 c.2 else y kq j := fun j => by
      show (pm_u (pm_u y kq (y 0 51) (y c.1 c.2)) 0 51 (y 0 51 + 1)) kq j = _
      simp only [pm_u]
      rw [if_neg (fun e => hkq e.1)]
      simp
    rw [e]
    rw [h1.1] at g2 g3
    refine ⟨fun k j hk hj => (g1 k j hk hj).trans (ec k j hk hj), fun j hj => ?_, fun i hi => ?_⟩
    · rw [g2 j (by omega), eq, if_neg (by omega)]
    · cases i with
      | zero =>
        rw [g2 _ (by omega), eq, if_pos (by simp)]
        simp
      | succ i =>
        rw [List.length_cons] at hi
        have := g3 i (by omega)
        rw [show y 0 51 + ((i + 1 : Nat) : Int) = y 0 51 + 1 + (i : Int) by push_cast; omega, this]
        rw [List.getD_cons_succ]
        have hm : l.getD i (0, 0) ∈ l := by
          rw [List.getD_eq_getElem?_getD, List.getElem?_eq_getElem (by omega)]
          exact List.getElem_mem _
        have ho := h _ (List.mem_cons_of_mem _ hm)
        exact ec _ _ ho.1 (fun e => ho.2 ⟨e.1, Or.inl e.2⟩)
theorem pm_crf {kq : Nat} {o : Nat → Int → Int} (hkq : kq ≠ 0) : ∀ (l : List (Nat × Int)) (y : Nat → Int → Int), (∀ c ∈ l, pm_ok kq c) → (∀ i : Nat, i < l.length → y kq (y 0 51 + i) = o (l.getD i (0, 0)).1 (l.getD i (0, 0)).2) → ∀ k j, ¬ (k = 0 ∧ j = 51) → ((k, j) ∈ l → (pm_cr false kq l y) k j = o k j) ∧ ((k, j) ∉ l → (pm_cr false kq l y) k j = y k j)
  | [], y, _, _, k, j, _ => ⟨fun h => absurd h List.not_mem_nil, fun _ => rfl⟩
  | c :: l, y, h, ho, k, j, hj => by
    have hc := h c List.mem_cons_self
    have h1 := pm_c1_0 (t := false) (y := y) hkq hc
    have e : pm_cr false kq (c :: l) y = pm_cr false kq l (pm_c1 false kq c y) := rfl
    have ec : ∀ k j, ¬ (k = 0 ∧ j = 51) → (pm_c1 false kq c y) k j = if k = c.1 ∧ j = c.2 then y kq (y 0 51) else y k j := fun k j hj => by
      show (pm_u (pm_u y 0 51 (y 0 51 + 1)) c.1 c.2 (y kq (y 0 51))) k j = _
      simp only [pm_u]
      rw [if_neg hj]
    have h0 : y kq (y 0 51) = o c.1 c.2 := by
      have := ho 0 (by simp)
      simpa using this
    have ih := pm_crf (o := o) hkq l (pm_c1 false kq c y) (fun x hx => h x (List.mem_cons_of_mem _ hx)) (fun i hi => by
      rw [h1.1, ec _ _ (fun e => hkq e.1), if_neg (fun e => hc.1 e.1.symm)]
      have := ho (i + 1) (by rw [List.length_cons]; omega)
      rw [List.getD_cons_succ] at this
      rw [← this]
      congr 1
      push_cast
      omega) k j hj
    rw [e]
    constructor
    · intro hm
      by_cases hl : (k, j) ∈ l
      · exact ih.1 hl
      · rw [ih.2 hl, ec k j hj]
        rcases List.mem_cons.mp hm with q | q
        · rw [← q] at h0 ⊢
          rw [if_pos ⟨rfl, rfl⟩]
          exact h0
        · exact absurd q hl
    · intro hm
      rw [ih.2 (fun q => hm (List.mem_cons_of_mem _ q)), ec k j hj, if_neg (fun q => hm (by
        rw [show (k, j) = c from Prod.ext q.1 q.2]
        exact List.mem_cons_self))]
theorem pm_cl_ok {kq : Nat} (hkq : kq = 38 ∨ kq = 39) : ∀ c ∈ pm_cl, pm_ok kq c := by
  have h0 : ∀ c ∈ ([] : List (Nat × Int)), pm_ok kq c := fun c hc => by cases hc
  have h1 := pm_ok_app h0 (pm_ok_0 (j := 3) hkq (by decide) (by decide))
  have h2 := pm_ok_app h1 (pm_ok_0 (j := 23) hkq (by decide) (by decide))
  have h3 := pm_ok_app h2 (pm_ok_0 (j := 28) hkq (by decide) (by decide))
  have h4 := pm_ok_app h3 (pm_ok_0 (j := 29) hkq (by decide) (by decide))
  exact pm_ok_sg (n := 600) (pm_gC_ok hkq) (pm_ok_sg (n := 768) (pm_gB_ok hkq) (pm_ok_sg (n := 48) (pm_gA_ok hkq) (pm_ok_sg (n := 6) (pm_gG_ok hkq) (pm_ok_sg (n := 8) (pm_gF_ok hkq) (pm_ok_sg (n := 80) (pm_gE_ok hkq) (pm_ok_sg (n := 5) (pm_gD_ok hkq) h4))))))
/-- what is carried -/
theorem pm_cl_mem {k : Nat} {j : Int} (h : (k = 0 ∧ (j = 3 ∨ j = 23 ∨ j = 28 ∨ j = 29)) ∨ (k = 1 ∧ 0 ≤ j ∧ j < 5) ∨ ((k = 2 ∨ k = 3) ∧ 0 ≤ j ∧ j < 80) ∨ (4 ≤ k ∧ k ≤ 14 ∧ 0 ≤ j ∧ j < 8) ∨ (k = 25 ∧ 0 ≤ j ∧ j < 6) ∨ (((15 ≤ k ∧ k ≤ 20) ∨ k = 26) ∧ 0 ≤ j ∧ j < 48) ∨ ((k = 21 ∨ k = 22) ∧ 0 ≤ j ∧ j < 768) ∨ (k = 24 ∧ 0 ≤ j ∧ j < 600)) : (k, j) ∈ pm_cl := by
  have sg : ∀ (n : Nat) (g : Int → List (Nat × Int)), 0 ≤ j → j < n → (k, j) ∈ g j → (k, j) ∈ pm_sg n g := fun n g h0 h1 hg => pm_sg_mem.mpr ⟨j.toNat, by omega, by rw [show ((j.toNat : Nat) : Int) = j by omega]; exact hg⟩
  unfold pm_cl
  simp only [List.mem_append]
  rcases h with ⟨rfl, h⟩ | ⟨rfl, h0, h1⟩ | ⟨hk, h0, h1⟩ | ⟨hk1, hk2, h0, h1⟩ | ⟨rfl, h0, h1⟩ | ⟨hk, h0, h1⟩ | ⟨hk, h0, h1⟩ | ⟨rfl, h0, h1⟩
  · rcases h with rfl | rfl | rfl | rfl <;> simp
  · have := sg 5 pm_gD h0 h1 (by simp [pm_gD])
    simp [this]
  · have := sg 80 pm_gE h0 h1 (by rcases hk with rfl | rfl <;> simp [pm_gE])
    simp [this]
  · have hk : k = 4 ∨ k = 5 ∨ k = 6 ∨ k = 7 ∨ k = 8 ∨ k = 9 ∨ k = 10 ∨ k = 11 ∨ k = 12 ∨ k = 13 ∨ k = 14 := by omega
    have := sg 8 pm_gF h0 h1 (by rcases hk with rfl | rfl | rfl | rfl | rfl | rfl | rfl | rfl | rfl | rfl | rfl <;> simp [pm_gF])
    simp [this]
  · have := sg 6 pm_gG h0 h1 (by simp [pm_gG])
    simp [this]
  · have hk : k = 15 ∨ k = 16 ∨ k = 17 ∨ k = 18 ∨ k = 19 ∨ k = 20 ∨ k = 26 := by omega
    have := sg 48 pm_gA h0 h1 (by rcases hk with rfl | rfl | rfl | rfl | rfl | rfl | rfl <;> simp [pm_gA])
    simp [this]
  · have := sg 768 pm_gB h0 h1 (by rcases hk with rfl | rfl <;> simp [pm_gB])
    simp [this]
  · have := sg 600 pm_gC h0 h1 (by simp [pm_gC])
    simp [this]
section
variable {d M q : Nat} {Φ : Option pe_V → pe_H → Prop} {σ : pe_H} {y z : Nat → Int → Int} {a : pa_M}
/-- the same cells, the same machine -/
theorem pm_R_sub (hM : pm_R y a) (hwf : pa_wf0 a) (hq : ∀ k : Nat, k < 2 → ∀ ch, 0 ≤ ch → ch < 3 → (a.2.2.2 k ch).length ≤ 8) (hz : ∀ k j, (k, j) ∈ pm_cl → z k j = y k j) (h23 : ∀ j, 0 ≤ j → j < y 0 23 → z 23 j = y 23 j) (hg : pm_gh z (y 0 23)) : pm_R z a := by
  obtain ⟨w, n, ⟨a1, a2, a3, a4, a5⟩, hn⟩ := hM
  have h8 := hwf.1
  have hw8 := hwf.w8
  have hpots := pa_pots_0 (a := a)
  have en := a1.2.2.2.1
  rw [en] at h23 hg
  have z0 : ∀ j, j = 3 ∨ j = 23 ∨ j = 28 ∨ j = 29 → z 0 j = y 0 j := fun j hj => hz 0 j (pm_cl_mem (Or.inl ⟨rfl, hj⟩))
  refine ⟨w, n, ⟨⟨?_, ?_, ?_, ?_, hg⟩, ?_, fun i i0 i1 => ?_, fun p p0 p5 => ?_, fun k hk ch c0 c3 => ?_⟩, hn⟩
  · rw [z0 3 (by decide)]; exact a1.1
  · rw [z0 28 (by decide)]; exact a1.2.1
  · rw [z0 29 (by decide)]; exact a1.2.2.1
  · rw [z0 23 (by decide)]; exact en
  · exact pr_st_eq a2 (fun i i0 i1 => ⟨h23 i i0 i1, hz 24 i (pm_cl_mem (by omega))⟩)
  · refine pm_RCo_keep (fun k j hk => hz k j (pm_cl_mem ?_)) (Int.le_refl _) (fun _ _ => rfl) (hw8.2 i i0 i1).1 (hw8.2 i i0 i1).2 (a3 i i0 i1)
    unfold pm_own at hk
    omega
  · have hl := (hwf.2.2.2 p p0 p5).1
    obtain ⟨b1, b2⟩ := a4 p p0 p5
    refine ⟨by rw [hz 1 p (pm_cl_mem (by omega))]; exact b1, fun i i0 i1 => ?_⟩
    show z 2 _ = _ ∧ z 3 _ = _
    rw [hz 2 _ (pm_cl_mem (by omega)), hz 3 _ (pm_cl_mem (by omega))]
    exact b2 i i0 i1
  · obtain ⟨b1, b2⟩ := a5 k hk ch c0 c3
    have hl := hq k hk ch c0 c3
    refine ⟨by rw [hz 25 _ (pm_cl_mem (by omega))]; exact b1, fun i hi => ?_⟩
    rw [hz 26 _ (pm_cl_mem (by omega))]
    exact b2 i hi
/-- the codes at a time, kept as a ghost -/
def pm_gs (g : Nat) (y : Nat → Int → Int) : Nat → Int → Int := fun k j => if k = g then (if j = -1 then y 0 23 else y 23 j) else y k j
theorem pm_h_gs {g : Nat} (hg : 43 ≤ g) : pm_h M σ q (pm_gs g y) = pm_h M σ q y := by
  unfold pm_h
  congr 4
  refine Prod.ext ?_ rfl
  funext a j
  show (if M ≤ a ∧ a ≤ M + 42 then pm_gs g y (a - M) j else _) = (if M ≤ a ∧ a ≤ M + 42 then y (a - M) j else _)
  by_cases h : M ≤ a ∧ a ≤ M + 42
  · rw [if_pos h, if_pos h]
    unfold pm_gs
    rw [if_neg (by omega)]
  · rw [if_neg h, if_neg h]
end
