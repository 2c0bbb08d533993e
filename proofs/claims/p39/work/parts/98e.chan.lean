/-! holds: channels, what was told -/
section
variable {d o r q x y x' y' N M : Nat} {Z Z' : Int → Prop} {Φ : Option pe_V → pe_H → Prop} {σ σ' σ'' : pe_H} {g g' g'' : Nat → Int} {c e v n p st : Int} {a b s s' : pa_M} {T U T' U' : Nat → Prop} {im im' : Option pa_M} {h h' : Int → pa_Sh} {o2 o3 o4 o7 o8 o9 o10 : Option pe_V} {ta : Nat}
theorem q86 {i x : Int} (hq : ll_Q T U σ g a s im h) (hn : 0 ≤ n ∧ n < 3) (hi : -2147483648 ≤ i ∧ i < 2147483648) (hx : 0 ≤ x ∧ x ≤ 1) (k : Φ (some (.inl (pa_aChan s n i x))) σ) : pe_M (d + 1) 86 [.inr (.inr 4), .inl n, .inl i, .inl x] σ Φ := k86 hq.G hq.W (by omega) hi (by omega) k
theorem k172_4 (hIs : ll_ch s) (hq0 : ll_Q T U σ g a s im h) (k : ∀ (o2 o3 o4 o5 o6 o7 o8 o9 o10 : Option pe_V), pe_X (d + 18) 172 (631, [some (.inr (.inr 3)), some (.inr (.inr 1)), o2, o3, o4, o5, o6, o7, o8, o9, o10], [], σ) Φ) : ∀ (m : Nat) (i : Int) (o2 o3 o4 o6 o7 o8 o9 o10 : Option pe_V), i + m = 3 → 0 ≤ i → pe_X (d + 18) 172 (457, [some (.inr (.inr 3)), some (.inr (.inr 1)), o2, o3, o4, some (.inl i), o6, o7, o8, o9, o10], [], σ) Φ := by
  have hwf := hq0.W.1.1
  have h8 := hwf.1.1
  have hL0 := hq0.R.L
  intro m
  induction m with
  | zero =>
    intro i o2 o3 o4 o6 o7 o8 o9 o10 hi hi0
    refine b172_457 (k1 := fun _ => ?_) (k2 := fun r => by omega)
    exact k _ _ _ _ _ _ _ _ _
  | succ m ih =>
    intro i o2 o3 o4 o6 o7 o8 o9 o10 hi hi0
    have c0 := ll_chan (a := s) (n := i) (k0 := 0) (by decide) hi0 (by omega)
    have c1 := ll_chan (a := s) (n := i) (k0 := 1) (by decide) hi0 (by omega)
    obtain ⟨f1, f2, f3⟩ := pa_wfq_b (k := 0) hwf.2.1 h8.2 (by decide) hi0 (by omega : i < 3)
    obtain ⟨f4, f5, f6⟩ := pa_wfq_b (k := 1) hwf.2.1 h8.2 (by decide) hi0 (by omega : i < 3)
    have hboth := hIs i hi0 (by omega)
    have w0 := (hwf.2.1 0 (by decide) i hi0 (by omega)).2
    have w1 := (hwf.2.1 1 (by decide) i hi0 (by omega)).2
    have rd : ∀ z x, (x = 0 ∨ x = 10) → 0 ≤ z → z < s.1 4 → pa_aCo s z x = if x = 0 then (s.2.1 z).1 2 else (s.2.1 z).1 7 := fun z x hx z0 z1 => by
      unfold pa_aCo
      rcases hx with rfl | rfl
      · rw [if_neg (by omega)]; rfl
      · rw [if_neg (by omega)]; rfl
    -- who get
    have gets : ∀ (m j : Nat) (o2 o3 o4 o6 o9 o10 : Option pe_V), j + m = (s.2.2.2 1 i).length → pe_X (d + 18) 172 (566, [some (.inr (.inr 3)), some (.inr (.inr 1)), o2, o3, o4, some (.inl i), o6, some (.inl ((s.2.2.2 1 i).length : Int)), some (.inl (j : Int)), o9, o10], [], σ) Φ := by
      intro m'
      induction m' with
      | zero =>
        intro j o2 o3 o4 o6 o9 o10 hj
        refine b172_566 (k1 := fun _ => ?_) (k2 := fun r => by omega)
        refine b172_625 (k := ?_)
        exact ih (i + 1) _ _ _ _ _ _ _ _ (by omega) (by omega)
      | succ m' ih' =>
        intro j o2 o3 o4 o6 o9 o10 hj
        have hm := pa_getD_mem (L := s.2.2.2 1 i) (j := j) (by omega)
        have he := c1.2 j (by omega)
        generalize (s.2.2.2 1 i).getD j 0 = z at *
        obtain ⟨⟨z0, z1⟩, zs, z7⟩ := (w1 z).mp hm
        refine b172_566 (k1 := fun r => by omega) (k2 := fun _ => ?_)
        refine b172_573 (k := ?_)
        refine pe_M.up (q86 (d := 0) (x := 1) hq0 ⟨hi0, by omega⟩ (by omega) (by decide) ?_) (by omega)
        rw [show pa_aChan s i (j : Int) 1 = z from he]
        refine b172_585 (k := ?_)
        refine pe_M.up (q83 (d := 0) hq0 (by omega) (by decide) ?_) (by omega)
        rw [rd z 0 (Or.inl rfl) z0 z1, if_pos rfl]
        have zs : (s.2.1 z).1 2 = 4 := zs
        refine b172_597 (k1 := fun r => by omega) (k2 := fun _ => ?_)
        refine b172_601 (k := ?_)
        refine pe_M.up (q83 (d := 0) hq0 (by omega) (by decide) ?_) (by omega)
        rw [rd z 10 (Or.inr rfl) z0 z1, if_neg (by decide)]
        refine b172_612 (k1 := fun _ => ?_) (k2 := fun r => by omega)
        refine b172_619 (k := ?_)
        exact ih' (j + 1) _ _ _ _ _ _ (by omega)
    -- who send
    have sends : ∀ (m j : Nat) (o2 o3 o4 o9 o10 : Option pe_V), j + m = (s.2.2.2 0 i).length → pe_X (d + 18) 172 (504, [some (.inr (.inr 3)), some (.inr (.inr 1)), o2, o3, o4, some (.inl i), some (.inl ((s.2.2.2 0 i).length : Int)), some (.inl ((s.2.2.2 1 i).length : Int)), some (.inl (j : Int)), o9, o10], [], σ) Φ := by
      intro m'
      induction m' with
      | zero =>
        intro j o2 o3 o4 o9 o10 hj
        refine b172_504 (k1 := fun _ => ?_) (k2 := fun r => by omega)
        refine b172_563 (k := ?_)
        exact gets (s.2.2.2 1 i).length 0 _ _ _ _ _ _ (by omega)
      | succ m' ih' =>
        intro j o2 o3 o4 o9 o10 hj
        have hm := pa_getD_mem (L := s.2.2.2 0 i) (j := j) (by omega)
        have he := c0.2 j (by omega)
        generalize (s.2.2.2 0 i).getD j 0 = z at *
        obtain ⟨⟨z0, z1⟩, zs, z7⟩ := (w0 z).mp hm
        refine b172_504 (k1 := fun r => by omega) (k2 := fun _ => ?_)
        refine b172_511 (k := ?_)
        refine pe_M.up (q86 (d := 0) (x := 0) hq0 ⟨hi0, by omega⟩ (by omega) (by decide) ?_) (by omega)
        rw [show pa_aChan s i (j : Int) 0 = z from he]
        refine b172_523 (k := ?_)
        refine pe_M.up (q83 (d := 0) hq0 (by omega) (by decide) ?_) (by omega)
        rw [rd z 0 (Or.inl rfl) z0 z1, if_pos rfl]
        have zs : (s.2.1 z).1 2 = 3 := zs
        refine b172_535 (k1 := fun r => by omega) (k2 := fun _ => ?_)
        refine b172_539 (k := ?_)
        refine pe_M.up (q83 (d := 0) hq0 (by omega) (by decide) ?_) (by omega)
        rw [rd z 10 (Or.inr rfl) z0 z1, if_neg (by decide)]
        refine b172_550 (k1 := fun _ => ?_) (k2 := fun r => by omega)
        refine b172_557 (k := ?_)
        exact ih' (j + 1) _ _ _ _ _ (by omega)
    refine b172_457 (k1 := fun r => by omega) (k2 := fun _ => ?_)
    refine b172_463 (k := ?_)
    refine pe_M.up (q86 (d := 0) (x := 0) hq0 ⟨hi0, by omega⟩ (by decide) (by decide) ?_) (by omega)
    rw [show pa_aChan s i (-1) 0 = ((s.2.2.2 0 i).length : Int) from c0.1]
    refine b172_474 (k := ?_)
    refine pe_M.up (q86 (d := 0) (x := 1) hq0 ⟨hi0, by omega⟩ (by decide) (by decide) ?_) (by omega)
    rw [show pa_aChan s i (-1) 1 = ((s.2.2.2 1 i).length : Int) from c1.1]
    have start : ∀ o8, pe_X (d + 18) 172 (501, [some (.inr (.inr 3)), some (.inr (.inr 1)), o2, o3, o4, some (.inl i), some (.inl ((s.2.2.2 0 i).length : Int)), some (.inl ((s.2.2.2 1 i).length : Int)), o8, o9, o10], [], σ) Φ := fun o8 => by
      refine b172_501 (k := ?_)
      exact sends (s.2.2.2 0 i).length 0 _ _ _ _ _ (by omega)
    rcases hboth with e | e
    · have e0 : ((s.2.2.2 0 i).length : Int) = 0 := by rw [e]; rfl
      refine b172_487 (k1 := fun _ => ?_) (k2 := fun r => by omega)
      exact start _
    · have e0 : ((s.2.2.2 1 i).length : Int) = 0 := by rw [e]; rfl
      refine b172_487 (k1 := fun r1 => ?_) (k2 := fun r1 => ?_)
      · exact start _
      · refine b172_494 (k1 := fun _ => ?_) (k2 := fun r => by omega)
        exact start _
/-- what was told: five numbers of each -/
def ll_td (σ : pe_H) (g : Nat → Int) (ta : Nat) (P : Int → Int → Prop) (b : pa_M) : Prop := (pe_K σ ta = 24 ∧ pe_L σ ta = 8 ∧ g ta = -6) ∧ ∀ c, 0 ≤ c → c < 8 → pe_R σ ta c = ta + 1 + c.toNat ∧ (pe_K σ (ta + 1 + c.toNat) = 10 ∧ pe_L σ (ta + 1 + c.toNat) = 5 ∧ g (ta + 1 + c.toNat) = -6) ∧ ∀ j, 0 ≤ j → j < 5 → P c j → pe_I σ (ta + 1 + c.toNat) j = pa_of (b.2.1 c) j
theorem ll_td.fz {P : Int → Int → Prop} (h : ll_td σ g ta P b) (hf : ll_fz ll_k7 x y σ g σ' g') : ll_td σ' g' ta P b := by
  have n6 : ¬ ll_k7 (-6) := by unfold ll_k7; decide
  obtain ⟨⟨t1, t2, t3⟩, t4⟩ := h
  have s0 := hf.2 ta (by rw [t3]; decide)
  have s0' := s0.2 (by rw [t3]; exact n6)
  refine ⟨⟨s0'.1.trans t1, s0'.2.1.trans t2, s0.1.trans t3⟩, fun c c0 c8 => ?_⟩
  obtain ⟨u1, ⟨u2, u3, u4⟩, u5⟩ := t4 c c0 c8
  have s1 := hf.2 (ta + 1 + c.toNat) (by rw [u4]; decide)
  have s1' := s1.2 (by rw [u4]; exact n6)
  exact ⟨(s0'.2.2 c).2.trans u1, ⟨s1'.1.trans u2, s1'.2.1.trans u3, s1.1.trans u4⟩, fun j j0 j5 hp => (s1'.2.2 j).1.trans (u5 j j0 j5 hp)⟩
theorem k172_3 (hI : ll_I s) (htd : ll_td σ g ta (fun c _ => c < s.1 4) s) (hq0 : ll_Q T U σ g a s im h) (h4 : a.1 4 = s.1 4) (k : ∀ (o2 o3 o4 o5 o6 o7 o8 o9 o10 : Option pe_V), pe_X (d + 18) 172 (454, [some (.inr (.inr 3)), some (.inr (.inr 1)), o2, o3, o4, o5, o6, o7, o8, o9, o10], [], σ) Φ) : ∀ (m : Nat) (i : Int) (o2 o4 o6 o7 o8 o9 o10 : Option pe_V), i + m = s.1 4 → 0 ≤ i → pe_X (d + 18) 172 (248, [some (.inr (.inr 3)), some (.inr (.inr 1)), o2, some (.inr (.inr ta)), o4, some (.inl i), o6, o7, o8, o9, o10], [], σ) Φ := by
  have hwf := hq0.W.1.1
  have h8 := hwf.1.1
  have hL0 := hq0.R.L
  have e33 := hq0.R.mn
  obtain ⟨⟨t1, t2, t3⟩, t4⟩ := htd
  intro m
  induction m with
  | zero =>
    intro i o2 o4 o6 o7 o8 o9 o10 hi hi0
    refine b172_248 (w0 := by rw [e33]; unfold pe_in; omega) (k1 := fun _ => ?_) (k2 := fun r => by omega)
    exact k _ _ _ _ _ _ _ _ _
  | succ m ih =>
    intro i o2 o4 o6 o7 o8 o9 o10 hi hi0
    obtain ⟨u1, ⟨u2, u3, u4⟩, u5⟩ := t4 i hi0 (by omega)
    have hwc := hwf.1.2.2.1 i hi0 (by omega)
    obtain ⟨w0, w2, w3, w4, w5, w6, w20, w21, w7⟩ := hwc.1
    have hl6 := hwc.2.1
    have hlen := hq0.G.M.len512 hwf.1 hi0 (by omega : i < s.1 4)
    have hr := fun x (x0 : 0 ≤ x) (x11 : x ≤ 11) => (show pa_aCo s i x = if x = 5 then (s.2.1 i).1 0 else if x = 6 then (s.2.1 i).1 20 else if x = 7 then (s.2.1 i).1 21 else if x = 8 then pa_weight ((s.2.1 i).1 20) ((s.2.1 i).1 21) + 100 else if x = 9 then ((s.2.1 i).2.2.length : Int) else if x = 10 then (s.2.1 i).1 7 else if x = 11 then ((s.2.1 i).2.1.length : Int) else pa_of (s.2.1 i) x from by
      unfold pa_aCo
      rw [if_neg (by omega)])
    have rdk : ∀ j : Int, 0 ≤ j → j < 5 → pa_aCo s i j = pa_of (s.2.1 i) j := fun j j0 j5 => by
      rw [hr j j0 (by omega), if_neg (by omega), if_neg (by omega), if_neg (by omega), if_neg (by omega), if_neg (by omega), if_neg (by omega), if_neg (by omega)]
    have r0 : pa_aCo s i 0 = (s.2.1 i).1 2 := (hr 0 (by decide) (by decide)).trans rfl
    have r9 : pa_aCo s i 9 = ((s.2.1 i).2.2.length : Int) := (hr 9 (by decide) (by decide)).trans rfl
    have r10 : pa_aCo s i 10 = (s.2.1 i).1 7 := (hr 10 (by decide) (by decide)).trans rfl
    have r11 : pa_aCo s i 11 = ((s.2.1 i).2.1.length : Int) := (hr 11 (by decide) (by decide)).trans rfl
    have hfb : ∀ j, 0 ≤ j → j < 5 → -4 ≤ pa_of (s.2.1 i) j ∧ pa_of (s.2.1 i) j ≤ 999 := fun j j0 j5 => by
      unfold pa_of
      split
      · omega
      · split
        · omega
        · split
          · omega
          · split <;> omega
    have hfr : (6 ≤ (s.2.1 i).1 2 ↔ ((s.2.1 i).2.2.length : Int) = 0) := by
      rw [hwc.2.2.2.1]
      constructor
      · intro e; rw [e]; rfl
      · intro e; exact List.length_eq_zero_iff.mp (by omega)
    have hfa : ((s.2.1 i).1 2 = 7 ↔ 0 < ((s.2.1 i).2.1.length : Int)) := by
      rw [hwc.2.2.2.2]
      constructor
      · intro e
        have := List.length_pos_iff.mpr e
        omega
      · intro e q
        rw [q] at e
        simp at e
    have hw7 : ((s.2.1 i).1 2 < 3 ∨ 5 < (s.2.1 i).1 2) ↔ (s.2.1 i).1 7 = -4 := by
      refine ⟨w7, fun e => Classical.byContradiction fun q => ?_⟩
      have q1 := (hwf.2.2.1 i hi0 (by omega)).1
      have q2 := (hwf.2.2.1 i hi0 (by omega)).2
      by_cases e5 : (s.2.1 i).1 2 = 5
      · have := q2 e5; omega
      · have := q1 (by omega); omega
    have h7b : -4 ≤ (s.2.1 i).1 7 ∧ (s.2.1 i).1 7 < 8 := by
      have q1 := (hwf.2.2.1 i hi0 (by omega)).1
      have q2 := (hwf.2.2.1 i hi0 (by omega)).2
      by_cases e : (s.2.1 i).1 2 < 3 ∨ 5 < (s.2.1 i).1 2
      · have := hw7.mp e; omega
      · by_cases e5 : (s.2.1 i).1 2 = 5
        · have := q2 e5; omega
        · have := q1 (by omega); omega
    -- the rest of one
    have rest : ∀ (o2 o4 o6 o7 : Option pe_V), pe_X (d + 18) 172 (295, [some (.inr (.inr 3)), some (.inr (.inr 1)), o2, some (.inr (.inr ta)), o4, some (.inl i), o6, o7, o8, o9, o10], [], σ) Φ := fun o2 o4 o6 o7 => by
      refine b172_295 (k := ?_)
      refine pe_M.up (q83 (d := 0) hq0 (by omega) (by decide) ?_) (by omega)
      rw [r0]
      refine b172_305 (k := ?_)
      refine pe_M.up (q83 (d := 0) hq0 (by omega) (by decide) ?_) (by omega)
      rw [r10]
      -- joined
      have tail : pe_X (d + 18) 172 (414, [some (.inr (.inr 3)), some (.inr (.inr 1)), o2, some (.inr (.inr ta)), o4, some (.inl i), some (.inl ((s.2.1 i).1 2)), some (.inl ((s.2.1 i).1 7)), o8, o9, o10], [], σ) Φ := by
        have fin : ∀ (z : Int) (o6 : Option pe_V), ((z = 1 ∧ (s.2.1 i).1 7 = -4) ∨ (z = 0 ∧ ¬ (s.2.1 i).1 7 = -4)) → pe_X (d + 18) 172 (431, [some (.inr (.inr 3)), some (.inr (.inr 1)), o2, some (.inr (.inr ta)), o4, some (.inl i), o6, some (.inl ((s.2.1 i).1 7)), o8, o9, o10], [.inl z], σ) Φ := fun z o6 hz => by
          rcases hz with ⟨rfl, e⟩ | ⟨rfl, e⟩
          · refine b172_431 (k1 := fun r => by omega) (k2 := fun _ => ?_)
            refine b172_438 (k := ?_)
            refine b172_443 (k1 := fun _ => ?_) (k2 := fun r => by omega)
            refine b172_448 (k := ?_)
            exact ih (i + 1) _ _ _ _ _ _ _ (by omega) (by omega)
          · refine b172_431 (k1 := fun _ => ?_) (k2 := fun r => by omega)
            refine b172_442 (k := ?_)
            refine b172_443 (k1 := fun _ => ?_) (k2 := fun r => by omega)
            refine b172_448 (k := ?_)
            exact ih (i + 1) _ _ _ _ _ _ _ (by omega) (by omega)
        refine b172_414 (k1 := fun r1 => ?_) (k2 := fun r1 => ?_)
        · refine b172_426 (k := ?_)
          exact fin 1 _ (Or.inl ⟨rfl, hw7.mp (Or.inl (by omega))⟩)
        · refine b172_420 (k1 := fun r2 => ?_) (k2 := fun r2 => ?_)
          · refine b172_430 (k := ?_)
            exact fin 0 _ (Or.inr ⟨rfl, fun e => by have := hw7.mpr e; omega⟩)
          · refine b172_426 (k := ?_)
            exact fin 1 _ (Or.inl ⟨rfl, hw7.mp (Or.inr (by omega))⟩)
      have join : pe_X (d + 18) 172 (387, [some (.inr (.inr 3)), some (.inr (.inr 1)), o2, some (.inr (.inr ta)), o4, some (.inl i), some (.inl ((s.2.1 i).1 2)), some (.inl ((s.2.1 i).1 7)), o8, o9, o10], [], σ) Φ := by
        refine b172_387 (k1 := fun r1 => ?_) (k2 := fun r1 => ?_)
        · exact tail
        · have i5 : (s.2.1 i).1 2 = 5 := by omega
          have hne := hI.1 i hi0 (by omega) i5
          have ht := (hwf.2.2.1 i hi0 (by omega)).2 i5
          have hmx := hwf.2.2.2 i hi0 (by omega) i5
          have hbo := ll_st_b hwf.1 ht.1 ht.2
          have ro : pa_aCo s ((s.2.1 i).1 7) 0 = (s.2.1 ((s.2.1 i).1 7)).1 2 := by
            unfold pa_aCo
            rw [if_neg (by omega)]
            rfl
          refine b172_393 (k1 := fun r => by omega) (k2 := fun _ => ?_)
          refine b172_400 (k := ?_)
          refine pe_M.up (q83 (d := 0) hq0 (by omega) (by decide) ?_) (by omega)
          rw [ro]
          refine b172_410 (k1 := fun r => by omega) (k2 := fun _ => ?_)
          exact tail
      have faulty : ∀ z : Int, ((z = 1 ∧ (s.2.1 i).1 2 = 7) ∨ (z = 0 ∧ ¬ (s.2.1 i).1 2 = 7)) → pe_X (d + 18) 172 (365, [some (.inr (.inr 3)), some (.inr (.inr 1)), o2, some (.inr (.inr ta)), o4, some (.inl i), some (.inl ((s.2.1 i).1 2)), some (.inl ((s.2.1 i).1 7)), o8, o9, o10], [.inl z], σ) Φ := fun z hz => by
        refine b172_365 (k := ?_)
        refine pe_M.up (q83 (d := 0) hq0 (by omega) (by decide) ?_) (by omega)
        rw [r11]
        rcases hz with ⟨rfl, e⟩ | ⟨rfl, e⟩
        · have := hfa.mp e
          refine b172_376 (k1 := fun r => by omega) (k2 := fun _ => ?_)
          refine b172_379 (k := ?_)
          refine b172_384 (k1 := fun r => by omega) (k2 := fun _ => ?_)
          exact join
        · have : ¬ 0 < ((s.2.1 i).2.1.length : Int) := fun q => e (hfa.mpr q)
          refine b172_376 (k1 := fun _ => ?_) (k2 := fun r => by omega)
          refine b172_383 (k := ?_)
          refine b172_384 (k1 := fun r => by omega) (k2 := fun _ => ?_)
          exact join
      have seven : pe_X (d + 18) 172 (353, [some (.inr (.inr 3)), some (.inr (.inr 1)), o2, some (.inr (.inr ta)), o4, some (.inl i), some (.inl ((s.2.1 i).1 2)), some (.inl ((s.2.1 i).1 7)), o8, o9, o10], [], σ) Φ := by
        refine b172_353 (k1 := fun r1 => ?_) (k2 := fun r1 => ?_)
        · refine b172_364 (k := ?_)
          exact faulty 0 (Or.inr ⟨rfl, r1⟩)
        · refine b172_360 (k := ?_)
          exact faulty 1 (Or.inl ⟨rfl, r1⟩)
      have ended : ∀ z : Int, ((z = 1 ∧ 6 ≤ (s.2.1 i).1 2) ∨ (z = 0 ∧ ¬ 6 ≤ (s.2.1 i).1 2)) → pe_X (d + 18) 172 (331, [some (.inr (.inr 3)), some (.inr (.inr 1)), o2, some (.inr (.inr ta)), o4, some (.inl i), some (.inl ((s.2.1 i).1 2)), some (.inl ((s.2.1 i).1 7)), o8, o9, o10], [.inl z], σ) Φ := fun z hz => by
        refine b172_331 (k := ?_)
        refine pe_M.up (q83 (d := 0) hq0 (by omega) (by decide) ?_) (by omega)
        rw [r9]
        rcases hz with ⟨rfl, e⟩ | ⟨rfl, e⟩
        · have := hfr.mp e
          refine b172_342 (k1 := fun r => by omega) (k2 := fun _ => ?_)
          refine b172_345 (k := ?_)
          refine b172_350 (k1 := fun r => by omega) (k2 := fun _ => ?_)
          exact seven
        · have : ¬ ((s.2.1 i).2.2.length : Int) = 0 := fun q => e (hfr.mpr q)
          refine b172_342 (k1 := fun _ => ?_) (k2 := fun r => by omega)
          refine b172_349 (k := ?_)
          refine b172_350 (k1 := fun r => by omega) (k2 := fun _ => ?_)
          exact seven
      refine b172_318 (k1 := fun r1 => ?_) (k2 := fun r1 => ?_)
      · refine b172_330 (k := ?_)
        exact ended 0 (Or.inr ⟨rfl, by omega⟩)
      · refine b172_326 (k := ?_)
        exact ended 1 (Or.inl ⟨rfl, by omega⟩)
    -- the five numbers
    have five : ∀ (m' : Nat) (j : Int) (o2 o4 o7 : Option pe_V), j + m' = 5 → 0 ≤ j → pe_X (d + 18) 172 (260, [some (.inr (.inr 3)), some (.inr (.inr 1)), o2, some (.inr (.inr ta)), o4, some (.inl i), some (.inl j), o7, o8, o9, o10], [], σ) Φ := by
      intro m'
      induction m' with
      | zero =>
        intro j o2 o4 o7 hj hj0
        refine b172_260 (k1 := fun _ => ?_) (k2 := fun r => by omega)
        exact rest _ _ _ _
      | succ m' ih' =>
        intro j o2 o4 o7 hj hj0
        have hv := u5 j hj0 (by omega) (by omega)
        have hvb := hfb j hj0 (by omega)
        have hv' : pe_I σ (pe_R σ ta i) j = pa_of (s.2.1 i) j := by rw [u1]; exact hv
        refine b172_260 (k1 := fun r => by omega) (k2 := fun _ => ?_)
        refine b172_266 (k := ?_)
        refine pe_M.up (q83 (d := 0) hq0 (by omega) (by omega) ?_) (by omega)
        rw [rdk j hj0 (by omega)]
        refine b172_277 (w2 := by rw [u1, hv]; unfold pe_in; omega) (h3 := Or.inl (by rw [u1]; exact u2)) (h5 := by rw [u1, u3]; omega) (k1 := fun _ => ?_) (k2 := fun r => by omega)
        refine b172_289 (k := ?_)
        exact ih' (j + 1) _ _ _ (by omega) (by omega)
    refine b172_248 (w0 := by rw [e33]; unfold pe_in; omega) (k1 := fun r => by omega) (k2 := fun _ => ?_)
    refine b172_257 (k := ?_)
    exact five 5 0 _ _ _ (by decide) (by decide)
end
