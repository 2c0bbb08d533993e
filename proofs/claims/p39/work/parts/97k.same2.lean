/-! THE LAW: same, whole -/
section
variable {d o r q x y x' y' : Nat} {Z Z' : Int → Prop} {Φ : Option pe_V → pe_H → Prop} {σ σ' σ'' : pe_H} {g g' g'' : Nat → Int} {c e v n p : Int} {a b s s' : pa_M} {w : pa_C} {nu : Nat → Int} {k0 : Nat} {l : List Int} {f : pa_F} {fs : List pa_F} {P : pa_P} {T U T' U' : Nat → Prop} {im im' : Option pa_M} {h h' : Int → pa_Sh} {L : List (Int × pa_P)}
theorem ll_chan {k0 : Nat} (hk : k0 < 2) (hn0 : 0 ≤ n) (hn3 : n < 3) : pa_aChan a n (-1) k0 = ((a.2.2.2 k0 n).length : Int) ∧ ∀ i : Nat, i < (a.2.2.2 k0 n).length → pa_aChan a n i k0 = (a.2.2.2 k0 n).getD i 0 := by
  have e : ((k0 : Int)).toNat = k0 := by omega
  refine ⟨?_, fun i hi => ?_⟩
  · unfold pa_aChan
    rw [if_neg (by omega), if_pos rfl, e]
  · unfold pa_aChan
    rw [if_neg (by omega), if_neg (by omega), e, if_pos ⟨by omega, by omega⟩, show ((i : Int)).toNat = i by omega]
/-- one line -/
theorem k171_line {k0 : Nat} {o1 : Option pe_V} (hq : ll_Q T U σ g a a im h) (hk : k0 < 2) (hn0 : 0 ≤ n) (hn3 : n < 3) {x1 : Int} (k : ∀ o3 o4 o5, pe_X (d + 16) 171 (500, [some (.inr (.inr 3)), some (.inl x1), some (.inl (n + 3 * k0 + 1)), o3, o4, o5], [], σ) Φ) (o3 o4 o5 : Option pe_V) : pe_X (d + 16) 171 (506, [some (.inr (.inr 3)), some (.inl x1), some (.inl (n + 3 * k0)), o3, o4, o5], [], σ) Φ := by
  have hL := hq.R.L
  have hwf := hq.W.1.1
  have h8 := hwf.1.1
  have hA := hq.R.ln0 hk hn0 hn3
  obtain ⟨f1, f2, f3⟩ := pa_wfq_b (k := k0) hwf.2.1 h8.2 hk hn0 hn3
  obtain ⟨c1, c2⟩ := ll_chan (a := a) hk hn0 hn3
  have em : Int.tmod (n + 3 * (k0 : Int)) 3 = n ∧ Int.tdiv (n + 3 * (k0 : Int)) 3 = (k0 : Int) := by
    have hk : k0 = 0 ∨ k0 = 1 := by omega
    have hn : n = 0 ∨ n = 1 ∨ n = 2 := by omega
    rcases hk with rfl | rfl <;> rcases hn with rfl | rfl | rfl <;> decide
  have hK := hA.1.1
  have hLn := hA.2.1
  have hI := hA.2.2
  generalize hat : n + 3 * (k0 : Int) = at' at *
  generalize hl : a.2.2.2 k0 n = l at *
  refine b171_506 (k := ?_)
  rw [em.1, em.2]
  refine pe_M.up (k86 (d := 0) hq.G hq.W (by omega) (by decide) (by omega) ?_) (by omega)
  rw [c1]
  refine b171_520 (w1 := by rw [hLn]; unfold pe_in; omega) (k1 := fun _ => ?_) (k2 := fun r => by omega)
  refine b171_532 (k := ?_)
  have loop : ∀ (m j : Nat), j + m = l.length → pe_X (d + 16) 171 (534, [some (.inr (.inr 3)), some (.inl x1), some (.inl at'), some (.inl (j : Int)), o4, o5], [], σ) Φ := by
    intro m
    induction m with
    | zero =>
      intro j hj
      refine b171_534 (w1 := by rw [hLn]; unfold pe_in; omega) (k1 := fun _ => ?_) (k2 := fun r => by omega)
      refine b171_578 (k := ?_)
      exact k _ _ _
    | succ m ih =>
      intro j hj
      have hz := f1 (l.getD j 0) (pa_getD_mem (by omega))
      have hIj := hI j (by omega)
      refine b171_534 (w1 := by rw [hLn]; unfold pe_in; omega) (k1 := fun r => by omega) (k2 := fun _ => ?_)
      refine b171_545 (k := ?_)
      rw [em.1, em.2]
      refine pe_M.up (k86 (d := 0) hq.G hq.W (by omega) (by omega) (by omega) ?_) (by omega)
      rw [c2 j (by omega)]
      refine b171_559 (k1 := fun _ => ?_) (k2 := fun r => by omega)
      refine b171_572 (k := ?_)
      exact ih (j + 1) (by omega)
  exact loop l.length 0 (by omega)
/-- same -/
theorem k171 (hq : ll_Q T U σ g a a im h) (k : ∀ σ' g', ll_fr (fun _ => False) 8 48 σ g σ' g' → Φ (some (.inl 1)) σ') : pe_M (d + 17) 171 [.inr (.inr 3)] σ Φ := by
  have hwf := hq.W.1.1
  have hw9 := hwf.1.w9
  have h8 := hwf.1.1
  have hw6 := hq.W.1.2
  have hw5 := hwf.1.2.1
  have cnt : ∀ x, 0 ≤ x → x ≤ 5 → pa_aCount a x = if x = 0 then a.1 4 else if x = 1 then a.1 6 else if x = 2 then a.1 5 else if x = 3 then pa_bits (pa_isEnd a) (a.1 4).toNat else if x = 4 then pa_bits (pa_isWait a) (a.1 4).toNat else pa_outs a := fun x x0 x5 => by
    unfold pa_aCount
    by_cases e : x = 5
    · subst e; rfl
    · by_cases e4 : x = 4
      · subst e4; rfl
      · by_cases e3 : x = 3
        · subst e3; rfl
        · by_cases e2 : x = 2
          · subst e2; rfl
          · by_cases e1 : x = 1
            · subst e1; rfl
            · rw [if_pos (by omega), if_pos (by omega)]
  have v0 : pa_aCount a 0 = a.1 4 := rfl
  have v1 : pa_aCount a 1 = a.1 6 := rfl
  have v2 : pa_aCount a 2 = a.1 5 := rfl
  have v3 : pa_aCount a 3 = pa_bits (pa_isEnd a) (a.1 4).toNat := rfl
  have v4 : pa_aCount a 4 = pa_bits (pa_isWait a) (a.1 4).toNat := rfl
  have v5 : pa_aCount a 5 = pa_outs a := rfl
  have bE := pa_bits_255 (pa_isEnd a) (n := (a.1 4).toNat) (by omega)
  have bW := pa_bits_255 (pa_isWait a) (n := (a.1 4).toNat) (by omega)
  have bO : 0 ≤ pa_outs a ∧ pa_outs a ≤ 999 * (a.1 4).toNat := pa_sum_b (m := 0) (by decide) _ (by omega) (fun i hi => (hwf.1.2.2.1 i (by omega) (by omega)).1.2.2.2.2.1)
  -- the numbers of all
  have nums : ∀ (σ1 : pe_H) (g1 : Nat → Int) (o2 o3 o4 o5 : Option pe_V), ll_fr (fun _ => False) 8 48 σ g σ1 g1 → pe_X (d + 16) 171 (637, [some (.inr (.inr 3)), some (.inl (pa_bits (pa_isWait a) (a.1 4).toNat)), o2, o3, o4, o5], [], σ1) Φ := fun σ1 g1 o2 o3 o4 o5 p1 => by
    have hR1 := hq.R.fr hw9 p1 (fun _ h => h.elim)
    have hq1 := hq.law p1 (fun h => h) hR1
    have hL1 := hR1.L
    have n3 := hR1.2.1.1
    have n4 := hR1.2.1.2.1
    have n5 := hR1.2.1.2.2
    refine b171_637 (k := ?_)
    refine pe_M.up (k108 (d := 0) hq1.G hq1.W (by decide) ?_) (by omega)
    rw [v0]
    refine b171_645 (w0 := by rw [n3]; unfold pe_in; omega) (k1 := fun r => by omega) (k2 := fun _ => ?_)
    refine b171_652 (k := ?_)
    refine pe_M.up (k108 (d := 0) hq1.G hq1.W (by decide) ?_) (by omega)
    rw [v1]
    refine b171_660 (w0 := by rw [n5]; unfold pe_in; omega) (k1 := fun r => by omega) (k2 := fun _ => ?_)
    refine b171_667 (k := ?_)
    refine pe_M.up (k108 (d := 0) hq1.G hq1.W (by decide) ?_) (by omega)
    rw [v2]
    refine b171_675 (w0 := by rw [n4]; unfold pe_in; omega) (k1 := fun r => by omega) (k2 := fun _ => ?_)
    refine b171_682 (k := ?_)
    refine pe_M.up (k108 (d := 0) hq1.G hq1.W (by decide) ?_) (by omega)
    rw [v3]
    refine b171_690 (k := ?_)
    refine pe_M.up (k164 (d := 0) hR1 hwf.1 ?_) (by omega)
    refine b171_694 (k1 := fun r => absurd rfl r) (k2 := fun _ => ?_)
    refine b171_697 (k := ?_)
    refine pe_M.up (k108 (d := 0) hq1.G hq1.W (by decide) ?_) (by omega)
    rw [v4]
    refine b171_705 (k1 := fun r => absurd rfl r) (k2 := fun _ => ?_)
    refine b171_709 (k := ?_)
    refine pe_M.up (k108 (d := 0) hq1.G hq1.W (by decide) ?_) (by omega)
    rw [v5]
    refine b171_717 (k := ?_)
    refine pe_M.up (k165 (d := 0) hR1 hwf.1 ?_) (by omega)
    refine b171_721 (k1 := fun r => absurd rfl r) (k2 := fun _ => ?_)
    refine b171_724 (k := ?_)
    refine b171_729 (k := ?_)
    exact k σ1 g1 p1
  -- who waits
  have waits : ∀ (σ1 : pe_H) (g1 : Nat → Int) (o3 o4 o5 : Option pe_V), ll_fr (fun _ => False) 8 48 σ g σ1 g1 → pe_X (d + 16) 171 (586, [some (.inr (.inr 3)), some (.inl 0), some (.inl 0), o3, o4, o5], [], σ1) Φ := fun σ1 g1 o3 o4 o5 p1 => by
    have hR1 := hq.R.fr hw9 p1 (fun _ h => h.elim)
    have hL1 := hR1.L
    have n3 := hR1.2.1.1
    have loop : ∀ (m i : Nat), (i : Int) + m = a.1 4 → pe_X (d + 16) 171 (586, [some (.inr (.inr 3)), some (.inl (pa_bits (pa_isWait a) i)), some (.inl (i : Int)), o3, o4, o5], [], σ1) Φ := by
      intro m
      induction m with
      | zero =>
        intro i hi
        refine b171_586 (w0 := by rw [n3]; unfold pe_in; omega) (k1 := fun _ => ?_) (k2 := fun r => by omega)
        have := nums σ1 g1 (some (.inl (i : Int))) o3 o4 o5 p1
        rw [show (a.1 4).toNat = i by omega] at this
        exact this
      | succ m ih =>
        intro i hi
        have hb := pa_bits_b (pa_isWait a) i
        have hb5 := pa_bits_255 (pa_isWait a) (n := i) (by omega)
        have hK := hR1.K (by omega : 0 ≤ (i : Int)) (by omega)
        have es := hR1.st (by omega : 0 ≤ (i : Int)) (by omega)
        have hb2 := (hwf.1.2.2.1 i (by omega) (by omega)).1.2.1
        have no : pa_isWait a (i : Int) = false → ∀ o1, pe_X (d + 16) 171 (628, [some (.inr (.inr 3)), o1, some (.inl (i : Int)), o3, o4, o5], [.inl (pa_bits (pa_isWait a) i)], σ1) Φ := fun hno o1 => by
          refine b171_628 (k := ?_)
          refine b171_629 (k := ?_)
          rw [pb_or_z hb5.1 hb5.2]
          have := ih (i + 1) (by push_cast; omega)
          rw [pa_bits, hno, if_neg (by simp), Int.add_zero] at this
          exact this
        refine b171_586 (w0 := by rw [n3]; unfold pe_in; omega) (k1 := fun r => by omega) (k2 := fun _ => ?_)
        refine b171_594 (k1 := fun r1 => ?_) (k2 := fun r1 => ?_)
        · exact no (by unfold pa_isWait; simp; omega) _
        · refine b171_608 (k1 := fun r2 => ?_) (k2 := fun r2 => ?_)
          · exact no (by unfold pa_isWait; simp; omega) _
          · refine b171_622 (k := ?_)
            refine b171_629 (k := ?_)
            rw [(pb_or (by omega) hb.1 hb.2).1]
            have := ih (i + 1) (by push_cast; omega)
            rw [pa_bits, show pa_isWait a (i : Int) = true from by unfold pa_isWait; simp; omega, if_pos rfl] at this
            exact this
    exact loop (a.1 4).toNat 0 (by omega)
  -- the lines
  have lines : ∀ (σ1 : pe_H) (g1 : Nat → Int) (o3 o4 o5 : Option pe_V), ll_fr (fun _ => False) 8 48 σ g σ1 g1 → pe_X (d + 16) 171 (500, [some (.inr (.inr 3)), some (.inl 0), some (.inl 0), o3, o4, o5], [], σ1) Φ := fun σ1 g1 o3 o4 o5 p1 => by
    have hR1 := hq.R.fr hw9 p1 (fun _ h => h.elim)
    have hq1 := hq.law p1 (fun h => h) hR1
    have hL1 := hR1.L
    have loop : ∀ (m : Nat) (i : Int) (o3 o4 o5 : Option pe_V), i + m = 6 → 0 ≤ i → pe_X (d + 16) 171 (500, [some (.inr (.inr 3)), some (.inl 0), some (.inl i), o3, o4, o5], [], σ1) Φ := by
      intro m
      induction m with
      | zero =>
        intro i o3 o4 o5 hi hi0
        refine b171_500 (k1 := fun _ => ?_) (k2 := fun r => by omega)
        refine b171_584 (k := ?_)
        exact waits σ1 g1 _ _ _ p1
      | succ m ih =>
        intro i o3 o4 o5 hi hi0
        obtain ⟨k0, n, hk, hn0, hn3, hat⟩ : ∃ (k0 : Nat) (n : Int), k0 < 2 ∧ 0 ≤ n ∧ n < 3 ∧ i = n + 3 * k0 := by
          by_cases h : i < 3
          · exact ⟨0, i, by omega, hi0, h, by omega⟩
          · exact ⟨1, i - 3, by omega, by omega, by omega, by omega⟩
        refine b171_500 (k1 := fun r => by omega) (k2 := fun _ => ?_)
        rw [hat]
        refine k171_line (o1 := none) hq1 hk hn0 hn3 (fun o3 o4 o5 => ?_) o3 o4 o5
        rw [← hat]
        exact ih (i + 1) o3 o4 o5 (by omega) (by omega)
    exact loop 6 0 o3 o4 o5 (by omega) (by omega)
  -- all coroutines
  have ones : ∀ (m : Nat) (i : Int) (σ1 : pe_H) (g1 : Nat → Int) (o2 o3 o4 o5 : Option pe_V), i + m = a.1 4 → 0 ≤ i → ll_fr (fun _ => False) (8 - m) (6 * (8 - m)) σ g σ1 g1 → pe_X (d + 16) 171 (2, [some (.inr (.inr 3)), some (.inl i), o2, o3, o4, o5], [], σ1) Φ := by
    intro m
    induction m with
    | zero =>
      intro i σ1 g1 o2 o3 o4 o5 hi hi0 p1
      have hR1 := hq.R.fr hw9 p1 (fun _ h => h.elim)
      have hL1 := hR1.L
      have n3 := hR1.2.1.1
      refine b171_2 (w0 := by rw [n3]; unfold pe_in; omega) (k1 := fun _ => ?_) (k2 := fun r => by omega)
      refine b171_496 (k := ?_)
      exact lines σ1 g1 _ _ _ (ll_fr_mono p1 (fun _ h => h))
    | succ m ih =>
      intro i σ1 g1 o2 o3 o4 o5 hi hi0 p1
      have hR1 := hq.R.fr hw9 p1 (fun _ h => h.elim)
      have hq1 := hq.law p1 (fun h => h) hR1
      have hL1 := hR1.L
      have n3 := hR1.2.1.1
      refine b171_2 (w0 := by rw [n3]; unfold pe_in; omega) (k1 := fun r => by omega) (k2 := fun _ => ?_)
      refine k171_one hq1 hi0 (by omega) (fun σ2 g2 o2 o3 o4 o5 p2 => ?_) o2 o3 o4 o5
      exact ih (i + 1) σ2 g2 o2 o3 o4 o5 (by omega) (by omega) (ll_fr_mono (ll_fr_trans p1 p2) (fun _ h => h))
  have hL := hq.R.L
  refine pe_M_of ck171 (Nat.le_of_ble_eq_true rfl) ?_
  refine b171_0 (k := ?_)
  exact ones (a.1 4).toNat 0 σ g _ _ _ _ (by omega) (by decide) (ll_fr_mono (ll_fr_refl _ hq.R.gg) (fun _ h => h))
end
