/-! THE CLASS: rounds lost, shares -/
theorem pa_at_nn {p : pa_P} (hp : pa_wfp p) (i : Int) : 0 ≤ (pa_at p i).2 := by
  unfold pa_at
  rw [List.getD_eq_getElem?_getD]
  by_cases h : i.toNat < p.length
  · rw [List.getElem?_eq_getElem h]
    exact (hp.2.1 _ (List.getElem_mem h)).2.1
  · rw [List.getElem?_eq_none (by omega)]
    exact Int.le_refl _
section
variable {a s : pa_M} {who i c t n : Int} {v : pa_C}
theorem pa_sendAt_o (hq : pa_wfq a) (hn : 0 ≤ n) (hi : i ≠ who) (h6 : 6 ≤ (a.2.1 i).1 2) : (pa_sendAt a who v n).2.1 i = a.2.1 i := by
  unfold pa_sendAt
  split
  · exact pa_cw_ne hi
  · rename_i h3
    split
    · rename_i g l hg
      have hgm := ((hq 1 (by decide) n hn (by omega)).2 g).mp (by rw [hg]; exact List.mem_cons_self)
      have hne : i ≠ g := fun e => by
        rw [e] at h6
        have := hgm.2.1
        omega
      show (pa_cw (pa_cw a who v) g _).2.1 i = _
      rw [pa_cw_ne hne, pa_cw_ne hi]
    · show (pa_cw a who _).2.1 i = _
      exact pa_cw_ne hi
theorem pa_getAt_o (hq : pa_wfq a) (hn : 0 ≤ n) (hi : i ≠ who) (h6 : 6 ≤ (a.2.1 i).1 2) : (pa_getAt a who v n).2.1 i = a.2.1 i := by
  unfold pa_getAt
  split
  · exact pa_cw_ne hi
  · rename_i h3
    split
    · rename_i g l hg
      have hgm := ((hq 0 (by decide) n hn (by omega)).2 g).mp (by rw [hg]; exact List.mem_cons_self)
      have hne : i ≠ g := fun e => by
        rw [e] at h6
        have := hgm.2.1
        omega
      show (pa_cw (pa_cw (pa_cw a who v) who _) g _).2.1 i = _
      rw [pa_cw_ne hne, pa_cw_ne hi, pa_cw_ne hi]
    · show (pa_cw a who _).2.1 i = _
      exact pa_cw_ne hi
theorem pa_live_o {l : Int} (hq : pa_wfq a) (hn : 0 ≤ n) (hi : i ≠ who) (h6 : 6 ≤ (a.2.1 i).1 2) : (pa_live a who l n v).2.1 i = a.2.1 i := by
  unfold pa_live
  repeat' split
  all_goals first
    | exact pa_cw_ne hi
    | exact pa_sendAt_o hq hn hi h6
    | exact pa_getAt_o hq hn hi h6
theorem pa_st1_o {cl : Bool} (h : pa_wf a) (h0 : 0 ≤ who) (h1 : who < a.1 4) (hi : i ≠ who) (h6 : 6 ≤ (a.2.1 i).1 2) : (pa_st1 a who cl).2.1 i = a.2.1 i := by
  have hwc := (h.1.2.2.1 who h0 h1).2.2.1
  unfold pa_st1
  split
  · rfl
  · rename_i f fs hf
    split
    · exact pa_cw_ne hi
    · have hp : pa_wfp f.2.1 := (hwc f (by rw [hf]; exact List.mem_cons_self)).2.2.2.2.1
      have hn := pa_at_nn hp (f.1 2)
      unfold pa_do
      repeat' split
      all_goals first
        | exact pa_cw_ne hi
        | exact pa_live_o h.2.1 hn hi h6
/-- who is ended stays as it is -/
theorem pa_step_o {cl : Bool} (h : pa_wf a) (h0 : 0 ≤ who) (h1 : who < a.1 4) (hi : i ≠ who) (h6 : 6 ≤ (a.2.1 i).1 2) : (pa_step a who cl).2.1 i = a.2.1 i := by
  have e := pa_st1_o (cl := cl) h h0 h1 hi h6
  unfold pa_step
  split
  · rcases (pa_settle_mid (pa_st1 a who cl)).2.2 i with q | ⟨n, q⟩
    · rw [q, e]
    · have := (pa_told_5 q).2.1
      rw [e] at this
      omega
  · exact e
theorem pa_goes_o : ∀ (l : List Int) (a : pa_M), pa_wf a → l.Nodup → (∀ c ∈ l, (0 ≤ c ∧ c < a.1 4) ∧ (a.2.1 c).1 2 ≤ 2) → 6 ≤ (a.2.1 i).1 2 → (l.foldl pa_go a).2.1 i = a.2.1 i
  | [], a, _, _, _, _ => rfl
  | c :: l, a, hwf, hn, h, h6 => by
    obtain ⟨⟨h0, h1⟩, h2⟩ := h c List.mem_cons_self
    have hn2 := List.nodup_cons.mp hn
    obtain ⟨g1, g2, g3, g4⟩ := pa_go_wf hwf h0 h1 h2
    have hi : i ≠ c := fun e => by rw [e] at h6; omega
    have e2 : (pa_cw a c (pa_take (pa_young (a.2.1 c)) 0)).2.1 i = a.2.1 i := pa_cw_ne hi
    have e : (pa_go a c).2.1 i = a.2.1 i := by
      unfold pa_go
      rw [pa_step_o (pa_ready_wf hwf h0 h1 h2) h0 h1 hi (by rw [e2]; exact h6), e2]
    rw [List.foldl_cons, pa_goes_o l (pa_go a c) g1 hn2.2 (fun j hj => by
      obtain ⟨q1, q2⟩ := h j (List.mem_cons_of_mem _ hj)
      have hic : j ≠ c := fun e => hn2.1 (by rw [← e]; exact hj)
      rw [g4 j hic q2, g2]
      exact ⟨q1, q2⟩) (by rw [e]; exact h6), e]
theorem pa_round_o (h : pa_wf a) (h6 : 6 ≤ (a.2.1 i).1 2) : ((pa_round a).2.1 i).1 2 = (a.2.1 i).1 2 := by
  obtain ⟨q1, q2⟩ := pa_line_go h.1.1.1 (a.1 5).toNat
  unfold pa_round
  rw [pa_olds_2, pa_goes_o _ _ (pa_day_wf h) q1 q2 h6]
  rfl
theorem pa_lose_o : ((pa_lose a).2.1 i).1 2 = (a.2.1 i).1 2 := pa_olds_2 i
theorem pa_lose_wf (h : pa_wf a) : pa_wf (pa_lose a) := pa_olds_wf (pa_day_wf h)
theorem pa_ways_end : ∀ (m : Nat) (s : pa_M), pa_wf s → 6 ≤ (s.2.1 c).1 2 → pa_ways t c m s = t ^ m
  | 0, s, _, h6 => by
    unfold pa_ways
    rw [if_pos h6]
    simp
  | m + 1, s, hs, h6 => by
    unfold pa_ways
    rw [pa_ways_end m (pa_round s) (pa_round_wf hs).1 (by rw [pa_round_o hs h6]; exact h6), pa_ways_end m (pa_lose s) (pa_lose_wf hs) (by rw [pa_lose_o]; exact h6), Int.pow_succ, Int.sub_mul, Int.one_mul, Int.mul_comm]
    omega
theorem pa_lose_none (h : pa_line s = []) : (pa_lose s).2 = s.2 ∧ (pa_lose s).1 = (pa_day s).1 := by
  unfold pa_lose
  rw [h]
  refine ⟨?_, rfl⟩
  unfold pa_olds
  refine Prod.ext ?_ rfl
  funext i
  simp [pa_day]
theorem pa_ways_none : ∀ (m : Nat) (s : pa_M), pa_line s = [] → ¬ 6 ≤ (s.2.1 c).1 2 → pa_ways t c m s = 0
  | 0, s, _, h6 => by
    unfold pa_ways
    rw [if_neg h6]
  | m + 1, s, hl, h6 => by
    obtain ⟨u1, u2⟩ := pa_round_none hl
    obtain ⟨v1, v2⟩ := pa_lose_none hl
    have l1 : pa_line (pa_round s) = [] := by
      rw [pa_line_eq (a := s) (b := pa_round s) (by rw [u1]) (by rw [u2]; exact (pa_day4 s).1)]; exact hl
    have l2 : pa_line (pa_lose s) = [] := by
      rw [pa_line_eq (a := s) (b := pa_lose s) (by rw [v1]) (by rw [v2]; exact (pa_day4 s).1)]; exact hl
    unfold pa_ways
    rw [pa_ways_none m _ l1 (by rw [u1]; exact h6), pa_ways_none m _ l2 (by rw [v1]; exact h6)]
    simp
end
/-- minds behind the level may change -/
def pg_U (C : Nat) (L : Int) (x : Nat) : Prop := ∃ j : Int, L < j ∧ j < 8 ∧ pk_Z (pk_m C j) x
theorem pg_U_X {C : Nat} {L : Int} (hL : -1 ≤ L) (x : Nat) (h : pg_U C L x) : pg_X C x := by
  obtain ⟨j, j0, j8, h⟩ := h
  exact pg_mX (by omega) j8 x h
section
variable {d C B P : Nat} {Φ : Option pe_V → pe_H → Prop} {T U : Nat → Prop} {σ σ' σ1 σ2 : pe_H} {c i x D n t : Int} {l : List Int} {a s s' : pa_M} {im : Option pa_M} {h : Int → pa_Sh}
/-- power -/
theorem k128 (ht : 2 ≤ t ∧ t ≤ 20) (hn : 0 ≤ n ∧ n ≤ 7) (k : Φ (some (.inr (.inl (t ^ n.toNat)))) σ) : pe_M (d + 1) 128 [.inl t, .inl n] σ Φ := by
  have loop : ∀ (m j : Nat), (j : Int) + m = n → pe_X d 128 (5, [some (.inl t), some (.inl n), some (.inr (.inl (t ^ j))), none, some (.inl (j : Int))], [], σ) Φ := by
    intro m
    induction m with
    | zero =>
      intro j hj
      refine b128_5 (k1 := fun _ => ?_) (k2 := fun r => by omega)
      refine b128_22 (k := ?_)
      rw [show n.toNat = j by omega] at k
      exact k
    | succ m ih =>
      intro j hj
      refine b128_5 (k1 := fun r => by omega) (k2 := fun _ => ?_)
      refine b128_11 (k := ?_)
      rw [← Int.pow_succ]
      exact ih (j + 1) (by push_cast; omega)
  refine pe_M_of ck128 (Nat.le_of_ble_eq_true rfl) ?_
  refine b128_0 (k := ?_)
  have := loop n.toNat 0 (by omega)
  rw [Int.pow_zero] at this
  exact this
theorem pe_mod_half {r q : Nat} (hr : 0 < r) : q % r = 0 ∨ 2 * (r % (q % r)) ≤ r := by
  by_cases e : q % r = 0
  · exact Or.inl e
  · right
    have h1 := Nat.mod_lt q hr
    have h2 := Nat.mod_lt r (by omega : 0 < q % r)
    by_cases h3 : 2 * (q % r) ≤ r
    · omega
    · have : r % (q % r) = r - q % r := by
        rw [Nat.mod_eq_sub_mod (by omega), Nat.mod_eq_of_lt (by omega)]
      omega
/-- inLeastTerms -/
theorem k129 {u v : Nat} (hu : u < 4611686018427387904) (hv : v < 4611686018427387904) (hv1 : 1 ≤ v) (hx : x = 0 ∨ x = 1) (k : Φ (some (.inr (.inl (pa_part (u : Int) (v : Int) x)))) σ) : pe_M (d + 1) 129 [.inr (.inl (u : Int)), .inr (.inl (v : Int)), .inl x] σ Φ := by
  have hend : ∀ (o7 o8 o9 o10 o11 : Option pe_V) (g : Nat), g = Nat.gcd v u → pe_X d 129 (45, [some (.inr (.inl (u : Int))), none, some (.inr (.inl (v : Int))), none, some (.inl x), some (.inr (.inl (g : Int))), none, o7, o8, o9, o10, o11], [], σ) Φ := fun o7 o8 o9 o10 o11 g hg => by
    have hgp : 0 < g := by rw [hg]; exact Nat.gcd_pos_of_pos_left _ (by omega)
    have hgl : g ≤ v := by rw [hg]; exact Nat.gcd_le_left _ (by omega)
    have e : pe_lcmp (g : Int) 0 = _ := pe_lcmp_s (by omega) (by decide)
    have e0 : pe_lcmp (g : Int) 0 = 1 := by rw [e, if_neg (by omega), if_neg (by omega)]
    have ea : pe_wl (u : Int) = u := pe_wl_id (by omega)
    have eb : pe_wl (v : Int) = v := pe_wl_id (by omega)
    have eg : pe_wl (g : Int) = g := pe_wl_id (by omega)
    have hpu : x = 0 → Int.tdiv (u : Int) (g : Int) = pa_part u v x := fun hx0 => by
      unfold pa_part
      rw [Int.toNat_natCast, Int.toNat_natCast, Nat.gcd_comm, ← hg, if_pos hx0, hx0, Int.tdiv_eq_ediv_of_nonneg (by omega)]
      split
      · rename_i q; rw [q]; simp
      · rfl
    have hpv : x = 1 → Int.tdiv (v : Int) (g : Int) = pa_part u v x := fun hx1 => by
      unfold pa_part
      rw [Int.toNat_natCast, Int.toNat_natCast, Nat.gcd_comm, ← hg, if_neg (show ¬ x = 0 by omega), hx1, Int.tdiv_eq_ediv_of_nonneg (by omega)]
      split
      · rename_i q
        have : u = 0 := by omega
        subst this
        rw [Nat.gcd_zero_right] at hg
        subst hg
        exact Int.ediv_self (by omega)
      · rfl
    refine b129_45 (w0 := by rw [e0]; unfold pe_in; decide) (k1 := fun _ => ?_) (k2 := fun r => by omega)
    refine b129_54 (k1 := fun rx => ?_) (k2 := fun rx => ?_)
    · refine b129_63 (k := ?_)
      refine b129_64 (h0 := by rw [eg]; omega) (k := ?_)
      rw [eb, eg, hpv (by omega)]
      exact k
    · refine b129_59 (k := ?_)
      refine b129_64 (h0 := by rw [eg]; omega) (k := ?_)
      rw [ea, eg, hpu rx]
      exact k
  have loop : ∀ (m dv r : Nat) (i : Int) (o10 o11 : Option pe_V), r < 2 ^ m → m ≤ 62 → dv < 4611686018427387904 → r < 4611686018427387904 → 0 ≤ i → i + 2 * (m : Int) ≤ 900 → Nat.gcd dv r = Nat.gcd v u → pe_X d 129 (9, [some (.inr (.inl (u : Int))), none, some (.inr (.inl (v : Int))), none, some (.inl x), some (.inr (.inl (dv : Int))), none, some (.inr (.inl (r : Int))), none, some (.inl i), o10, o11], [], σ) Φ := by
    have stop : ∀ (dv : Nat) (i : Int) (o10 o11 : Option pe_V), 0 ≤ i → i ≤ 900 → Nat.gcd dv 0 = Nat.gcd v u → pe_X d 129 (9, [some (.inr (.inl (u : Int))), none, some (.inr (.inl (v : Int))), none, some (.inl x), some (.inr (.inl (dv : Int))), none, some (.inr (.inl ((0 : Nat) : Int))), none, some (.inl i), o10, o11], [], σ) Φ := fun dv i o10 o11 hi0 hi hg => by
      have e0 : pe_lcmp ((0 : Nat) : Int) 0 = 0 := by rw [pe_lcmp_s (by omega) (by decide)]; rfl
      refine b129_9 (k1 := fun r => by omega) (k2 := fun _ => ?_)
      refine b129_17 (w0 := by rw [e0]; unfold pe_in; decide) (k1 := fun _ => ?_) (k2 := fun r => by omega)
      exact hend _ _ _ _ _ dv (by rw [← hg, Nat.gcd_zero_right])
    have step : ∀ (dv r : Nat) (i : Int) (o10 o11 : Option pe_V), 0 < r → dv < 4611686018427387904 → r < 4611686018427387904 → 0 ≤ i → i ≤ 900 → (∀ o10 o11, pe_X d 129 (9, [some (.inr (.inl (u : Int))), none, some (.inr (.inl (v : Int))), none, some (.inl x), some (.inr (.inl (r : Int))), none, some (.inr (.inl ((dv % r : Nat) : Int))), none, some (.inl (i + 1)), o10, o11], [], σ) Φ) → pe_X d 129 (9, [some (.inr (.inl (u : Int))), none, some (.inr (.inl (v : Int))), none, some (.inl x), some (.inr (.inl (dv : Int))), none, some (.inr (.inl (r : Int))), none, some (.inl i), o10, o11], [], σ) Φ := fun dv r i o10 o11 hr hd1 hr1 hi0 hi kk => by
      have e : pe_lcmp (r : Int) 0 = _ := pe_lcmp_s (by omega) (by decide)
      have e0 : pe_lcmp (r : Int) 0 = 1 := by rw [e, if_neg (by omega), if_neg (by omega)]
      have ea : pe_wl (dv : Int) = dv := pe_wl_id (by omega)
      have eb : pe_wl (r : Int) = r := pe_wl_id (by omega)
      refine b129_9 (k1 := fun r => by omega) (k2 := fun _ => ?_)
      refine b129_17 (w0 := by rw [e0]; unfold pe_in; decide) (k1 := fun r => by omega) (k2 := fun _ => ?_)
      refine b129_24 (h0 := by rw [eb]; omega) (k := ?_)
      rw [ea, eb, show Int.tmod (dv : Int) (r : Int) = ((dv % r : Nat) : Int) from rfl]
      exact kk _ _
    have hgs : ∀ dv r : Nat, Nat.gcd r (dv % r) = Nat.gcd dv r := fun dv r => by rw [Nat.gcd_comm dv r, Nat.gcd_rec r dv, Nat.gcd_comm]
    intro m
    induction m with
    | zero =>
      intro dv r i o10 o11 hr hm hd1 hr1 hi0 hi hg
      have : r = 0 := by simp at hr; omega
      subst this
      exact stop dv i _ _ hi0 (by omega) hg
    | succ m ih =>
      intro dv r i o10 o11 hr hm hd1 hr1 hi0 hi hg
      by_cases hr0 : r = 0
      · subst hr0
        exact stop dv i _ _ hi0 (by push_cast at hi; omega) hg
      · have hlt := Nat.mod_lt dv (by omega : 0 < r)
        refine step dv r i _ _ (by omega) hd1 hr1 hi0 (by push_cast at hi; omega) (fun p10 p11 => ?_)
        rcases pe_mod_half (r := r) (q := dv) (by omega) with q | q
        · rw [q]
          exact stop r (i + 1) _ _ (by omega) (by push_cast at hi; omega) (by rw [← hg, ← hgs dv r, q])
        · by_cases hz : dv % r = 0
          · rw [hz]
            exact stop r (i + 1) _ _ (by omega) (by push_cast at hi; omega) (by rw [← hg, ← hgs dv r, hz])
          · have hlt2 := Nat.mod_lt r (by omega : 0 < dv % r)
            refine step r (dv % r) (i + 1) _ _ (by omega) hr1 (by omega) (by omega) (by push_cast at hi; omega) (fun q10 q11 => ?_)
            refine ih (dv % r) (r % (dv % r)) (i + 1 + 1) _ _ ?_ (by omega) (by omega) (by omega) (by omega) (by push_cast at hi; omega) (by rw [hgs, hgs, hg])
            rw [Nat.pow_succ] at hr
            omega
  refine pe_M_of ck129 (Nat.le_of_ble_eq_true rfl) ?_
  refine b129_0 (k := ?_)
  exact loop 62 v u 0 _ _ (by omega) (by decide) hv hu (by decide) (by decide) rfl
/-- waysEnded's roads through the levels' array -/
theorem b127r_0 {d C : Nat} {Φ : Option pe_V → pe_H → Prop} {σ : pe_H} {x1 x2 x3 x4 : Int} {o5 o6 o7 o8 : Option pe_V} (hF : pk_Fs C σ) (h1 : 0 ≤ x1) (h2 : x1 < 8) (h3 : 0 ≤ x3) (h4 : x3 < 8) (k : pe_M d 3 [.inr (.inr (pk_c (pk_m C x1) x3))] σ (fun r σ' => pe_X d 127 (15, [some (.inr (.inr (C + 175))), some (.inl x1), some (.inl x2), some (.inl x3), some (.inl x4), some (.inr (.inr (pk_m C x1))), o6, o7, o8], r.toList ++ [], σ') Φ)) : pe_X d 127 (0, [some (.inr (.inr (C + 175))), some (.inl x1), some (.inl x2), some (.inl x3), some (.inl x4), o5, o6, o7, o8], [], σ) Φ := by
  have hm := pk_sMi hF h1 h2
  have eM := pk_sE hF h1 h2
  have e1 := pk_mR2 hm
  have eC := pk_mE2 hm h3 h4
  refine b127_0 (w0 := by unfold pe_in; omega) (w1 := by unfold pe_in; omega) (h0 := by rw [pk_sK2 hF]; decide) (h1 := h1) (h2 := by rw [pk_sL2 hF]; exact h2) (h3 := by rw [eM]; exact pk_mK hm) (h4 := by rw [eM, e1, pk_mK2 hm]; decide) (h5 := h3) (h6 := by rw [eM, e1, pk_mL2 hm]; exact h4) (h7 := by rw [eM, e1, eC]; exact pk_oK (pk_mO hm h3 h4)) ?_
  rw [eM, e1, eC]
  exact k
theorem b127r_29 {d C : Nat} {Φ : Option pe_V → pe_H → Prop} {σ : pe_H} {x1 x2 x3 x4 : Int} {a5 : Nat} {o6 o7 o8 : Option pe_V} (hF : pk_Fs C σ) (h1 : 0 ≤ x1) (h2 : x1 < 8) (f5 : pk_Fm a5 σ := by assumption) (k1 : 8 ≤ x1 + 1 → pe_X d 127 (45, [some (.inr (.inr (C + 175))), some (.inl x1), some (.inl x2), some (.inl x3), some (.inl x4), some (.inr (.inr a5)), o6, o7, o8], [], σ) Φ) (k2 : ¬ 8 ≤ x1 + 1 → pe_X d 127 (37, [some (.inr (.inr (C + 175))), some (.inl x1), some (.inl x2), some (.inl x3), some (.inl x4), some (.inr (.inr a5)), o6, o7, o8], [], σ) Φ) : pe_X d 127 (29, [some (.inr (.inr (C + 175))), some (.inl x1), some (.inl x2), some (.inl x3), some (.inl x4), some (.inr (.inr a5)), o6, o7, o8], [], σ) Φ := by
  have e := pk_sL2 hF
  exact b127_29 f5 (w0 := by rw [e]; unfold pe_in; decide) (w1 := by unfold pe_in; omega) (h0 := by rw [pk_sK2 hF]; decide) (k1 := fun r => k1 (by rw [e] at r; exact r)) (k2 := fun r => k2 (by rw [e] at r; exact r))
theorem b127r_47 {d C : Nat} {Φ : Option pe_V → pe_H → Prop} {σ : pe_H} {x1 x2 x3 x4 : Int} {a5 : Nat} {o6 o7 o8 : Option pe_V} (hF : pk_Fs C σ) (h1 : -1 ≤ x1) (h2 : x1 + 1 < 8) (f5 : pk_Fm a5 σ := by assumption) (k : pe_M d 15 [.inr (.inr (pk_m C (x1 + 1))), .inr (.inr a5)] σ (fun r σ' => pe_X d 127 (61, [some (.inr (.inr (C + 175))), some (.inl x1), some (.inl x2), some (.inl x3), some (.inl x4), some (.inr (.inr a5)), some (.inr (.inr (pk_m C (x1 + 1)))), o7, o8], r.toList ++ [], σ') Φ)) : pe_X d 127 (47, [some (.inr (.inr (C + 175))), some (.inl x1), some (.inl x2), some (.inl x3), some (.inl x4), some (.inr (.inr a5)), o6, o7, o8], [], σ) Φ := by
  have h0 : 0 ≤ x1 + 1 := by omega
  have eM := pk_sE hF h0 h2
  refine b127_47 f5 (w0 := by unfold pe_in; omega) (h0 := by rw [pk_sK2 hF]; decide) (h1 := h0) (h2 := by rw [pk_sL2 hF]; exact h2) (h3 := by rw [eM]; exact pk_mK (pk_sMi hF h0 h2)) ?_
  rw [eM]
  exact k
/-- waysEnded -/
theorem k127 (hw : pg_W a im h) (ht : 2 ≤ t ∧ t ≤ 20) (c0 : 0 ≤ c) (c8 : c < 8) : ∀ (m : Nat) (L : Int) (d : Nat) (Φ : Option pe_V → pe_H → Prop) (σ : pe_H) (s : pa_M), 0 ≤ L → L + m ≤ 7 → pg_G C T U σ a im h → pk_RM (pk_m C L) T σ s → pa_wf s → c < s.1 4 → (∀ σ2, pk_fr (pg_U C L) σ σ2 → pg_G C T U σ2 a im h → Φ (some (.inr (.inl (pa_ways t c m s)))) σ2) → pe_M (d + m + 16) 127 [.inr (.inr (C + 175)), .inl L, .inl (m : Int), .inl c, .inl t] σ Φ := by
  intro m
  induction m with
  | zero =>
    intro L d Φ σ s hL hLm hG hM hs c1 k
    have hF := hG.F
    have hm := hM.F
    have ho : pk_Fo (pk_c (pk_m C L) c) σ := pk_mO hm c0 c8
    refine pe_M_of ck127 (Nat.le_of_ble_eq_true rfl) ?_
    refine b127r_0 hF hL (by omega) c0 c8 ?_
    refine pe_M.up (k3 (d := 0) ho (hM.i c0 c1).2.1 (hs.1.2.2.1 c c0 c1).1.2.1 (fun r6 => ?_) (fun r6 => ?_)) (by omega)
    · rw [pa_ways_end 0 s hs r6] at k
      refine b127_15 (k1 := fun r => by omega) (k2 := fun _ => ?_)
      refine b127_18 (k := ?_)
      refine pe_M.up (k128 (d := 0) ht (by omega) ?_) (by omega)
      refine b127_24 (k := ?_)
      exact k σ (pk_fr_refl _ _) hG
    · unfold pa_ways at k
      rw [if_neg r6] at k
      refine b127_15 (k1 := fun _ => ?_) (k2 := fun r => by omega)
      refine b127_25 (k1 := fun _ => ?_) (k2 := fun r => by omega)
      refine b127_45 (k := ?_)
      exact k σ (pk_fr_refl _ _) hG
  | succ m ih =>
    intro L d Φ σ s hL hLm hG hM hs c1 k
    have hF := hG.F
    have hm := hM.F
    have ho : pk_Fo (pk_c (pk_m C L) c) σ := pk_mO hm c0 c8
    have h84 := hs.1.1
    have em : (((m + 1 : Nat) : Int)).toNat = m + 1 := by omega
    refine pe_M_of ck127 (Nat.le_of_ble_eq_true rfl) ?_
    refine b127r_0 hF hL (by omega) c0 c8 ?_
    refine pe_M.up (k3 (d := 0) ho (hM.i c0 c1).2.1 (hs.1.2.2.1 c c0 c1).1.2.1 (fun r6 => ?_) (fun r6 => ?_)) (by omega)
    · rw [pa_ways_end (m + 1) s hs r6] at k
      refine b127_15 (k1 := fun r => by omega) (k2 := fun _ => ?_)
      refine b127_18 (k := ?_)
      refine pe_M.up (k128 (d := 0) ht (by push_cast at hLm; omega) ?_) (by omega)
      refine b127_24 (k := ?_)
      rw [em]
      exact k σ (pk_fr_refl _ _) hG
    · push_cast at hLm
      refine b127_15 (k1 := fun _ => ?_) (k2 := fun r => by omega)
      refine b127_25 (k1 := fun r => by push_cast at r; omega) (k2 := fun _ => ?_)
      refine b127r_29 hF hL (by omega) (k1 := fun r => by omega) (k2 := fun _ => ?_)
      have hb := pa_bits_255 (pa_isAble s) (n := (s.1 4).toNat) (by omega)
      refine b127_37 (k := ?_)
      refine pe_M.up (k19 (d := 0) hM hs.1 ?_) (by omega)
      by_cases hl : pa_line s = []
      · rw [pa_ways_none (m + 1) s hl r6] at k
        rw [(pa_able_0 hs).mpr hl]
        refine b127_42 (k1 := fun r => absurd rfl r) (k2 := fun _ => ?_)
        refine b127_45 (k := ?_)
        exact k σ (pk_fr_refl _ _) hG
      · have h0 := fun q => hl ((pa_able_0 hs).mp q)
        refine b127_42 (k1 := fun _ => ?_) (k2 := fun r => absurd r h0)
        have hUL : ∀ y, pk_Z (pk_m C (L + 1)) y → pg_U C L y := fun y hy => ⟨L + 1, by omega, by omega, hy⟩
        have hUU : ∀ y, pg_U C (L + 1) y → pg_U C L y := fun y hy => by
          obtain ⟨j, j0, j8, hy⟩ := hy
          exact ⟨j, by omega, j8, hy⟩
        have hUB : ∀ y, pg_U C L y → ¬ (pk_m C L ≤ y ∧ y < pk_m C L + 87) := fun y hy => by
          obtain ⟨j, j0, j8, hy⟩ := hy
          unfold pk_Z pk_m at hy
          unfold pk_m
          omega
        have hUB1 : ∀ y, pg_U C (L + 1) y → ¬ (pk_m C (L + 1) ≤ y ∧ y < pk_m C (L + 1) + 87) := fun y hy => by
          obtain ⟨j, j0, j8, hy⟩ := hy
          unfold pk_Z pk_m at hy
          unfold pk_m
          omega
        have hUT : ∀ {σ1}, pg_G C T U σ1 a im h → ∀ y, T y → ¬ pg_U C L y := fun g y hy q => by
          obtain ⟨j, j0, j8, hy2⟩ := q
          exact g.Tm (by omega) j8 y hy hy2
        refine b127r_47 hF (by omega : -1 ≤ L) (by omega) (k := ?_)
        refine pe_M.up (k15m (d := 0) hG hw (by omega : 0 ≤ L + 1) (by omega) hL (by omega) (by omega) hM hs (fun σ2 e1 g2 m2 n2 => ?_)) (by omega)
        have hF2 := g2.F
        have hm2 := m2.F
        have hn2 := n2.F
        have f2 := pk_fr_mono e1 hUL
        refine b127_61 (k := ?_)
        refine pe_M.up (k28 (d := 0) m2 hs (fun σ3 e1 e2 e3 => ?_)) (by omega)
        have e1 := pk_fr_mono e1 pk_Zb_Z
        have g3 := g2.mind hw (by omega : 0 ≤ L + 1) (by omega) e1 e3.F
        have hr := pa_round_wf hs
        have f3 := pk_fr_trans f2 (pk_fr_mono e1 hUL)
        have hF3 := g3.F
        have hm3 := e3.F
        have n3 := pk_RM_fr hM hs.1.w9 f3 hUB (hUT hG)
        have hn3 := n3.F
        refine b127_66 (k := ?_)
        rw [show (((m + 1 : Nat) : Int)) - 1 = (m : Int) by push_cast; omega]
        refine pe_M.up (ih (L + 1) d _ σ3 (pa_round s) (by omega) (by omega) g3 e3 hr.1 (by rw [(pa_round4 hs).1]; exact c1) (fun σ4 e4 g4 => ?_)) (by omega)
        have f4 := pk_fr_trans f3 (pk_fr_mono e4 hUU)
        have n4 := pk_RM_fr hM hs.1.w9 f4 hUB (hUT hG)
        have m4 := pk_RM_fr e3 hr.1.1.w9 e4 hUB1 (fun y hy q => hUT hG y hy (hUU y q))
        have hF4 := g4.F
        have hm4 := m4.F
        have hn4 := n4.F
        refine b127_85 (k := ?_)
        refine pe_M.up (k15m (d := 0) g4 hw (by omega : 0 ≤ L + 1) (by omega) hL (by omega) (by omega) n4 hs (fun σ5 e1 g5 m5 n5 => ?_)) (by omega)
        have hF5 := g5.F
        have hm5 := m5.F
        have f5 := pk_fr_trans f4 (pk_fr_mono e1 hUL)
        refine b127_95 (k := ?_)
        refine pe_M.up (k29 (d := 0) m5 hs (fun σ6 e1 e2 => ?_)) (by omega)
        have e1 := pk_fr_mono e1 pk_Zb_Z
        have g6 := g5.mind hw (by omega : 0 ≤ L + 1) (by omega) e1 e2.F
        have hF6 := g6.F
        have f6 := pk_fr_trans f5 (pk_fr_mono e1 hUL)
        refine b127_100 (k := ?_)
        rw [show (((m + 1 : Nat) : Int)) - 1 = (m : Int) by push_cast; omega]
        refine pe_M.up (ih (L + 1) d _ σ6 (pa_lose s) (by omega) (by omega) g6 e2 (pa_lose_wf hs) (by show c < (pa_day s).1 4; rw [(pa_day4 s).1]; exact c1) (fun σ7 e7 g7 => ?_)) (by omega)
        have f7 := pk_fr_trans f6 (pk_fr_mono e7 hUU)
        refine b127_115 (k := ?_)
        exact k σ7 f7 g7
/-- lost -/
theorem k101 (hG : pg_G C T U σ a im h) (hw : pg_W a im h) (hc : -2147483648 ≤ c ∧ c < 2147483648) (hn : -2147483648 ≤ n ∧ n < 2147483648) (ht : -2147483648 ≤ t ∧ t < 2147483648) (hx : -2147483648 ≤ x ∧ x < 2147483648) (k : ∀ σ2, pk_fr (pg_X C) σ σ2 → pg_G C T U σ2 a im h → Φ (some (.inr (.inl (pa_aLost a c n t x)))) σ2) : pe_M (d + 24) 101 [.inr (.inr C), .inl c, .inl n, .inl t, .inl x] σ Φ := by
  have hF := hG.F
  have h8 := hw.1.1.1.1
  unfold pa_aLost at k
  have hno : ¬ ((0 ≤ c ∧ c < a.1 4) ∧ (0 ≤ n ∧ n ≤ 7) ∧ (2 ≤ t ∧ t ≤ 20) ∧ 0 ≤ x ∧ x ≤ 1) → Φ (some (.inr (.inl 1000000001))) σ := fun q => by
    rw [if_pos q] at k
    exact k σ (pk_fr_refl _ _) hG
  refine pe_M_of ck101 (Nat.le_of_ble_eq_true rfl) ?_
  refine b101_0 (k := ?_)
  refine pe_M.up (k117 (d := 0) hF hG.M hw.1.1.1 hc (fun rc => ?_) (fun r => ?_)) (by omega)
  · refine b101_5 (k1 := fun r => by omega) (k2 := fun _ => ?_)
    refine b101_8 (k1 := fun r1 => ?_) (k2 := fun r1 => ?_)
    · refine b101_40 (k := ?_)
      exact hno (by omega)
    · refine b101_12 (k1 := fun r2 => ?_) (k2 := fun r2 => ?_)
      · refine b101_40 (k := ?_)
        exact hno (by omega)
      · refine b101_18 (k1 := fun r3 => ?_) (k2 := fun r3 => ?_)
        · refine b101_40 (k := ?_)
          exact hno (by omega)
        · refine b101_23 (k1 := fun r4 => ?_) (k2 := fun r4 => ?_)
          · refine b101_40 (k := ?_)
            exact hno (by omega)
          · refine b101_29 (k1 := fun r5 => ?_) (k2 := fun r5 => ?_)
            · refine b101_40 (k := ?_)
              exact hno (by omega)
            · refine b101_34 (k1 := fun r6 => ?_) (k2 := fun r6 => ?_)
              · rw [if_neg (by omega)] at k
                refine b101_44 (k := ?_)
                refine pe_M.up (k15 (d := 0) hG.M hw.1.1.1 hw.1.1.2.1 (pk_sMi hF (by decide) (by decide)) (by unfold pk_m; omega) (hG.Tm (by decide) (by decide)) (fun σ2 e1 e2 e3 => ?_)) (by omega)
                have g2 := hG.mind hw (by decide) (by decide) e1 e3.F
                have hF2 := g2.F
                have f2 : pk_fr (pg_X C) σ σ2 := pk_fr_mono e1 (pg_mX (by decide) (by decide))
                have hwb := pa_ways_b t c (by omega) n.toNat a
                have hpb := pa_pow_b (t := t) (by omega) (by omega) n.toNat (by omega)
                refine b101_57 (k := ?_)
                have hk := k127 (C := C) (T := T) (U := U) (t := t) (c := c) hw ⟨by omega, by omega⟩ rc.1 (by omega) n.toNat 0 (7 - n.toNat) (fun r σ' => pe_X (d + 23) 101 (68, [some (.inr (.inr C)), some (.inl c), some (.inl n), some (.inl t), some (.inl x)], r.toList ++ [], σ') Φ) σ2 a (by decide) (by omega) g2 e3 hw.1.1 rc.2 (fun σ3 e4 g3 => ?_)
                · rw [show ((n.toNat : Nat) : Int) = n by omega] at hk
                  exact pe_M.up hk (by omega)
                · refine b101_68 (k := ?_)
                  refine pe_M.up (k128 (d := 0) ⟨by omega, by omega⟩ ⟨by omega, by omega⟩ ?_) (by omega)
                  refine b101_73 (k := ?_)
                  obtain ⟨u, hu⟩ : ∃ u : Nat, (u : Int) = pa_ways t c n.toNat a := ⟨(pa_ways t c n.toNat a).toNat, by omega⟩
                  obtain ⟨v, hv⟩ : ∃ v : Nat, (v : Int) = t ^ n.toNat := ⟨(t ^ n.toNat).toNat, by omega⟩
                  rw [← hu, ← hv] at k ⊢
                  refine pe_M.up (k129 (d := 0) (by omega) (by omega) (by omega) (by omega) ?_) (by omega)
                  refine b101_78 (k := ?_)
                  exact k σ3 (pk_fr_trans f2 (pk_fr_mono e4 (pg_U_X (by decide)))) g3
              · refine b101_40 (k := ?_)
                exact hno (by omega)
  · refine b101_5 (k1 := fun _ => ?_) (k2 := fun r => absurd rfl r)
    refine b101_40 (k := ?_)
    exact hno (by omega)
/-- share -/
theorem k102 (hG : pg_G C T U σ a im h) (hw : pg_W a im h) (hx : -2147483648 ≤ x ∧ x < 2147483648) (k : Φ (some (.inr (.inl (pa_shareOf a x)))) σ) : pe_M (d + 3) 102 [.inr (.inr C), .inl x] σ Φ := by
  have hF := hG.F
  have hM := hG.M
  have h8 := hw.1.1.1.1
  have e4 := hM.cnt.1
  unfold pa_shareOf at k
  have hno : ¬ (0 ≤ x ∧ x ≤ 1) → Φ (some (.inr (.inl 1000000001))) σ := fun q => by
    rw [if_pos q] at k
    exact k
  have hb := pa_bits_255 (pa_isEnd a) (n := (a.1 4).toNat) (by omega)
  have hcb := pa_cnt_b (pa_isEnd a) (a.1 4).toNat
  rw [pb_c_bits _ _ (by omega)] at k
  have hend : ∀ (v : Nat), 1 ≤ v → v ≤ 8 → pa_part (pa_cnt (pa_isEnd a) (a.1 4).toNat) (v : Int) x = pa_part (pa_cnt (pa_isEnd a) (a.1 4).toNat) (a.1 4) x → 0 ≤ x → x ≤ 1 → ∀ o2, pe_X (d + 2) 102 (34, [some (.inr (.inr C)), some (.inl x), o2], [.inl (v : Int)], σ) Φ := fun v v1 v8 hp x0 x1 o2 => by
    rw [if_neg (by omega), ← hp] at k
    refine b102_34 (k := ?_)
    refine pe_M.up (k17 (d := 0) hM hw.1.1.1 ?_) (by omega)
    refine b102_42 (k := ?_)
    refine pe_M.up (k245 (d := 0) ?_) (by omega)
    rw [pb_c_bits _ _ (by omega)]
    refine b102_45 (k := ?_)
    obtain ⟨u, hu⟩ : ∃ u : Nat, (u : Int) = pa_cnt (pa_isEnd a) (a.1 4).toNat := ⟨(pa_cnt (pa_isEnd a) (a.1 4).toNat).toNat, by omega⟩
    rw [← hu] at k ⊢
    refine pe_M.up (k129 (d := 0) (by omega) (by omega) v1 (by omega) ?_) (by omega)
    refine b102_52 (k := ?_)
    exact k
  refine pe_M_of ck102 (Nat.le_of_ble_eq_true rfl) ?_
  refine b102_0 (k1 := fun r1 => ?_) (k2 := fun r1 => ?_)
  · refine b102_9 (k := ?_)
    exact hno (by omega)
  · refine b102_4 (k1 := fun r2 => ?_) (k2 := fun r2 => ?_)
    · refine b102_13 (k1 := fun r3 => ?_) (k2 := fun r3 => ?_)
      · refine b102_27 (k := ?_)
        rw [e4]
        have := hend (a.1 4).toNat (by omega) (by omega) (by rw [show (((a.1 4).toNat : Nat) : Int) = a.1 4 by omega]) (by omega) r2 none
        rw [show (((a.1 4).toNat : Nat) : Int) = a.1 4 by omega] at this
        exact this
      · refine b102_23 (k := ?_)
        refine hend 1 (by decide) (by decide) ?_ (by omega) r2 _
        have : pa_cnt (pa_isEnd a) (a.1 4).toNat = 0 := by omega
        rw [this]
        rfl
    · refine b102_9 (k := ?_)
      exact hno (by omega)
end
