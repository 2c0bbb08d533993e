/-! THE LAW: the ages at a round's end, rounds -/
section
variable {d o r q x y : Nat} {Z : Int → Prop} {Φ : Option pe_V → pe_H → Prop} {σ σ' : pe_H} {g g' : Nat → Int} {c e v n : Int} {a s : pa_M} {w : pa_C} {nu : Nat → Int} {k0 : Nat} {l : List Int} {f : pa_F} {fs : List pa_F}
theorem k162_old {could gone : Int} {l1 l2 : List Int} {s : pa_M} {o1 : Option pe_V} (hwf : pa_wf a) (hs : pa_wf s) (hs4 : s.1 4 = a.1 4) (hL : ∀ z, z ∈ pa_line a ↔ z ∈ l1 ∨ z ∈ l2) (hdis : ∀ z, z ∈ l1 → z ∉ l2) (hage : ∀ i, (s.2.1 i).1 6 = if i ∈ l1 then 0 else (a.2.1 i).1 6) (hc0 : 0 ≤ could ∧ could ≤ 255) (hg0 : 0 ≤ gone ∧ gone ≤ 255) (hcb : ∀ i : Nat, i < 8 → (pb_h could i = true ↔ (i : Int) ∈ pa_line a)) (hgb : ∀ i : Nat, i < 8 → (pb_h gone i = true ↔ (i : Int) ∈ l1)) (o4 o5 o6 o7 o8 : Option pe_V) (hR : ll_R σ g (pa_A (fun i => (a.2.1 i).1 6) s)) (k : ∀ σ2, ll_fr ll_Zs 0 0 σ g σ2 g → ll_R σ2 g (pa_olds s l2) → Φ none σ2) : pe_X (d + 1) 162 (187, [some (.inr (.inr 3)), o1, some (.inl could), some (.inl gone), o4, o5, o6, o7, o8], [], σ) Φ := by
  have h8 := hwf.1.1
  have hmem := fun z => pa_line_mem h8.1 z
  have hin2 : ∀ z, z ∈ l2 → z ∈ pa_line a := fun z hz => (hL z).mpr (Or.inr hz)
  have ageb : ∀ i, 0 ≤ i → i < a.1 4 → 0 ≤ (a.2.1 i).1 6 ∧ (a.2.1 i).1 6 ≤ 999 := fun i i0 i1 => (hwf.1.2.2.1 i i0 i1).1.2.2.2.2.2.1
  have hf : ∃ f : Int → Int, (∀ i, f i = if i ∈ l1 then 0 else if i ∈ l2 then (if (a.2.1 i).1 6 < 999 then (a.2.1 i).1 6 + 1 else (a.2.1 i).1 6) else (a.2.1 i).1 6) := ⟨_, fun _ => rfl⟩
  obtain ⟨f, hf⟩ := hf
  have hfin : pa_olds s l2 = pa_A f s := by
    unfold pa_olds
    refine Prod.ext rfl (Prod.ext ?_ rfl)
    funext i
    show (if i ∈ l2 then pa_old (s.2.1 i) else s.2.1 i) = pa_a6 (f i) (s.2.1 i)
    have hi := hage i
    by_cases e : i ∈ l2
    · have e1 : i ∉ l1 := fun h => hdis i h e
      rw [if_neg e1] at hi
      rw [if_pos e, hf i, if_neg e1, if_pos e]
      unfold pa_old pa_a6
      rw [hi]
    · rw [if_neg e, pa_a6_id]
      rw [hf i, hi, if_neg e]
  have loop : ∀ (m i : Nat) (σ1 : pe_H), (i : Int) + m = a.1 4 → ll_fr ll_Zs 0 0 σ g σ1 g → ll_R σ1 g (pa_A (fun j => if j < i then f j else (a.2.1 j).1 6) s) → pe_X (d + 1) 162 (190, [some (.inr (.inr 3)), o1, some (.inl could), some (.inl gone), some (.inl (i : Int)), o5, o6, o7, o8], [], σ1) Φ := by
    intro m
    induction m with
    | zero =>
      intro i σ1 hi g1 g2
      have hc : pe_I σ1 3 3 = a.1 4 := g2.mn.trans hs4
      have hL1 := g2.L
      refine b162_190 (w0 := by rw [hc]; unfold pe_in; omega) (k1 := fun _ => ?_) (k2 := fun r => by omega)
      refine b162_255 (k := ?_)
      refine k σ1 g1 ?_
      rw [hfin]
      have : (fun j => if j < (i : Int) then f j else (a.2.1 j).1 6) = f := by
        funext j
        by_cases e : j < (i : Int)
        · rw [if_pos e]
        · have hn : j ∉ pa_line a := fun h => by have := (hmem j).mp h; omega
          rw [if_neg e, hf j, if_neg (fun h => hn ((hL j).mpr (Or.inl h))), if_neg (fun h => hn (hin2 j h))]
      rw [this] at g2
      exact g2
    | succ m ih =>
      intro i σ1 hi g1 g2
      have hc : pe_I σ1 3 3 = a.1 4 := g2.mn.trans hs4
      have hL1 := g2.L
      have hi4 : (i : Int) < a.1 4 := by omega
      have hstep : ∀ v σ2, ll_fr ll_Zs 0 0 σ g σ2 g → v = f i → ll_R σ2 g (pa_A (fun j => if j = (i : Int) then v else if j < i then f j else (a.2.1 j).1 6) s) → pe_X (d + 1) 162 (249, [some (.inr (.inr 3)), o1, some (.inl could), some (.inl gone), some (.inl (i : Int)), o5, o6, o7, o8], [], σ2) Φ := fun v σ2 f1 f2 f3 => by
        have hL2 := f3.L
        refine b162_249 (k := ?_)
        have := ih (i + 1) σ2 (by push_cast; omega) f1 (by
          have : (fun j => if j = (i : Int) then v else if j < i then f j else (a.2.1 j).1 6) = (fun j => if j < ((i + 1 : Nat) : Int) then f j else (a.2.1 j).1 6) := by
            funext j
            by_cases e : j = (i : Int)
            · rw [if_pos e, if_pos (by omega), f2, e]
            · rw [if_neg e]
              by_cases e2 : j < (i : Int)
              · rw [if_pos e2, if_pos (by omega)]
              · rw [if_neg e2, if_neg (by omega)]
          rw [← this]
          exact f3)
        exact this
      have h1i : (i : Int) < (pa_A (fun j => if j < (i : Int) then f j else (a.2.1 j).1 6) s).1 4 := by show (i : Int) < s.1 4; omega
      have hw9 : pa_wf9 (pa_A (fun j => if j < (i : Int) then f j else (a.2.1 j).1 6) s) := ⟨hs.1.1, fun c h0 h1 => (hs.1.2.2.1 c h0 h1).2.1⟩
      have hCi := g2.co (by omega : 0 ≤ (i : Int)) h1i
      have hK := hCi.1.1
      have e11 : pe_I σ1 (pe_R σ1 891 i) 7 = (a.2.1 i).1 6 := by
        rw [hCi.2.1.1.2.2.2.2.2.2.2, pa_A_co]
        simp [pa_a6, pa_s]
      have hab := ageb i (by omega) hi4
      have hset : ∀ v, v = f i → pe_X (d + 1) 162 (246, [some (.inr (.inr 3)), o1, some (.inl could), some (.inl gone), some (.inl (i : Int)), o5, o6, o7, o8], [.inl v, .inr (.inr (pe_R σ1 891 i))], σ1) Φ := fun v hv => by
        refine b162_246 (k := ?_)
        obtain ⟨p3, g3⟩ := g2.num (v := v) hw9 (by omega : 0 ≤ (i : Int)) h1i (j := 7) (by decide) (ll_N.j (i := 6) (Or.inr (Or.inr ⟨rfl, rfl⟩)) hCi.2.1 v) (fun q => by rw [pa_sn (by decide)] at q; exact q)
        refine hstep v _ (ll_fr_mono (ll_fr_trans g1 p3) (fun _ h => h)) hv ?_
        have : pa_cw (pa_A (fun j => if j < (i : Int) then f j else (a.2.1 j).1 6) s) i (pa_s ((pa_A (fun j => if j < (i : Int) then f j else (a.2.1 j).1 6) s).2.1 i).1 6 v, ((pa_A (fun j => if j < (i : Int) then f j else (a.2.1 j).1 6) s).2.1 i).2) = pa_A (fun j => if j = (i : Int) then v else if j < i then f j else (a.2.1 j).1 6) s := by
          refine Prod.ext rfl (Prod.ext ?_ rfl)
          funext j
          show (if j = (i : Int) then _ else pa_a6 _ (s.2.1 j)) = pa_a6 (if j = (i : Int) then v else _) (s.2.1 j)
          by_cases e : j = (i : Int)
          · rw [if_pos e, if_pos e, e]
            exact pa_a6_a6
          · rw [if_neg e, if_neg e]
        rw [← this]
        exact g3
      refine b162_190 (w0 := by rw [hc]; unfold pe_in; omega) (k1 := fun r => by omega) (k2 := fun _ => ?_)
      refine b162_199 (k := ?_)
      refine k148 hc0 ⟨by omega, by omega⟩ (fun rb => ?_) (fun rb => ?_)
      · have hmi : (i : Int) ∈ pa_line a := (hcb i (by omega)).mp (by simpa using rb)
        refine b162_205 (k1 := fun r => by omega) (k2 := fun _ => ?_)
        refine b162_208 (k := ?_)
        refine k148 hg0 ⟨by omega, by omega⟩ (fun rg => ?_) (fun rg => ?_)
        · have hm1 : (i : Int) ∈ l1 := (hgb i (by omega)).mp (by simpa using rg)
          refine b162_221 (k1 := fun r => by omega) (k2 := fun _ => ?_)
          refine b162_224 (k := ?_)
          exact hset 0 (by rw [hf, if_pos hm1])
        · have hm1 : (i : Int) ∉ l1 := fun h => rg (by have := (hgb i (by omega)).mpr h; simpa using this)
          have hm2 : (i : Int) ∈ l2 := by
            rcases (hL i).mp hmi with h | h
            · exact absurd h hm1
            · exact h
          refine b162_221 (k1 := fun _ => ?_) (k2 := fun r => absurd rfl r)
          refine b162_228 (k := ?_)
          rw [e11]
          refine hset _ ?_
          rw [hf, if_neg hm1, if_pos hm2]
          by_cases e : (a.2.1 i).1 6 < 999
          · rw [if_pos e]
            split <;> omega
          · rw [if_neg e, if_neg (by omega)]; omega
      · have hmi : (i : Int) ∉ pa_line a := fun h => rb (by have := (hcb i (by omega)).mpr h; simpa using this)
        refine b162_205 (k1 := fun _ => ?_) (k2 := fun r => absurd rfl r)
        refine hstep ((a.2.1 i).1 6) σ1 g1 ?_ ?_
        · rw [hf, if_neg (fun h => hmi ((hL i).mpr (Or.inl h))), if_neg (fun h => hmi (hin2 i h))]
        · have : (fun j => if j = (i : Int) then (a.2.1 i).1 6 else if j < i then f j else (a.2.1 j).1 6) = (fun j => if j < (i : Int) then f j else (a.2.1 j).1 6) := by
            funext j
            by_cases e : j = (i : Int)
            · rw [if_pos e, if_neg (by omega), e]
            · rw [if_neg e]
          rw [this]
          exact g2
  have hL0 := hR.L
  refine b162_187 (k := ?_)
  refine loop (a.1 4).toNat 0 σ (by omega) (ll_fr_refl _ hR.gg) ?_
  have : (fun j => if j < ((0 : Nat) : Int) then f j else (a.2.1 j).1 6) = (fun i => (a.2.1 i).1 6) := by
    funext j
    by_cases e : j < ((0 : Nat) : Int)
    · have hn : j ∉ pa_line a := fun h => by have := (hmem j).mp h; omega
      rw [if_pos e, hf j, if_neg (fun h => hn ((hL j).mpr (Or.inl h))), if_neg (fun h => hn (hin2 j h))]
    · rw [if_neg e]
  rw [this]
  exact hR
/-- a round -/
theorem k162 (hR : ll_R σ g a) (hwf : pa_wf a) (h6 : 0 ≤ a.1 6 ∧ a.1 6 ≤ 1000000) (k : ∀ σ2 g2, ll_fr ll_Zs 560 2000 σ g σ2 g2 → ll_R σ2 g2 (pa_round a) → Φ none σ2) : pe_M (d + 15) 162 [.inr (.inr 3), .inl 0] σ Φ := by
  have h8 := hwf.1.1
  have h5w := hwf.1.2.1
  obtain ⟨hc0, hcb⟩ := pa_could_b hwf
  have hL := hR.L
  have e5 := hR.2.1.2.1
  have e6 := hR.2.1.2.2
  refine pe_M_of ck162 (Nat.le_of_ble_eq_true rfl) ?_
  refine b162_0 (k := ?_)
  rw [e6]
  obtain ⟨p1, hR1⟩ := hR.lw (j := 5) (v := a.1 6 + 1) (a' := pa_day a) (by omega) rfl (pa_day4 a).1 (by rw [pe_I_nej (by decide), (pa_day4 a).2]; exact e5) (by rw [pe_I_same]; simp [pa_day, pa_s])
  have hL1 := hR1.L
  refine b162_10 (k := ?_)
  obtain ⟨p2, hR2⟩ := hR1.lw (j := 8) (v := 0) (a' := pa_day a) (by omega) rfl rfl (by rw [pe_I_nej (by decide)]; exact hR1.2.1.2.1) (by rw [pe_I_nej (by decide)]; exact hR1.2.1.2.2)
  have hL2 := hR2.L
  refine b162_15 (k := ?_)
  generalize pe_wI (pe_wI σ 3 5 (a.1 6 + 1)) 3 8 0 = σ2 at *
  refine k162_could hwf hR2 (fun o3 => ?_)
  refine b162_51 (k := ?_)
  refine k162_go (d := d) (a := a) hwf hc0 hcb (a.1 5).toNat (pa_line a) [] 0 σ2 g 0 _ _ _ _ rfl (by omega) (by decide) (Or.inl rfl) (by decide) (fun i hi => by rw [pb_h_zero]; simp) (by rw [List.foldl_nil, pa_A_day]; exact hR2) (fun r l1 σ3 g3 gone o4 o5 o6 o7 o8 hL hl hend hg hgb f1 f2 => ?_)
  obtain ⟨p1', p2'⟩ := pa_line_go h8.1 l1.length
  have et : (pa_line a).take l1.length = l1 := by rw [hL]; simp
  rw [et] at p1' p2'
  obtain ⟨w1, w2, w3, w4⟩ := pa_goes_wf _ _ (pa_day_wf hwf) p1' p2'
  have hnd : (l1 ++ r).Nodup := by rw [← hL]; exact (pa_lineN_ok a _).1
  have ht : (pa_line a).take (a.1 5).toNat = l1 ∧ (pa_line a).drop (a.1 5).toNat = r := by
    rcases hend with h | h
    · rw [show (a.1 5).toNat = l1.length by omega, hL]
      simp
    · subst h
      rw [hL, List.append_nil]
      exact ⟨List.take_of_length_le (by omega), List.drop_of_length_le (by omega)⟩
  refine k162_old (d := d + 13) (a := a) (l1 := l1) (l2 := r) hwf w1 (by rw [w2, (pa_day4 a).1]) (fun z => by rw [hL, List.mem_append]) (fun z hz h => (List.nodup_append.mp hnd).2.2 z hz z h rfl) (fun i => by rw [pa_goes_age]; rfl) hc0 hg hcb hgb _ _ _ _ _ f2 (fun σ4 u1 u2 => ?_)
  refine k σ4 g3 (ll_fr_mono (ll_fr_trans (ll_fr_trans (ll_fr_trans p1 p2) f1) u1) (fun _ h => h)) ?_
  unfold pa_round
  rw [ht.1, ht.2]
  exact u2
/-- go -/
theorem k163 (hR : ll_R σ g a) (hwf : pa_wf a) (hn0 : 0 ≤ n) (hn : n ≤ 1000) (h6 : 0 ≤ a.1 6 ∧ a.1 6 + n ≤ 1000000) (k : ∀ σ2 g2, ll_fr ll_Zs (560 * n.toNat) (2000 * n.toNat) σ g σ2 g2 → ll_R σ2 g2 (pa_rounds n.toNat a) → pa_wf (pa_rounds n.toNat a) → Φ none σ2) : pe_M (d + 16) 163 [.inr (.inr 3), .inl n] σ Φ := by
  have loop : ∀ (m : Nat) (i : Int) (σ1 : pe_H) (g1 : Nat → Int) (s : pa_M), i + m = n → 0 ≤ i → ll_fr ll_Zs (560 * (n.toNat - m)) (2000 * (n.toNat - m)) σ g σ1 g1 → ll_R σ1 g1 s → pa_wf s → (0 ≤ s.1 6 ∧ s.1 6 + m ≤ 1000000) → pa_rounds m s = pa_rounds n.toNat a → pe_X (d + 15) 163 (2, [some (.inr (.inr 3)), some (.inl n), some (.inl i)], [], σ1) Φ := by
    intro m
    induction m with
    | zero =>
      intro i σ1 g1 s hi hi0 p1 p2 p3 p6 p4
      have hL := p2.L
      refine b163_2 (k1 := fun _ => ?_) (k2 := fun r => by omega)
      refine b163_18 (k := ?_)
      have p4 : s = pa_rounds n.toNat a := p4
      exact k σ1 g1 (ll_fr_mono p1 (fun _ h => h)) (by rw [← p4]; exact p2) (by rw [← p4]; exact p3)
    | succ m ih =>
      intro i σ1 g1 s hi hi0 p1 p2 p3 p6 p4
      have hL := p2.L
      refine b163_2 (k1 := fun r => by omega) (k2 := fun _ => ?_)
      refine b163_7 (k := ?_)
      refine k162 p2 p3 ⟨by omega, by omega⟩ (fun σ2 g2 q1 q2 => ?_)
      have hL2 := q2.L
      obtain ⟨w1, w2, -⟩ := pa_round_wf p3
      have e6 : (pa_round s).1 6 = s.1 6 + 1 := by rw [w2]; simp [pa_day, pa_s]
      refine b163_12 (k := ?_)
      exact ih (i + 1) σ2 g2 _ (by omega) (by omega) (ll_fr_mono (ll_fr_trans p1 q1) (fun _ h => h)) q2 w1 (by rw [e6]; omega) p4
  have hL := hR.L
  refine pe_M_of ck163 (Nat.le_of_ble_eq_true rfl) ?_
  refine b163_0 (k := ?_)
  exact loop n.toNat 0 σ g a (by omega) (by omega) (ll_fr_mono (ll_fr_refl _ hR.gg) (fun _ h => h)) hR hwf ⟨h6.1, by omega⟩ rfl
end
