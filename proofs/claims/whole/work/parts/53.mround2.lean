/-! THE MODEL: a round, who goes -/
theorem pa_gy_2 (p : pa_M × Int) (c : Int) : (pa_gy p c).2 = if ((pa_st1 (pa_cw p.1 c (pa_take (pa_young (p.1.2.1 c)) 0)) c false).2.1 c).1 2 = 2 then pe_or p.2 (pe_shl 1 c) else p.2 := rfl
section
variable {d M q : Nat} {Φ : Option pe_V → pe_H → Prop} {σ : pe_H} {y y' : Nat → Int → Int} {c n : Int} {a : pa_M}
theorem c169_best {could gone N x b k0 : Int} {l2 : List Int} (hF : pm_F M σ) (hN8 : 0 ≤ N ∧ N ≤ 8) (hN : y 0 3 = N) (hc0 : 0 ≤ could ∧ could ≤ 255) (hub : ∀ i : Nat, i < 8 → (pb_h (pe_and could (pe_xor gone (-1))) i = true ↔ (i : Int) ∈ x :: l2)) (hin : ∀ z ∈ x :: l2, 0 ≤ z ∧ z < N) (hbef : ∀ z ∈ l2, pa_bef (pm_rk y) x z) (hk : ∀ i, 0 ≤ i → i < N → (0 ≤ y 5 i ∧ y 5 i ≤ 5) ∧ (0 ≤ y 6 i ∧ y 6 i ≤ 9) ∧ (0 ≤ y 11 i ∧ y 11 i ≤ 999)) (k : pe_X (d + 2) 169 (136, [some (.inr (.inr M)), some (.inl b), some (.inl could), some (.inl gone), some (.inl k0), some (.inl x), some (.inl N)], [], pm_h M σ q y) Φ) : pe_X (d + 2) 169 (83, [some (.inr (.inr M)), some (.inl b), some (.inl could), some (.inl gone), some (.inl k0), some (.inl (-1)), some (.inl 0)], [], pm_h M σ q y) Φ := by
  have hu := pb_and_255 (y := pe_xor gone (-1)) hc0.1 hc0.2
  have loop : ∀ (m i : Nat) (v : Int), (i : Int) + m = N → ((v = -1 ∧ ∀ j : Int, j < i → j ∉ x :: l2) ∨ (v ∈ x :: l2 ∧ v < i ∧ ∀ j : Int, j < i → j ∈ x :: l2 → j = v ∨ pa_bef (pm_rk y) v j)) → pe_X (d + 2) 169 (83, [some (.inr (.inr M)), some (.inl b), some (.inl could), some (.inl gone), some (.inl k0), some (.inl v), some (.inl (i : Int))], [], pm_h M σ q y) Φ := by
    intro m
    induction m with
    | zero =>
      intro i v hi hv
      have hx := hin x List.mem_cons_self
      have hvx : v = x := by
        rcases hv with ⟨-, h⟩ | ⟨h1, h2, h3⟩
        · exact absurd List.mem_cons_self (h x (by omega))
        · rcases List.mem_cons.mp h1 with h | h
          · exact h
          · have g1 := hbef v h
            rcases h3 x (by omega) List.mem_cons_self with g | g
            · exact g.symm
            · unfold pa_bef at g1 g; omega
      subst hvx
      refine b169_83 hF (k1 := fun _ => ?_) (k2 := fun r => by omega)
      rw [show (i : Int) = N by omega]
      exact k
    | succ m ih =>
      intro i v hi hv
      have hnext : ∀ v', ((v' = -1 ∧ ∀ j : Int, j < ((i + 1 : Nat) : Int) → j ∉ x :: l2) ∨ (v' ∈ x :: l2 ∧ v' < ((i + 1 : Nat) : Int) ∧ ∀ j : Int, j < ((i + 1 : Nat) : Int) → j ∈ x :: l2 → j = v' ∨ pa_bef (pm_rk y) v' j)) → ∀ o5, pe_X (d + 2) 169 (128, [some (.inr (.inr M)), some (.inl b), some (.inl could), some (.inl gone), some (.inl k0), o5, some (.inl (i : Int))], [.inl v'], pm_h M σ q y) Φ := fun v' hv' o5 => by
        refine b169_128 hF (k := ?_)
        have := ih (i + 1) v' (by push_cast; omega) hv'
        exact this
      have hv8 : v = -1 ∨ (0 ≤ v ∧ v < N) := by
        rcases hv with ⟨h, -⟩ | ⟨h1, -, -⟩
        · exact Or.inl h
        · exact Or.inr (hin v h1)
      refine b169_83 hF (k1 := fun r => by omega) (k2 := fun _ => ?_)
      refine b169_92 hF (k := ?_)
      refine pe_M.up (c135 (d := 0) hF hu.1 hu.2 (by omega) (by omega) (fun rb => ?_) (fun rb => ?_)) (by omega)
      · have hmi : (i : Int) ∈ x :: l2 := (hub i (by omega)).mp (by simpa using rb)
        refine b169_102 hF (k1 := fun r => by omega) (k2 := fun _ => ?_)
        refine b169_105 hF (k1 := fun r => ?_) (k2 := fun r => ?_)
        · refine b169_121 hF (k := ?_)
          refine hnext _ (Or.inr ⟨hmi, by omega, fun j hj hjm => ?_⟩) _
          rcases hv with ⟨-, h⟩ | ⟨h1, h2, h3⟩
          · left
            by_cases e : j = (i : Int)
            · exact e
            · exact absurd hjm (h j (by omega))
          · have := hin v h1; omega
        · rcases hv with ⟨h, -⟩ | ⟨h1, h2, h3⟩
          · omega
          · have hvN := hin v h1
            refine b169_110 hF (k := ?_)
            refine c168 hF (by omega) (by omega) hvN.1 (by omega) (fun j hj => ?_) (fun rr => ?_) (fun rr => ?_)
            · rcases hj with rfl | rfl
              · exact hk _ (by omega) (by omega)
              · exact hk _ hvN.1 hvN.2
            · refine b169_118 hF (k1 := fun r => by omega) (k2 := fun _ => ?_)
              refine b169_121 hF (k := ?_)
              refine hnext _ (Or.inr ⟨hmi, by omega, fun j hj hjm => ?_⟩) _
              by_cases e : j = (i : Int)
              · exact Or.inl e
              · right
                rcases h3 j (by omega) hjm with g | g
                · subst g; exact rr
                · unfold pa_bef at rr g ⊢; omega
            · refine b169_118 hF (k1 := fun _ => ?_) (k2 := fun r => absurd rfl r)
              refine b169_126 hF (k := ?_)
              refine hnext _ (Or.inr ⟨h1, by omega, fun j hj hjm => ?_⟩) _
              by_cases e : j = (i : Int)
              · right
                subst e
                unfold pa_bef at rr ⊢
                omega
              · exact h3 j (by omega) hjm
      · have hmi : (i : Int) ∉ x :: l2 := fun h => by
          have := (hub i (by omega)).mpr h
          have rb : pb_h (pe_and could (pe_xor gone (-1))) i = false := by simpa using rb
          rw [rb] at this; cases this
        refine b169_102 hF (k1 := fun _ => ?_) (k2 := fun r => absurd rfl r)
        refine b169_126 hF (k := ?_)
        refine hnext _ ?_ _
        rcases hv with ⟨h, h2⟩ | ⟨h1, h2, h3⟩
        · refine Or.inl ⟨h, fun j hj => ?_⟩
          by_cases e : j = (i : Int)
          · subst e; exact hmi
          · exact h2 j (by omega)
        · refine Or.inr ⟨h1, by omega, fun j hj hjm => ?_⟩
          have e : j ≠ (i : Int) := fun e => by subst e; exact hmi hjm
          exact h3 j (by omega) hjm
  exact loop N.toNat 0 (-1) (by omega) (Or.inl ⟨rfl, fun j hj hm => by have := hin j hm; omega⟩)
theorem c169_go {could : Int} (hF : pm_F M σ) (hwf : pa_wf a) (hc0 : 0 ≤ could ∧ could ≤ 255) (hcb : ∀ i : Nat, i < 8 → (pb_h could i = true ↔ (i : Int) ∈ pa_line a)) : ∀ (r l1 : List Int) (y1 : Nat → Int → Int) (gone : Int) (o5 o6 : Option pe_V), pa_line a = l1 ++ r → (l1.length : Int) ≤ a.1 5 → (0 ≤ gone ∧ gone ≤ 255) → (∀ i : Nat, i < 8 → (pb_h gone i = true ↔ (i : Int) ∈ l1)) → pm_R y1 (pa_A (fun i => (a.2.1 i).1 6) (l1.foldl pa_go (pa_day a))) → y1 0 30 = (l1.foldl pa_gy (pa_day a, 0)).2 →
    (∀ (r l1 : List Int) (y2 : Nat → Int → Int) (gone : Int) (o4 o5 o6 : Option pe_V), pa_line a = l1 ++ r → (l1.length : Int) ≤ a.1 5 → ((l1.length : Int) = a.1 5 ∨ r = []) → (0 ≤ gone ∧ gone ≤ 255) → (∀ i : Nat, i < 8 → (pb_h gone i = true ↔ (i : Int) ∈ l1)) → pm_fr pm_Zs y1 y2 → pm_R y2 (pa_A (fun i => (a.2.1 i).1 6) (l1.foldl pa_go (pa_day a))) → y2 0 30 = (l1.foldl pa_gy (pa_day a, 0)).2 → pe_X (d + 6) 169 (199, [some (.inr (.inr M)), some (.inl 0), some (.inl could), some (.inl gone), o4, o5, o6], [], pm_h M σ q y2) Φ) →
    pe_X (d + 6) 169 (56, [some (.inr (.inr M)), some (.inl 0), some (.inl could), some (.inl gone), some (.inl (l1.length : Int)), o5, o6], [], pm_h M σ q y1) Φ := by
  have h8 := hwf.1.1
  have h5w := hwf.1.2.1
  have hmem := fun z => pa_line_mem h8.1 z
  have hdn := (pa_lineN_ok a (a.1 4).toNat).1
  have hlen := (pa_lineN_ok a (a.1 4).toNat).2.2
  have hlen : (pa_line a).length ≤ 8 := by have : (pa_line a).length ≤ (a.1 4).toNat := hlen; omega
  have ageb : ∀ i, 0 ≤ i → i < a.1 4 → 0 ≤ (a.2.1 i).1 6 ∧ (a.2.1 i).1 6 ≤ 999 := fun i i0 i1 => (hwf.1.2.2.1 i i0 i1).1.2.2.2.2.2.1
  intro r
  induction r with
  | nil =>
    intro l1 y1 gone o5 o6 hL hl hg hgb hM hy k
    have hwid : y1 0 28 = a.1 5 := by
      have h1 := hM.cnt.2.1
      obtain ⟨p1, p2⟩ := pa_line_go h8.1 l1.length
      have e : (pa_line a).take l1.length = l1 := by rw [hL]; simp
      rw [e] at p1 p2
      have := (pa_goes_wf _ _ (pa_day_wf hwf) p1 p2).2.1
      have h1 : y1 0 28 = (l1.foldl pa_go (pa_day a)).1 5 := h1
      rw [h1, this, (pa_day4 a).2]
    refine b169_56 hF (k1 := fun _ => ?_) (k2 := fun _ => ?_)
    · exact k [] l1 y1 gone _ _ _ hL hl (Or.inr rfl) hg hgb (pm_fr_refl _ _) hM hy
    · refine b169_65 hF (k1 := fun r => absurd rfl r) (k2 := fun _ => ?_)
      have hu := pb_and_255 (y := pe_xor gone (-1)) hc0.1 hc0.2
      have hz : pe_and could (pe_xor gone (-1)) = 0 := pb_zero hu.1 hu.2 (fun i hi => by
        rw [pb_h_and, pb_h_xor, pb_h_m1 ⟨i, by omega⟩]
        have h1 := hcb i hi
        have h2 := hgb i hi
        rw [hL, List.append_nil] at h1
        cases hb : pb_h could i with
        | false => rfl
        | true => rw [h2.mpr (h1.mp hb)]; rfl)
      refine b169_69 hF (k1 := fun _ => ?_) (k2 := fun r => absurd hz r)
      exact k [] l1 y1 gone _ _ _ hL hl (Or.inr rfl) hg hgb (pm_fr_refl _ _) hM hy
  | cons x r ih =>
    intro l1 y1 gone o5 o6 hL hl hg hgb hM hy k
    obtain ⟨p1, p2⟩ := pa_line_go h8.1 l1.length
    have et : (pa_line a).take l1.length = l1 := by rw [hL]; simp
    rw [et] at p1 p2
    obtain ⟨w1, w2, w3, w4⟩ := pa_goes_wf _ _ (pa_day_wf hwf) p1 p2
    have hs4 : (l1.foldl pa_go (pa_day a)).1 4 = a.1 4 := by rw [w2, (pa_day4 a).1]
    have hs5 : (l1.foldl pa_go (pa_day a)).1 5 = a.1 5 := by rw [w2, (pa_day4 a).2]
    have hwid : y1 0 28 = a.1 5 := hM.cnt.2.1.trans hs5
    have hcnt : y1 0 3 = a.1 4 := hM.cnt.1.trans hs4
    have hnd : (l1 ++ x :: r).Nodup := by rw [← hL]; exact hdn
    have hnot1 : ∀ z ∈ x :: r, z ∉ l1 := fun z hz h => (List.nodup_append.mp hnd).2.2 z h z hz rfl
    have hinL : ∀ z ∈ x :: r, z ∈ pa_line a := fun z hz => by rw [hL]; exact List.mem_append_right _ hz
    have hsame : ∀ z ∈ x :: r, (l1.foldl pa_go (pa_day a)).2.1 z = a.2.1 z := fun z hz => w4 z (hnot1 z hz) ((hmem z).mp (hinL z hz)).2
    have hbefL : (x :: r).Pairwise (pa_bef (pa_rk a)) := by
      have := pa_line_bef a
      rw [hL] at this
      exact (List.pairwise_append.mp this).2.1
    have hxL := (hmem x).mp (hinL x List.mem_cons_self)
    refine b169_56 hF (k1 := fun r2 => ?_) (k2 := fun r2 => ?_)
    · exact k (x :: r) l1 y1 gone _ _ _ hL hl (Or.inl (by omega)) hg hgb (pm_fr_refl _ _) hM hy
    · refine b169_65 hF (k1 := fun r => absurd rfl r) (k2 := fun _ => ?_)
      have hu := pb_and_255 (y := pe_xor gone (-1)) hc0.1 hc0.2
      have hub : ∀ i : Nat, i < 8 → (pb_h (pe_and could (pe_xor gone (-1))) i = true ↔ (i : Int) ∈ x :: r) := fun i hi => by
        rw [pb_h_and, pb_h_xor, pb_h_m1 ⟨i, by omega⟩]
        have h1 := hcb i hi
        have h2 := hgb i hi
        rw [hL, List.mem_append] at h1
        constructor
        · intro h
          have hb : pb_h could i = true := by cases hb : pb_h could i with
            | true => rfl
            | false => rw [hb] at h; simp at h
          rcases h1.mp hb with g | g
          · rw [hb, h2.mpr g] at h; simp at h
          · exact g
        · intro h
          rw [h1.mpr (Or.inr h)]
          cases hb : pb_h gone i with
          | false => rfl
          | true => exact absurd (h2.mp hb) (hnot1 _ h)
      refine b169_69 hF (k1 := fun rz => ?_) (k2 := fun _ => ?_)
      · exfalso
        have h1 := (hub x.toNat (by omega)).mpr (by rw [show ((x.toNat : Nat) : Int) = x by omega]; exact List.mem_cons_self)
        rw [rz, pb_h_zero] at h1
        cases h1
      · refine b169_77 hF (k := ?_)
        have hnn : ∀ i, 0 ≤ i → i < a.1 4 → pm_RCn y1 i (pa_a6 ((a.2.1 i).1 6) ((l1.foldl pa_go (pa_day a)).2.1 i)).1 := fun i i0 i1 => (hM.nn i0 (by show i < (l1.foldl pa_go (pa_day a)).1 4; omega)).1
        have hrk : ∀ z ∈ x :: r, pm_rk y1 z = pa_rk a z := fun z hz => by
          have hzL := (hmem z).mp (hinL z hz)
          obtain ⟨⟨a0, a2, a3, a4, a5, a6, a7, a8⟩, -⟩ := hnn z hzL.1.1 hzL.1.2
          unfold pm_rk pa_rk
          rw [a6, a7, a8, hsame z hz]
          simp [pa_a6, pa_s]
        refine c169_best (d := d + 4) (l2 := r) (N := a.1 4) hF h8 hcnt hc0 hub (fun z hz => ((hmem z).mp (hinL z hz)).1) (fun z hz => ?_) (fun i i0 i1 => ?_) ?_
        · have := (List.pairwise_cons.mp hbefL).1 z hz
          unfold pa_bef at this ⊢
          rw [hrk z (List.mem_cons_of_mem _ hz), hrk x List.mem_cons_self]
          exact this
        · obtain ⟨⟨a0, a2, a3, a4, a5, a6, a7, a8⟩, -⟩ := hnn i i0 i1
          have hwi := (w1.1.2.2.1 i i0 (by omega)).1
          rw [a6, a7, a8, pa_a6_n 20 (by decide), pa_a6_n 21 (by decide)]
          refine ⟨hwi.2.2.2.2.2.2.1, hwi.2.2.2.2.2.2.2.1, ?_⟩
          simp [pa_a6, pa_s]
          exact ageb i i0 i1
        · obtain ⟨⟨a0, a2, a3, a4, a5, a6, a7, a8⟩, -⟩ := hnn x hxL.1.1 hxL.1.2
          have hwA := pa_A_wf (e := fun i => (a.2.1 i).1 6) w1 (fun i i0 i1 => ageb i i0 (by omega))
          have h1A : x < (pa_A (fun i => (a.2.1 i).1 6) (l1.foldl pa_go (pa_day a))).1 4 := by show x < (l1.foldl pa_go (pa_day a)).1 4; omega
          have hwx := hwA.1.2.2.1 x hxL.1.1 h1A
          have hnx := hwx.1
          have hcx : (pa_A (fun i => (a.2.1 i).1 6) (l1.foldl pa_go (pa_day a))).2.1 x = a.2.1 x := by
            rw [pa_A_co, hsame x List.mem_cons_self, pa_a6_id rfl]
          have a2' : y1 7 x = (a.2.1 x).1 2 := by rw [a2, pa_a6_n 2 (by decide), hsame x List.mem_cons_self]
          have a3' : y1 8 x = (a.2.1 x).1 3 := by rw [a3, pa_a6_n 3 (by decide), hsame x List.mem_cons_self]
          have a7' : y1 5 x = (a.2.1 x).1 20 := by rw [a7, pa_a6_n 20 (by decide), hsame x List.mem_cons_self]
          have a8' : y1 6 x = (a.2.1 x).1 21 := by rw [a8, pa_a6_n 21 (by decide), hsame x List.mem_cons_self]
          rw [hcx] at hwx hnx
          obtain ⟨n0, n2, n3, n4, n5, n6, n20, n21, -⟩ := hnx
          have hg2 := pb_or_255 (c := x.toNat) hg.1 hg.2 (by omega)
          have hxn : ((x.toNat : Nat) : Int) = x := by omega
          rw [hxn] at hg2
          have hgb2 : ∀ i : Nat, i < 8 → (pb_h (pe_or gone (pe_shl 1 x)) i = true ↔ (i : Int) ∈ l1 ++ [x]) := fun i hi => by
            have h3 := pb_h_shl ⟨x.toNat, by omega⟩ ⟨i, hi⟩
            dsimp only at h3
            rw [hxn] at h3
            rw [pb_h_or, h3, List.mem_append, List.mem_singleton]
            have h2 := hgb i hi
            rw [Bool.or_eq_true, h2]
            simp
            constructor
            · rintro (h | h)
              · exact Or.inl h
              · exact Or.inr (by omega)
            · rintro (h | h)
              · exact Or.inl h
              · exact Or.inr (by omega)
          have hgo : ∀ s2, pa_take (a.2.1 x) 0 = (pa_s (pa_s (a.2.1 x).1 3 s2) 2 1, (a.2.1 x).2) → pe_X (d + 6) 169 (177, [some (.inr (.inr M)), some (.inl 0), some (.inl could), some (.inl (pe_or gone (pe_shl 1 x))), some (.inl (l1.length : Int)), some (.inl x), some (.inl (a.1 4))], [.inl s2, .inl x, .inr (.inr (M + 8))], pm_h M σ q y1) Φ := fun s2 hs2 => by
            refine b169_177 hF (k := ?_)
            have g1 := pm_R_take (s2 := s2) (v := 0) hM hwA.1.w8 hxL.1.1 h1A (by rw [hcx]; exact hs2)
            have eA : pa_cw (pa_A (fun i => (a.2.1 i).1 6) (l1.foldl pa_go (pa_day a))) x (pa_take ((pa_A (fun i => (a.2.1 i).1 6) (l1.foldl pa_go (pa_day a))).2.1 x) 0) = pa_A (fun i => (a.2.1 i).1 6) (pa_cw (l1.foldl pa_go (pa_day a)) x (pa_take (pa_young ((l1.foldl pa_go (pa_day a)).2.1 x)) 0)) := by
              rw [pa_A_cw, pa_A_co, pa_take_a6, pa_young_a6, pa_take_a6, pa_a6_a6]
            rw [eA] at g1
            have hx2 : ((l1.foldl pa_go (pa_day a)).2.1 x).1 2 ≤ 2 := by rw [hsame x List.mem_cons_self]; exact hxL.2
            have hwr := pa_ready_wf w1 hxL.1.1 (by omega) hx2
            have hwr2 := pa_A_wf (e := fun i => (a.2.1 i).1 6) hwr (fun i i0 i1 => ageb i i0 (by rw [← hs4]; exact i1))
            refine c165f hF g1 hwr2 hxL.1.1 h1A (by rw [pa_A_co, pa_a6_n 2 (by decide), pa_cw_same, pa_take2]) (fun y2 e1 e2 e3 => ?_)
            rw [pa_step_A] at e3
            rw [pa_st1_A, pa_A_co, pa_a6_n 2 (by decide)] at e2
            refine b169_193 hF (k := ?_)
            have hfr : pm_fr pm_Zs y1 y2 := pm_fr_trans (pm_fr_then (pm_fr_u (Or.inl ⟨by decide, by decide⟩)) (Or.inl ⟨by decide, by decide⟩)) e1
            have hlen1 : ((l1 ++ [x]).length : Int) = (l1.length : Int) + 1 := by simp
            have e30 : (pm_u (pm_u y1 8 x s2) 7 x 1) 0 30 = y1 0 30 := by simp [pm_u]
            have := ih (l1 ++ [x]) y2 (pe_or gone (pe_shl 1 x)) (some (.inl x)) (some (.inl (a.1 4))) (by rw [hL]; simp) (by rw [hlen1]; omega) hg2 hgb2 (by rw [List.foldl_append]; exact e3) (by
              rw [List.foldl_append]
              show _ = (pa_gy (l1.foldl pa_gy (pa_day a, 0)) x).2
              rw [pa_gy_2, pa_gy_1, ← hy]
              by_cases e : ((pa_st1 (pa_cw (l1.foldl pa_go (pa_day a)) x (pa_take (pa_young ((l1.foldl pa_go (pa_day a)).2.1 x)) 0)) x false).2.1 x).1 2 = 2
              · rw [if_pos e, e2.1 e, e30]
              · rw [if_neg e, e2.2 e, e30]) (fun r' l1' y3 gone' o4 o5 o6 f1 f2 f3 f4 f5 f6 f7 f8 => k r' l1' y3 gone' o4 o5 o6 f1 f2 f3 f4 f5 (pm_fr_trans hfr f6) f7 f8)
            rw [hlen1] at this
            exact this
          refine b169_136 hF (k1 := fun rr => ?_) (k2 := fun rr => ?_)
          · refine b169_170 hF (k := ?_)
            refine hgo _ ?_
            rw [a3']
            exact pa_take_no (by omega)
          · refine b169_160 hF (k := ?_)
            refine pe_M.up (c144 (d := 0) hF hxL.1.1 (by omega) (by omega) (by omega) (by decide) ?_) (by omega)
            refine b169_167 hF (k := ?_)
            refine hgo _ ?_
            unfold pa_take
            rw [if_pos (by omega), a7', a8', a3']
end
