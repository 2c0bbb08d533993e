/-! THE LAW: begin -/
section
variable {d o r q x y x' y' : Nat} {Z Z' : Int → Prop} {Φ : Option pe_V → pe_H → Prop} {σ σ' σ'' : pe_H} {g g' g'' : Nat → Int} {c e v n p : Int} {a b s s' : pa_M} {w : pa_C} {nu : Nat → Int} {k0 : Nat} {l : List Int} {f : pa_F} {fs : List pa_F} {P : pa_P} {T U T' U' : Nat → Prop} {im im' : Option pa_M} {h h' : Int → pa_Sh} {L : List (Int × pa_P)}
theorem ll_txs_app (L : List (Int × pa_P)) (q : Int × pa_P) : ll_txs (L ++ [q]) = ll_txs L ++ ll_tx q := by
  induction L with
  | nil => simp [ll_txs]
  | cons z L ih =>
    show ll_tx z ++ ll_txs (L ++ [q]) = (ll_tx z ++ ll_txs L) ++ ll_tx q
    rw [ih, List.append_assoc]
theorem ll_progs_app : ∀ (L : List (Int × pa_P)) (q : Int × pa_P) (s : pa_M), ll_progs (L ++ [q]) s = pa_prog (ll_progs L s) q.1 q.2
  | [], _, _ => rfl
  | _ :: L, q, s => ll_progs_app L q _
theorem ll_progs_1 : ∀ (L : List (Int × pa_P)) (s : pa_M), (ll_progs L s).1 = s.1 ∧ (ll_progs L s).2.1 = s.2.1
  | [], _ => ⟨rfl, rfl⟩
  | _ :: L, _ => ll_progs_1 L _
theorem ll_flat_127 : ∀ (P : pa_P), (∀ q ∈ P, (q.1 = 102 ∧ q.2 = 0) ∨ (pt_ns q.1 ∧ 0 ≤ q.2 ∧ q.2 ≤ 9)) → ∀ z ∈ ll_flat P, 0 ≤ z ∧ z ≤ 127
  | [], _, z, hz => absurd hz List.not_mem_nil
  | q :: P, h, z, hz => by
    have hz : z ∈ ll_ltr q ++ ll_flat P := hz
    rcases List.mem_append.mp hz with h1 | h1
    · have hq := h q List.mem_cons_self
      unfold ll_ltr at h1
      by_cases e : q.1 = 102
      · rw [if_pos e, List.mem_singleton] at h1
        omega
      · rw [if_neg e] at h1
        have hn : pt_ns q.1 ∧ 0 ≤ q.2 ∧ q.2 ≤ 9 := hq.elim (fun h => absurd h.1 e) (fun h => h)
        have hns := hn.1
        unfold pt_ns at hns
        rcases List.mem_cons.mp h1 with h2 | h2
        · omega
        · rw [List.mem_singleton] at h2
          omega
    · exact ll_flat_127 P (fun q hq => h q (List.mem_cons_of_mem _ hq)) z h1
theorem ll_txs_127 : ∀ (L : List (Int × pa_P)), (∀ q ∈ L, ll_gdq q) → ∀ z ∈ ll_txs L, 0 ≤ z ∧ z ≤ 127
  | [], _, z, hz => absurd hz List.not_mem_nil
  | q :: L, h, z, hz => by
    have hz : z ∈ ll_tx q ++ ll_txs L := hz
    rcases List.mem_append.mp hz with h1 | h1
    · have hq := h q List.mem_cons_self
      unfold ll_tx at h1
      rcases List.mem_cons.mp h1 with h2 | h2
      · omega
      · rcases List.mem_cons.mp h2 with h3 | h3
        · have := hq.1; omega
        · rcases List.mem_append.mp h3 with h4 | h4
          · exact ll_flat_127 _ hq.2.1 z h4
          · rw [List.mem_singleton] at h4; omega
    · exact ll_txs_127 L (fun q hq => h q (List.mem_cons_of_mem _ hq)) z h1
def ll_Zk (z : Int) : Prop := z ≠ -1
theorem ll_progs_q : ∀ (L : List (Int × pa_P)) (s : pa_M), (ll_progs L s).2.2.2 = s.2.2.2
  | [], _ => rfl
  | _ :: L, _ => ll_progs_q L _
theorem ll_progs_I (L : List (Int × pa_P)) (hI : ll_I a) : ll_I (ll_progs L a) := by
  obtain ⟨e1, e2⟩ := ll_progs_1 L a
  refine ⟨fun i i0 i1 => ?_, fun n n0 n3 => ?_⟩
  · rw [e2]
    exact hI.1 i i0 (by rw [← e1]; exact i1)
  · rw [ll_progs_q]
    exact hI.2 n n0 n3
theorem ll_more_I {kd fg : Int} (hI : ll_I a) (h0 : 0 ≤ a.1 4) : ll_I (pa_more a p kd fg) := by
  refine ⟨fun i i0 i1 => ?_, hI.2⟩
  have i1 : i < a.1 4 + 1 := i1
  show (if i = a.1 4 then pa_newC p kd fg (a.2.2.1 p) else a.2.1 i).1 2 = 5 → (if i = a.1 4 then pa_newC p kd fg (a.2.2.1 p) else a.2.1 i).1 7 ≠ i
  by_cases e : i = a.1 4
  · rw [if_pos e]
    intro q
    simp [pa_newC, pa_s] at q
  · rw [if_neg e]
    exact hI.1 i i0 (by omega)
/-- acts -/
theorem k170_acts {x3 : Option pe_V} (k : ∀ σ' g' a' h' T' U', ll_fz ll_Zk 78000 251000 σ g σ' g' → ll_Q T' U' σ' g' a' a' im h' → a'.1 6 ≤ 32 → ll_I a' → Φ (some (.inl 1)) σ') : ∀ (m : Nat) (σ1 : pe_H) (g1 : Nat → Int) (a1 : pa_M) (T1 U1 : Nat → Prop) (h1 : Int → pa_Sh) (o4 o5 o7 : Option pe_V), m ≤ 8 → ll_I a1 → ll_fz ll_Zk (400 + 9700 * (8 - m)) (2500 + 31000 * (8 - m)) σ g σ1 g1 → ll_sc σ1 → ll_Q T1 U1 σ1 g1 a1 a1 im h1 → a1.1 6 ≤ 4 * (8 - m : Nat) → pe_X (d + 18) 170 (138, [some (.inr (.inr 3)), some (.inr (.inr 1)), some (.inl 0), x3, o4, o5, some (.inl (m : Int)), o7], [], σ1) Φ
  | 0, σ1, g1, a1, T1, U1, h1, o4, o5, o7, hm, hI, p1, hs, hq, h6 => by
    have hL := hq.R.L
    refine b170_138 (k1 := fun _ => ?_) (k2 := fun r => by omega)
    refine b170_172 (k := ?_)
    exact k σ1 g1 a1 h1 T1 U1 (ll_fz_mono p1 (fun _ h => h)) hq (by omega) hI
  | m + 1, σ1, g1, a1, T1, U1, h1, o4, o5, o7, hm, hI, p1, hs, hq, h6 => by
    have hL := hq.R.L
    refine b170_138 (k1 := fun r => by omega) (k2 := fun _ => ?_)
    refine b170_143 (k := ?_)
    refine pe_M.up (k145 (d := 0) hs (by push_cast; omega) (fun z => ?_)) (by omega)
    have hz := pe_and_max z
    refine b170_155 (k := ?_)
    refine pe_M.up (k169 (d := 0) hq hI hz (by omega) (fun σ2 g2 a2 p2 hq2 h62 h42 hI2 => ?_)) (by omega)
    have hL2 := hq2.R.L
    refine b170_161 (k1 := fun _ => ?_) (k2 := fun r => by omega)
    refine b170_166 (k := ?_)
    rw [show ((m + 1 : Nat) : Int) + -1 = (m : Int) by push_cast; omega]
    refine k170_acts k m σ2 g2 a2 T1 U1 h1 _ _ _ (by omega) hI2 (ll_fz_mono (ll_fz_trans p1 (ll_fz_mono (Z' := ll_Zk) (x' := 9700) (y' := 31000) p2 (fun z hz e => by rw [e] at hz; exact ll_Zq1 hz))) (fun _ h => h)) (hs.fz hq.R.B.2.2.2.2.2.2.2.1 ll_Zq1 p2) hq2 (by omega)
/-- who come -/
theorem k170_come {x3 : Option pe_V} {N : Nat} (hN : N ≤ 8) (k : ∀ σ1 g1 a1 T1 h1 (o4 o5 o6 o7 : Option pe_V), ll_fz ll_Zk 400 2500 σ g σ1 g1 → ll_sc σ1 → ll_Q T1 U σ1 g1 a1 a1 im h1 → a1.1 6 = 0 → ll_I a1 → pe_X (d + 18) 170 (126, [some (.inr (.inr 3)), some (.inr (.inr 1)), some (.inl 0), x3, o4, o5, o6, o7], [], σ1) Φ) : ∀ (m : Nat) (σ1 : pe_H) (g1 : Nat → Int) (a1 : pa_M) (T1 : Nat → Prop) (h1 : Int → pa_Sh) (o4 o5 o7 : Option pe_V), m ≤ N → ll_I a1 → ll_fz ll_Zk (340 + 4 * (N - m)) (2273 + 28 * (N - m)) σ g σ1 g1 → ll_sc σ1 → ll_Q T1 U σ1 g1 a1 a1 im h1 → a1.1 6 = 0 → a1.1 4 = (N - m : Nat) → pe_X (d + 18) 170 (71, [some (.inr (.inr 3)), some (.inr (.inr 1)), some (.inl 0), x3, o4, o5, some (.inl (m : Int)), o7], [], σ1) Φ
  | 0, σ1, g1, a1, T1, h1, o4, o5, o7, hm, hI, p1, hs, hq, h6, h4 => by
    have hL := hq.R.L
    refine b170_71 (k1 := fun _ => ?_) (k2 := fun r => by omega)
    exact k σ1 g1 a1 T1 h1 _ _ _ _ (ll_fz_mono p1 (fun _ h => h)) hs hq h6 hI
  | m + 1, σ1, g1, a1, T1, h1, o4, o5, o7, hm, hI, p1, hs, hq, h6, h4 => by
    have hL := hq.R.L
    refine b170_71 (k1 := fun r => by omega) (k2 := fun _ => ?_)
    refine b170_76 (k := ?_)
    refine pe_M.up (k145 (d := 0) hs (by push_cast; omega) (fun z => ?_)) (by omega)
    have hz := pe_and_max z
    have d5 : 0 ≤ Int.tdiv (pe_and z 2147483647) 5 ∧ Int.tdiv (pe_and z 2147483647) 5 ≤ 2147483647 := by rw [Int.tdiv_eq_ediv_of_nonneg hz.1]; omega
    have d30 : 0 ≤ Int.tdiv (pe_and z 2147483647) 30 ∧ Int.tdiv (pe_and z 2147483647) 30 ≤ 2147483647 := by rw [Int.tdiv_eq_ediv_of_nonneg hz.1]; omega
    have q1 : 0 ≤ Int.tmod (pe_and z 2147483647) 5 ∧ Int.tmod (pe_and z 2147483647) 5 < 5 := by rw [Int.tmod_eq_emod_of_nonneg hz.1]; omega
    have q2 : 0 ≤ Int.tmod (Int.tdiv (pe_and z 2147483647) 5) 6 ∧ Int.tmod (Int.tdiv (pe_and z 2147483647) 5) 6 ≤ 5 := by rw [Int.tmod_eq_emod_of_nonneg d5.1]; omega
    have q3 : 0 ≤ Int.tmod (Int.tdiv (pe_and z 2147483647) 30) 10 ∧ Int.tmod (Int.tdiv (pe_and z 2147483647) 30) 10 ≤ 9 := by rw [Int.tmod_eq_emod_of_nonneg d30.1]; omega
    refine b170_87 (k := ?_)
    refine pe_M.up (k168 (d := 0) hq q1 q2 q3 (by omega) (fun σ2 g2 T2 h2 p2 hq2 => ?_)) (by omega)
    have hL2 := hq2.R.L
    refine b170_115 (k1 := fun _ => ?_) (k2 := fun r => by omega)
    refine b170_120 (k := ?_)
    rw [show ((m + 1 : Nat) : Int) + -1 = (m : Int) by push_cast; omega]
    have nz : ¬ ll_Zb (-1) := by unfold ll_Zb ll_Zj; omega
    refine k170_come hN k m σ2 g2 _ T2 h2 _ _ _ (by omega) (ll_more_I hI (by omega)) (ll_fz_mono (ll_fz_trans p1 (ll_fz_mono (Z' := ll_Zk) (x' := 4) (y' := 28) p2 (fun z hz e => by rw [e] at hz; exact nz hz))) (fun _ h => h)) (hs.fz hq.R.B.2.2.2.2.2.2.2.1 nz p2) hq2 (by simp [pa_more, pa_s]; exact h6) (by show a1.1 4 + 1 = _; rw [h4]; omega)
/-- begin -/
theorem k170 (hq : ll_Q T U σ g a a im h) (hs : ll_sc σ) (hsg : ll_sg σ) (h4 : a.1 4 = 0) (h6 : a.1 6 = 0) (hI : ll_I a) (k : ∀ σ' g' a' h' T' U', ll_fz ll_Zk 78000 251000 σ g σ' g' → ll_Q T' U' σ' g' a' a' im h' → a'.1 6 ≤ 32 → ll_I a' → Φ (some (.inl 1)) σ') : pe_M (d + 19) 170 [.inr (.inr 3), .inr (.inr 1), .inl 0, .inl 8] σ Φ := by
  have hR := hq.R
  have hL := hR.L
  have hg := hR.gg
  have hwf := hq.W.1.1
  have hw9 := hwf.1.w9
  have hn3 : 899 ≤ pe_n σ := hL.1.1
  refine pe_M_of ck170 (Nat.le_of_ble_eq_true rfl) ?_
  refine b170_0 (k := ?_)
  have e0 : ll_fr (fun _ => False) 1 100 σ g (pe_new σ 10 100 100) (ll_u g (pe_n σ) (-6)) := ll_fr_new hg
  have hR0 := hR.fr hw9 e0 (fun _ h => h.elim)
  have hq0 := hq.law e0 (fun h => h) hR0
  have hL0 := hR0.L
  have hs0 := hs.fz hR.B.2.2.2.2.2.2.2.1 (fun h => h) e0.z
  have hsg0 := hsg.fz hR.B.2.2.2.2.2.2.2.2 (fun h => h) e0.z
  have k0 : pe_K (pe_new σ 10 100 100) (pe_n σ) = 10 ∧ pe_L (pe_new σ 10 100 100) (pe_n σ) = 100 := ⟨if_pos rfl, if_pos rfl⟩
  have c0 : ll_u g (pe_n σ) (-6) (pe_n σ) = -6 := if_pos rfl
  have p0 : ll_fz ll_Zk 1 100 σ g (pe_new σ 10 100 100) (ll_u g (pe_n σ) (-6)) := ll_fz_mono e0.z (fun _ h => h.elim)
  refine b170_6 (k := ?_)
  generalize ll_u g (pe_n σ) (-6) = g0 at *
  have e100 : ((100 : Int).toNat) = 100 := rfl
  rw [e100]
  generalize pe_new σ 10 100 100 = σ0 at *
  generalize pe_n σ = ra at *
  have nt : ¬ ll_Zt (-1) := by unfold ll_Zt; omega
  -- the programs
  have loop : ∀ (m : Nat) (σ1 : pe_H) (g1 : Nat → Int) (L : List (Int × pa_P)) (o7 : Option pe_V), L.length + m = 5 → ll_fz ll_Zk (1 + 2 * L.length) (100 + 14 * L.length) σ g σ1 g1 → ll_sc σ1 → ll_sg σ1 → ll_Q T U σ1 g1 (ll_progs L a) a im h → (∀ q ∈ L, ll_gdq q) → g1 ra = -6 → (pe_K σ1 ra = 10 ∧ pe_L σ1 ra = 100) → ll_T σ1 ra (ll_txs L) → (ll_txs L).length ≤ 17 * L.length → pe_X (d + 18) 170 (12, [some (.inr (.inr 3)), some (.inr (.inr 1)), some (.inl 0), some (.inl 8), some (.inr (.inr ra)), some (.inl ((ll_txs L).length : Int)), some (.inl (L.length : Int)), o7], [], σ1) Φ := by
    intro m
    induction m with
    | zero =>
      intro σ1 g1 L o7 hm p1 hs1 hsg1 hq1 hgd hra hRa hT hlen
      have hL1 := hq1.R.L
      have hw1 : pa_wf9 (ll_progs L a) := ⟨by rw [(ll_progs_1 L a).1]; exact hw9.1, fun c h0 h1 => by rw [(ll_progs_1 L a).2]; rw [(ll_progs_1 L a).1] at h1; exact hw9.2 c h0 h1⟩
      refine b170_12 (k1 := fun _ => ?_) (k2 := fun r => by omega)
      refine b170_44 (k := ?_)
      refine pe_M.up (k147 (d := 0) (l := ll_txs L) hq1 hw1 (by rw [hra]; decide) hRa.1 hRa.2 (by omega) hT (ll_txs_127 L hgd) (fun σ2 g2 T2 U2 h2 q1 q2 q3 p2 hq2 => ?_)) (by omega)
      have hdt := ll_doText (a := a) (h := h2) hgd (by omega) (fun e => by rw [e] at hm; simp at hm) q1 q2 q3
      rw [hdt] at hq2 ⊢
      have hL2 := hq2.R.L
      have hs2 := hs1.fz hq1.R.B.2.2.2.2.2.2.2.1 (by decide) p2
      have e5 : (L.length : Int) = 5 := by omega
      refine b170_52 (w0 := by show pe_in (L.length : Int); rw [e5]; unfold pe_in; decide) (k1 := fun _ => ?_) (k2 := fun r => absurd e5 r)
      refine b170_58 (k := ?_)
      refine pe_M.up (k146 (d := 0) hs2 (by decide) (by decide) (fun cn c0 c9 => ?_)) (by omega)
      refine b170_69 (k := ?_)
      have p2' : ll_fz ll_Zk (340 + 4 * 0) (2273 + 28 * 0) σ g σ2 g2 := ll_fz_mono (ll_fz_trans p1 (ll_fz_mono (Z' := ll_Zk) (x' := 302) (y' := 2102) p2 (fun z hz e => by omega))) (fun _ h => h)
      rw [show cn = ((cn.toNat : Nat) : Int) by omega]
      refine k170_come (σ := σ) (g := g) (U := U2) (N := cn.toNat) (by omega) (fun σ3 g3 a3 T3 h3 o4 o5 o6 o7 p3 hs3 hq3 h63 hI3 => ?_) cn.toNat σ2 g2 _ T2 h2 _ _ _ (Nat.le_refl _) (ll_progs_I L hI) (by rw [Nat.sub_self]; exact p2') hs2 hq2 (by rw [(ll_progs_1 L a).1]; exact h6) (by rw [(ll_progs_1 L a).1, h4, Nat.sub_self]; rfl)
      have hL3 := hq3.R.L
      refine b170_126 (k := ?_)
      refine pe_M.up (k146 (d := 0) hs3 (by decide) (by decide) (fun kn n0 n9 => ?_)) (by omega)
      refine b170_136 (k := ?_)
      rw [show kn = ((kn.toNat : Nat) : Int) by omega]
      exact k170_acts (σ := σ) (g := g) k kn.toNat σ3 g3 a3 T3 U2 h3 _ _ _ (by omega) hI3 (ll_fz_mono p3 (fun _ h => h)) hs3 hq3 (by rw [h63]; omega)
    | succ m ih =>
      intro σ1 g1 L o7 hm p1 hs1 hsg1 hq1 hgd hra hRa hT hlen
      have hL1 := hq1.R.L
      have hw1 : pa_wf9 (ll_progs L a) := ⟨by rw [(ll_progs_1 L a).1]; exact hw9.1, fun c h0 h1 => by rw [(ll_progs_1 L a).2]; rw [(ll_progs_1 L a).1] at h1; exact hw9.2 c h0 h1⟩
      refine b170_12 (k1 := fun r => by omega) (k2 := fun _ => ?_)
      refine b170_18 (k := ?_)
      refine pe_M.up (k166 (d := 0) (p := (L.length : Int)) hq1.R hw1 hs1 hsg1 (by omega) (by omega) hra hRa hT (by omega) (fun σ2 g2 P hP p2 hR2 hT2 hlP => ?_)) (by omega)
      have hL2 := hR2.L
      have hq2 := hq1.law p2 (by unfold ll_Zt; omega) hR2
      have hra9 : g1 ra ≠ -9 := by rw [hra]; decide
      have et : ll_txs (L ++ [((L.length : Int), P)]) = ll_txs L ++ ll_tx ((L.length : Int), P) := ll_txs_app L _
      have el : (L ++ [((L.length : Int), P)]).length = L.length + 1 := by simp
      have key := ih σ2 g2 (L ++ [((L.length : Int), P)]) o7 (by rw [el]; omega) (by rw [el]; exact ll_fz_mono (ll_fz_trans p1 (ll_fz_mono (Z' := ll_Zk) (x' := 2) (y' := 14) p2.z (fun z hz e => by rw [e] at hz; exact nt hz))) (fun _ h => h)) (hs1.fz hq1.R.B.2.2.2.2.2.2.2.1 nt p2.z) (hsg1.fz hq1.R.B.2.2.2.2.2.2.2.2 nt p2.z) (by rw [ll_progs_app]; exact hq2) (fun q hq' => by
        rcases List.mem_append.mp hq' with h1 | h1
        · exact hgd q h1
        · rw [List.mem_singleton] at h1
          rw [h1]
          exact ⟨⟨by show (0 : Int) ≤ (L.length : Int); omega, by show (L.length : Int) < 5; omega⟩, hP⟩) ((p2.G hra9).trans hra) ⟨(p2.K hra9).trans hRa.1, (p2.L hra9).trans hRa.2⟩ (by rw [et]; exact hT2) (by rw [et, el, List.length_append]; omega)
      rw [el, et] at key
      refine b170_36 (k := ?_)
      exact key
  exact loop 5 σ0 g0 [] _ rfl p0 hs0 hsg0 hq0 (fun q hq => absurd hq List.not_mem_nil) c0 k0 (fun i hi => absurd hi (Nat.not_lt_zero _)) (Nat.le_refl _)
end
