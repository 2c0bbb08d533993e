/-! holds, whole -/
section
variable {d o r q x y x' y' N M : Nat} {Z Z' : Int → Prop} {Φ : Option pe_V → pe_H → Prop} {σ σ' σ'' : pe_H} {g g' g'' : Nat → Int} {c e v n p st : Int} {a b s s' : pa_M} {T U T' U' : Nat → Prop} {im im' : Option pa_M} {h h' : Int → pa_Sh} {o2 o3 o4 o7 o8 o9 o10 : Option pe_V} {ta : Nat}
/-- the rounds gone by hand -/
theorem k172_2 (hI : ll_I a) (n1 : 1 ≤ n) (n60 : n ≤ 60) (hq0 : ll_Q T U σ g a a (some a) h) (h6 : a.1 6 ≤ 32) (hb0 : ll_nb σ N M) (hs0 : ll_sc σ) (htd : ll_td σ g ta (fun c _ => c < a.1 4) (pa_rounds n.toNat a)) (k : ∀ σ', ll_nb σ' (N + 8) (M + 48) → Φ (some (.inl 1)) σ') (o5 o6 o7 o8 o9 o10 : Option pe_V) : pe_X (d + 18) 172 (213, [some (.inr (.inr 3)), some (.inr (.inr 1)), some (.inl n), some (.inr (.inr ta)), some (.inl (pa_cnt (pa_isEnd (pa_rounds n.toNat a)) (a.1 4).toNat)), o5, o6, o7, o8, o9, o10], [], σ) Φ := by
  have hwf := hq0.W.1.1
  have hw9 := hwf.1.w9
  have h8 := hwf.1.1
  have h60 := hq0.W.1.2
  have g1 : g 1 = -1 := hq0.R.B.2.2.2.2.2.2.2.1
  have n7 := ll_k71
  have hL0 := hq0.R.L
  have hwb := pa_rounds_wf n.toNat a hwf
  have h4b := pa_rounds4 n.toNat a hwf
  have h6b := pa_rounds6 n.toNat a hwf
  have hIb := (ll_rounds_go n.toNat a hwf).I hI
  have hcb := pa_cnt_b (pa_isEnd (pa_rounds n.toNat a)) (a.1 4).toNat
  refine b172_213 (k := ?_)
  refine pe_M.up (q90 (d := 0) hq0 hw9 n1 n60 (by omega) (fun σ1 p1 hq1 => ?_)) (by omega)
  have hb1 := hb0.z p1
  have hs1 := hs0.fz g1 n7 p1
  have hL1 := hq1.R.L
  rw [pb_c_bits _ _ (by rw [h4b]; omega), h4b]
  refine b172_221 (k1 := fun r => by omega) (k2 := fun _ => ?_)
  refine b172_226 (k := ?_)
  have v1 : pa_aCount (pa_rounds n.toNat a) 1 = (pa_rounds n.toNat a).1 6 := rfl
  refine pe_M.up (k108 (d := 0) hq1.G hq1.W (by decide) ?_) (by omega)
  rw [v1, h6b]
  have e35 := hq1.R.2.1.2.2
  refine b172_234 (w0 := by rw [e35]; unfold pe_in; omega) (k1 := fun _ => ?_) (k2 := fun r => by omega)
  refine b172_245 (k := ?_)
  refine k172_3 hIb (ta := ta) (by
    have := htd.fz p1
    refine ⟨this.1, fun c c0 c8 => ?_⟩
    obtain ⟨x1, x2, x3⟩ := this.2 c c0 c8
    exact ⟨x1, x2, fun j j0 j5 hp => x3 j j0 j5 (by rw [← h4b]; exact hp)⟩) hq1 h4b.symm (fun o2 o3 o4 o5 o6 o7 o8 o9 o10 => ?_) (a.1 4).toNat 0 _ _ _ _ _ _ _ (by rw [h4b]; omega) (by decide)
  refine b172_454 (k := ?_)
  refine k172_4 hIb.2 hq1 (fun o2 o3 o4 o5 o6 o7 o8 o9 o10 => ?_) 3 0 _ _ _ _ _ _ _ _ (by decide) (by decide)
  exact k172_6 hI hq1 hwf ⟨h60.1, by omega⟩ hb1 hs1 k _ _ _ _ _ _ _ _ _
/-- what comes is told -/
theorem k172_1 (hI : ll_I a) (n1 : 1 ≤ n) (n60 : n ≤ 60) (hwf : pa_wf a) (h6 : a.1 6 ≤ 32) (k : ∀ σ', ll_nb σ' (N + 8) (M + 48) → Φ (some (.inl 1)) σ') : ∀ (m : Nat) (i : Nat) (σ0 : pe_H) (o6 o7 o8 o9 o10 : Option pe_V), (i : Int) + m = a.1 4 → ll_nb σ0 N M → ll_sc σ0 → g 1 = -1 → 3 ≤ ta → ll_Q T U σ0 g a a (some a) h → ll_td σ0 g ta (fun c _ => c < (i : Int)) (pa_rounds n.toNat a) → pe_X (d + 18) 172 (52, [some (.inr (.inr 3)), some (.inr (.inr 1)), some (.inl n), some (.inr (.inr ta)), some (.inl (pa_cnt (pa_isEnd (pa_rounds n.toNat a)) i)), some (.inl (i : Int)), o6, o7, o8, o9, o10], [], σ0) Φ := by
  have hw9 := hwf.1.w9
  have h8 := hwf.1.1
  have n7 := ll_k71
  have hwb := pa_rounds_wf n.toNat a hwf
  have h4b := pa_rounds4 n.toNat a hwf
  intro m
  induction m with
  | zero =>
    intro i σ0 o6 o7 o8 o9 o10 hi hb0 hs0 g1 hta hq0 htd
    have hL0 := hq0.R.L
    have e33 := hq0.R.mn
    refine b172_52 (w0 := by rw [e33]; unfold pe_in; omega) (k1 := fun _ => ?_) (k2 := fun r => by omega)
    have ei : (a.1 4).toNat = i := by omega
    have := k172_2 (d := d) hI n1 n60 hq0 h6 hb0 hs0 (ta := ta) (by
      refine ⟨htd.1, fun c c0 c8 => ?_⟩
      obtain ⟨x1, x2, x3⟩ := htd.2 c c0 c8
      exact ⟨x1, x2, fun j j0 j5 hp => x3 j j0 j5 (by show c < (i : Int); have hp : c < a.1 4 := hp; omega)⟩) k (some (.inl (i : Int))) o6 o7 o8 o9 o10
    rw [ei] at this
    exact this
  | succ m ih =>
    intro i σ0 o6 o7 o8 o9 o10 hi hb0 hs0 g1 hta hq0 htd
    have hL0 := hq0.R.L
    have e33 := hq0.R.mn
    have hi4 : (i : Int) < a.1 4 := by omega
    have hle := (ll_rounds_go n.toNat a hwf).1 (i : Int)
    obtain ⟨l5, l6, -, -⟩ := hle
    have hwc := hwf.1.2.2.1 (i : Int) (by omega) hi4
    have hwcb := hwb.1.2.2.1 (i : Int) (by omega) (by rw [h4b]; exact hi4)
    have hfb : ∀ j, 0 ≤ j → j < 5 → -4 ≤ pa_of ((pa_rounds n.toNat a).2.1 i) j ∧ pa_of ((pa_rounds n.toNat a).2.1 i) j ≤ 999 := fun j j0 j5 => by
      obtain ⟨w0, w2, w3, w4, w5, w6, -⟩ := hwcb.1
      unfold pa_of
      split
      · omega
      · split
        · omega
        · split
          · omega
          · split <;> omega
    have hcb := pa_cnt_b (pa_isEnd (pa_rounds n.toNat a)) i
    -- when the five are told
    have after : ∀ (σ1 : pe_H) (o6 : Option pe_V), ll_nb σ1 N M → ll_sc σ1 → ll_Q T U σ1 g a a (some a) h → ll_td σ1 g ta (fun c _ => c < ((i + 1 : Nat) : Int)) (pa_rounds n.toNat a) → pe_X (d + 18) 172 (95, [some (.inr (.inr 3)), some (.inr (.inr 1)), some (.inl n), some (.inr (.inr ta)), some (.inl (pa_cnt (pa_isEnd (pa_rounds n.toNat a)) i)), some (.inl (i : Int)), o6, o7, o8, o9, o10], [], σ1) Φ := fun σ1 o6 hb1 hs1 hq1 htd1 => by
      have hL1 := hq1.R.L
      obtain ⟨⟨t1, t2, t3⟩, t4⟩ := htd1
      obtain ⟨u1, ⟨u2, u3, u4⟩, u5⟩ := t4 (i : Int) (by omega) (by omega)
      have vv : ∀ j, 0 ≤ j → j < 5 → pe_I σ1 (pe_R σ1 ta (i : Int)) j = pa_of ((pa_rounds n.toNat a).2.1 i) j := fun j j0 j5 => by
        rw [u1]
        exact u5 j j0 j5 (by push_cast; omega)
      have v0 := vv 0 (by decide) (by decide)
      have v1 := vv 1 (by decide) (by decide)
      have v3 := vv 3 (by decide) (by decide)
      have v4 := vv 4 (by decide) (by decide)
      have b0 := hfb 0 (by decide) (by decide)
      have b1 := hfb 1 (by decide) (by decide)
      have b3 := hfb 3 (by decide) (by decide)
      have b4 := hfb 4 (by decide) (by decide)
      have hKa : pe_K σ1 (pe_R σ1 ta (i : Int)) = 10 := by rw [u1]; exact u2
      have hLa : pe_L σ1 (pe_R σ1 ta (i : Int)) = 5 := by rw [u1]; exact u3
      have hKo := hq1.R.K (by omega : 0 ≤ (i : Int)) hi4
      obtain ⟨⟨c0, c1, c2, c3, c4, c5, c6, c7⟩, -⟩ := (hq1.R.co (by omega : 0 ≤ (i : Int)) hi4).2.1
      obtain ⟨w0, w2, w3, w4, w5, w6, -⟩ := hwc.1
      have z0 : pa_of ((pa_rounds n.toNat a).2.1 i) 0 = ((pa_rounds n.toNat a).2.1 i).1 2 := rfl
      have z1 : pa_of ((pa_rounds n.toNat a).2.1 i) 1 = ((pa_rounds n.toNat a).2.1 i).1 3 := rfl
      have z3 : pa_of ((pa_rounds n.toNat a).2.1 i) 3 = ((pa_rounds n.toNat a).2.1 i).1 5 := rfl
      have z4 : pa_of ((pa_rounds n.toNat a).2.1 i) 4 = ((pa_rounds n.toNat a).2.1 i).1 6 := rfl
      rw [z0] at v0 b0
      rw [z1] at v1 b1
      rw [z3] at v3 b3
      rw [z4] at v4 b4
      have fin : ∀ (w : Int) o4', ((w = 1 ∧ 6 ≤ ((pa_rounds n.toNat a).2.1 i).1 2) ∨ (w = 0 ∧ ¬ 6 ≤ ((pa_rounds n.toNat a).2.1 i).1 2)) → pe_X (d + 18) 172 (112, [some (.inr (.inr 3)), some (.inr (.inr 1)), some (.inl n), some (.inr (.inr ta)), o4', some (.inl (i : Int)), o6, o7, o8, o9, o10], [.inl w, .inl (pa_cnt (pa_isEnd (pa_rounds n.toNat a)) i)], σ1) Φ := fun w o4' hw => by
        have ec : pa_cnt (pa_isEnd (pa_rounds n.toNat a)) i + w = pa_cnt (pa_isEnd (pa_rounds n.toNat a)) (i + 1) := by
          rw [pa_cnt]
          rcases hw with ⟨rfl, e⟩ | ⟨rfl, e⟩
          · rw [show pa_isEnd (pa_rounds n.toNat a) (i : Int) = true from by unfold pa_isEnd; simp; omega, if_pos rfl]
          · rw [show pa_isEnd (pa_rounds n.toNat a) (i : Int) = false from by unfold pa_isEnd; simp; omega, if_neg (by simp)]
        refine b172_112 (k1 := fun r => by omega) (k2 := fun _ => ?_)
        rw [ec]
        have nx : pe_X (d + 18) 172 (207, [some (.inr (.inr 3)), some (.inr (.inr 1)), some (.inl n), some (.inr (.inr ta)), some (.inl (pa_cnt (pa_isEnd (pa_rounds n.toNat a)) (i + 1))), some (.inl (i : Int)), o6, o7, o8, o9, o10], [], σ1) Φ := by
          refine b172_207 (k := ?_)
          exact ih (i + 1) σ1 _ _ _ _ _ (by push_cast; omega) hb1 hs1 g1 hta hq1 ⟨⟨t1, t2, t3⟩, t4⟩
        refine b172_134 (k1 := fun r1 => ?_) (k2 := fun r1 => ?_)
        · exact nx
        · have hsame := l6 (by omega)
          rw [hsame] at v0 v1 v4
          refine b172_148 (k1 := fun r => by omega) (k2 := fun _ => ?_)
          refine b172_167 (k1 := fun r => by omega) (k2 := fun _ => ?_)
          refine b172_186 (k1 := fun _ => ?_) (k2 := fun r => by omega)
          exact nx
      refine b172_95 (k1 := fun r1 => ?_) (k2 := fun r1 => ?_)
      · refine b172_111 (k := ?_)
        exact fin 0 _ (Or.inr ⟨rfl, by omega⟩)
      · refine b172_107 (k := ?_)
        exact fin 1 _ (Or.inl ⟨rfl, by omega⟩)
    -- the five
    have five : ∀ (m' : Nat) (j : Int) (σ1 : pe_H), j + m' = 5 → 0 ≤ j → ll_nb σ1 N M → ll_sc σ1 → ll_Q T U σ1 g a a (some a) h → ll_td σ1 g ta (fun c k => c < (i : Int) ∨ (c = (i : Int) ∧ k < j)) (pa_rounds n.toNat a) → pe_X (d + 18) 172 (64, [some (.inr (.inr 3)), some (.inr (.inr 1)), some (.inl n), some (.inr (.inr ta)), some (.inl (pa_cnt (pa_isEnd (pa_rounds n.toNat a)) i)), some (.inl (i : Int)), some (.inl j), o7, o8, o9, o10], [], σ1) Φ := by
      intro m'
      induction m' with
      | zero =>
        intro j σ1 hj hj0 hb1 hs1 hq1 htd1
        have hL1 := hq1.R.L
        refine b172_64 (k1 := fun _ => ?_) (k2 := fun r => by omega)
        refine after σ1 _ hb1 hs1 hq1 ⟨htd1.1, fun c c0 c8 => ?_⟩
        obtain ⟨x1, x2, x3⟩ := htd1.2 c c0 c8
        exact ⟨x1, x2, fun k k0 k5 hp => x3 k k0 k5 (by have hp : c < ((i + 1 : Nat) : Int) := hp; push_cast at hp; omega)⟩
      | succ m' ih' =>
        intro j σ1 hj hj0 hb1 hs1 hq1 htd1
        have hL1 := hq1.R.L
        obtain ⟨⟨t1, t2, t3⟩, t4⟩ := htd1
        obtain ⟨u1, ⟨u2, u3, u4⟩, u5⟩ := t4 (i : Int) (by omega) (by omega)
        refine b172_64 (k1 := fun r => by omega) (k2 := fun _ => ?_)
        refine b172_70 (k := ?_)
        rw [u1]
        refine pe_M.up (q91 (d := 0) hq1 hw9 (by omega) hi4 (by omega) n60 hj0 (by omega) (fun σ2 p2 hq2 => ?_)) (by omega)
        have hb2 := hb1.z p2
        have hs2 := hs1.fz g1 n7 p2
        have hL2 := hq2.R.L
        obtain ⟨⟨y1, y2, y3⟩, y4⟩ := (show ll_td σ1 g ta (fun c k => c < (i : Int) ∨ (c = (i : Int) ∧ k < j)) (pa_rounds n.toNat a) from ⟨⟨t1, t2, t3⟩, t4⟩).fz p2
        obtain ⟨z1, ⟨z2, z3, z4⟩, z5⟩ := y4 (i : Int) (by omega) (by omega)
        refine b172_88 (k := ?_)
        have q3 : ll_fr (fun z => z = -6) 0 0 σ2 g (pe_wI σ2 (ta + 1 + ((i : Int)).toNat) j (pa_of ((pa_rounds n.toNat a).2.1 i) j)) g := ll_fr_wI hq2.R.gg z4
        have hR3 := hq2.R.fr hw9 q3 (fun z hz => by omega)
        have hq3 := hq2.law q3 (by decide) hR3
        have hL3 := hR3.L
        refine b172_89 (k := ?_)
        refine ih' (j + 1) _ (by omega) (by omega) (hb2.z q3.z) (hs2.fz g1 (by decide) q3.z) hq3 ⟨⟨y1, y2, y3⟩, fun c c0 c8 => ?_⟩
        obtain ⟨x1, x2, x3⟩ := y4 c c0 c8
        refine ⟨x1, x2, fun k k0 k5 hp => ?_⟩
        by_cases ec : c = (i : Int)
        · subst ec
          by_cases ek : k = j
          · rw [ek, pe_I_same]
          · rw [pe_I_nej ek]
            exact x3 k k0 k5 (by omega)
        · rw [pe_I_ner (by omega)]
          exact x3 k k0 k5 (by omega)
    refine b172_52 (w0 := by rw [e33]; unfold pe_in; omega) (k1 := fun r => by omega) (k2 := fun _ => ?_)
    refine b172_61 (k := ?_)
    refine five 5 0 σ0 (by decide) (by decide) hb0 hs0 hq0 ⟨htd.1, fun c c0 c8 => ?_⟩
    obtain ⟨x1, x2, x3⟩ := htd.2 c c0 c8
    exact ⟨x1, x2, fun k k0 k5 hp => x3 k k0 k5 (by show c < (i : Int); omega)⟩
theorem ll_mn2 (hg : ll_g σ g) : ll_fr (fun _ => False) 9 48 σ g (pe_mn2 σ 8 5) (fun r => if pe_n σ ≤ r ∧ r < pe_n σ + 9 then -6 else g r) := by
  have en : pe_n (pe_mn2 σ 8 5) = pe_n σ + 9 := rfl
  have eu : pe_u (pe_mn2 σ 8 5) = pe_u σ + 48 := rfl
  have e1 : σ.1 = pe_n σ := rfl
  refine ⟨⟨⟨by omega, by omega, by omega, fun h4 => (if_neg (by omega)).trans (if_neg (by omega))⟩, fun r hr => ?_⟩, fun r hr => ?_⟩
  · show (if pe_n σ ≤ r ∧ r < pe_n σ + 9 then -6 else g r) = -9
    rw [if_neg (by omega)]
    exact hg r (by omega)
  · have hlt := ll_lt hg hr
    refine ⟨if_neg (by omega), ⟨(if_neg (by omega)).trans (if_neg (by omega)), (if_neg (by omega)).trans (if_neg (by omega))⟩, fun _ j => ⟨if_neg (by omega), (if_neg (by omega)).trans (if_neg (by omega))⟩⟩
/-- holds -/
theorem k172 (hq : ll_Q T U σ g a a im h) (hs : ll_sc σ) (hsg : ll_sg σ) (h4 : a.1 4 = 0) (h6 : a.1 6 = 0) (hI : ll_I a) (k : ∀ σ', pe_n σ' ≤ pe_n σ + 78017 → pe_u σ' ≤ pe_u σ + 251096 → Φ (some (.inl 1)) σ') : pe_M (d + 20) 172 [.inr (.inr 3), .inr (.inr 1)] σ Φ := by
  have hL := hq.R.L
  refine pe_M_of (d := d + 19) ck172 (Nat.le_of_ble_eq_true rfl) ?_
  refine b172_0 (k := ?_)
  refine pe_M.up (k170 (d := d) hq hs hsg h4 h6 hI (fun σ1 g1 a1 h1 T1 U1 p1 hq1 h61 hI1 => ?_)) (by omega)
  have hL1 := hq1.R.L
  have hwf1 := hq1.W.1.1
  have h81 := hwf1.1.1
  have hw91 := hwf1.1.w9
  have hs1 := hs.fz hq.R.B.2.2.2.2.2.2.2.1 (by unfold ll_Zk; decide) p1
  refine b172_8 (k1 := fun r => by omega) (k2 := fun _ => ?_)
  refine b172_11 (k := ?_)
  refine pe_M.up (q106 (d := 0) hq1 hw91 (fun σ2 p2 hq2 => ?_)) (by omega)
  have hL2 := hq2.R.L
  have e35 := hq2.R.2.1.2.2
  have h61b := hq1.W.1.2
  have hs2 := hs1.fz hq1.R.B.2.2.2.2.2.2.2.1 ll_k71 p2
  refine b172_18 (w0 := by rw [e35]; unfold pe_in; omega) (k1 := fun _ => ?_) (k2 := fun r => by omega)
  refine b172_27 (k := ?_)
  refine pe_M.up (k146 (d := 0) hs2 (by decide) (by decide) (fun z z0 z60 => ?_)) (by omega)
  refine b172_36 (k := ?_)
  have p3 := ll_mn2 hq2.R.gg
  have hR3 := hq2.R.fr hw91 p3 (fun _ h => h.elim)
  have hq3 := hq2.law p3 (fun h => h) hR3
  have hL3 := hR3.L
  have hs3 := hs2.fz hq2.R.B.2.2.2.2.2.2.2.1 (fun h => h) p3.z
  have hn2 : 899 ≤ pe_n σ2 := hL2.1.1
  refine b172_46 (k := ?_)
  have htd : ll_td (pe_mn2 σ2 8 5) (fun r => if pe_n σ2 ≤ r ∧ r < pe_n σ2 + 9 then -6 else g1 r) (pe_n σ2) (fun c _ => c < ((0 : Nat) : Int)) (pa_rounds (1 + z).toNat a1) := by
    have e1 : σ2.1 = pe_n σ2 := rfl
    refine ⟨⟨if_pos rfl, if_pos rfl, if_pos ⟨Nat.le_refl _, by omega⟩⟩, fun c c0 c8 => ⟨?_, ⟨?_, ?_, if_pos ⟨by omega, by omega⟩⟩, fun j j0 j5 hp => ?_⟩⟩
    · exact if_pos rfl
    · exact (if_neg (by omega)).trans (if_pos ⟨by omega, by show _ < σ2.1 + 1 + 8; omega⟩)
    · exact (if_neg (by omega)).trans (if_pos ⟨by omega, by show _ < σ2.1 + 1 + 8; omega⟩)
    · have hp : c < ((0 : Nat) : Int) := hp
      omega
  have hb3 : ll_nb (pe_mn2 σ2 8 5) (pe_n σ + 78009) (pe_u σ + 251048) := ⟨by have := p1.1.1.2.1; have := p2.1.1.2.1; have := p3.1.1.2.1; omega, by have := p1.1.1.2.2; have := p2.1.1.2.2; have := p3.1.1.2.2.1; omega⟩
  have key := k172_1 (d := d + 1) (N := pe_n σ + 78009) (M := pe_u σ + 251048) (n := 1 + z) (ta := pe_n σ2) hI1 (by omega) (by omega) hwf1 h61 (fun σ' hb => k σ' (by have := hb.1; omega) (by have := hb.2; omega)) (a1.1 4).toNat 0 (pe_mn2 σ2 8 5) none none none none none (by omega) hb3 hs3 hR3.B.2.2.2.2.2.2.2.1 (by omega) hq3 htd
  exact key
end
