/-! THE CLASS: small methods -/
section
variable {d : Nat} {Φ : Option pe_V → pe_H → Prop} {T : Nat → Prop} {σ : pe_H} {r P : Nat} {kd fg st v u acc i : Int} {p : pa_P}
theorem k3 (ho : pk_Fo r σ) (h2 : pe_I σ r 2 = st) (hb : 0 ≤ st ∧ st ≤ 8) (k1 : 6 ≤ st → Φ (some (.inl 1)) σ) (k0 : ¬ 6 ≤ st → Φ (some (.inl 0)) σ) : pe_M (d + 1) 3 [.inr (.inr r)] σ Φ := by
  refine pe_M_of ck3 (Nat.le_of_ble_eq_true rfl) ?_
  refine b3_0 (k1 := fun q6 => ?_) (k2 := fun q6 => ?_)
  · refine b3_13 (k := ?_)
    refine b3_14 (k := ?_)
    first | exact k1 (by omega) | exact k0 (by omega)
  · refine b3_9 (k := ?_)
    refine b3_14 (k := ?_)
    first | exact k1 (by omega) | exact k0 (by omega)
theorem k4 (ho : pk_Fo r σ) (h2 : pe_I σ r 2 = st) (hb : 0 ≤ st ∧ st ≤ 8) (k1 : st ≤ 2 → Φ (some (.inl 1)) σ) (k0 : ¬ st ≤ 2 → Φ (some (.inl 0)) σ) : pe_M (d + 1) 4 [.inr (.inr r)] σ Φ := by
  refine pe_M_of ck4 (Nat.le_of_ble_eq_true rfl) ?_
  refine b4_0 (k1 := fun q5 => ?_) (k2 := fun q5 => ?_)
  · refine b4_12 (k := ?_)
    refine b4_13 (k := ?_)
    first | exact k1 (by omega) | exact k0 (by omega)
  · refine b4_8 (k := ?_)
    refine b4_13 (k := ?_)
    first | exact k1 (by omega) | exact k0 (by omega)
theorem k9 (ho : pk_Fo r σ) (hu : 0 ≤ u ∧ u ≤ 11) (k : Φ (some (.inl (if u = 0 then pe_I σ r 2 else if u = 1 then pe_I σ r 3 else if u = 2 then pe_I σ r 4 else if u = 3 then pe_I σ r 5 else pe_I σ r 6))) σ) : pe_M (d + 1) 9 [.inr (.inr r), .inl u] σ Φ := by
  refine pe_M_of ck9 (Nat.le_of_ble_eq_true rfl) ?_
  refine b9_0 (k0 := fun q1 => ?_) (k1 := fun q1 => ?_) (k2 := fun q1 => ?_) (k3 := fun q1 => ?_) (kd := fun q1_0 q1_1 q1_2 q1_3 => ?_)
  · refine b9_32 (k := ?_)
    simp_all
  · refine b9_37 (k := ?_)
    simp_all
  · refine b9_42 (k := ?_)
    simp_all
  · refine b9_47 (k := ?_)
    simp_all
  · refine b9_52 (k := ?_)
    simp_all
theorem k42 (hK : pe_K σ r = 3) (h0 : pe_I σ r 0 = kd) (h1 : pe_I σ r 1 = fg) (hb : 0 ≤ kd ∧ kd ≤ 5 ∧ 0 ≤ fg ∧ fg ≤ 9) (k : Φ (some (.inl (pa_weight kd fg))) σ) : pe_M (d + 1) 42 [.inr (.inr r)] σ Φ := by
  subst h0 h1
  refine pe_M_of ck42 (Nat.le_of_ble_eq_true rfl) ?_
  refine b42_0 (k0 := fun q4 => ?_) (k1 := fun q4 => ?_) (k2 := fun q4 => ?_) (k3 := fun q4 => ?_) (kd := fun q4_0 q4_1 q4_2 q4_3 => ?_)
  · refine b42_36 (k := ?_)
    simp_all [pa_weight]
  · refine b42_48 (k := ?_)
    simp_all [pa_weight]
  · refine b42_41 (k := ?_)
    simp_all [pa_weight]
  · refine b42_54 (k := ?_)
    simp_all [pa_weight]
  · refine b42_62 (k := ?_)
    simp_all [pa_weight]
theorem k43 (hK : pe_K σ r = 3) (h0 : pe_I σ r 0 = kd) (h1 : pe_I σ r 1 = fg) (hb : 0 ≤ kd ∧ kd ≤ 5 ∧ 0 ≤ fg ∧ fg ≤ 9) (hu : 0 ≤ u ∧ u ≤ 999) (k : Φ (some (.inl (pa_yield kd fg u))) σ) : pe_M (d + 1) 43 [.inr (.inr r), .inl u] σ Φ := by
  subst h0 h1
  refine pe_M_of ck43 (Nat.le_of_ble_eq_true rfl) ?_
  refine b43_0 (k0 := fun q4 => ?_) (k1 := fun q4 => ?_) (k2 := fun q4 => ?_) (kd := fun q4_0 q4_1 q4_2 => ?_)
  · refine b43_43 (k := ?_)
    simp_all [pa_yield]
  · refine b43_32 (k := ?_)
    simp_all [pa_yield]
  · refine b43_43 (k := ?_)
    simp_all [pa_yield]
  · refine b43_47 (k := ?_)
    simp_all [pa_yield]
theorem k44 (hK : pe_K σ r = 3) (h0 : pe_I σ r 0 = kd) (h1 : pe_I σ r 1 = fg) (hb : 0 ≤ kd ∧ kd ≤ 5 ∧ 0 ≤ fg ∧ fg ≤ 9) (hv : 0 ≤ v ∧ v ≤ 999) (k : Φ (some (.inl (pa_sent kd fg v acc))) σ) : pe_M (d + 1) 44 [.inr (.inr r), .inl v, .inl acc] σ Φ := by
  subst h0 h1
  refine pe_M_of ck44 (Nat.le_of_ble_eq_true rfl) ?_
  refine b44_0 (k0 := fun q4 => ?_) (k1 := fun q4 => ?_) (k2 := fun q4 => ?_) (k3 := fun q4 => ?_) (k4 := fun q4 => ?_) (kd := fun q4_0 q4_1 q4_2 q4_3 q4_4 => ?_)
  · refine b44_40 (k := ?_)
    simp_all [pa_sent]
  · refine b44_61 (k := ?_)
    simp_all [pa_sent]
  · refine b44_40 (k := ?_)
    simp_all [pa_sent]
  · refine b44_61 (k := ?_)
    simp_all [pa_sent]
  · refine b44_51 (k1 := fun q52 => ?_) (k2 := fun q52 => ?_)
    · refine b44_59 (k := ?_)
      refine b44_60 (k := ?_)
      simp_all [pa_sent]
    · refine b44_55 (k := ?_)
      refine b44_60 (k := ?_)
      simp_all [pa_sent]
  · refine b44_61 (k := ?_)
    simp_all [pa_sent]
theorem k49 (hP : pk_RPr T σ P p) (k : Φ (some (.inl (p.length : Int))) σ) : pe_M (d + 1) 49 [.inr (.inr P)] σ Φ := by
  have hK := hP.2.1
  have hK2 := hP.2.2.2.1
  have hL := hP.2.2.2.2.1
  refine pe_M_of ck49 (Nat.le_of_ble_eq_true rfl) ?_
  refine b49_0 (h1 := by omega) (k := ?_)
  rw [hL]
  exact k
theorem pk_ten {l n : Int} (hl : 0 ≤ l) (hn : 0 ≤ n) (hn9 : n ≤ 9) : Int.tdiv (10 * l + n) 10 = l ∧ Int.tmod (10 * l + n) 10 = n := by
  rw [Int.tdiv_eq_ediv_of_nonneg (by omega), Int.tmod_eq_emod_of_nonneg (by omega)]
  omega
theorem pa_okl_b {l : Int} (h : pa_okl l) : 97 ≤ l ∧ l ≤ 122 := by unfold pa_okl at h; omega
theorem k50 (hP : pk_RPr T σ P p) (hp : pa_wfp p) (h0 : 0 ≤ i) (h1 : i < p.length) (k : Φ (some (.inl (pa_at p i).1)) σ) : pe_M (d + 1) 50 [.inr (.inr P), .inl i] σ Φ := by
  have hK := hP.2.1
  have hK2 := hP.2.2.2.1
  have hL := hP.2.2.2.2.1
  have hI := hP.2.2.2.2.2 i h0 h1
  have h16 := hp.1
  obtain ⟨q1, q2, q3⟩ := hp.2.1 _ (pa_at_mem h0 h1)
  have q4 := pa_okl_b q1
  refine pe_M_of ck50 (Nat.le_of_ble_eq_true rfl) ?_
  refine b50_0 (k1 := fun q => by omega) (k2 := fun _ => ?_)
  refine b50_4 (h1 := by omega) (k1 := fun q => by omega) (k2 := fun _ => ?_)
  refine b50_13 (k := ?_)
  refine b50_26 (k := ?_)
  rw [hI, (pk_ten (by omega) q2 q3).1]
  exact k
theorem k51 (hP : pk_RPr T σ P p) (hp : pa_wfp p) (h0 : 0 ≤ i) (h1 : i < p.length) (k : Φ (some (.inl (pa_at p i).2)) σ) : pe_M (d + 1) 51 [.inr (.inr P), .inl i] σ Φ := by
  have hK := hP.2.1
  have hK2 := hP.2.2.2.1
  have hL := hP.2.2.2.2.1
  have hI := hP.2.2.2.2.2 i h0 h1
  have h16 := hp.1
  obtain ⟨q1, q2, q3⟩ := hp.2.1 _ (pa_at_mem h0 h1)
  have q4 := pa_okl_b q1
  refine pe_M_of ck51 (Nat.le_of_ble_eq_true rfl) ?_
  refine b51_0 (k1 := fun q => by omega) (k2 := fun _ => ?_)
  refine b51_4 (h1 := by omega) (k1 := fun q => by omega) (k2 := fun _ => ?_)
  refine b51_13 (k := ?_)
  refine b51_26 (k := ?_)
  rw [hI, (pk_ten (by omega) q2 q3).2]
  exact k
end
section
variable {d B : Nat} {Φ : Option pe_V → pe_H → Prop} {T : Nat → Prop} {σ : pe_H} {w : Int → Int × List Int} {n c : Int} {a : pa_M}
theorem pk_RMx_set' {j : Nat} {v : Int} {u : pa_C} (hj : j = 0 ∨ j = 2 ∨ j = 3 ∨ j = 4 ∨ j = 5 ∨ j = 6 ∨ j = 7) (h : pk_RMx B T σ w n (pa_cw a c u)) (hwf : pa_wf9 (pa_cw a c u)) (h0 : 0 ≤ c) (h1 : c < a.1 4) : pk_RMx B T (pe_wI σ (pk_c B c) (j : Int) v) w n (pa_cw a c (pa_s u.1 j v, u.2)) := by
  have := pk_RMx_set (v := v) hj h hwf h0 h1
  rw [pa_cw_same, pa_cw_cw] at this
  exact this
theorem pk_RMx.n2 (h : pk_RMx B T σ w n a) (h0 : 0 ≤ c) (h1 : c < a.1 4) : pe_I σ (pk_c B c) 2 = (a.2.1 c).1 2 := (h.co h0 h1).1.1.2.1
/-- goOn -/
theorem k8 (hR : pk_RMx B T σ w n a) (hw9 : pa_wf9 a) (h0 : 0 ≤ c) (h1 : c < a.1 4) (k : ∀ σ', pk_frI (pk_Zc B c) σ σ' → pk_RMx B T σ' w n (pa_cw a c (pa_on (a.2.1 c))) → Φ none σ') : pe_M (d + 1) 8 [.inr (.inr (pk_c B c))] σ Φ := by
  have ho := pk_mO hR.F h0 (by have := hw9.1; omega)
  refine pe_M_of ck8 (Nat.le_of_ble_eq_true rfl) ?_
  refine b8_0 (k := ?_)
  have g := pk_RMx_set (j := 2) (v := 1) (by decide) hR hw9 h0 h1
  have g2 := pk_RMx_set' (j := 7) (v := -4) (by decide) g (pa_wf9_cw hw9 (hw9.2 c h0 h1)) h0 h1
  exact k _ (pk_frI_then (pk_frI_wI pk_r_Zc) pk_r_Zc) g2
/-- waitFor -/
theorem k7 {whom st : Int} (hR : pk_RMx B T σ w n a) (hw9 : pa_wf9 a) (h0 : 0 ≤ c) (h1 : c < a.1 4) (k : ∀ σ', pk_frI (pk_Zc B c) σ σ' → pk_RMx B T σ' w n (pa_cw a c (pa_wait (a.2.1 c) whom st)) → Φ none σ') : pe_M (d + 1) 7 [.inr (.inr (pk_c B c)), .inl whom, .inl st] σ Φ := by
  have ho := pk_mO hR.F h0 (by have := hw9.1; omega)
  refine pe_M_of ck7 (Nat.le_of_ble_eq_true rfl) ?_
  refine b7_0 (k := ?_)
  have g := pk_RMx_set (j := 2) (v := st) (by decide) hR hw9 h0 h1
  have g2 := pk_RMx_set' (j := 7) (v := whom) (by decide) g (pa_wf9_cw hw9 (hw9.2 c h0 h1)) h0 h1
  exact k _ (pk_frI_then (pk_frI_wI pk_r_Zc) pk_r_Zc) g2
/-- growOlder -/
theorem k6 (hR : pk_RMx B T σ w n a) (hw9 : pa_wf9 a) (h0 : 0 ≤ c) (h1 : c < a.1 4) (hb : 0 ≤ (a.2.1 c).1 6 ∧ (a.2.1 c).1 6 ≤ 999) (k : ∀ σ', pk_frI (pk_Zc B c) σ σ' → pk_RMx B T σ' w n (pa_cw a c (pa_old (a.2.1 c))) → Φ none σ') : pe_M (d + 1) 6 [.inr (.inr (pk_c B c))] σ Φ := by
  have ho := pk_mO hR.F h0 (by have := hw9.1; omega)
  have h6 : pe_I σ (pk_c B c) 6 = (a.2.1 c).1 6 := (hR.co h0 h1).1.1.2.2.2.2.2.1
  have g := fun v => pk_RMx_set (j := 6) (v := v) (by decide) hR hw9 h0 h1
  refine pe_M_of ck6 (Nat.le_of_ble_eq_true rfl) ?_
  refine b6_0 (k1 := fun q => ?_) (k2 := fun q => ?_)
  · refine b6_20 (k := ?_)
    refine k _ (pk_frI_refl _ _) ?_
    have : pa_cw a c (pa_old (a.2.1 c)) = a := by
      have e : pa_old (a.2.1 c) = a.2.1 c := by
        unfold pa_old
        rw [if_neg (by omega)]
        refine Prod.ext ?_ rfl
        funext j
        show pa_s _ 6 _ j = _
        by_cases e : j = 6
        · rw [e, pa_ss]
        · rw [pa_sn e]
      rw [e]
      unfold pa_cw
      refine Prod.ext rfl (Prod.ext ?_ rfl)
      funext i
      show (if i = c then _ else _) = _
      by_cases e : i = c
      · rw [if_pos e, e]
      · rw [if_neg e]
    rw [this]; exact hR
  · refine b6_10 (k := ?_)
    have g1 := g (pe_I σ (pk_c B c) 6 + 1)
    have ho' := pk_mO g1.F h0 (by have := hw9.1; omega)
    refine b6_20 (k := ?_)
    refine k _ (pk_frI_wI pk_r_Zc) ?_
    have e : (pa_s (a.2.1 c).1 6 (pe_I σ (pk_c B c) 6 + 1), (a.2.1 c).2) = pa_old (a.2.1 c) := by
      unfold pa_old
      rw [if_pos (by omega), h6]
    rw [← e]; exact g1
/-- takeIn -/
theorem k5 {v : Int} (hR : pk_RMx B T σ w n a) (hw9 : pa_wf9 a) (h0 : 0 ≤ c) (h1 : c < a.1 4) (hn : pa_wfn (a.2.1 c).1) (hv : 0 ≤ v ∧ v ≤ 999) (k : ∀ σ', pk_frI (pk_Zc B c) σ σ' → pk_RMx B T σ' w n (pa_cw a c (pa_take (a.2.1 c) v)) → Φ none σ') : pe_M (d + 2) 5 [.inr (.inr (pk_c B c)), .inl v] σ Φ := by
  have h8 : c < 8 := by have := hw9.1; omega
  have ho := pk_mO hR.F h0 h8
  obtain ⟨⟨a0, a2, a3, -⟩, b1, b2, b3, b4⟩ := (hR.co h0 h1).1
  obtain ⟨n0, n2, n3, n4, n5, n6, n20, n21, -⟩ := hn
  refine pe_M_of ck5 (Nat.le_of_ble_eq_true rfl) ?_
  refine b5_0 (k1 := fun q => ?_) (k2 := fun q => ?_)
  · refine b5_24 (k := ?_)
    have g := pk_RMx_set (j := 2) (v := 1) (by decide) hR hw9 h0 h1
    refine k _ (pk_frI_wI pk_r_Zc) ?_
    unfold pa_take
    rw [if_neg (by omega)]
    exact g
  · refine b5_8 (k := ?_)
    refine k44 b2 b3 b4 (by omega) hv ?_
    refine b5_21 (k := ?_)
    have g := pk_RMx_set (j := 3) (v := pa_sent ((a.2.1 c).1 20) ((a.2.1 c).1 21) v (pe_I σ (pk_c B c) 3)) (by decide) hR hw9 h0 h1
    have ho' := pk_mO g.F h0 h8
    refine b5_24 (k := ?_)
    have g2 := pk_RMx_set' (j := 2) (v := 1) (by decide) g (pa_wf9_cw hw9 (hw9.2 c h0 h1)) h0 h1
    refine k _ (pk_frI_then (pk_frI_wI pk_r_Zc) pk_r_Zc) ?_
    unfold pa_take
    rw [if_pos (by omega), ← a3]
    exact g2
end

