/-! THE CLASS: channels -/
theorem pa_nodup_len : ∀ (m : Nat) (l : List Int), l.Nodup → (∀ z ∈ l, 0 ≤ z ∧ z < m) → l.length ≤ m
  | 0, l, _, h => by
    cases l with
    | nil => exact Nat.le_refl _
    | cons x xs => have := h x List.mem_cons_self; omega
  | m + 1, l, hn, h => by
    by_cases hm : (m : Int) ∈ l
    · have h1 := List.length_erase_of_mem hm
      have h2 := pa_nodup_len m (l.erase m) (hn.erase _) (fun z hz => by
        have h3 := (hn.mem_erase_iff).mp hz
        have := h z h3.2
        have := h3.1
        omega)
      omega
    · have := pa_nodup_len m l hn (fun z hz => by
        have := h z hz
        have : z ≠ m := fun e => hm (by rw [← e]; exact hz)
        omega)
      omega
theorem pa_cw_id {a : pa_M} {c : Int} : pa_cw a c (a.2.1 c) = a := by
  unfold pa_cw
  refine Prod.ext rfl (Prod.ext ?_ rfl)
  funext i
  show (if i = c then _ else _) = _
  by_cases e : i = c
  · rw [if_pos e, e]
  · rw [if_neg e]
section
variable {d B : Nat} {Φ : Option pe_V → pe_H → Prop} {T : Nat → Prop} {σ σ' : pe_H} {c ch : Int} {a : pa_M}
theorem pk_RM_q {k : Nat} {l : List Int} (hM : pk_RM B T σ a) (hw9 : pa_wf9 a) (h0 : 0 ≤ ch) (h3 : ch < 3) (hf : pk_frI (fun x => pk_Zq (if k = 0 then pk_q B ch else pk_g B ch) x) σ σ') (hk : k < 2) (hQ : pk_RQ σ' (if k = 0 then pk_q B ch else pk_g B ch) l) : pk_RM B T σ' (pa_qw a k ch l) := by
  obtain ⟨w, n, hR, hn⟩ := hM
  exact ⟨w, n, pk_RMx_q hR hw9 h0 h3 hf hk hQ, hn⟩
theorem pk_Zq_Zs {k : Nat} (h0 : 0 ≤ ch) (h3 : ch < 3) (x : Nat) (h : pk_Zq (if k = 0 then pk_q B ch else pk_g B ch) x) : pk_Zs B x ∧ x ≠ B := by
  unfold pk_Zq pk_q pk_g at h
  unfold pk_Zs
  split at h <;> omega
/-- goOn, waitFor over the machine -/
theorem k8M (hM : pk_RM B T σ a) (hwf : pa_wf9 a) (h0 : 0 ≤ c) (h1 : c < a.1 4) (k : ∀ σ2, pk_frI (pk_Zs B) σ σ2 → pe_I σ2 B 7 = pe_I σ B 7 → pk_RM B T σ2 (pa_cw a c (pa_on (a.2.1 c))) → Φ none σ2) : pe_M (d + 1) 8 [.inr (.inr (pk_c B c))] σ Φ := by
  obtain ⟨w, n, hR, hn⟩ := hM
  refine k8 hR hwf h0 h1 (fun σ2 g1 g2 => k σ2 (pk_frI_mono g1 (pk_Zc_Zs h0 (by have := hwf.1; omega))) (g1.1.2 B pk_B_Zc 7).1 (pk_RM_cw hn h0 h1 (Int.le_refl _) g2))
theorem k7M {whom st : Int} (hM : pk_RM B T σ a) (hwf : pa_wf9 a) (h0 : 0 ≤ c) (h1 : c < a.1 4) (k : ∀ σ2, pk_frI (pk_Zs B) σ σ2 → pe_I σ2 B 7 = pe_I σ B 7 → pk_RM B T σ2 (pa_cw a c (pa_wait (a.2.1 c) whom st)) → Φ none σ2) : pe_M (d + 1) 7 [.inr (.inr (pk_c B c)), .inl whom, .inl st] σ Φ := by
  obtain ⟨w, n, hR, hn⟩ := hM
  refine k7 hR hwf h0 h1 (fun σ2 g1 g2 => k σ2 (pk_frI_mono g1 (pk_Zc_Zs h0 (by have := hwf.1; omega))) (g1.1.2 B pk_B_Zc 7).1 (pk_RM_cw hn h0 h1 (Int.le_refl _) g2))
theorem pk_RM.i (h : pk_RM B T σ a) (h0 : 0 ≤ c) (h1 : c < a.1 4) : pe_I σ (pk_c B c) 0 = (a.2.1 c).1 0 ∧ pe_I σ (pk_c B c) 2 = (a.2.1 c).1 2 ∧ pe_I σ (pk_c B c) 3 = (a.2.1 c).1 3 ∧ pe_I σ (pk_c B c) 4 = (a.2.1 c).1 4 ∧ pe_I σ (pk_c B c) 5 = (a.2.1 c).1 5 ∧ pe_I σ (pk_c B c) 6 = (a.2.1 c).1 6 ∧ pe_I σ (pk_c B c) 7 = (a.2.1 c).1 7 := by
  obtain ⟨w, n, h, -⟩ := h
  exact (h.co h0 h1).1.1
theorem pk_RM.cnt (h : pk_RM B T σ a) : pe_I σ B 4 = a.1 4 ∧ pe_I σ B 5 = a.1 5 ∧ pe_I σ B 6 = a.1 6 := by
  obtain ⟨w, n, h, -⟩ := h
  exact ⟨h.2.2.1.1, h.2.2.1.2.1, h.2.2.1.2.2.1⟩
theorem pk_RM.q (h : pk_RM B T σ a) (h0 : 0 ≤ ch) (h3 : ch < 3) : pk_RQ σ (pk_q B ch) (a.2.2.2 0 ch) ∧ pk_RQ σ (pk_g B ch) (a.2.2.2 1 ch) := by
  obtain ⟨w, n, h, -⟩ := h
  exact h.2.2.2.2.2.2 ch h0 h3
/-- who stands in a queue -/
theorem pa_wfq_b {k : Nat} (hq : pa_wfq a) (h8 : a.1 4 ≤ 8) (hk : k < 2) (h0 : 0 ≤ ch) (h3 : ch < 3) : (∀ z ∈ a.2.2.2 k ch, 0 ≤ z ∧ z < 8) ∧ (a.2.2.2 k ch).length ≤ 8 ∧ ∀ c, 0 ≤ c → c < 8 → c ∉ a.2.2.2 k ch → (a.2.2.2 k ch).length < 8 := by
  obtain ⟨q1, q2⟩ := hq k hk ch h0 h3
  have hb : ∀ z ∈ a.2.2.2 k ch, 0 ≤ z ∧ z < 8 := fun z hz => by have := ((q2 z).mp hz).1; omega
  refine ⟨hb, pa_nodup_len 8 _ q1 hb, fun c c0 c8 hc => ?_⟩
  have := pa_nodup_len 8 (c :: a.2.2.2 k ch) (List.nodup_cons.mpr ⟨hc, q1⟩) (fun z hz => by
    rcases List.mem_cons.mp hz with rfl | hz
    · exact ⟨c0, c8⟩
    · exact hb z hz)
  rw [List.length_cons] at this
  omega
theorem k34 {n : Int} (hM : pk_RM B T σ a) (hwf : pa_wf3 a) (h0 : 0 ≤ c) (h1 : c < a.1 4) (h3 : (a.2.1 c).1 2 < 3) (hn0 : 0 ≤ n) (hn9 : n ≤ 9) (k : ∀ σ2, pk_frI (pk_Zs B) σ σ2 → pe_I σ2 B 7 = pe_I σ B 7 → pk_RM B T σ2 (pa_sendAt a c (a.2.1 c) n) → Φ none σ2) : pe_M (d + 2) 34 [.inr (.inr B), .inl c, .inl n] σ Φ := by
  have hF := hM.F
  have hoc := hM.o hwf.1 h0 h1
  have h8 := hwf.1.1
  have hc8 : c < 8 := by omega
  refine pe_M_of ck34 (Nat.le_of_ble_eq_true rfl) ?_
  refine b34_0 (k1 := fun q => ?_) (k2 := fun q => ?_)
  · obtain ⟨q1, q2⟩ := hwf.2.1 1 (by decide) n hn0 q
    obtain ⟨g1, g2, g3⟩ := pa_wfq_b (k := 1) hwf.2.1 h8.2 (by decide) hn0 q
    have hQ := (hM.q hn0 q).2
    have hQ1 := hQ.1
    refine b34_27 (k1 := fun q2 => ?_) (k2 := fun q2 => ?_)
    · have hl : a.2.2.2 1 n = [] := List.length_eq_zero_iff.mp (by omega)
      have hnot : c ∉ a.2.2.2 0 n := fun hc => by
        have := ((hwf.2.1 0 (by decide) n hn0 q).2 c).mp hc
        omega
      obtain ⟨f1, f2, f3⟩ := pa_wfq_b (k := 0) hwf.2.1 h8.2 (by decide) hn0 q
      refine b34_94 (k := ?_)
      refine k54 (pk_mQ hF hn0 q) (hM.q hn0 q).1 (f3 c h0 hc8 hnot) (fun σ1 e1 e2 => ?_)
      have hM1 := pk_RM_q (k := 0) hM hwf.1.w9 hn0 q e1 (by decide) e2
      have hF1 := hM1.F
      have ho1 : pk_Fo (pk_c B c) σ1 := pk_mO hF1 h0 hc8
      refine b34_104 (k := ?_)
      refine k7M hM1 hwf.1.w9 h0 h1 (fun σ2 e3 e4 e5 => ?_)
      refine b34_110 (k := ?_)
      refine k σ2 (pk_frI_trans (pk_frI_mono e1 (fun x hx => (pk_Zq_Zs (k := 0) hn0 q x hx).1)) e3) (e4.trans (e1.1.2 B (fun hx => (pk_Zq_Zs (k := 0) hn0 q B hx).2 rfl) 7).1) ?_
      unfold pa_sendAt
      rw [if_neg (by omega), hl]
      exact e5
    · obtain ⟨g, l, hl⟩ := List.exists_cons_of_ne_nil (l := a.2.2.2 1 n) (fun e => by rw [e] at hQ1; simp at hQ1; omega)
      have eg : pe_I σ (pk_g B n + 1) 0 = g := by
        have := hQ.2 0 (by rw [hl]; simp)
        rw [hl] at this
        simpa using this
      have hgb := g1 g (by rw [hl]; exact List.mem_cons_self)
      have hgc : 0 ≤ g ∧ g < a.1 4 := by
        have := ((hwf.2.1 1 (by decide) n hn0 q).2 g).mp (by rw [hl]; exact List.mem_cons_self)
        exact this.1
      refine b34_39 (k := ?_)
      rw [eg]
      refine k55 hgb (pk_mG hF hn0 q) hQ g2 g1 (fun σ1 e1 e2 => ?_)
      have hM1 := pk_RM_q (k := 1) hM hwf.1.w9 hn0 q e1 (by decide) e2
      have hF1 := hM1.F
      have ho1 : pk_Fo (pk_c B c) σ1 := pk_mO hF1 h0 hc8
      have ho2 : pk_Fo (pk_c B g) σ1 := pk_mO hF1 hgc.1 hgb.2
      have e3 : pe_I σ1 (pk_c B c) 3 = (a.2.1 c).1 3 := (hM1.i h0 h1).2.2.1
      refine b34_77 (k := ?_)
      have hM2 := pk_RM_set (j := 3) (x := pe_I σ1 (pk_c B c) 3) (by decide) hM1 hwf.1.w9 hgc.1 hgc.2
      refine k8M hM2 (pa_wf9_cw (a := pa_qw a 1 n _) hwf.1.w9 (hwf.1.w9.2 g hgc.1 hgc.2)) hgc.1 hgc.2 (fun σ2 e4 e5 e6 => ?_)
      refine b34_91 (k := ?_)
      refine b34_110 (k := ?_)
      refine k σ2 (pk_frI_trans (pk_frI_trans (pk_frI_mono e1 (fun x hx => (pk_Zq_Zs (k := 1) hn0 q x hx).1)) (pk_frI_wI (pk_Zc_Zs hgc.1 hgb.2 _ pk_r_Zc))) e4) (e5.trans ((pe_I_ner (by unfold pk_c; omega)).trans (e1.1.2 B (fun hx => (pk_Zq_Zs (k := 1) hn0 q B hx).2 rfl) 7).1)) ?_
      rw [pa_cw_same, pa_cw_cw, e3] at e6
      unfold pa_sendAt
      rw [if_neg (by omega), hl, pa_cw_id]
      rw [hl] at e6
      exact e6
  · refine b34_12 (k := ?_)
    refine kTN hM hwf.1 h0 h1 h3 (Or.inl ⟨rfl, rfl⟩) (fun m σ1 hF1 g => ?_)
    have ho1' : pk_Fo (pk_c B c) σ1 := pk_mO hF1 h0 hc8
    refine b34_21 (k := ?_)
    refine g _ _ (fun σ2 e1 e2' e3' => ?_)
    refine b34_24 (k := ?_)
    refine b34_110 (k := ?_)
    refine k σ2 e1 e2' ?_
    unfold pa_sendAt
    rw [if_pos (by omega)]
    exact e3'
theorem k35 {n : Int} (hM : pk_RM B T σ a) (hwf : pa_wf3 a) (h0 : 0 ≤ c) (h1 : c < a.1 4) (h3 : (a.2.1 c).1 2 < 3) (hn0 : 0 ≤ n) (hn9 : n ≤ 9) (k : ∀ σ2, pk_frI (pk_Zs B) σ σ2 → pe_I σ2 B 7 = pe_I σ B 7 → pk_RM B T σ2 (pa_getAt a c (a.2.1 c) n) → Φ none σ2) : pe_M (d + 2) 35 [.inr (.inr B), .inl c, .inl n] σ Φ := by
  have hF := hM.F
  have hoc := hM.o hwf.1 h0 h1
  have h8 := hwf.1.1
  have hc8 : c < 8 := by omega
  refine pe_M_of ck35 (Nat.le_of_ble_eq_true rfl) ?_
  refine b35_0 (k1 := fun q => ?_) (k2 := fun q => ?_)
  · obtain ⟨g1, g2, g3⟩ := pa_wfq_b (k := 0) hwf.2.1 h8.2 (by decide) hn0 q
    have hQ := (hM.q hn0 q).1
    have hQ1 := hQ.1
    refine b35_27 (k1 := fun q2 => ?_) (k2 := fun q2 => ?_)
    · have hl : a.2.2.2 0 n = [] := List.length_eq_zero_iff.mp (by omega)
      have hnot : c ∉ a.2.2.2 1 n := fun hc => by
        have := ((hwf.2.1 1 (by decide) n hn0 q).2 c).mp hc
        omega
      obtain ⟨f1, f2, f3⟩ := pa_wfq_b (k := 1) hwf.2.1 h8.2 (by decide) hn0 q
      refine b35_94 (k := ?_)
      refine k54 (pk_mG hF hn0 q) (hM.q hn0 q).2 (f3 c h0 hc8 hnot) (fun σ1 e1 e2 => ?_)
      have hM1 := pk_RM_q (k := 1) hM hwf.1.w9 hn0 q e1 (by decide) e2
      have hF1 := hM1.F
      have ho1 : pk_Fo (pk_c B c) σ1 := pk_mO hF1 h0 hc8
      refine b35_104 (k := ?_)
      refine k7M hM1 hwf.1.w9 h0 h1 (fun σ2 e3 e4 e5 => ?_)
      refine b35_110 (k := ?_)
      refine k σ2 (pk_frI_trans (pk_frI_mono e1 (fun x hx => (pk_Zq_Zs (k := 1) hn0 q x hx).1)) e3) (e4.trans (e1.1.2 B (fun hx => (pk_Zq_Zs (k := 1) hn0 q B hx).2 rfl) 7).1) ?_
      unfold pa_getAt
      rw [if_neg (by omega), hl]
      exact e5
    · obtain ⟨g, l, hl⟩ := List.exists_cons_of_ne_nil (l := a.2.2.2 0 n) (fun e => by rw [e] at hQ1; simp at hQ1; omega)
      have eg : pe_I σ (pk_q B n + 1) 0 = g := by
        have := hQ.2 0 (by rw [hl]; simp)
        rw [hl] at this
        simpa using this
      have hgb := g1 g (by rw [hl]; exact List.mem_cons_self)
      have hgs := ((hwf.2.1 0 (by decide) n hn0 q).2 g).mp (by rw [hl]; exact List.mem_cons_self)
      have hgc : 0 ≤ g ∧ g < a.1 4 := hgs.1
      refine b35_39 (k := ?_)
      rw [eg]
      refine k55 hgb (pk_mQ hF hn0 q) hQ g2 g1 (fun σ1 e1 e2 => ?_)
      have hM1 := pk_RM_q (k := 0) hM hwf.1.w9 hn0 q e1 (by decide) e2
      have hF1 := hM1.F
      have ho1 : pk_Fo (pk_c B c) σ1 := pk_mO hF1 h0 hc8
      have ho2 : pk_Fo (pk_c B g) σ1 := pk_mO hF1 hgc.1 hgb.2
      have e3 : pe_I σ1 (pk_c B g) 3 = (a.2.1 g).1 3 := (hM1.i hgc.1 hgc.2).2.2.1
      refine b35_77 (k := ?_)
      have hM2 := pk_RM_set (j := 3) (x := pe_I σ1 (pk_c B g) 3) (by decide) hM1 hwf.1.w9 h0 h1
      refine k8M hM2 (pa_wf9_cw (a := pa_qw a 0 n _) hwf.1.w9 (hwf.1.w9.2 c h0 h1)) hgc.1 hgc.2 (fun σ2 e4 e5 e6 => ?_)
      refine b35_91 (k := ?_)
      refine b35_110 (k := ?_)
      refine k σ2 (pk_frI_trans (pk_frI_trans (pk_frI_mono e1 (fun x hx => (pk_Zq_Zs (k := 0) hn0 q x hx).1)) (pk_frI_wI (pk_Zc_Zs h0 hc8 _ pk_r_Zc))) e4) (e5.trans ((pe_I_ner (by unfold pk_c; omega)).trans (e1.1.2 B (fun hx => (pk_Zq_Zs (k := 0) hn0 q B hx).2 rfl) 7).1)) ?_
      rw [e3] at e6
      unfold pa_getAt
      rw [if_neg (by omega), hl, pa_cw_id]
      rw [hl] at e6
      exact e6
  · refine b35_12 (k := ?_)
    refine kTN hM hwf.1 h0 h1 h3 (Or.inl ⟨rfl, rfl⟩) (fun m σ1 hF1 g => ?_)
    have ho1' : pk_Fo (pk_c B c) σ1 := pk_mO hF1 h0 hc8
    refine b35_21 (k := ?_)
    refine g _ _ (fun σ2 e1 e2' e3' => ?_)
    refine b35_24 (k := ?_)
    refine b35_110 (k := ?_)
    refine k σ2 e1 e2' ?_
    unfold pa_getAt
    rw [if_pos (by omega)]
    exact e3'
end

