/-! THE CLASS: lineUp, makeRound -/
def pk_Zl (B x : Nat) : Prop := x = B + 5 ∨ x = B + 6
def pk_Zb (B x : Nat) : Prop := pk_Zs B x ∨ pk_Zl B x
section
variable {d B : Nat} {Φ : Option pe_V → pe_H → Prop} {T : Nat → Prop} {σ σ' : pe_H} {c : Int} {a : pa_M}
theorem pk_Zl_Z (x : Nat) (h : pk_Zl B x) : pk_Z B x := by
  unfold pk_Zl at h
  unfold pk_Z
  omega
theorem pk_RM_keep {Z : Nat → Prop} (hM : pk_RM B T σ a) (hw9 : pa_wf9 a) (hf : pk_frI Z σ σ') (hz : ∀ x, Z x → pk_Zl B x) : pk_RM B T σ' a := by
  obtain ⟨w, n, ⟨a1, a2, a3, a4, a5, a6, a7⟩, hn⟩ := hM
  have hT : ∀ x, T x → ¬ Z x := fun x hx e => a2 x hx (pk_Zl_Z x (hz x e))
  have hB : ∀ x, x ≠ B + 5 → x ≠ B + 6 → ¬ Z x := fun x h1 h2 e => by have := hz x e; unfold pk_Zl at this; omega
  have e : ∀ x, x ≠ B + 5 → x ≠ B + 6 → ∀ j, pe_I σ' x j = pe_I σ x j := fun x h1 h2 j => (hf.1.2 x (hB x h1 h2) j).1
  refine ⟨w, n, ⟨pk_Fm_frI hf a1, a2, ?_, ?_, fun i hi0 hi1 => ?_, fun p hp0 hp1 => ?_, fun ch hc0 hc3 => ?_⟩, hn⟩
  · rw [e B (by omega) (by omega), e B (by omega) (by omega), e B (by omega) (by omega), e B (by omega) (by omega)]; exact a3
  · rw [funext (e (B + 7) (by omega) (by omega)), funext (e (B + 8) (by omega) (by omega))]; exact a4
  · exact pk_RCo_keep hf.1 hT (fun x h1 h2 => hB x (by unfold pk_c at h1; omega) (by unfold pk_c at h1; omega)) (Int.le_refl _) (fun _ _ => rfl) (hw9.2 i hi0 hi1) (a5 i hi0 hi1)
  · rw [(hf.1.2 (B + 1) (hB _ (by omega) (by omega)) p).2]
    exact pk_RPr_fr hf.1 hT (a6 p hp0 hp1)
  · obtain ⟨b1, b2⟩ := a7 ch hc0 hc3
    exact ⟨pk_RQ_keep (e _ (by unfold pk_q; omega) (by unfold pk_q; omega) 1) (fun j => e _ (by unfold pk_q; omega) (by unfold pk_q; omega) j) b1, pk_RQ_keep (e _ (by unfold pk_g; omega) (by unfold pk_g; omega) 1) (fun j => e _ (by unfold pk_g; omega) (by unfold pk_g; omega) j) b2⟩
/-- width, round -/
theorem pk_RM_B {j : Nat} {v : Int} (hj : j = 5 ∨ j = 6) (hM : pk_RM B T σ a) (hw9 : pa_wf9 a) : pk_RM B T (pe_wI σ B (j : Int) v) (pa_s a.1 j v, a.2) := by
  obtain ⟨w, n, ⟨a1, a2, ⟨b1, b2, b3, b4⟩, a4, a5, a6, a7⟩, hn⟩ := hM
  have hf : pk_frI (fun x => x = B) σ (pe_wI σ B (j : Int) v) := pk_frI_wI rfl
  have hT : ∀ x, T x → x ≠ B := fun x hx e => a2 x hx (by rw [e]; unfold pk_Z; omega)
  have e4 : pa_s a.1 j v 4 = a.1 4 := pa_sn (by omega)
  have e : ∀ x, x ≠ B → ∀ i, pe_I (pe_wI σ B (j : Int) v) x i = pe_I σ x i := fun x hx i => pe_I_ner hx
  have hn' : n + pa_pots (pa_s a.1 j v, a.2) (pa_s a.1 j v 4).toNat ≤ 64 * pa_s a.1 j v 4 := by rw [e4]; exact hn
  refine ⟨w, n, ⟨pk_Fm_frI hf a1, a2, ⟨?_, ?_, ?_, ?_⟩, ?_, fun i hi0 hi1 => ?_, fun p hp0 hp1 => ?_, fun ch hc0 hc3 => ?_⟩, hn'⟩
  · rw [pe_I_nej (by omega)]; show _ = pa_s a.1 j v 4; rw [e4]; exact b1
  · rcases hj with rfl | rfl <;> simp [pe_I_w, pa_s] <;> assumption
  · rcases hj with rfl | rfl <;> simp [pe_I_w, pa_s] <;> assumption
  · rw [pe_I_nej (by omega)]; exact b4
  · rw [funext (e (B + 7) (by omega)), funext (e (B + 8) (by omega))]; exact a4
  · have hi1 : i < a.1 4 := by rw [← e4]; exact hi1
    exact pk_RCo_keep hf.1 hT (fun x h1 h2 => by unfold pk_c at h1; omega) (Int.le_refl _) (fun _ _ => rfl) (hw9.2 i hi0 hi1) (a5 i hi0 hi1)
  · exact pk_RPr_fr hf.1 hT (a6 p hp0 hp1)
  · obtain ⟨b1, b2⟩ := a7 ch hc0 hc3
    exact ⟨pk_RQ_keep (e _ (by unfold pk_q; omega) 1) (fun j => e _ (by unfold pk_q; omega) j) b1, pk_RQ_keep (e _ (by unfold pk_g; omega) 1) (fun j => e _ (by unfold pk_g; omega) j) b2⟩
/-- the line and the ranks -/
def pk_LR (B : Nat) (σ : pe_H) (rk : Int → Int) (L : List Int) : Prop := ∀ j : Nat, j < L.length → pe_I σ (B + 5) j = L.getD j 0 ∧ pe_I σ (B + 6) j = rk (L.getD j 0)
theorem pa_getD_app1 {L1 L2 : List Int} {j : Nat} (h : j < L1.length) : (L1 ++ L2).getD j 0 = L1.getD j 0 := by
  simp only [List.getD_eq_getElem?_getD]
  rw [List.getElem?_append_left h]
theorem pa_getD_app2 {L1 L2 : List Int} {j : Nat} : (L1 ++ L2).getD (L1.length + j) 0 = L2.getD j 0 := by
  simp only [List.getD_eq_getElem?_getD]
  rw [List.getElem?_append_right (by omega)]
  simp
theorem pa_getD_mem {L : List Int} {j : Nat} (h : j < L.length) : L.getD j 0 ∈ L := by
  rw [List.getD_eq_getElem?_getD, List.getElem?_eq_getElem h]
  exact List.getElem_mem h
theorem k30_ins {rk : Int → Int} (hrk : ∀ z, 0 ≤ z → z < 8 → -2147483648 ≤ rk z ∧ rk z < 2147483648) (h0 : 0 ≤ c) (h8 : c < 8) {m : Int} : ∀ (n : Nat) (L1 L2 : List Int) (σ : pe_H), L1.length = n → pk_Fm B σ → (∀ z ∈ L1, 0 ≤ z ∧ z < 8) → (L1.length + L2.length < 8) → m = L1.length + L2.length → L1.Pairwise (fun x y => rk y ≤ rk x) → (∀ z ∈ L2, rk z < rk c) → (∀ j : Nat, j < L1.length → pe_I σ (B + 5) j = L1.getD j 0 ∧ pe_I σ (B + 6) j = rk (L1.getD j 0)) → (∀ j : Nat, j < L2.length → pe_I σ (B + 5) (L1.length + 1 + j : Int) = L2.getD j 0 ∧ pe_I σ (B + 6) (L1.length + 1 + j : Int) = rk (L2.getD j 0)) →
    (∀ σ' o3 o4, pk_frI (pk_Zl B) σ σ' → pk_LR B σ' rk (pa_ins rk c (L1 ++ L2)) → pe_X d 30 (125, [some (.inr (.inr B)), some (.inl (m + 1)), some (.inl c), o3, o4], [], σ') Φ) → pe_X d 30 (50, [some (.inr (.inr B)), some (.inl m), some (.inl c), some (.inl (rk c)), some (.inl (L1.length : Int))], [], σ) Φ := by
  intro n
  induction n with
  | zero =>
    intro L1 L2 σ hn hF hz hl hm hp hlt hL1 hL2 k
    have hL : L1 = [] := List.length_eq_zero_iff.mp hn
    subst hL
    have hb := hrk c h0 h8
    refine b30_50 (k1 := fun _ => ?_) (k2 := fun q => by simp at q)
    rw [List.length_nil] at hl hm
    refine b30_106 (h0 := by simp) (h1 := by simp) (k := ?_)
    refine k _ _ _ (pk_frI_then (pk_frI_wI (Or.inr rfl)) (Or.inl rfl)) (fun j hj => ?_)
    rw [List.nil_append, show pa_ins rk c L2 = c :: L2 from pa_ins_split rk c [] L2 (fun h q => by cases q) hlt] at hj ⊢
    cases j with
    | zero =>
      constructor
      · simp [pe_I_w]
      · rw [pe_I_ner (by omega)]; simp [pe_I_w]
    | succ j =>
      rw [List.length_cons] at hj
      have := hL2 j (by omega)
      simp only [List.length_nil] at this
      have e : (((j + 1 : Nat)) : Int) = ((0 : Nat) : Int) + 1 + (j : Int) := by omega
      constructor
      · rw [pe_I_nej (by simp; omega), pe_I_ner (by omega), e, this.1]; simp
      · rw [pe_I_ner (by omega), pe_I_nej (by simp; omega), e, this.2]; simp
  | succ n ih =>
    intro L1 L2 σ hn hF hz hl hm hp hlt hL1 hL2 k
    have hb := hrk c h0 h8
    obtain ⟨L, h, rfl⟩ : ∃ L b, L1 = L ++ [b] := by
      rcases List.eq_nil_or_concat L1 with e | e
      · rw [e] at hn; cases hn
      · simpa using e
    have hlen : (L ++ [h]).length = L.length + 1 := by simp
    rw [hlen] at hn hl hm hL1
    have hh := hz h (by simp)
    have hbh := hrk h hh.1 hh.2
    have eL := hL1 L.length (by omega)
    have eh : (L ++ [h]).getD L.length 0 = h := by
      have := pa_getD_app2 (L1 := L) (L2 := [h]) (j := 0)
      simpa using this
    rw [eh] at eL
    have e1 : ((L ++ [h]).length : Int) - 1 = (L.length : Int) := by rw [hlen]; omega
    have hall : ∀ z ∈ L ++ [h], rk h ≤ rk z := fun z hz' => by
      rcases List.mem_append.mp hz' with q | q
      · exact (List.pairwise_append.mp hp).2.2 z q h (by simp)
      · have : z = h := by simpa using q
        subst this; exact Int.le_refl _
    refine b30_50 (k1 := fun q => by rw [hlen] at q; omega) (k2 := fun _ => ?_)
    refine b30_55 (w2 := by rw [e1]; unfold pe_in; omega) (k1 := fun q => ?_) (k2 := fun q => ?_)
    · rw [e1] at q
      refine b30_106 (k := ?_)
      refine k _ _ _ (pk_frI_then (pk_frI_wI (Or.inr rfl)) (Or.inl rfl)) (fun j hj => ?_)
      rw [pa_ins_split rk c (L ++ [h]) L2 (fun z hz' => by have := hall z hz'; omega) hlt] at hj ⊢
      rw [List.length_append, List.length_cons, hlen] at hj
      by_cases q1 : j < L.length + 1
      · have := hL1 j q1
        rw [pa_getD_app1 (by rw [hlen]; exact q1)]
        constructor
        · rw [pe_I_nej (by rw [hlen]; omega), pe_I_ner (by omega)]; exact this.1
        · rw [pe_I_ner (by omega), pe_I_nej (by rw [hlen]; omega)]; exact this.2
      · by_cases q2 : j = L.length + 1
        · subst q2
          have e3 : ((L ++ [h]) ++ c :: L2).getD (L.length + 1) 0 = c := by
            have := pa_getD_app2 (L1 := L ++ [h]) (L2 := c :: L2) (j := 0)
            rw [hlen] at this
            simpa using this
          rw [e3]
          constructor
          · rw [pe_I_w, if_pos ⟨rfl, by rw [hlen]⟩]
          · rw [pe_I_ner (by omega), pe_I_w, if_pos ⟨rfl, by rw [hlen]⟩]
        · obtain ⟨j', rfl⟩ : ∃ j', j = L.length + 1 + (j' + 1) := ⟨j - L.length - 2, by omega⟩
          have := hL2 j' (by omega)
          rw [hlen] at this
          have e3 : ((L ++ [h]) ++ c :: L2).getD (L.length + 1 + (j' + 1)) 0 = L2.getD j' 0 := by
            have := pa_getD_app2 (L1 := L ++ [h]) (L2 := c :: L2) (j := j' + 1)
            rw [hlen] at this
            rw [this]; simp
          have e4 : ((L.length + 1 + (j' + 1) : Nat) : Int) = ((L.length + 1 : Nat) : Int) + 1 + (j' : Int) := by omega
          rw [e3, e4]
          constructor
          · rw [pe_I_nej (by rw [hlen]; omega), pe_I_ner (by omega)]; exact this.1
          · rw [pe_I_ner (by omega), pe_I_nej (by rw [hlen]; omega)]; exact this.2
    · rw [e1] at q
      refine b30_68 (k := ?_)
      rw [e1, eL.1, eL.2]
      have hfr : pk_frI (pk_Zl B) σ (pe_wI (pe_wI σ (B + 6) ((L ++ [h]).length : Int) (rk h)) (B + 5) ((L ++ [h]).length : Int) h) := pk_frI_then (pk_frI_wI (Or.inr rfl)) (Or.inl rfl)
      have := ih L (h :: L2) _ (by omega) (pk_Fm_frI hfr hF) (fun z hz' => hz z (List.mem_append_left _ hz')) (by rw [List.length_cons]; omega) (by rw [List.length_cons, hm]; omega) (List.pairwise_append.mp hp).1 (fun z hz' => by
        rcases List.mem_cons.mp hz' with e | e
        · subst e; omega
        · exact hlt z e) (fun j hj => ?_) (fun j hj => ?_) (fun σ' o3 o4 g1 g2 => k σ' o3 o4 (pk_frI_trans hfr g1) (by rw [List.append_assoc]; exact g2))
      · rw [show ((L ++ [h]).length : Int) + (-1) = (L.length : Int) by rw [hlen]; omega]
        exact this
      · have := hL1 j (by omega)
        rw [pa_getD_app1 hj] at this
        constructor
        · rw [pe_I_nej (by rw [hlen]; omega), pe_I_ner (by omega)]; exact this.1
        · rw [pe_I_ner (by omega), pe_I_nej (by rw [hlen]; omega)]; exact this.2
      · cases j with
        | zero =>
          constructor
          · rw [pe_I_w, if_pos ⟨rfl, by rw [hlen]; simp⟩]; rfl
          · rw [pe_I_ner (by omega), pe_I_w, if_pos ⟨rfl, by rw [hlen]; simp⟩]; rfl
        | succ j =>
          rw [List.length_cons] at hj
          have := hL2 j (by omega)
          rw [hlen] at this
          have e4 : (L.length : Int) + 1 + ((j + 1 : Nat) : Int) = ((L.length + 1 : Nat) : Int) + 1 + (j : Int) := by omega
          rw [e4]
          constructor
          · rw [pe_I_nej (by rw [hlen]; omega), pe_I_ner (by omega)]; exact this.1
          · rw [pe_I_ner (by omega), pe_I_nej (by rw [hlen]; omega)]; exact this.2
theorem pa_rk_b (hwf : pa_wf0 a) (h0 : 0 ≤ c) (h1 : c < a.1 4) : -100 ≤ pa_rk a c ∧ pa_rk a c ≤ 2000 := by
  obtain ⟨n0, n2, n3, n4, n5, n6, n20, n21, -⟩ := (hwf.2.2.1 c h0 h1).1
  have h1 := Int.tdiv_eq_ediv (a := -(a.2.1 c).1 21) (b := 2)
  unfold pa_rk pa_weight
  split
  · omega
  split
  · omega
  split
  · omega
  split
  · rw [Int.neg_tdiv, Int.tdiv_eq_ediv_of_nonneg n21.1]; omega
  · omega
/-- lineUp -/
theorem k30 (hM : pk_RM B T σ a) (hwf : pa_wf a) (k : ∀ σ2, pk_frI (pk_Zl B) σ σ2 → pk_RM B T σ2 a → (∀ j : Nat, j < (pa_line a).length → pe_I σ2 (B + 5) j = (pa_line a).getD j 0) → Φ (some (.inl ((pa_line a).length : Int))) σ2) : pe_M (d + 2) 30 [.inr (.inr B)] σ Φ := by
  have hF := hM.F
  have h8 := hwf.1.1
  have hw9 := hwf.1.w9
  let rk : Int → Int := fun z => if 0 ≤ z ∧ z < a.1 4 then pa_rk a z else 0
  have hrk : ∀ z, 0 ≤ z → z < 8 → -2147483648 ≤ rk z ∧ rk z < 2147483648 := fun z z0 z8 => by
    show -2147483648 ≤ (if 0 ≤ z ∧ z < a.1 4 then pa_rk a z else 0) ∧ (if 0 ≤ z ∧ z < a.1 4 then pa_rk a z else 0) < 2147483648
    split
    · rename_i q
      have := pa_rk_b hwf.1 q.1 q.2
      omega
    · omega
  have hrke : ∀ z, 0 ≤ z → z < a.1 4 → rk z = pa_rk a z := fun z z0 z1 => if_pos ⟨z0, z1⟩
  -- the ranks may be taken for those of the line
  have hins : ∀ (i : Nat) (L : List Int), (i : Int) < a.1 4 → (∀ z ∈ L, 0 ≤ z ∧ z < a.1 4) → pa_ins rk i L = pa_ins (pa_rk a) i L := by
    intro i L hi
    induction L with
    | nil => intro _; rfl
    | cons h t ih =>
      intro hz
      have hh := hz h List.mem_cons_self
      unfold pa_ins
      rw [hrke h hh.1 hh.2, hrke i (by omega) hi, ih (fun z hz' => hz z (List.mem_cons_of_mem _ hz'))]
  have hmem : ∀ (i : Nat) z, (i : Int) ≤ a.1 4 → z ∈ pa_lineN a i → 0 ≤ z ∧ z < a.1 4 := fun i z hi hz => by
    have := ((pa_lineN_mem a i z).mp hz).1
    omega
  have loop : ∀ (r i : Nat) (σ1 : pe_H) (o3 o4 : Option pe_V), (i : Int) + r = a.1 4 → pk_frI (pk_Zl B) σ σ1 → pk_RM B T σ1 a → pk_LR B σ1 rk (pa_lineN a i) → pe_X (d + 1) 30 (4, [some (.inr (.inr B)), some (.inl ((pa_lineN a i).length : Int)), some (.inl (i : Int)), o3, o4], [], σ1) Φ := by
    intro r
    induction r with
    | zero =>
      intro i σ1 o3 o4 hi g1 g2 g3
      have hF1 := g2.F
      have hc := g2.cnt.1
      refine b30_4 (k1 := fun _ => ?_) (k2 := fun q => by omega)
      refine b30_131 (k := ?_)
      have e : pa_line a = pa_lineN a i := by unfold pa_line; congr 1; omega
      rw [e] at k
      exact k σ1 g1 g2 (fun j hj => (g3 j hj).1)
    | succ r ih =>
      intro i σ1 o3 o4 hi g1 g2 g3
      have hF1 := g2.F
      have hc := g2.cnt.1
      have hi1 : (i : Int) < a.1 4 := by omega
      have ho := g2.o hwf.1 (by omega : 0 ≤ (i : Int)) hi1
      have hwi := hwf.1.2.2.1 i (by omega) hi1
      obtain ⟨n0, n2, n3, n4, n5, n6, n20, n21, -⟩ := hwi.1
      obtain ⟨i0, i2, i3, i4, i5, i6, i7⟩ := g2.i (by omega : 0 ≤ (i : Int)) hi1
      obtain ⟨m0, m1, m2, m3⟩ := g2.mn (by omega : 0 ≤ (i : Int)) hi1
      obtain ⟨q1, q2, q3⟩ := pa_lineN_ok a i
      refine b30_4 (k1 := fun q => by omega) (k2 := fun _ => ?_)
      refine b30_12 (k := ?_)
      refine k4 ho i2 n2 (fun q => ?_) (fun q => ?_)
      · refine b30_21 (k1 := fun q4 => by omega) (k2 := fun _ => ?_)
        refine b30_24 (k := ?_)
        refine k42 m1 m2 m3 (by omega) ?_
        refine b30_45 (k := ?_)
        have hrki : pe_I σ1 (pk_c B i) 6 + pa_weight ((a.2.1 i).1 20) ((a.2.1 i).1 21) = rk i := by rw [hrke i (by omega) hi1, i6]; rfl
        rw [hrki]
        refine k30_ins hrk (by omega) (by omega) (pa_lineN a i).length (pa_lineN a i) [] σ1 rfl hF1 (fun z hz => by have := hmem i z (by omega) hz; omega) (by simp; omega) (by simp) ?_ (fun z hz => by cases hz) g3 (fun j hj => by simp at hj) (fun σ2 o3 o4 e1 e2 => ?_)
        · refine List.Pairwise.imp_of_mem (fun hx hy h => ?_) q2
          rw [hrke _ (hmem i _ (by omega) hx).1 (hmem i _ (by omega) hx).2, hrke _ (hmem i _ (by omega) hy).1 (hmem i _ (by omega) hy).2]
          exact h
        · rw [List.append_nil, hins i _ hi1 (fun z hz => hmem i z (by omega) hz)] at e2
          have eN : pa_lineN a (i + 1) = pa_ins (pa_rk a) i (pa_lineN a i) := by
            rw [pa_lineN, if_pos q]
          have g2' := pk_RM_keep g2 hw9 e1 (fun x hx => hx)
          have hF2 := g2'.F
          refine b30_125 (k := ?_)
          have := ih (i + 1) σ2 o3 o4 (by push_cast; omega) (pk_frI_trans g1 e1) g2' (by rw [eN]; exact e2)
          rw [eN, pa_ins_len] at this
          exact this
      · refine b30_21 (k1 := fun _ => ?_) (k2 := fun q4 => by omega)
        refine b30_125 (k := ?_)
        have eN : pa_lineN a (i + 1) = pa_lineN a i := by
          rw [pa_lineN, if_neg q]
        have := ih (i + 1) σ1 o3 o4 (by push_cast; omega) g1 g2 (by rw [eN]; exact g3)
        rw [eN] at this
        exact this
  refine pe_M_of ck30 (Nat.le_of_ble_eq_true rfl) ?_
  refine b30_0 (k := ?_)
  exact loop (a.1 4).toNat 0 σ _ _ (by omega) (pk_frI_refl _ _) hM (fun j hj => by simp [pa_lineN] at hj)
end

