/-! THE CLASS: a machine; throwing anew, having an end, going into a program -/
def pk_Zs (B x : Nat) : Prop := x = B ∨ x = B + 7 ∨ x = B + 8 ∨ (B + 11 ≤ x ∧ x < B + 87)
theorem pk_Zc_Zs {B : Nat} {c : Int} (h0 : 0 ≤ c) (h8 : c < 8) (x : Nat) (h : pk_Zc B c x) : pk_Zs B x := by
  unfold pk_Zs
  unfold pk_Zc pk_c at h
  omega
theorem pk_Zn_Zs {B : Nat} (x : Nat) (h : pk_Zn B x) : pk_Zs B x := by
  unfold pk_Zs
  unfold pk_Zn at h
  omega
theorem pk_Zs_Z {B : Nat} (x : Nat) (h : pk_Zs B x) : pk_Z B x := by
  unfold pk_Zs at h
  unfold pk_Z
  omega
theorem pk_B_Zc {B : Nat} {c : Int} : ¬ pk_Zc B c B := by unfold pk_Zc pk_c; omega
section
variable {d B : Nat} {Φ : Option pe_V → pe_H → Prop} {T : Nat → Prop} {σ σ' : pe_H} {w w' : Int → Int × List Int} {n n' c : Int} {a : pa_M} {v : pa_C}
theorem pk_RM_cw (hn : n + pa_pots a (a.1 4).toNat ≤ 64 * a.1 4) (h0 : 0 ≤ c) (h1 : c < a.1 4) (hp : n' + pa_pot v.2.2 ≤ n + pa_pot (a.2.1 c).2.2) (hR : pk_RMx B T σ' w' n' (pa_cw a c v)) : pk_RM B T σ' (pa_cw a c v) := by
  refine ⟨w', n', hR, ?_⟩
  have := pa_pots_cw (a := a) (v := v) (n := (a.1 4).toNat) h0 (by omega)
  show n' + pa_pots (pa_cw a c v) (a.1 4).toNat ≤ 64 * a.1 4
  omega
theorem pa_pots_ge (h0 : 0 ≤ c) (h1 : c < a.1 4) : pa_pot (a.2.1 c).2.2 ≤ pa_pots a (a.1 4).toNat := pa_sum_ge (f := fun c => pa_pot (a.2.1 c).2.2) _ (fun c => pa_pot_0 _) h0 (by omega)
theorem pa_pots_0 : 0 ≤ pa_pots a (a.1 4).toNat := pa_sum_0 _ (fun c => pa_pot_0 _)
theorem pa_pot_throw {φ : List Int} (hwf : pa_wfc v) (h3 : v.1 2 < 3) (hφ : φ ≠ []) : pa_pot (pa_throw v φ).2.2 + 1 ≤ pa_pot v.2.2 := by
  have hne : v.2.2 ≠ [] := fun q => by have := hwf.2.2.2.1.mpr q; omega
  obtain ⟨f, fs, hfs⟩ := List.exists_cons_of_ne_nil hne
  have hl := hwf.2.1
  have hf := hwf.2.2.1
  unfold pa_throw
  rw [hfs] at hl hf ⊢
  rw [List.length_cons] at hl
  exact pa_pot_new hφ hf (by omega)
theorem pk_RM.F (h : pk_RM B T σ a) : pk_Fm B σ := by
  obtain ⟨w, n, h, -⟩ := h
  exact h.1
theorem pk_RM.o (h : pk_RM B T σ a) (hwf : pa_wf0 a) (h0 : 0 ≤ c) (h1 : c < a.1 4) : pk_Fo (pk_c B c) σ := pk_mO h.F h0 (by have := hwf.1; omega)
/-- a new fault, and then it is thrown -/
theorem kTN {x f : Int} {l : List Int} (hM : pk_RM B T σ a) (hwf : pa_wf0 a) (h0 : 0 ≤ c) (h1 : c < a.1 4) (h3 : (a.2.1 c).1 2 < 3) (hf : (f = -1 ∧ l = []) ∨ ∃ o, 0 ≤ o ∧ o < a.1 4 ∧ f = pe_I σ (pk_c B o) 8 ∧ l = (a.2.1 o).2.1 ∧ l ≠ [])
    (k : ∀ n σ1, pk_Fm B σ1 → (∀ (d : Nat) (Ψ : Option pe_V → pe_H → Prop), (∀ σ2, pk_frI (pk_Zs B) σ σ2 → pe_I σ2 B 7 = pe_I σ B 7 → pk_RM B T σ2 (pa_cw a c (pa_throw (a.2.1 c) (x :: l))) → Ψ none σ2) → pe_M (d + 1) 40 [.inr (.inr B), .inr (.inr (pk_c B c)), .inl n] σ1 Ψ) → Φ (some (.inl n)) σ1) : pe_M (d + 1) 39 [.inr (.inr B), .inl x, .inl f] σ Φ := by
  obtain ⟨w, n, hR, hn⟩ := hM
  have hc := hwf.2.2.1 c h0 h1
  have hp := pa_pot_throw (φ := x :: l) hc h3 (by simp)
  have hp0 := pa_pot_0 (pa_throw (a.2.1 c) (x :: l)).2.2
  have hg := pa_pots_ge (a := a) h0 h1
  have h8 := hwf.1
  refine k39 hR hwf.w9 (by omega) (l := l) ?_ (fun σ1 g1 g2 g3 g4 => ?_)
  · rcases hf with q | ⟨o, q0, q1, rfl, rfl, q4⟩
    · exact Or.inl q
    · rcases (hR.co q0 q1).2.2.1 with ⟨q5, -⟩ | ⟨-, q5, q6, q7, q8⟩
      · exact absurd q5 q4
      · exact Or.inr ⟨q5, q6, q7, q8.symm⟩
  · refine k n σ1 g3.F (fun d Ψ kk => k40 g3 hwf.w9 h0 h1 (by omega) hR.st.1 (by omega) (by rw [pr_ws]) hc.2.2.1 (pa_wfc_e hc (by omega)) (g4 c h0 h1) (fun σ2 w2 e1 e2 e3 => ?_))
    rw [pr_ws] at e3
    exact kk σ2 (pk_frI_trans (pk_frI_mono g1 pk_Zn_Zs) (pk_frI_mono e1 (pk_Zc_Zs h0 (by omega)))) ((e1.1.2 B pk_B_Zc 7).1.trans g2) (pk_RM_cw hn h0 h1 (by omega) e3)
/-- an int of a coroutine is set -/
theorem pk_RM_set {j : Nat} {x : Int} (hj : j = 0 ∨ j = 2 ∨ j = 3 ∨ j = 4 ∨ j = 5 ∨ j = 6 ∨ j = 7) (hM : pk_RM B T σ a) (hwf : pa_wf9 a) (h0 : 0 ≤ c) (h1 : c < a.1 4) : pk_RM B T (pe_wI σ (pk_c B c) (j : Int) x) (pa_cw a c (pa_s (a.2.1 c).1 j x, (a.2.1 c).2)) := by
  obtain ⟨w, n, hR, hn⟩ := hM
  exact pk_RM_cw hn h0 h1 (Int.le_refl _) (pk_RMx_set hj hR hwf h0 h1)
/-- haveEnd -/
theorem k36 {o : Int} (hM : pk_RM B T σ a) (hwf : pa_wf0 a) (h0 : 0 ≤ c) (h1 : c < a.1 4) (h3 : (a.2.1 c).1 2 < 3) (ho0 : 0 ≤ o) (ho1 : o < a.1 4) (h6 : 6 ≤ (a.2.1 o).1 2) (k : ∀ σ2, pk_frI (pk_Zs B) σ σ2 → pe_I σ2 B 7 = pe_I σ B 7 → pk_RM B T σ2 (pa_cw a c (pa_have (a.2.1 c) (a.2.1 o))) → Φ none σ2) : pe_M (d + 2) 36 [.inr (.inr B), .inr (.inr (pk_c B c)), .inr (.inr (pk_c B o))] σ Φ := by
  have hF := hM.F
  have hoc := hM.o hwf h0 h1
  have hoo := hM.o hwf ho0 ho1
  have h8 := hwf.1
  have hwo := hwf.2.2.1 o ho0 ho1
  have hn2 := hwo.1.2.1
  have e2 : pe_I σ (pk_c B o) 2 = (a.2.1 o).1 2 := by obtain ⟨w, n, hR, -⟩ := hM; exact hR.n2 ho0 ho1
  have e3 : pe_I σ (pk_c B o) 3 = (a.2.1 o).1 3 := by obtain ⟨w, n, hR, -⟩ := hM; exact (hR.co ho0 ho1).1.1.2.2.1
  refine pe_M_of ck36 (Nat.le_of_ble_eq_true rfl) ?_
  refine b36_0 (k1 := fun q => ?_) (k2 := fun q => ?_)
  · refine b36_20 (k1 := fun q2 => ?_) (k2 := fun q2 => ?_)
    · refine b36_47 (k := ?_)
      refine kTN hM hwf h0 h1 h3 (Or.inl ⟨rfl, rfl⟩) (fun n σ1 hF1 g => ?_)
      have ho1' : pk_Fo (pk_c B c) σ1 := pk_mO hF1 h0 (by omega)
      refine b36_55 (k := ?_)
      refine g _ _ (fun σ2 e1 e2' e3' => ?_)
      refine b36_58 (k := ?_)
      refine k σ2 e1 e2' ?_
      unfold pa_have
      rw [if_neg (by omega), if_neg (by omega)]
      exact e3'
    · refine b36_29 (k := ?_)
      refine kTN hM hwf h0 h1 h3 (Or.inr ⟨o, ho0, ho1, rfl, rfl, hwo.2.2.2.2.mp (by omega)⟩) (fun n σ1 hF1 g => ?_)
      have ho1' : pk_Fo (pk_c B c) σ1 := pk_mO hF1 h0 (by omega)
      refine b36_41 (k := ?_)
      refine g _ _ (fun σ2 e1 e2' e3' => ?_)
      refine b36_44 (k := ?_)
      refine b36_58 (k := ?_)
      refine k σ2 e1 e2' ?_
      unfold pa_have
      rw [if_neg (by omega), if_pos (by omega)]
      exact e3'
  · refine b36_9 (k := ?_)
    refine b36_58 (k := ?_)
    have g := pk_RM_set (j := 3) (x := pe_I σ (pk_c B o) 3) (by decide) hM hwf.w9 h0 h1
    refine k _ (pk_frI_wI (pk_Zc_Zs h0 (by omega) _ pk_r_Zc)) (pe_I_ner (by unfold pk_c; omega)) ?_
    unfold pa_have
    rw [if_pos (by omega), ← e3]
    exact g
/-- a frame more -/
theorem pk_RMx_push {p : Int} (hR : pk_RMx B T σ w n a) (hw9 : pa_wf9 a) (h0 : 0 ≤ c) (h1 : c < a.1 4) (hl : (a.2.1 c).2.2.length < 6) (hp0 : 0 ≤ p) (hp5 : p < 5) : pk_fr (pk_Zc B c) σ (pe_wI (pe_wI (pe_wI (pe_wI (pe_wI (pe_wI (pe_wR σ (pk_f (pk_c B c) ((a.2.1 c).2.2.length : Int)) 0 (pe_R σ (B + 1) p)) (pk_f (pk_c B c) ((a.2.1 c).2.2.length : Int)) 1 p) (pk_f (pk_c B c) ((a.2.1 c).2.2.length : Int)) 2 0) (pk_f (pk_c B c) ((a.2.1 c).2.2.length : Int)) 3 0) (pk_f (pk_c B c) ((a.2.1 c).2.2.length : Int)) 4 0) (pk_f (pk_c B c) ((a.2.1 c).2.2.length : Int)) 5 (-2)) (pk_c B c) 9 ((a.2.1 c).2.2.length + 1)) ∧ pk_RMx B T (pe_wI (pe_wI (pe_wI (pe_wI (pe_wI (pe_wI (pe_wR σ (pk_f (pk_c B c) ((a.2.1 c).2.2.length : Int)) 0 (pe_R σ (B + 1) p)) (pk_f (pk_c B c) ((a.2.1 c).2.2.length : Int)) 1 p) (pk_f (pk_c B c) ((a.2.1 c).2.2.length : Int)) 2 0) (pk_f (pk_c B c) ((a.2.1 c).2.2.length : Int)) 3 0) (pk_f (pk_c B c) ((a.2.1 c).2.2.length : Int)) 4 0) (pk_f (pk_c B c) ((a.2.1 c).2.2.length : Int)) 5 (-2)) (pk_c B c) 9 ((a.2.1 c).2.2.length + 1)) w n (pa_cw a c ((a.2.1 c).1, (a.2.1 c).2.1, pa_nf p (a.2.2.1 p) :: (a.2.1 c).2.2)) := by
  have h8 : c < 8 := by have := hw9.1; omega
  obtain ⟨b1, b2, b3, b4⟩ := hR.co h0 h1
  have hP := hR.2.2.2.2.2.1 p hp0 hp5
  generalize hN : (a.2.1 c).2.2.length = N at *
  have hfz : pk_Zc B c (pk_f (pk_c B c) (N : Int)) := pk_f_Zc hl
  generalize hτ : pe_wI (pe_wI (pe_wI (pe_wI (pe_wI (pe_wR σ (pk_f (pk_c B c) (N : Int)) 0 (pe_R σ (B + 1) p)) (pk_f (pk_c B c) (N : Int)) 1 p) (pk_f (pk_c B c) (N : Int)) 2 0) (pk_f (pk_c B c) (N : Int)) 3 0) (pk_f (pk_c B c) (N : Int)) 4 0) (pk_f (pk_c B c) (N : Int)) 5 (-2) = τ
  have hZ1 : pk_fr (fun x => x = pk_f (pk_c B c) (N : Int)) σ τ := by
    have g : pk_frI (fun x => x = pk_f (pk_c B c) (N : Int)) (pe_wR σ (pk_f (pk_c B c) (N : Int)) 0 (pe_R σ (B + 1) p)) τ := by
      rw [← hτ]
      exact pk_frI_then (pk_frI_then (pk_frI_then (pk_frI_then (pk_frI_wI rfl) rfl) rfl) rfl) rfl
    exact pk_fr_trans (pk_fr_wR rfl) g.1
  have hZ2 : pk_frI (fun x => x = pk_c B c) τ (pe_wI τ (pk_c B c) 9 ((N : Int) + 1)) := pk_frI_wI rfl
  have hfr : pk_fr (pk_Zc B c) σ (pe_wI τ (pk_c B c) 9 ((N : Int) + 1)) := pk_fr_trans (pk_fr_mono hZ1 (fun x e => by rw [e]; exact hfz)) (pk_frI_mono hZ2 (fun x e => by rw [e]; exact pk_r_Zc)).1
  have hT1 : ∀ x, T x → x ≠ pk_f (pk_c B c) (N : Int) := fun x hx e => hR.Tc h0 h8 x hx (by rw [e]; exact hfz)
  have hT2 : ∀ x, T x → x ≠ pk_c B c := fun x hx e => hR.Tc h0 h8 x hx (by rw [e]; exact pk_r_Zc)
  have hPr : ∀ P p, pk_RPr T σ P p → pk_RPr T (pe_wI τ (pk_c B c) 9 ((N : Int) + 1)) P p := fun P p q => pk_RPr_fr hfr (hR.Tc h0 h8) q
  have hF' : pk_Fm B (pe_wI τ (pk_c B c) 9 ((N : Int) + 1)) := by
    refine pk_Fm_eq (pk_frK hfr) (pk_frL hfr) (fun x j hx => ?_) hR.F
    have : x ≠ pk_f (pk_c B c) (N : Int) := by
      unfold pk_f pk_c
      rcases hx with e | e | e | e | ⟨i, i0, i1, e⟩ | ⟨i, i0, i1, e⟩
      · omega
      · omega
      · omega
      · omega
      · unfold pk_c at e; omega
      · unfold pk_q pk_g at e; omega
    exact (hZ1.2 x this j).2
  refine ⟨hfr, pk_RMx_co' hR hw9 h0 h1 hfr hF' (Int.le_refl _) rfl ?_ (pr_wk_refl c w) ⟨?_, ?_, ?_, ⟨⟨?_, ?_, ?_⟩, ?_⟩⟩⟩
  · have e : ∀ x, x = B + 7 ∨ x = B + 8 → ∀ j, pe_I (pe_wI τ (pk_c B c) 9 ((N : Int) + 1)) x j = pe_I σ x j := fun x hx j => by
      rw [pe_I_ner (by unfold pk_c; omega)]
      exact (hZ1.2 x (by unfold pk_f pk_c; omega) j).1
    rw [funext (e (B + 7) (Or.inl rfl)), funext (e (B + 8) (Or.inr rfl))]
    exact hR.st
  · exact pk_RCn_89 (Or.inr rfl) (hR.Tr h0 h8) (pk_RCn_keep hZ1 hT1 (fun e => pk_f_ne e.symm) b1)
  · rw [pe_I_same, List.length_cons, hN]; rfl
  · exact pk_RCe_keep (by rw [pe_I_nej (by decide)]; exact (hZ1.2 _ (fun e => pk_f_ne e.symm) 8).1) (Int.le_refl _) (fun _ _ => rfl) b3
  · rw [hN]
    have e : ∀ j, pe_I (pe_wI τ (pk_c B c) 9 ((N : Int) + 1)) (pk_f (pk_c B c) (N : Int)) j = pe_I τ (pk_f (pk_c B c) (N : Int)) j := fun j => pe_I_ner pk_f_ne
    rw [e, e, e, e, ← hτ]
    simp [pe_I_w, pa_nf, pa_s]
  · rw [hN]
    have e : pe_R (pe_wI τ (pk_c B c) 9 ((N : Int) + 1)) (pk_f (pk_c B c) (N : Int)) 0 = pe_R σ (B + 1) p := by
      rw [pe_R_wI, ← hτ]
      simp [pe_R_wI, pe_R_w]
    rw [e]
    exact hPr _ _ hP
  · rw [hN]
    have e : pe_I (pe_wI τ (pk_c B c) 9 ((N : Int) + 1)) (pk_f (pk_c B c) (N : Int)) 5 = -2 := by
      rw [pe_I_ner pk_f_ne, ← hτ, pe_I_same]
    rw [e]
    exact Or.inl ⟨rfl, rfl⟩
  · rw [hN]
    have e : pe_I (pe_wI τ (pk_c B c) 9 ((N : Int) + 1)) (pk_f (pk_c B c) (N : Int)) 5 = -2 := by
      rw [pe_I_ner pk_f_ne, ← hτ, pe_I_same]
    rw [e]
    refine pk_RFs_keep (m := N) (fun i hi j => ?_) hPr _ _ _ (by omega) (Int.le_refl _) (fun _ _ _ => rfl) b4
    rw [pe_I_ner pk_f_ne, pe_R_wI]
    exact hZ1.2 _ (pk_f_inj (by omega)) j
theorem k12 {r P : Nat} {p : Int} (hK : pe_K σ r = 1) (k : Φ none (pe_wI (pe_wI (pe_wI (pe_wI (pe_wI (pe_wR σ r 0 P) r 1 p) r 2 0) r 3 0) r 4 0) r 5 (-2))) : pe_M (d + 1) 12 [.inr (.inr r), .inr (.inr P), .inl p] σ Φ := by
  refine pe_M_of ck12 (Nat.le_of_ble_eq_true rfl) ?_
  refine b12_0 (k := ?_)
  exact k
/-- goInto -/
theorem k33 {p : Int} (hM : pk_RM B T σ a) (hwf : pa_wf0 a) (h0 : 0 ≤ c) (h1 : c < a.1 4) (h3 : (a.2.1 c).1 2 < 3) (hp0 : 0 ≤ p) (hp9 : p ≤ 9) (k : ∀ σ2, pk_fr (pk_Zs B) σ σ2 → pe_I σ2 B 7 = pe_I σ B 7 → pk_RM B T σ2 (pa_cw a c (pa_into a (a.2.1 c) p)) → Φ none σ2) : pe_M (d + 2) 33 [.inr (.inr B), .inr (.inr (pk_c B c)), .inl p] σ Φ := by
  have hF := hM.F
  have hoc := hM.o hwf h0 h1
  have h8 := hwf.1
  have hwc := hwf.2.2.1 c h0 h1
  have hl := hwc.2.1
  have e9 : pe_I σ (pk_c B c) 9 = (a.2.1 c).2.2.length := by obtain ⟨w, n, hR, -⟩ := hM; exact (hR.co h0 h1).2.1
  refine pe_M_of ck33 (Nat.le_of_ble_eq_true rfl) ?_
  refine b33_0 (k1 := fun q => ?_) (k2 := fun q => ?_)
  · refine b33_24 (k1 := fun q2 => ?_) (k2 := fun q2 => ?_)
    · refine b33_44 (k := ?_)
      rw [e9]
      refine k12 (pk_oEK hoc (by omega) (by omega)) ?_
      obtain ⟨w, n, hR, hn⟩ := hM
      obtain ⟨g1, g2⟩ := pk_RMx_push hR hwf.w9 h0 h1 (by omega) hp0 q2
      have e9' : pe_I (pe_wI (pe_wI (pe_wI (pe_wI (pe_wI (pe_wR σ (pk_f (pk_c B c) ((a.2.1 c).2.2.length : Int)) 0 (pe_R σ (B + 1) p)) (pk_f (pk_c B c) ((a.2.1 c).2.2.length : Int)) 1 p) (pk_f (pk_c B c) ((a.2.1 c).2.2.length : Int)) 2 0) (pk_f (pk_c B c) ((a.2.1 c).2.2.length : Int)) 3 0) (pk_f (pk_c B c) ((a.2.1 c).2.2.length : Int)) 4 0) (pk_f (pk_c B c) ((a.2.1 c).2.2.length : Int)) 5 (-2)) (pk_c B c) 9 = (a.2.1 c).2.2.length := by
        have hne : pk_c B c ≠ pk_f (pk_c B c) ((a.2.1 c).2.2.length : Int) := fun e => pk_f_ne e.symm
        rw [pe_I_ner hne, pe_I_ner hne, pe_I_ner hne, pe_I_ner hne, pe_I_ner hne, pe_I_wR]
        exact e9
      have ho' : pk_Fo (pk_c B c) (pe_wI (pe_wI (pe_wI (pe_wI (pe_wI (pe_wR σ (pk_f (pk_c B c) ((a.2.1 c).2.2.length : Int)) 0 (pe_R σ (B + 1) p)) (pk_f (pk_c B c) ((a.2.1 c).2.2.length : Int)) 1 p) (pk_f (pk_c B c) ((a.2.1 c).2.2.length : Int)) 2 0) (pk_f (pk_c B c) ((a.2.1 c).2.2.length : Int)) 3 0) (pk_f (pk_c B c) ((a.2.1 c).2.2.length : Int)) 4 0) (pk_f (pk_c B c) ((a.2.1 c).2.2.length : Int)) 5 (-2)) := pk_mO g2.F h0 (by omega)
      refine b33_63 (k := ?_)
      refine b33_73 (k := ?_)
      rw [e9']
      refine k _ (pk_fr_mono g1 (pk_Zc_Zs h0 (by omega))) (g1.2 B pk_B_Zc 7).1 ?_
      have : pa_into a (a.2.1 c) p = ((a.2.1 c).1, (a.2.1 c).2.1, pa_nf p (a.2.2.1 p) :: (a.2.1 c).2.2) := by
        unfold pa_into
        rw [if_neg (by omega), if_neg (by omega)]
      rw [this]
      refine pk_RM_cw hn h0 h1 ?_ g2
      have := pa_pot_push (n := p) (p := a.2.2.1 p) (fs := (a.2.1 c).2.2) (by omega) (fun q => by have := hwc.2.2.2.1.mpr q; omega)
      show n + pa_pot (pa_nf p (a.2.2.1 p) :: (a.2.1 c).2.2) ≤ _
      omega
    · refine b33_29 (k := ?_)
      refine kTN hM hwf h0 h1 h3 (Or.inl ⟨rfl, rfl⟩) (fun n σ1 hF1 g => ?_)
      have ho1' : pk_Fo (pk_c B c) σ1 := pk_mO hF1 h0 (by omega)
      refine b33_38 (k := ?_)
      refine g _ _ (fun σ2 e1 e2' e3' => ?_)
      refine b33_41 (k := ?_)
      refine b33_73 (k := ?_)
      refine k σ2 e1.1 e2' ?_
      unfold pa_into
      rw [if_neg (by omega), if_pos (by omega)]
      exact e3'
  · refine b33_9 (k := ?_)
    refine kTN hM hwf h0 h1 h3 (Or.inl ⟨rfl, rfl⟩) (fun n σ1 hF1 g => ?_)
    have ho1' : pk_Fo (pk_c B c) σ1 := pk_mO hF1 h0 (by omega)
    refine b33_18 (k := ?_)
    refine g _ _ (fun σ2 e1 e2' e3' => ?_)
    refine b33_21 (k := ?_)
    refine b33_73 (k := ?_)
    refine k σ2 e1.1 e2' ?_
    unfold pa_into
    rw [if_pos (by omega)]
    exact e3'
end

