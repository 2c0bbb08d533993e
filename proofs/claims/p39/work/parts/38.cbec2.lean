/-! THE CLASS: a machine becomes another; a coroutine more -/
section
variable {d B B' : Nat} {Φ : Option pe_V → pe_H → Prop} {T : Nat → Prop} {σ σ' : pe_H} {a : pa_M}
theorem pe_I_cpy_in {σ : pe_H} {s d : Nat} {sp dp n j : Int} (h0 : dp ≤ j) (h1 : j < dp + n) : pe_I (pe_cpy σ s sp d dp n) d j = pe_I σ s (sp + (j - dp)) := if_pos ⟨rfl, h0, h1⟩
theorem pr_st_eq {cd cs cd' cs' : Int → Int} {n : Int} {w : Int → Int × List Int} (h : pr_st cd cs n w) (e : ∀ i, 0 ≤ i → i < n → cd' i = cd i ∧ cs' i = cs i) : pr_st cd' cs' n w := ⟨h.1, fun i i0 i1 => by
  rw [(e i i0 i1).1, (e i i0 i1).2]; exact h.2 i i0 i1⟩
/-- Machine.become -/
theorem k15 (hM : pk_RM B' T σ a) (hwf : pa_wf0 a) (hl4 : pa_wfq a) (hF : pk_Fm B σ) (hd : B + 87 ≤ B' ∨ B' + 87 ≤ B) (hT : ∀ x, T x → ¬ pk_Z B x) (k : ∀ σ2, pk_fr (pk_Z B) σ σ2 → pe_I σ2 B 7 = pe_I σ B 7 → pk_RM B T σ2 a → Φ none σ2) : pe_M (d + 3) 15 [.inr (.inr B), .inr (.inr B')] σ Φ := by
  obtain ⟨w, n, hR, hn⟩ := hM
  have hw9 := hwf.w9
  have h8 := hwf.1
  have hF' := hR.F
  obtain ⟨s4, s5, s6, s12⟩ := hR.2.2.1
  have hn0 := hR.st.1
  have hp := pa_pots_0 (a := a)
  have hZn : ∀ x, pk_Z B x → ¬ (B' ≤ x ∧ x < B' + 87) := fun x hx q => by unfold pk_Z at hx; omega
  have zB : pk_Z B B := by unfold pk_Z; omega
  -- what the first rows make
  let P : pe_H → Prop := fun σ1 => pk_fr (pk_Z B) σ σ1 ∧ pk_Fm B σ1 ∧ (pe_I σ1 B 4 = a.1 4 ∧ pe_I σ1 B 5 = a.1 5 ∧ pe_I σ1 B 6 = a.1 6 ∧ pe_I σ1 B 12 = n) ∧ pe_I σ1 B 7 = pe_I σ B 7
  have hRo : ∀ σ1, pk_fr (pk_Z B) σ σ1 → pk_RMx B' T σ1 w n a := fun σ1 g => pk_RMx_fr hR hw9 g hZn hT
  have hPr : ∀ σ1, pk_fr (pk_Z B) σ σ1 → ∀ P p, pk_RPr T σ P p → pk_RPr T σ1 P p := fun σ1 g P p q => pk_RPr_fr g hT q
  -- the end
  have hend : ∀ (σ1 : pe_H) o2, P σ1 → (∀ p, 0 ≤ p → p < 5 → pe_R σ1 (B + 1) p = pe_R σ (B' + 1) p) → (∀ c, 0 ≤ c → c < a.1 4 → pk_RCo T σ1 w (pk_c B c) (6 * c) n (a.2.1 c)) → (∀ ch, 0 ≤ ch → ch < 3 → pk_RQ σ1 (pk_q B ch) (a.2.2.2 0 ch) ∧ pk_RQ σ1 (pk_g B ch) (a.2.2.2 1 ch)) → pe_X (d + 2) 15 (131, [some (.inr (.inr B)), some (.inr (.inr B')), o2], [], σ1) Φ := by
    intro σ1 o2 ⟨g1, g2, ⟨x4, x5, x6, x12⟩, g4⟩ g5 g6 g7
    have hF1' := (hRo σ1 g1).F
    refine b15_131 (k := ?_)
    rw [x12]
    generalize hτ : pe_cpy (pe_cpy σ1 (B' + 7) 0 (B + 7) 0 n) (B' + 8) 0 (B + 8) 0 n = τ
    have hK : ∀ x, pe_K τ x = pe_K σ1 x := fun x => by rw [← hτ]; rfl
    have hL : ∀ x, pe_L τ x = pe_L σ1 x := fun x => by rw [← hτ]; rfl
    have hRR : ∀ x j, pe_R τ x j = pe_R σ1 x j := fun x j => by rw [← hτ]; rfl
    have hI : ∀ x, x ≠ B + 7 → x ≠ B + 8 → ∀ j, pe_I τ x j = pe_I σ1 x j := fun x h1 h2 j => by
      rw [← hτ, pe_I_cpy h2, pe_I_cpy h1]
    have f1 : pk_fr (fun x => x = B + 7 ∨ x = B + 8) σ1 τ := by
      refine ⟨by rw [← hτ]; exact ⟨rfl, rfl, rfl, rfl⟩, fun x hx j => ⟨hI x (fun e => hx (Or.inl e)) (fun e => hx (Or.inr e)) j, hRR x j⟩⟩
    have f1z : pk_fr (pk_Z B) σ1 τ := pk_fr_mono f1 (fun x hx => by unfold pk_Z; omega)
    have hT1 : ∀ x, T x → ¬ (x = B + 7 ∨ x = B + 8) := fun x hx q => hT x hx (by unfold pk_Z; omega)
    refine k τ (pk_fr_trans g1 f1z) (by rw [hI B (by omega) (by omega)]; exact g4) ⟨w, n, ⟨?_, hT, ?_, ?_, fun c c0 c1 => ?_, fun p p0 p5 => ?_, fun ch c0 c3 => ?_⟩, hn⟩
    · exact pk_Fm_eq hK hL (fun x j _ => hRR x j) g2
    · rw [hI B (by omega) (by omega), hI B (by omega) (by omega), hI B (by omega) (by omega), hI B (by omega) (by omega)]; exact ⟨x4, x5, x6, x12⟩
    · refine pr_st_eq (hRo σ1 g1).st (fun i i0 i1 => ?_)
      rw [← hτ]
      constructor
      · rw [pe_I_cpy (by omega), pe_I_cpy_in (by omega) (by omega)]
        congr 1; omega
      · rw [pe_I_cpy_in (by omega) (by omega), pe_I_cpy (by omega)]
        congr 1; omega
    · exact pk_RCo_keep f1 hT1 (fun x h1 h2 q => by unfold pk_c at h1; omega) (Int.le_refl _) (fun _ _ => rfl) (hw9.2 c c0 c1) (g6 c c0 c1)
    · rw [hRR, g5 p p0 p5]
      exact hPr τ (pk_fr_trans g1 f1z) _ _ (hR.2.2.2.2.2.1 p p0 p5)
    · obtain ⟨b1, b2⟩ := g7 ch c0 c3
      exact ⟨pk_RQ_keep (hI _ (by unfold pk_q; omega) (by unfold pk_q; omega) 1) (fun j => hI _ (by unfold pk_q; omega) (by unfold pk_q; omega) j) b1, pk_RQ_keep (hI _ (by unfold pk_g; omega) (by unfold pk_g; omega) 1) (fun j => hI _ (by unfold pk_g; omega) (by unfold pk_g; omega) j) b2⟩
  -- queues
  have loop3 : ∀ (m i : Nat) (σ1 : pe_H), i + m = 3 → P σ1 → (∀ p, 0 ≤ p → p < 5 → pe_R σ1 (B + 1) p = pe_R σ (B' + 1) p) → (∀ c, 0 ≤ c → c < a.1 4 → pk_RCo T σ1 w (pk_c B c) (6 * c) n (a.2.1 c)) → (∀ ch : Int, 0 ≤ ch → ch < i → pk_RQ σ1 (pk_q B ch) (a.2.2.2 0 ch) ∧ pk_RQ σ1 (pk_g B ch) (a.2.2.2 1 ch)) → pe_X (d + 2) 15 (90, [some (.inr (.inr B)), some (.inr (.inr B')), some (.inl (i : Int))], [], σ1) Φ := by
    intro m
    induction m with
    | zero =>
      intro i σ1 hi hP g5 g6 g7
      have hF1 := hP.2.1
      have hF1' := (hRo σ1 hP.1).F
      refine b15_90 (k1 := fun _ => ?_) (k2 := fun q => by omega)
      exact hend σ1 _ hP g5 g6 (fun ch c0 c3 => g7 ch c0 (by omega))
    | succ m ih =>
      intro i σ1 hi ⟨g1, g2, g3, g4⟩ g5 g6 g7
      have hF1' := (hRo σ1 g1).F
      have hi0 : 0 ≤ (i : Int) := by omega
      have hi3 : (i : Int) < 3 := by omega
      obtain ⟨b1, b2⟩ := (hRo σ1 g1).2.2.2.2.2.2 i hi0 hi3
      have l1 := (pa_wfq_b (k := 0) hl4 h8.2 (by decide) hi0 hi3).2.1
      have l2 := (pa_wfq_b (k := 1) hl4 h8.2 (by decide) hi0 hi3).2.1
      refine b15_90 (k1 := fun q => by omega) (k2 := fun _ => ?_)
      refine b15_95 (k := ?_)
      refine k53 (pk_mQ g2 hi0 hi3) (pk_mQ hF1' hi0 hi3) (by unfold pk_q; omega) b1 l1 (fun σ2 e1 e2 => ?_)
      have hF2 := pk_Fm_frI e1 g2
      have z1 : ∀ x, pk_Zq (pk_q B i) x → pk_Z B x ∧ B + 75 ≤ x := fun x hx => pk_Zq_Z hi0 hi3 x (Or.inl hx)
      have z2 : ∀ x, pk_Zq (pk_g B i) x → pk_Z B x ∧ B + 75 ≤ x := fun x hx => pk_Zq_Z hi0 hi3 x (Or.inr hx)
      have g1' := pk_fr_trans g1 (pk_fr_mono e1.1 (fun x hx => (z1 x hx).1))
      have hF2' := (hRo σ2 g1').F
      have b2' := ((hRo σ2 g1').2.2.2.2.2.2 i hi0 hi3).2
      refine b15_110 (k := ?_)
      refine k53 (pk_mG hF2 hi0 hi3) (pk_mG hF2' hi0 hi3) (by unfold pk_g; omega) b2' l2 (fun σ3 e3 e4 => ?_)
      have hF3 := pk_Fm_frI e3 hF2
      have f3 : pk_fr (fun x => pk_Zq (pk_q B i) x ∨ pk_Zq (pk_g B i) x) σ1 σ3 := pk_fr_trans (pk_fr_mono e1.1 (fun x hx => Or.inl hx)) (pk_fr_mono e3.1 (fun x hx => Or.inr hx))
      have z3 : ∀ x, (pk_Zq (pk_q B i) x ∨ pk_Zq (pk_g B i) x) → pk_Z B x ∧ B + 75 ≤ x := fun x hx => hx.elim (z1 x) (z2 x)
      have f3z := pk_fr_mono f3 (fun x hx => (z3 x hx).1)
      have hB : ∀ x, x < B + 75 → ¬ (pk_Zq (pk_q B i) x ∨ pk_Zq (pk_g B i) x) := fun x hx q => by have := (z3 x q).2; omega
      have hF3' := (hRo σ3 (pk_fr_trans g1 f3z)).F
      refine b15_125 (k := ?_)
      refine ih (i + 1) σ3 (by omega) ⟨pk_fr_trans g1 f3z, hF3, ?_, ?_⟩ (fun p p0 p5 => ?_) (fun c c0 c1 => ?_) (fun ch c0 c3 => ?_)
      · rw [(f3.2 B (hB _ (by omega)) 4).1, (f3.2 B (hB _ (by omega)) 5).1, (f3.2 B (hB _ (by omega)) 6).1, (f3.2 B (hB _ (by omega)) 12).1]; exact g3
      · rw [(f3.2 B (hB _ (by omega)) 7).1]; exact g4
      · rw [(f3.2 (B + 1) (hB _ (by omega)) p).2]; exact g5 p p0 p5
      · exact pk_RCo_keep f3 (fun x hx q => hT x hx (z3 x q).1) (fun x h1 h2 => hB x (by unfold pk_c at h2; omega)) (Int.le_refl _) (fun _ _ => rfl) (hw9.2 c c0 c1) (g6 c c0 c1)
      · by_cases e : ch = i
        · subst e
          refine ⟨?_, e4⟩
          refine pk_RQ_keep (e3.1.2 _ ?_ 1).1 (fun j => (e3.1.2 _ ?_ j).1) e2 <;> unfold pk_Zq pk_q pk_g <;> omega
        · obtain ⟨u1, u2⟩ := g7 ch c0 (by omega)
          constructor
          · refine pk_RQ_keep (f3.2 _ ?_ 1).1 (fun j => (f3.2 _ ?_ j).1) u1 <;> unfold pk_Zq pk_q pk_g <;> omega
          · refine pk_RQ_keep (f3.2 _ ?_ 1).1 (fun j => (f3.2 _ ?_ j).1) u2 <;> unfold pk_Zq pk_q pk_g <;> omega
  -- coroutines
  have loop2 : ∀ (m i : Nat) (σ1 : pe_H), (i : Int) + m = a.1 4 → P σ1 → (∀ p, 0 ≤ p → p < 5 → pe_R σ1 (B + 1) p = pe_R σ (B' + 1) p) → (∀ c : Int, 0 ≤ c → c < i → pk_RCo T σ1 w (pk_c B c) (6 * c) n (a.2.1 c)) → pe_X (d + 2) 15 (59, [some (.inr (.inr B)), some (.inr (.inr B')), some (.inl (i : Int))], [], σ1) Φ := by
    intro m
    induction m with
    | zero =>
      intro i σ1 hi hP g5 g6
      have hF1 := hP.2.1
      have hF1' := (hRo σ1 hP.1).F
      have e4 := hP.2.2.1.1
      refine b15_59 (k1 := fun _ => ?_) (k2 := fun q => by omega)
      refine b15_88 (k := ?_)
      exact loop3 3 0 σ1 (by omega) hP g5 (fun c c0 c1 => g6 c c0 (by omega)) (fun ch c0 c3 => by omega)
    | succ m ih =>
      intro i σ1 hi ⟨g1, g2, g3, g4⟩ g5 g6
      have hF1' := (hRo σ1 g1).F
      have e4 := g3.1
      have hi0 : 0 ≤ (i : Int) := by omega
      have hi1 : (i : Int) < a.1 4 := by omega
      have hi8 : (i : Int) < 8 := by omega
      have zc : ∀ x, pk_Zr (pk_c B i) x → pk_Z B x ∧ B + 11 ≤ x ∧ x < B + 75 := fun x hx => by
        unfold pk_Zr pk_c at hx
        unfold pk_Z
        omega
      refine b15_59 (k1 := fun q => by omega) (k2 := fun _ => ?_)
      refine b15_67 (k := ?_)
      refine k2 (pk_mO g2 hi0 hi8) (pk_mO hF1' hi0 hi8) (by unfold pk_c; omega) (fun x hx q => hT x hx (zc x q).1) ((hRo σ1 g1).co hi0 hi1) (hw9.2 i hi0 hi1) (hwf.2.2.1 i hi0 hi1).2.2.1 (fun σ2 e1 e2 e3 => ?_)
      have hF2 := pk_Fm_co g2 hi0 hi8 e1 e2
      have e1z := pk_fr_mono e1 (fun x hx => (zc x hx).1)
      have hF2' := (hRo σ2 (pk_fr_trans g1 e1z)).F
      have hB : ∀ x, x < B + 11 → ¬ pk_Zr (pk_c B i) x := fun x hx q => by have := (zc x q).2; omega
      refine b15_82 (k := ?_)
      refine ih (i + 1) σ2 (by push_cast; omega) ⟨pk_fr_trans g1 e1z, hF2, ?_, ?_⟩ (fun p p0 p5 => ?_) (fun c c0 c1 => ?_)
      · rw [(e1.2 B (hB _ (by omega)) 4).1, (e1.2 B (hB _ (by omega)) 5).1, (e1.2 B (hB _ (by omega)) 6).1, (e1.2 B (hB _ (by omega)) 12).1]; exact g3
      · rw [(e1.2 B (hB _ (by omega)) 7).1]; exact g4
      · rw [(e1.2 (B + 1) (hB _ (by omega)) p).2]; exact g5 p p0 p5
      · by_cases e : c = i
        · subst e; exact e3
        · refine pk_RCo_keep e1 (fun x hx q => hT x hx (zc x q).1) (fun x h1 h2 q => ?_) (Int.le_refl _) (fun _ _ => rfl) (hw9.2 c c0 (by omega)) (g6 c c0 (by omega))
          unfold pk_Zr at q
          unfold pk_c at h1 h2 q
          omega
  -- programs
  have loop1 : ∀ (m i : Nat) (σ1 : pe_H), i + m = 5 → P σ1 → (∀ p : Int, 0 ≤ p → p < i → pe_R σ1 (B + 1) p = pe_R σ (B' + 1) p) → pe_X (d + 2) 15 (34, [some (.inr (.inr B)), some (.inr (.inr B')), some (.inl (i : Int))], [], σ1) Φ := by
    intro m
    induction m with
    | zero =>
      intro i σ1 hi hP g5
      have hF1 := hP.2.1
      have hF1' := (hRo σ1 hP.1).F
      refine b15_34 (k1 := fun _ => ?_) (k2 := fun q => by omega)
      refine b15_57 (k := ?_)
      exact loop2 (a.1 4).toNat 0 σ1 (by omega) hP (fun p p0 p5 => g5 p p0 (by omega)) (fun c c0 c1 => by omega)
    | succ m ih =>
      intro i σ1 hi ⟨g1, g2, g3, g4⟩ g5
      have hF1' := (hRo σ1 g1).F
      have hi0 : 0 ≤ (i : Int) := by omega
      have hP0 := (hRo σ1 g1).2.2.2.2.2.1 i hi0 (by omega)
      refine b15_34 (k1 := fun q => by omega) (k2 := fun _ => ?_)
      refine b15_39 (h2 := Or.inr (by rw [pk_RPr_K hP0]; rfl)) (k := ?_)
      have hne : B' + 1 ≠ B + 1 := by omega
      have e1 : pk_fr (fun x => x = B + 1) σ1 (pe_wR σ1 (B + 1) (i : Int) (pe_R σ1 (B' + 1) (i : Int))) := pk_fr_wR rfl
      have e1z : pk_fr (pk_Z B) σ1 (pe_wR σ1 (B + 1) (i : Int) (pe_R σ1 (B' + 1) (i : Int))) := pk_fr_mono e1 (fun x hx => by unfold pk_Z; omega)
      refine ih (i + 1) _ (by omega) ⟨pk_fr_trans g1 e1z, ?_, ?_, ?_⟩ (fun p p0 p5 => ?_)
      · refine pk_Fm_eq (pk_frK e1) (pk_frL e1) (fun x j hx => (e1.2 x ?_ j).2) g2
        rcases hx with q | q | q | q | ⟨i, i0, i1, q⟩ | ⟨i, i0, i1, q⟩
        · omega
        · omega
        · omega
        · omega
        · unfold pk_c at q; omega
        · unfold pk_q pk_g at q; omega
      · rw [pe_I_wR, pe_I_wR, pe_I_wR, pe_I_wR]; exact g3
      · rw [pe_I_wR]; exact g4
      · rw [pe_R_w]
        by_cases e : p = i
        · rw [if_pos ⟨rfl, e⟩, (g1.2 (B' + 1) (fun q => hZn _ q ⟨by omega, by omega⟩) i).2, e]
        · rw [if_neg (fun q => e q.2)]; exact g5 p p0 (by omega)
  refine pe_M_of ck15 (Nat.le_of_ble_eq_true rfl) ?_
  refine b15_0 (k := ?_)
  have hBB : B' ≠ B := by omega
  rw [s4, s5, s6, s12]
  have hfr : pk_frI (fun x => x = B) σ (pe_wI (pe_wI (pe_wI (pe_wI σ B 4 (a.1 4)) B 5 (a.1 5)) B 6 (a.1 6)) B 12 n) := pk_frI_then (pk_frI_then (pk_frI_then (pk_frI_wI rfl) rfl) rfl) rfl
  refine loop1 5 0 _ (by omega) ⟨pk_fr_mono hfr.1 (fun x e => by rw [e]; exact zB), pk_Fm_frI hfr hF, ?_, ?_⟩ (fun p p0 p5 => by omega)
  · simp [pe_I_w]
  · simp [pe_I_w]
/-- add -/
theorem k24 {p : Int} {m : Nat} {kd fg : Int} (hM : pk_RM B T σ a) (hwf : pa_wf0 a) (hp0 : 0 ≤ p) (hp5 : p < 5) (hTm : T m) (hK : pe_K σ m = 3) (hk : pe_I σ m 0 = kd) (hf : pe_I σ m 1 = fg) (k1 : ¬ a.1 4 < 8 → Φ (some (.inl (-2))) σ) (k : ∀ σ2, a.1 4 < 8 → pk_fr (pk_Zs B) σ σ2 → pk_RM B T σ2 (pa_more a p kd fg) → Φ (some (.inl (a.1 4))) σ2) : pe_M (d + 3) 24 [.inr (.inr B), .inl p, .inr (.inr m)] σ Φ := by
  have hF := hM.F
  have e4 := hM.cnt.1
  have h8 := hwf.1
  refine pe_M_of ck24 (Nat.le_of_ble_eq_true rfl) ?_
  refine b24_0 (k1 := fun q => ?_) (k2 := fun q => ?_)
  · obtain ⟨w, n, hR, hn⟩ := hM
    generalize hc : a.1 4 = c at *
    have hc8 : c < 8 := by omega
    have h0 := h8.1
    have ho := pk_mO hF h0 hc8
    have hKf := pk_oEK ho (i := 0) (by decide) (by decide)
    refine b24_12 (k := ?_)
    rw [e4]
    refine pe_M_of (d := d + 1) ck1 (Nat.le_of_ble_eq_true rfl) ?_
    refine b1_0 (k := ?_)
    generalize hτ1 : pe_wI (pe_wI (pe_wI (pe_wI (pe_wI (pe_wI (pe_wR (pe_wI σ (pk_c B c) 0 p) (pk_c B c) 1 m) (pk_c B c) 2 0) (pk_c B c) 3 0) (pk_c B c) 4 (-4)) (pk_c B c) 5 0) (pk_c B c) 6 0) (pk_c B c) 7 (-4) = τ1
    have f1 : pk_fr (fun x => x = pk_c B c) σ τ1 := by
      have g1 : pk_fr (fun x => x = pk_c B c) σ (pe_wR (pe_wI σ (pk_c B c) 0 p) (pk_c B c) 1 m) := pk_fr_trans (pk_frI_wI (Z := fun x => x = pk_c B c) rfl).1 (pk_fr_wR rfl)
      have g2 : pk_frI (fun x => x = pk_c B c) (pe_wR (pe_wI σ (pk_c B c) 0 p) (pk_c B c) 1 m) τ1 := by
        rw [← hτ1]
        exact pk_frI_then (pk_frI_then (pk_frI_then (pk_frI_then (pk_frI_then (pk_frI_wI rfl) rfl) rfl) rfl) rfl) rfl
      exact pk_fr_trans g1 g2.1
    have hR1 : ∀ x j, ¬ (x = pk_c B c ∧ j = 1) → pe_R τ1 x j = pe_R σ x j := fun x j hx => by
      rw [← hτ1]
      simp only [pe_R_wI, pe_R_w]
      rw [if_neg hx]
    have ho1 : pk_Fo (pk_c B c) τ1 := pk_Fo_eq (pk_frK f1) (pk_frL f1) (fun j => ⟨hR1 _ _ (by omega), hR1 _ _ (by omega)⟩) ho
    refine b1_42 (k := ?_)
    refine k12 (σ := pe_wI (pe_wI τ1 (pk_c B c) 8 (-1)) (pk_c B c) 9 1) (pk_oEK (pk_Fo_frI (pk_frI_then (pk_frI_wI (Z := fun x => x = pk_c B c) rfl) rfl) ho1) (i := 0) (by decide) (by decide)) ?_
    refine b1_63 (k := ?_)
    have hf0 : pk_f (pk_c B c) 0 = pk_f (pk_c B c) (((0 : Nat) : Int)) := rfl
    generalize hF0 : pk_f (pk_c B c) 0 = F0
    have hF0e : F0 = pk_c B c + 2 := by rw [← hF0]; rfl
    generalize hP0 : pe_R σ (B + 1) p = P0
    generalize hτ2 : pe_wI (pe_wI (pe_wI (pe_wI (pe_wI (pe_wR (pe_wI (pe_wI τ1 (pk_c B c) 8 (-1)) (pk_c B c) 9 1) F0 0 P0) F0 1 p) F0 2 0) F0 3 0) F0 4 0) F0 5 (-2) = τ2
    have z1 : pk_Zc B c (pk_c B c) := pk_r_Zc
    have z2 : pk_Zc B c F0 := by rw [hF0e]; unfold pk_Zc; omega
    have f2 : pk_fr (pk_Zc B c) σ τ2 := by
      have g1 : pk_fr (pk_Zc B c) σ (pe_wI (pe_wI τ1 (pk_c B c) 8 (-1)) (pk_c B c) 9 1) := pk_fr_trans (pk_fr_mono f1 (fun x e => by rw [e]; exact z1)) (pk_frI_then (pk_frI_wI z1) z1).1
      have g2 : pk_frI (pk_Zc B c) (pe_wR (pe_wI (pe_wI τ1 (pk_c B c) 8 (-1)) (pk_c B c) 9 1) F0 0 P0) τ2 := by
        rw [← hτ2]
        exact pk_frI_then (pk_frI_then (pk_frI_then (pk_frI_then (pk_frI_wI z2) z2) z2) z2) z2
      exact pk_fr_trans (pk_fr_trans g1 (pk_fr_wR z2)) g2.1
    have hRR : ∀ x j, ¬ (x = pk_c B c ∧ j = 1) → x ≠ F0 → pe_R τ2 x j = pe_R σ x j := fun x j hx hx2 => by
      rw [← hτ2]
      simp only [pe_R_wI, pe_R_w]
      rw [if_neg (fun q => hx2 q.1)]
      exact hR1 x j hx
    have hI2 : ∀ j, pe_I τ2 (pk_c B c) j = pe_I (pe_wI (pe_wI τ1 (pk_c B c) 8 (-1)) (pk_c B c) 9 1) (pk_c B c) j := fun j => by
      rw [← hτ2]
      have hne : pk_c B c ≠ F0 := by rw [hF0e]; omega
      rw [pe_I_ner hne, pe_I_ner hne, pe_I_ner hne, pe_I_ner hne, pe_I_ner hne, pe_I_wR]
    have hFm : pk_Fm B τ2 := pk_Fm_eq (pk_frK f2) (pk_frL f2) (fun x j hx => hRR x j (by
        rcases hx with q | q | q | q | ⟨i, i0, i1, q⟩ | ⟨i, i0, i1, q⟩
        · unfold pk_c; omega
        · unfold pk_c; omega
        · unfold pk_c; omega
        · unfold pk_c; omega
        · unfold pk_c at *; omega
        · unfold pk_c; unfold pk_q pk_g at q; omega) (by
        rw [hF0e]
        rcases hx with q | q | q | q | ⟨i, i0, i1, q⟩ | ⟨i, i0, i1, q⟩
        · unfold pk_c; omega
        · unfold pk_c; omega
        · unfold pk_c; omega
        · unfold pk_c; omega
        · unfold pk_c at *; omega
        · unfold pk_c; unfold pk_q pk_g at q; omega)) hF
    have hPr : pk_RPr T σ P0 (a.2.2.1 p) := by rw [← hP0]; exact hR.2.2.2.2.2.1 p hp0 hp5
    have hTc := hR.Tc h0 hc8
    have hz : ∀ x, pk_Zc B c x → pk_Zs B x := pk_Zc_Zs h0 hc8
    have e4' : pe_I τ2 B 4 = c := by rw [(f2.2 B pk_B_Zc 4).1]; exact e4
    have hCo : pk_RCo T τ2 w (pk_c B c) (6 * c) n (pa_newC p kd fg (a.2.2.1 p)) := by
      refine ⟨?_, ?_, Or.inl ⟨rfl, ?_⟩, ⟨⟨?_, ?_, ?_⟩, trivial⟩⟩
      · have hm1 : pe_R τ2 (pk_c B c) 1 = m := by
          rw [← hτ2]
          simp only [pe_R_wI, pe_R_w]
          rw [if_neg (by rw [hF0e]; omega), ← hτ1]
          simp [pe_R_wI, pe_R_w]
        have hmz : ¬ pk_Zc B c m := hTc m hTm
        unfold pk_RCn
        rw [hm1, hI2, hI2, hI2, hI2, hI2, hI2, hI2, ← hτ1]
        refine ⟨?_, hTm, by rw [pk_frK f2]; exact hK, by rw [(f2.2 m hmz 0).1, hk]; rfl, by rw [(f2.2 m hmz 1).1, hf]; rfl⟩
        refine ⟨?_, ?_, ?_, ?_, ?_, ?_, ?_⟩ <;> simp [pe_I_w, pe_I_wR, pa_newC, pa_s]
      · rw [hI2, pe_I_same]; rfl
      · rw [hI2]; simp [pe_I_w]
      · have eF : ∀ j, pe_I τ2 (pk_f (pk_c B c) ((([] : List pa_F).length : Nat) : Int)) j = pe_I τ2 F0 j := fun j => by rw [← hF0]; rfl
        refine ⟨(eF 1).trans ?_, (eF 2).trans ?_, (eF 3).trans ?_, (eF 4).trans ?_⟩ <;> rw [← hτ2] <;> simp [pe_I_w, pa_nf, pa_s]
      · show pk_RPr T τ2 (pe_R τ2 (pk_f (pk_c B c) ((0 : Nat) : Int)) 0) _
        rw [← hf0, hF0]
        have : pe_R τ2 F0 0 = P0 := by rw [← hτ2]; simp [pe_R_wI, pe_R_w]
        rw [this]
        exact pk_RPr_fr f2 hTc hPr
      · show pr_hl w _ (pe_I τ2 (pk_f (pk_c B c) ((0 : Nat) : Int)) 5) n _
        rw [← hf0, hF0, ← hτ2, pe_I_same]
        exact Or.inl ⟨rfl, rfl⟩
    refine b24_32 (k := ?_)
    rw [e4', show c + 1 - 1 = c by omega]
    have hf3 : pk_frI (fun x => x = B) τ2 (pe_wI τ2 B 4 (c + 1)) := pk_frI_wI rfl
    have hT3 : ∀ x, T x → x ≠ B := fun x hx e => hR.T0 x hx (by rw [e]; unfold pk_Z; omega)
    obtain ⟨a1, a2, ⟨s4, s5, s6, s12⟩, a4, a5, a6, a7⟩ := hR
    have m4 : (pa_more a p kd fg).1 4 = c + 1 := by show pa_s a.1 4 (a.1 4 + 1) 4 = _; rw [pa_ss, hc]
    have eB : ∀ x, x ≠ B → ¬ pk_Zc B c x → ∀ j, pe_I (pe_wI τ2 B 4 (c + 1)) x j = pe_I σ x j := fun x h1 h2 j => by rw [pe_I_ner h1]; exact (f2.2 x h2 j).1
    refine k _ hc8 (pk_fr_trans (pk_fr_mono f2 hz) (pk_frI_mono hf3 (fun x e => Or.inl e)).1) ⟨w, n, ⟨pk_Fm_frI hf3 hFm, a2, ⟨?_, ?_, ?_, ?_⟩, ?_, fun i i0 i1 => ?_, fun q q0 q5 => ?_, fun ch c0 c3 => ?_⟩, ?_⟩
    · rw [pe_I_same, m4]
    · rw [pe_I_nej (by decide), (f2.2 B pk_B_Zc 5).1]; exact s5
    · rw [pe_I_nej (by decide), (f2.2 B pk_B_Zc 6).1]; exact s6
    · rw [pe_I_nej (by decide), (f2.2 B pk_B_Zc 12).1]; exact s12
    · have : pe_I (pe_wI τ2 B 4 (c + 1)) (B + 8) = pe_I σ (B + 8) := funext fun j => by
        rw [pe_I_ner (by omega), ← hτ2]
        have hne : B + 8 ≠ F0 := by rw [hF0e]; unfold pk_c; omega
        have hne2 : B + 8 ≠ pk_c B c := by unfold pk_c; omega
        rw [pe_I_ner hne, pe_I_ner hne, pe_I_ner hne, pe_I_ner hne, pe_I_ner hne, pe_I_wR, pe_I_ner hne2, pe_I_ner hne2]
        exact (f1.2 _ hne2 j).1
      rw [this, funext (eB (B + 7) (by omega) pk_7_Zc)]
      exact a4
    · rw [m4] at i1
      by_cases e : i = c
      · subst e
        rw [show (pa_more a p kd fg).2.1 i = pa_newC p kd fg (a.2.2.1 p) from if_pos hc.symm]
        exact pk_RCo_keep hf3.1 hT3 (fun x h1 h2 e => by unfold pk_c at h1; omega) (Int.le_refl _) (fun _ _ => rfl) (by show (1 : Nat) ≤ 6; decide) hCo
      · rw [show (pa_more a p kd fg).2.1 i = a.2.1 i from if_neg (by omega)]
        have hi := hwf.w9.2 i i0 (by omega)
        refine pk_RCo_keep hf3.1 hT3 (fun x h1 h2 e => by unfold pk_c at h1; omega) (Int.le_refl _) (fun _ _ => rfl) hi (pk_RCo_keep f2 hTc (fun x h1 h2 => ?_) (Int.le_refl _) (fun _ _ => rfl) hi (a5 i i0 (by omega)))
        unfold pk_Zc
        unfold pk_c at h1 h2 ⊢
        omega
    · have : pe_R (pe_wI τ2 B 4 (c + 1)) (B + 1) q = pe_R σ (B + 1) q := by
        rw [pe_R_wI]
        exact (f2.2 (B + 1) (by unfold pk_Zc pk_c; omega) q).2
      rw [this]
      exact pk_RPr_fr hf3.1 hT3 (pk_RPr_fr f2 hTc (a6 q q0 q5))
    · obtain ⟨b1, b2⟩ := a7 ch c0 c3
      have fq : ∀ x, B + 75 ≤ x → x ≠ B ∧ ¬ pk_Zc B c x := fun x hx => ⟨by omega, by unfold pk_Zc pk_c; omega⟩
      exact ⟨pk_RQ_keep (eB _ (fq _ (by unfold pk_q; omega)).1 (fq _ (by unfold pk_q; omega)).2 1) (fun j => eB _ (fq _ (by unfold pk_q; omega)).1 (fq _ (by unfold pk_q; omega)).2 j) b1, pk_RQ_keep (eB _ (fq _ (by unfold pk_g; omega)).1 (fq _ (by unfold pk_g; omega)).2 1) (fun j => eB _ (fq _ (by unfold pk_g; omega)).1 (fq _ (by unfold pk_g; omega)).2 j) b2⟩
    · rw [m4]
      have e1 : (c + 1).toNat = c.toNat + 1 := by omega
      have e2 : pa_pots (pa_more a p kd fg) (c.toNat + 1) = pa_pots a c.toNat + 64 := by
        unfold pa_pots
        rw [pa_sum, pa_sum_eq (g := fun c => pa_pot (a.2.1 c).2.2) c.toNat (fun i i0 i1 => by rw [show (pa_more a p kd fg).2.1 i = a.2.1 i from if_neg (by omega)])]
        rw [show (pa_more a p kd fg).2.1 (c.toNat : Int) = pa_newC p kd fg (a.2.2.1 p) from if_pos (by omega)]
        rfl
      rw [e1, e2]
      omega
  · refine b24_9 (k := ?_)
    exact k1 (by omega)
end

