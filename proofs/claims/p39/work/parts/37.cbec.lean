/-! THE CLASS: become -/
section
variable {T : Nat → Prop} {σ σ' : pe_H}
theorem pk_RFs_copy {w : Int → Int × List Int} {r r' m : Nat} {own : Int} (hI : ∀ i : Nat, i < m → (∀ k, 1 ≤ k → k ≤ 5 → pe_I σ' (pk_f r' i) k = pe_I σ (pk_f r i) k) ∧ pe_R σ' (pk_f r' i) 0 = pe_R σ (pk_f r i) 0) (hP : ∀ P p, pk_RPr T σ P p → pk_RPr T σ' P p) : ∀ (fs : List pa_F) (ub : Int), fs.length ≤ m → pk_RFs T σ w r own fs ub → pk_RFs T σ' w r' own fs ub
  | [], _, _, _ => trivial
  | f :: fs, ub, hl, h => by
    rw [List.length_cons] at hl
    obtain ⟨⟨⟨b1, b2, b3, b4⟩, b5, b6⟩, b7⟩ := h
    have hi := hI fs.length (by omega)
    refine ⟨⟨⟨by rw [hi.1 1 (by decide) (by decide)]; exact b1, by rw [hi.1 2 (by decide) (by decide)]; exact b2, by rw [hi.1 3 (by decide) (by decide)]; exact b3, by rw [hi.1 4 (by decide) (by decide)]; exact b4⟩, by rw [hi.2]; exact hP _ _ b5, ?_⟩, ?_⟩
    · rw [hi.1 5 (by decide) (by decide)]; exact b6
    · rw [hi.1 5 (by decide) (by decide)]
      exact pk_RFs_copy hI hP fs _ (by omega) b7
theorem pk_RFs_fin {w : Int → Int × List Int} {r : Nat} {own : Int} : ∀ (fs : List pa_F) (ub : Int), (∀ f ∈ fs, pa_wff f) → pk_RFs T σ w r own fs ub → ∀ j : Nat, j < fs.length → (pe_I σ (pk_f r j) 4 = 0 ∨ pe_I σ (pk_f r j) 4 = 1)
  | [], _, _, _, j, hj => by simp at hj
  | f :: fs, ub, hf, h, j, hj => by
    rw [List.length_cons] at hj
    by_cases e : j = fs.length
    · subst e
      have := (hf f List.mem_cons_self).2.2.2.1
      rw [h.1.1.2.2.2]
      exact this
    · exact pk_RFs_fin fs _ (fun g hg => hf g (List.mem_cons_of_mem _ hg)) h.2 j (by omega)
/-- another machine stands -/
theorem pk_RMx_fr {Z : Nat → Prop} {B : Nat} {w : Int → Int × List Int} {n : Int} {a : pa_M} (h : pk_RMx B T σ w n a) (hw9 : pa_wf9 a) (hf : pk_fr Z σ σ') (hz : ∀ x, Z x → ¬ (B ≤ x ∧ x < B + 87)) (hT : ∀ x, T x → ¬ Z x) : pk_RMx B T σ' w n a := by
  obtain ⟨a1, a2, a3, a4, a5, a6, a7⟩ := h
  have e : ∀ x, B ≤ x → x < B + 87 → ¬ Z x := fun x h1 h2 q => hz x q ⟨h1, h2⟩
  have eI : ∀ x, B ≤ x → x < B + 87 → ∀ j, pe_I σ' x j = pe_I σ x j := fun x h1 h2 j => (hf.2 x (e x h1 h2) j).1
  refine ⟨pk_Fm_eq (pk_frK hf) (pk_frL hf) (fun x j hx => (hf.2 x (e x ?_ ?_) j).2) a1, a2, ?_, ?_, fun i hi0 hi1 => ?_, fun p hp0 hp1 => ?_, fun ch hc0 hc3 => ?_⟩
  · rcases hx with q | q | q | q | ⟨i, i0, i1, q⟩ | ⟨i, i0, i1, q⟩
    · omega
    · omega
    · omega
    · omega
    · unfold pk_c at q; omega
    · unfold pk_q pk_g at q; omega
  · rcases hx with q | q | q | q | ⟨i, i0, i1, q⟩ | ⟨i, i0, i1, q⟩
    · omega
    · omega
    · omega
    · omega
    · unfold pk_c at q; omega
    · unfold pk_q pk_g at q; omega
  · rw [eI B (by omega) (by omega), eI B (by omega) (by omega), eI B (by omega) (by omega), eI B (by omega) (by omega)]; exact a3
  · rw [funext (eI (B + 7) (by omega) (by omega)), funext (eI (B + 8) (by omega) (by omega))]; exact a4
  · have := hw9.1
    exact pk_RCo_keep hf hT (fun x h1 h2 => e x (by unfold pk_c at h1; omega) (by unfold pk_c at h2; omega)) (Int.le_refl _) (fun _ _ => rfl) (hw9.2 i hi0 hi1) (a5 i hi0 hi1)
  · rw [(hf.2 (B + 1) (e _ (by omega) (by omega)) p).2]
    exact pk_RPr_fr hf hT (a6 p hp0 hp1)
  · obtain ⟨b1, b2⟩ := a7 ch hc0 hc3
    exact ⟨pk_RQ_keep (eI _ (by unfold pk_q; omega) (by unfold pk_q; omega) 1) (fun j => eI _ (by unfold pk_q; omega) (by unfold pk_q; omega) j) b1, pk_RQ_keep (eI _ (by unfold pk_g; omega) (by unfold pk_g; omega) 1) (fun j => eI _ (by unfold pk_g; omega) (by unfold pk_g; omega) j) b2⟩
theorem pk_RM_fr {Z : Nat → Prop} {B : Nat} {a : pa_M} (h : pk_RM B T σ a) (hw9 : pa_wf9 a) (hf : pk_fr Z σ σ') (hz : ∀ x, Z x → ¬ (B ≤ x ∧ x < B + 87)) (hT : ∀ x, T x → ¬ Z x) : pk_RM B T σ' a := by
  obtain ⟨w, n, h, hn⟩ := h
  exact ⟨w, n, pk_RMx_fr h hw9 hf hz hT, hn⟩
theorem pk_Fm_co {B : Nat} {i : Int} (h : pk_Fm B σ) (i0 : 0 ≤ i) (i8 : i < 8) (hf : pk_fr (pk_Zr (pk_c B i)) σ σ') (ho : pk_Fo (pk_c B i) σ') : pk_Fm B σ' := by
  obtain ⟨b1, b2, b3, b4, b5⟩ := h
  have hz : ∀ x, x < pk_c B i ∨ pk_c B i + 8 ≤ x → ¬ pk_Zr (pk_c B i) x := fun x hx q => by unfold pk_Zr at q; omega
  have hB : ∀ x, x ≤ B + 8 → ¬ pk_Zr (pk_c B i) x := fun x hx => hz x (Or.inl (by unfold pk_c; omega))
  have hR : ∀ x, x ≤ B + 8 → ∀ j, pe_R σ' x j = pe_R σ x j := fun x hx j => (hf.2 x (hB x hx) j).2
  refine ⟨⟨b1.1, by rw [pk_frK hf]; exact b1.2⟩, ?_, fun j j0 j1 => ?_, fun j j0 j1 => ?_, fun j j0 j1 => ?_⟩
  · simp only [hR B (by omega), pk_frK hf, pk_frL hf]; exact b2
  · obtain ⟨c1, c2⟩ := b3 j j0 j1
    refine ⟨by rw [hR _ (by omega)]; exact c1, ?_⟩
    by_cases e : j = i
    · rw [e]; exact ho
    · refine pk_Fo_eq (pk_frK hf) (pk_frL hf) (fun k => ⟨(hf.2 _ (hz _ ?_) _).2, (hf.2 _ (hz _ ?_) _).2⟩) c2 <;> unfold pk_c <;> omega
  · obtain ⟨c1, c2⟩ := b4 j j0 j1
    exact ⟨by rw [hR _ (by omega)]; exact c1, pk_Fq_eq (pk_frK hf) (pk_frL hf) (hf.2 _ (hz _ (Or.inr (by unfold pk_c pk_q; omega))) _).2 c2⟩
  · obtain ⟨c1, c2⟩ := b5 j j0 j1
    exact ⟨by rw [hR _ (by omega)]; exact c1, pk_Fq_eq (pk_frK hf) (pk_frL hf) (hf.2 _ (hz _ (Or.inr (by unfold pk_c pk_g; omega))) _).2 c2⟩
end
section
variable {d : Nat} {Φ : Option pe_V → pe_H → Prop} {T : Nat → Prop} {σ σ' : pe_H}
theorem k13 {r r' : Nat} (hK : pe_K σ r = 1) (hK' : pe_K σ r' = 1) (h4 : pe_I σ r' 4 = 0 ∨ pe_I σ r' 4 = 1) (k : ∀ σ2, pk_fr (fun x => x = r) σ σ2 → (∀ k, 1 ≤ k → k ≤ 5 → pe_I σ2 r k = pe_I σ r' k) → pe_R σ2 r 0 = pe_R σ r' 0 → Φ none σ2) : pe_M (d + 1) 13 [.inr (.inr r), .inr (.inr r')] σ Φ := by
  refine pe_M_of ck13 (Nat.le_of_ble_eq_true rfl) ?_
  refine b13_0 (k := ?_)
  refine b13_48 (k := ?_)
  have g : pk_frI (fun x => x = r) (pe_wR σ r 0 (pe_R σ r' 0)) (pe_wI (pe_wI (pe_wI (pe_wI (pe_wI (pe_wR σ r 0 (pe_R σ r' 0)) r 1 (pe_I σ r' 1)) r 2 (pe_I σ r' 2)) r 3 (pe_I σ r' 3)) r 4 (pe_I σ r' 4)) r 5 (pe_I σ r' 5)) := pk_frI_then (pk_frI_then (pk_frI_then (pk_frI_then (pk_frI_wI rfl) rfl) rfl) rfl) rfl
  refine k _ (pk_fr_trans (pk_fr_wR rfl) g.1) (fun k k1 k5 => ?_) ?_
  · have : k = 1 ∨ k = 2 ∨ k = 3 ∨ k = 4 ∨ k = 5 := by omega
    rcases this with rfl | rfl | rfl | rfl | rfl <;> simp [pe_I_w]
  · simp [pe_R_wI, pe_R_w]
/-- Coroutine.become -/
theorem k2 {r r' : Nat} {w : Int → Int × List Int} {own n : Int} {c : pa_C} (ho : pk_Fo r σ) (ho' : pk_Fo r' σ) (hd : r + 8 ≤ r' ∨ r' + 8 ≤ r) (hT : ∀ x, T x → ¬ pk_Zr r x) (hC : pk_RCo T σ w r' own n c) (hl : c.2.2.length ≤ 6) (hwf : ∀ f ∈ c.2.2, pa_wff f) (k : ∀ σ2, pk_fr (pk_Zr r) σ σ2 → pk_Fo r σ2 → pk_RCo T σ2 w r own n c → Φ none σ2) : pe_M (d + 2) 2 [.inr (.inr r), .inr (.inr r')] σ Φ := by
  have hrr : r' ≠ r := by omega
  have hrz : pk_Zr r r := ⟨Nat.le_refl _, by omega⟩
  have hTr : ∀ x, T x → x ≠ r := fun x hx e => hT x hx (by rw [e]; exact hrz)
  obtain ⟨⟨⟨a0, a2, a3, a4, a5, a6, a7⟩, m0, m1, m2, m3⟩, c2, c3, c4⟩ := hC
  have hfin := pk_RFs_fin _ _ hwf c4
  refine pe_M_of ck2 (Nat.le_of_ble_eq_true rfl) ?_
  refine b2_0 (k := ?_)
  generalize hτ1 : pe_wI (pe_wI (pe_wI (pe_wI (pe_wR (pe_wI σ r 0 (pe_I σ r' 0)) r 1 (pe_R σ r' 1)) r 2 (pe_I σ r' 2)) r 3 (pe_I σ r' 3)) r 4 (pe_I σ r' 4)) r 5 (pe_I σ r' 5) = τ1
  have f1 : pk_fr (fun x => x = r) σ τ1 := by
    have g1 : pk_fr (fun x => x = r) σ (pe_wR (pe_wI σ r 0 (pe_I σ r' 0)) r 1 (pe_R σ r' 1)) := pk_fr_trans (pk_frI_wI (Z := fun x => x = r) rfl).1 (pk_fr_wR rfl)
    have g2 : pk_frI (fun x => x = r) (pe_wR (pe_wI σ r 0 (pe_I σ r' 0)) r 1 (pe_R σ r' 1)) τ1 := by
      rw [← hτ1]
      exact pk_frI_then (pk_frI_then (pk_frI_then (pk_frI_wI rfl) rfl) rfl) rfl
    exact pk_fr_trans g1 g2.1
  have hR1 : ∀ x j, ¬ (x = r ∧ j = 1) → pe_R τ1 x j = pe_R σ x j := fun x j hx => by
    rw [← hτ1]
    simp only [pe_R_wI, pe_R_w]
    rw [if_neg hx]
  have ho1 : pk_Fo r τ1 := pk_Fo_eq (pk_frK f1) (pk_frL f1) (fun j => ⟨hR1 _ _ (by omega), hR1 _ _ (by omega)⟩) ho
  have ho1' : pk_Fo r' τ1 := pk_Fo_eq (pk_frK f1) (pk_frL f1) (fun j => ⟨hR1 _ _ (by omega), hR1 _ _ (by omega)⟩) ho'
  have hs1 : ∀ j, pe_I τ1 r' j = pe_I σ r' j := fun j => (f1.2 r' hrr j).1
  refine b2_48 (k := ?_)
  rw [hs1, hs1, hs1, hs1]
  generalize hτ2 : pe_wI (pe_wI (pe_wI (pe_wI τ1 r 6 (pe_I σ r' 6)) r 7 (pe_I σ r' 7)) r 8 (pe_I σ r' 8)) r 9 (pe_I σ r' 9) = τ2
  have f2 : pk_frI (fun x => x = r) τ1 τ2 := by
    rw [← hτ2]
    exact pk_frI_then (pk_frI_then (pk_frI_then (pk_frI_wI rfl) rfl) rfl) rfl
  have f12 := pk_fr_trans f1 f2.1
  have f12z : pk_fr (pk_Zr r) σ τ2 := pk_fr_mono f12 (fun x e => by rw [e]; exact hrz)
  have ho2 : pk_Fo r τ2 := pk_Fo_frI f2 ho1
  have ho2' : pk_Fo r' τ2 := pk_Fo_frI f2 ho1'
  have v1 : pe_R τ2 r 1 = pe_R σ r' 1 := by rw [pk_frR f2, ← hτ1]; simp [pe_R_wI, pe_R_w]
  have v : ∀ j, 0 ≤ j → j ≤ 9 → j ≠ 1 → pe_I τ2 r j = pe_I σ r' j := fun j j0 j9 j1 => by
    rw [← hτ2, ← hτ1]
    have : j = 0 ∨ j = 2 ∨ j = 3 ∨ j = 4 ∨ j = 5 ∨ j = 6 ∨ j = 7 ∨ j = 8 ∨ j = 9 := by omega
    rcases this with rfl | rfl | rfl | rfl | rfl | rfl | rfl | rfl | rfl <;> simp [pe_I_w, pe_I_wR]
  have hN : pk_RCn T τ2 r c.1 := by
    unfold pk_RCn
    rw [v 0 (by decide) (by decide) (by decide), v 2 (by decide) (by decide) (by decide), v 3 (by decide) (by decide) (by decide), v 4 (by decide) (by decide) (by decide), v 5 (by decide) (by decide) (by decide), v 6 (by decide) (by decide) (by decide), v 7 (by decide) (by decide) (by decide), v1]
    refine ⟨⟨a0, a2, a3, a4, a5, a6, a7⟩, m0, by rw [pk_frK f12]; exact m1, by rw [(f12.2 _ (hTr _ m0) 0).1]; exact m2, by rw [(f12.2 _ (hTr _ m0) 1).1]; exact m3⟩
  have h9 : pe_I τ2 r 9 = c.2.2.length := by rw [v 9 (by decide) (by decide) (by decide)]; exact c2
  have h8 : pe_I τ2 r 8 = pe_I σ r' 8 := v 8 (by decide) (by decide) (by decide)
  have loop : ∀ (m i : Nat) (σ1 : pe_H), i + m = c.2.2.length → pk_fr (pk_Zr r) σ σ1 → pk_Fo r σ1 → (∀ j, pe_I σ1 r j = pe_I τ2 r j ∧ pe_R σ1 r j = pe_R τ2 r j) → (∀ j : Nat, j < i → (∀ k, 1 ≤ k → k ≤ 5 → pe_I σ1 (pk_f r j) k = pe_I σ (pk_f r' j) k) ∧ pe_R σ1 (pk_f r j) 0 = pe_R σ (pk_f r' j) 0) → pe_X (d + 1) 2 (82, [some (.inr (.inr r)), some (.inr (.inr r')), some (.inl (i : Int))], [], σ1) Φ := by
    intro m
    induction m with
    | zero =>
      intro i σ1 hi g1 g2 g3 g4
      have g5 : pk_Fo r' σ1 := pk_Fo_eq (pk_frK g1) (pk_frL g1) (fun j => ⟨(g1.2 _ (by unfold pk_Zr; omega) _).2, (g1.2 _ (by unfold pk_Zr; omega) _).2⟩) ho'
      have e9 := (g3 9).1
      refine b2_82 (k1 := fun _ => ?_) (k2 := fun q => by omega)
      refine b2_111 (k := ?_)
      refine k σ1 g1 g2 ⟨?_, by rw [e9]; exact h9, ?_, ?_⟩
      · obtain ⟨⟨x0, x2, x3, x4, x5, x6, x7⟩, y0, y1, y2, y3⟩ := hN
        unfold pk_RCn
        rw [(g3 0).1, (g3 2).1, (g3 3).1, (g3 4).1, (g3 5).1, (g3 6).1, (g3 7).1, (g3 1).2]
        rw [v1] at y0 y1 y2 y3 ⊢
        exact ⟨⟨x0, x2, x3, x4, x5, x6, x7⟩, y0, by rw [pk_frK g1]; exact m1, by rw [(g1.2 _ (hT _ m0) 0).1]; exact m2, by rw [(g1.2 _ (hT _ m0) 1).1]; exact m3⟩
      · unfold pk_RCe
        rw [(g3 8).1, h8]
        exact c3
      · exact pk_RFs_copy (m := c.2.2.length) (fun j hj => g4 j (by omega)) (fun P p q => pk_RPr_fr g1 hT q) _ _ (Nat.le_refl _) c4
    | succ m ih =>
      intro i σ1 hi g1 g2 g3 g4
      have g5 : pk_Fo r' σ1 := pk_Fo_eq (pk_frK g1) (pk_frL g1) (fun j => ⟨(g1.2 _ (by unfold pk_Zr; omega) _).2, (g1.2 _ (by unfold pk_Zr; omega) _).2⟩) ho'
      have e9 := (g3 9).1
      refine b2_82 (k1 := fun q => by omega) (k2 := fun _ => ?_)
      refine b2_90 (k := ?_)
      have hsame : ∀ (j : Nat) k, j < 6 → pe_I σ1 (pk_f r' j) k = pe_I σ (pk_f r' j) k ∧ pe_R σ1 (pk_f r' j) k = pe_R σ (pk_f r' j) k := fun j k hj => g1.2 _ (by unfold pk_Zr pk_f; omega) k
      refine k13 (pk_oEK g2 (by omega) (by omega)) (pk_oEK g5 (by omega) (by omega)) (by rw [(hsame i 4 (by omega)).1]; exact hfin i (by omega)) (fun σ2 e1 e2 e3 => ?_)
      have hfz : ∀ j : Nat, j < 6 → pk_Zr r (pk_f r j) := fun j hj => by unfold pk_Zr pk_f; omega
      have e1z : pk_fr (pk_Zr r) σ1 σ2 := pk_fr_mono e1 (fun x e => by rw [e]; exact hfz i (by omega))
      have hne : r ≠ pk_f r (i : Int) := fun e => pk_f_ne e.symm
      have hne1 : r + 1 ≠ pk_f r (i : Int) := fun e => pk_f_ne1 e.symm
      have g2' : pk_Fo r σ2 := pk_Fo_eq (pk_frK e1) (pk_frL e1) (fun j => ⟨(e1.2 _ hne _).2, (e1.2 _ hne1 _).2⟩) g2
      have g5' : pk_Fo r' σ2 := pk_Fo_eq (pk_frK e1z) (pk_frL e1z) (fun j => ⟨(e1z.2 _ (by unfold pk_Zr; omega) _).2, (e1z.2 _ (by unfold pk_Zr; omega) _).2⟩) g5
      refine b2_105 (k := ?_)
      refine ih (i + 1) σ2 (by omega) (pk_fr_trans g1 e1z) g2' (fun j => ⟨(e1.2 _ hne j).1.trans (g3 j).1, (e1.2 _ hne j).2.trans (g3 j).2⟩) (fun j hj => ?_)
      by_cases e : j = i
      · subst e
        exact ⟨fun k k1 k5 => (e2 k k1 k5).trans (hsame j k (by omega)).1, e3.trans (hsame j 0 (by omega)).2⟩
      · obtain ⟨u1, u2⟩ := g4 j (by omega)
        exact ⟨fun k k1 k5 => (e1.2 _ (pk_f_inj e) k).1.trans (u1 k k1 k5), (e1.2 _ (pk_f_inj e) 0).2.trans u2⟩
  exact loop c.2.2.length 0 τ2 (by omega) f12z ho2 (fun _ => ⟨rfl, rfl⟩) (fun j hj => by omega)
/-- Queue.become -/
theorem k53 {r r' : Nat} {l : List Int} (hq : pk_Fq r σ) (hq' : pk_Fq r' σ) (hd : r + 2 ≤ r' ∨ r' + 2 ≤ r) (hQ : pk_RQ σ r' l) (hl : l.length ≤ 8) (k : ∀ σ2, pk_frI (pk_Zq r) σ σ2 → pk_RQ σ2 r l → Φ none σ2) : pe_M (d + 1) 53 [.inr (.inr r), .inr (.inr r')] σ Φ := by
  have loop : ∀ (m i : Nat) (σ1 : pe_H), i + m = l.length → pk_frI (pk_Zq r) σ σ1 → pe_I σ1 r 1 = l.length → (∀ j : Nat, j < i → pe_I σ1 (r + 1) j = l.getD j 0) → pe_X d 53 (10, [some (.inr (.inr r)), some (.inr (.inr r')), some (.inl (i : Int))], [], σ1) Φ := by
    intro m
    induction m with
    | zero =>
      intro i σ1 hi g1 g2 g3
      have f1 := pk_Fq_frI g1 hq
      have f2 := pk_Fq_frI g1 hq'
      refine b53_10 (k1 := fun _ => ?_) (k2 := fun q => by omega)
      refine b53_36 (k := ?_)
      exact k σ1 g1 ⟨g2, fun j hj => g3 j (by omega)⟩
    | succ m ih =>
      intro i σ1 hi g1 g2 g3
      have f1 := pk_Fq_frI g1 hq
      have f2 := pk_Fq_frI g1 hq'
      refine b53_10 (k1 := fun q => by omega) (k2 := fun _ => ?_)
      refine b53_18 (k := ?_)
      have e : pe_I σ1 (r' + 1) (i : Int) = l.getD i 0 := by rw [(g1.1.2 (r' + 1) (by unfold pk_Zq; omega) i).1]; exact hQ.2 i (by omega)
      rw [e]
      have h1 : pk_frI (pk_Zq r) σ1 (pe_wI σ1 (r + 1) (i : Int) (l.getD i 0)) := pk_frI_wI (Or.inr rfl)
      refine ih (i + 1) _ (by omega) (pk_frI_trans g1 h1) (by rw [pe_I_ner (by omega)]; exact g2) (fun j hj => ?_)
      rw [pe_I_w]
      by_cases e2 : j = i
      · subst e2; simp
      · rw [if_neg (by omega)]; exact g3 j (by omega)
  refine pe_M_of ck53 (Nat.le_of_ble_eq_true rfl) ?_
  refine b53_0 (k := ?_)
  refine loop l.length 0 _ (by omega) (pk_frI_wI (Or.inl rfl)) (by rw [pe_I_same]; exact hQ.1) (fun j hj => by omega)
end

