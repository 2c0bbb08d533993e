/-! THE CLASS: closeTop, endTop, haveEnd -/
def pk_Zr (r a : Nat) : Prop := r ≤ a ∧ a < r + 8
theorem pk_Zr_Zc {B : Nat} {c : Int} (a : Nat) (h : pk_Zr (pk_c B c) a) : pk_Zc B c a := Or.inl h
theorem k10_loop {d r : Nat} {own n : Int} {Φ : Option pe_V → pe_H → Prop} {T : Nat → Prop} {nu : Nat → Int} {w : Int → Int × List Int} (hn : n ≤ 512) (hT : ∀ x, T x → ¬ pk_Zr r x) : ∀ (fs : List pa_F) (σ : pe_H) (o1 : Option pe_V), pk_Fo r σ → pk_RCn T σ r nu → pe_I σ r 9 = fs.length → pe_I σ r 8 = -1 → pk_RFs T σ w r own fs n → fs.length ≤ 6 → (∀ f ∈ fs, pa_wff f) →
    (∀ σ', pk_frI (pk_Zr r) σ σ' → pk_RCo T σ' w r own n (pa_closeF nu [] fs) → Φ none σ') → pe_X d 10 (0, [some (.inr (.inr r)), o1], [], σ) Φ
  | [], σ, o1, ho, hN, hD, hE, hFs, hl, hwf, hk => by
    rw [List.length_nil] at hD
    have hr : ¬ T r := fun q => hT r q ⟨Nat.le_refl _, by omega⟩
    refine b10_0 (k1 := fun _ => ?_) (k2 := fun q => by omega)
    refine b10_92 (k := ?_)
    refine hk _ (pk_frI_wI ⟨Nat.le_refl _, by omega⟩) ⟨pk_RCn_set (j := 2) (by decide) hr hN, ?_, Or.inl ⟨rfl, ?_⟩, trivial⟩
    · rw [pe_I_nej (by decide)]; exact hD
    · rw [pe_I_nej (by decide)]; exact hE
  | f :: fs, σ, o1, ho, hN, hD, hE, hFs, hl, hwf, hk => by
    have hr : ¬ T r := fun q => hT r q ⟨Nat.le_refl _, by omega⟩
    rw [List.length_cons] at hD hl
    have hd : pe_I σ r 9 - 1 = (fs.length : Int) := by omega
    have hFs' := hFs
    obtain ⟨⟨⟨b1, b2, b3, b4⟩, b5, b6⟩, b7⟩ := hFs
    have hf := hwf f List.mem_cons_self
    have hfin := pa_fin_b f.2.1
    have hw4 := hf.2.2.2.1
    have hw2 := hf.2.1
    have hl16 := hf.2.2.2.2.1.1
    have hKf := pk_oEK ho (i := (fs.length : Int)) (by omega) (by omega)
    have hKP := pk_RPr_K b5
    have hfi := b5.2.2.1
    have hfz : pk_Zr r (pk_f r (fs.length : Int)) := by unfold pk_Zr pk_f; omega
    have hrz : pk_Zr r r := ⟨Nat.le_refl _, by omega⟩
    have hne2 : r ≠ pk_f r (fs.length : Int) := fun e => pk_f_ne e.symm
    have hTf : ∀ x, T x → x ≠ pk_f r (fs.length : Int) := fun x hx e => hT x hx (by rw [e]; exact hfz)
    have hNf : ∀ σ', pk_frI (fun x => x = pk_f r (fs.length : Int)) σ σ' → pk_RCn T σ' r nu := fun σ' h => pk_RCn_keep h.1 (fun x hx => hTf x hx) hne2 hN
    refine b10_0 (k1 := fun q => by omega) (k2 := fun _ => ?_)
    refine b10_7 (w1 := by rw [hd]; unfold pe_in; omega) (k1 := fun q => ?_) (k2 := fun q => ?_)
    · rw [hd] at q ⊢
      have h1 : ¬ f.1 4 = 1 := by omega
      refine b10_41 (w0 := by unfold pe_in; omega) (w1 := by unfold pe_in; omega) (k1 := fun q2 => ?_) (k2 := fun q2 => ?_)
      · refine b10_79 (k := ?_)
        rw [hd]
        have ha : pa_closeF nu [] (f :: fs) = pa_closeF nu [] fs := by rw [pa_closeF, if_neg h1, if_neg (by omega)]
        rw [ha] at hk
        have hfr : pk_frI (fun x => x = r) σ (pe_wI σ r 9 (fs.length : Int)) := pk_frI_wI rfl
        refine k10_loop hn hT fs _ _ (pk_Fo_frI hfr ho) (pk_RCn_89 (Or.inr rfl) hr hN) pe_I_same (by rw [pe_I_nej (by decide)]; exact hE) ?_ (by omega) (fun g hg => hwf g (List.mem_cons_of_mem _ hg)) (fun σ' g1 g2 => hk σ' (pk_frI_trans (pk_frI_mono hfr (fun a e => by rw [e]; exact hrz)) g1) g2)
        refine pk_RFs_keep (m := fs.length) (fun i hi j => hfr.1.2 _ pk_f_ne j) (fun P p q => pk_RPr_fr hfr.1 (fun x hx e => hr (by rw [← e]; exact hx)) q) _ _ _ (Nat.le_refl _) ?_ (fun _ _ _ => rfl) b7
        unfold pr_nb
        rcases b6 with ⟨q, -⟩ | ⟨q, -⟩ | ⟨q, q2, -⟩ <;> split <;> omega
      · refine b10_55 (k := ?_)
        have ha : pa_closeF nu [] (f :: fs) = (nu, [], pa_catch f [] :: fs) := by rw [pa_closeF, if_neg h1, if_pos (by omega)]
        rw [ha] at hk
        have hfr : pk_frI (fun x => x = pk_f r (fs.length : Int)) σ (pe_wI (pe_wI (pe_wI σ (pk_f r (fs.length : Int)) 5 (-1)) (pk_f r (fs.length : Int)) 4 1) (pk_f r (fs.length : Int)) 2 (pe_I σ (pe_R σ (pk_f r (fs.length : Int)) 0) 1 + 1)) := pk_frI_then (pk_frI_then (pk_frI_wI rfl) rfl) rfl
        refine hk _ (pk_frI_mono hfr (fun a e => by rw [e]; exact hfz)) ⟨hNf _ hfr, ?_, Or.inl ⟨rfl, ?_⟩, pk_catch (by omega) hFs' hTf (fun _ _ _ => rfl) (Or.inr (Or.inl ⟨rfl, rfl⟩)) ?_⟩
        · rw [(hfr.1.2 r hne2 9).1, List.length_cons]; omega
        · rw [(hfr.1.2 r hne2 8).1]; exact hE
        · unfold pr_nb
          rcases b6 with ⟨q, -⟩ | ⟨q, -⟩ | ⟨q, q2, -⟩ <;> split <;> (try split) <;> omega
    · rw [hd] at q ⊢
      have h1 : f.1 4 = 1 := by omega
      have ha : pa_closeF nu [] (f :: fs) = (nu, [], (f.1, f.2.1, if f.2.2 = none then some [] else f.2.2) :: fs) := by rw [pa_closeF, if_pos h1]
      rw [ha] at hk
      refine b10_26 (w0 := ?_) (k1 := fun q2 => ?_) (k2 := fun q2 => ?_)
      · unfold pe_in
        rcases b6 with ⟨q, -⟩ | ⟨q, -⟩ | ⟨q, q2, -⟩ <;> omega
      · refine b10_40 (k := ?_)
        refine hk _ (pk_frI_refl _ _) ⟨hN, by rw [List.length_cons]; omega, Or.inl ⟨rfl, hE⟩, ?_⟩
        have : (if f.2.2 = none then some [] else f.2.2) = f.2.2 := if_neg (fun e => by
          rcases b6 with ⟨q, -⟩ | ⟨-, q⟩ | ⟨-, -, -, q, -⟩
          · exact q2 q
          · rw [q] at e; cases e
          · rw [q] at e; cases e)
        rw [this]
        exact hFs'
      · refine b10_35 (k := ?_)
        refine b10_40 (k := ?_)
        have hfr : pk_frI (fun x => x = pk_f r (fs.length : Int)) σ (pe_wI σ (pk_f r (fs.length : Int)) 5 (-1)) := pk_frI_wI rfl
        have : (if f.2.2 = none then some [] else f.2.2) = some [] := if_pos (by
          rcases b6 with ⟨-, q⟩ | ⟨q, -⟩ | ⟨q, -⟩
          · exact q
          · omega
          · omega)
        rw [this] at hk
        refine hk _ (pk_frI_mono hfr (fun a e => by rw [e]; exact hfz)) ⟨hNf _ hfr, ?_, Or.inl ⟨rfl, ?_⟩, ⟨⟨?_, ?_, ?_, ?_⟩, pk_RPr_fr hfr.1 hTf b5, ?_⟩, ?_⟩
        · rw [(hfr.1.2 r hne2 9).1, List.length_cons]; omega
        · rw [(hfr.1.2 r hne2 8).1]; exact hE
        · rw [pe_I_nej (by decide)]; exact b1
        · rw [pe_I_nej (by decide)]; exact b2
        · rw [pe_I_nej (by decide)]; exact b3
        · rw [pe_I_nej (by decide)]; exact b4
        · rw [pe_I_same]; exact Or.inr (Or.inl ⟨rfl, rfl⟩)
        · rw [pe_I_same]
          refine pk_RFs_keep (m := fs.length) (fun i hi j => hfr.1.2 _ (pk_f_inj (by omega)) j) (fun P p q => pk_RPr_fr hfr.1 hTf q) _ _ _ (Nat.le_refl _) ?_ (fun _ _ _ => rfl) b7
          rw [q2]; exact Int.le_refl _
section
variable {d B : Nat} {Φ : Option pe_V → pe_H → Prop} {T : Nat → Prop} {σ : pe_H} {w : Int → Int × List Int} {n c : Int} {a : pa_M}
theorem pk_RMx.e8 (h : pk_RMx B T σ w n a) (h0 : 0 ≤ c) (h1 : c < a.1 4) (he : (a.2.1 c).2.1 = []) : pe_I σ (pk_c B c) 8 = -1 := by
  rcases (h.co h0 h1).2.2.1 with ⟨-, q⟩ | ⟨q, -⟩
  · exact q
  · exact absurd he q
/-- closeTop -/
theorem k10 (hR : pk_RMx B T σ w n a) (hw9 : pa_wf9 a) (h0 : 0 ≤ c) (h1 : c < a.1 4) (hn : n ≤ 512) (hwf : ∀ f ∈ (a.2.1 c).2.2, pa_wff f) (he : (a.2.1 c).2.1 = []) (k : ∀ σ', pk_frI (pk_Zc B c) σ σ' → pk_RMx B T σ' w n (pa_cw a c (pa_close (a.2.1 c))) → Φ none σ') : pe_M (d + 1) 10 [.inr (.inr (pk_c B c))] σ Φ := by
  have h8 : c < 8 := by have := hw9.1; omega
  obtain ⟨b1, b2, b3, b4⟩ := hR.co h0 h1
  refine pe_M_of ck10 (Nat.le_of_ble_eq_true rfl) ?_
  refine k10_loop hn (fun x hx q => hR.Tc h0 h8 x hx (Or.inl q)) _ σ _ (pk_mO hR.F h0 h8) b1 b2 (hR.e8 h0 h1 he) b4 (hw9.2 c h0 h1) hwf (fun σ' g1 g2 => k σ' (pk_frI_mono g1 pk_Zr_Zc) (pk_RMx_co hR hw9 h0 h1 (pk_frI_mono g1 pk_Zr_Zc) (Int.le_refl _) rfl ?_ (pr_wk_refl c w) ?_))
  · have e : ∀ x, x = B + 7 ∨ x = B + 8 → ∀ j, pe_I σ' x j = pe_I σ x j := fun x hx j => (g1.1.2 x (by unfold pk_Zr pk_c; omega) j).1
    rw [funext (e (B + 7) (Or.inl rfl)), funext (e (B + 8) (Or.inr rfl))]
    exact hR.st
  · unfold pa_close
    rw [he]
    exact g2
/-- the frame on top has gone -/
theorem pk_RMx_pop {f : pa_F} {fs : List pa_F} {w' : Int → Int × List Int} (hR : pk_RMx B T σ w n a) (hw9 : pa_wf9 a) (h0 : 0 ≤ c) (h1 : c < a.1 4) (hfs : (a.2.1 c).2.2 = f :: fs) (hst : pr_st (pe_I σ (B + 7)) (pe_I σ (B + 8)) n w') (hwk : pr_wk c w w') (hfin : ∀ h, (w h).1 = -1 → w' h = w h) (hown : ∀ h, 6 * c ≤ (w h).1 → (w h).1 < 6 * c + fs.length → w' h = w h) : pk_RMx B T (pe_wI σ (pk_c B c) 9 (fs.length : Int)) w' n (pa_cw a c ((a.2.1 c).1, (a.2.1 c).2.1, fs)) := by
  have h8 : c < 8 := by have := hw9.1; omega
  have hl := hw9.2 c h0 h1
  obtain ⟨b1, b2, b3, b4⟩ := hR.co h0 h1
  rw [hfs] at b4 hl
  rw [List.length_cons] at hl
  have hfr : pk_frI (pk_Zc B c) σ (pe_wI σ (pk_c B c) 9 (fs.length : Int)) := pk_frI_wI pk_r_Zc
  have e : ∀ x, x ≠ pk_c B c → ∀ k, pe_I (pe_wI σ (pk_c B c) 9 (fs.length : Int)) x k = pe_I σ x k := fun x hx k => pe_I_ner hx
  refine pk_RMx_co hR hw9 h0 h1 hfr (Int.le_refl _) rfl ?_ hwk ⟨pk_RCn_89 (Or.inr rfl) (hR.Tr h0 h8) b1, pe_I_same, pk_RCe_keep (pe_I_nej (by decide)) (Int.le_refl _) hfin b3, ?_⟩
  · rw [funext (e (B + 7) (by unfold pk_c; omega)), funext (e (B + 8) (by unfold pk_c; omega))]; exact hst
  · refine pk_RFs_keep (m := fs.length) (fun i hi k => ⟨e _ pk_f_ne k, rfl⟩) (fun P p q => pk_RPr_fr hfr.1 (hR.Tc h0 h8) q) _ _ _ (Nat.le_refl _) ?_ hown b4.2
    obtain ⟨⟨-, -, b6⟩, -⟩ := b4
    unfold pr_nb
    rcases b6 with ⟨q, -⟩ | ⟨q, -⟩ | ⟨q, q2, -⟩ <;> split <;> omega
/-- endTop -/
theorem k38 (hR : pk_RMx B T σ w n a) (hw9 : pa_wf9 a) (h0 : 0 ≤ c) (h1 : c < a.1 4) (hn : n ≤ 512) (hwf : pa_wfc (a.2.1 c)) (h3 : (a.2.1 c).1 2 < 3) (k : ∀ σ' w', pk_frI (pk_Zc B c) σ σ' → pk_RMx B T σ' w' n (pa_cw a c (pa_endTop (a.2.1 c))) → Φ none σ') : pe_M (d + 2) 38 [.inr (.inr B), .inr (.inr (pk_c B c))] σ Φ := by
  have h8 : c < 8 := by have := hw9.1; omega
  have hF := hR.F
  have ho := pk_mO hF h0 h8
  have he := pa_wfc_e hwf (by omega)
  have hne : (a.2.1 c).2.2 ≠ [] := fun q => by have := hwf.2.2.2.1.mpr q; omega
  obtain ⟨f, fs, hfs⟩ := List.exists_cons_of_ne_nil hne
  obtain ⟨b1, b2, b3, b4⟩ := hR.co h0 h1
  have hl := hw9.2 c h0 h1
  have hff := hwf.2.2.1
  rw [hfs] at b2 b4 hl hff
  rw [List.length_cons] at b2 hl
  have hd : pe_I σ (pk_c B c) 9 - 1 = (fs.length : Int) := by omega
  obtain ⟨⟨b5, b6, b7⟩, b8⟩ := b4
  have hin : -2147483648 ≤ pe_I σ (pk_f (pk_c B c) (fs.length : Int)) 5 ∧ pe_I σ (pk_f (pk_c B c) (fs.length : Int)) 5 < 2147483648 := by
    rcases b7 with ⟨q, -⟩ | ⟨q, -⟩ | ⟨q, q2, -⟩ <;> omega
  have hfs2 : ∀ g ∈ fs, pa_wff g := fun g hg => hff g (List.mem_cons_of_mem _ hg)
  have hend : ∀ h v, pe_I σ (pk_f (pk_c B c) (fs.length : Int)) 5 = h → f.2.2 = v → pr_hl w (6 * c + fs.length) h n v := fun h v e1 e2 => by rw [← e1, ← e2]; exact b7
  have hpop := fun w' => pk_RMx_pop (w' := w') hR hw9 h0 h1 hfs
  have hw9' : pa_wf9 (pa_cw a c ((a.2.1 c).1, (a.2.1 c).2.1, fs)) := pa_wf9_cw hw9 (by show fs.length ≤ 6; omega)
  have hz : pk_frI (pk_Zc B c) σ (pe_wI σ (pk_c B c) 9 (fs.length : Int)) := pk_frI_wI pk_r_Zc
  refine pe_M_of ck38 (Nat.le_of_ble_eq_true rfl) ?_
  refine b38_0 (w1 := by rw [hd]; unfold pe_in; omega) (k1 := fun q => ?_) (k2 := fun q => ?_)
  · rw [hd] at q ⊢
    have hF' : pk_Fm B (pe_wI σ (pk_c B c) 9 (fs.length : Int)) := pk_Fm_frI hz hF
    have ho' : pk_Fo (pk_c B c) (pe_wI σ (pk_c B c) 9 (fs.length : Int)) := pk_Fo_frI hz ho
    refine b38_37 (k1 := fun q2 => ?_) (k2 := fun q2 => ?_)
    · have hv : f.2.2 = none := by
        rcases b7 with ⟨-, q⟩ | ⟨q, -⟩ | ⟨q, -⟩
        · exact q
        · omega
        · omega
      have g := hpop w hR.st (pr_wk_refl c w) (fun _ _ => rfl) (fun _ _ _ => rfl)
      have h9 : pe_I (pe_wI σ (pk_c B c) 9 (fs.length : Int)) (pk_c B c) 9 = fs.length := pe_I_same
      refine b38_50 (k1 := fun q3 => ?_) (k2 := fun q3 => ?_)
      · refine b38_63 (k := ?_)
        refine k _ w hz ?_
        have : pa_endTop (a.2.1 c) = ((a.2.1 c).1, (a.2.1 c).2.1, fs) := by
          cases fs with
          | nil => exact absurd h9 q3
          | cons x l => unfold pa_endTop; rw [hfs]; simp only [hv]
        rw [this]; exact g
      · refine b38_57 (k := ?_)
        have g2 := pk_RMx_set' (j := 2) (v := 6) (by decide) g hw9' h0 h1
        refine b38_63 (k := ?_)
        refine k _ w (pk_frI_then hz pk_r_Zc) ?_
        have : pa_endTop (a.2.1 c) = (pa_s (a.2.1 c).1 2 6, (a.2.1 c).2.1, fs) := by
          cases fs with
          | nil => unfold pa_endTop; rw [hfs]; simp only [hv]
          | cons x l =>
            rw [h9, List.length_cons] at q3
            omega
        rw [this]; exact g2
    · obtain ⟨g0, g1, g2, g3, g4⟩ : 0 ≤ pe_I σ (pk_f (pk_c B c) (fs.length : Int)) 5 ∧ pe_I σ (pk_f (pk_c B c) (fs.length : Int)) 5 < n ∧ (w (pe_I σ (pk_f (pk_c B c) (fs.length : Int)) 5)).1 = 6 * c + fs.length ∧ f.2.2 = some (w (pe_I σ (pk_f (pk_c B c) (fs.length : Int)) 5)).2 ∧ (w (pe_I σ (pk_f (pk_c B c) (fs.length : Int)) 5)).2 ≠ [] := by
        rcases b7 with ⟨q, -⟩ | ⟨q, -⟩ | q
        · omega
        · omega
        · exact q
      generalize hg : pe_I σ (pk_f (pk_c B c) (fs.length : Int)) 5 = g at *
      have hown : ∀ h, 6 * c ≤ (w h).1 → (w h).1 < 6 * c + fs.length → pr_w w g (-2) (w g).2 h = w h := fun h h1 h2 => pr_wn (fun e => by subst e; omega)
      have gR := hpop (pr_w w g (-2) (w g).2) (pr_st_own hR.st (by omega)) (pr_wk_own (pr_wk_refl c w) (Or.inr (by omega)) _) (fun h hh => pr_wn (fun e => by subst e; omega)) hown
      refine b38_41 (k := ?_)
      have hnb : pr_nb g n = g := if_pos g0
      refine k40 gR hw9' h0 h1 hn g0 g1 (by rw [pr_ws]) (by rw [pa_cw_same]; exact hfs2) (by rw [pa_cw_same]; exact he) ?_ (fun σ' w' k1 k2 k3 => ?_)
      · rw [pa_cw_same]
        show pk_RFs T _ _ _ _ fs g
        refine pk_RFs_keep (m := fs.length) (fun i hi j => ⟨pe_I_ner pk_f_ne, rfl⟩) (fun P p q => pk_RPr_fr hz.1 (hR.Tc h0 h8) q) _ _ _ (Nat.le_refl _) (Int.le_refl _) hown ?_
        rw [hnb] at b8
        exact b8
      · refine b38_47 (k := ?_)
        refine b38_63 (k := ?_)
        refine k σ' w' (pk_frI_trans hz k1) ?_
        rw [pa_cw_same, pa_cw_cw, pr_ws] at k3
        have : pa_endTop (a.2.1 c) = pa_throw ((a.2.1 c).1, (a.2.1 c).2.1, fs) (w g).2 := by
          unfold pa_endTop
          rw [hfs]
          cases hw0 : (w g).2 with
          | nil => exact absurd hw0 g4
          | cons x l => rw [hw0] at g3; simp only [g3]; rfl
        rw [this]; exact k3
  · rw [hd] at q ⊢
    have hv : f.2.2 = some [] := by
      rcases b7 with ⟨q, -⟩ | ⟨-, q⟩ | ⟨q, -⟩
      · omega
      · exact q
      · omega
    have g := hpop w hR.st (pr_wk_refl c w) (fun _ _ => rfl) (fun _ _ _ => rfl)
    have ho' : pk_Fo (pk_c B c) (pe_wI σ (pk_c B c) 9 (fs.length : Int)) := pk_Fo_frI hz ho
    refine b38_30 (k := ?_)
    refine k10 g hw9' h0 h1 hn (by rw [pa_cw_same]; exact hfs2) (by rw [pa_cw_same]; exact he) (fun σ' k1 k2 => ?_)
    refine b38_34 (k := ?_)
    refine b38_63 (k := ?_)
    refine k σ' w (pk_frI_trans hz k1) ?_
    rw [pa_cw_same, pa_cw_cw] at k2
    have : pa_endTop (a.2.1 c) = pa_close ((a.2.1 c).1, (a.2.1 c).2.1, fs) := by
      unfold pa_endTop
      rw [hfs]; simp only [hv]; rfl
    rw [this]; exact k2
end

