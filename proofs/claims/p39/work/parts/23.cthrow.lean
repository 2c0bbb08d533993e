/-! THE CLASS: throwing, closing, ending a frame -/
theorem pe_I_w {σ : pe_H} {r a : Nat} {j k x : Int} : pe_I (pe_wI σ r j x) a k = if a = r ∧ k = j then x else pe_I σ a k := rfl
theorem pe_R_w {σ : pe_H} {r a x : Nat} {j k : Int} : pe_R (pe_wR σ r j x) a k = if a = r ∧ k = j then x else pe_R σ a k := rfl
theorem pk_f_ne {r i : Nat} : pk_f r (i : Int) ≠ r := by unfold pk_f; omega
theorem pk_f_ne1 {r i : Nat} : pk_f r (i : Int) ≠ r + 1 := by unfold pk_f; omega
theorem pk_f_inj {r i j : Nat} (h : i ≠ j) : pk_f r (i : Int) ≠ pk_f r (j : Int) := by unfold pk_f; omega
theorem pk_f_Zc {B i : Nat} {c : Int} (h : i < 6) : pk_Zc B c (pk_f (pk_c B c) (i : Int)) := by unfold pk_Zc pk_f; omega
theorem pk_r_Zc {B : Nat} {c : Int} : pk_Zc B c (pk_c B c) := by unfold pk_Zc; omega
theorem pk_7_Zc {B : Nat} {c : Int} : ¬ pk_Zc B c (B + 7) := by unfold pk_Zc pk_c; omega
/-- a frame catches -/
theorem pk_catch {T : Nat → Prop} {σ : pe_H} {w w' : Int → Int × List Int} {r : Nat} {own ub n h : Int} {f : pa_F} {fs : List pa_F} {l : List Int} (hl : fs.length ≤ 5) (hf : pk_RFs T σ w r own (f :: fs) ub) (hT : ∀ x, T x → x ≠ pk_f r (fs.length : Int)) (hw : ∀ x, own ≤ (w x).1 → (w x).1 < own + fs.length → w' x = w x) (hh : pr_hl w' (own + fs.length) h n (some l)) (hu : pr_nb (pe_I σ (pk_f r (fs.length : Int)) 5) ub ≤ pr_nb h n) :
    pk_RFs T (pe_wI (pe_wI (pe_wI σ (pk_f r (fs.length : Int)) 5 h) (pk_f r (fs.length : Int)) 4 1) (pk_f r (fs.length : Int)) 2 (pe_I σ (pe_R σ (pk_f r (fs.length : Int)) 0) 1 + 1)) w' r own (pa_catch f l :: fs) n := by
  obtain ⟨⟨⟨b1, b2, b3, b4⟩, b5, b6⟩, b7⟩ := hf
  have hfr : pk_frI (fun x => x = pk_f r (fs.length : Int)) σ (pe_wI (pe_wI (pe_wI σ (pk_f r (fs.length : Int)) 5 h) (pk_f r (fs.length : Int)) 4 1) (pk_f r (fs.length : Int)) 2 (pe_I σ (pe_R σ (pk_f r (fs.length : Int)) 0) 1 + 1)) := pk_frI_then (pk_frI_then (pk_frI_wI rfl) rfl) rfl
  refine ⟨⟨⟨?_, ?_, ?_, ?_⟩, ?_, ?_⟩, ?_⟩
  · simp [pe_I_w, pa_catch, pa_s, b1]
  · simp [pe_I_w, pa_catch, pa_s]
    exact b5.2.2.1
  · simp [pe_I_w, pa_catch, pa_s, b3]
  · simp [pe_I_w, pa_catch, pa_s]
  · exact pk_RPr_fr hfr.1 (fun a ha => hT a ha) b5
  · simp only [pe_I_w]
    simp
    exact hh
  · simp only [pe_I_w]
    simp
    refine pk_RFs_keep (m := fs.length) (fun i hi j => ?_) (fun P p q => pk_RPr_fr hfr.1 (fun a ha => hT a ha) q) _ _ _ (Nat.le_refl _) hu (fun x h1 h2 => hw x h1 h2) b7
    exact hfr.1.2 _ (pk_f_inj (by omega)) j
theorem pk_RPr_K {T : Nat → Prop} {σ : pe_H} {P : Nat} {p : pa_P} (h : pk_RPr T σ P p) : pe_K σ P = 4 := h.2.1
/-- the frames below one that goes -/
theorem pk_RFs_pop {T : Nat → Prop} {σ σ' : pe_H} {w w' : Int → Int × List Int} {B : Nat} {c n ub : Int} {f : pa_F} {fs : List pa_F} (hfr : pk_frI (fun x => x = pk_c B c ∨ x = B + 8) σ σ') (hT : ∀ x, T x → ¬ pk_Zc B c x) (h : pk_RFs T σ w (pk_c B c) (6 * c) (f :: fs) ub) (hn : pr_nb (pe_I σ (pk_f (pk_c B c) (fs.length : Int)) 5) ub ≤ n) (hw : ∀ x, 6 * c ≤ (w x).1 → (w x).1 < 6 * c + fs.length → w' x = w x) : pk_RFs T σ' w' (pk_c B c) (6 * c) fs n := by
  refine pk_RFs_keep (m := fs.length) (fun i hi j => hfr.1.2 _ ?_ j) (fun P p q => pk_RPr_fr hfr.1 (fun a ha q => hT a ha ?_) q) _ _ _ (Nat.le_refl _) hn hw h.2
  · unfold pk_f pk_c; omega
  · rcases q with q | q
    · rw [q]; exact pk_r_Zc
    · exact Or.inr q
theorem k40_loop {d B : Nat} {Φ : Option pe_V → pe_H → Prop} {T : Nat → Prop} {c n φ : Int} {nu : Nat → Int} (hT : ∀ x, T x → ¬ pk_Z B x) (h0 : 0 ≤ c) (h8 : c < 8) (hφ0 : 0 ≤ φ) (hφn : φ < n) (hn : n ≤ 512) : ∀ (fs : List pa_F) (σ : pe_H) (w : Int → Int × List Int) (o3 : Option pe_V), pk_Fm B σ → pk_RCn T σ (pk_c B c) nu → pe_I σ (pk_c B c) 9 = fs.length → pr_st (pe_I σ (B + 7)) (pe_I σ (B + 8)) n w → (w φ).1 = -2 → pk_RFs T σ w (pk_c B c) (6 * c) fs φ → fs.length ≤ 6 → (∀ f ∈ fs, pa_wff f) → pe_I σ (pk_c B c) 8 = -1 →
    (∀ σ' w', pk_frI (pk_Zc B c) σ σ' → pr_st (pe_I σ' (B + 7)) (pe_I σ' (B + 8)) n w' → pr_wk c w w' → pk_RCo T σ' w' (pk_c B c) (6 * c) n (pa_throwF nu [] fs (w φ).2) → Φ none σ') →
    pe_X d 40 (0, [some (.inr (.inr B)), some (.inr (.inr (pk_c B c))), some (.inl φ), o3], [], σ) Φ
  | [], σ, w, o3, hF, hN, hD, hS, hwφ, hFs, hl, hwf, hE, hk => by
    have ho := pk_mO hF h0 h8
    rw [List.length_nil] at hD
    refine b40_0 (k1 := fun _ => ?_) (k2 := fun q => by omega)
    refine b40_104 (k := ?_)
    have hfr : pk_frI (pk_Zc B c) σ (pe_wI (pe_wI σ (pk_c B c) 2 7) (pk_c B c) 8 φ) := pk_frI_then (pk_frI_wI pk_r_Zc) pk_r_Zc
    have e8 : ∀ j, pe_I (pe_wI (pe_wI σ (pk_c B c) 2 7) (pk_c B c) 8 φ) (B + 8) j = pe_I σ (B + 8) j := fun j => by
      rw [pe_I_ner (by unfold pk_c; omega), pe_I_ner (by unfold pk_c; omega)]
    refine hk _ (pr_w w φ (-1) (w φ).2) hfr ?_ (pr_wk_own (pr_wk_refl c w) (Or.inl hwφ) _) ⟨?_, ?_, ?_, trivial⟩
    · rw [funext fun j => (hfr.1.2 (B + 7) pk_7_Zc j).1, funext e8]
      exact pr_st_own hS (by omega)
    · obtain ⟨⟨a0, a2, a3, a4, a5, a6, a7⟩, b1, b2, b3, b4⟩ := hN
      refine ⟨⟨?_, ?_, ?_, ?_, ?_, ?_, ?_⟩, b1, b2, ?_, ?_⟩ <;> simp [pe_I_w, pa_throwF, pa_s] <;> assumption
    · simp [pe_I_w, pa_throwF, hD]
    · right
      have := pr_st_ne hS hφ0 hφn
      refine ⟨this, ?_⟩
      simp [pe_I_w, pr_ws, pa_throwF, hφ0, hφn]
  | f :: fs, σ, w, o3, hF, hN, hD, hS, hwφ, hFs, hl, hwf, hE, hk => by
    have ho := pk_mO hF h0 h8
    have hTc : ∀ x, T x → ¬ pk_Zc B c x := fun x hx q => hT x hx (pk_Zc_Z h0 h8 x q)
    rw [List.length_cons] at hD hl
    have hd : pe_I σ (pk_c B c) 9 - 1 = (fs.length : Int) := by omega
    have hFs' := hFs
    obtain ⟨⟨⟨b1, b2, b3, b4⟩, b5, b6⟩, b7⟩ := hFs
    have hf := hwf f List.mem_cons_self
    have hfin := pa_fin_b f.2.1
    have hw4 := hf.2.2.2.1
    have hw2 := hf.2.1
    have hl16 := hf.2.2.2.2.1.1
    have hKf := pk_oEK ho (i := (fs.length : Int)) (by omega) (by omega)
    have hKP := pk_RPr_K b5
    have hfi := b5.2.2.1
    -- it goes
    have hpop : ¬ (f.1 4 = 0 ∧ f.1 2 ≤ pa_fin f.2.1) → pe_X d 40 (64, [some (.inr (.inr B)), some (.inr (.inr (pk_c B c))), some (.inl φ), some (.inr (.inr (pk_f (pk_c B c) (fs.length : Int))))], [], σ) Φ := fun hno => by
      have ha : pa_throwF nu [] (f :: fs) (w φ).2 = pa_throwF nu [] fs (pa_add (w φ).2 f.2.2) := by
        rw [pa_throwF, if_neg hno]
      rw [ha] at hk
      have e1 := pr_st_one hS hφ0 hφn
      have hh5 : pe_in (pe_I σ (pk_f (pk_c B c) (fs.length : Int)) 5) := by
        unfold pe_in
        rcases b6 with ⟨q, -⟩ | ⟨q, -⟩ | ⟨q, q2, -⟩ <;> omega
      unfold pe_in at hh5
      -- without a cause taken over
      have hout : pa_add (w φ).2 f.2.2 = (w φ).2 → pe_X d 40 (91, [some (.inr (.inr B)), some (.inr (.inr (pk_c B c))), some (.inl φ), some (.inr (.inr (pk_f (pk_c B c) (fs.length : Int))))], [], σ) Φ := fun he => by
        rw [he] at hk
        refine b40_91 (k := ?_)
        rw [hd]
        have hfr : pk_frI (fun x => x = pk_c B c ∨ x = B + 8) σ (pe_wI σ (pk_c B c) 9 (fs.length : Int)) := pk_frI_wI (Or.inl rfl)
        have hfr2 : pk_frI (pk_Zc B c) σ (pe_wI σ (pk_c B c) 9 (fs.length : Int)) := pk_frI_wI pk_r_Zc
        have e8 : ∀ j, pe_I (pe_wI σ (pk_c B c) 9 (fs.length : Int)) (B + 8) j = pe_I σ (B + 8) j := fun j => pe_I_ner (by unfold pk_c; omega)
        have e7 : ∀ j, pe_I (pe_wI σ (pk_c B c) 9 (fs.length : Int)) (B + 7) j = pe_I σ (B + 7) j := fun j => pe_I_ner (by unfold pk_c; omega)
        refine k40_loop hT h0 h8 hφ0 hφn hn fs _ w _ (pk_Fm_frI hfr hF) ?_ pe_I_same ?_ hwφ (pk_RFs_pop hfr hTc hFs' ?_ (fun _ _ _ => rfl)) (by omega) (fun g hg => hwf g (List.mem_cons_of_mem _ hg)) (by rw [pe_I_nej (by decide)]; exact hE) (fun σ' w' k1 k2 k3 k4 => hk σ' w' (pk_frI_trans hfr2 k1) k2 k3 k4)
        · obtain ⟨⟨a0, a2, a3, a4, a5, a6, a7⟩, c1, c2, c3, c4⟩ := hN
          refine ⟨⟨?_, ?_, ?_, ?_, ?_, ?_, ?_⟩, c1, c2, ?_, ?_⟩ <;> simp [pe_I_w] <;> assumption
        · rw [funext e7, funext e8]; exact hS
        · unfold pr_nb
          rcases b6 with ⟨q, -⟩ | ⟨q, -⟩ | ⟨q, q2, -⟩ <;> split <;> omega
      refine b40_64 (k1 := fun q => ?_) (k2 := fun q => ?_)
      · refine hout ?_
        rcases b6 with ⟨-, q2⟩ | ⟨-, q2⟩ | ⟨q1, -⟩
        · rw [q2]; rfl
        · rw [q2]; rfl
        · omega
      · obtain ⟨g1, g2, g3, g4, g5⟩ : 0 ≤ pe_I σ (pk_f (pk_c B c) (fs.length : Int)) 5 ∧ pe_I σ (pk_f (pk_c B c) (fs.length : Int)) 5 < φ ∧ (w (pe_I σ (pk_f (pk_c B c) (fs.length : Int)) 5)).1 = 6 * c + fs.length ∧ f.2.2 = some (w (pe_I σ (pk_f (pk_c B c) (fs.length : Int)) 5)).2 ∧ (w (pe_I σ (pk_f (pk_c B c) (fs.length : Int)) 5)).2 ≠ [] := by
          rcases b6 with ⟨q1, -⟩ | ⟨q1, -⟩ | q
          · omega
          · omega
          · exact q
        have hcs : pe_in (pe_I σ (B + 8) φ) := by
          unfold pe_in
          rcases hS.2 φ hφ0 hφn with ⟨q, -⟩ | ⟨q, q2, -⟩ <;> omega
        unfold pe_in at hcs
        refine b40_71 (k1 := fun qc => ?_) (k2 := fun qc => ?_)
        · refine hout ?_
          rw [g4]
          cases hw0 : (w (pe_I σ (pk_f (pk_c B c) (fs.length : Int)) 5)).2 with
          | nil => exact absurd hw0 g5
          | cons x l =>
            show (if _ then _ else _) = _
            rw [if_neg (fun e => qc (e1.mpr e))]
        · generalize hg : pe_I σ (pk_f (pk_c B c) (fs.length : Int)) 5 = g at *
          refine b40_81 (k := ?_)
          refine b40_91 (k := ?_)
          rw [hg, pe_I_ner (show pk_c B c ≠ B + 8 by unfold pk_c; omega), hd]
          have hfr : pk_frI (fun x => x = pk_c B c ∨ x = B + 8) σ (pe_wI (pe_wI σ (B + 8) φ g) (pk_c B c) 9 (fs.length : Int)) := pk_frI_then (pk_frI_wI (Or.inr rfl)) (Or.inl rfl)
          have hfr2 : pk_frI (pk_Zc B c) σ (pe_wI (pe_wI σ (B + 8) φ g) (pk_c B c) 9 (fs.length : Int)) := pk_frI_then (pk_frI_wI (Or.inr rfl)) pk_r_Zc
          have e7 : ∀ j, pe_I (pe_wI (pe_wI σ (B + 8) φ g) (pk_c B c) 9 (fs.length : Int)) (B + 7) j = pe_I σ (B + 7) j := fun j => (hfr2.1.2 (B + 7) pk_7_Zc j).1
          have e8 : ∀ j, pe_I (pe_wI (pe_wI σ (B + 8) φ g) (pk_c B c) 9 (fs.length : Int)) (B + 8) j = if j = φ then g else pe_I σ (B + 8) j := fun j => by
            rw [pe_I_ner (by unfold pk_c; omega), pe_I_w]
            simp
          have hadd : pa_add (w φ).2 f.2.2 = (w φ).2 ++ (w g).2 := by
            rw [g4]
            cases hw0 : (w g).2 with
            | nil => exact absurd hw0 g5
            | cons x l =>
              show (if _ then _ else _) = _
              rw [if_pos (e1.mp qc)]
          rw [hadd] at hk
          have hφg : φ ≠ g := by omega
          refine k40_loop hT h0 h8 hφ0 hφn hn fs _ (pr_w (pr_w w g (-1) (w g).2) φ (-2) ((w φ).2 ++ (w g).2)) _ (pk_Fm_frI hfr hF) ?_ pe_I_same ?_ (by rw [pr_ws]) (pk_RFs_pop hfr hTc hFs' ?_ (fun x h1 h2 => ?_)) (by omega) (fun g hg => hwf g (List.mem_cons_of_mem _ hg)) (by rw [pe_I_nej (by decide), pe_I_ner (by unfold pk_c; omega)]; exact hE) (fun σ' w' k1 k2 k3 k4 => hk σ' w' (pk_frI_trans hfr2 k1) k2 ?_ (by rw [pr_ws] at k4; exact k4))
          · obtain ⟨⟨a0, a2, a3, a4, a5, a6, a7⟩, c1, c2, c3, c4⟩ := hN
            have e0 : ∀ j, pe_I (pe_wI σ (B + 8) φ g) (pk_c B c) j = pe_I σ (pk_c B c) j := fun j => pe_I_ner (by unfold pk_c; omega)
            have eT : pe_R σ (pk_c B c) 1 ≠ B + 8 := fun e => hTc _ c1 (by rw [e]; exact Or.inr rfl)
            have eT2 : pe_R σ (pk_c B c) 1 ≠ pk_c B c := fun e => hTc _ c1 (by rw [e]; exact pk_r_Zc)
            refine ⟨⟨?_, ?_, ?_, ?_, ?_, ?_, ?_⟩, c1, c2, ?_, ?_⟩
            · rw [pe_I_nej (by decide), e0]; exact a0
            · rw [pe_I_nej (by decide), e0]; exact a2
            · rw [pe_I_nej (by decide), e0]; exact a3
            · rw [pe_I_nej (by decide), e0]; exact a4
            · rw [pe_I_nej (by decide), e0]; exact a5
            · rw [pe_I_nej (by decide), e0]; exact a6
            · rw [pe_I_nej (by decide), e0]; exact a7
            · exact ((pe_I_ner eT2).trans (pe_I_ner eT)).trans c3
            · exact ((pe_I_ner eT2).trans (pe_I_ner eT)).trans c4
          · rw [funext e7]
            exact pr_st_link hS hφ0 hφn hwφ qc g1 g2 (by omega) (fun i _ _ hi => by rw [e8, if_neg hi]) (by rw [e8, if_pos rfl])
          · rw [hg]; unfold pr_nb; rw [if_pos g1]; omega
          · rw [pr_wn (fun e => by subst e; omega), pr_wn (fun e => by subst e; omega)]
          · exact pr_wk_trans (pr_wk_own (pr_wk_own (pr_wk_refl c w) (Or.inr (by omega)) _) (Or.inl hwφ) _) k3
    refine b40_0 (k1 := fun q => by omega) (k2 := fun _ => ?_)
    refine b40_7 (w1 := by rw [hd]; unfold pe_in; omega) (k1 := fun q => ?_) (k2 := fun q => ?_)
    · rw [hd] at q ⊢
      exact hpop (fun e => q (by omega))
    · rw [hd] at q ⊢
      refine b40_26 (w0 := by unfold pe_in; omega) (w1 := by unfold pe_in; omega) (k1 := fun q2 => ?_) (k2 := fun q2 => ?_)
      · exact hpop (fun e => by omega)
      · refine b40_40 (k := ?_)
        have hcan : f.1 4 = 0 ∧ f.1 2 ≤ pa_fin f.2.1 := by omega
        have hne := pr_st_ne hS hφ0 hφn
        have hfz := pk_f_Zc (B := B) (c := c) (i := fs.length) (by omega)
        refine hk _ (pr_w w φ (6 * c + fs.length) (w φ).2) (pk_frI_then (pk_frI_then (pk_frI_wI hfz) hfz) hfz) ?_ (pr_wk_own (pr_wk_refl c w) (Or.inl hwφ) _) ?_
        · have e7 : ∀ a, a ≠ pk_f (pk_c B c) (fs.length : Int) → ∀ j, pe_I (pe_wI (pe_wI (pe_wI σ (pk_f (pk_c B c) (fs.length : Int)) 5 φ) (pk_f (pk_c B c) (fs.length : Int)) 4 1) (pk_f (pk_c B c) (fs.length : Int)) 2 (pe_I σ (pe_R σ (pk_f (pk_c B c) (fs.length : Int)) 0) 1 + 1)) a j = pe_I σ a j := fun a ha j => by
            rw [pe_I_ner ha, pe_I_ner ha, pe_I_ner ha]
          rw [funext (e7 (B + 7) (by unfold pk_f pk_c; omega)), funext (e7 (B + 8) (by unfold pk_f pk_c; omega))]
          exact pr_st_own hS (by omega)
        · rw [show pa_throwF nu [] (f :: fs) (w φ).2 = (nu, [], pa_catch f (w φ).2 :: fs) by rw [pa_throwF, if_pos hcan]]
          refine ⟨?_, ?_, Or.inl ⟨rfl, ?_⟩, pk_catch (by omega) hFs' (fun x hx e => hTc x hx (by rw [e]; exact hfz)) (fun x h1 h2 => pr_wn (fun e => by subst e; omega)) (Or.inr (Or.inr ⟨hφ0, hφn, by rw [pr_ws], by rw [pr_ws], by rw [pr_ws]; exact hne⟩)) ?_⟩
          · have hne2 : pk_c B c ≠ pk_f (pk_c B c) (fs.length : Int) := fun e => pk_f_ne e.symm
            obtain ⟨⟨a0, a2, a3, a4, a5, a6, a7⟩, c1, c2, c3, c4⟩ := hN
            have eT : pe_R σ (pk_c B c) 1 ≠ pk_f (pk_c B c) (fs.length : Int) := fun e => hTc _ c1 (by rw [e]; exact hfz)
            refine ⟨⟨?_, ?_, ?_, ?_, ?_, ?_, ?_⟩, c1, c2, ?_, ?_⟩
            · rw [pe_I_ner hne2, pe_I_ner hne2, pe_I_ner hne2]; exact a0
            · rw [pe_I_ner hne2, pe_I_ner hne2, pe_I_ner hne2]; exact a2
            · rw [pe_I_ner hne2, pe_I_ner hne2, pe_I_ner hne2]; exact a3
            · rw [pe_I_ner hne2, pe_I_ner hne2, pe_I_ner hne2]; exact a4
            · rw [pe_I_ner hne2, pe_I_ner hne2, pe_I_ner hne2]; exact a5
            · rw [pe_I_ner hne2, pe_I_ner hne2, pe_I_ner hne2]; exact a6
            · rw [pe_I_ner hne2, pe_I_ner hne2, pe_I_ner hne2]; exact a7
            · exact ((pe_I_ner eT).trans ((pe_I_ner eT).trans (pe_I_ner eT))).trans c3
            · exact ((pe_I_ner eT).trans ((pe_I_ner eT).trans (pe_I_ner eT))).trans c4
          · have hne2 : pk_c B c ≠ pk_f (pk_c B c) (fs.length : Int) := fun e => pk_f_ne e.symm
            rw [pe_I_ner hne2, pe_I_ner hne2, pe_I_ner hne2, List.length_cons]; omega
          · have hne2 : pk_c B c ≠ pk_f (pk_c B c) (fs.length : Int) := fun e => pk_f_ne e.symm
            rw [pe_I_ner hne2, pe_I_ner hne2, pe_I_ner hne2]; exact hE
          · have : 0 ≤ φ := hφ0
            unfold pr_nb
            rcases b6 with ⟨q, -⟩ | ⟨q, -⟩ | ⟨q, q2, -⟩ <;> split <;> (try split) <;> omega

