/-! THE MODEL: throwsIt, closesIt, frameEnds -/
theorem pm_RCn_keep {y y' : Nat → Int → Int} {c : Int} {nu : Nat → Int} (h : ∀ k, 4 ≤ k → k ≤ 12 → y' k c = y k c) (hN : pm_RCn y c nu) : pm_RCn y' c nu := by
  unfold pm_RCn
  rw [h 4 (by decide) (by decide), h 7 (by decide) (by decide), h 8 (by decide) (by decide), h 9 (by decide) (by decide), h 10 (by decide) (by decide), h 11 (by decide) (by decide), h 5 (by decide) (by decide), h 6 (by decide) (by decide), h 12 (by decide) (by decide)]
  exact hN
theorem c149_loop {d M q : Nat} {Φ : Option pe_V → pe_H → Prop} {σ : pe_H} {c n φ : Int} {nu : Nat → Int} (hF : pm_F M σ) (h0 : 0 ≤ c) (h8 : c < 8) (hφ0 : 0 ≤ φ) (hφn : φ < n) (hn : n ≤ 512) (hnu : nu 2 < 3 ∨ 5 < nu 2) : ∀ (fs : List pa_F) (y : Nat → Int → Int) (w : Int → Int × List Int) (o3 o4 : Option pe_V), pm_RCn y c nu → y 14 c = fs.length → pr_st (y 23) (y 24) n w → (w φ).1 = -2 → pm_RFs y w (6 * c) fs φ → fs.length ≤ 6 → (∀ f ∈ fs, pa_wff f) →
    (∀ y' w', pm_fr (pm_Zc c) y y' → pr_st (y' 23) (y' 24) n w' → pr_wk c w w' → pm_RCo y' w' c n (pa_throwF nu [] fs (w φ).2) → Φ none (pm_h M σ q y')) →
    pe_X (d + 1) 149 (0, [some (.inr (.inr M)), some (.inl c), some (.inl φ), o3, o4], [], pm_h M σ q y) Φ
  | [], y, w, o3, o4, hN, hD, hS, hwφ, hFs, hl, hwf, hk => by
    rw [List.length_nil] at hD
    refine b149_0 hF (k1 := fun _ => ?_) (k2 := fun q => by omega)
    refine b149_98 hF (k := ?_)
    have hfr : pm_fr (pm_Zc c) y (pm_u (pm_u y 7 c 7) 13 c φ) := pm_fr_then (pm_fr_u (Or.inl (Or.inl ⟨by decide, by decide, rfl⟩))) (Or.inl (Or.inl ⟨by decide, by decide, rfl⟩))
    refine hk _ (pr_w w φ (-1) (w φ).2) hfr ?_ (pr_wk_own (pr_wk_refl c w) (Or.inl hwφ) _) ⟨⟨?_, ?_⟩, ?_, ?_, trivial⟩
    · rw [show (pm_u (pm_u y 7 c 7) 13 c φ) 23 = y 23 by funext j; simp [pm_u], show (pm_u (pm_u y 7 c 7) 13 c φ) 24 = y 24 by funext j; simp [pm_u]]
      exact pr_st_own hS (by omega)
    · obtain ⟨⟨a0, a2, a3, a4, a5, a6, a7, a8⟩, -⟩ := hN
      refine ⟨?_, ?_, ?_, ?_, ?_, ?_, ?_, ?_⟩ <;> simp [pm_u, pa_throwF, pa_s] <;> assumption
    · intro q1 q2
      simp [pa_throwF, pa_s] at q2
    · simp [pm_u, pa_throwF, hD]
    · right
      have := pr_st_ne hS hφ0 hφn
      refine ⟨this, ?_⟩
      simp [pm_u, pr_ws, pa_throwF, hφ0, hφn]
  | f :: fs, y, w, o3, o4, hN, hD, hS, hwφ, hFs, hl, hwf, hk => by
    rw [List.length_cons] at hD hl
    have hd : 6 * c + y 14 c - 1 = 6 * c + (fs.length : Int) := by omega
    have hFs' := hFs
    obtain ⟨⟨⟨b1, b2, b3, b4⟩, b5, b6⟩, b7⟩ := hFs
    have hf := hwf f List.mem_cons_self
    have hfin := pa_fin_b f.2.1
    have hw4 := hf.2.2.2.1
    have hw2 := hf.2.1
    have hl16 := hf.2.2.2.2.1.1
    have hf2 : ∀ g ∈ fs, pa_wff g := fun g hg => hwf g (List.mem_cons_of_mem _ hg)
    have hpop : ¬ (f.1 4 = 0 ∧ f.1 2 ≤ pa_fin f.2.1) → ∀ o4, pe_X (d + 1) 149 (52, [some (.inr (.inr M)), some (.inl c), some (.inl φ), some (.inl (6 * c + (fs.length : Int))), o4], [], pm_h M σ q y) Φ := fun hno o4 => by
      have ha : pa_throwF nu [] (f :: fs) (w φ).2 = pa_throwF nu [] fs (pa_add (w φ).2 f.2.2) := by
        rw [pa_throwF, if_neg hno]
      rw [ha] at hk
      have e1 := pr_st_one hS hφ0 hφn
      have hh5 : -2147483648 ≤ y 20 (6 * c + (fs.length : Int)) ∧ y 20 (6 * c + (fs.length : Int)) < 2147483648 := by
        rcases b6 with ⟨q, -⟩ | ⟨q, -⟩ | ⟨q, q2, -⟩ <;> omega
      have hout : pa_add (w φ).2 f.2.2 = (w φ).2 → pe_X (d + 1) 149 (85, [some (.inr (.inr M)), some (.inl c), some (.inl φ), some (.inl (6 * c + (fs.length : Int))), o4], [], pm_h M σ q y) Φ := fun he => by
        rw [he] at hk
        refine b149_85 hF (k := ?_)
        rw [show y 14 c - 1 = (fs.length : Int) by omega]
        have hfr : pm_fr (fun k _ => k = 14 ∨ k = 24) y (pm_u y 14 c (fs.length : Int)) := pm_fr_u (Or.inl rfl)
        have hfr2 : pm_fr (pm_Zc c) y (pm_u y 14 c (fs.length : Int)) := pm_fr_u (Or.inl (Or.inl ⟨by decide, by decide, rfl⟩))
        have e2 : ∀ k, k ≠ 14 → (pm_u y 14 c (fs.length : Int)) k = y k := fun k hk => by funext j; simp [pm_u, hk]
        refine c149_loop hF h0 h8 hφ0 hφn hn hnu fs _ w _ _ (pm_RCn_keep (fun k k1 k2 => by rw [e2 k (by omega)]) hN) (by simp [pm_u]) (by rw [e2 23 (by decide), e2 24 (by decide)]; exact hS) hwφ (pm_RFs_pop hfr hFs' hf2 ?_ (fun _ _ _ => rfl)) (by omega) hf2 (fun y' w' k1 k2 k3 k4 => hk y' w' (pm_fr_trans hfr2 k1) k2 k3 k4)
        unfold pr_nb
        rcases b6 with ⟨q, -⟩ | ⟨q, -⟩ | ⟨q, q2, -⟩ <;> split <;> omega
      refine b149_52 hF (k1 := fun q => ?_) (k2 := fun q => ?_)
      · refine hout ?_
        rcases b6 with ⟨-, q2⟩ | ⟨-, q2⟩ | ⟨q1, -⟩
        · rw [q2]; rfl
        · rw [q2]; rfl
        · omega
      · obtain ⟨g1, g2, g3, g4, g5⟩ : 0 ≤ y 20 (6 * c + (fs.length : Int)) - 2 ∧ y 20 (6 * c + (fs.length : Int)) - 2 < φ ∧ (w (y 20 (6 * c + (fs.length : Int)) - 2)).1 = 6 * c + fs.length ∧ f.2.2 = some (w (y 20 (6 * c + (fs.length : Int)) - 2)).2 ∧ (w (y 20 (6 * c + (fs.length : Int)) - 2)).2 ≠ [] := by
          rcases b6 with ⟨q1, -⟩ | ⟨q1, -⟩ | q
          · omega
          · omega
          · exact q
        have hcs : -2147483648 ≤ y 24 φ ∧ y 24 φ < 2147483648 := by
          rcases hS.2 φ hφ0 hφn with ⟨q, -⟩ | ⟨q, q2, -⟩ <;> omega
        have hcs2 : y 24 φ = -1 ∨ 0 ≤ y 24 φ := by
          rcases hS.2 φ hφ0 hφn with ⟨q, -⟩ | ⟨q, q2, -⟩
          · exact Or.inl q
          · exact Or.inr q
        refine b149_62 hF (k1 := fun qc => ?_) (k2 := fun qc => ?_)
        · refine hout ?_
          rw [g4]
          cases hw0 : (w (y 20 (6 * c + (fs.length : Int)) - 2)).2 with
          | nil => exact absurd hw0 g5
          | cons x l =>
            show (if _ then _ else _) = _
            rw [if_neg (fun e => by have := e1.mpr e; omega)]
        · generalize hg : y 20 (6 * c + (fs.length : Int)) - 2 = g at *
          have hcm : y 24 φ = -1 := by omega
          refine b149_71 hF (k := ?_)
          refine b149_85 hF (k := ?_)
          have e14 : (pm_u y 24 φ (y 20 (6 * c + (fs.length : Int)) - 2)) 14 c - 1 = (fs.length : Int) := by simp [pm_u]; omega
          rw [e14, hg]
          have hfr : pm_fr (fun k _ => k = 14 ∨ k = 24) y (pm_u (pm_u y 24 φ g) 14 c (fs.length : Int)) := pm_fr_then (pm_fr_u (Or.inr rfl)) (Or.inl rfl)
          have hfr2 : pm_fr (pm_Zc c) y (pm_u (pm_u y 24 φ g) 14 c (fs.length : Int)) := pm_fr_then (pm_fr_u (Or.inr rfl)) (Or.inl (Or.inl ⟨by decide, by decide, rfl⟩))
          have e2 : ∀ k, k ≠ 14 → k ≠ 24 → (pm_u (pm_u y 24 φ g) 14 c (fs.length : Int)) k = y k := fun k hk hk2 => by funext j; simp [pm_u, hk, hk2]
          have e8 : ∀ j, (pm_u (pm_u y 24 φ g) 14 c (fs.length : Int)) 24 j = if j = φ then g else y 24 j := fun j => by simp [pm_u]
          have hadd : pa_add (w φ).2 f.2.2 = (w φ).2 ++ (w g).2 := by
            rw [g4]
            cases hw0 : (w g).2 with
            | nil => exact absurd hw0 g5
            | cons x l =>
              show (if _ then _ else _) = _
              rw [if_pos (e1.mp hcm)]
          rw [hadd] at hk
          refine c149_loop hF h0 h8 hφ0 hφn hn hnu fs _ (pr_w (pr_w w g (-1) (w g).2) φ (-2) ((w φ).2 ++ (w g).2)) _ _ (pm_RCn_keep (fun k k1 k2 => by rw [e2 k (by omega) (by omega)]) hN) (by simp [pm_u]) ?_ (by rw [pr_ws]) (pm_RFs_pop hfr hFs' hf2 ?_ (fun x h1 h2 => ?_)) (by omega) hf2 (fun y' w' k1 k2 k3 k4 => hk y' w' (pm_fr_trans hfr2 k1) k2 ?_ (by rw [pr_ws] at k4; exact k4))
          · rw [e2 23 (by decide) (by decide)]
            exact pr_st_link hS hφ0 hφn hwφ hcm g1 g2 (by omega) (fun i _ _ hi => by rw [e8, if_neg hi]) (by rw [e8, if_pos rfl])
          · rw [hg]; unfold pr_nb; rw [if_pos g1]; omega
          · rw [pr_wn (fun e => by subst e; omega), pr_wn (fun e => by subst e; omega)]
          · exact pr_wk_trans (pr_wk_own (pr_wk_own (pr_wk_refl c w) (Or.inr (by omega)) _) (Or.inl hwφ) _) k3
    refine b149_0 hF (k1 := fun q => by omega) (k2 := fun _ => ?_)
    refine b149_9 hF (k := ?_)
    refine c145 hF h0 h8 ?_
    rw [hd]
    refine b149_14 hF (k := ?_)
    refine c147 hF (by omega) (by omega) b5 hf.2.2.2.2.1 (by omega) (by omega) ?_
    rw [b4, b2]
    refine b149_20 hF (w0 := ?_) (k1 := fun q => ?_) (k2 := fun q => ?_)
    · unfold pe_in; split <;> omega
    · exact hpop (fun e => by rw [if_pos e] at q; omega) _
    · have hcan : f.1 4 = 0 ∧ f.1 2 ≤ pa_fin f.2.1 := Classical.byContradiction fun e => q (by rw [if_neg e]; decide)
      rw [if_pos hcan]
      refine b149_27 hF (k := ?_)
      have hne := pr_st_ne hS hφ0 hφn
      have hz : ∀ k, 15 ≤ k → k ≤ 20 → pm_Zc c k (6 * c + (fs.length : Int)) := fun k k1 k2 => Or.inl (Or.inr (Or.inl ⟨k1, k2, by omega, by omega⟩))
      refine hk _ (pr_w w φ (6 * c + fs.length) (w φ).2) (pm_fr_then (pm_fr_then (pm_fr_u (hz 20 (by decide) (by decide))) (hz 19 (by decide) (by decide))) (hz 17 (by decide) (by decide))) ?_ (pr_wk_own (pr_wk_refl c w) (Or.inl hwφ) _) ?_
      · have e2 : ∀ k, k ≠ 20 → k ≠ 19 → k ≠ 17 → (pm_u (pm_u (pm_u y 20 (6 * c + (fs.length : Int)) (2 + φ)) 19 (6 * c + (fs.length : Int)) 1) 17 (6 * c + (fs.length : Int)) (pa_fin f.2.1 + 1)) k = y k := fun k h1 h2 h3 => by funext j; simp [pm_u, h1, h2, h3]
        rw [e2 23 (by decide) (by decide) (by decide), e2 24 (by decide) (by decide) (by decide)]
        exact pr_st_own hS (by omega)
      · rw [show pa_throwF nu [] (f :: fs) (w φ).2 = (nu, [], pa_catch f (w φ).2 :: fs) by rw [pa_throwF, if_pos hcan]]
        refine ⟨pm_RCn_keep (fun k k1 k2 => ?_) hN, ?_, Or.inl rfl, pm_catch hFs' hwf rfl (fun x h1 h2 => pr_wn (fun e => by subst e; omega)) (Or.inr (Or.inr ⟨by omega, by omega, by rw [show 2 + φ - 2 = φ by omega, pr_ws], by rw [show 2 + φ - 2 = φ by omega, pr_ws], by rw [show 2 + φ - 2 = φ by omega, pr_ws]; exact hne⟩)) ?_⟩
        · have h1 : k ≠ 20 := by omega
          have h2 : k ≠ 19 := by omega
          have h3 : k ≠ 17 := by omega
          simp [pm_u, h1, h2, h3]
        · simp [pm_u]; omega
        · unfold pr_nb
          rcases b6 with ⟨q, -⟩ | ⟨q, -⟩ | ⟨q, q2, -⟩ <;> split <;> (try split) <;> omega
theorem c150_loop {d M q : Nat} {Φ : Option pe_V → pe_H → Prop} {σ : pe_H} {c n : Int} {nu : Nat → Int} {w : Int → Int × List Int} (hF : pm_F M σ) (h0 : 0 ≤ c) (h8 : c < 8) (hn : n ≤ 512) (hnu : nu 2 < 3 ∨ 5 < nu 2) : ∀ (fs : List pa_F) (y : Nat → Int → Int) (o2 o3 : Option pe_V), pm_RCn y c nu → y 14 c = fs.length → pm_RFs y w (6 * c) fs n → fs.length ≤ 6 → (∀ f ∈ fs, pa_wff f) →
    (∀ y', pm_fr (pm_own c) y y' → pm_RCo y' w c n (pa_closeF nu [] fs) → Φ none (pm_h M σ q y')) →
    pe_X (d + 1) 150 (0, [some (.inr (.inr M)), some (.inl c), o2, o3], [], pm_h M σ q y) Φ
  | [], y, o2, o3, hN, hD, hFs, hl, hwf, hk => by
    rw [List.length_nil] at hD
    refine b150_0 hF (k1 := fun _ => ?_) (k2 := fun q => by omega)
    refine b150_96 hF (k := ?_)
    refine hk _ (pm_fr_u (Or.inl ⟨by decide, by decide, rfl⟩)) ⟨⟨?_, ?_⟩, ?_, Or.inl rfl, trivial⟩
    · obtain ⟨⟨a0, a2, a3, a4, a5, a6, a7, a8⟩, -⟩ := hN
      refine ⟨?_, ?_, ?_, ?_, ?_, ?_, ?_, ?_⟩ <;> simp [pm_u, pa_closeF, pa_s] <;> assumption
    · intro q1 q2
      simp [pa_closeF, pa_s] at q2
    · simp [pm_u, pa_closeF, hD]
  | f :: fs, y, o2, o3, hN, hD, hFs, hl, hwf, hk => by
    rw [List.length_cons] at hD hl
    have hd : 6 * c + y 14 c - 1 = 6 * c + (fs.length : Int) := by omega
    have hFs' := hFs
    obtain ⟨⟨⟨b1, b2, b3, b4⟩, b5, b6⟩, b7⟩ := hFs
    have hf := hwf f List.mem_cons_self
    have hfin := pa_fin_b f.2.1
    have hw4 := hf.2.2.2.1
    have hw2 := hf.2.1
    have hl16 := hf.2.2.2.2.1.1
    have hf2 : ∀ g ∈ fs, pa_wff g := fun g hg => hwf g (List.mem_cons_of_mem _ hg)
    have hh5 : -2147483648 ≤ y 20 (6 * c + (fs.length : Int)) ∧ y 20 (6 * c + (fs.length : Int)) < 2147483648 := by
      rcases b6 with ⟨q, -⟩ | ⟨q, -⟩ | ⟨q, q2, -⟩ <;> omega
    have hz : ∀ k, 15 ≤ k → k ≤ 20 → pm_own c k (6 * c + (fs.length : Int)) := fun k k1 k2 => Or.inr (Or.inl ⟨k1, k2, by omega, by omega⟩)
    refine b150_0 hF (k1 := fun q => by omega) (k2 := fun _ => ?_)
    refine b150_9 hF (k := ?_)
    refine c145 hF h0 h8 ?_
    rw [hd]
    refine b150_14 hF (k1 := fun qf => ?_) (k2 := fun qf => ?_)
    · have h1 : ¬ f.1 4 = 1 := by omega
      refine b150_51 hF (k := ?_)
      refine c147 hF (by omega) (by omega) b5 hf.2.2.2.2.1 (by omega) (by omega) ?_
      rw [b4, b2]
      refine b150_56 hF (w0 := ?_) (k1 := fun q => ?_) (k2 := fun q => ?_)
      · unfold pe_in; split <;> omega
      · have hno : ¬ f.1 2 ≤ pa_fin f.2.1 := fun e => by rw [if_pos ⟨by omega, e⟩] at q; omega
        have ha : pa_closeF nu [] (f :: fs) = pa_closeF nu [] fs := by rw [pa_closeF, if_neg h1, if_neg hno]
        rw [ha] at hk
        refine b150_83 hF (k := ?_)
        rw [show y 14 c - 1 = (fs.length : Int) by omega]
        have hfr : pm_fr (fun k _ => k = 14 ∨ k = 24) y (pm_u y 14 c (fs.length : Int)) := pm_fr_u (Or.inl rfl)
        have hfr2 : pm_fr (pm_own c) y (pm_u y 14 c (fs.length : Int)) := pm_fr_u (Or.inl ⟨by decide, by decide, rfl⟩)
        have e2 : ∀ k, k ≠ 14 → (pm_u y 14 c (fs.length : Int)) k = y k := fun k hk => by funext j; simp [pm_u, hk]
        refine c150_loop hF h0 h8 hn hnu fs _ _ _ (pm_RCn_keep (fun k k1 k2 => by rw [e2 k (by omega)]) hN) (by simp [pm_u]) (pm_RFs_pop hfr hFs' hf2 ?_ (fun _ _ _ => rfl)) (by omega) hf2 (fun y' k1 k4 => hk y' (pm_fr_trans hfr2 k1) k4)
        unfold pr_nb
        rcases b6 with ⟨q, -⟩ | ⟨q, -⟩ | ⟨q, q2, -⟩ <;> split <;> omega
      · have hcan : f.1 4 = 0 ∧ f.1 2 ≤ pa_fin f.2.1 := Classical.byContradiction fun e => q (by rw [if_neg e]; decide)
        have ha : pa_closeF nu [] (f :: fs) = (nu, [], pa_catch f [] :: fs) := by rw [pa_closeF, if_neg h1, if_pos hcan.2]
        rw [ha] at hk
        rw [if_pos hcan]
        refine b150_61 hF (k := ?_)
        refine hk _ (pm_fr_then (pm_fr_then (pm_fr_u (hz 20 (by decide) (by decide))) (hz 19 (by decide) (by decide))) (hz 17 (by decide) (by decide))) ⟨pm_RCn_keep (fun k k1 k2 => ?_) hN, ?_, Or.inl rfl, pm_catch hFs' hwf rfl (fun _ _ _ => rfl) (Or.inr (Or.inl ⟨by decide, rfl⟩)) ?_⟩
        · have h1 : k ≠ 20 := by omega
          have h2 : k ≠ 19 := by omega
          have h3 : k ≠ 17 := by omega
          simp [pm_u, h1, h2, h3]
        · simp [pm_u]; omega
        · unfold pr_nb
          rcases b6 with ⟨q, -⟩ | ⟨q, -⟩ | ⟨q, q2, -⟩ <;> split <;> (try split) <;> omega
    · have h1 : f.1 4 = 1 := by omega
      have ha : pa_closeF nu [] (f :: fs) = (nu, [], (f.1, f.2.1, if f.2.2 = none then some [] else f.2.2) :: fs) := by rw [pa_closeF, if_pos h1]
      rw [ha] at hk
      have hfinal : ∀ v, pr_hl w (6 * c + fs.length) (v - 2) n (if f.2.2 = none then some [] else f.2.2) → pr_nb (y 20 (6 * c + fs.length) - 2) n ≤ pr_nb (v - 2) n → Φ none (pm_h M σ q (pm_u y 20 (6 * c + fs.length) v)) := fun v hv hb => by
        refine hk _ (pm_fr_u (hz 20 (by decide) (by decide))) ⟨pm_RCn_keep (fun k k1 k2 => ?_) hN, ?_, Or.inl rfl, ⟨⟨?_, ?_, ?_, ?_⟩, ⟨?_, fun i i0 i1 => ?_⟩, ?_⟩, ?_⟩
        · have h3 : k ≠ 20 := by omega
          simp [pm_u, h3]
        · simp [pm_u]; omega
        · simp [pm_u]; exact b1
        · simp [pm_u]; exact b2
        · simp [pm_u]; exact b3
        · simp [pm_u]; exact b4
        · simp [pm_u]; exact b5.1
        · simp [pm_u]; exact b5.2 i i0 i1
        · simp only [pm_us]; exact hv
        · simp only [pm_us]
          refine pm_RFs_keep (m := fs.length) (fun i hi => ⟨fun k k1 k2 => ?_, fun k k1 k2 x _ _ => ?_⟩) _ _ _ (Nat.le_refl _) hf2 hb (fun _ _ _ => rfl) b7
          · have : 6 * c + (i : Int) ≠ 6 * c + fs.length := by omega
            exact pm_uj this
          · exact pm_uk (by omega)
      refine b150_25 hF (k1 := fun q2 => ?_) (k2 := fun q2 => ?_)
      · refine b150_43 hF (k := ?_)
        refine b150_49 hF (k := ?_)
        refine hfinal _ ?_ (Int.le_refl _)
        have : (if f.2.2 = none then some [] else f.2.2) = f.2.2 := if_neg (fun e => by
          rcases b6 with ⟨q, -⟩ | ⟨-, q⟩ | ⟨-, -, -, q, -⟩
          · omega
          · rw [q] at e; cases e
          · rw [q] at e; cases e)
        rw [this]
        exact b6
      · refine b150_39 hF (k := ?_)
        refine b150_49 hF (k := ?_)
        refine hfinal _ ?_ ?_
        · have : (if f.2.2 = none then some [] else f.2.2) = some [] := if_pos (by
            rcases b6 with ⟨-, q⟩ | ⟨q, -⟩ | ⟨q, -⟩
            · exact q
            · omega
            · omega)
          rw [this]
          exact Or.inr (Or.inl ⟨by decide, rfl⟩)
        · rw [q2]; exact Int.le_refl _
