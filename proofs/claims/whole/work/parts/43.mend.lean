/-! THE MODEL: a new fault is thrown; closing; a frame's end -/
def pm_Zt (k : Nat) (j : Int) : Prop := (4 ≤ k ∧ k ≤ 26) ∨ (k = 0 ∧ j = 23)
theorem pm_Zt_Zs (k : Nat) (j : Int) (h : pm_Zt k j) : pm_Zs k j := by
  unfold pm_Zt at h
  unfold pm_Zs
  omega
theorem pm_Zc_Zt {c : Int} (k : Nat) (j : Int) (h : pm_Zc c k j) : pm_Zt k j := by
  unfold pm_Zc pm_own at h
  unfold pm_Zt
  omega
def pm_Zn (k : Nat) (j : Int) : Prop := k = 23 ∨ k = 24 ∨ (k = 0 ∧ j = 23)
theorem pm_Zn_Zt (k : Nat) (j : Int) (h : pm_Zn k j) : pm_Zt k j := by
  unfold pm_Zn at h
  unfold pm_Zt
  omega
section
variable {d M q : Nat} {Φ : Option pe_V → pe_H → Prop} {σ : pe_H} {y y' : Nat → Int → Int} {w w' : Int → Int × List Int} {n c : Int} {a : pa_M}
/-- throwsIt, over the machine -/
theorem c149 {φ : Int} (hF : pm_F M σ) (hR : pm_Rx y w n a) (hw8 : pa_wf8 a) (h0 : 0 ≤ c) (h1 : c < a.1 4) (hn : n ≤ 512) (hφ0 : 0 ≤ φ) (hφn : φ < n) (hwφ : (w φ).1 = -2) (h3 : (a.2.1 c).1 2 < 3) (he : (a.2.1 c).2.1 = []) (hFs : pm_RFs y w (6 * c) (a.2.1 c).2.2 φ) (k : ∀ y' w', pm_fr (pm_Zc c) y y' → pr_wk c w w' → pm_Rx y' w' n (pa_cw a c (pa_throw (a.2.1 c) (w φ).2)) → Φ none (pm_h M σ q y')) : pe_M (d + 2) 149 [.inr (.inr M), .inl c, .inl φ] (pm_h M σ q y) Φ := by
  have h8 : c < 8 := by have := hw8.1; omega
  obtain ⟨b1, b2, b3, b4⟩ := hR.co h0 h1
  refine pe_M_of ck149 (Nat.le_of_ble_eq_true rfl) ?_
  refine c149_loop hF h0 h8 hφ0 hφn hn (Or.inl h3) _ y w _ _ b1 b2 hR.st hwφ hFs (hw8.2 c h0 h1).1 (hw8.2 c h0 h1).2 (fun y' w' g1 g2 g3 g4 => ?_)
  refine k y' w' g1 g3 (pm_Rx_co hR hw8 h0 h1 g1 g2 g3 ?_)
  unfold pa_throw
  rw [he]
  exact g4
/-- closesIt, over the machine -/
theorem c150 (hF : pm_F M σ) (hR : pm_Rx y w n a) (hw8 : pa_wf8 a) (h0 : 0 ≤ c) (h1 : c < a.1 4) (hn : n ≤ 512) (h3 : (a.2.1 c).1 2 < 3) (he : (a.2.1 c).2.1 = []) (k : ∀ y', pm_fr (pm_Zc c) y y' → pm_Rx y' w n (pa_cw a c (pa_close (a.2.1 c))) → Φ none (pm_h M σ q y')) : pe_M (d + 2) 150 [.inr (.inr M), .inl c] (pm_h M σ q y) Φ := by
  have h8 : c < 8 := by have := hw8.1; omega
  obtain ⟨b1, b2, b3, b4⟩ := hR.co h0 h1
  refine pe_M_of ck150 (Nat.le_of_ble_eq_true rfl) ?_
  refine c150_loop hF h0 h8 hn (Or.inl h3) _ y _ _ b1 b2 b4 (hw8.2 c h0 h1).1 (hw8.2 c h0 h1).2 (fun y' g1 g4 => ?_)
  have hz : pm_fr (pm_Zc c) y y' := pm_fr_mono g1 (fun _ _ e => Or.inl e)
  have e : ∀ k, k = 23 ∨ k = 24 → ∀ j, y' k j = y k j := fun k hk j => g1 k j (by unfold pm_own; omega)
  refine k y' hz (pm_Rx_co hR hw8 h0 h1 hz ?_ (pr_wk_refl c w) ?_)
  · rw [show y' 23 = y 23 from funext (e 23 (Or.inl rfl)), show y' 24 = y 24 from funext (e 24 (Or.inr rfl))]
    exact hR.st
  · unfold pa_close
    rw [he]
    exact g4
/-- faultComes -/
theorem c148 {x f : Int} {l : List Int} (hF : pm_F M σ) (hR : pm_Rx y w n a) (hn : n < 512) (hf : (f = -1 ∧ l = []) ∨ (0 ≤ f ∧ f < n ∧ (w f).1 = -1 ∧ l = (w f).2)) (k : ∀ y', pm_fr pm_Zn y y' → pm_Rx y' (pr_w w n (-2) (x :: l)) (n + 1) a → (∀ c, 0 ≤ c → c < a.1 4 → pm_RFs y' (pr_w w n (-2) (x :: l)) (6 * c) (a.2.1 c).2.2 n) → Φ (some (.inl n)) (pm_h M σ q y')) : pe_M (d + 1) 148 [.inr (.inr M), .inl x, .inl f] (pm_h M σ q y) Φ := by
  have hn0 := hR.st.1
  have h23 := hR.1.2.2.2.1
  have hst := hR.st
  refine pe_M_of ck148 (Nat.le_of_ble_eq_true rfl) ?_
  refine b148_0 hF (k := ?_)
  rw [h23, show n + 1 - 1 = n by omega]
  generalize hy : pm_u (pm_u (pm_u y 23 n x) 24 n f) 0 23 (n + 1) = z
  have hfr : pm_fr pm_Zn y z := by
    rw [← hy]
    exact pm_fr_then (pm_fr_then (pm_fr_u (Or.inl rfl)) (Or.inr (Or.inl rfl))) (Or.inr (Or.inr ⟨rfl, rfl⟩))
  have e2 : ∀ k, k ≠ 0 → k ≠ 23 → k ≠ 24 → z k = y k := fun k k1 k2 k3 => funext fun j => hfr k j (by unfold pm_Zn; omega)
  have e0 : ∀ j, j ≠ 23 → z 0 j = y 0 j := fun j hj => hfr 0 j (by unfold pm_Zn; omega)
  have key : ∀ (fs : List pa_F) (o ub : Int), ub ≤ n → pm_RFs y w o fs ub → pm_RFs z (pr_w w n (-2) (x :: l)) o fs ub := by
    intro fs
    induction fs with
    | nil => intro _ _ _ _; trivial
    | cons g gs ih =>
      intro o ub hu h
      obtain ⟨⟨⟨b1, b2, b3, b4⟩, b5, b6⟩, b7⟩ := h
      unfold pm_RFs pm_RFr
      rw [e2 15 (by decide) (by decide) (by decide), e2 16 (by decide) (by decide) (by decide), e2 17 (by decide) (by decide) (by decide), e2 18 (by decide) (by decide) (by decide), e2 19 (by decide) (by decide) (by decide), e2 20 (by decide) (by decide) (by decide), e2 21 (by decide) (by decide) (by decide), e2 22 (by decide) (by decide) (by decide)]
      refine ⟨⟨⟨b1, b2, b3, b4⟩, b5, ?_⟩, ?_⟩
      · rcases b6 with r | r | ⟨q1, q2, q3, q4, q5⟩
        · exact Or.inl r
        · exact Or.inr (Or.inl r)
        · rw [pr_hl, pr_wn (by omega)]
          exact Or.inr (Or.inr ⟨q1, q2, q3, q4, q5⟩)
      · refine ih o _ ?_ b7
        unfold pr_nb
        rcases b6 with ⟨r, -⟩ | ⟨r, -⟩ | ⟨r, q2, -⟩ <;> split <;> omega
  have hmono : ∀ (fs : List pa_F) (z : Nat → Int → Int) (w : Int → Int × List Int) (o ub ub' : Int), ub ≤ ub' → pm_RFs z w o fs ub → pm_RFs z w o fs ub' := by
    intro fs
    induction fs with
    | nil => intros; trivial
    | cons g gs ih =>
      intro z w o ub ub' hu h
      exact ⟨⟨h.1.1, h.1.2.1, pr_hl_ub h.1.2.2 hu⟩, ih _ _ _ _ _ (pr_nb_mono hu) h.2⟩
  obtain ⟨⟨a1, a2, a3, a4⟩, a5, a6, a7, a8⟩ := hR
  refine k z hfr ⟨⟨?_, ?_, ?_, ?_⟩, ?_, fun c h0 h1 => ?_, ?_, ?_⟩ (fun c h0 h1 => key _ _ _ (Int.le_refl _) (a6 c h0 h1).2.2.2)
  · rw [e0 3 (by decide)]; exact a1
  · rw [e0 28 (by decide)]; exact a2
  · rw [e0 29 (by decide)]; exact a3
  · refine ⟨by rw [← hy]; simp [pm_u], fun g hg => ?_⟩
    obtain ⟨h1, h2⟩ := a4.2 g hg
    have eg : ∀ j, z g j = y g j := fun j => hfr g j (by unfold pm_Zn; omega)
    rw [eg]
    refine ⟨by omega, fun j j0 j1 => ?_⟩
    rw [eg, ← h2 j j0 j1, ← hy]
    have : j ≠ n := by omega
    simp [pm_u, this]
  · refine pr_st_new hst (fun i i0 i1 => ?_) ?_ hf
    · have : i ≠ n := by omega
      rw [← hy]; simp [pm_u, this]
    · rw [← hy]; simp [pm_u]
  · obtain ⟨b1, b2, b3, b4⟩ := a6 c h0 h1
    refine ⟨pm_RCn_keep (fun k k1 k2 => by rw [e2 k (by omega) (by omega) (by omega)]) b1, by rw [e2 14 (by decide) (by decide) (by decide)]; exact b2, ?_, hmono _ _ _ _ _ _ (by omega) (key _ _ _ (Int.le_refl _) b4)⟩
    unfold pm_RCe
    rw [e2 13 (by decide) (by decide) (by decide)]
    rcases b3 with r | ⟨q1, q2, q3, q4, q5⟩
    · exact Or.inl r
    · rw [pr_wn (by omega)]
      exact Or.inr ⟨q1, q2, by omega, q4, q5⟩
  · rw [e2 1 (by decide) (by decide) (by decide), e2 2 (by decide) (by decide) (by decide), e2 3 (by decide) (by decide) (by decide)]
    exact a7
  · rw [e2 25 (by decide) (by decide) (by decide), e2 26 (by decide) (by decide) (by decide)]
    exact a8
/-- a new fault, and then it is thrown -/
theorem cTN {x f : Int} {l : List Int} (hF : pm_F M σ) (hM : pm_R y a) (hwf : pa_wf0 a) (h0 : 0 ≤ c) (h1 : c < a.1 4) (h3 : (a.2.1 c).1 2 < 3) (hf : (f = -1 ∧ l = []) ∨ ∃ o, 0 ≤ o ∧ o < a.1 4 ∧ f = y 13 o ∧ l = (a.2.1 o).2.1 ∧ l ≠ [])
    (k : ∀ n y1, (∀ (d : Nat) (Ψ : Option pe_V → pe_H → Prop), (∀ y2, pm_fr pm_Zt y y2 → pm_R y2 (pa_cw a c (pa_throw (a.2.1 c) (x :: l))) → Ψ none (pm_h M σ q y2)) → pe_M (d + 2) 149 [.inr (.inr M), .inl c, .inl n] (pm_h M σ q y1) Ψ) → Φ (some (.inl n)) (pm_h M σ q y1)) : pe_M (d + 1) 148 [.inr (.inr M), .inl x, .inl f] (pm_h M σ q y) Φ := by
  obtain ⟨w, n, hR, hn⟩ := hM
  have hc := hwf.2.2.1 c h0 h1
  have hp := pa_pot_throw (φ := x :: l) hc h3 (by simp)
  have hp0 := pa_pot_0 (pa_throw (a.2.1 c) (x :: l)).2.2
  have hg := pa_pots_ge (a := a) h0 h1
  have h8 := hwf.1
  refine c148 hF hR (by omega) (l := l) ?_ (fun y1 g1 g3 g4 => ?_)
  · rcases hf with r | ⟨o, q0, q1, rfl, rfl, q4⟩
    · exact Or.inl r
    · rcases (hR.co q0 q1).2.2.1 with q5 | ⟨-, q5, q6, q7, q8⟩
      · exact absurd q5 q4
      · exact Or.inr ⟨q5, q6, q7, q8.symm⟩
  · refine k n y1 (fun d Ψ kk => c149 hF g3 hwf.w8 h0 h1 (by omega) hR.st.1 (by omega) (by rw [pr_ws]) h3 (pa_wfc_e hc (by omega)) (g4 c h0 h1) (fun y2 w2 e1 e2 e3 => ?_))
    rw [pr_ws] at e3
    exact kk y2 (pm_fr_trans (pm_fr_mono g1 pm_Zn_Zt) (pm_fr_mono e1 pm_Zc_Zt)) (pm_R_cw hn h0 h1 (by omega) e3)
/-- the frame on top has gone -/
theorem pm_Rx_pop {f : pa_F} {fs : List pa_F} {w' : Int → Int × List Int} (hR : pm_Rx y w n a) (hw8 : pa_wf8 a) (h0 : 0 ≤ c) (h1 : c < a.1 4) (hfs : (a.2.1 c).2.2 = f :: fs) (hst : pr_st (y 23) (y 24) n w') (hwk : pr_wk c w w') (hfin : ∀ h, (w h).1 = -1 → w' h = w h) (hown : ∀ h, 6 * c ≤ (w h).1 → (w h).1 < 6 * c + fs.length → w' h = w h) : pm_Rx (pm_u y 14 c (fs.length : Int)) w' n (pa_cw a c ((a.2.1 c).1, (a.2.1 c).2.1, fs)) := by
  obtain ⟨b1, b2, b3, b4⟩ := hR.co h0 h1
  have hff := (hw8.2 c h0 h1).2
  rw [hfs] at b4 hff
  have hfr : pm_fr (fun k _ => k = 14 ∨ k = 24) y (pm_u y 14 c (fs.length : Int)) := pm_fr_u (Or.inl rfl)
  have hz : pm_fr (pm_Zc c) y (pm_u y 14 c (fs.length : Int)) := pm_fr_u (Or.inl (Or.inl ⟨by decide, by decide, rfl⟩))
  have e2 : ∀ k, k ≠ 14 → (pm_u y 14 c (fs.length : Int)) k = y k := fun k hk => by funext j; simp [pm_u, hk]
  refine pm_Rx_co hR hw8 h0 h1 hz ?_ hwk ⟨pm_RCn_keep (fun k k1 k2 => by rw [e2 k (by omega)]) b1, by simp [pm_u], ?_, pm_RFs_pop hfr b4 (fun g hg => hff g (List.mem_cons_of_mem _ hg)) ?_ hown⟩
  · rw [e2 23 (by decide), e2 24 (by decide)]; exact hst
  · unfold pm_RCe
    rw [e2 13 (by decide)]
    rcases b3 with r | ⟨q1, q2, q3, q4, q5⟩
    · exact Or.inl r
    · have := hfin _ q4
      exact Or.inr ⟨q1, q2, q3, by rw [this]; exact q4, by rw [this]; exact q5⟩
  · obtain ⟨⟨-, -, b6⟩, -⟩ := b4
    show pr_nb (y 20 (6 * c + (fs.length : Int)) - 2) n ≤ n
    unfold pr_nb
    rcases b6 with ⟨r, -⟩ | ⟨r, -⟩ | ⟨r, q2, -⟩ <;> split <;> omega
/-- frameEnds -/
theorem c151 (hF : pm_F M σ) (hR : pm_Rx y w n a) (hw8 : pa_wf8 a) (h0 : 0 ≤ c) (h1 : c < a.1 4) (hn : n ≤ 512) (hwf : pa_wfc (a.2.1 c)) (h3 : (a.2.1 c).1 2 < 3) (k : ∀ y' w', pm_fr (pm_Zc c) y y' → pm_Rx y' w' n (pa_cw a c (pa_endTop (a.2.1 c))) → Φ none (pm_h M σ q y')) : pe_M (d + 3) 151 [.inr (.inr M), .inl c] (pm_h M σ q y) Φ := by
  have h8 : c < 8 := by have := hw8.1; omega
  have he := pa_wfc_e hwf (by omega)
  have hne : (a.2.1 c).2.2 ≠ [] := fun r => by have := hwf.2.2.2.1.mpr r; omega
  obtain ⟨f, fs, hfs⟩ := List.exists_cons_of_ne_nil hne
  obtain ⟨b1, b2, b3, b4⟩ := hR.co h0 h1
  have hl := (hw8.2 c h0 h1).1
  have hff := hwf.2.2.1
  have b4' := b4
  rw [hfs] at b2 b4 b4' hl hff
  rw [List.length_cons] at b2 hl
  have hd : 6 * c + y 14 c - 1 = 6 * c + (fs.length : Int) := by omega
  obtain ⟨⟨b5, b6, b7⟩, b8⟩ := b4
  have hin : -2147483648 ≤ y 20 (6 * c + (fs.length : Int)) ∧ y 20 (6 * c + (fs.length : Int)) < 2147483648 := by
    rcases b7 with ⟨r, -⟩ | ⟨r, -⟩ | ⟨r, q2, -⟩ <;> omega
  have hfs2 : ∀ g ∈ fs, pa_wff g := fun g hg => hff g (List.mem_cons_of_mem _ hg)
  have hpop := fun w' => pm_Rx_pop (w' := w') hR hw8 h0 h1 hfs
  have hw8' : pa_wf8 (pa_cw a c ((a.2.1 c).1, (a.2.1 c).2.1, fs)) := pa_wf8_cw hw8 (by show fs.length ≤ 6; omega) hfs2
  have hz : pm_fr (pm_Zc c) y (pm_u y 14 c (fs.length : Int)) := pm_fr_u (Or.inl (Or.inl ⟨by decide, by decide, rfl⟩))
  refine pe_M_of ck151 (Nat.le_of_ble_eq_true rfl) ?_
  refine b151_0 hF (k := ?_)
  refine c145 hF h0 h8 ?_
  rw [hd]
  have hd2 : y 14 c - 1 = (fs.length : Int) := by omega
  refine b151_9 hF (k1 := fun q1 => ?_) (k2 := fun q1 => ?_)
  · rw [hd2]
    refine b151_37 hF (k1 := fun q2 => ?_) (k2 := fun q2 => ?_)
    · have hv : f.2.2 = none := by
        rcases b7 with ⟨-, r⟩ | ⟨r, -⟩ | ⟨r, -⟩
        · exact r
        · omega
        · omega
      have g := hpop w hR.st (pr_wk_refl c w) (fun _ _ => rfl) (fun _ _ _ => rfl)
      have h14 : (pm_u y 14 c (fs.length : Int)) 14 c = fs.length := by simp [pm_u]
      refine b151_50 hF (k1 := fun q3 => ?_) (k2 := fun q3 => ?_)
      · refine b151_67 hF (k := ?_)
        refine k _ w hz ?_
        have : pa_endTop (a.2.1 c) = ((a.2.1 c).1, (a.2.1 c).2.1, fs) := by
          cases fs with
          | nil => exact absurd h14 q3
          | cons x l => unfold pa_endTop; rw [hfs]; simp only [hv]
        rw [this]; exact g
      · refine b151_59 hF (k := ?_)
        refine b151_67 hF (k := ?_)
        have g2 := pm_Rx_nu (y' := pm_u (pm_u y 14 c (fs.length : Int)) 7 c 6) (nu := pa_s (a.2.1 c).1 2 6) g hw8' h0 h1 (pm_fr_u ⟨by decide, by decide, rfl⟩) (by
          obtain ⟨⟨a0, a2, a3, a4, a5, a6, a7, a8⟩, -⟩ := b1
          refine ⟨⟨?_, ?_, ?_, ?_, ?_, ?_, ?_, ?_⟩, fun q4 q5 => ?_⟩
          · simp [pm_u, pa_s]; assumption
          · simp [pm_u, pa_s]
          · simp [pm_u, pa_s]; assumption
          · simp [pm_u, pa_s]; assumption
          · simp [pm_u, pa_s]; assumption
          · simp [pm_u, pa_s]; assumption
          · simp [pm_u, pa_s]; assumption
          · simp [pm_u, pa_s]; assumption
          · simp [pa_s] at q5)
        refine k _ w (pm_fr_then hz (Or.inl (Or.inl ⟨by decide, by decide, rfl⟩))) ?_
        have : pa_endTop (a.2.1 c) = (pa_s (a.2.1 c).1 2 6, (a.2.1 c).2.1, fs) := by
          cases fs with
          | nil => unfold pa_endTop; rw [hfs]; simp only [hv]
          | cons x l =>
            rw [h14, List.length_cons] at q3
            omega
        rw [this]
        rw [pa_cw_same, pa_cw_cw] at g2
        exact g2
    · have hv : f.2.2 = some [] := by
        rcases b7 with ⟨r, -⟩ | ⟨-, r⟩ | ⟨r, -⟩
        · omega
        · exact r
        · omega
      have g := hpop w hR.st (pr_wk_refl c w) (fun _ _ => rfl) (fun _ _ _ => rfl)
      refine b151_42 hF (k := ?_)
      refine c150 hF g hw8' h0 h1 hn (by rw [pa_cw_same]; exact h3) (by rw [pa_cw_same]; exact he) (fun y' k1 k2 => ?_)
      refine b151_47 hF (k := ?_)
      refine b151_67 hF (k := ?_)
      refine k y' w (pm_fr_trans hz k1) ?_
      rw [pa_cw_same, pa_cw_cw] at k2
      have : pa_endTop (a.2.1 c) = pa_close ((a.2.1 c).1, (a.2.1 c).2.1, fs) := by
        unfold pa_endTop
        rw [hfs]; simp only [hv]; rfl
      rw [this]; exact k2
  · rw [hd2]
    obtain ⟨g0, g1, g2, g3, g4⟩ : 0 ≤ y 20 (6 * c + (fs.length : Int)) - 2 ∧ y 20 (6 * c + (fs.length : Int)) - 2 < n ∧ (w (y 20 (6 * c + (fs.length : Int)) - 2)).1 = 6 * c + fs.length ∧ f.2.2 = some (w (y 20 (6 * c + (fs.length : Int)) - 2)).2 ∧ (w (y 20 (6 * c + (fs.length : Int)) - 2)).2 ≠ [] := by
      rcases b7 with ⟨r, -⟩ | ⟨r, -⟩ | r
      · omega
      · omega
      · exact r
    refine b151_26 hF (k := ?_)
    generalize hg : y 20 (6 * c + (fs.length : Int)) - 2 = g at *
    have hown : ∀ h, 6 * c ≤ (w h).1 → (w h).1 < 6 * c + fs.length → pr_w w g (-2) (w g).2 h = w h := fun h h1 h2 => pr_wn (fun e => by subst e; omega)
    have gR := hpop (pr_w w g (-2) (w g).2) (pr_st_own hR.st (by omega)) (pr_wk_own (pr_wk_refl c w) (Or.inr (by omega)) _) (fun h hh => pr_wn (fun e => by subst e; omega)) hown
    refine c149 hF gR hw8' h0 h1 hn g0 g1 (by rw [pr_ws]) (by rw [pa_cw_same]; exact h3) (by rw [pa_cw_same]; exact he) ?_ (fun y' w' k1 k2 k3 => ?_)
    · rw [pa_cw_same]
      have hfr : pm_fr (fun k _ => k = 14 ∨ k = 24) y (pm_u y 14 c (fs.length : Int)) := pm_fr_u (Or.inl rfl)
      refine pm_RFs_pop hfr b4' hfs2 ?_ hown
      rw [hg]; unfold pr_nb; rw [if_pos g0]; exact Int.le_refl _
    · refine b151_34 hF (k := ?_)
      refine b151_67 hF (k := ?_)
      refine k y' w' (pm_fr_trans hz k1) ?_
      rw [pa_cw_same, pa_cw_cw, pr_ws] at k3
      have : pa_endTop (a.2.1 c) = pa_throw ((a.2.1 c).1, (a.2.1 c).2.1, fs) (w g).2 := by
        unfold pa_endTop
        rw [hfs]
        cases hw0 : (w g).2 with
        | nil => exact absurd hw0 g4
        | cons x l => rw [hw0] at g3; simp only [g3]; rfl
      rw [this]; exact k3
end
