/-! THE CLASS: a coroutine's methods, over the machine -/
section
variable {T : Nat → Prop} {σ : pe_H} {r : Nat} {nu : Nat → Int} {v : Int}
theorem pk_RCn_set {j : Nat} (hj : j = 0 ∨ j = 2 ∨ j = 3 ∨ j = 4 ∨ j = 5 ∨ j = 6 ∨ j = 7) (hr : ¬ T r) (h : pk_RCn T σ r nu) : pk_RCn T (pe_wI σ r (j : Int) v) r (pa_s nu j v) := by
  obtain ⟨⟨a0, a2, a3, a4, a5, a6, a7⟩, b1, b2, b3, b4⟩ := h
  have e : pe_R σ r 1 ≠ r := fun e => hr (by rw [← e]; exact b1)
  refine ⟨⟨?_, ?_, ?_, ?_, ?_, ?_, ?_⟩, b1, b2, (pe_I_ner e).trans ?_, (pe_I_ner e).trans ?_⟩ <;> rcases hj with rfl | rfl | rfl | rfl | rfl | rfl | rfl <;> simp [pe_I_w, pa_s] <;> assumption
theorem pk_RCn_89 {j : Int} (hj : j = 8 ∨ j = 9) (hr : ¬ T r) (h : pk_RCn T σ r nu) : pk_RCn T (pe_wI σ r j v) r nu := by
  obtain ⟨⟨a0, a2, a3, a4, a5, a6, a7⟩, b1, b2, b3, b4⟩ := h
  have e : pe_R σ r 1 ≠ r := fun e => hr (by rw [← e]; exact b1)
  refine ⟨⟨?_, ?_, ?_, ?_, ?_, ?_, ?_⟩, b1, b2, (pe_I_ner e).trans ?_, (pe_I_ner e).trans ?_⟩ <;> rcases hj with rfl | rfl <;> (try simp [pe_I_w]) <;> assumption
end
section
variable {d B : Nat} {Φ : Option pe_V → pe_H → Prop} {T : Nat → Prop} {σ : pe_H} {w : Int → Int × List Int} {n c : Int} {a : pa_M}
theorem pk_RMx.co (h : pk_RMx B T σ w n a) (h0 : 0 ≤ c) (h1 : c < a.1 4) : pk_RCo T σ w (pk_c B c) (6 * c) n (a.2.1 c) := h.2.2.2.2.1 c h0 h1
theorem pk_RMx.F (h : pk_RMx B T σ w n a) : pk_Fm B σ := h.1
theorem pk_RMx.T0 (h : pk_RMx B T σ w n a) : ∀ x, T x → ¬ pk_Z B x := h.2.1
theorem pk_RMx.st (h : pk_RMx B T σ w n a) : pr_st (pe_I σ (B + 7)) (pe_I σ (B + 8)) n w := h.2.2.2.1
theorem pk_RMx.n12 (h : pk_RMx B T σ w n a) : pe_I σ B 12 = n := h.2.2.1.2.2.2
theorem pk_RMx.Tc (h : pk_RMx B T σ w n a) (h0 : 0 ≤ c) (h8 : c < 8) : ∀ x, T x → ¬ pk_Zc B c x := fun x hx q => h.T0 x hx (pk_Zc_Z h0 h8 x q)
theorem pk_RMx.Tr (h : pk_RMx B T σ w n a) (h0 : 0 ≤ c) (h8 : c < 8) : ¬ T (pk_c B c) := fun q => h.Tc h0 h8 _ q pk_r_Zc
/-- an int of a coroutine is set -/
theorem pk_RMx_set {j : Nat} {v : Int} (hj : j = 0 ∨ j = 2 ∨ j = 3 ∨ j = 4 ∨ j = 5 ∨ j = 6 ∨ j = 7) (h : pk_RMx B T σ w n a) (hwf : pa_wf9 a) (h0 : 0 ≤ c) (h1 : c < a.1 4) : pk_RMx B T (pe_wI σ (pk_c B c) (j : Int) v) w n (pa_cw a c (pa_s (a.2.1 c).1 j v, (a.2.1 c).2)) := by
  have h8 : c < 8 := by have := hwf.1; omega
  obtain ⟨b1, b2, b3, b4⟩ := h.co h0 h1
  have hfr : pk_frI (pk_Zc B c) σ (pe_wI σ (pk_c B c) (j : Int) v) := pk_frI_wI pk_r_Zc
  have e : ∀ x, x ≠ pk_c B c → ∀ k, pe_I (pe_wI σ (pk_c B c) (j : Int) v) x k = pe_I σ x k := fun x hx k => pe_I_ner hx
  refine pk_RMx_co h hwf h0 h1 hfr (Int.le_refl _) rfl ?_ (pr_wk_refl c w) ⟨pk_RCn_set hj (h.Tr h0 h8) b1, ?_, ?_, ?_⟩
  · rw [funext (e (B + 7) (by unfold pk_c; omega)), funext (e (B + 8) (by unfold pk_c; omega))]; exact h.st
  · rw [pe_I_nej (by omega)]; exact b2
  · exact pk_RCe_keep (pe_I_nej (by omega)) (Int.le_refl _) (fun _ _ => rfl) b3
  · exact pk_RFs_keep (m := 6) (fun i hi k => ⟨e _ pk_f_ne k, rfl⟩) (fun P p q => pk_RPr_fr hfr.1 (h.Tc h0 h8) q) _ _ _ (hwf.2 c h0 h1) (Int.le_refl _) (fun _ _ _ => rfl) b4
theorem pa_cw_cw {a : pa_M} {c : Int} {u v : pa_C} : pa_cw (pa_cw a c u) c v = pa_cw a c v := by
  unfold pa_cw
  refine congrArg (fun f => (a.1, f, a.2.2)) ?_
  funext i
  by_cases e : i = c
  · rw [if_pos e, if_pos e]
  · rw [if_neg e, if_neg e]; exact if_neg e
/-! throwFault -/
theorem k40 {φ : Int} (hR : pk_RMx B T σ w n a) (hw9 : pa_wf9 a) (h0 : 0 ≤ c) (h1 : c < a.1 4) (hn : n ≤ 512) (hφ0 : 0 ≤ φ) (hφn : φ < n) (hwφ : (w φ).1 = -2) (hwf : ∀ f ∈ (a.2.1 c).2.2, pa_wff f) (he : (a.2.1 c).2.1 = []) (hFs : pk_RFs T σ w (pk_c B c) (6 * c) (a.2.1 c).2.2 φ)
    (k : ∀ σ' w', pk_frI (pk_Zc B c) σ σ' → pr_wk c w w' → pk_RMx B T σ' w' n (pa_cw a c (pa_throw (a.2.1 c) (w φ).2)) → Φ none σ') : pe_M (d + 1) 40 [.inr (.inr B), .inr (.inr (pk_c B c)), .inl φ] σ Φ := by
  have h8 : c < 8 := by have := hw9.1; omega
  obtain ⟨b1, b2, b3, b4⟩ := hR.co h0 h1
  refine pe_M_of ck40 (Nat.le_of_ble_eq_true rfl) ?_
  refine k40_loop hR.T0 h0 h8 hφ0 hφn hn _ σ w _ hR.F b1 b2 hR.st hwφ hFs (hw9.2 c h0 h1) hwf ?_ (fun σ' w' g1 g2 g3 g4 => ?_)
  · rcases b3 with ⟨-, q⟩ | ⟨q, -⟩
    · exact q
    · exact absurd he q
  · refine k σ' w' g1 g3 (pk_RMx_co hR hw9 h0 h1 g1 (Int.le_refl _) rfl g2 g3 ?_)
    unfold pa_throw
    rw [he]
    exact g4
/-! newFault -/
def pk_Zn (B a : Nat) : Prop := a = B ∨ a = B + 7 ∨ a = B + 8
theorem k39 {x f : Int} {l : List Int} (hR : pk_RMx B T σ w n a) (hw9 : pa_wf9 a) (hn : n < 512) (hf : (f = -1 ∧ l = []) ∨ (0 ≤ f ∧ f < n ∧ (w f).1 = -1 ∧ l = (w f).2))
    (k : ∀ σ', pk_frI (pk_Zn B) σ σ' → pe_I σ' B 7 = pe_I σ B 7 → pk_RMx B T σ' (pr_w w n (-2) (x :: l)) (n + 1) a → (∀ c, 0 ≤ c → c < a.1 4 → pk_RFs T σ' (pr_w w n (-2) (x :: l)) (pk_c B c) (6 * c) (a.2.1 c).2.2 n) → Φ (some (.inl n)) σ') : pe_M (d + 1) 39 [.inr (.inr B), .inl x, .inl f] σ Φ := by
  have hF := hR.F
  have hn0 := hR.st.1
  have h12 := hR.n12
  refine pe_M_of ck39 (Nat.le_of_ble_eq_true rfl) ?_
  refine b39_0 (k1 := fun q => by omega) (k2 := fun _ => ?_)
  refine b39_10 (k := ?_)
  have hF' : pk_Fm B (pe_wI (pe_wI (pe_wI σ (B + 7) (pe_I σ B 12) x) (B + 8) (pe_I σ B 12) f) B 12 (pe_I σ B 12 + 1)) := hF
  refine b39_40 (k := ?_)
  rw [pe_I_same, h12, show n + 1 - 1 = n by omega]
  have hfr : pk_frI (pk_Zn B) σ (pe_wI (pe_wI (pe_wI σ (B + 7) n x) (B + 8) n f) B 12 (n + 1)) := pk_frI_then (pk_frI_then (pk_frI_wI (Or.inr (Or.inl rfl))) (Or.inr (Or.inr rfl))) (Or.inl rfl)
  have hT : ∀ y, T y → ¬ pk_Zn B y := fun y hy q => hR.T0 y hy (by unfold pk_Zn at q; unfold pk_Z; omega)
  have e7 : ∀ j, pe_I (pe_wI (pe_wI (pe_wI σ (B + 7) n x) (B + 8) n f) B 12 (n + 1)) (B + 7) j = if j = n then x else pe_I σ (B + 7) j := fun j => by
    rw [pe_I_ner (by omega), pe_I_ner (by omega), pe_I_w]; simp
  have e8 : ∀ j, pe_I (pe_wI (pe_wI (pe_wI σ (B + 7) n x) (B + 8) n f) B 12 (n + 1)) (B + 8) j = if j = n then f else pe_I σ (B + 8) j := fun j => by
    rw [pe_I_ner (by omega), pe_I_w]
    by_cases q : j = n
    · simp [q]
    · rw [if_neg (fun e => q e.2), if_neg q, pe_I_ner (by omega)]
  obtain ⟨a1, a2, ⟨a3, a4, a5, a6⟩, a7, a8, a9, a10⟩ := hR
  have hwn : ∀ h, (w h).1 ≠ -2 → h < n → pr_w w n (-2) (x :: l) h = w h := fun h _ hh => pr_wn (by omega)
  have hout : ∀ y, B + 9 ≤ y → ¬ pk_Zn B y := fun y hy => by unfold pk_Zn; omega
  have hw9' := hw9.1
  have key : ∀ (fs : List pa_F) (r : Nat) (own ub : Int), ub ≤ n → fs.length ≤ 6 → B + 11 ≤ r → pk_RFs T σ w r own fs ub → pk_RFs T (pe_wI (pe_wI (pe_wI σ (B + 7) n x) (B + 8) n f) B 12 (n + 1)) (pr_w w n (-2) (x :: l)) r own fs ub := by
    intro fs
    induction fs with
    | nil => intro _ _ _ _ _ _ _; trivial
    | cons g gs ih =>
      intro r own ub hu hl hr h
      rw [List.length_cons] at hl
      obtain ⟨⟨⟨b1, b2, b3, b4⟩, b5, b6⟩, b7⟩ := h
      have hi := hfr.1.2 (pk_f r (gs.length : Int)) (hout _ (by unfold pk_f; omega))
      refine ⟨⟨⟨by rw [(hi 1).1]; exact b1, by rw [(hi 2).1]; exact b2, by rw [(hi 3).1]; exact b3, by rw [(hi 4).1]; exact b4⟩, by rw [(hi 0).2]; exact pk_RPr_fr hfr.1 hT b5, ?_⟩, ?_⟩
      · rw [(hi 5).1]
        rcases b6 with q | q | ⟨q1, q2, q3, q4, q5⟩
        · exact Or.inl q
        · exact Or.inr (Or.inl q)
        · rw [pr_hl, pr_wn (by omega)]
          exact Or.inr (Or.inr ⟨q1, q2, q3, q4, q5⟩)
      · rw [(hi 5).1]
        refine ih r own _ ?_ (by omega) hr b7
        unfold pr_nb
        rcases b6 with ⟨q, -⟩ | ⟨q, -⟩ | ⟨q, q2, -⟩ <;> split <;> omega
  have hmono : ∀ (fs : List pa_F) (σ : pe_H) (w : Int → Int × List Int) (r : Nat) (own ub ub' : Int), ub ≤ ub' → pk_RFs T σ w r own fs ub → pk_RFs T σ w r own fs ub' := by
    intro fs
    induction fs with
    | nil => intros; trivial
    | cons g gs ih =>
      intro σ w r own ub ub' hu h
      exact ⟨⟨h.1.1, h.1.2.1, pr_hl_ub h.1.2.2 hu⟩, ih _ _ _ _ _ _ (pr_nb_mono hu) h.2⟩
  refine k _ hfr (by rw [pe_I_nej (by decide), pe_I_ner (by omega), pe_I_ner (by omega)]) ⟨pk_Fm_frI hfr a1, a2, ⟨?_, ?_, ?_, pe_I_same⟩, ?_, fun c h0 h1 => ?_, fun p h0 h1 => ?_, fun ch h0 h1 => ?_⟩ (fun c h0 h1 => key _ _ _ _ (Int.le_refl _) (hw9.2 c h0 h1) (by unfold pk_c; omega) (a8 c h0 h1).2.2.2)
  · rw [pe_I_nej (by decide), pe_I_ner (by omega), pe_I_ner (by omega)]; exact a3
  · rw [pe_I_nej (by decide), pe_I_ner (by omega), pe_I_ner (by omega)]; exact a4
  · rw [pe_I_nej (by decide), pe_I_ner (by omega), pe_I_ner (by omega)]; exact a5
  · rw [funext e7, funext e8]
    exact pr_st_new a7 (fun i h0 h1 => by rw [if_neg (by omega), if_neg (by omega)]; exact ⟨rfl, rfl⟩) ⟨if_pos rfl, if_pos rfl⟩ hf
  · obtain ⟨b1, b2, b3, b4⟩ := a8 c h0 h1
    have hr : ∀ j, pe_I _ (pk_c B c) j = pe_I σ (pk_c B c) j := fun j => (hfr.1.2 (pk_c B c) (hout _ (by unfold pk_c; omega)) j).1
    refine ⟨pk_RCn_keep hfr.1 hT (hout _ (by unfold pk_c; omega)) b1, by rw [hr]; exact b2, ?_, hmono _ _ _ _ _ _ _ (by omega) (key _ _ _ _ (Int.le_refl _) (hw9.2 c h0 h1) (by unfold pk_c; omega) b4)⟩
    unfold pk_RCe
    rw [hr]
    rcases b3 with q | ⟨q1, q2, q3, q4, q5⟩
    · exact Or.inl q
    · exact Or.inr ⟨q1, q2, by omega, by rw [pr_wn (by omega)]; exact q4, by rw [pr_wn (by omega)]; exact q5⟩
  · rw [(hfr.1.2 (B + 1) (by unfold pk_Zn; omega) p).2]
    exact pk_RPr_fr hfr.1 hT (a9 p h0 h1)
  · obtain ⟨b1, b2⟩ := a10 ch h0 h1
    exact ⟨pk_RQ_keep (hfr.1.2 _ (hout _ (by unfold pk_q; omega)) 1).1 (fun j => (hfr.1.2 _ (hout _ (by unfold pk_q; omega)) j).1) b1, pk_RQ_keep (hfr.1.2 _ (hout _ (by unfold pk_g; omega)) 1).1 (fun j => (hfr.1.2 _ (hout _ (by unfold pk_g; omega)) j).1) b2⟩
end

