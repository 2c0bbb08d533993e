/-! THE LAW: closing, ending, sent, chain, weight -/
section
variable {d o r q x y : Nat} {Z : Int → Prop} {Φ : Option pe_V → pe_H → Prop} {σ σ' : pe_H} {g g' : Nat → Int} {c v n k0 : Int} {a : pa_C} {f f' : pa_F} {fs : List pa_F} {φ e : List Int} {nu : Nat → Int}
/-- throwing -/
theorem k139 (hc : 0 ≤ c) (hg : ll_g σ g) (hC : ll_C σ g c o a) (hl : a.2.2.length ≤ 6) (hw : ∀ f ∈ a.2.2, pa_wff f) (h3 : a.1 2 < 3) (hφ : φ ≠ []) (hfa : ll_fa σ g φ q) (k : ∀ σ' g', ll_fr (ll_Zc c) 6 12 σ g σ' g' → ll_C σ' g' c o (pa_throw a φ) → Φ none σ') : pe_M (d + 2) 139 [.inr (.inr o), .inr (.inr q)] σ Φ := by
  refine pe_M_of ck139 (Nat.le_of_ble_eq_true rfl) ?_
  refine b139_0 (k := ?_)
  exact k139_loop hc h3 _ σ g φ q _ hg (hC.S hl) hC.2.1 hw hφ hfa (fun σ' g' h1 h2 => k σ' g' (ll_fr_mono h1 (fun z hz => hz)) h2)
theorem pe_or_b {i j : Int} (hi : i = 0 ∨ i = 1) (hj : j = 0 ∨ j = 1) : pe_or i j = if i = 1 ∨ j = 1 then 1 else 0 := by
  rcases hi with rfl | rfl <;> rcases hj with rfl | rfl <;> decide
/-- closing, from its loop's head -/
theorem k140_loop (hc : 0 ≤ c) (h3 : nu 2 < 3) : ∀ (fs : List pa_F) (σ : pe_H) (g : Nat → Int) (o1 : Option pe_V), ll_g σ g → ll_S σ g c o fs → ll_N σ o nu → (∀ f ∈ fs, pa_wff f) → (∀ σ' g', ll_fr (ll_Zc c) 0 0 σ g σ' g' → ll_C σ' g' c o (pa_closeF nu e fs) → Φ none σ') → pe_X (d + 1) 140 (0, [some (.inr (.inr o)), o1], [], σ) Φ
  | [], σ, g, o1, hg, hS, hN, hw, k => by
    have hK := hS.1.1
    have h11 : pe_I σ o 11 = 0 := hS.2.2.1.1
    refine b140_0 (k1 := fun _ => ?_) (k2 := fun r => by omega)
    refine b140_61 (k := ?_)
    refine b140_67 (k := ?_)
    have g1 : ll_fr (ll_Zc c) 0 0 σ g (pe_wI σ o 3 8) g := ll_fr_wI hg (by rw [hS.1.2]; unfold ll_Zc; omega)
    refine k _ g g1 ?_
    have hS2 : ll_S (pe_wI σ o 3 8) g c o [] := by
      obtain ⟨s1, s2, s3, s4⟩ := hS
      exact ⟨s1, s2, ⟨by rw [pe_I_nej (by decide)]; exact s3.1, s3.2⟩, trivial⟩
    unfold pa_closeF
    exact hS2.C (hN.st 8 (by decide)) (fun q => by rw [pa_ss] at q; omega)
  | f :: fs, σ, g, o1, hg, hS, hN, hw, k => by
    have hK := hS.1.1
    have hl5 := hS.len
    have h11 : pe_I σ o 11 = (fs.length : Int) + 1 := by have := hS.2.2.1.1; rw [List.length_cons] at this; omega
    obtain ⟨hwf, hws⟩ := ll_S.wff hw
    have hF := hS.F
    have hFK := hF.1.1
    generalize hr : pe_R σ (pe_R σ o 10) fs.length = r at hF hFK
    have b4 := hF.2.1.2.2.2
    have w4 := hwf.2.2.2.1
    -- what is done with the frame that closes
    have hcl : ∀ (σ1 : pe_H) (f1 : pa_F) (o0 : Option pe_V), ll_fr (fun z => z = 16 * c + 2 + fs.length) 0 0 σ g σ1 g → ll_F σ1 g (16 * c + 2 + fs.length) r f1 → pa_closeF nu e (f :: fs) = (nu, e, (f1.1, f1.2.1, (if f1.2.2 = none then some [] else f1.2.2)) :: fs) → pe_X (d + 1) 140 (26, [o0, some (.inr (.inr r))], [], σ1) Φ := fun σ1 f1 o0 g1 F1 hEq => by
      have hK1 := F1.1.1
      have z6 := F1.2.2.2.z6
      have hfin : ∀ v : Int, (v = 0 ∨ v = 1) → ll_H (pe_wI σ1 r 6 (pe_or (pe_I σ1 r 6) v)) g r (if f1.2.2 = none then some [] else f1.2.2) → pe_X (d + 1) 140 (43, [o0, some (.inr (.inr r))], [.inl v, .inl (pe_I σ1 r 6), .inr (.inr r)], σ1) Φ := fun v hv hH => by
        have e2 := pe_or_b z6 hv
        refine b140_43 (h1 := by rw [e2]; split <;> omega) (k := ?_)
        refine b140_47 (k := ?_)
        have g2 : ll_fr (fun z => z = 16 * c + 2 + fs.length) 0 0 σ1 g (pe_wI σ1 r 6 (pe_or (pe_I σ1 r 6) v)) g := ll_fr_wI g1.gg F1.1.2
        have g12 := ll_fr_trans g1 g2
        obtain ⟨⟨p1, p2⟩, ⟨b1, b2, b3, b4⟩, ⟨c1, c2⟩, -⟩ := F1
        have F2 : ll_F (pe_wI σ1 r 6 (pe_or (pe_I σ1 r 6) v)) g (16 * c + 2 + fs.length) r (f1.1, f1.2.1, (if f1.2.2 = none then some [] else f1.2.2)) := ⟨⟨p1, p2⟩, ⟨by rw [pe_I_nej (by decide)]; exact b1, by rw [pe_I_nej (by decide)]; exact b2, by rw [pe_I_nej (by decide)]; exact b3, by rw [pe_I_nej (by decide)]; exact b4⟩, ⟨c1.fr g2 (by omega), c2.fr g2 (by omega)⟩, hH⟩
        have hS2 := hS.top g12 hc (by rw [hr]; exact F2)
        refine k _ g (ll_fr_mono g12 (fun z hz => by unfold ll_Zc; omega)) ?_
        rw [hEq]
        exact hS2.C (hN.fr g12 (by rw [hS.1.2]; omega) (by rw [hS.1.2]; omega)) (fun q => by omega)
      have hH := F1.2.2.2
      unfold ll_H at hH
      split at hH
      · rename_i hn
        refine b140_26 (k1 := fun r => by omega) (k2 := fun _ => ?_)
        refine b140_38 (k := ?_)
        refine hfin 1 (Or.inr rfl) ?_
        rw [if_pos hn]
        refine ⟨?_, hH.2⟩
        rw [pe_I_same, hH.1]
        decide
      · rename_i hn
        refine b140_26 (k1 := fun r => by omega) (k2 := fun _ => ?_)
        refine b140_38 (k := ?_)
        refine hfin 1 (Or.inr rfl) ?_
        rw [if_neg (by rw [hn]; simp), hn]
        refine ⟨?_, hH.2⟩
        rw [pe_I_same, hH.1]
        decide
      · rename_i z l hn
        refine b140_26 (k1 := fun _ => ?_) (k2 := fun q => absurd q hH.2.1.1)
        refine b140_42 (k := ?_)
        refine hfin 0 (Or.inl rfl) ?_
        rw [if_neg (by rw [hn]; simp), hn]
        have g2 : ll_fr (fun z => z = 16 * c + 2 + fs.length) 0 0 σ1 g (pe_wI σ1 r 6 (pe_or (pe_I σ1 r 6) 0)) g := ll_fr_wI g1.gg F1.1.2
        refine ⟨?_, ll_fa.fr g2 (by omega) _ _ hH.2⟩
        rw [pe_I_same]
        rcases z6 with q | q <;> rw [q] <;> decide
    refine b140_0 (k1 := fun r => by omega) (k2 := fun _ => ?_)
    refine b140_7 (k := ?_)
    refine pe_M.up (k137 (d := 0) hS ?_) (by omega)
    rw [hr]
    refine b140_11 (k := ?_)
    refine b140_12 (w0 := by unfold pe_in; omega) (k1 := fun q1 => ?_) (k2 := fun q1 => ?_)
    · refine hcl σ f _ (ll_fr_refl _ hg) hF ?_
      unfold pa_closeF
      rw [if_pos (by omega)]
    · refine b140_19 (k := ?_)
      refine pe_M.up (k134 (d := 0) hF hwf (fun q2 q3 => ?_) (fun q0 => ?_)) (by omega)
      · refine b140_23 (k1 := fun r => by omega) (k2 := fun _ => ?_)
        have hn : f.2.2 = none := Classical.byContradiction fun q => by have := hwf.2.2.2.2.2 q; omega
        obtain ⟨g1, F1⟩ := hF.fin (v := pa_fin f.2.1 + 1) (h := none) hg (by omega) hF.2.2.2
        refine hcl _ _ _ g1 F1 ?_
        unfold pa_closeF
        rw [if_neg (by omega), if_pos q3]
        show (nu, e, pa_catch f [] :: fs) = (nu, e, (pa_s (pa_s f.1 4 1) 2 (pa_fin f.2.1 + 1), f.2.1, if f.2.2 = none then some [] else f.2.2) :: fs)
        rw [if_pos hn]
        rfl
      · refine b140_23 (k1 := fun _ => ?_) (k2 := fun r => by omega)
        refine b140_48 (k := ?_)
        refine b140_58 (k := ?_)
        have f2 : ll_fr (ll_Zc c) 0 0 σ g (pe_wI σ o 11 (pe_I σ o 11 - 1)) g := ll_fr_wI hg (by rw [hS.1.2]; unfold ll_Zc; omega)
        refine k140_loop hc h3 fs _ g _ f2.gg (hS.pop hg hc) (hN.same (fun j hj => pe_I_nej hj)) hws (fun σ2 g2 f3 C2 => k σ2 g2 (ll_fr_trans f2 f3) ?_)
        unfold pa_closeF
        rw [if_neg (by omega), if_neg (fun q => q0 ⟨by omega, q⟩)]
        exact C2
/-- closing -/
theorem k140 (hc : 0 ≤ c) (hg : ll_g σ g) (hC : ll_C σ g c o a) (hl : a.2.2.length ≤ 6) (hw : ∀ f ∈ a.2.2, pa_wff f) (h3 : a.1 2 < 3) (k : ∀ σ' g', ll_fr (ll_Zc c) 0 0 σ g σ' g' → ll_C σ' g' c o (pa_close a) → Φ none σ') : pe_M (d + 2) 140 [.inr (.inr o)] σ Φ := by
  refine pe_M_of ck140 (Nat.le_of_ble_eq_true rfl) ?_
  exact k140_loop hc h3 _ σ g _ hg (hC.S hl) hC.2.1 hw k
/-- ending -/
theorem k141 (hc : 0 ≤ c) (hg : ll_g σ g) (hC : ll_C σ g c o a) (hw : pa_wfc a) (h3 : a.1 2 < 3) (hne : a.2.2 ≠ []) (k : ∀ σ' g', ll_fr (ll_Zc c) 6 12 σ g σ' g' → ll_C σ' g' c o (pa_endTop a) → Φ none σ') : pe_M (d + 3) 141 [.inr (.inr o)] σ Φ := by
  obtain ⟨nu, e, fr⟩ := a
  have h3 : nu 2 < 3 := h3
  have hl := hw.2.1
  cases fr with
  | nil => exact absurd rfl hne
  | cons f fs =>
    have hS := hC.S hl
    have hN : ll_N σ o nu := hC.2.1
    have hK := hS.1.1
    have hl5 := hS.len
    have h11 : pe_I σ o 11 = (fs.length : Int) + 1 := by have := hS.2.2.1.1; rw [List.length_cons] at this; omega
    obtain ⟨hwf, hws⟩ := ll_S.wff (P := pa_wff) hw.2.2.1
    have hF := hS.F
    have hFK := hF.1.1
    refine pe_M_of ck141 (Nat.le_of_ble_eq_true rfl) ?_
    refine b141_0 (k := ?_)
    refine pe_M.up (k137 (d := 0) hS ?_) (by omega)
    generalize hr : pe_R σ (pe_R σ o 10) fs.length = r at hF hFK
    refine b141_4 (k := ?_)
    refine b141_5 (k := ?_)
    have f2 : ll_fr (fun z => z = 16 * c) 0 0 σ g (pe_wI σ o 11 (pe_I σ o 11 - 1)) g := ll_fr_wI hg hS.1.2
    have S2 := hS.pop hg hc
    have N2 : ll_N (pe_wI σ o 11 (pe_I σ o 11 - 1)) o nu := hN.same (fun j hj => pe_I_nej hj)
    have H2 := hF.2.2.2.fr f2 (by omega) (pe_I_ner (fun e => by have := hF.1.2; rw [e, hS.1.2] at this; omega)) rfl
    generalize pe_wI σ o 11 (pe_I σ o 11 - 1) = σ1 at f2 S2 N2 H2
    have hK1 : pe_K σ1 r = 19 := (f2.K (by rw [hF.1.2]; omega)).trans hFK
    have hKo := S2.1.1
    have hI1 := S2.2.2.1.1
    have f2 : ll_fr (ll_Zc c) 0 0 σ g σ1 g := ll_fr_mono f2 (fun z hz => by unfold ll_Zc; omega)
    have C2 : ll_C σ1 g c o (nu, e, fs) := S2.C N2 (fun q => by omega)
    have z6 := H2.z6
    unfold ll_H at H2
    split at H2
    · rename_i hn
      refine b141_15 (k1 := fun _ => ?_) (k2 := fun r => by omega)
      refine b141_33 (k1 := fun _ => ?_) (k2 := fun r => by omega)
      cases fs with
      | nil =>
        rw [List.length_nil] at hI1
        refine b141_47 (k1 := fun r => by omega) (k2 := fun _ => ?_)
        refine b141_54 (k := ?_)
        refine b141_60 (k := ?_)
        have f3 : ll_fr (ll_Zc c) 0 0 σ1 g (pe_wI σ1 o 3 6) g := ll_fr_wI f2.gg (by rw [S2.1.2]; unfold ll_Zc; omega)
        refine k _ g (ll_fr_mono (ll_fr_trans f2 f3) (fun z hz => hz)) ?_
        unfold pa_endTop
        dsimp only
        rw [hn]
        have S3 : ll_S (pe_wI σ1 o 3 6) g c o [] := by
          obtain ⟨s1, s2, s3, s4⟩ := S2
          exact ⟨s1, s2, ⟨by rw [pe_I_nej (by decide)]; exact s3.1, s3.2⟩, trivial⟩
        exact S3.C (N2.st 6 (by decide)) (fun q => by rw [pa_ss] at q; omega)
      | cons f2' fs2 =>
        rw [List.length_cons] at hI1 hl5
        refine b141_47 (k1 := fun _ => ?_) (k2 := fun r => by omega)
        refine b141_60 (k := ?_)
        refine k _ g (ll_fr_mono f2 (fun z hz => hz)) ?_
        unfold pa_endTop
        dsimp only
        rw [hn]
        exact C2
    · rename_i hn
      refine b141_15 (k1 := fun _ => ?_) (k2 := fun r => by omega)
      refine b141_33 (k1 := fun r => by omega) (k2 := fun _ => ?_)
      refine b141_40 (k := ?_)
      refine pe_M.up (k140 (d := 0) (a := (nu, e, fs)) hc f2.gg C2 (by show fs.length ≤ 6; omega) hws h3 (fun σ3 g3 f3 C3 => ?_)) (by omega)
      refine b141_44 (k := ?_)
      refine b141_60 (k := ?_)
      refine k _ g3 (ll_fr_mono (ll_fr_trans f2 f3) (fun z hz => hz)) ?_
      unfold pa_endTop
      dsimp only
      rw [hn]
      exact C3
    · rename_i z l hn
      refine b141_15 (k1 := fun q => absurd q H2.2.1.1) (k2 := fun _ => ?_)
      refine b141_22 (k := ?_)
      refine pe_M.up (k139 (d := 0) (a := (nu, e, fs)) hc f2.gg C2 (by show fs.length ≤ 6; omega) hws h3 (by simp) H2.2 (fun σ3 g3 f3 C3 => ?_)) (by omega)
      refine b141_30 (k := ?_)
      refine b141_60 (k := ?_)
      refine k _ g3 (ll_fr_mono (ll_fr_trans f2 f3) (fun z hz => hz)) ?_
      unfold pa_endTop
      dsimp only
      rw [hn]
      exact C3
/-- numbers alone -/
theorem ll_C.num {j w : Int} (hg : ll_g σ g) (hc : 0 ≤ c) (hC : ll_C σ g c o a) (hj : j ≠ 11) (hN : ll_N (pe_wI σ o j w) o nu) (h7 : nu 2 = 7 → a.1 2 = 7) : ll_fr (ll_Zc c) 0 0 σ g (pe_wI σ o j w) g ∧ ll_C (pe_wI σ o j w) g c o (nu, a.2) := by
  obtain ⟨⟨a1, a2⟩, -, b, d, e, f⟩ := hC
  have hf : ll_fr (fun z => z = 16 * c) 0 0 σ g (pe_wI σ o j w) g := ll_fr_wI hg a2
  refine ⟨ll_fr_mono hf (fun z hz => by unfold ll_Zc; omega), ⟨a1, a2⟩, hN, b, by rw [pe_I_nej (fun q => hj q.symm)]; exact d, fun q => ll_fa.fr hf (by omega) _ _ (e (h7 q)), ?_⟩
  exact f.fr hf (by omega) _ (fun i _ => by omega) (fun _ _ => rfl) hc
theorem ll_N.ac (h : ll_N σ o nu) (w : Int) : ll_N (pe_wI σ o 4 w) o (pa_s nu 3 w) := by
  obtain ⟨⟨b0, b1, b2, b3, b4, b5, b6, b7⟩, b8⟩ := h
  refine ⟨⟨?_, ?_, ?_, ?_, ?_, ?_, ?_, ?_⟩, fun q1 q2 => ?_⟩
  · rw [pe_I_nej (by decide), pa_sn (by decide)]; exact b0
  · rw [pe_I_nej (by decide), pa_sn (by decide)]; exact b1
  · rw [pe_I_nej (by decide), pa_sn (by decide)]; exact b2
  · rw [pe_I_nej (by decide), pa_sn (by decide)]; exact b3
  · rw [pe_I_same, pa_ss]
  · rw [pe_I_nej (by decide), pa_sn (by decide)]; exact b5
  · rw [pe_I_nej (by decide), pa_sn (by decide)]; exact b6
  · rw [pe_I_nej (by decide), pa_sn (by decide)]; exact b7
  · rw [pa_sn (by decide)] at q1 q2
    rw [pe_I_nej (by decide), pa_sn (by decide)]
    exact b8 q1 q2
/-- sent -/
theorem k142 (hc : 0 ≤ c) (hg : ll_g σ g) (hC : ll_C σ g c o a) (hw : pa_wfn a.1) (hv : 0 ≤ v ∧ v ≤ 999) (k : ∀ σ', ll_fr (ll_Zc c) 0 0 σ g σ' g → ll_C σ' g c o (pa_take a v) → Φ none σ') : pe_M (d + 1) 142 [.inr (.inr o), .inl v] σ Φ := by
  have hK := hC.1.1
  obtain ⟨⟨b0, b1, b2, b3, b4, b5, b6, b7⟩, b8⟩ := hC.2.1
  obtain ⟨-, w2, w3, -, -, -, w20, w21, -⟩ := hw
  have fin : ∀ (σ1 : pe_H) (nu : Nat → Int), ll_fr (ll_Zc c) 0 0 σ g σ1 g → ll_C σ1 g c o (nu, a.2) → (nu 2 = a.1 2) → (pa_take a v).1 = pa_s nu 2 1 → pe_X d 142 (54, [some (.inr (.inr o)), some (.inl v)], [], σ1) Φ := fun σ1 nu f1 C1 h2 hE => by
    have hK1 := C1.1.1
    refine b142_54 (k := ?_)
    refine b142_59 (k := ?_)
    obtain ⟨f2, C2⟩ := C1.num (j := 3) (w := 1) f1.gg hc (by decide) (C1.2.1.st 1 (by decide)) (fun q => by rw [pa_ss] at q; omega)
    refine k _ (ll_fr_trans f1 f2) ?_
    have : pa_take a v = (pa_s nu 2 1, a.2) := Prod.ext hE rfl
    rw [this]
    exact C2
  have put : ∀ (w : Int), a.1 2 = 2 → pa_sent (a.1 20) (a.1 21) v (a.1 3) = w → pe_X d 142 (51, [some (.inr (.inr o)), some (.inl v)], [.inl w, .inr (.inr o)], σ) Φ := fun w h2 hs => by
    refine b142_51 (k := ?_)
    obtain ⟨f1, C1⟩ := hC.num (j := 4) (w := w) hg hc (by decide) (hC.2.1.ac w) (fun q => by rw [pa_sn (by decide)] at q; exact q)
    refine fin _ _ f1 C1 (pa_sn (by decide)) ?_
    show pa_s (if a.1 2 = 2 then pa_s a.1 3 (pa_sent (a.1 20) (a.1 21) v (a.1 3)) else a.1) 2 1 = _
    rw [if_pos h2, hs]
  have nothing : (pa_take a v).1 = pa_s a.1 2 1 → pe_X d 142 (54, [some (.inr (.inr o)), some (.inl v)], [], σ) Φ := fun hE => fin σ a.1 (ll_fr_refl _ hg) hC rfl hE
  have go : a.1 2 = 2 → ¬ (a.1 20 = 5 ∧ v = 0) → pe_X d 142 (20, [some (.inr (.inr o)), some (.inl v)], [], σ) Φ := fun h2 h5 => by
    have mod : a.1 20 = 1 ∨ a.1 20 = 3 → pe_X d 142 (37, [some (.inr (.inr o)), some (.inl v)], [.inr (.inr o)], σ) Φ := fun q => by
      refine b142_37 (h1 := by decide) (k := ?_)
      rw [b2]
      refine put _ h2 ?_
      unfold pa_sent
      rw [if_pos q]
    refine b142_20 (k1 := fun r1 => ?_) (k2 := fun r1 => ?_)
    · exact mod (Or.inl (by omega))
    · refine b142_29 (k1 := fun r2 => ?_) (k2 := fun r2 => ?_)
      · refine b142_50 (k := ?_)
        refine put _ h2 ?_
        unfold pa_sent
        rw [if_neg (by omega)]
        split
        · rw [if_neg (fun q => h5 ⟨by assumption, q⟩)]
        · rfl
      · exact mod (Or.inr (by omega))
  refine pe_M_of ck142 (Nat.le_of_ble_eq_true rfl) ?_
  refine b142_0 (k1 := fun r1 => ?_) (k2 := fun r1 => ?_)
  · refine nothing ?_
    show pa_s (if a.1 2 = 2 then _ else a.1) 2 1 = _
    rw [if_neg (by omega)]
  · refine b142_8 (k1 := fun r2 => ?_) (k2 := fun r2 => ?_)
    · exact go (by omega) (by omega)
    · refine b142_16 (k1 := fun r3 => ?_) (k2 := fun r3 => ?_)
      · refine nothing ?_
        show pa_s (if a.1 2 = 2 then pa_s a.1 3 (pa_sent (a.1 20) (a.1 21) v (a.1 3)) else a.1) 2 1 = _
        rw [if_pos (by omega)]
        have : pa_sent (a.1 20) (a.1 21) v (a.1 3) = a.1 3 := by
          unfold pa_sent
          rw [if_neg (by omega), if_pos (by omega), if_pos r3]
        rw [this]
        have e : pa_s a.1 3 (a.1 3) = a.1 := by
          funext j
          unfold pa_s
          split
          · rename_i e; rw [e]
          · rfl
        rw [e]
      · exact go (by omega) (by omega)
/-- chain -/
theorem k143_loop : ∀ (l : List Int) (q : Nat) (n : Int) (o0 : Option pe_V), ll_fa σ g l q → Φ (some (.inl (n + l.length))) σ → pe_X d 143 (7, [o0, some (.inl n), some (.inr (.inr q))], [], σ) Φ
  | [], q, n, o0, h, k => by
    have h : q = 0 := h
    refine b143_7 (k1 := fun _ => ?_) (k2 := fun r => by omega)
    refine b143_22 (k := ?_)
    rw [List.length_nil] at k
    have e : n + ((0 : Nat) : Int) = n := by omega
    rw [e] at k
    exact k
  | z :: l, q, n, o0, h, k => by
    obtain ⟨⟨h0, h1, -⟩, -, h2⟩ := h
    refine b143_7 (k1 := fun r => by omega) (k2 := fun _ => ?_)
    refine b143_11 (k := ?_)
    refine b143_19 (k := ?_)
    refine k143_loop l _ (n + 1) _ h2 ?_
    rw [List.length_cons] at k
    rw [show n + 1 + (l.length : Int) = n + ((l.length + 1 : Nat) : Int) by push_cast; omega]
    exact k
theorem k143 (hK : pe_K σ o = 20) (hf : ll_fa σ g φ (pe_R σ o 9)) (k : Φ (some (.inl (φ.length : Int))) σ) : pe_M (d + 1) 143 [.inr (.inr o)] σ Φ := by
  refine pe_M_of ck143 (Nat.le_of_ble_eq_true rfl) ?_
  refine b143_0 (k := ?_)
  refine k143_loop φ _ 0 _ hf ?_
  rw [Int.zero_add]
  exact k
end
