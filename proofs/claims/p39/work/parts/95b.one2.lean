/-! THE LAW: throwing, closing, ending, sent, chain, weight -/
section
variable {d o r q x y : Nat} {Z : Int → Prop} {Φ : Option pe_V → pe_H → Prop} {σ σ' : pe_H} {g g' : Nat → Int} {c v n k0 : Int} {a : pa_C} {f f' : pa_F} {fs : List pa_F} {φ e : List Int} {nu : Nat → Int}
/-- what wasn't made then may be written -/
theorem ll_fr.wIn {j : Int} (h : ll_fr Z x y σ g σ' g') (hr : g r = -9) : ll_fr Z x y σ g (pe_wI σ' r j v) g' := ⟨h.1, fun a ha => ⟨(h.2 a ha).1, (h.2 a ha).2.1, fun hz k => ⟨by rw [pe_I_ner (fun e => ha (by rw [e]; exact hr))]; exact ((h.2 a ha).2.2 hz k).1, ((h.2 a ha).2.2 hz k).2⟩⟩⟩
theorem ll_fr.wRn {j : Int} (h : ll_fr Z x y σ g σ' g') (hr : g r = -9) : ll_fr Z x y σ g (pe_wR σ' r j q) g' := ⟨h.1, fun a ha => ⟨(h.2 a ha).1, (h.2 a ha).2.1, fun hz k => ⟨((h.2 a ha).2.2 hz k).1, by rw [pe_R_ner (fun e => ha (by rw [e]; exact hr))]; exact ((h.2 a ha).2.2 hz k).2⟩⟩⟩
theorem ll_fr.cpyn {s : Nat} {sp dp m : Int} (h : ll_fr Z x y σ g σ' g') (hr : g r = -9) : ll_fr Z x y σ g (pe_cpy σ' s sp r dp m) g' := ⟨h.1, fun a ha => ⟨(h.2 a ha).1, (h.2 a ha).2.1, fun hz k => ⟨(if_neg (fun e => ha (by rw [e.1]; exact hr))).trans ((h.2 a ha).2.2 hz k).1, ((h.2 a ha).2.2 hz k).2⟩⟩⟩
theorem ll_S.fr (hf : ll_fr Z x y σ g σ' g') (hz : ¬ Z (-1)) (hc : 0 ≤ c) (hk : ∀ z, ll_Zc c z → ¬ Z z) (h : ll_S σ g c o fs) : ll_S σ' g' c o fs := by
  obtain ⟨⟨a1, a2⟩, ⟨b1, b2, b3⟩, ⟨c1, c2⟩, d1⟩ := h
  have hr : g o ≠ -9 := by rw [a2]; omega
  have hn : ¬ Z (g o) := by rw [a2]; exact hk _ ⟨by omega, by omega⟩
  have hr1 : g (pe_R σ o 10) ≠ -9 := by rw [b3]; omega
  have hn1 : ¬ Z (g (pe_R σ o 10)) := by rw [b3]; exact hk _ ⟨by omega, by omega⟩
  have e := hf.R hr hn 10
  refine ⟨⟨by rw [hf.K hr]; exact a1, by rw [hf.G hr]; exact a2⟩, ?_, ⟨by rw [hf.I hr hn]; exact c1, c2⟩, ?_⟩
  · rw [e]
    exact ⟨by rw [hf.K hr1]; exact b1, by rw [hf.L hr1]; exact b2, by rw [hf.G hr1]; exact b3⟩
  · rw [e]
    exact d1.fr hf hz fs (fun i hi => hk _ ⟨by omega, by omega⟩) (fun i _ => hf.R hr1 hn1 _) hc
theorem ll_N.fr (hf : ll_fr Z x y σ g σ' g') (hr : g o ≠ -9) (hn : ¬ Z (g o)) (h : ll_N σ o nu) : ll_N σ' o nu := by
  unfold ll_N
  simp only [hf.I hr hn]
  exact h
/-- the frame on top has changed -/
theorem ll_S.top (hf : ll_fr (fun z => z = 16 * c + 2 + fs.length) x y σ g σ' g') (hc : 0 ≤ c) (h : ll_S σ g c o (f :: fs)) (hF : ll_F σ' g' (16 * c + 2 + fs.length) (pe_R σ (pe_R σ o 10) fs.length) f') : ll_S σ' g' c o (f' :: fs) := by
  obtain ⟨⟨a1, a2⟩, ⟨b1, b2, b3⟩, ⟨c1, c2⟩, -, d2⟩ := h
  have hr : g o ≠ -9 := by rw [a2]; omega
  have hn : ¬ g o = 16 * c + 2 + fs.length := by rw [a2]; omega
  have hr1 : g (pe_R σ o 10) ≠ -9 := by rw [b3]; omega
  have hn1 : ¬ g (pe_R σ o 10) = 16 * c + 2 + fs.length := by rw [b3]; omega
  have e := hf.R hr hn 10
  refine ⟨⟨by rw [hf.K hr]; exact a1, by rw [hf.G hr]; exact a2⟩, ?_, ⟨by rw [hf.I hr hn]; exact c1, c2⟩, ?_⟩
  · rw [e]
    exact ⟨by rw [hf.K hr1]; exact b1, by rw [hf.L hr1]; exact b2, by rw [hf.G hr1]; exact b3⟩
  · rw [e]
    exact ⟨by rw [hf.R hr1 hn1]; exact hF, d2.fr hf (by omega) fs (fun i hi => by omega) (fun i _ => hf.R hr1 hn1 _) hc⟩
theorem ll_S.F (h : ll_S σ g c o (f :: fs)) : ll_F σ g (16 * c + 2 + fs.length) (pe_R σ (pe_R σ o 10) fs.length) f := h.2.2.2.1
theorem ll_S.len (h : ll_S σ g c o (f :: fs)) : fs.length ≤ 5 := by
  have := h.2.2.1.2
  rw [List.length_cons] at this
  omega
/-- what finishes leaves -/
theorem ll_F.fin {h : Option (List Int)} (hg : ll_g σ g) (hF : ll_F σ g k0 r f) (hk : k0 ≠ -1) (hh : ll_H σ g r f.2.2) : ll_fr (fun z => z = k0) 0 0 σ g (pe_wI (pe_wI σ r 3 v) r 5 1) g ∧ ll_F (pe_wI (pe_wI σ r 3 v) r 5 1) g k0 r (pa_s (pa_s f.1 4 1) 2 v, f.2) := by
  obtain ⟨⟨a1, a2⟩, ⟨b1, b2, b3, b4⟩, ⟨c1, c2⟩, d⟩ := hF
  have h1 : ll_fr (fun z => z = k0) 0 0 σ g (pe_wI σ r 3 v) g := ll_fr_wI hg a2
  have h2 : ll_fr (fun z => z = k0) 0 0 σ g (pe_wI (pe_wI σ r 3 v) r 5 1) g := ll_fr_trans h1 (ll_fr_wI h1.gg a2)
  refine ⟨h2, ⟨a1, a2⟩, ⟨?_, ?_, ?_, ?_⟩, ⟨c1.fr h2 (fun e => hk e.symm), c2.fr h2 (fun e => hk e.symm)⟩, d.fr h2 (fun e => hk e.symm) ?_ rfl⟩
  · show pe_I _ r 0 = pa_s (pa_s f.1 4 1) 2 v 1
    rw [pe_I_nej (by decide), pe_I_nej (by decide), pa_sn (by decide), pa_sn (by decide)]; exact b1
  · show pe_I _ r 3 = pa_s (pa_s f.1 4 1) 2 v 2
    rw [pe_I_nej (by decide), pe_I_same, pa_ss]
  · show pe_I _ r 4 = pa_s (pa_s f.1 4 1) 2 v 3
    rw [pe_I_nej (by decide), pe_I_nej (by decide), pa_sn (by decide), pa_sn (by decide)]; exact b3
  · show pe_I _ r 5 = pa_s (pa_s f.1 4 1) 2 v 4
    rw [pe_I_same, pa_sn (by decide), pa_ss]
  · rw [pe_I_nej (by decide), pe_I_nej (by decide)]
theorem ll_fa.nz {l : List Int} (h : ll_fa σ g l r) : r = 0 ↔ l = [] := by
  cases l with
  | nil => exact ⟨fun _ => rfl, fun _ => h⟩
  | cons z l => exact ⟨fun e => absurd e h.1.1, fun e => by cases e⟩
theorem ll_fa.at0 {z : Int} {l : List Int} (h : ll_fa σ g (z :: l) r) : pe_K σ r = 9 ∧ pe_I σ r 0 = z ∧ (pe_R σ r 1 = 0 ↔ l = []) := ⟨h.1.2.1, h.2.1, ll_fa.nz h.2.2⟩
/-- a frame catches -/
theorem ll_F.catch (hg : ll_g σ g) (hF : ll_F σ g k0 r (pa_s (pa_s f.1 4 1) 2 v, f.2)) (hk : k0 ≠ -1) (h6 : pe_I σ r 6 = 0 ∨ pe_I σ r 6 = 1) (hv : v = pa_fin f.2.1 + 1) (hφ : φ ≠ []) (hfa : ll_fa σ g φ q) : ll_fr (fun z => z = k0) 0 0 σ g (pe_wR σ r 7 q) g ∧ ll_F (pe_wR σ r 7 q) g k0 r (pa_catch f φ) := by
  obtain ⟨⟨a1, a2⟩, b, ⟨c1, c2⟩, -⟩ := hF
  have h1 : ll_fr (fun z => z = k0) 0 0 σ g (pe_wR σ r 7 q) g := ll_fr_wR hg a2
  subst hv
  refine ⟨h1, ⟨a1, a2⟩, b, ?_, ?_⟩
  · rw [pe_R_nej (by decide), pe_R_nej (by decide)]
    exact ⟨c1.fr h1 (fun e => hk e.symm), c2.fr h1 (fun e => hk e.symm)⟩
  · cases φ with
    | nil => exact absurd rfl hφ
    | cons z l =>
      refine ⟨h6, ?_⟩
      rw [pe_R_same]
      exact ll_fa.fr h1 (fun e => hk e.symm) _ _ hfa
theorem ll_H.z6 {h : Option (List Int)} (hh : ll_H σ g r h) : pe_I σ r 6 = 0 ∨ pe_I σ r 6 = 1 := by
  unfold ll_H at hh
  split at hh
  · exact Or.inl hh.1
  · exact Or.inr hh.1
  · exact hh.1
theorem ll_S.wff {P : pa_F → Prop} (h : ∀ z ∈ f :: fs, P z) : P f ∧ ∀ z ∈ fs, P z := ⟨h f List.mem_cons_self, fun z hz => h z (List.mem_cons_of_mem _ hz)⟩
/-- throwing, from its loop's head -/
theorem k139_loop (hc : 0 ≤ c) (h3 : nu 2 < 3) : ∀ (fs : List pa_F) (σ : pe_H) (g : Nat → Int) (φ : List Int) (q : Nat) (o1 : Option pe_V), ll_g σ g → ll_S σ g c o fs → ll_N σ o nu → (∀ f ∈ fs, pa_wff f) → φ ≠ [] → ll_fa σ g φ q → (∀ σ' g', ll_fr (ll_Zc c) fs.length (2 * fs.length) σ g σ' g' → ll_C σ' g' c o (pa_throwF nu e fs φ) → Φ none σ') → pe_X (d + 1) 139 (2, [some (.inr (.inr o)), o1, some (.inr (.inr q))], [], σ) Φ
  | [], σ, g, φ, q, o1, hg, hS, hN, hw, hφ, hfa, k => by
    have hK := hS.1.1
    have h11 : pe_I σ o 11 = 0 := hS.2.2.1.1
    refine b139_2 (k1 := fun _ => ?_) (k2 := fun r => by omega)
    refine b139_72 (k1 := fun r => by omega) (k2 := fun _ => ?_)
    refine b139_79 (k := ?_)
    refine b139_85 (h0 := hK) (k := ?_)
    refine b139_90 (k := ?_)
    refine b139_101 (k := ?_)
    have g1 : ll_fr (ll_Zc c) 0 0 σ g (pe_wI σ o 3 7) g := ll_fr_wI hg (by rw [hS.1.2]; unfold ll_Zc; omega)
    have g2 : ll_fr (ll_Zc c) 0 0 σ g (pe_wR (pe_wI σ o 3 7) o 9 q) g := ll_fr_trans g1 (ll_fr_wR g1.gg (by rw [hS.1.2]; unfold ll_Zc; omega))
    refine k _ g g2 ?_
    have hS2 : ll_S (pe_wR (pe_wI σ o 3 7) o 9 q) g c o [] := by
      obtain ⟨s1, s2, s3, s4⟩ := hS
      refine ⟨s1, ?_, ⟨by rw [pe_I_wR, pe_I_nej (by decide)]; exact s3.1, s3.2⟩, trivial⟩
      rw [pe_R_nej (by decide)]
      exact s2
    unfold pa_throwF
    refine hS2.C (ll_N.same (hN.st 7 (by decide)) (fun j _ => rfl)) (fun _ => ?_)
    rw [pe_R_same]
    exact ll_fa.fr g2 (by unfold ll_Zc; omega) _ _ hfa
  | f :: fs, σ, g, φ, q, o1, hg, hS, hN, hw, hφ, hfa, k => by
    have hK := hS.1.1
    have hl5 := hS.len
    have h11 : pe_I σ o 11 = (fs.length : Int) + 1 := by have := hS.2.2.1.1; rw [List.length_cons] at this; omega
    obtain ⟨hwf, hws⟩ := ll_S.wff hw
    have hF := hS.F
    have hFK := hF.1.1
    generalize hr : pe_R σ (pe_R σ o 10) fs.length = r at hF hFK
    have hor : o ≠ r := fun e => by have := hF.1.2; rw [← e, hS.1.2] at this; omega
    refine b139_2 (k1 := fun r => by omega) (k2 := fun _ => ?_)
    refine b139_9 (k := ?_)
    refine pe_M.up (k137 (d := 0) hS ?_) (by omega)
    rw [hr]
    refine b139_13 (k := ?_)
    refine pe_M.up (k134 (d := 0) hF hwf (fun q1 q2 => ?_) (fun q0 => ?_)) (by omega)
    · obtain ⟨g1, F1⟩ := hF.fin (v := pa_fin f.2.1 + 1) (h := none) hg (by omega) hF.2.2.2
      have z6 := hF.2.2.2.z6
      generalize hσ : pe_wI (pe_wI σ r 3 (pa_fin f.2.1 + 1)) r 5 1 = σ1 at g1 F1
      have hS1 := hS.top g1 hc (by rw [hr]; exact F1)
      have hK1 := hS1.1.1
      have h111 : pe_I σ1 o 11 = (fs.length : Int) + 1 := by have := hS1.2.2.1.1; rw [List.length_cons] at this; omega
      refine b139_16 (k1 := fun _ => ?_) (k2 := fun r => by omega)
      refine b139_72 (k1 := fun _ => ?_) (k2 := fun r => by omega)
      refine b139_93 (k := ?_)
      refine pe_M.up (k137 (d := 0) hS1 ?_) (by omega)
      have hr1 : pe_R σ1 (pe_R σ1 o 10) fs.length = r := by rw [← hσ]; exact hr
      rw [hr1]
      have hFK1 := F1.1.1
      refine b139_97 (k := ?_)
      refine b139_101 (k := ?_)
      obtain ⟨g2, F2⟩ := F1.catch g1.gg (by omega) (by rw [← hσ, pe_I_nej (by decide), pe_I_nej (by decide)]; exact z6) rfl hφ (ll_fa.fr g1 (by omega) _ _ hfa)
      have hS2 := hS1.top g2 hc (by rw [hr1]; exact F2)
      have g12 := ll_fr_trans g1 g2
      refine k _ g (ll_fr_mono g12 (fun z hz => by unfold ll_Zc; omega)) ?_
      unfold pa_throwF
      rw [if_pos ⟨q1, q2⟩]
      exact hS2.C (hN.fr g12 (by rw [hS.1.2]; omega) (by rw [hS.1.2]; omega)) (fun q => by omega)
    · have hpop : ∀ (σ1 : pe_H) (g1 : Nat → Int) (q1 : Nat) (o1 : Option pe_V), ll_fr (ll_Zc c) 1 2 σ g σ1 g1 → ll_S σ1 g1 c o (f :: fs) → ll_N σ1 o nu → ll_fa σ1 g1 (pa_add φ f.2.2) q1 → pe_X (d + 1) 139 (58, [some (.inr (.inr o)), o1, some (.inr (.inr q))], [.inr (.inr q1)], σ1) Φ := fun σ1 g1 q1 o1 f1 S1 N1 fa1 => by
        have hK1 := S1.1.1
        refine b139_58 (k := ?_)
        refine b139_59 (k := ?_)
        refine b139_69 (k := ?_)
        have f2 : ll_fr (ll_Zc c) 0 0 σ1 g1 (pe_wI σ1 o 11 (pe_I σ1 o 11 - 1)) g1 := ll_fr_wI f1.gg (by rw [S1.1.2]; unfold ll_Zc; omega)
        refine k139_loop hc h3 fs _ g1 (pa_add φ f.2.2) q1 _ f1.gg (S1.pop f1.gg hc) (N1.same (fun j hj => pe_I_nej hj)) hws (pa_add_ne hφ) (ll_fa.fr f2 (by unfold ll_Zc; omega) _ _ fa1) (fun σ2 g2 f3 C2 => k σ2 g2 (ll_fr_mono (ll_fr_trans (ll_fr_trans f1 f2) f3) (fun z hz => hz) (by rw [List.length_cons]; omega) (by rw [List.length_cons]; omega)) ?_)
        unfold pa_throwF
        rw [if_neg q0]
        exact C2
      refine b139_16 (k1 := fun r => by omega) (k2 := fun _ => ?_)
      cases φ with
      | nil => exact absurd rfl hφ
      | cons z l =>
        obtain ⟨p1, p2, p3⟩ := hfa.at0
        refine b139_19 (k1 := fun r1 => ?_) (k2 := fun r1 => ?_)
        · have hl : l ≠ [] := fun e => r1 (p3.mpr e)
          refine b139_57 (k := ?_)
          refine hpop σ g q _ (ll_fr_mono (ll_fr_refl _ hg) (fun z hz => hz)) hS hN ?_
          have : pa_add (z :: l) f.2.2 = z :: l := by
            unfold pa_add
            split
            · rw [if_neg (by rw [List.length_cons]; have := List.length_pos_iff.mpr hl; omega)]
            · rfl
          rw [this]
          exact hfa
        · have hl : l = [] := p3.mp r1
          refine b139_26 (k := ?_)
          refine pe_M.up (k137 (d := 0) hS ?_) (by omega)
          rw [hr]
          have hH := hF.2.2.2
          refine b139_30 (k1 := fun r2 => ?_) (k2 := fun r2 => ?_)
          · refine b139_57 (k := ?_)
            refine hpop σ g q _ (ll_fr_mono (ll_fr_refl _ hg) (fun z hz => hz)) hS hN ?_
            have : pa_add (z :: l) f.2.2 = z :: l := by
              unfold pa_add
              unfold ll_H at hH
              split
              · rename_i w ws hw9
                rw [hw9] at hH
                exact absurd r2 hH.2.1.1
              · rfl
            rw [this]
            exact hfa
          · unfold ll_H at hH
            split at hH
            · exact absurd hH.2 r2
            · exact absurd hH.2 r2
            · rename_i w ws hw9
              have hnew : g (pe_n σ) = -9 := hg _ (Nat.le_refl _)
              have hn9 : ∀ a, g a ≠ -9 → a ≠ pe_n σ := fun a ha e => ha (by rw [e]; exact hnew)
              have f1 : ll_fr (ll_Zc c) 1 2 σ g (pe_new σ 9 0 2) (ll_u g (pe_n σ) (-1)) := ll_fr_new hg
              have g9o : g o ≠ -9 := by rw [hS.1.2]; omega
              have g9q : g q ≠ -9 := by rw [hfa.1.2.2]; decide
              have Ko : pe_K (pe_new σ 9 0 2) o = 20 := (f1.K g9o).trans hK
              have Kq : pe_K (pe_new σ 9 0 2) q = 9 := (f1.K g9q).trans p1
              have f0 : ll_fr (fun _ => False) 1 2 σ g (pe_new σ 9 0 2) (ll_u g (pe_n σ) (-1)) := ll_fr_new hg
              have S1 := hS.fr f0 (fun h => h) hc (fun z _ h => h)
              refine b139_36 (k := ?_)
              refine pe_M.up (k137 (d := 0) S1 ?_) (by omega)
              have er : pe_R (pe_new σ 9 0 2) (pe_R (pe_new σ 9 0 2) o 10) fs.length = r := by
                rw [f0.R g9o (fun h => h), f0.R (by rw [hS.2.1.2.2]; omega) (fun h => h)]
                exact hr
              rw [er]
              have g9r : g r ≠ -9 := by rw [hF.1.2]; omega
              have Kr : pe_K (pe_new σ 9 0 2) r = 19 := (f0.K g9r).trans hFK
              have n0 : pe_n σ ≠ 0 := fun e => by have := ll_lt hg g9o; omega
              refine b139_48 (k := ?_)
              have e0 : pe_I (pe_new σ 9 0 2) q 0 = z := (f0.I g9q (fun h => h) 0).trans p2
              have e7 : pe_R (pe_new σ 9 0 2) r 7 = pe_R σ r 7 := f0.R g9r (fun h => h) 7
              rw [e0, e7]
              refine pe_M.up (k132 (d := 0) n0 (if_pos rfl) ?_) (by omega)
              refine b139_54 (k := ?_)
              have f2 : ll_fr (fun _ => False) 1 2 σ g (pe_wR (pe_wI (pe_new σ 9 0 2) (pe_n σ) 0 z) (pe_n σ) 1 (pe_R σ r 7)) (ll_u g (pe_n σ) (-1)) := (f0.wIn hnew).wRn hnew
              refine hpop _ _ (pe_n σ) _ (ll_fr_mono f2 (fun _ h => h.elim)) (hS.fr f2 (fun h => h) hc (fun z _ h => h)) (hN.fr f2 g9o (fun h => h)) ?_
              have : pa_add (z :: l) f.2.2 = z :: (w :: ws) := by
                unfold pa_add
                rw [hw9, hl]
                rfl
              rw [this]
              refine ⟨⟨n0, if_pos rfl, ll_u_s⟩, ?_, ?_⟩
              · rw [pe_I_wR, pe_I_same]
              · rw [pe_R_same]
                exact ll_fa.fr f2 (fun h => h) _ _ hH.2
end
