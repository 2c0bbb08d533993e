/-! THE LAW, whole: its relation to the abstract machine -/
/-- shape and codes -/
def ll_B (σ : pe_H) (g : Nat → Int) : Prop := (ll_L σ ∧ ll_g σ g) ∧ (g 3 = -2 ∧ g 891 = -3 ∧ g 892 = -4 ∧ g 879 = -5 ∧ g 885 = -5 ∧ (g 0 = -1 ∧ g 1 = -1 ∧ g 2 = -1))
def ll_R (σ : pe_H) (g : Nat → Int) (a : pa_M) : Prop := ll_B σ g ∧ (pe_I σ 3 3 = a.1 4 ∧ pe_I σ 3 4 = a.1 5 ∧ pe_I σ 3 5 = a.1 6) ∧ (∀ p, 0 ≤ p → p < 5 → ll_A σ g (pe_R σ 879 p) ((a.2.2.1 p).map Prod.fst) ∧ ll_A σ g (pe_R σ 885 p) ((a.2.2.1 p).map Prod.snd)) ∧ (∀ q, 0 ≤ q → q < 3 → ll_A σ g (pe_R σ 892 q) (a.2.2.2 0 q) ∧ ll_A σ g (pe_R σ 892 (q + 3)) (a.2.2.2 1 q)) ∧ (∀ c, 0 ≤ c → c < a.1 4 → ll_C σ g c (pe_R σ 891 c) (a.2.1 c))
/-- what steps may change: coroutines, the law's own numbers, its lines -/
def ll_Zs (z : Int) : Prop := 0 ≤ z ∨ z = -2 ∨ z = -4
theorem ll_Zc_s {c z : Int} (hc : 0 ≤ c) (h : ll_Zc c z) : ll_Zs z := by
  unfold ll_Zc at h
  unfold ll_Zs
  omega
section
variable {d o r q x y : Nat} {Z : Int → Prop} {Φ : Option pe_V → pe_H → Prop} {σ σ' : pe_H} {g g' : Nat → Int} {c e v n : Int} {a b s : pa_M} {w : pa_C}
theorem ll_R.L (h : ll_R σ g a) : ll_L σ := h.1.1.1
theorem ll_R.gg (h : ll_R σ g a) : ll_g σ g := h.1.1.2
theorem ll_R.B (h : ll_R σ g a) : ll_B σ g := h.1
theorem ll_R.co (h : ll_R σ g a) (h0 : 0 ≤ c) (h1 : c < a.1 4) : ll_C σ g c (pe_R σ 891 c) (a.2.1 c) := h.2.2.2.2 c h0 h1
theorem ll_R.mn (h : ll_R σ g a) : pe_I σ 3 3 = a.1 4 := h.2.1.1
theorem ll_R.K (h : ll_R σ g a) (h0 : 0 ≤ c) (h1 : c < a.1 4) : pe_K σ (pe_R σ 891 c) = 20 := (h.co h0 h1).1.1
theorem ll_R.st (h : ll_R σ g a) (h0 : 0 ≤ c) (h1 : c < a.1 4) : pe_I σ (pe_R σ 891 c) 3 = (a.2.1 c).1 2 := (h.co h0 h1).2.1.1.2.2.2.1
/-- shape and codes stand -/
theorem ll_B.fr0 (h : ll_B σ g) (hf : ll_fr Z x y σ g σ' g') (h3 : ∀ j, j < 8 → pe_R σ' 3 j = pe_R σ 3 j) : ll_B σ' g' := by
  obtain ⟨⟨⟨⟨a0, a00⟩, ⟨a1, a2, a3, a4, a5, a6⟩, ⟨b1, b2⟩, ⟨c1, c2⟩, ⟨d1, d2⟩, ⟨e1, e2⟩⟩, -⟩, ⟨g1, g2, g3, g4', g5, z0, z1, z2⟩⟩ := h
  have y0 : g 0 ≠ -9 := by rw [z0]; decide
  have y1 : g 1 ≠ -9 := by rw [z1]; decide
  have y2 : g 2 ≠ -9 := by rw [z2]; decide
  have q1 : g 3 ≠ -9 := by rw [g1]; decide
  have q2 : g 891 ≠ -9 := by rw [g2]; decide
  have q3 : g 892 ≠ -9 := by rw [g3]; decide
  have q4 : g 879 ≠ -9 := by rw [g4']; decide
  have q5 : g 885 ≠ -9 := by rw [g5]; decide
  have q6 : pe_K σ' 4 = pe_K σ 4 := hf.1.1.2.2.2 (by omega)
  exact ⟨⟨⟨⟨Nat.le_trans a0 hf.1.1.1, by rw [q6]; exact a00⟩, ⟨by rw [hf.K q1]; exact a1, by rw [h3 0 (by decide)]; exact a2, by rw [h3 1 (by decide)]; exact a3, by rw [h3 2 (by decide)]; exact a4, by rw [h3 6 (by decide)]; exact a5, by rw [h3 7 (by decide)]; exact a6⟩, ⟨by rw [hf.K q4]; exact b1, by rw [hf.L q4]; exact b2⟩, ⟨by rw [hf.K q5]; exact c1, by rw [hf.L q5]; exact c2⟩, ⟨by rw [hf.K q2]; exact d1, by rw [hf.L q2]; exact d2⟩, ⟨by rw [hf.K q3]; exact e1, by rw [hf.L q3]; exact e2⟩⟩, hf.gg⟩, ⟨by rw [hf.G q1]; exact g1, by rw [hf.G q2]; exact g2, by rw [hf.G q3]; exact g3, by rw [hf.G q4]; exact g4', by rw [hf.G q5]; exact g5, by rw [hf.G y0]; exact z0, by rw [hf.G y1]; exact z1, by rw [hf.G y2]; exact z2⟩⟩
theorem ll_B.fr (h : ll_B σ g) (hf : ll_fr Z x y σ g σ' g') (hz : ¬ Z (-2)) : ll_B σ' g' := h.fr0 hf (fun j _ => hf.R (by rw [h.2.1]; decide) (by rw [h.2.1]; exact hz) j)
theorem ll_B.L (h : ll_B σ g) : ll_L σ := h.1.1
/-- nothing of the law's has changed -/
theorem ll_R.fr (h : ll_R σ g a) (hw : pa_wf9 a) (hf : ll_fr Z x y σ g σ' g') (hz : ∀ z, Z z → z < -5) : ll_R σ' g' a := by
  obtain ⟨hB, a4, a5, a6, a7⟩ := h
  obtain ⟨g1, g2, g3, g4', g5, -⟩ := hB.2
  have k : ∀ (r : Nat), -5 ≤ g r → g r ≠ -9 ∧ ¬ Z (g r) := fun r hr => ⟨by omega, fun q => by have := hz _ q; omega⟩
  obtain ⟨u3, v3⟩ := k 3 (by omega)
  obtain ⟨u891, v891⟩ := k 891 (by omega)
  obtain ⟨u892, v892⟩ := k 892 (by omega)
  obtain ⟨u879, v879⟩ := k 879 (by omega)
  obtain ⟨u885, v885⟩ := k 885 (by omega)
  have n1 : ¬ Z (-1) := fun q => by have := hz _ q; omega
  refine ⟨hB.fr0 hf (fun j _ => hf.R u3 v3 j), ⟨by rw [hf.I u3 v3]; exact a4.1, by rw [hf.I u3 v3]; exact a4.2.1, by rw [hf.I u3 v3]; exact a4.2.2⟩, fun p p0 p5 => ?_, fun q q0 q3 => ?_, fun c c0 c1 => ?_⟩
  · rw [hf.R u879 v879, hf.R u885 v885]
    exact ⟨(a5 p p0 p5).1.fr hf n1, (a5 p p0 p5).2.fr hf n1⟩
  · rw [hf.R u892 v892, hf.R u892 v892]
    exact ⟨(a6 q q0 q3).1.fr hf n1, (a6 q q0 q3).2.fr hf n1⟩
  · rw [hf.R u891 v891]
    exact (a7 c c0 c1).fr hf n1 c0 (fun z hz2 q => by unfold ll_Zc at hz2; have := hz _ q; omega) (hw.2 c c0 c1)
/-- one coroutine has changed -/
theorem ll_R.one (h : ll_R σ g a) (hw : pa_wf9 a) (h0 : 0 ≤ c) (h1 : c < a.1 4) (hf : ll_fr (ll_Zc c) x y σ g σ' g') (hC : ll_C σ' g' c (pe_R σ 891 c) w) : ll_R σ' g' (pa_cw a c w) := by
  obtain ⟨hB, a4, a5, a6, a7⟩ := h
  obtain ⟨g1, g2, g3, g4', g5, -⟩ := hB.2
  have k : ∀ (r : Nat), -5 ≤ g r → g r < 0 → g r ≠ -9 ∧ ¬ ll_Zc c (g r) := fun r hr hr2 => ⟨by omega, fun q => by unfold ll_Zc at q; omega⟩
  obtain ⟨u3, v3⟩ := k 3 (by omega) (by omega)
  obtain ⟨u891, v891⟩ := k 891 (by omega) (by omega)
  obtain ⟨u892, v892⟩ := k 892 (by omega) (by omega)
  obtain ⟨u879, v879⟩ := k 879 (by omega) (by omega)
  obtain ⟨u885, v885⟩ := k 885 (by omega) (by omega)
  have n1 : ¬ ll_Zc c (-1) := fun q => by unfold ll_Zc at q; omega
  refine ⟨hB.fr0 hf (fun j _ => hf.R u3 v3 j), ⟨by rw [hf.I u3 v3]; exact a4.1, by rw [hf.I u3 v3]; exact a4.2.1, by rw [hf.I u3 v3]; exact a4.2.2⟩, fun p p0 p5 => ?_, fun q q0 q3 => ?_, fun i i0 i1 => ?_⟩
  · rw [hf.R u879 v879, hf.R u885 v885]
    exact ⟨(a5 p p0 p5).1.fr hf n1, (a5 p p0 p5).2.fr hf n1⟩
  · rw [hf.R u892 v892, hf.R u892 v892]
    exact ⟨(a6 q q0 q3).1.fr hf n1, (a6 q q0 q3).2.fr hf n1⟩
  · rw [hf.R u891 v891]
    by_cases ei : i = c
    · subst ei
      rw [pa_cw_same]
      exact hC
    · rw [pa_cw_ne ei]
      exact (a7 i i0 i1).fr hf n1 i0 (fun z hz2 q => by unfold ll_Zc at hz2 q; omega) (hw.2 i i0 i1)
/-- the law's own number 'said' -/
theorem ll_R.sd (h : ll_R σ g a) (v : Int) : ll_fr ll_Zs 0 0 σ g (pe_wI σ 3 8 v) g ∧ ll_R (pe_wI σ 3 8 v) g a := by
  have hg := h.1.2
  have hf : ll_fr (fun z => z = -2) 0 0 σ g (pe_wI σ 3 8 v) g := ll_fr_wI h.gg hg.1
  obtain ⟨hB, a4, a5, a6, a7⟩ := h
  have n1 : ¬ ((-1 : Int) = -2) := by decide
  refine ⟨ll_fr_mono hf (fun z hz => by unfold ll_Zs; omega), hB.fr0 hf (fun _ _ => rfl), ⟨by rw [pe_I_nej (by decide)]; exact a4.1, by rw [pe_I_nej (by decide)]; exact a4.2.1, by rw [pe_I_nej (by decide)]; exact a4.2.2⟩, fun p p0 p5 => ⟨(a5 p p0 p5).1.fr hf n1, (a5 p p0 p5).2.fr hf n1⟩, fun q q0 q3 => ⟨(a6 q q0 q3).1.fr hf n1, (a6 q q0 q3).2.fr hf n1⟩, fun c c0 c1 => ?_⟩
  obtain ⟨⟨p1, p2⟩, ⟨⟨b0, b1, b2, b3, b4, b5, b6, b7⟩, b8⟩, cc, dd, ee, ff⟩ := a7 c c0 c1
  have hne : pe_R σ 891 c ≠ 3 := fun e => by rw [e, hg.1] at p2; omega
  refine ⟨⟨p1, p2⟩, ⟨⟨?_, ?_, ?_, ?_, ?_, ?_, ?_, ?_⟩, fun q1 q2 => ?_⟩, cc, ?_, fun q => ll_fa.fr hf n1 _ _ (ee q), ff.fr hf n1 _ (fun i _ => by omega) (fun _ _ => rfl) c0⟩
  all_goals first
    | (rw [pe_I_ner hne]; assumption)
    | (rw [pe_R_wI, pe_I_ner hne]; assumption)
    | (rw [pe_R_wI, pe_I_ner hne]; exact b8 q1 q2)
/-- joined: o has the other's end -/
theorem k154 {nu : Nat → Int} {o2 : Nat} {v1 : pa_C} (hB : ll_B σ g) (hc : 0 ≤ c) (hC : ll_C σ g c o v1) (hl : v1.2.2.length ≤ 6) (hf : ∀ f ∈ v1.2.2, pa_wff f) (hN : ll_N (pe_wI σ o 3 1) o nu) (hn : nu 2 = 1) (he : 0 ≤ e) (hce : c ≠ e) (hC2 : ll_C σ g e o2 w) (hl2 : w.2.2.length ≤ 6) (hw : 0 ≤ w.1 2 ∧ w.1 2 ≤ 8) (k : ∀ σ' g', ll_fr (ll_Zc c) 7 14 σ g σ' g' → ll_C σ' g' c o (pa_have (nu, v1.2) w) → Φ none σ') : pe_M (d + 3) 154 [.inr (.inr 3), .inr (.inr o), .inr (.inr o2)] σ Φ := by
  have hK := hC.1.1
  have hL := hB.L
  have hg := hB.1.2
  obtain ⟨f1, C1⟩ := hC.num (j := 3) (w := 1) hg hc (by decide) hN (fun q => by omega)
  have C21 := hC2.fr f1 (by unfold ll_Zc; omega) he (fun z hz q => by unfold ll_Zc at hz q; omega) hl2
  refine pe_M_of ck154 (Nat.le_of_ble_eq_true rfl) ?_
  refine b154_0 (k := ?_)
  generalize pe_wI σ o 3 1 = σ1 at f1 C1 C21
  have B1 := hB.fr f1 (by unfold ll_Zc; omega)
  have L1 := B1.L
  have hK1 := C1.1.1
  have hK2 := C21.1.1
  have e2 : pe_I σ1 o2 3 = w.1 2 := C21.2.1.1.2.2.2.1
  have ho2 : g o2 ≠ -9 := by rw [C21.1.2]; omega
  have thr : ∀ (l : List Int) (p q : Nat) (z : Int), pa_have (nu, v1.2) w = pa_throw (nu, v1.2) (z :: l) → ll_fa σ1 g l q → pe_X (d + 2) 154 (60, [some (.inr (.inr 3)), some (.inr (.inr o)), some (.inr (.inr o2))], [.inr (.inr (pe_n σ1)), .inr (.inr o)], pe_wR (pe_wI (pe_new σ1 9 0 2) (pe_n σ1) 0 z) (pe_n σ1) 1 q) Φ := fun l p q z hE hfa => by
    have hnew : g (pe_n σ1) = -9 := f1.gg _ (Nat.le_refl _)
    have f0 : ll_fr (fun _ => False) 1 2 σ1 g (pe_new σ1 9 0 2) (ll_u g (pe_n σ1) (-1)) := ll_fr_new f1.gg
    have f2 : ll_fr (fun _ => False) 1 2 σ1 g (pe_wR (pe_wI (pe_new σ1 9 0 2) (pe_n σ1) 0 z) (pe_n σ1) 1 q) (ll_u g (pe_n σ1) (-1)) := (f0.wIn hnew).wRn hnew
    have C3 := ll_C.fr (v := (nu, v1.2)) f2 (fun h => h) hc (fun _ _ h => h) hl C1
    have B3 := B1.fr f2 (fun h => h)
    have L3 := B3.L
    have n0 : pe_n σ1 ≠ 0 := fun e => by have := ll_lt f1.gg ho2; omega
    have fa3 : ll_fa (pe_wR (pe_wI (pe_new σ1 9 0 2) (pe_n σ1) 0 z) (pe_n σ1) 1 q) (ll_u g (pe_n σ1) (-1)) (z :: l) (pe_n σ1) := by
      refine ⟨⟨n0, if_pos rfl, ll_u_s⟩, by rw [pe_I_wR, pe_I_same], ?_⟩
      rw [pe_R_same]
      exact ll_fa.fr f2 (fun h => h) _ _ hfa
    have hK3 := C3.1.1
    refine b154_60 (k := ?_)
    refine k139 hc f2.gg C3 hl hf (by show nu 2 < 3; omega) (by simp) fa3 (fun σ4 g4 f4 C4 => ?_)
    have L4 := (B3.fr f4 (by unfold ll_Zc; omega)).L
    refine b154_63 (k := ?_)
    have f2z : ll_fr (ll_Zc c) 1 2 σ1 g (pe_wR (pe_wI (pe_new σ1 9 0 2) (pe_n σ1) 0 z) (pe_n σ1) 1 q) (ll_u g (pe_n σ1) (-1)) := ll_fr_mono f2 (fun _ h => h.elim)
    refine k _ g4 (ll_fr_mono (ll_fr_trans f1 (ll_fr_trans f2z f4)) (fun z hz => hz)) ?_
    rw [hE]
    exact C4
  refine b154_5 (w0 := by rw [e2]; unfold pe_in; omega) (k1 := fun r1 => ?_) (k2 := fun r1 => ?_)
  · refine b154_25 (w0 := by rw [e2]; unfold pe_in; omega) (k1 := fun r2 => ?_) (k2 := fun r2 => ?_)
    · have n0 : ¬ pe_n σ1 = 0 := fun e => by have := ll_lt f1.gg ho2; omega
      refine b154_51 (k := ?_)
      refine pe_M.up (k132 (d := 0) n0 (if_pos rfl) ?_) (by omega)
      refine thr [] 0 0 5 ?_ rfl
      unfold pa_have
      rw [if_neg (by omega), if_neg (by omega)]
    · have f0 : ll_fr (fun _ => False) 1 2 σ1 g (pe_new σ1 9 0 2) (ll_u g (pe_n σ1) (-1)) := ll_fr_new f1.gg
      have n0 : ¬ pe_n σ1 = 0 := fun e => by have := ll_lt f1.gg ho2; omega
      have Kn : pe_K (pe_new σ1 9 0 2) o2 = 20 := (f0.K ho2).trans hK2
      refine b154_35 (k := ?_)
      rw [f0.R ho2 (fun h => h)]
      refine pe_M.up (k132 (d := 0) n0 (if_pos rfl) ?_) (by omega)
      have f2 : ll_fr (fun _ => False) 1 2 σ1 g (pe_wR (pe_wI (pe_new σ1 9 0 2) (pe_n σ1) 0 8) (pe_n σ1) 1 (pe_R σ1 o2 9)) (ll_u g (pe_n σ1) (-1)) := (f0.wIn (f1.gg _ (Nat.le_refl _))).wRn (f1.gg _ (Nat.le_refl _))
      have L2 := (B1.fr f2 (fun h => h)).L
      refine b154_48 (k := ?_)
      refine thr w.2.1 0 _ 8 ?_ (C21.2.2.2.2.1 (by omega))
      unfold pa_have
      rw [if_neg (by omega), if_pos (by omega)]
  · have e4 : pe_I σ1 o2 4 = w.1 3 := C21.2.1.1.2.2.2.2.1
    obtain ⟨f2, C2⟩ := C1.num (j := 4) (w := w.1 3) f1.gg hc (by decide) (C1.2.1.ac _) (fun q => by rw [pa_sn (by decide)] at q; exact q)
    have L2 := (B1.fr f2 (by unfold ll_Zc; omega)).L
    refine b154_14 (k := ?_)
    rw [e4]
    refine b154_22 (k := ?_)
    refine b154_63 (k := ?_)
    refine k _ g (ll_fr_mono (ll_fr_trans f1 f2) (fun z hz => hz)) ?_
    unfold pa_have
    rw [if_pos (by omega)]
    exact C2
end
