/-! THE LAW: blocked, does -/
section
variable {d o r q x y : Nat} {Z : Int → Prop} {Φ : Option pe_V → pe_H → Prop} {σ σ' : pe_H} {g g' : Nat → Int} {c e v n : Int} {a b s : pa_M} {w : pa_C} {nu : Nat → Int} {k0 : Nat} {l : List Int} {f : pa_F} {fs : List pa_F}
/-- a number of one coroutine -/
theorem ll_R.num {j : Int} (hR : ll_R σ g a) (hw : pa_wf9 a) (h0 : 0 ≤ c) (h1 : c < a.1 4) (hj : j ≠ 11) (hN : ll_N (pe_wI σ (pe_R σ 891 c) j v) (pe_R σ 891 c) nu) (h7 : nu 2 = 7 → (a.2.1 c).1 2 = 7) : ll_fr ll_Zs 0 0 σ g (pe_wI σ (pe_R σ 891 c) j v) g ∧ ll_R (pe_wI σ (pe_R σ 891 c) j v) g (pa_cw a c (nu, (a.2.1 c).2)) := by
  obtain ⟨p1, C1⟩ := (hR.co h0 h1).num hR.gg h0 hj hN h7
  exact ⟨ll_fr_mono p1 (fun z hz => ll_Zc_s h0 hz), hR.one hw h0 h1 p1 C1⟩
theorem ll_N.j {i : Nat} {j : Int} (hji : (j = 5 ∧ i = 4) ∨ (j = 6 ∧ i = 5) ∨ (j = 7 ∧ i = 6)) (h : ll_N σ o nu) (w : Int) : ll_N (pe_wI σ o j w) o (pa_s nu i w) := by
  obtain ⟨⟨b0, b1, b2, b3, b4, b5, b6, b7⟩, b8⟩ := h
  rcases hji with ⟨rfl, rfl⟩ | ⟨rfl, rfl⟩ | ⟨rfl, rfl⟩ <;> refine ⟨⟨?_, ?_, ?_, ?_, ?_, ?_, ?_, ?_⟩, fun q1 q2 => ?_⟩ <;> simp [pe_I_w, pa_s] at * <;> first | assumption | exact b8 q1 q2
/-- a number of the frame on top -/
theorem ll_F.j {i : Nat} {j k1 : Int} (hji : (j = 3 ∧ i = 2) ∨ (j = 4 ∧ i = 3) ∨ (j = 5 ∧ i = 4)) (hg : ll_g σ g) (hF : ll_F σ g k1 r f) (hk : k1 ≠ -1) : ll_fr (fun z => z = k1) 0 0 σ g (pe_wI σ r j v) g ∧ ll_F (pe_wI σ r j v) g k1 r (pa_s f.1 i v, f.2) := by
  obtain ⟨⟨a1, a2⟩, ⟨b1, b2, b3, b4⟩, ⟨c1, c2⟩, d⟩ := hF
  have h1 : ll_fr (fun z => z = k1) 0 0 σ g (pe_wI σ r j v) g := ll_fr_wI hg a2
  refine ⟨h1, ⟨a1, a2⟩, ?_, ⟨c1.fr h1 (fun e => hk e.symm), c2.fr h1 (fun e => hk e.symm)⟩, d.fr h1 (fun e => hk e.symm) (pe_I_nej (by omega)) rfl⟩
  rcases hji with ⟨rfl, rfl⟩ | ⟨rfl, rfl⟩ | ⟨rfl, rfl⟩ <;> refine ⟨?_, ?_, ?_, ?_⟩ <;> simp [pe_I_w, pa_s] <;> assumption
theorem ll_R.S (hR : ll_R σ g a) (hw : pa_wf9 a) (h0 : 0 ≤ c) (h1 : c < a.1 4) (hfs : (a.2.1 c).2.2 = f :: fs) : ll_S σ g c (pe_R σ 891 c) (f :: fs) := by
  have := (hR.co h0 h1).S (hw.2 c h0 h1)
  rw [hfs] at this
  exact this
theorem ll_R.top {i : Nat} {j : Int} (hji : (j = 3 ∧ i = 2) ∨ (j = 4 ∧ i = 3) ∨ (j = 5 ∧ i = 4)) (hR : ll_R σ g a) (hw : pa_wf9 a) (h0 : 0 ≤ c) (h1 : c < a.1 4) (hfs : (a.2.1 c).2.2 = f :: fs) : ll_fr ll_Zs 0 0 σ g (pe_wI σ (pe_R σ (pe_R σ (pe_R σ 891 c) 10) fs.length) j v) g ∧ ll_R (pe_wI σ (pe_R σ (pe_R σ (pe_R σ 891 c) 10) fs.length) j v) g (pa_cw a c ((a.2.1 c).1, (a.2.1 c).2.1, (pa_s f.1 i v, f.2) :: fs)) := by
  have hS := hR.S hw h0 h1 hfs
  have hl := hS.len
  have hC := hR.co h0 h1
  obtain ⟨p1, F1⟩ := ll_F.j (v := v) hji hR.gg hS.F (by omega)
  have hS1 := hS.top p1 h0 F1
  have hg : g (pe_R σ 891 c) ≠ -9 := by rw [hC.1.2]; omega
  have hn : ¬ g (pe_R σ 891 c) = 16 * c + 2 + fs.length := by rw [hC.1.2]; omega
  have hN := hC.2.1.fr p1 hg hn
  have C1 : ll_C _ g c (pe_R σ 891 c) ((a.2.1 c).1, (a.2.1 c).2.1, (pa_s f.1 i v, f.2) :: fs) := hS1.C hN (fun q => by
    rw [p1.R hg hn]
    exact ll_fa.fr p1 (by omega) _ _ (hC.2.2.2.2.1 q))
  have p2 : ll_fr (ll_Zc c) 0 0 σ g _ g := ll_fr_mono p1 (fun z hz => by unfold ll_Zc; omega)
  exact ⟨ll_fr_mono p2 (fun z hz => ll_Zc_s h0 hz), hR.one hw h0 h1 p2 C1⟩
/-- a fault without a cause -/
theorem kThrR (hR : ll_R σ g a) (hw : pa_wf9 a) : ll_fr (fun _ => False) 1 2 σ g (pe_wR (pe_wI (pe_new σ 9 0 2) (pe_n σ) 0 v) (pe_n σ) 1 0) (ll_u g (pe_n σ) (-1)) ∧ ll_R (pe_wR (pe_wI (pe_new σ 9 0 2) (pe_n σ) 0 v) (pe_n σ) 1 0) (ll_u g (pe_n σ) (-1)) a := by
  have hg9 := hR.gg _ (Nat.le_refl (pe_n σ))
  have f0 : ll_fr (fun _ => False) 1 2 σ g (pe_new σ 9 0 2) (ll_u g (pe_n σ) (-1)) := ll_fr_new hR.gg
  have f2 := (f0.wIn (j := 0) (v := v) hg9).wRn (j := 1) (q := 0) hg9
  exact ⟨f2, hR.fr hw f2 (fun _ h => h.elim)⟩
theorem kThr (hR : ll_R σ g a) (hwf : pa_wf0 a) (h0 : 0 ≤ c) (h1 : c < a.1 4) (h3 : (a.2.1 c).1 2 < 3) (k : ∀ σ' g', ll_fr ll_Zs 7 14 σ g σ' g' → ll_R σ' g' (pa_cw a c (pa_throw (a.2.1 c) [v])) → Φ none σ') : pe_M (d + 2) 139 [.inr (.inr (pe_R σ 891 c)), .inr (.inr (pe_n σ))] (pe_wR (pe_wI (pe_new σ 9 0 2) (pe_n σ) 0 v) (pe_n σ) 1 0) Φ := by
  obtain ⟨f2, hR2⟩ := kThrR (v := v) hR hwf.w9
  have hn3 : 3 < pe_n σ := ll_lt hR.gg (by rw [hR.B.2.1]; decide)
  have rR : pe_R (pe_wR (pe_wI (pe_new σ 9 0 2) (pe_n σ) 0 v) (pe_n σ) 1 0) 891 c = pe_R σ 891 c := f2.R (by rw [hR.B.2.2.1]; decide) (fun h => h) _
  have hC := hR2.co h0 h1
  rw [rR] at hC
  have hwc := hwf.2.2.1 c h0 h1
  have fa : ll_fa (pe_wR (pe_wI (pe_new σ 9 0 2) (pe_n σ) 0 v) (pe_n σ) 1 0) (ll_u g (pe_n σ) (-1)) [v] (pe_n σ) := by
    refine ⟨⟨by omega, if_pos rfl, ll_u_s⟩, by rw [pe_I_wR, pe_I_same], ?_⟩
    rw [pe_R_same]
    rfl
  refine k139 h0 f2.gg hC hwc.2.1 hwc.2.2.1 h3 (by simp) fa (fun σ4 g4 f4 C4 => ?_)
  have f2z : ll_fr ll_Zs 1 2 σ g (pe_wR (pe_wI (pe_new σ 9 0 2) (pe_n σ) 0 v) (pe_n σ) 1 0) (ll_u g (pe_n σ) (-1)) := ll_fr_mono f2 (fun _ h => h.elim)
  have f4z : ll_fr ll_Zs 6 12 _ _ σ4 g4 := ll_fr_mono f4 (fun z hz => ll_Zc_s h0 hz)
  refine k σ4 g4 (ll_fr_mono (ll_fr_trans f2z f4z) (fun _ h => h)) ?_
  exact hR2.one hwf.w9 h0 h1 f4 (by rw [rR]; exact C4)
theorem pa_on_ac {u : Nat → Int} {v : Int} : pa_s (pa_s (pa_s u 2 1) 7 (-4)) 3 v = pa_s (pa_s (pa_s u 3 v) 2 1) 7 (-4) := by
  funext i
  unfold pa_s
  by_cases h3 : i = 3
  · subst h3; simp
  · by_cases h7 : i = 7
    · subst h7; simp
    · simp [h3, h7]
/-- blocked -/
theorem k156 (hR : ll_R σ g a) (hwf : pa_wf3 a) (h0 : 0 ≤ c) (h1 : c < a.1 4) (h3 : (a.2.1 c).1 2 = 1) {lt : Int} (hl : lt = 115 ∨ lt = 103 ∨ lt = 106) (hn0 : 0 ≤ n) (hn9 : n ≤ 9) (k : ∀ σ' g', ll_fr ll_Zs 12 96 σ g σ' g' → ll_R σ' g' (pa_live a c lt n (a.2.1 c)) → Φ none σ') : pe_M (d + 4) 156 [.inr (.inr 3), .inl c, .inl lt, .inl n] σ Φ := by
  have h8 := hwf.1.1
  have hw9 := hwf.1.w9
  have hL := hR.L
  have hg := hR.gg
  have hwc := hwf.1.2.2.1 c h0 h1
  have hK := hR.K h0 h1
  have e3 := hR.mn
  have hn3' : 3 < pe_n σ := ll_lt hg (by rw [hR.B.2.1]; decide)
  have n0 : pe_n σ ≠ 0 := by omega
  have hlt : 97 ≤ lt ∧ lt ≤ 122 := by omega
  have thr : pa_live a c lt n (a.2.1 c) = pa_cw a c (pa_throw (a.2.1 c) [6]) → pe_X (d + 3) 156 (35, [some (.inr (.inr 3)), some (.inl c), some (.inl lt), some (.inl n), some (.inr (.inr (pe_R σ 891 c)))], [], σ) Φ := fun hE => by
    refine b156_35 (k := ?_)
    refine pe_M.up (k132 (d := 0) n0 (if_pos rfl) ?_) (by omega)
    obtain ⟨f2, hR2⟩ := kThrR (v := 6) hR hw9
    have hL2 := hR2.L
    have hKz : pe_K (pe_wR (pe_wI (pe_new σ 9 0 2) (pe_n σ) 0 6) (pe_n σ) 1 0) (pe_R σ 891 c) = 20 := (f2.K (by rw [(hR.co h0 h1).1.2]; omega)).trans hK
    refine b156_47 (k := ?_)
    refine pe_M.up (kThr (d := 0) hR hwf.1 h0 h1 (by omega) (fun σ4 g4 f4 hR4 => ?_)) (by omega)
    have hL4 := hR4.L
    refine b156_50 (k := ?_)
    refine b156_194 (k := ?_)
    refine k σ4 g4 (ll_fr_mono f4 (fun _ h => h)) ?_
    rw [hE]
    exact hR4
  refine pe_M_of ck156 (Nat.le_of_ble_eq_true rfl) ?_
  refine b156_0 (k := ?_)
  rcases hl with rfl | rfl | rfl
  · have hE : pa_live a c 115 n (a.2.1 c) = pa_sendAt a c (a.2.1 c) n := by simp [pa_live]
    rw [hE] at k thr
    refine b156_8 (k1 := fun _ => ?_) (k2 := fun r => by omega)
    refine b156_30 (k1 := fun r1 => ?_) (k2 := fun r1 => ?_)
    · refine b156_53 (k1 := fun _ => ?_) (k2 := fun r => by omega)
      refine b156_87 (k1 := fun _ => ?_) (k2 := fun r => by omega)
      refine b156_108 (k1 := fun r => by omega) (k2 := fun _ => ?_)
      have hA := hR.ln0 (k0 := 1) (by decide) hn0 (by omega : n < 3)
      have e : n + 3 * ((1 : Nat) : Int) = 3 + n := by omega
      rw [e] at hA
      have hAK := hA.1.1
      have hAL := hA.2.1
      obtain ⟨f1, f2, f3⟩ := pa_wfq_b (k := 1) hwf.2.1 h8.2 (by decide) hn0 (by omega : n < 3)
      refine b156_114 (k1 := fun r2 => ?_) (k2 := fun r2 => ?_)
      · have hl0 : a.2.2.2 1 n = [] := List.length_eq_zero_iff.mp (by omega)
        refine b156_144 (k1 := fun _ => ?_) (k2 := fun r => by omega)
        refine b156_176 (k1 := fun r => by omega) (k2 := fun _ => ?_)
        refine b156_183 (k := ?_)
        refine b156_190 (k := ?_)
        have key := k151 (d := 0) (k0 := 0) hR hwf h0 h1 (by omega) (by decide) hn0 (by omega : n < 3) (Φ := fun r σ' => pe_X (d + 3) 156 (194, [some (.inr (.inr 3)), some (.inl c), some (.inl 115), some (.inl n), some (.inr (.inr (pe_R σ 891 c)))], r.toList ++ [], σ') Φ) (fun σ4 g4 f4 hR4 => by
          have hL4 := hR4.L
          refine b156_194 (k := ?_)
          refine k σ4 g4 (ll_fr_mono f4 (fun _ h => h)) ?_
          unfold pa_sendAt
          rw [if_neg (by omega), hl0]
          exact hR4)
        rw [show n + 3 * ((0 : Nat) : Int) = n by omega] at key
        exact pe_M.up key (by omega)
      · obtain ⟨z, l, hl⟩ := List.exists_cons_of_ne_nil (l := a.2.2.2 1 n) (fun e => by rw [e] at hAL; simp at hAL; omega)
        have hz := ((hwf.2.1 1 (by decide) n hn0 (by omega)).2 z).mp (by rw [hl]; exact List.mem_cons_self)
        have hzc : z ≠ c := fun e => by rw [e] at hz; omega
        refine b156_126 (k := ?_)
        have key := k153 (d := 0) (k0 := 1) hR hwf (by decide) hn0 (by omega : n < 3) hl (Φ := fun r σ' => pe_X (d + 3) 156 (133, [some (.inr (.inr 3)), some (.inl c), some (.inl 115), some (.inl n), some (.inr (.inr (pe_R σ 891 c)))], r.toList ++ [], σ') Φ) (fun σ4 g4 f4 hR4 => by
          have hL4 := hR4.L
          have r891 : ∀ i, pe_R σ4 891 i = pe_R σ 891 i := fun i => f4.R (by rw [hR.B.2.2.1]; decide) (by rw [hR.B.2.2.1]; unfold ll_Zs; decide) i
          have hz0 := hz.1.1
          have hz1 := hz.1.2
          have hK4 := hR4.K hz0 hz1
          have hK4c := hR4.K h0 h1
          have a4 : pe_I σ4 (pe_R σ 891 c) 4 = (a.2.1 c).1 3 := by
            have := (hR4.co h0 h1).2.1.1.2.2.2.2.1
            rw [r891, pa_cw_ne (fun e => hzc e.symm)] at this
            exact this
          rw [r891] at hK4 hK4c
          have hN4 := (hR4.co hz0 hz1).2.1.ac ((a.2.1 c).1 3)
          obtain ⟨p5, hR5⟩ := hR4.num (pa_wf9_cw (a := pa_qw a 1 n _) hw9 (hw9.2 z hz0 hz1)) hz0 hz1 (by decide) hN4 (fun q => by rw [pa_cw_same] at q ⊢; rw [pa_sn (by decide)] at q; exact q)
          rw [r891] at p5
          rw [pa_cw_same, r891] at hR5
          have hL5 := hR5.L
          refine b156_133 (k := ?_)
          rw [a4]
          refine b156_141 (k := ?_)
          refine b156_194 (k := ?_)
          refine k _ _ (ll_fr_mono (ll_fr_trans f4 p5) (fun _ h => h)) ?_
          unfold pa_sendAt
          rw [if_neg (by omega), hl, pa_cw_id]
          refine hR5.congr rfl (fun i i0 i1 => ?_) (fun _ _ _ => rfl) (fun _ _ _ => ⟨rfl, rfl⟩)
          by_cases ei : i = z
          · subst ei
            rw [pa_cw_same]
            show (pa_cw a i _).2.1 i = _
            rw [pa_cw_same]
            exact Prod.ext pa_on_ac.symm rfl
          · rw [pa_cw_ne ei, pa_cw_ne ei]
            show (pa_cw a z _).2.1 i = _
            rw [pa_cw_ne ei]
            rfl)
        rw [e] at key
        exact pe_M.up key (by omega)
    · refine thr ?_
      unfold pa_sendAt
      rw [if_pos (by omega)]
  · have hE : pa_live a c 103 n (a.2.1 c) = pa_getAt a c (a.2.1 c) n := by simp [pa_live]
    rw [hE] at k thr
    refine b156_8 (k1 := fun _ => ?_) (k2 := fun r => by omega)
    refine b156_30 (k1 := fun r1 => ?_) (k2 := fun r1 => ?_)
    · refine b156_53 (k1 := fun _ => ?_) (k2 := fun r => by omega)
      refine b156_87 (k1 := fun _ => ?_) (k2 := fun r => by omega)
      refine b156_108 (k1 := fun _ => ?_) (k2 := fun r => by omega)
      refine b156_144 (k1 := fun r => by omega) (k2 := fun _ => ?_)
      have hA := hR.ln0 (k0 := 0) (by decide) hn0 (by omega : n < 3)
      have e : n + 3 * ((0 : Nat) : Int) = n := by omega
      rw [e] at hA
      have hAK := hA.1.1
      have hAL := hA.2.1
      obtain ⟨f1, f2, f3⟩ := pa_wfq_b (k := 0) hwf.2.1 h8.2 (by decide) hn0 (by omega : n < 3)
      refine b156_150 (k1 := fun r2 => ?_) (k2 := fun r2 => ?_)
      · have hl0 : a.2.2.2 0 n = [] := List.length_eq_zero_iff.mp (by omega)
        refine b156_176 (k1 := fun _ => ?_) (k2 := fun r => by omega)
        refine b156_187 (k := ?_)
        refine b156_190 (k := ?_)
        have key := k151 (d := 0) (k0 := 1) hR hwf h0 h1 (by omega) (by decide) hn0 (by omega : n < 3) (Φ := fun r σ' => pe_X (d + 3) 156 (194, [some (.inr (.inr 3)), some (.inl c), some (.inl 103), some (.inl n), some (.inr (.inr (pe_R σ 891 c)))], r.toList ++ [], σ') Φ) (fun σ4 g4 f4 hR4 => by
          have hL4 := hR4.L
          refine b156_194 (k := ?_)
          refine k σ4 g4 (ll_fr_mono f4 (fun _ h => h)) ?_
          unfold pa_getAt
          rw [if_neg (by omega), hl0]
          exact hR4)
        rw [show n + 3 * ((1 : Nat) : Int) = 3 + n by omega] at key
        exact pe_M.up key (by omega)
      · obtain ⟨z, l, hl⟩ := List.exists_cons_of_ne_nil (l := a.2.2.2 0 n) (fun e => by rw [e] at hAL; simp at hAL; omega)
        have hz := ((hwf.2.1 0 (by decide) n hn0 (by omega)).2 z).mp (by rw [hl]; exact List.mem_cons_self)
        have hzc : z ≠ c := fun e => by rw [e] at hz; omega
        refine b156_160 (k := ?_)
        have key := k153 (d := 0) (k0 := 0) hR hwf (by decide) hn0 (by omega : n < 3) hl (Φ := fun r σ' => pe_X (d + 3) 156 (167, [some (.inr (.inr 3)), some (.inl c), some (.inl 103), some (.inl n), some (.inr (.inr (pe_R σ 891 c)))], r.toList ++ [.inr (.inr (pe_R σ 891 c))], σ') Φ) (fun σ4 g4 f4 hR4 => by
          have hL4 := hR4.L
          have r891 : ∀ i, pe_R σ4 891 i = pe_R σ 891 i := fun i => f4.R (by rw [hR.B.2.2.1]; decide) (by rw [hR.B.2.2.1]; unfold ll_Zs; decide) i
          have hz0 := hz.1.1
          have hz1 := hz.1.2
          have hK4 := hR4.K hz0 hz1
          have hK4c := hR4.K h0 h1
          have a4 : pe_I σ4 (pe_R σ 891 z) 4 = (a.2.1 z).1 3 := by
            have := (hR4.co hz0 hz1).2.1.1.2.2.2.2.1
            rw [r891, pa_cw_same] at this
            exact this
          rw [r891] at hK4 hK4c
          have hN4 := (hR4.co h0 h1).2.1.ac ((a.2.1 z).1 3)
          obtain ⟨p5, hR5⟩ := hR4.num (pa_wf9_cw (a := pa_qw a 0 n _) hw9 (hw9.2 z hz0 hz1)) h0 h1 (by decide) hN4 (fun q => by rw [pa_sn (by decide)] at q; exact q)
          rw [r891] at p5
          rw [pa_cw_ne (fun e => hzc e.symm), r891] at hR5
          have hL5 := hR5.L
          refine b156_167 (k := ?_)
          rw [a4]
          refine b156_173 (k := ?_)
          refine b156_194 (k := ?_)
          refine k _ _ (ll_fr_mono (ll_fr_trans f4 p5) (fun _ h => h)) ?_
          unfold pa_getAt
          rw [if_neg (by omega), hl, pa_cw_id]
          refine hR5.congr rfl (fun i i0 i1 => ?_) (fun _ _ _ => rfl) (fun _ _ _ => ⟨rfl, rfl⟩)
          show (pa_cw (pa_cw a c _) z _).2.1 i = _
          by_cases ec : i = c
          · subst ec
            rw [pa_cw_same, pa_cw_ne (fun e => hzc e.symm), pa_cw_same]
            rfl
          · rw [pa_cw_ne ec]
            by_cases ei : i = z
            · subst ei
              rw [pa_cw_same, pa_cw_same, pa_cw_ne ec]
            · rw [pa_cw_ne ei, pa_cw_ne ei, pa_cw_ne ec]
              rfl)
        rw [e] at key
        exact pe_M.up key (by omega)
    · refine thr ?_
      unfold pa_getAt
      rw [if_pos (by omega)]
  · have hE : pa_live a c 106 n (a.2.1 c) = pa_cw a c (pa_join a c (a.2.1 c) n) := by simp [pa_live]
    rw [hE] at k thr
    refine b156_8 (k1 := fun r => by omega) (k2 := fun _ => ?_)
    refine b156_14 (k1 := fun r1 => ?_) (k2 := fun r1 => ?_)
    · refine thr ?_
      unfold pa_join
      rw [if_pos (Or.inl r1)]
    · refine b156_19 (w0 := by rw [e3]; unfold pe_in; omega) (k1 := fun r2 => ?_) (k2 := fun r2 => ?_)
      · have hn1 : n < a.1 4 := by omega
        have hKn := hR.K hn0 hn1
        have es := hR.st hn0 hn1
        have hwn := hwf.1.2.2.1 n hn0 hn1
        have hb := hwn.1.2.1
        refine b156_53 (k1 := fun r => by omega) (k2 := fun _ => ?_)
        refine b156_59 (k1 := fun r3 => ?_) (k2 := fun r3 => ?_)
        · refine b156_87 (k1 := fun r => by omega) (k2 := fun _ => ?_)
          refine b156_93 (k := ?_)
          have hN1 : ll_N (pe_wI σ (pe_R σ 891 c) 3 5) (pe_R σ 891 c) (pa_s (pa_s (a.2.1 c).1 2 5) 7 (pe_I σ (pe_R σ 891 c) 8)) := by
            obtain ⟨⟨b0, b1, b2, b3, b4, b5, b6, b7⟩, b8⟩ := (hR.co h0 h1).2.1
            refine ⟨⟨?_, ?_, ?_, ?_, ?_, ?_, ?_, ?_⟩, fun q1 q2 => ?_⟩ <;> simp [pe_I_w, pa_s] <;> assumption
          obtain ⟨p1, C1⟩ := (hR.co h0 h1).num hg h0 (by decide) hN1 (fun q => by simp [pa_s] at q)
          have hL5 := (hR.B.fr p1 (by unfold ll_Zc; omega)).L
          have hK5 := C1.1.1
          have hN2 : ll_N (pe_wI (pe_wI σ (pe_R σ 891 c) 3 5) (pe_R σ 891 c) 8 n) (pe_R σ 891 c) (pa_wait (a.2.1 c) n 5).1 := by
            obtain ⟨⟨b0, b1, b2, b3, b4, b5, b6, b7⟩, b8⟩ := (hR.co h0 h1).2.1
            refine ⟨⟨?_, ?_, ?_, ?_, ?_, ?_, ?_, ?_⟩, fun q1 q2 => ?_⟩ <;> simp [pe_I_w, pa_s, pa_wait] <;> assumption
          obtain ⟨p2, C2⟩ := C1.num p1.gg h0 (by decide) hN2 (fun q => by simp [pa_s, pa_wait] at q)
          refine b156_99 (k := ?_)
          have p12 := ll_fr_trans p1 p2
          have hR2 := hR.one hw9 h0 h1 p12 C2
          have hL6 := hR2.L
          refine b156_105 (k := ?_)
          refine b156_194 (k := ?_)
          refine k _ _ (ll_fr_mono p12 (fun z hz => ll_Zc_s h0 hz)) ?_
          unfold pa_join
          rw [if_neg (by omega), if_neg (by omega)]
          exact hR2
        · refine b156_72 (k := ?_)
          have hCc := hR.co h0 h1
          have e1 : pa_s (a.2.1 c).1 2 1 = (a.2.1 c).1 := by
            funext j
            unfold pa_s
            split
            · rename_i e; rw [e, h3]
            · rfl
          have hNs := hCc.2.1.st 1 (by decide)
          rw [e1] at hNs
          refine pe_M.up (k154 (d := 0) (nu := (a.2.1 c).1) hR.B h0 hCc hwc.2.1 hwc.2.2.1 hNs h3 hn0 (fun e => r1 e.symm) (hR.co hn0 hn1) hwn.2.1 ⟨by omega, by omega⟩ (fun σ3 g3 f1 C3 => ?_)) (by omega)
          have hR3 := hR.one hw9 h0 h1 f1 C3
          have hL3 := hR3.L
          refine b156_84 (k := ?_)
          refine b156_194 (k := ?_)
          refine k _ _ (ll_fr_mono f1 (fun z hz => ll_Zc_s h0 hz)) ?_
          unfold pa_join
          rw [if_neg (by omega), if_pos (by omega)]
          exact hR3
      · refine b156_27 (k := ?_)
        refine thr ?_
        unfold pa_join
        rw [if_pos (Or.inr (by omega))]
end
