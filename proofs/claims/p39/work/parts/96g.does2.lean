/-! THE LAW: does -/
section
variable {d o r q x y : Nat} {Z : Int → Prop} {Φ : Option pe_V → pe_H → Prop} {σ σ' : pe_H} {g g' : Nat → Int} {c e v n : Int} {a b s : pa_M} {w : pa_C} {nu : Nat → Int} {k0 : Nat} {l : List Int} {f : pa_F} {fs : List pa_F}
theorem k158 (hR : ll_R σ g a) (hwf : pa_wf3 a) (h0 : 0 ≤ c) (h1 : c < a.1 4) (h3 : (a.2.1 c).1 2 = 1) {lt : Int} (hl : lt = 121 ∨ lt = 114 ∨ lt = 100 ∨ lt = 115 ∨ lt = 103 ∨ lt = 106) (hn0 : 0 ≤ n) (hn9 : n ≤ 9) (hfs : (a.2.1 c).2.2 = f :: fs) (k : ∀ σ' g', ll_fr ll_Zs 12 96 σ g σ' g' → ll_R σ' g' (pa_live a c lt n (a.2.1 c)) → Φ none σ') : pe_M (d + 5) 158 [.inr (.inr 3), .inl c, .inr (.inr (pe_R σ (pe_R σ (pe_R σ 891 c) 10) fs.length)), .inl lt, .inl n] σ Φ := by
  have h8 := hwf.1.1
  have hw9 := hwf.1.w9
  have hL := hR.L
  have hg := hR.gg
  have hwc := hwf.1.2.2.1 c h0 h1
  have hK := hR.K h0 h1
  have hC := hR.co h0 h1
  have hS := hR.S hw9 h0 h1 hfs
  have hl5 := hS.len
  have hF := hS.F
  have hKf := hF.1.1
  have hff := pa_wfc_top hwc hfs
  obtain ⟨-, f2, f3, f4, -, -⟩ := hff
  obtain ⟨-, ⟨-, -, t3, t4⟩, -, -⟩ := hF
  obtain ⟨⟨b0, b1, b2, b3, b4, b5, b6, b7⟩, b8⟩ := hC.2.1
  obtain ⟨w0, w2, w3, w4, w5, w6, w20, w21, -⟩ := hwc.1
  have hn3' : 3 < pe_n σ := ll_lt hg (by rw [hR.B.2.1]; decide)
  have n0 : pe_n σ ≠ 0 := by omega
  generalize hfr : pe_R σ (pe_R σ (pe_R σ 891 c) 10) fs.length = rf at hKf t3 t4 ⊢
  have hog : g (pe_R σ 891 c) ≠ -9 := by rw [hC.1.2]; omega
  by_cases hbl : lt = 115 ∨ lt = 103 ∨ lt = 106
  · skip
    refine pe_M_of ck158 (Nat.le_of_ble_eq_true rfl) ?_
    refine b158_0 (k := ?_)
    refine b158_8 (k1 := fun _ => ?_) (k2 := fun r => by omega)
    refine b158_123 (k1 := fun _ => ?_) (k2 := fun r => by omega)
    refine b158_163 (k1 := fun _ => ?_) (k2 := fun r => by omega)
    refine b158_249 (k := ?_)
    refine pe_M.up (k156 (d := 0) hR hwf h0 h1 h3 hbl hn0 hn9 (fun σ4 g4 f4 hR4 => ?_)) (by omega)
    have hL4 := hR4.L
    refine b158_257 (k := ?_)
    exact k _ _ f4 hR4
  · have hl : lt = 121 ∨ lt = 114 ∨ lt = 100 := by omega
    clear hbl
    rcases hl with rfl | rfl | rfl
    · have hE : pa_live a c 121 n (a.2.1 c) = pa_cw a c (pa_yields (a.2.1 c) n) := by simp [pa_live]
      rw [hE] at k
      have hu := pa_tmod_b (x := (a.2.1 c).1 3 + n) (by omega)
      have fin : ∀ (yv : Int) (u : Int), yv = pa_yield ((a.2.1 c).1 20) ((a.2.1 c).1 21) (Int.tmod ((a.2.1 c).1 3 + n) 1000) → pe_X (d + 4) 158 (81, [some (.inr (.inr 3)), some (.inl c), some (.inr (.inr rf)), some (.inl 121), some (.inl n), some (.inr (.inr (pe_R σ 891 c))), some (.inl u)], [.inl yv, .inr (.inr (pe_R σ 891 c))], σ) Φ := fun yv u hy => by
        refine b158_81 (k := ?_)
        obtain ⟨p1, hR1⟩ := hR.num hw9 h0 h1 (by decide) (ll_N.j (Or.inl ⟨rfl, rfl⟩) hC.2.1 yv) (fun q => by rw [pa_sn (by decide)] at q; exact q)
        have hL1 := hR1.L
        have hC1 := hR1.co h0 h1
        have hK1 := hC1.1.1
        have hw1 : pa_wf9 (pa_cw a c (pa_s (a.2.1 c).1 4 yv, (a.2.1 c).2)) := pa_wf9_cw hw9 (hw9.2 c h0 h1)
        have i6 := hC1.2.1.1.2.2.2.2.2.2.1
        rw [pa_cw_same] at hC1 i6
        have r1 : pe_R (pe_wI σ (pe_R σ 891 c) 5 yv) 891 c = pe_R σ 891 c := rfl
        rw [r1] at hC1 hK1 i6
        have i6 : pe_I (pe_wI σ (pe_R σ 891 c) 5 yv) (pe_R σ 891 c) 6 = (a.2.1 c).1 5 := by rw [i6]; simp [pa_s]
        generalize hs1 : pe_wI σ (pe_R σ 891 c) 5 yv = σ1 at *
        refine b158_84 (k := ?_)
        rw [i6]
        generalize hs : (if (a.2.1 c).1 5 + 1 < 999 then (a.2.1 c).1 5 + 1 else 999) = s1
        have hs' : s1 = if (a.2.1 c).1 5 < 999 then (a.2.1 c).1 5 + 1 else 999 := by
          rw [← hs]
          split <;> split <;> omega
        obtain ⟨p2, hR2⟩ := hR1.num hw1 h0 h1 (j := 6) (v := s1) (by decide) (ll_N.j (i := 5) (Or.inr (Or.inl ⟨rfl, rfl⟩)) (by rw [r1]; exact hC1.2.1) s1) (fun q => by rw [pa_cw_same]; rw [pa_sn (by decide)] at q; exact q)
        rw [pa_cw_same, pa_cw_cw, r1] at hR2
        rw [r1] at p2
        have hL2 := hR2.L
        have hw2 : pa_wf9 (pa_cw a c (pa_s (pa_s (a.2.1 c).1 4 yv) 5 s1, (a.2.1 c).2)) := pa_wf9_cw hw9 (hw9.2 c h0 h1)
        have hC2 := hR2.co h0 h1
        have r2 : pe_R (pe_wI σ1 (pe_R σ 891 c) 6 s1) 891 c = pe_R σ 891 c := r1
        rw [pa_cw_same, r2] at hC2
        have hK2 := hC2.1.1
        generalize pe_wI σ1 (pe_R σ 891 c) 6 s1 = σ2 at *
        refine b158_102 (k := ?_)
        obtain ⟨p3, hR3⟩ := hR2.num hw2 h0 h1 (j := 3) (v := 2) (by decide) (by rw [r2]; exact hC2.2.1.st 2 (by decide)) (fun q => by rw [pa_ss] at q; omega)
        rw [pa_cw_same, pa_cw_cw, r2] at hR3
        rw [r2] at p3
        have hL3 := hR3.L
        refine b158_108 (k := ?_)
        obtain ⟨p4, hR4⟩ := hR3.sd (pe_or (pe_I (pe_wI σ2 (pe_R σ 891 c) 3 2) 3 8) (pe_shl 1 c))
        have hL4 := hR4.L
        refine b158_120 (k := ?_)
        refine b158_257 (k := ?_)
        refine k _ _ (ll_fr_mono (ll_fr_trans (ll_fr_trans (ll_fr_trans p1 p2) p3) p4) (fun _ h => h)) ?_
        have hyl : pa_yields (a.2.1 c) n = (pa_s (pa_s (pa_s (a.2.1 c).1 4 yv) 5 s1) 2 2, (a.2.1 c).2) := by
          unfold pa_yields; rw [← hy, ← hs']
        rw [hyl]
        exact hR4
      refine pe_M_of ck158 (Nat.le_of_ble_eq_true rfl) ?_
      refine b158_0 (k := ?_)
      refine b158_8 (k1 := fun r => by omega) (k2 := fun _ => ?_)
      refine b158_14 (k1 := fun r1 => ?_) (k2 := fun r1 => ?_)
      · rw [b4]
        refine b158_54 (k1 := fun r2 => ?_) (k2 := fun r2 => ?_)
        · refine b158_72 (k := ?_)
          refine fin _ _ ?_
          unfold pa_yield
          rw [if_neg (by omega), if_pos (by omega)]
        · refine b158_63 (k1 := fun r3 => ?_) (k2 := fun r3 => ?_)
          · refine b158_79 (k := ?_)
            refine fin _ _ ?_
            unfold pa_yield
            rw [if_neg (by omega), if_neg (by omega)]
          · refine b158_72 (k := ?_)
            refine fin _ _ ?_
            unfold pa_yield
            rw [if_neg (by omega), if_pos (by omega)]
      · rw [b4]
        refine b158_39 (k := ?_)
        rw [b2]
        refine fin _ _ ?_
        unfold pa_yield
        rw [if_pos (by omega)]
    · have hE : pa_live a c 114 n (a.2.1 c) = pa_cw a c (pa_again (a.2.1 c) n) := by simp [pa_live]
      rw [hE] at k
      have hag : pa_again (a.2.1 c) n = if f.1 4 = 0 ∧ f.1 3 < n then ((a.2.1 c).1, (a.2.1 c).2.1, (pa_s (pa_s f.1 3 (f.1 3 + 1)) 2 0, f.2) :: fs) else a.2.1 c := by
        unfold pa_again; rw [hfs]
      have hsame : ¬ (f.1 4 = 0 ∧ f.1 3 < n) → Φ none σ := fun hno => k σ g (ll_fr_mono (ll_fr_refl _ hg) (fun _ h => h)) (by rw [hag, if_neg hno, pa_cw_id]; exact hR)
      refine pe_M_of ck158 (Nat.le_of_ble_eq_true rfl) ?_
      refine b158_0 (k := ?_)
      refine b158_8 (k1 := fun _ => ?_) (k2 := fun r => by omega)
      refine b158_123 (k1 := fun r => by omega) (k2 := fun _ => ?_)
      refine b158_129 (k1 := fun r1 => ?_) (k2 := fun r1 => ?_)
      · refine b158_257 (k := ?_)
        exact hsame (by omega)
      · refine b158_136 (k1 := fun r2 => ?_) (k2 := fun r2 => ?_)
        · refine b158_257 (k := ?_)
          exact hsame (by omega)
        · obtain ⟨p1, hR1⟩ := hR.top (i := 3) (j := 4) (v := f.1 3 + 1) (by omega) hw9 h0 h1 hfs
          rw [hfr] at p1 hR1
          have hw1 : pa_wf9 (pa_cw a c ((a.2.1 c).1, (a.2.1 c).2.1, (pa_s f.1 3 (f.1 3 + 1), f.2) :: fs)) := pa_wf9_cw hw9 (by show (_ :: fs : List pa_F).length ≤ 6; rw [List.length_cons]; omega)
          have hL1 := hR1.L
          have hKf1 : pe_K (pe_wI σ rf 4 (f.1 3 + 1)) rf = 19 := hKf
          refine b158_145 (k := ?_)
          rw [t3]
          obtain ⟨p2, hR2⟩ := hR1.top (i := 2) (j := 3) (v := 0) (f := (pa_s f.1 3 (f.1 3 + 1), f.2)) (fs := fs) (by omega) hw1 h0 h1 (by rw [pa_cw_same])
          rw [pa_cw_same, pa_cw_cw] at hR2
          have e : pe_R (pe_wI σ rf 4 (f.1 3 + 1)) (pe_R (pe_wI σ rf 4 (f.1 3 + 1)) (pe_R (pe_wI σ rf 4 (f.1 3 + 1)) 891 c) 10) fs.length = rf := hfr
          rw [e] at p2 hR2
          refine b158_155 (k := ?_)
          have hL2 := hR2.L
          refine b158_160 (k := ?_)
          refine b158_257 (k := ?_)
          refine k _ _ (ll_fr_mono (ll_fr_trans p1 p2) (fun _ h => h)) ?_
          rw [hag, if_pos (by omega)]
          exact hR2
    · have hE : pa_live a c 100 n (a.2.1 c) = pa_cw a c (pa_into a (a.2.1 c) n) := by simp [pa_live]
      rw [hE] at k
      have e11 : pe_I σ (pe_R σ 891 c) 11 = fs.length + 1 := by
        have := hS.2.2.1.1
        rw [List.length_cons] at this
        omega
      have hlen : (a.2.1 c).2.2.length = fs.length + 1 := by rw [hfs, List.length_cons]
      have hthr : ∀ (z : Int) (o5 : Option pe_V), pa_into a (a.2.1 c) n = pa_throw (a.2.1 c) [z] → pe_X (d + 4) 158 (208, [some (.inr (.inr 3)), some (.inl c), some (.inr (.inr rf)), some (.inl 100), some (.inl n), some (.inr (.inr (pe_R σ 891 c))), o5], [.inl z, .inr (.inr (pe_n σ)), .inr (.inr (pe_n σ)), .inr (.inr (pe_R σ 891 c))], pe_new σ 9 0 2) Φ := fun z o5 hz => by
        have f0 : ll_fr (fun _ => False) 1 2 σ g (pe_new σ 9 0 2) (ll_u g (pe_n σ) (-1)) := ll_fr_new hg
        have hL0 := (hR.B.fr f0 (fun h => h)).L
        refine b158_208 (k := ?_)
        refine pe_M.up (k132 (d := 0) n0 (if_pos rfl) ?_) (by omega)
        obtain ⟨f2, hR2⟩ := kThrR (v := z) hR hw9
        have hL2 := hR2.L
        have hKz : pe_K (pe_wR (pe_wI (pe_new σ 9 0 2) (pe_n σ) 0 z) (pe_n σ) 1 0) (pe_R σ 891 c) = 20 := (f2.K hog).trans hK
        refine b158_212 (k := ?_)
        refine pe_M.up (kThr (d := 0) hR hwf.1 h0 h1 (by omega) (fun σ4 g4 f4 hR4 => ?_)) (by omega)
        have hL4 := hR4.L
        refine b158_215 (k := ?_)
        refine b158_257 (k := ?_)
        refine k σ4 g4 (ll_fr_mono f4 (fun _ h => h)) ?_
        rw [hz]
        exact hR4
      have hthr2 : ∀ (o5 : Option pe_V), (6 ≤ fs.length + 1 ∨ 5 ≤ n) → pe_X (d + 4) 158 (185, [some (.inr (.inr 3)), some (.inl c), some (.inr (.inr rf)), some (.inl 100), some (.inl n), some (.inr (.inr (pe_R σ 891 c))), o5], [], σ) Φ := fun o5 ho => by
        have f0 : ll_fr (fun _ => False) 1 2 σ g (pe_new σ 9 0 2) (ll_u g (pe_n σ) (-1)) := ll_fr_new hg
        have hL0 := (hR.B.fr f0 (fun h => h)).L
        have hK0 : pe_K (pe_new σ 9 0 2) (pe_R σ 891 c) = 20 := (f0.K hog).trans hK
        have e110 : pe_I (pe_new σ 9 0 2) (pe_R σ 891 c) 11 = fs.length + 1 := (f0.I hog (fun h => h) _).trans e11
        refine b158_185 (k1 := fun r1 => ?_) (k2 := fun r1 => ?_)
        · refine b158_206 (k := ?_)
          refine hthr 6 _ ?_
          unfold pa_into
          rw [if_neg (by omega), if_pos (by omega)]
        · refine b158_201 (k := ?_)
          refine hthr 7 _ ?_
          unfold pa_into
          rw [if_pos (by omega)]
      refine pe_M_of ck158 (Nat.le_of_ble_eq_true rfl) ?_
      refine b158_0 (k := ?_)
      refine b158_8 (k1 := fun _ => ?_) (k2 := fun r => by omega)
      refine b158_123 (k1 := fun _ => ?_) (k2 := fun r => by omega)
      refine b158_163 (k1 := fun r => by omega) (k2 := fun _ => ?_)
      refine b158_169 (k1 := fun r1 => ?_) (k2 := fun r1 => ?_)
      · exact hthr2 _ (Or.inl (by omega))
      · refine b158_179 (k1 := fun r2 => ?_) (k2 := fun r2 => ?_)
        · obtain ⟨A1, A2⟩ := hR.2.2.1 n hn0 (by omega)
          refine b158_218 (k := ?_)
          rw [e11]
          refine pe_M.up (k150 (d := 0) (z := 16 * c + 2 + (fs.length + 1 : Nat)) (prog := a.2.2.1 n) hR.B hn0 (by omega) A1 A2 (fun σ1 p1 F1 => ?_)) (by omega)
          have hR1 := hR.fr hw9 p1 (fun _ h => h.elim)
          have hL1 := hR1.L
          generalize ll_u g (pe_n σ) (16 * c + 2 + (fs.length + 1 : Nat)) = g1 at p1 F1 hR1
          have hC1 : ll_C σ1 g1 c (pe_R σ 891 c) (a.2.1 c) := by
            have := hR1.co h0 h1
            rw [p1.R (by rw [hR.B.2.2.1]; decide) (fun h => h)] at this
            exact this
          have hfa : pe_R σ1 (pe_R σ 891 c) 10 = pe_R σ (pe_R σ 891 c) 10 := p1.R hog (fun h => h) _
          rw [← hfa]
          have r891 : pe_R σ1 891 c = pe_R σ 891 c := p1.R (by rw [hR.B.2.2.1]; decide) (fun h => h) _
          generalize hfaE : pe_R σ1 (pe_R σ 891 c) 10 = fa at hC1 ⊢
          have hK1 := hC1.1.1
          have hA1 := hC1.2.2.1
          rw [hfaE] at hA1
          obtain ⟨ha1, ha2, ha3⟩ := hA1
          have hfa3 : 3 ≤ fa := Nat.not_lt.mp (fun q => by
            obtain ⟨z0, z1, z2⟩ := hR1.B.2.2.2.2.2.2
            have : fa = 0 ∨ fa = 1 ∨ fa = 2 := by omega
            rcases this with e | e | e <;> rw [e] at ha3 <;> omega)
          have hne : pe_R σ 891 c ≠ fa := fun e => by rw [e] at hK1; omega
          refine b158_234 (h0 := by rw [ha1]; decide) (h1 := Or.inr ⟨by omega, by rw [F1.1.1, ha1]; rfl⟩) (k := ?_)
          have q1 : ll_fr (ll_Zc c) 0 0 σ1 g1 (pe_wR σ1 fa (fs.length + 1 : Int) (pe_n σ)) g1 := ll_fr_wR hR1.gg (by rw [ha3]; unfold ll_Zc; omega)
          have hL2 := (hR1.B.fr q1 (by unfold ll_Zc; omega)).L
          have hK2 : pe_K (pe_wR σ1 fa (fs.length + 1 : Int) (pe_n σ)) (pe_R σ 891 c) = 20 := hK1
          have i11 : pe_I (pe_wR σ1 fa (fs.length + 1 : Int) (pe_n σ)) (pe_R σ 891 c) 11 = fs.length + 1 := by
            have := hC1.2.2.2.1
            rw [hlen] at this
            exact this
          refine b158_235 (k := ?_)
          rw [i11]
          have q2 : ll_fr (ll_Zc c) 0 0 σ1 g1 (pe_wI (pe_wR σ1 fa (fs.length + 1 : Int) (pe_n σ)) (pe_R σ 891 c) 11 (fs.length + 1 + 1 : Int)) g1 := ll_fr_trans q1 (ll_fr_wI q1.gg (by rw [hC1.1.2]; unfold ll_Zc; omega))
          have q3 : ll_fr (fun z => z = 16 * c + 1 ∨ z = 16 * c) 0 0 σ1 g1 (pe_wI (pe_wR σ1 fa (fs.length + 1 : Int) (pe_n σ)) (pe_R σ 891 c) 11 (fs.length + 1 + 1 : Int)) g1 := ll_fr_trans (ll_fr_wR hR1.gg (Or.inl ha3)) (ll_fr_wI q1.gg (Or.inr hC1.1.2))
          generalize hσ3 : pe_wI (pe_wR σ1 fa (fs.length + 1 : Int) (pe_n σ)) (pe_R σ 891 c) 11 (fs.length + 1 + 1 : Int) = σ3 at *
          have C3 : ll_C σ3 g1 c (pe_R σ 891 c) ((a.2.1 c).1, (a.2.1 c).2.1, pa_nf n (a.2.2.1 n) :: (a.2.1 c).2.2) := by
            have hRfa : ∀ i : Int, pe_R σ3 fa i = if i = fs.length + 1 then pe_n σ else pe_R σ1 fa i := fun i => by
              rw [← hσ3, pe_R_wI]
              by_cases hi : i = fs.length + 1
              · rw [if_pos hi, hi, pe_R_same]
              · rw [if_neg hi, pe_R_nej hi]
            have hR10 : pe_R σ3 (pe_R σ 891 c) 10 = fa := by
              rw [← hσ3, pe_R_wI, pe_R_ner hne, hfaE]
            refine ⟨⟨by rw [q3.K (by rw [hC1.1.2]; omega)]; exact hK1, hC1.1.2⟩, ?_, ?_, ?_, fun q => ?_, ?_⟩
            · obtain ⟨⟨b0, b1, b2, b3, b4, b5, b6, b7⟩, b8⟩ := hC1.2.1
              have hI : ∀ j, j ≠ 11 → pe_I σ3 (pe_R σ 891 c) j = pe_I σ1 (pe_R σ 891 c) j := fun j hj => by
                rw [← hσ3, pe_I_nej hj, pe_I_wR]
              exact hC1.2.1.same hI
            · rw [hR10, q3.K (by rw [ha3]; omega), q3.L (by rw [ha3]; omega)]
              exact ⟨ha1, ha2, ha3⟩
            · show pe_I σ3 (pe_R σ 891 c) 11 = ((pa_nf n (a.2.2.1 n) :: (a.2.1 c).2.2).length : Nat)
              rw [← hσ3, pe_I_same, List.length_cons, hlen]
              push_cast
              omega
            · have q : (a.2.1 c).1 2 = 7 := q
              omega
            · rw [hR10]
              refine ⟨?_, ?_⟩
              · rw [hRfa, hlen, if_pos (by push_cast; omega)]
                exact F1.fr q3 (by omega) (by omega) (by omega)
              · have hFs := hC1.2.2.2.2.2
                rw [hfaE] at hFs
                refine hFs.fr q3 (by omega) _ (fun i _ => by omega) (fun i hi => ?_) h0
                rw [hlen] at hi
                rw [hRfa, if_neg (by omega)]
          have hR3 := hR1.one hw9 h0 h1 q2 (by rw [r891]; exact C3)
          have hL3 := hR3.L
          refine b158_246 (k := ?_)
          refine b158_257 (k := ?_)
          have p1z : ll_fr ll_Zs 1 8 σ g σ1 g1 := ll_fr_mono p1 (fun _ h => h.elim)
          refine k _ _ (ll_fr_mono (ll_fr_trans p1z (ll_fr_mono (x' := 0) (y' := 0) q2 (fun z hz => ll_Zc_s h0 hz))) (fun _ h => h)) ?_
          unfold pa_into
          rw [if_neg (by omega), if_neg (by omega)]
          exact hR3
        · exact hthr2 _ (Or.inr (by omega))
end
