/-! THE CLASS: the steps that do nothing while one is closing -/
section
variable {d B : Nat} {Φ : Option pe_V → pe_H → Prop} {T : Nat → Prop} {σ σ' : pe_H} {w : Int → Int × List Int} {n c : Int} {a : pa_M}
/-- a field of the machine that isn't looked at -/
theorem pk_RM_B7 {v : Int} (hM : pk_RM B T σ a) (hw9 : pa_wf9 a) : pk_RM B T (pe_wI σ B 7 v) a := by
  obtain ⟨w, n, ⟨a1, a2, a3, a4, a5, a6, a7⟩, hn⟩ := hM
  have hf : pk_frI (fun x => x = B) σ (pe_wI σ B 7 v) := pk_frI_wI rfl
  have hT : ∀ x, T x → x ≠ B := fun x hx e => a2 x hx (by rw [e]; unfold pk_Z; omega)
  refine ⟨w, n, ⟨pk_Fm_frI hf a1, a2, ?_, ?_, fun i hi0 hi1 => ?_, fun p hp0 hp1 => ?_, fun ch hc0 hc3 => ?_⟩, hn⟩
  · rw [pe_I_nej (by decide), pe_I_nej (by decide), pe_I_nej (by decide), pe_I_nej (by decide)]; exact a3
  · rw [show pe_I (pe_wI σ B 7 v) (B + 7) = pe_I σ (B + 7) from funext fun j => (hf.1.2 (B + 7) (by omega) j).1, show pe_I (pe_wI σ B 7 v) (B + 8) = pe_I σ (B + 8) from funext fun j => (hf.1.2 (B + 8) (by omega) j).1]; exact a4
  · exact pk_RCo_keep hf.1 hT (fun x h1 h2 => by unfold pk_c at h1; omega) (Int.le_refl _) (fun _ _ => rfl) (hw9.2 i hi0 hi1) (a5 i hi0 hi1)
  · exact pk_RPr_fr hf.1 hT (a6 p hp0 hp1)
  · obtain ⟨b1, b2⟩ := a7 ch hc0 hc3
    exact ⟨pk_RQ_keep (hf.1.2 _ (by unfold pk_q; omega) 1).1 (fun j => (hf.1.2 _ (by unfold pk_q; omega) j).1) b1, pk_RQ_keep (hf.1.2 _ (by unfold pk_g; omega) 1).1 (fun j => (hf.1.2 _ (by unfold pk_g; omega) j).1) b2⟩
/-- an int of the frame on top -/
theorem pk_RM_top {f : pa_F} {fs : List pa_F} {j : Nat} {v : Int} (hj : j = 1 ∨ j = 2 ∨ j = 3 ∨ j = 4) (hM : pk_RM B T σ a) (hw9 : pa_wf9 a) (h0 : 0 ≤ c) (h1 : c < a.1 4) (hfs : (a.2.1 c).2.2 = f :: fs) : pk_RM B T (pe_wI σ (pk_f (pk_c B c) (fs.length : Int)) (j : Int) v) (pa_cw a c ((a.2.1 c).1, (a.2.1 c).2.1, (pa_s f.1 j v, f.2) :: fs)) := by
  obtain ⟨w, n, hR, hn⟩ := hM
  have h8 : c < 8 := by have := hw9.1; omega
  have hl := hw9.2 c h0 h1
  obtain ⟨b1, b2, b3, b4⟩ := hR.co h0 h1
  rw [hfs] at b2 b4 hl
  rw [List.length_cons] at hl
  have hfz : pk_Zc B c (pk_f (pk_c B c) (fs.length : Int)) := pk_f_Zc (by omega)
  have hfr : pk_frI (fun x => x = pk_f (pk_c B c) (fs.length : Int)) σ (pe_wI σ (pk_f (pk_c B c) (fs.length : Int)) (j : Int) v) := pk_frI_wI rfl
  have hfr2 : pk_frI (pk_Zc B c) σ (pe_wI σ (pk_f (pk_c B c) (fs.length : Int)) (j : Int) v) := pk_frI_wI hfz
  have hne : pk_c B c ≠ pk_f (pk_c B c) (fs.length : Int) := fun e => pk_f_ne e.symm
  have hT1 : ∀ x, T x → x ≠ pk_f (pk_c B c) (fs.length : Int) := fun x hx e => hR.Tc h0 h8 x hx (by rw [e]; exact hfz)
  obtain ⟨⟨⟨c1, c2, c3, c4⟩, c5, c6⟩, c7⟩ := b4
  refine pk_RM_cw hn h0 h1 ?_ (pk_RMx_co hR hw9 h0 h1 hfr2 (Int.le_refl _) rfl ?_ (pr_wk_refl c w) ⟨pk_RCn_keep hfr.1 hT1 hne b1, ?_, pk_RCe_keep (hfr.1.2 _ hne 8).1 (Int.le_refl _) (fun _ _ => rfl) b3, ⟨⟨?_, ?_, ?_, ?_⟩, ?_, ?_⟩, ?_⟩)
  · rw [hfs]; exact Int.le_refl _
  · rw [show pe_I (pe_wI σ (pk_f (pk_c B c) (fs.length : Int)) (j : Int) v) (B + 7) = pe_I σ (B + 7) from funext fun k => (hfr.1.2 (B + 7) (by unfold pk_f pk_c; omega) k).1, show pe_I (pe_wI σ (pk_f (pk_c B c) (fs.length : Int)) (j : Int) v) (B + 8) = pe_I σ (B + 8) from funext fun k => (hfr.1.2 (B + 8) (by unfold pk_f pk_c; omega) k).1]; exact hR.st
  · rw [(hfr.1.2 _ hne 9).1]; exact b2
  · rcases hj with rfl | rfl | rfl | rfl <;> simp [pe_I_w, pa_s] <;> assumption
  · rcases hj with rfl | rfl | rfl | rfl <;> simp [pe_I_w, pa_s] <;> assumption
  · rcases hj with rfl | rfl | rfl | rfl <;> simp [pe_I_w, pa_s] <;> assumption
  · rcases hj with rfl | rfl | rfl | rfl <;> simp [pe_I_w, pa_s] <;> assumption
  · exact pk_RPr_fr hfr.1 hT1 c5
  · rw [pe_I_nej (by omega)]; exact c6
  · rw [pe_I_nej (by omega)]
    exact pk_RFs_keep (m := fs.length) (fun i hi k => hfr.1.2 _ (pk_f_inj (by omega)) k) (fun P p q => pk_RPr_fr hfr.1 hT1 q) _ _ _ (Nat.le_refl _) (Int.le_refl _) (fun _ _ _ => rfl) c7
theorem pk_RM.tp {f : pa_F} {fs : List pa_F} (h : pk_RM B T σ a) (h0 : 0 ≤ c) (h1 : c < a.1 4) (hfs : (a.2.1 c).2.2 = f :: fs) : pe_I σ (pk_c B c) 9 - 1 = fs.length ∧ (pe_I σ (pk_f (pk_c B c) (fs.length : Int)) 1 = f.1 1 ∧ pe_I σ (pk_f (pk_c B c) (fs.length : Int)) 2 = f.1 2 ∧ pe_I σ (pk_f (pk_c B c) (fs.length : Int)) 3 = f.1 3 ∧ pe_I σ (pk_f (pk_c B c) (fs.length : Int)) 4 = f.1 4) ∧ pk_RPr T σ (pe_R σ (pk_f (pk_c B c) (fs.length : Int)) 0) f.2.1 := by
  obtain ⟨w, n, h, -⟩ := h
  obtain ⟨b1, b2, b3, b4⟩ := h.co h0 h1
  rw [hfs] at b2 b4
  rw [List.length_cons] at b2
  exact ⟨by omega, b4.1.1, b4.1.2.1⟩
theorem pk_RM.mn (h : pk_RM B T σ a) (h0 : 0 ≤ c) (h1 : c < a.1 4) : T (pe_R σ (pk_c B c) 1) ∧ pe_K σ (pe_R σ (pk_c B c) 1) = 3 ∧ pe_I σ (pe_R σ (pk_c B c) 1) 0 = (a.2.1 c).1 20 ∧ pe_I σ (pe_R σ (pk_c B c) 1) 1 = (a.2.1 c).1 21 := by
  obtain ⟨w, n, h, -⟩ := h
  exact (h.co h0 h1).1.2
theorem pk_RM_set' {j : Nat} {x : Int} {u : pa_C} (hj : j = 0 ∨ j = 2 ∨ j = 3 ∨ j = 4 ∨ j = 5 ∨ j = 6 ∨ j = 7) (hM : pk_RM B T σ (pa_cw a c u)) (hwf : pa_wf9 (pa_cw a c u)) (h0 : 0 ≤ c) (h1 : c < a.1 4) : pk_RM B T (pe_wI σ (pk_c B c) (j : Int) x) (pa_cw a c (pa_s u.1 j x, u.2)) := by
  have := pk_RM_set (x := x) hj hM hwf h0 h1
  rw [pa_cw_same, pa_cw_cw] at this
  exact this
/-- who has yielded -/
def pk_yl (B : Nat) (c : Int) (σ σ' : pe_H) (st : Int) : Prop := (st = 2 → pe_I σ' B 7 = pe_or (pe_I σ B 7) (pe_shl 1 c)) ∧ (st ≠ 2 → pe_I σ' B 7 = pe_I σ B 7)
theorem pk_yl_no {st : Int} (h : pe_I σ' B 7 = pe_I σ B 7) (h2 : st ≠ 2) : pk_yl B c σ σ' st := ⟨fun e => absurd e h2, fun _ => h⟩
theorem pa_into_st {p : Int} (h : (a.2.1 c).1 2 = 1) : (pa_into a (a.2.1 c) p).1 2 ≠ 2 := by
  unfold pa_into
  split
  · rcases pa_throw2 (a.2.1 c) [7] with e | e <;> omega
  · split
    · rcases pa_throw2 (a.2.1 c) [6] with e | e <;> omega
    · show (a.2.1 c).1 2 ≠ 2; omega
theorem pa_sendAt_st {p : Int} (h : (a.2.1 c).1 2 = 1) : ((pa_sendAt a c (a.2.1 c) p).2.1 c).1 2 ≠ 2 := by
  unfold pa_sendAt
  split
  · rw [pa_cw_same]; rcases pa_throw2 (a.2.1 c) [6] with e | e <;> omega
  · split
    · rename_i g l _
      rw [pa_cw_id]
      show ((pa_cw a g _).2.1 c).1 2 ≠ 2
      by_cases e : c = g
      · subst e; rw [pa_cw_same, pa_on2]; decide
      · rw [pa_cw_ne e]; omega
    · show ((pa_cw a c _).2.1 c).1 2 ≠ 2
      rw [pa_cw_same, pa_wait2.1]; decide
theorem pa_getAt_st {p : Int} (h : (a.2.1 c).1 2 = 1) : ((pa_getAt a c (a.2.1 c) p).2.1 c).1 2 ≠ 2 := by
  unfold pa_getAt
  split
  · rw [pa_cw_same]; rcases pa_throw2 (a.2.1 c) [6] with e | e <;> omega
  · split
    · rename_i g l _
      rw [pa_cw_id]
      show ((pa_cw (pa_cw a c _) g _).2.1 c).1 2 ≠ 2
      by_cases e : c = g
      · subst e; rw [pa_cw_same, pa_on2]; decide
      · rw [pa_cw_ne e, pa_cw_same]
        show pa_s (a.2.1 c).1 3 ((a.2.1 g).1 3) 2 ≠ 2
        rw [pa_sn (by decide)]; omega
    · show ((pa_cw a c _).2.1 c).1 2 ≠ 2
      rw [pa_cw_same, pa_wait2.1]; decide
theorem pa_join_st {p : Int} (h : (a.2.1 c).1 2 = 1) : (pa_join a c (a.2.1 c) p).1 2 ≠ 2 := by
  unfold pa_join
  split
  · rcases pa_throw2 (a.2.1 c) [6] with e | e <;> omega
  · split
    · rcases pa_have_st (a.2.1 c) (a.2.1 p) with e | e <;> omega
    · rw [pa_wait2.1]; decide
theorem pa_again_st {p : Int} (h : (a.2.1 c).1 2 = 1) : (pa_again (a.2.1 c) p).1 2 ≠ 2 := by
  unfold pa_again
  split
  · split
    · show (a.2.1 c).1 2 ≠ 2; omega
    · omega
  · omega
theorem k32 {l : Int} (hM : pk_RM B T σ a) (hwf : pa_wf3 a) (h0 : 0 ≤ c) (h1 : c < a.1 4) (h3 : (a.2.1 c).1 2 = 1) (hn0 : 0 ≤ n) (hn9 : n ≤ 9) (hl0 : 97 ≤ l ∧ l ≤ 122) (k : ∀ σ2, pk_fr (pk_Zs B) σ σ2 → pk_yl B c σ σ2 ((pa_live a c l n (a.2.1 c)).2.1 c |>.1 2) → pk_RM B T σ2 (pa_live a c l n (a.2.1 c)) → Φ none σ2) : pe_M (d + 3) 32 [.inr (.inr B), .inl c, .inl l, .inl n] σ Φ := by
  have hF := hM.F
  have hoc := hM.o hwf.1 h0 h1
  have h8 := hwf.1.1
  have hc8 : c < 8 := by omega
  have hw9 := hwf.1.w9
  have hwc := hwf.1.2.2.1 c h0 h1
  obtain ⟨n0, n2, n3, n4, n5, n6, n20, n21, -⟩ := hwc.1
  obtain ⟨i0, i2, i3, i4, i5, i6, i7⟩ := hM.i h0 h1
  obtain ⟨m0, m1, m2, m3⟩ := hM.mn h0 h1
  have h4 := hM.cnt.1
  have hl := hwc.2.1
  have hne : (a.2.1 c).2.2 ≠ [] := fun q => by have := hwc.2.2.2.1.mpr q; omega
  obtain ⟨f, fs, hfs⟩ := List.exists_cons_of_ne_nil hne
  rw [hfs, List.length_cons] at hl
  obtain ⟨t9, ⟨t1, t2, t3, t4⟩, tP⟩ := hM.tp h0 h1 hfs
  have hff := pa_wfc_top hwc hfs
  have f3 := hff.2.2.1
  have f4 := hff.2.2.2.1
  refine pe_M_of ck32 (Nat.le_of_ble_eq_true rfl) ?_
  refine b32_0 (k0 := fun q => ?_) (k1 := fun q => ?_) (k2 := fun q => ?_) (k3 := fun q => ?_) (k4 := fun q => ?_) (k5 := fun q => ?_) (kd := fun q0 q1 q2 q3 q4 q5 => ?_)
  · subst q
    refine b32_194 (k := ?_)
    refine k33 hM hwf.1 h0 h1 (by omega) hn0 hn9 (fun σ2 e1 e2 e3 => ?_)
    refine b32_201 (k := ?_)
    refine b32_288 (k := ?_)
    have : pa_live a c 100 n (a.2.1 c) = pa_cw a c (pa_into a (a.2.1 c) n) := by simp [pa_live]
    rw [this] at k
    exact k σ2 e1 (pk_yl_no e2 (by rw [pa_cw_same]; exact pa_into_st h3)) e3
  · subst q
    refine b32_213 (k := ?_)
    refine k35 hM hwf h0 h1 (by omega) hn0 hn9 (fun σ2 e1 e2 e3 => ?_)
    refine b32_219 (k := ?_)
    refine b32_288 (k := ?_)
    have : pa_live a c 103 n (a.2.1 c) = pa_getAt a c (a.2.1 c) n := by simp [pa_live]
    rw [this] at k
    exact k σ2 e1.1 (pk_yl_no e2 (pa_getAt_st h3)) e3
  · subst q
    have : pa_live a c 106 n (a.2.1 c) = pa_cw a c (pa_join a c (a.2.1 c) n) := by simp [pa_live]
    rw [this] at k
    have hst := pa_join_st (p := n) h3
    have hthrow : n = c ∨ a.1 4 ≤ n → ∀ o5, pe_X (d + 2) 32 (235, [some (.inr (.inr B)), some (.inl c), some (.inl 106), some (.inl n), some (.inr (.inr (pk_c B c))), o5], [], σ) Φ := fun hno o5 => by
      refine b32_235 (k := ?_)
      refine kTN hM hwf.1 h0 h1 (by omega) (Or.inl ⟨rfl, rfl⟩) (fun m σ1 hF1 g => ?_)
      have ho1' : pk_Fo (pk_c B c) σ1 := pk_mO hF1 h0 hc8
      refine b32_245 (k := ?_)
      refine g _ _ (fun σ2 e1 e2' e3' => ?_)
      refine b32_248 (k := ?_)
      refine b32_288 (k := ?_)
      refine k σ2 e1.1 (pk_yl_no e2' (by rw [pa_cw_same]; exact hst)) ?_
      unfold pa_join
      rw [if_pos hno]
      exact e3'
    refine b32_222 (k1 := fun q => ?_) (k2 := fun q => ?_)
    · exact hthrow (Or.inl q) _
    · refine b32_227 (k1 := fun q2 => ?_) (k2 := fun q2 => ?_)
      · have hwn := hwf.1.2.2.1 n hn0 (by omega)
        have hob := hM.o hwf.1 hn0 (show n < a.1 4 by omega)
        refine b32_251 (k := ?_)
        refine k3 hob (hM.i hn0 (by omega)).2.1 hwn.1.2.1 (fun e => ?_) (fun e => ?_)
        · refine b32_260 (k1 := fun q3 => by omega) (k2 := fun _ => ?_)
          refine b32_263 (k := ?_)
          refine k36 hM hwf.1 h0 h1 (by omega) hn0 (by omega) e (fun σ2 e1 e2 e3 => ?_)
          refine b32_275 (k := ?_)
          refine b32_288 (k := ?_)
          refine k σ2 e1.1 (pk_yl_no e2 (by rw [pa_cw_same]; exact hst)) ?_
          unfold pa_join
          rw [if_neg (by omega), if_pos e]
          exact e3
        · refine b32_260 (k1 := fun _ => ?_) (k2 := fun q3 => by omega)
          refine b32_278 (k := ?_)
          refine k7M hM hw9 h0 h1 (fun σ2 e1 e2 e3 => ?_)
          refine b32_285 (k := ?_)
          refine b32_288 (k := ?_)
          refine k σ2 e1.1 (pk_yl_no e2 (by rw [pa_cw_same]; exact hst)) ?_
          unfold pa_join
          rw [if_neg (by omega), if_neg e]
          exact e3
      · exact hthrow (Or.inr (by omega)) _
  · subst q
    have : pa_live a c 114 n (a.2.1 c) = pa_cw a c (pa_again (a.2.1 c) n) := by simp [pa_live]
    rw [this] at k
    have hst := pa_again_st (p := n) h3
    have hag : pa_again (a.2.1 c) n = if f.1 4 = 0 ∧ f.1 3 < n then ((a.2.1 c).1, (a.2.1 c).2.1, (pa_s (pa_s f.1 3 (f.1 3 + 1)) 2 0, f.2) :: fs) else a.2.1 c := by
      unfold pa_again; rw [hfs]
    have hsame : ¬ (f.1 4 = 0 ∧ f.1 3 < n) → Φ none σ := fun hno => k σ (pk_fr_refl _ _) (pk_yl_no rfl (by rw [pa_cw_same]; exact hst)) (by rw [hag, if_neg hno, pa_cw_id]; exact hM)
    refine b32_142 (w1 := by rw [t9]; unfold pe_in; omega) (k1 := fun q => ?_) (k2 := fun q => ?_)
    · rw [t9] at q ⊢
      refine b32_288 (k := ?_)
      exact hsame (by omega)
    · rw [t9] at q ⊢
      have hKf := pk_oEK hoc (i := (fs.length : Int)) (by omega) (by omega)
      refine b32_165 (w0 := by unfold pe_in; omega) (k1 := fun q2 => ?_) (k2 := fun q2 => ?_)
      · refine b32_288 (k := ?_)
        exact hsame (by omega)
      · refine b32_174 (k := ?_)
        refine b32_288 (k := ?_)
        rw [t3]
        have g1 := pk_RM_top (j := 3) (v := f.1 3 + 1) (by decide) hM hw9 h0 h1 hfs
        have g2 := pk_RM_top (c := c) (f := (pa_s f.1 3 (f.1 3 + 1), f.2)) (fs := fs) (j := 2) (v := 0) (by decide) g1 (pa_wf9_cw hw9 (by show (_ :: fs : List pa_F).length ≤ 6; rw [List.length_cons]; omega)) h0 h1 (by rw [pa_cw_same])
        rw [pa_cw_same, pa_cw_cw] at g2
        have hz := pk_Zc_Zs h0 hc8 _ (pk_f_Zc (B := B) (c := c) (i := fs.length) (by omega))
        refine k _ (pk_frI_then (pk_frI_wI hz) hz).1 (pk_yl_no ((pe_I_ner (by unfold pk_f pk_c; omega)).trans (pe_I_ner (by unfold pk_f pk_c; omega))) (by rw [pa_cw_same]; exact hst)) ?_
        rw [hag, if_pos (by omega)]
        exact g2
  · subst q
    refine b32_204 (k := ?_)
    refine k34 hM hwf h0 h1 (by omega) hn0 hn9 (fun σ2 e1 e2 e3 => ?_)
    refine b32_210 (k := ?_)
    refine b32_288 (k := ?_)
    have : pa_live a c 115 n (a.2.1 c) = pa_sendAt a c (a.2.1 c) n := by simp [pa_live]
    rw [this] at k
    exact k σ2 e1.1 (pk_yl_no e2 (pa_sendAt_st h3)) e3
  · subst q
    have : pa_live a c 121 n (a.2.1 c) = pa_cw a c (pa_yields (a.2.1 c) n) := by simp [pa_live]
    rw [this] at k
    have hu := pa_tmod_b (x := pe_I σ (pk_c B c) 3 + n) (by omega)
    refine b32_68 (k := ?_)
    refine k43 m1 m2 m3 (by omega) hu ?_
    generalize hy : pa_yield ((a.2.1 c).1 20) ((a.2.1 c).1 21) (Int.tmod (pe_I σ (pk_c B c) 3 + n) 1000) = y
    rw [i3] at hy
    have g1 := pk_RM_set (j := 4) (x := y) (by decide) hM hw9 h0 h1
    have w1 := pa_wf9_cw (c := c) (v := (pa_s (a.2.1 c).1 4 y, (a.2.1 c).2)) hw9 (hw9.2 c h0 h1)
    have hfin : ∀ (s1 : Int) (o5 : Option pe_V), s1 = (if (a.2.1 c).1 5 < 999 then (a.2.1 c).1 5 + 1 else 999) → pe_X (d + 2) 32 (118, [some (.inr (.inr B)), some (.inl c), some (.inl 121), some (.inl n), some (.inr (.inr (pk_c B c))), o5], [.inl s1, .inr (.inr (pk_c B c))], pe_wI σ (pk_c B c) 4 y) Φ := fun s1 o5 hs => by
      have ho1 : pk_Fo (pk_c B c) (pe_wI σ (pk_c B c) 4 y) := pk_mO g1.F h0 hc8
      have hF1 := g1.F
      refine b32_118 (k := ?_)
      refine b32_288 (k := ?_)
      have g2 := pk_RM_set' (j := 5) (x := s1) (by decide) g1 w1 h0 h1
      have g3 := pk_RM_set' (j := 2) (x := 2) (by decide) g2 (pa_wf9_cw hw9 (hw9.2 c h0 h1)) h0 h1
      have g4 := pk_RM_B7 (v := pe_or (pe_I (pe_wI σ (pk_c B c) 4 y) B 7) (pe_shl 1 c)) g3 (pa_wf9_cw hw9 (hw9.2 c h0 h1))
      have hz := pk_Zc_Zs h0 hc8 _ (pk_r_Zc (B := B) (c := c))
      have hne : B ≠ pk_c B c := by unfold pk_c; omega
      have hyl : pa_yields (a.2.1 c) n = (pa_s (pa_s (pa_s (a.2.1 c).1 4 y) 5 s1) 2 2, (a.2.1 c).2) := by
        unfold pa_yields; rw [hy, hs]
      rw [hyl] at k
      refine k _ (pk_frI_then (pk_frI_then (pk_frI_then (pk_frI_wI hz) hz) hz) (Or.inl rfl)).1 ⟨fun _ => ?_, fun e => absurd (by rw [pa_cw_same]; simp [pa_s]) e⟩ g4
      rw [pe_I_same, pe_I_ner hne]
    refine b32_89 (k1 := fun q2 => ?_) (k2 := fun q2 => ?_)
    · have ho1 : pk_Fo (pk_c B c) (pe_wI σ (pk_c B c) 4 y) := pk_mO g1.F h0 hc8
      have hF1 := g1.F
      refine b32_115 (k := ?_)
      exact hfin _ _ (by rw [if_neg (by omega)])
    · have ho1 : pk_Fo (pk_c B c) (pe_wI σ (pk_c B c) 4 y) := pk_mO g1.F h0 hc8
      have hF1 := g1.F
      refine b32_105 (k := ?_)
      rw [pe_I_nej (by decide), i5]
      exact hfin _ _ (by rw [if_pos (by omega)])
  · refine b32_288 (k := ?_)
    have : pa_live a c l n (a.2.1 c) = a := by
      unfold pa_live
      rw [if_neg q5, if_neg q3, if_neg q0, if_neg q4, if_neg q1, if_neg q2, pa_cw_id]
    rw [this] at k
    exact k σ (pk_fr_refl _ _) (pk_yl_no rfl (by omega)) hM
end

