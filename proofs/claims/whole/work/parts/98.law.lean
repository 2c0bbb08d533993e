/-! THE LAW: each case gives the same answers on both sides -/
theorem pe_lcmp_same (z : Int) : pe_lcmp z z = 0 := by
  unfold pe_lcmp
  rw [if_neg (by omega), if_pos rfl]
theorem pe_M_h {d m : Nat} {as : List pe_V} {σ : pe_H} {Φ : Option pe_V → pe_H → Prop} {q : Nat} {y : Nat → Int → Int} (e : σ = pm_h 877 σ q y) (k : pe_M d m as (pm_h 877 σ q y) Φ) : pe_M d m as σ Φ := by
  rw [e]; exact k
section
variable {T U : Nat → Prop} {σ σ2 : pe_H} {q q' N Us dn du d : Nat} {y y2 : Nat → Int → Int} {L i : Int} {a a' : pa_M} {im im' : Option pa_M} {h h' : Int → pa_Sh} {o5 o6 o7 : Option pe_V} {G : pe_S → Prop}
theorem lw_J.wide {N' Us' : Nat} (J : lw_J T U σ q y L N Us a im h a' im' h') (h1 : N ≤ N') (h2 : Us ≤ Us') : lw_J T U σ q y L N' Us' a im h a' im' h' := by
  obtain ⟨j1, j2, j3, j4, j5, v1, v2, v3, v4, v5⟩ := J
  exact ⟨j1, j2, j3, j4, j5, v1, v2, v3, by omega, by omega⟩
theorem lw_J.I1 (J : lw_J T U σ q y L N Us a im h a im h) (st : pg_st 2 U σ σ2) (j : Int) : pe_I σ2 1 j = pe_I σ 1 j := ((st.2 1 (by have : 921 ≤ σ.1 := J.2.2.2.2.2.2.2.1; omega) (by unfold pg_X; omega) (fun z => (J.2.2.2.2.1 1 (Or.inr z)).1 rfl)).2.2 j).1
theorem pm_RS_fz {Z : Nat → Int → Prop} (hf : pm_fr Z y y2) (hz : ∀ k j, 27 ≤ k → k ≤ 32 → ¬ Z k j) (hS : pm_RS y h) : pm_RS y2 h := fun d d0 d8 => by
  obtain ⟨h1, h2, h3⟩ := hS d d0 d8
  have e : ∀ k, 27 ≤ k → k ≤ 32 → ∀ j, y2 k j = y k j := fun k k1 k2 j => hf k j (hz k j k1 k2)
  unfold pm_RS1
  rw [e 27 (by decide) (by decide), e 28 (by decide) (by decide), e 29 (by decide) (by decide), e 30 (by decide) (by decide), e 31 (by decide) (by decide)]
  refine ⟨h1, h2, fun q => ⟨(h3 q).1, (h3 q).2.1, fun i hi => ?_⟩⟩
  rw [e 32 (by decide) (by decide)]
  exact (h3 q).2.2 i hi
/-- a call that changes a shelf -/
theorem lw_J.modH (J : lw_J T U σ q y L N Us a im h a im h') (hf : pm_fr pm_Zh y y2) (hS : pm_RS y2 h') : lw_J T U (pm_h 877 σ q' y2) q' y2 L N Us a im h' a im h' := J.mod ⟨pm_R_z J.2.2.2.1.1 J.2.2.1.1.1.1 (pm_fr_mono hf (fun k j w => by unfold pm_Zh at w; unfold pm_Zr; omega)), hS, pm_Im_fr hf (fun j w => by unfold pm_Zh at w; omega) (fun j w => by unfold pm_Zh at w; omega) (fun w => by unfold pm_Zh at w; omega) J.2.2.2.1.2.2⟩
def lw_h (i : Int) (o5 o6 o7 : Option pe_V) (σ : pe_H) : pe_S := (23, [some (.inr (.inr 1)), some (.inr (.inr 2)), some (.inr (.inr 877)), some (.inr (.inr 920)), some (.inl i), o5, o6, o7], [], σ)
def lw_K (G : pe_S → Prop) (i L : Int) (N Us : Nat) (o5 o6 o7 : Option pe_V) : Prop := ∀ T U σ q y a im h, lw_J T U σ q y L (N + 300) (Us + 2000) a im h a im h → G (lw_h (i + 6) o5 o6 o7 σ)

set_option maxRecDepth 8000 in
theorem lw_0 (J : lw_J T U σ q y L N Us a im h a im h) (hi : 0 ≤ i) (hi6 : i + 6 ≤ L) (hL : L ≤ 3072) (k : lw_K G i L N Us o5 o6 o7) : py_X (d + 24) 10 false cL_law (200, [some (.inr (.inr 1)), some (.inr (.inr 2)), some (.inr (.inr 877)), some (.inr (.inr 920)), some (.inl i), o5, o6, o7], [], σ) G := by
  obtain ⟨⟨v1, v2, v3⟩, ⟨v4, v5⟩, v6, v7, v8⟩ := J.2.2.2.2.2
  have hK2 : pe_K σ 2 = 8 := pk_sK J.2.1.F
  have x1 := v3 (i + 1) (by omega) (by omega)
  refine pb244_200 (k := ?_)
  refine pe_M.up (k80 (d := 0) J.2.1 J.2.2.1.1 x1 (fun σ2 T2 st n2 u2 ht g2 => ?_)) (by omega)
  have J2 : lw_J T2 U σ2 q y L (N + 300) (Us + 2000) a im h (pa_doText a h (pe_I σ 1 (i + 1))).1 im h := J.cls st n2 u2 ht (fun _ w => Or.inl w) g2 ⟨pw_text J.2.2.1.1.1, J.2.2.1.1.2.1, J.2.2.1.1.2.2⟩
  have e1 := J.I1 st
  obtain ⟨⟨w1, w2, w3⟩, ⟨w4, w5⟩, w6, w7, w8⟩ := J2.2.2.2.2.2
  have hK9 : pe_K σ2 877 = 9 := J2.1.1.2.1
  refine pb244_210 (k := ?_)
  rw [e1 (i + 1)]
  refine pe_M_h J2.1.2 (pe_M.up (c183 (d := 0) J2.1.1 J2.2.2.2.1.1 J2.2.2.1.1.1.1 J2.2.2.1.1.1.2 J2.2.2.2.1.2.1 J2.2.2.1.1.2.2 x1 (fun q' y2 P => ?_)) (by omega))
  have J3 := J2.modP (q' := q') P.1 P.2.2
  refine py_blk 39 1 yk244 [] (cond (decide (pe_w _ = pe_w _)) 1504 223, _, [], _) rfl trivial ?_
  rw [decide_eq_true rfl]
  refine pb244_1504 (k := ?_)
  exact py_end (k _ _ _ _ _ _ _ _ (J3.wide (by omega) (by omega)))
set_option maxRecDepth 8000 in
theorem lw_1 (J : lw_J T U σ q y L N Us a im h a im h) (hi : 0 ≤ i) (hi6 : i + 6 ≤ L) (hL : L ≤ 3072) (k : lw_K G i L N Us o5 o6 o7) : py_X (d + 24) 10 false cL_law (225, [some (.inr (.inr 1)), some (.inr (.inr 2)), some (.inr (.inr 877)), some (.inr (.inr 920)), some (.inl i), o5, o6, o7], [], σ) G := by
  obtain ⟨⟨v1, v2, v3⟩, ⟨v4, v5⟩, v6, v7, v8⟩ := J.2.2.2.2.2
  have hK2 : pe_K σ 2 = 8 := pk_sK J.2.1.F
  have x1 := v3 (i + 1) (by omega) (by omega)
  have x2 := v3 (i + 2) (by omega) (by omega)
  have x3 := v3 (i + 3) (by omega) (by omega)
  refine pb244_225 (k := ?_)
  refine pe_M.up (k81 (d := 0) J.2.1 J.2.2.1.1 x1 x2 x3 ?_) (by omega)
  have J2 := J
  have hK9 : pe_K σ 877 = 9 := J2.1.1.2.1
  refine pb244_247 (k := ?_)
  refine pe_M_h J2.1.2 (pe_M.up (c191 (d := 0) J2.1.1 J2.2.2.2.1.1 J2.2.2.1.1.1.1 x1 x2 x3 (fun q' y2 P => ?_)) (by omega))
  have J3 := J2.modP (q' := q') P.1 P.2.2
  refine py_blk 76 1 yk244 [] (cond (decide (pe_w _ = pe_w _)) 1504 272, _, [], _) rfl trivial ?_
  rw [decide_eq_true rfl]
  refine pb244_1504 (k := ?_)
  exact py_end (k _ _ _ _ _ _ _ _ (J3.wide (by omega) (by omega)))
set_option maxRecDepth 8000 in
theorem lw_2 (J : lw_J T U σ q y L N Us a im h a im h) (hi : 0 ≤ i) (hi6 : i + 6 ≤ L) (hL : L ≤ 3072) (k : lw_K G i L N Us o5 o6 o7) : py_X (d + 24) 10 false cL_law (274, [some (.inr (.inr 1)), some (.inr (.inr 2)), some (.inr (.inr 877)), some (.inr (.inr 920)), some (.inl i), o5, o6, o7], [], σ) G := by
  obtain ⟨⟨v1, v2, v3⟩, ⟨v4, v5⟩, v6, v7, v8⟩ := J.2.2.2.2.2
  have hK2 : pe_K σ 2 = 8 := pk_sK J.2.1.F
  have x1 := v3 (i + 1) (by omega) (by omega)
  have x2 := v3 (i + 2) (by omega) (by omega)
  refine pb244_274 (k := ?_)
  refine pe_M.up (k82 (d := 0) J.2.1 J.2.2.1.1 x1 x2 (fun σ2 fr g2 => ?_)) (by omega)
  have st : pg_st 2 U σ σ2 := pg_st_fr fr
  have J2 : lw_J T U σ2 q y L (N + 0) (Us + 0) a im h (pa_doComes a h (pe_I σ 1 (i + 1)) (pe_I σ 1 (i + 2))).1 im h := J.cls st (by rw [fr.1.1]; exact Nat.le_refl _) (by rw [fr.1.2.1]; exact Nat.le_refl _) (fun _ w => Or.inl w) (fun _ w => Or.inl w) g2 ⟨pw_comes J.2.2.1.1.1 J.2.2.1.1.2.2, J.2.2.1.1.2.1, J.2.2.1.1.2.2⟩
  have e1 := J.I1 st
  obtain ⟨⟨w1, w2, w3⟩, ⟨w4, w5⟩, w6, w7, w8⟩ := J2.2.2.2.2.2
  have hK9 : pe_K σ2 877 = 9 := J2.1.1.2.1
  refine pb244_290 (k := ?_)
  rw [e1 (i + 1), e1 (i + 2)]
  refine pe_M_h J2.1.2 (pe_M.up (c192 (d := 0) J2.1.1 J2.2.2.2.1.1 J2.2.2.1.1.1.1 J2.2.2.2.1.2.1 J2.2.2.1.1.2.2 x1 x2 (fun y2 P => ?_)) (by omega))
  have J3 := J2.modP (q' := q) P.1 P.2.2
  refine py_blk 103 1 yk244 [] (cond (decide (pe_w _ = pe_w _)) 1504 309, _, [], _) rfl trivial ?_
  rw [decide_eq_true rfl]
  refine pb244_1504 (k := ?_)
  exact py_end (k _ _ _ _ _ _ _ _ (J3.wide (by omega) (by omega)))
set_option maxRecDepth 8000 in
theorem lw_3 (J : lw_J T U σ q y L N Us a im h a im h) (hi : 0 ≤ i) (hi6 : i + 6 ≤ L) (hL : L ≤ 3072) (k : lw_K G i L N Us o5 o6 o7) : py_X (d + 24) 10 false cL_law (311, [some (.inr (.inr 1)), some (.inr (.inr 2)), some (.inr (.inr 877)), some (.inr (.inr 920)), some (.inl i), o5, o6, o7], [], σ) G := by
  obtain ⟨⟨v1, v2, v3⟩, ⟨v4, v5⟩, v6, v7, v8⟩ := J.2.2.2.2.2
  have hK2 : pe_K σ 2 = 8 := pk_sK J.2.1.F
  have x1 := v3 (i + 1) (by omega) (by omega)
  have x2 := v3 (i + 2) (by omega) (by omega)
  refine pb244_311 (k := ?_)
  refine pe_M.up (k83 (d := 0) J.2.1 J.2.2.1.1 x1 x2 ?_) (by omega)
  have J2 := J
  have hK9 : pe_K σ 877 = 9 := J2.1.1.2.1
  refine pb244_327 (k := ?_)
  refine pe_M_h J2.1.2 (pe_M.up (c196 (d := 0) J2.1.1 J2.2.2.2.1.1 J2.2.2.1.1.1.1 x1 x2 (fun q' y2 P => ?_)) (by omega))
  have J3 := J2.modP (q' := q') P.1 P.2.2
  refine py_blk 130 1 yk244 [] (cond (decide (pe_w _ = pe_w _)) 1504 346, _, [], _) rfl trivial ?_
  rw [decide_eq_true rfl]
  refine pb244_1504 (k := ?_)
  exact py_end (k _ _ _ _ _ _ _ _ (J3.wide (by omega) (by omega)))
set_option maxRecDepth 8000 in
theorem lw_4 (J : lw_J T U σ q y L N Us a im h a im h) (hi : 0 ≤ i) (hi6 : i + 6 ≤ L) (hL : L ≤ 3072) (k : lw_K G i L N Us o5 o6 o7) : py_X (d + 24) 10 false cL_law (348, [some (.inr (.inr 1)), some (.inr (.inr 2)), some (.inr (.inr 877)), some (.inr (.inr 920)), some (.inl i), o5, o6, o7], [], σ) G := by
  obtain ⟨⟨v1, v2, v3⟩, ⟨v4, v5⟩, v6, v7, v8⟩ := J.2.2.2.2.2
  have hK2 : pe_K σ 2 = 8 := pk_sK J.2.1.F
  have x1 := v3 (i + 1) (by omega) (by omega)
  have x2 := v3 (i + 2) (by omega) (by omega)
  have x3 := v3 (i + 3) (by omega) (by omega)
  refine pb244_348 (k := ?_)
  refine pe_M.up (k84 (d := 0) J.2.1 J.2.2.1.1 x1 x2 x3 ?_) (by omega)
  have J2 := J
  have hK9 : pe_K σ 877 = 9 := J2.1.1.2.1
  refine pb244_370 (k := ?_)
  refine pe_M_h J2.1.2 (pe_M.up (c197 (d := 0) J2.1.1 J2.2.2.2.1.1 J2.2.2.1.1.1.1 x1 x2 x3 (fun q' y2 P => ?_)) (by omega))
  have J3 := J2.modP (q' := q') P.1 P.2.2
  refine py_blk 167 1 yk244 [] (cond (decide (pe_w _ = pe_w _)) 1504 395, _, [], _) rfl trivial ?_
  rw [decide_eq_true rfl]
  refine pb244_1504 (k := ?_)
  exact py_end (k _ _ _ _ _ _ _ _ (J3.wide (by omega) (by omega)))
set_option maxRecDepth 8000 in
theorem lw_5 (J : lw_J T U σ q y L N Us a im h a im h) (hi : 0 ≤ i) (hi6 : i + 6 ≤ L) (hL : L ≤ 3072) (k : lw_K G i L N Us o5 o6 o7) : py_X (d + 24) 10 false cL_law (397, [some (.inr (.inr 1)), some (.inr (.inr 2)), some (.inr (.inr 877)), some (.inr (.inr 920)), some (.inl i), o5, o6, o7], [], σ) G := by
  obtain ⟨⟨v1, v2, v3⟩, ⟨v4, v5⟩, v6, v7, v8⟩ := J.2.2.2.2.2
  have hK2 : pe_K σ 2 = 8 := pk_sK J.2.1.F
  have x1 := v3 (i + 1) (by omega) (by omega)
  have x2 := v3 (i + 2) (by omega) (by omega)
  refine pb244_397 (k := ?_)
  refine pe_M.up (k85 (d := 0) J.2.1 J.2.2.1.1 x1 x2 ?_) (by omega)
  have J2 := J
  have hK9 : pe_K σ 877 = 9 := J2.1.1.2.1
  refine pb244_413 (k := ?_)
  refine pe_M_h J2.1.2 (pe_M.up (c198 (d := 0) J2.1.1 J2.2.2.2.1.1 J2.2.2.1.1.1.1 x1 x2 (fun q' y2 P => ?_)) (by omega))
  have J3 := J2.modP (q' := q') P.1 P.2.2
  refine py_blk 194 1 yk244 [] (cond (decide (pe_w _ = pe_w _)) 1504 432, _, [], _) rfl trivial ?_
  rw [decide_eq_true rfl]
  refine pb244_1504 (k := ?_)
  exact py_end (k _ _ _ _ _ _ _ _ (J3.wide (by omega) (by omega)))
set_option maxRecDepth 8000 in
theorem lw_6 (J : lw_J T U σ q y L N Us a im h a im h) (hi : 0 ≤ i) (hi6 : i + 6 ≤ L) (hL : L ≤ 3072) (k : lw_K G i L N Us o5 o6 o7) : py_X (d + 24) 10 false cL_law (434, [some (.inr (.inr 1)), some (.inr (.inr 2)), some (.inr (.inr 877)), some (.inr (.inr 920)), some (.inl i), o5, o6, o7], [], σ) G := by
  obtain ⟨⟨v1, v2, v3⟩, ⟨v4, v5⟩, v6, v7, v8⟩ := J.2.2.2.2.2
  have hK2 : pe_K σ 2 = 8 := pk_sK J.2.1.F
  have x1 := v3 (i + 1) (by omega) (by omega)
  have x2 := v3 (i + 2) (by omega) (by omega)
  have x3 := v3 (i + 3) (by omega) (by omega)
  refine pb244_434 (k := ?_)
  refine pe_M.up (k86 (d := 0) J.2.1 J.2.2.1.1 x1 x2 x3 ?_) (by omega)
  have J2 := J
  have hK9 : pe_K σ 877 = 9 := J2.1.1.2.1
  refine pb244_456 (k := ?_)
  refine pe_M_h J2.1.2 (pe_M.up (c199 (d := 0) J2.1.1 J2.2.2.2.1.1 J2.2.2.1.1.1.1 x1 x2 x3 (fun q' y2 P => ?_)) (by omega))
  have J3 := J2.modP (q' := q') P.1 P.2.2
  refine py_blk 231 1 yk244 [] (cond (decide (pe_w _ = pe_w _)) 1504 481, _, [], _) rfl trivial ?_
  rw [decide_eq_true rfl]
  refine pb244_1504 (k := ?_)
  exact py_end (k _ _ _ _ _ _ _ _ (J3.wide (by omega) (by omega)))
set_option maxRecDepth 8000 in
theorem lw_7 (J : lw_J T U σ q y L N Us a im h a im h) (hi : 0 ≤ i) (hi6 : i + 6 ≤ L) (hL : L ≤ 3072) (k : lw_K G i L N Us o5 o6 o7) : py_X (d + 24) 10 false cL_law (483, [some (.inr (.inr 1)), some (.inr (.inr 2)), some (.inr (.inr 877)), some (.inr (.inr 920)), some (.inl i), o5, o6, o7], [], σ) G := by
  obtain ⟨⟨v1, v2, v3⟩, ⟨v4, v5⟩, v6, v7, v8⟩ := J.2.2.2.2.2
  have hK2 : pe_K σ 2 = 8 := pk_sK J.2.1.F
  have x1 := v3 (i + 1) (by omega) (by omega)
  have x2 := v3 (i + 2) (by omega) (by omega)
  refine pb244_483 (k := ?_)
  refine pe_M.up (k87 (d := 0) J.2.1 J.2.2.1.1 x1 x2 (fun σ2 fr g2 => ?_)) (by omega)
  have st : pg_st 2 U σ σ2 := pg_st_fr fr
  have J2 : lw_J T U σ2 q y L (N + 0) (Us + 0) a im h (pa_doSend a (pe_I σ 1 (i + 1)) (pe_I σ 1 (i + 2))).1 im h := J.cls st (by rw [fr.1.1]; exact Nat.le_refl _) (by rw [fr.1.2.1]; exact Nat.le_refl _) (fun _ w => Or.inl w) (fun _ w => Or.inl w) g2 ⟨pw_send J.2.2.1.1.1, J.2.2.1.1.2.1, J.2.2.1.1.2.2⟩
  have e1 := J.I1 st
  obtain ⟨⟨w1, w2, w3⟩, ⟨w4, w5⟩, w6, w7, w8⟩ := J2.2.2.2.2.2
  have hK9 : pe_K σ2 877 = 9 := J2.1.1.2.1
  refine pb244_499 (k := ?_)
  rw [e1 (i + 1), e1 (i + 2)]
  refine pe_M_h J2.1.2 (pe_M.up (c200 (d := 0) J2.1.1 J2.2.2.2.1.1 J2.2.2.1.1.1.1 x1 x2 (fun y2 f1 f2 f3 => ?_)) (by omega))
  have J3 := J2.modP (q' := q) f1 f3
  refine py_blk 258 1 yk244 [] (cond (decide (pe_w _ = pe_w _)) 1504 518, _, [], _) rfl trivial ?_
  rw [decide_eq_true rfl]
  refine pb244_1504 (k := ?_)
  exact py_end (k _ _ _ _ _ _ _ _ (J3.wide (by omega) (by omega)))
set_option maxRecDepth 8000 in
theorem lw_8 (J : lw_J T U σ q y L N Us a im h a im h) (hi : 0 ≤ i) (hi6 : i + 6 ≤ L) (hL : L ≤ 3072) (k : lw_K G i L N Us o5 o6 o7) : py_X (d + 24) 10 false cL_law (520, [some (.inr (.inr 1)), some (.inr (.inr 2)), some (.inr (.inr 877)), some (.inr (.inr 920)), some (.inl i), o5, o6, o7], [], σ) G := by
  obtain ⟨⟨v1, v2, v3⟩, ⟨v4, v5⟩, v6, v7, v8⟩ := J.2.2.2.2.2
  have hK2 : pe_K σ 2 = 8 := pk_sK J.2.1.F
  have x1 := v3 (i + 1) (by omega) (by omega)
  refine pb244_520 (k := ?_)
  refine pe_M.up (k88 (d := 0) J.2.1 J.2.2.1.1 x1 (fun σ2 fr g2 => ?_)) (by omega)
  have st : pg_st 2 U σ σ2 := pg_st_fr fr
  have J2 : lw_J T U σ2 q y L (N + 0) (Us + 0) a im h (pa_doClose a (pe_I σ 1 (i + 1))).1 im h := J.cls st (by rw [fr.1.1]; exact Nat.le_refl _) (by rw [fr.1.2.1]; exact Nat.le_refl _) (fun _ w => Or.inl w) (fun _ w => Or.inl w) g2 ⟨pw_close J.2.2.1.1.1, J.2.2.1.1.2.1, J.2.2.1.1.2.2⟩
  have e1 := J.I1 st
  obtain ⟨⟨w1, w2, w3⟩, ⟨w4, w5⟩, w6, w7, w8⟩ := J2.2.2.2.2.2
  have hK9 : pe_K σ2 877 = 9 := J2.1.1.2.1
  refine pb244_530 (k := ?_)
  rw [e1 (i + 1)]
  refine pe_M_h J2.1.2 (pe_M.up (c201 (d := 0) J2.1.1 J2.2.2.2.1.1 J2.2.2.1.1.1.1 x1 (fun y2 f1 f2 f3 => ?_)) (by omega))
  have J3 := J2.modP (q' := q) f1 f3
  refine py_blk 275 1 yk244 [] (cond (decide (pe_w _ = pe_w _)) 1504 543, _, [], _) rfl trivial ?_
  rw [decide_eq_true rfl]
  refine pb244_1504 (k := ?_)
  exact py_end (k _ _ _ _ _ _ _ _ (J3.wide (by omega) (by omega)))
set_option maxRecDepth 8000 in
theorem lw_9 (J : lw_J T U σ q y L N Us a im h a im h) (hi : 0 ≤ i) (hi6 : i + 6 ≤ L) (hL : L ≤ 3072) (k : lw_K G i L N Us o5 o6 o7) : py_X (d + 24) 10 false cL_law (545, [some (.inr (.inr 1)), some (.inr (.inr 2)), some (.inr (.inr 877)), some (.inr (.inr 920)), some (.inl i), o5, o6, o7], [], σ) G := by
  obtain ⟨⟨v1, v2, v3⟩, ⟨v4, v5⟩, v6, v7, v8⟩ := J.2.2.2.2.2
  have hK2 : pe_K σ 2 = 8 := pk_sK J.2.1.F
  have x1 := v3 (i + 1) (by omega) (by omega)
  refine pb244_545 (k := ?_)
  refine pe_M.up (k89 (d := 0) J.2.1 J.2.2.1.1 x1 (fun σ2 fr g2 => ?_)) (by omega)
  have st : pg_st 2 U σ σ2 := pg_st_fr fr
  have J2 : lw_J T U σ2 q y L (N + 0) (Us + 0) a im h (pa_doWidth a (pe_I σ 1 (i + 1))).1 im h := J.cls st (by rw [fr.1.1]; exact Nat.le_refl _) (by rw [fr.1.2.1]; exact Nat.le_refl _) (fun _ w => Or.inl w) (fun _ w => Or.inl w) g2 ⟨pw_width J.2.2.1.1.1, J.2.2.1.1.2.1, J.2.2.1.1.2.2⟩
  have e1 := J.I1 st
  obtain ⟨⟨w1, w2, w3⟩, ⟨w4, w5⟩, w6, w7, w8⟩ := J2.2.2.2.2.2
  have hK9 : pe_K σ2 877 = 9 := J2.1.1.2.1
  refine pb244_555 (k := ?_)
  rw [e1 (i + 1)]
  refine pe_M_h J2.1.2 (pe_M.up (c202 (d := 0) J2.1.1 J2.2.2.2.1.1 J2.2.2.1.1.1.1 x1 (fun y2 f1 f2 f3 => ?_)) (by omega))
  have J3 := J2.modP (q' := q) f1 f3
  refine py_blk 292 1 yk244 [] (cond (decide (pe_w _ = pe_w _)) 1504 568, _, [], _) rfl trivial ?_
  rw [decide_eq_true rfl]
  refine pb244_1504 (k := ?_)
  exact py_end (k _ _ _ _ _ _ _ _ (J3.wide (by omega) (by omega)))
set_option maxRecDepth 8000 in
theorem lw_10 (J : lw_J T U σ q y L N Us a im h a im h) (hi : 0 ≤ i) (hi6 : i + 6 ≤ L) (hL : L ≤ 3072) (k : lw_K G i L N Us o5 o6 o7) : py_X (d + 24) 10 false cL_law (570, [some (.inr (.inr 1)), some (.inr (.inr 2)), some (.inr (.inr 877)), some (.inr (.inr 920)), some (.inl i), o5, o6, o7], [], σ) G := by
  obtain ⟨⟨v1, v2, v3⟩, ⟨v4, v5⟩, v6, v7, v8⟩ := J.2.2.2.2.2
  have hK2 : pe_K σ 2 = 8 := pk_sK J.2.1.F
  have x1 := v3 (i + 1) (by omega) (by omega)
  refine pb244_570 (k := ?_)
  refine pe_M.up (k90 (d := 0) J.2.1 J.2.2.1.1 x1 (fun σ2 fr g2 => ?_)) (by omega)
  have st : pg_st 2 U σ σ2 := pg_st_fr fr
  have J2 : lw_J T U σ2 q y L (N + 0) (Us + 0) a im h (pa_doRounds a (pe_I σ 1 (i + 1))).1 im h := J.cls st (by rw [fr.1.1]; exact Nat.le_refl _) (by rw [fr.1.2.1]; exact Nat.le_refl _) (fun _ w => Or.inl w) (fun _ w => Or.inl w) g2 ⟨pw_rounds J.2.2.1.1.1, J.2.2.1.1.2.1, J.2.2.1.1.2.2⟩
  have e1 := J.I1 st
  obtain ⟨⟨w1, w2, w3⟩, ⟨w4, w5⟩, w6, w7, w8⟩ := J2.2.2.2.2.2
  have hK9 : pe_K σ2 877 = 9 := J2.1.1.2.1
  refine pb244_580 (k := ?_)
  rw [e1 (i + 1)]
  refine pe_M_h J2.1.2 (pe_M.up (c203 (d := 0) J2.1.1 J2.2.2.2.1.1 J2.2.2.1.1.1.1 J2.2.2.1.1.1.2 x1 (fun y2 f1 f2 f3 => ?_)) (by omega))
  have J3 := J2.modP (q' := q) f1 f3
  refine py_blk 309 1 yk244 [] (cond (decide (pe_w _ = pe_w _)) 1504 593, _, [], _) rfl trivial ?_
  rw [decide_eq_true rfl]
  refine pb244_1504 (k := ?_)
  exact py_end (k _ _ _ _ _ _ _ _ (J3.wide (by omega) (by omega)))
set_option maxRecDepth 8000 in
theorem lw_11 (J : lw_J T U σ q y L N Us a im h a im h) (hi : 0 ≤ i) (hi6 : i + 6 ≤ L) (hL : L ≤ 3072) (k : lw_K G i L N Us o5 o6 o7) : py_X (d + 24) 10 false cL_law (595, [some (.inr (.inr 1)), some (.inr (.inr 2)), some (.inr (.inr 877)), some (.inr (.inr 920)), some (.inl i), o5, o6, o7], [], σ) G := by
  obtain ⟨⟨v1, v2, v3⟩, ⟨v4, v5⟩, v6, v7, v8⟩ := J.2.2.2.2.2
  have hK2 : pe_K σ 2 = 8 := pk_sK J.2.1.F
  have x1 := v3 (i + 1) (by omega) (by omega)
  have x2 := v3 (i + 2) (by omega) (by omega)
  have x3 := v3 (i + 3) (by omega) (by omega)
  refine pb244_595 (k := ?_)
  refine pe_M.up (k91 (d := 0) J.2.1 J.2.2.1.1 x1 x2 x3 (fun σ2 fr g2 => ?_)) (by omega)
  have st : pg_st 2 U σ σ2 := pg_st_fr fr
  have J2 : lw_J T U σ2 q y L (N + 0) (Us + 0) a im h a im h := J.cls st (by rw [fr.1.1]; exact Nat.le_refl _) (by rw [fr.1.2.1]; exact Nat.le_refl _) (fun _ w => Or.inl w) (fun _ w => Or.inl w) g2 J.2.2.1.1
  have e1 := J.I1 st
  obtain ⟨⟨w1, w2, w3⟩, ⟨w4, w5⟩, w6, w7, w8⟩ := J2.2.2.2.2.2
  have hK9 : pe_K σ2 877 = 9 := J2.1.1.2.1
  refine pb244_617 (k := ?_)
  rw [e1 (i + 1), e1 (i + 2), e1 (i + 3)]
  refine pe_M_h J2.1.2 (pe_M.up (c204 (d := 0) J2.1.1 J2.2.2.2.1.1 J2.2.2.1.1.1.1 J2.2.2.1.1.1.2 x1 x2 x3 (fun q' y2 f1 f2 f3 => ?_)) (by omega))
  have J3 := J2.modP (q' := q') f1 f3
  refine py_blk 346 1 yk244 [] (cond (decide (pe_w _ = pe_w _)) 1504 642, _, [], _) rfl trivial ?_
  rw [decide_eq_true rfl]
  refine pb244_1504 (k := ?_)
  exact py_end (k _ _ _ _ _ _ _ _ (J3.wide (by omega) (by omega)))
set_option maxRecDepth 8000 in
theorem lw_12 (J : lw_J T U σ q y L N Us a im h a im h) (hi : 0 ≤ i) (hi6 : i + 6 ≤ L) (hL : L ≤ 3072) (k : lw_K G i L N Us o5 o6 o7) : py_X (d + 24) 10 false cL_law (644, [some (.inr (.inr 1)), some (.inr (.inr 2)), some (.inr (.inr 877)), some (.inr (.inr 920)), some (.inl i), o5, o6, o7], [], σ) G := by
  obtain ⟨⟨v1, v2, v3⟩, ⟨v4, v5⟩, v6, v7, v8⟩ := J.2.2.2.2.2
  have hK2 : pe_K σ 2 = 8 := pk_sK J.2.1.F
  have x1 := v3 (i + 1) (by omega) (by omega)
  refine pb244_644 (k := ?_)
  refine pe_M.up (k92 (d := 0) J.2.1 J.2.2.1.1 x1 (fun σ2 fr g2 => ?_)) (by omega)
  have st : pg_st 2 U σ σ2 := pg_st_fr fr
  have J2 : lw_J T U σ2 q y L (N + 0) (Us + 0) a im h a im h := J.cls st (by rw [fr.1.1]; exact Nat.le_refl _) (by rw [fr.1.2.1]; exact Nat.le_refl _) (fun _ w => Or.inl w) (fun _ w => Or.inl w) g2 J.2.2.1.1
  have e1 := J.I1 st
  obtain ⟨⟨w1, w2, w3⟩, ⟨w4, w5⟩, w6, w7, w8⟩ := J2.2.2.2.2.2
  have hK9 : pe_K σ2 877 = 9 := J2.1.1.2.1
  refine pb244_654 (k := ?_)
  rw [e1 (i + 1)]
  refine pe_M_h J2.1.2 (pe_M.up (c205 (d := 0) J2.1.1 J2.2.2.2.1.1 J2.2.2.1.1.1.1 x1 (fun q' y2 f1 f2 f3 => ?_)) (by omega))
  have J3 := J2.modP (q' := q') f1 f3
  refine py_blk 363 1 yk244 [] (cond (decide (pe_w _ = pe_w _)) 1504 667, _, [], _) rfl trivial ?_
  rw [decide_eq_true rfl]
  refine pb244_1504 (k := ?_)
  exact py_end (k _ _ _ _ _ _ _ _ (J3.wide (by omega) (by omega)))
set_option maxRecDepth 8000 in
theorem lw_13 (J : lw_J T U σ q y L N Us a im h a im h) (hi : 0 ≤ i) (hi6 : i + 6 ≤ L) (hL : L ≤ 3072) (k : lw_K G i L N Us o5 o6 o7) : py_X (d + 24) 10 false cL_law (669, [some (.inr (.inr 1)), some (.inr (.inr 2)), some (.inr (.inr 877)), some (.inr (.inr 920)), some (.inl i), o5, o6, o7], [], σ) G := by
  obtain ⟨⟨v1, v2, v3⟩, ⟨v4, v5⟩, v6, v7, v8⟩ := J.2.2.2.2.2
  have hK2 : pe_K σ 2 = 8 := pk_sK J.2.1.F
  have x1 := v3 (i + 1) (by omega) (by omega)
  refine pb244_669 (k := ?_)
  refine pe_M.up (k93 (d := 0) J.2.1 J.2.2.1.1 x1 (fun σ2 fr g2 => ?_)) (by omega)
  have st : pg_st 2 U σ σ2 := pg_st_fr fr
  have J2 : lw_J T U σ2 q y L (N + 0) (Us + 0) a im h a im h := J.cls st (by rw [fr.1.1]; exact Nat.le_refl _) (by rw [fr.1.2.1]; exact Nat.le_refl _) (fun _ w => Or.inl w) (fun _ w => Or.inl w) g2 J.2.2.1.1
  have e1 := J.I1 st
  obtain ⟨⟨w1, w2, w3⟩, ⟨w4, w5⟩, w6, w7, w8⟩ := J2.2.2.2.2.2
  have hK9 : pe_K σ2 877 = 9 := J2.1.1.2.1
  refine pb244_679 (k := ?_)
  rw [e1 (i + 1)]
  refine pe_M_h J2.1.2 (pe_M.up (c207 (d := 0) J2.1.1 J2.2.2.2.1.1 J2.2.2.1.1.1.1 x1 (fun q' y2 P => ?_)) (by omega))
  have J3 := J2.modP (q' := q') P.1 P.2.2
  refine py_blk 380 1 yk244 [] (cond (decide (pe_w _ = pe_w _)) 1504 692, _, [], _) rfl trivial ?_
  rw [decide_eq_true rfl]
  refine pb244_1504 (k := ?_)
  exact py_end (k _ _ _ _ _ _ _ _ (J3.wide (by omega) (by omega)))
set_option maxRecDepth 8000 in
theorem lw_14 (J : lw_J T U σ q y L N Us a im h a im h) (hi : 0 ≤ i) (hi6 : i + 6 ≤ L) (hL : L ≤ 3072) (k : lw_K G i L N Us o5 o6 o7) : py_X (d + 24) 10 false cL_law (694, [some (.inr (.inr 1)), some (.inr (.inr 2)), some (.inr (.inr 877)), some (.inr (.inr 920)), some (.inl i), o5, o6, o7], [], σ) G := by
  obtain ⟨⟨v1, v2, v3⟩, ⟨v4, v5⟩, v6, v7, v8⟩ := J.2.2.2.2.2
  have hK2 : pe_K σ 2 = 8 := pk_sK J.2.1.F
  have x1 := v3 (i + 1) (by omega) (by omega)
  refine pb244_694 (k := ?_)
  refine pe_M.up (k94 (d := 0) J.2.1 J.2.2.1.1 x1 (fun σ2 fr g2 => ?_)) (by omega)
  have st : pg_st 2 U σ σ2 := pg_st_fr fr
  have J2 : lw_J T U σ2 q y L (N + 0) (Us + 0) a im h a im h := J.cls st (by rw [fr.1.1]; exact Nat.le_refl _) (by rw [fr.1.2.1]; exact Nat.le_refl _) (fun _ w => Or.inl w) (fun _ w => Or.inl w) g2 J.2.2.1.1
  have e1 := J.I1 st
  obtain ⟨⟨w1, w2, w3⟩, ⟨w4, w5⟩, w6, w7, w8⟩ := J2.2.2.2.2.2
  have hK9 : pe_K σ2 877 = 9 := J2.1.1.2.1
  refine pb244_704 (k := ?_)
  rw [e1 (i + 1)]
  refine pe_M_h J2.1.2 (pe_M.up (c208 (d := 0) J2.1.1 J2.2.2.2.1.1 J2.2.2.1.1.1.1 J2.2.2.1.1.1.2 x1 (fun q' y2 P => ?_)) (by omega))
  have J3 := J2.modP (q' := q') P.1 P.2.2
  refine py_blk 397 1 yk244 [] (cond (decide (pe_w _ = pe_w _)) 1504 717, _, [], _) rfl trivial ?_
  rw [decide_eq_true rfl]
  refine pb244_1504 (k := ?_)
  exact py_end (k _ _ _ _ _ _ _ _ (J3.wide (by omega) (by omega)))
set_option maxRecDepth 8000 in
theorem lw_15 (J : lw_J T U σ q y L N Us a im h a im h) (hi : 0 ≤ i) (hi6 : i + 6 ≤ L) (hL : L ≤ 3072) (k : lw_K G i L N Us o5 o6 o7) : py_X (d + 24) 10 false cL_law (719, [some (.inr (.inr 1)), some (.inr (.inr 2)), some (.inr (.inr 877)), some (.inr (.inr 920)), some (.inl i), o5, o6, o7], [], σ) G := by
  obtain ⟨⟨v1, v2, v3⟩, ⟨v4, v5⟩, v6, v7, v8⟩ := J.2.2.2.2.2
  have hK2 : pe_K σ 2 = 8 := pk_sK J.2.1.F
  have x1 := v3 (i + 1) (by omega) (by omega)
  refine pb244_719 (k := ?_)
  refine pe_M.up (k95 (d := 0) J.2.1 J.2.2.1.1 x1 (fun σ2 fr g2 => ?_)) (by omega)
  have st : pg_st 2 U σ σ2 := pg_st_fr fr
  have J2 : lw_J T U σ2 q y L (N + 0) (Us + 0) a im h a im h := J.cls st (by rw [fr.1.1]; exact Nat.le_refl _) (by rw [fr.1.2.1]; exact Nat.le_refl _) (fun _ w => Or.inl w) (fun _ w => Or.inl w) g2 J.2.2.1.1
  have e1 := J.I1 st
  obtain ⟨⟨w1, w2, w3⟩, ⟨w4, w5⟩, w6, w7, w8⟩ := J2.2.2.2.2.2
  have hK9 : pe_K σ2 877 = 9 := J2.1.1.2.1
  refine pb244_729 (k := ?_)
  rw [e1 (i + 1)]
  refine pe_M_h J2.1.2 (pe_M.up (c210 (d := 0) J2.1.1 J2.2.2.2.1.1 J2.2.2.1.1.1.1 J2.2.2.1.1.1.2 x1 (fun q' y2 P => ?_)) (by omega))
  have J3 := J2.modP (q' := q') P.1 P.2.2
  refine py_blk 414 1 yk244 [] (cond (decide (pe_w _ = pe_w _)) 1504 742, _, [], _) rfl trivial ?_
  rw [decide_eq_true rfl]
  refine pb244_1504 (k := ?_)
  exact py_end (k _ _ _ _ _ _ _ _ (J3.wide (by omega) (by omega)))
set_option maxRecDepth 8000 in
theorem lw_16 (J : lw_J T U σ q y L N Us a im h a im h) (hi : 0 ≤ i) (hi6 : i + 6 ≤ L) (hL : L ≤ 3072) (k : lw_K G i L N Us o5 o6 o7) : py_X (d + 24) 10 false cL_law (744, [some (.inr (.inr 1)), some (.inr (.inr 2)), some (.inr (.inr 877)), some (.inr (.inr 920)), some (.inl i), o5, o6, o7], [], σ) G := by
  obtain ⟨⟨v1, v2, v3⟩, ⟨v4, v5⟩, v6, v7, v8⟩ := J.2.2.2.2.2
  have hK2 : pe_K σ 2 = 8 := pk_sK J.2.1.F
  have x1 := v3 (i + 1) (by omega) (by omega)
  have x2 := v3 (i + 2) (by omega) (by omega)
  refine pb244_744 (k := ?_)
  refine pe_M.up (k96 (d := 0) J.2.1 J.2.2.1.1 x1 x2 (fun σ2 fr g2 => ?_)) (by omega)
  have st : pg_st 2 U σ σ2 := pg_st_fr fr
  have J2 : lw_J T U σ2 q y L (N + 0) (Us + 0) a im h a im h := J.cls st (by rw [fr.1.1]; exact Nat.le_refl _) (by rw [fr.1.2.1]; exact Nat.le_refl _) (fun _ w => Or.inl w) (fun _ w => Or.inl w) g2 J.2.2.1.1
  have e1 := J.I1 st
  obtain ⟨⟨w1, w2, w3⟩, ⟨w4, w5⟩, w6, w7, w8⟩ := J2.2.2.2.2.2
  have hK9 : pe_K σ2 877 = 9 := J2.1.1.2.1
  refine pb244_760 (k := ?_)
  rw [e1 (i + 1), e1 (i + 2)]
  refine pe_M_h J2.1.2 (pe_M.up (c211 (d := 0) J2.1.1 J2.2.2.2.1.1 J2.2.2.1.1.1.1 x1 x2 (fun q' y2 P => ?_)) (by omega))
  have J3 := J2.modP (q' := q') P.1 P.2.2
  refine py_blk 441 1 yk244 [] (cond (decide (pe_w _ = pe_w _)) 1504 779, _, [], _) rfl trivial ?_
  rw [decide_eq_true rfl]
  refine pb244_1504 (k := ?_)
  exact py_end (k _ _ _ _ _ _ _ _ (J3.wide (by omega) (by omega)))
set_option maxRecDepth 8000 in
theorem lw_17 (J : lw_J T U σ q y L N Us a im h a im h) (hi : 0 ≤ i) (hi6 : i + 6 ≤ L) (hL : L ≤ 3072) (k : lw_K G i L N Us o5 o6 o7) : py_X (d + 24) 10 false cL_law (781, [some (.inr (.inr 1)), some (.inr (.inr 2)), some (.inr (.inr 877)), some (.inr (.inr 920)), some (.inl i), o5, o6, o7], [], σ) G := by
  obtain ⟨⟨v1, v2, v3⟩, ⟨v4, v5⟩, v6, v7, v8⟩ := J.2.2.2.2.2
  have hK2 : pe_K σ 2 = 8 := pk_sK J.2.1.F
  refine pb244_781 (k := ?_)
  refine pe_M.up (k97 (d := 0) J.2.1 J.2.2.1.1  (fun σ2 fr g2 => ?_)) (by omega)
  have st : pg_st 2 U σ σ2 := pg_st_fr fr
  have J2 : lw_J T U σ2 q y L (N + 0) (Us + 0) a im h a im h := J.cls st (by rw [fr.1.1]; exact Nat.le_refl _) (by rw [fr.1.2.1]; exact Nat.le_refl _) (fun _ w => Or.inl w) (fun _ w => Or.inl w) g2 J.2.2.1.1
  have e1 := J.I1 st
  obtain ⟨⟨w1, w2, w3⟩, ⟨w4, w5⟩, w6, w7, w8⟩ := J2.2.2.2.2.2
  have hK9 : pe_K σ2 877 = 9 := J2.1.1.2.1
  refine pb244_785 (k := ?_)
  refine pe_M_h J2.1.2 (pe_M.up (c212 (d := 0) J2.1.1 J2.2.2.2.1.1 J2.2.2.1.1.1.1  (fun q' y2 P => ?_)) (by omega))
  have J3 := J2.modP (q' := q') P.1 P.2.2
  refine py_blk 448 1 yk244 [] (cond (decide (pe_w _ = pe_w _)) 1504 792, _, [], _) rfl trivial ?_
  rw [decide_eq_true rfl]
  refine pb244_1504 (k := ?_)
  exact py_end (k _ _ _ _ _ _ _ _ (J3.wide (by omega) (by omega)))
set_option maxRecDepth 8000 in
theorem lw_18 (J : lw_J T U σ q y L N Us a im h a im h) (hi : 0 ≤ i) (hi6 : i + 6 ≤ L) (hL : L ≤ 3072) (k : lw_K G i L N Us o5 o6 o7) : py_X (d + 24) 10 false cL_law (794, [some (.inr (.inr 1)), some (.inr (.inr 2)), some (.inr (.inr 877)), some (.inr (.inr 920)), some (.inl i), o5, o6, o7], [], σ) G := by
  obtain ⟨⟨v1, v2, v3⟩, ⟨v4, v5⟩, v6, v7, v8⟩ := J.2.2.2.2.2
  have hK2 : pe_K σ 2 = 8 := pk_sK J.2.1.F
  have x1 := v3 (i + 1) (by omega) (by omega)
  refine pb244_794 (k := ?_)
  refine pe_M.up (k98 (d := 0) J.2.1 J.2.2.1.1 x1 (fun σ2 fr g2 => ?_)) (by omega)
  have st : pg_st 2 U σ σ2 := pg_st_fr fr
  have J2 : lw_J T U σ2 q y L (N + 0) (Us + 0) a im h a im h := J.cls st (by rw [fr.1.1]; exact Nat.le_refl _) (by rw [fr.1.2.1]; exact Nat.le_refl _) (fun _ w => Or.inl w) (fun _ w => Or.inl w) g2 J.2.2.1.1
  have e1 := J.I1 st
  obtain ⟨⟨w1, w2, w3⟩, ⟨w4, w5⟩, w6, w7, w8⟩ := J2.2.2.2.2.2
  have hK9 : pe_K σ2 877 = 9 := J2.1.1.2.1
  refine pb244_804 (k := ?_)
  rw [e1 (i + 1)]
  refine pe_M_h J2.1.2 (pe_M.up (c216 (d := 0) J2.1.1 J2.2.2.2.1.1 J2.2.2.1.1.1.1 J2.2.2.2.1.2.1 J2.2.2.1.1.2.2 x1 (fun q' y2 P => ?_)) (by omega))
  have J3 := J2.modP (q' := q') P.1 P.2.2
  refine py_blk 465 1 yk244 [] (cond (decide (pe_w _ = pe_w _)) 1504 817, _, [], _) rfl trivial ?_
  rw [decide_eq_true rfl]
  refine pb244_1504 (k := ?_)
  exact py_end (k _ _ _ _ _ _ _ _ (J3.wide (by omega) (by omega)))
set_option maxRecDepth 8000 in
theorem lw_19 (J : lw_J T U σ q y L N Us a im h a im h) (hi : 0 ≤ i) (hi6 : i + 6 ≤ L) (hL : L ≤ 3072) (k : lw_K G i L N Us o5 o6 o7) : py_X (d + 24) 10 false cL_law (819, [some (.inr (.inr 1)), some (.inr (.inr 2)), some (.inr (.inr 877)), some (.inr (.inr 920)), some (.inl i), o5, o6, o7], [], σ) G := by
  obtain ⟨⟨v1, v2, v3⟩, ⟨v4, v5⟩, v6, v7, v8⟩ := J.2.2.2.2.2
  have hK2 : pe_K σ 2 = 8 := pk_sK J.2.1.F
  have x1 := v3 (i + 1) (by omega) (by omega)
  have x2 := v3 (i + 2) (by omega) (by omega)
  have x3 := v3 (i + 3) (by omega) (by omega)
  refine pb244_819 (k := ?_)
  refine pe_M.up (k99 (d := 0) J.2.1 J.2.2.1.1 x1 x2 x3 (fun σ2 fr g2 => ?_)) (by omega)
  have st : pg_st 2 U σ σ2 := pg_st_fr fr
  have J2 : lw_J T U σ2 q y L (N + 0) (Us + 0) a im h a im h := J.cls st (by rw [fr.1.1]; exact Nat.le_refl _) (by rw [fr.1.2.1]; exact Nat.le_refl _) (fun _ w => Or.inl w) (fun _ w => Or.inl w) g2 J.2.2.1.1
  have e1 := J.I1 st
  obtain ⟨⟨w1, w2, w3⟩, ⟨w4, w5⟩, w6, w7, w8⟩ := J2.2.2.2.2.2
  have hK9 : pe_K σ2 877 = 9 := J2.1.1.2.1
  refine pb244_841 (k := ?_)
  rw [e1 (i + 1), e1 (i + 2), e1 (i + 3)]
  refine pe_M_h J2.1.2 (pe_M.up (c218 (d := 0) J2.1.1 J2.2.2.2.1.1 J2.2.2.1.1.1.1 x1 x2 x3 (fun q' y2 P => ?_)) (by omega))
  have J3 := J2.modP (q' := q') P.1 P.2.2
  refine py_blk 502 1 yk244 [] (cond (decide (pe_w _ = pe_w _)) 1504 866, _, [], _) rfl trivial ?_
  rw [decide_eq_true rfl]
  refine pb244_1504 (k := ?_)
  exact py_end (k _ _ _ _ _ _ _ _ (J3.wide (by omega) (by omega)))
set_option maxRecDepth 8000 in
theorem lw_20 (J : lw_J T U σ q y L N Us a im h a im h) (hi : 0 ≤ i) (hi6 : i + 6 ≤ L) (hL : L ≤ 3072) (k : lw_K G i L N Us o5 o6 o7) : py_X (d + 24) 10 false cL_law (868, [some (.inr (.inr 1)), some (.inr (.inr 2)), some (.inr (.inr 877)), some (.inr (.inr 920)), some (.inl i), o5, o6, o7], [], σ) G := by
  obtain ⟨⟨v1, v2, v3⟩, ⟨v4, v5⟩, v6, v7, v8⟩ := J.2.2.2.2.2
  have hK2 : pe_K σ 2 = 8 := pk_sK J.2.1.F
  have x1 := v3 (i + 1) (by omega) (by omega)
  have x2 := v3 (i + 2) (by omega) (by omega)
  have x3 := v3 (i + 3) (by omega) (by omega)
  refine pb244_868 (k := ?_)
  refine pe_M.up (k100 (d := 0) J.2.1 J.2.2.1.1 x1 x2 x3 (fun σ2 st n2 u2 g2 => ?_)) (by omega)
  have J2 : lw_J T U σ2 q y L (N + 2) (Us + 8) a im h a im h := J.cls st n2 u2 (fun _ w => Or.inl w) (fun _ w => Or.inl w) g2 J.2.2.1.1
  have e1 := J.I1 st
  obtain ⟨⟨w1, w2, w3⟩, ⟨w4, w5⟩, w6, w7, w8⟩ := J2.2.2.2.2.2
  have hK9 : pe_K σ2 877 = 9 := J2.1.1.2.1
  refine pb244_890 (k := ?_)
  rw [e1 (i + 1), e1 (i + 2), e1 (i + 3)]
  refine pe_M_h J2.1.2 (pe_M.up (c221 (d := 0) J2.1.1 J2.2.2.2.1.1 J2.2.2.1.1.1.1 J2.2.2.1.1.1.2 x1 x2 x3 (fun q' y2 P => ?_)) (by omega))
  have J3 := J2.modP (q' := q') P.1 P.2.2
  refine py_blk 539 1 yk244 [] (cond (decide (pe_w _ = pe_w _)) 1504 915, _, [], _) rfl trivial ?_
  rw [decide_eq_true rfl]
  refine pb244_1504 (k := ?_)
  exact py_end (k _ _ _ _ _ _ _ _ (J3.wide (by omega) (by omega)))
set_option maxRecDepth 8000 in
theorem lw_21 (J : lw_J T U σ q y L N Us a im h a im h) (hi : 0 ≤ i) (hi6 : i + 6 ≤ L) (hL : L ≤ 3072) (k : lw_K G i L N Us o5 o6 o7) : py_X (d + 24) 10 false cL_law (917, [some (.inr (.inr 1)), some (.inr (.inr 2)), some (.inr (.inr 877)), some (.inr (.inr 920)), some (.inl i), o5, o6, o7], [], σ) G := by
  obtain ⟨⟨v1, v2, v3⟩, ⟨v4, v5⟩, v6, v7, v8⟩ := J.2.2.2.2.2
  have hK2 : pe_K σ 2 = 8 := pk_sK J.2.1.F
  have x1 := v3 (i + 1) (by omega) (by omega)
  have x2 := v3 (i + 2) (by omega) (by omega)
  have x3 := v3 (i + 3) (by omega) (by omega)
  have x4 := v3 (i + 4) (by omega) (by omega)
  refine pb244_917 (k := ?_)
  refine pe_M.up (k101 (d := 0) J.2.1 J.2.2.1.1 x1 x2 x3 x4 (fun σ2 fr g2 => ?_)) (by omega)
  have st : pg_st 2 U σ σ2 := pg_st_fr fr
  have J2 : lw_J T U σ2 q y L (N + 0) (Us + 0) a im h a im h := J.cls st (by rw [fr.1.1]; exact Nat.le_refl _) (by rw [fr.1.2.1]; exact Nat.le_refl _) (fun _ w => Or.inl w) (fun _ w => Or.inl w) g2 J.2.2.1.1
  have e1 := J.I1 st
  obtain ⟨⟨w1, w2, w3⟩, ⟨w4, w5⟩, w6, w7, w8⟩ := J2.2.2.2.2.2
  have hK9 : pe_K σ2 877 = 9 := J2.1.1.2.1
  refine pb244_945 (k := ?_)
  rw [e1 (i + 1), e1 (i + 2), e1 (i + 3), e1 (i + 4)]
  refine pe_M_h J2.1.2 (pe_M.up (c224 (d := 0) J2.1.1 J2.2.2.2.1.1 J2.2.2.1.1.1.1 x1 x2 x3 x4 (fun q' y2 P => ?_)) (by omega))
  have J3 := J2.modP (q' := q') P.1 P.2.2
  refine py_blk 586 2 yk244 [] (cond (decide (pe_w (pe_lcmp _ _) = 0)) 1504 977, _, [], _) rfl trivial ?_
  rw [pe_lcmp_same, decide_eq_true (show pe_w 0 = 0 from rfl)]
  refine pb244_1504 (k := ?_)
  exact py_end (k _ _ _ _ _ _ _ _ (J3.wide (by omega) (by omega)))
set_option maxRecDepth 8000 in
theorem lw_22 (J : lw_J T U σ q y L N Us a im h a im h) (hi : 0 ≤ i) (hi6 : i + 6 ≤ L) (hL : L ≤ 3072) (k : lw_K G i L N Us o5 o6 o7) : py_X (d + 24) 10 false cL_law (979, [some (.inr (.inr 1)), some (.inr (.inr 2)), some (.inr (.inr 877)), some (.inr (.inr 920)), some (.inl i), o5, o6, o7], [], σ) G := by
  obtain ⟨⟨v1, v2, v3⟩, ⟨v4, v5⟩, v6, v7, v8⟩ := J.2.2.2.2.2
  have hK2 : pe_K σ 2 = 8 := pk_sK J.2.1.F
  have x1 := v3 (i + 1) (by omega) (by omega)
  refine pb244_979 (k := ?_)
  refine pe_M.up (k102 (d := 0) J.2.1 J.2.2.1.1 x1 ?_) (by omega)
  have J2 := J
  have hK9 : pe_K σ 877 = 9 := J2.1.1.2.1
  refine pb244_989 (k := ?_)
  refine pe_M_h J2.1.2 (pe_M.up (c225 (d := 0) J2.1.1 J2.2.2.2.1.1 J2.2.2.1.1.1.1 x1 (fun q' y2 P => ?_)) (by omega))
  have J3 := J2.modP (q' := q') P.1 P.2.2
  refine py_blk 604 2 yk244 [] (cond (decide (pe_w (pe_lcmp _ _) = 0)) 1504 1003, _, [], _) rfl trivial ?_
  rw [pe_lcmp_same, decide_eq_true (show pe_w 0 = 0 from rfl)]
  refine pb244_1504 (k := ?_)
  exact py_end (k _ _ _ _ _ _ _ _ (J3.wide (by omega) (by omega)))
set_option maxRecDepth 8000 in
theorem lw_23 (J : lw_J T U σ q y L N Us a im h a im h) (hi : 0 ≤ i) (hi6 : i + 6 ≤ L) (hL : L ≤ 3072) (k : lw_K G i L N Us o5 o6 o7) : py_X (d + 24) 10 false cL_law (1005, [some (.inr (.inr 1)), some (.inr (.inr 2)), some (.inr (.inr 877)), some (.inr (.inr 920)), some (.inl i), o5, o6, o7], [], σ) G := by
  obtain ⟨⟨v1, v2, v3⟩, ⟨v4, v5⟩, v6, v7, v8⟩ := J.2.2.2.2.2
  have hK2 : pe_K σ 2 = 8 := pk_sK J.2.1.F
  have x1 := v3 (i + 1) (by omega) (by omega)
  refine pb244_1005 (k := ?_)
  refine pe_M.up (k103 (d := 0) J.2.1 J.2.2.1.1 x1 ?_) (by omega)
  have J2 := J
  have hK9 : pe_K σ 877 = 9 := J2.1.1.2.1
  refine pb244_1015 (k := ?_)
  refine pe_M_h J2.1.2 (pe_M.up (c226 (d := 0) J2.1.1 J2.2.2.2.1.1 J2.2.2.1.1.1.1 J2.2.2.2.1.2.1 J2.2.2.1.1.2.2 x1 (fun q' y2 P => ?_)) (by omega))
  have J3 := J2.modP (q' := q') P.1 P.2.2
  refine py_blk 622 1 yk244 [] (cond (decide (pe_w _ = pe_w _)) 1504 1028, _, [], _) rfl trivial ?_
  rw [decide_eq_true rfl]
  refine pb244_1504 (k := ?_)
  exact py_end (k _ _ _ _ _ _ _ _ (J3.wide (by omega) (by omega)))
set_option maxRecDepth 8000 in
theorem lw_24 (J : lw_J T U σ q y L N Us a im h a im h) (hi : 0 ≤ i) (hi6 : i + 6 ≤ L) (hL : L ≤ 3072) (k : lw_K G i L N Us o5 o6 o7) : py_X (d + 24) 10 false cL_law (1030, [some (.inr (.inr 1)), some (.inr (.inr 2)), some (.inr (.inr 877)), some (.inr (.inr 920)), some (.inl i), o5, o6, o7], [], σ) G := by
  obtain ⟨⟨v1, v2, v3⟩, ⟨v4, v5⟩, v6, v7, v8⟩ := J.2.2.2.2.2
  have hK2 : pe_K σ 2 = 8 := pk_sK J.2.1.F
  have x1 := v3 (i + 1) (by omega) (by omega)
  refine pb244_1030 (k := ?_)
  refine pe_M.up (k104 (d := 0) J.2.1 J.2.2.1.1 x1 (fun σ2 fr g2 => ?_)) (by omega)
  have st : pg_st 2 U σ σ2 := pg_st_fr fr
  have J2 : lw_J T U σ2 q y L (N + 0) (Us + 0) a im h a im h := J.cls st (by rw [fr.1.1]; exact Nat.le_refl _) (by rw [fr.1.2.1]; exact Nat.le_refl _) (fun _ w => Or.inl w) (fun _ w => Or.inl w) g2 J.2.2.1.1
  have e1 := J.I1 st
  obtain ⟨⟨w1, w2, w3⟩, ⟨w4, w5⟩, w6, w7, w8⟩ := J2.2.2.2.2.2
  have hK9 : pe_K σ2 877 = 9 := J2.1.1.2.1
  refine pb244_1040 (k := ?_)
  rw [e1 (i + 1)]
  refine pe_M_h J2.1.2 (pe_M.up (c227 (d := 0) J2.1.1 J2.2.2.2.1.1 J2.2.2.1.1.1.1 J2.2.2.2.1.2.1 J2.2.2.1.1.2.2 x1 (fun q' y2 P => ?_)) (by omega))
  have J3 := J2.modP (q' := q') P.1 P.2.2
  refine py_blk 639 1 yk244 [] (cond (decide (pe_w _ = pe_w _)) 1504 1053, _, [], _) rfl trivial ?_
  rw [decide_eq_true rfl]
  refine pb244_1504 (k := ?_)
  exact py_end (k _ _ _ _ _ _ _ _ (J3.wide (by omega) (by omega)))
set_option maxRecDepth 8000 in
theorem lw_25 (J : lw_J T U σ q y L N Us a im h a im h) (hi : 0 ≤ i) (hi6 : i + 6 ≤ L) (hL : L ≤ 3072) (k : lw_K G i L N Us o5 o6 o7) : py_X (d + 24) 10 false cL_law (1055, [some (.inr (.inr 1)), some (.inr (.inr 2)), some (.inr (.inr 877)), some (.inr (.inr 920)), some (.inl i), o5, o6, o7], [], σ) G := by
  obtain ⟨⟨v1, v2, v3⟩, ⟨v4, v5⟩, v6, v7, v8⟩ := J.2.2.2.2.2
  have hK2 : pe_K σ 2 = 8 := pk_sK J.2.1.F
  have x1 := v3 (i + 1) (by omega) (by omega)
  have x2 := v3 (i + 2) (by omega) (by omega)
  have x3 := v3 (i + 3) (by omega) (by omega)
  refine pb244_1055 (k := ?_)
  refine pe_M.up (k105 (d := 0) J.2.1 J.2.2.1.1 x1 x3 (fun σ2 fr g2 => ?_)) (by omega)
  have st : pg_st 2 U σ σ2 := pg_st_fr fr
  have J2 : lw_J T U σ2 q y L (N + 0) (Us + 0) a im h a im h := J.cls st (by rw [fr.1.1]; exact Nat.le_refl _) (by rw [fr.1.2.1]; exact Nat.le_refl _) (fun _ w => Or.inl w) (fun _ w => Or.inl w) g2 J.2.2.1.1
  have e1 := J.I1 st
  obtain ⟨⟨w1, w2, w3⟩, ⟨w4, w5⟩, w6, w7, w8⟩ := J2.2.2.2.2.2
  have hK9 : pe_K σ2 877 = 9 := J2.1.1.2.1
  refine pb244_1077 (k := ?_)
  rw [e1 (i + 1), e1 (i + 2), e1 (i + 3)]
  refine pe_M_h J2.1.2 (pe_M.up (c230 (d := 0) J2.1.1 J2.2.2.2.1.1 J2.2.2.1.1.1.1 J2.2.2.1.1.1.2 x1 x3 (fun q' y2 P => ?_)) (by omega))
  have J3 := J2.modP (q' := q') P.1 P.2.2
  refine py_blk 676 1 yk244 [] (cond (decide (pe_w _ = pe_w _)) 1504 1102, _, [], _) rfl trivial ?_
  rw [decide_eq_true rfl]
  refine pb244_1504 (k := ?_)
  exact py_end (k _ _ _ _ _ _ _ _ (J3.wide (by omega) (by omega)))
set_option maxRecDepth 8000 in
theorem lw_26 (J : lw_J T U σ q y L N Us a im h a im h) (hi : 0 ≤ i) (hi6 : i + 6 ≤ L) (hL : L ≤ 3072) (k : lw_K G i L N Us o5 o6 o7) : py_X (d + 24) 10 false cL_law (1104, [some (.inr (.inr 1)), some (.inr (.inr 2)), some (.inr (.inr 877)), some (.inr (.inr 920)), some (.inl i), o5, o6, o7], [], σ) G := by
  obtain ⟨⟨v1, v2, v3⟩, ⟨v4, v5⟩, v6, v7, v8⟩ := J.2.2.2.2.2
  have hK2 : pe_K σ 2 = 8 := pk_sK J.2.1.F
  refine pb244_1104 (k := ?_)
  refine pe_M.up (k106 (d := 0) J.2.1 J.2.2.1.1  (fun σ2 fr g2 => ?_)) (by omega)
  have st : pg_st 2 U σ σ2 := pg_st_fr fr
  have J2 : lw_J T U σ2 q y L (N + 0) (Us + 0) a im h a (some a) h := J.cls st (by rw [fr.1.1]; exact Nat.le_refl _) (by rw [fr.1.2.1]; exact Nat.le_refl _) (fun _ w => Or.inl w) (fun _ w => Or.inl w) g2 ⟨J.2.2.1.1.1, fun b hb => (by cases hb; exact J.2.2.1.1.1), J.2.2.1.1.2.2⟩
  have e1 := J.I1 st
  obtain ⟨⟨w1, w2, w3⟩, ⟨w4, w5⟩, w6, w7, w8⟩ := J2.2.2.2.2.2
  have hK9 : pe_K σ2 877 = 9 := J2.1.1.2.1
  refine pb244_1108 (k := ?_)
  refine pe_M_h J2.1.2 (pe_M.up (c189 (d := 0) J2.1.1 J2.2.2.2.1.1 J2.2.2.1.1.1.1  (fun q' y2 f1 f2 f3 f4 => ?_)) (by omega))
  have J3 := J2.mod (q' := q') ⟨f3, pm_RS_fz f1 (fun k j k1 k2 w => w ⟨k1, k2⟩) J2.2.2.2.1.2.1, f4⟩
  refine py_blk 683 1 yk244 [] (cond (decide (pe_w _ = pe_w _)) 1504 1115, _, [], _) rfl trivial ?_
  rw [decide_eq_true rfl]
  refine pb244_1504 (k := ?_)
  exact py_end (k _ _ _ _ _ _ _ _ (J3.wide (by omega) (by omega)))
set_option maxRecDepth 8000 in
theorem lw_27 (J : lw_J T U σ q y L N Us a im h a im h) (hi : 0 ≤ i) (hi6 : i + 6 ≤ L) (hL : L ≤ 3072) (k : lw_K G i L N Us o5 o6 o7) : py_X (d + 24) 10 false cL_law (1117, [some (.inr (.inr 1)), some (.inr (.inr 2)), some (.inr (.inr 877)), some (.inr (.inr 920)), some (.inl i), o5, o6, o7], [], σ) G := by
  obtain ⟨⟨v1, v2, v3⟩, ⟨v4, v5⟩, v6, v7, v8⟩ := J.2.2.2.2.2
  have hK2 : pe_K σ 2 = 8 := pk_sK J.2.1.F
  refine pb244_1117 (k := ?_)
  refine pe_M.up (k107 (d := 0) J.2.1 J.2.2.1.1  (fun σ2 fr g2 => ?_)) (by omega)
  have st : pg_st 2 U σ σ2 := pg_st_fr fr
  have J2 : lw_J T U σ2 q y L (N + 0) (Us + 0) a im h (pa_doRestore a im).1 im h := J.cls st (by rw [fr.1.1]; exact Nat.le_refl _) (by rw [fr.1.2.1]; exact Nat.le_refl _) (fun _ w => Or.inl w) (fun _ w => Or.inl w) g2 ⟨pw_restore J.2.2.1.1.1 J.2.2.1.1.2.1, J.2.2.1.1.2.1, J.2.2.1.1.2.2⟩
  have e1 := J.I1 st
  obtain ⟨⟨w1, w2, w3⟩, ⟨w4, w5⟩, w6, w7, w8⟩ := J2.2.2.2.2.2
  have hK9 : pe_K σ2 877 = 9 := J2.1.1.2.1
  refine pb244_1121 (k := ?_)
  refine pe_M_h J2.1.2 (pe_M.up (c190 (d := 0) J2.1.1 J2.2.2.2.1.1 J2.2.2.1.1.1.1 J2.2.2.2.1.2.2 (fun b hb => (J2.2.2.1.1.2.1 b hb).1)  (fun q' y2 f1 f2 f3 f4 => ?_)) (by omega))
  have J3 := J2.mod (q' := q') ⟨f3, pm_RS_fz f1 (fun k j k1 k2 w => w ⟨k1, k2⟩) J2.2.2.2.1.2.1, f4⟩
  refine py_blk 690 1 yk244 [] (cond (decide (pe_w _ = pe_w _)) 1504 1128, _, [], _) rfl trivial ?_
  rw [decide_eq_true rfl]
  refine pb244_1504 (k := ?_)
  exact py_end (k _ _ _ _ _ _ _ _ (J3.wide (by omega) (by omega)))
set_option maxRecDepth 8000 in
theorem lw_28 (J : lw_J T U σ q y L N Us a im h a im h) (hi : 0 ≤ i) (hi6 : i + 6 ≤ L) (hL : L ≤ 3072) (k : lw_K G i L N Us o5 o6 o7) : py_X (d + 24) 10 false cL_law (1130, [some (.inr (.inr 1)), some (.inr (.inr 2)), some (.inr (.inr 877)), some (.inr (.inr 920)), some (.inl i), o5, o6, o7], [], σ) G := by
  obtain ⟨⟨v1, v2, v3⟩, ⟨v4, v5⟩, v6, v7, v8⟩ := J.2.2.2.2.2
  have hK2 : pe_K σ 2 = 8 := pk_sK J.2.1.F
  have x1 := v3 (i + 1) (by omega) (by omega)
  refine pb244_1130 (k := ?_)
  refine pe_M.up (k108 (d := 0) J.2.1 J.2.2.1.1 x1 ?_) (by omega)
  have J2 := J
  have hK9 : pe_K σ 877 = 9 := J2.1.1.2.1
  refine pb244_1140 (k := ?_)
  refine pe_M_h J2.1.2 (pe_M.up (c232 (d := 0) J2.1.1 J2.2.2.2.1.1 J2.2.2.1.1.1.1 x1 (fun q' y2 P => ?_)) (by omega))
  have J3 := J2.modP (q' := q') P.1 P.2.2
  refine py_blk 707 1 yk244 [] (cond (decide (pe_w _ = pe_w _)) 1504 1153, _, [], _) rfl trivial ?_
  rw [decide_eq_true rfl]
  refine pb244_1504 (k := ?_)
  exact py_end (k _ _ _ _ _ _ _ _ (J3.wide (by omega) (by omega)))
set_option maxRecDepth 8000 in
theorem lw_29 (J : lw_J T U σ q y L N Us a im h a im h) (hi : 0 ≤ i) (hi6 : i + 6 ≤ L) (hL : L ≤ 3072) (k : lw_K G i L N Us o5 o6 o7) : py_X (d + 24) 10 false cL_law (1155, [some (.inr (.inr 1)), some (.inr (.inr 2)), some (.inr (.inr 877)), some (.inr (.inr 920)), some (.inl i), o5, o6, o7], [], σ) G := by
  obtain ⟨⟨v1, v2, v3⟩, ⟨v4, v5⟩, v6, v7, v8⟩ := J.2.2.2.2.2
  have hK2 : pe_K σ 2 = 8 := pk_sK J.2.1.F
  have x1 := v3 (i + 1) (by omega) (by omega)
  have x2 := v3 (i + 2) (by omega) (by omega)
  have x3 := v3 (i + 3) (by omega) (by omega)
  have x4 := v3 (i + 4) (by omega) (by omega)
  refine pb244_1155 (k := ?_)
  refine pe_M.up (k109 (d := 0) J.2.1 J.2.2.1.1 x1 x2 x3 x4 (fun σ2 T2 st n2 u2 ht g2 => ?_)) (by omega)
  have J2 : lw_J T2 U σ2 q y L (N + 1) (Us + 2) a im h a im (pa_doKeep h (pe_I σ 1 (i + 1)) (pe_I σ 1 (i + 2)) (pe_I σ 1 (i + 3)) (pe_I σ 1 (i + 4))).1 := J.cls st n2 u2 ht (fun _ w => Or.inl w) g2 ⟨J.2.2.1.1.1, J.2.2.1.1.2.1, pw_keep J.2.2.1.1.2.2⟩
  have e1 := J.I1 st
  obtain ⟨⟨w1, w2, w3⟩, ⟨w4, w5⟩, w6, w7, w8⟩ := J2.2.2.2.2.2
  have hK9 : pe_K σ2 877 = 9 := J2.1.1.2.1
  refine pb244_1183 (k := ?_)
  rw [e1 (i + 1), e1 (i + 2), e1 (i + 3), e1 (i + 4)]
  refine pe_M_h J2.1.2 (pe_M.up (c234 (d := 0) J2.1.1 J2.2.2.2.1.2.1 J2.2.2.1.1.2.2 x1 x2 x3 x4 (fun y2 f1 f2 f3 => ?_)) (by omega))
  have J3 := J2.modH (q' := q) f1 f3
  refine py_blk 754 1 yk244 [] (cond (decide (pe_w _ = pe_w _)) 1504 1214, _, [], _) rfl trivial ?_
  rw [decide_eq_true rfl]
  refine pb244_1504 (k := ?_)
  exact py_end (k _ _ _ _ _ _ _ _ (J3.wide (by omega) (by omega)))
set_option maxRecDepth 8000 in
theorem lw_30 (J : lw_J T U σ q y L N Us a im h a im h) (hi : 0 ≤ i) (hi6 : i + 6 ≤ L) (hL : L ≤ 3072) (k : lw_K G i L N Us o5 o6 o7) : py_X (d + 24) 10 false cL_law (1216, [some (.inr (.inr 1)), some (.inr (.inr 2)), some (.inr (.inr 877)), some (.inr (.inr 920)), some (.inl i), o5, o6, o7], [], σ) G := by
  obtain ⟨⟨v1, v2, v3⟩, ⟨v4, v5⟩, v6, v7, v8⟩ := J.2.2.2.2.2
  have hK2 : pe_K σ 2 = 8 := pk_sK J.2.1.F
  have x1 := v3 (i + 1) (by omega) (by omega)
  have x2 := v3 (i + 2) (by omega) (by omega)
  have x3 := v3 (i + 3) (by omega) (by omega)
  refine pb244_1216 (k := ?_)
  refine pe_M.up (k110 (d := 0) J.2.1 J.2.2.1.1 x1 x2 x3 (fun σ2 T2 U2 st n2 u2 ht hu g2 => ?_)) (by omega)
  have J2 : lw_J T2 U2 σ2 q y L (N + 2) (Us + 102) a im h a im (pa_doRow h (pe_I σ 1 (i + 1)) (pe_I σ 1 (i + 2)) (pe_I σ 1 (i + 3))).1 := J.cls st n2 u2 ht hu g2 ⟨J.2.2.1.1.1, J.2.2.1.1.2.1, pw_row J.2.2.1.1.2.2⟩
  have e1 := J.I1 st
  obtain ⟨⟨w1, w2, w3⟩, ⟨w4, w5⟩, w6, w7, w8⟩ := J2.2.2.2.2.2
  have hK9 : pe_K σ2 877 = 9 := J2.1.1.2.1
  refine pb244_1238 (k := ?_)
  rw [e1 (i + 1), e1 (i + 2), e1 (i + 3)]
  refine pe_M_h J2.1.2 (pe_M.up (c237 (d := 0) J2.1.1 J2.2.2.2.1.2.1 J2.2.2.1.1.2.2 x1 x2 x3 (fun y2 f1 f2 f3 => ?_)) (by omega))
  have J3 := J2.modH (q' := q) f1 f3
  refine py_blk 791 1 yk244 [] (cond (decide (pe_w _ = pe_w _)) 1504 1263, _, [], _) rfl trivial ?_
  rw [decide_eq_true rfl]
  refine pb244_1504 (k := ?_)
  exact py_end (k _ _ _ _ _ _ _ _ (J3.wide (by omega) (by omega)))
set_option maxRecDepth 8000 in
theorem lw_31 (J : lw_J T U σ q y L N Us a im h a im h) (hi : 0 ≤ i) (hi6 : i + 6 ≤ L) (hL : L ≤ 3072) (k : lw_K G i L N Us o5 o6 o7) : py_X (d + 24) 10 false cL_law (1265, [some (.inr (.inr 1)), some (.inr (.inr 2)), some (.inr (.inr 877)), some (.inr (.inr 920)), some (.inl i), o5, o6, o7], [], σ) G := by
  obtain ⟨⟨v1, v2, v3⟩, ⟨v4, v5⟩, v6, v7, v8⟩ := J.2.2.2.2.2
  have hK2 : pe_K σ 2 = 8 := pk_sK J.2.1.F
  have x1 := v3 (i + 1) (by omega) (by omega)
  have x2 := v3 (i + 2) (by omega) (by omega)
  have x3 := v3 (i + 3) (by omega) (by omega)
  refine pb244_1265 (k := ?_)
  refine pe_M.up (k111 (d := 0) J.2.1 J.2.2.1.1 x1 x2 x3 (fun σ2 st n2 u2 g2 => ?_)) (by omega)
  have J2 : lw_J T U σ2 q y L (N + 0) (Us + 0) a im h a im (pa_doPut h (pe_I σ 1 (i + 1)) (pe_I σ 1 (i + 2)) (pe_I σ 1 (i + 3))).1 := J.cls st (by omega) (by omega) (fun _ w => Or.inl w) (fun _ w => Or.inl w) g2 ⟨J.2.2.1.1.1, J.2.2.1.1.2.1, pw_put J.2.2.1.1.2.2⟩
  have e1 := J.I1 st
  obtain ⟨⟨w1, w2, w3⟩, ⟨w4, w5⟩, w6, w7, w8⟩ := J2.2.2.2.2.2
  have hK9 : pe_K σ2 877 = 9 := J2.1.1.2.1
  refine pb244_1287 (k := ?_)
  rw [e1 (i + 1), e1 (i + 2), e1 (i + 3)]
  refine pe_M_h J2.1.2 (pe_M.up (c238 (d := 0) J2.1.1 J2.2.2.2.1.2.1 J2.2.2.1.1.2.2 x1 x2 x3 (fun y2 f1 f2 f3 => ?_)) (by omega))
  have J3 := J2.modH (q' := q) f1 f3
  refine py_blk 828 1 yk244 [] (cond (decide (pe_w _ = pe_w _)) 1504 1312, _, [], _) rfl trivial ?_
  rw [decide_eq_true rfl]
  refine pb244_1504 (k := ?_)
  exact py_end (k _ _ _ _ _ _ _ _ (J3.wide (by omega) (by omega)))
set_option maxRecDepth 8000 in
theorem lw_33 (J : lw_J T U σ q y L N Us a im h a im h) (hi : 0 ≤ i) (hi6 : i + 6 ≤ L) (hL : L ≤ 3072) (k : lw_K G i L N Us o5 o6 o7) : py_X (d + 24) 10 false cL_law (1381, [some (.inr (.inr 1)), some (.inr (.inr 2)), some (.inr (.inr 877)), some (.inr (.inr 920)), some (.inl i), o5, o6, o7], [], σ) G := by
  obtain ⟨⟨v1, v2, v3⟩, ⟨v4, v5⟩, v6, v7, v8⟩ := J.2.2.2.2.2
  have hK2 : pe_K σ 2 = 8 := pk_sK J.2.1.F
  have x1 := v3 (i + 1) (by omega) (by omega)
  have x2 := v3 (i + 2) (by omega) (by omega)
  have x3 := v3 (i + 3) (by omega) (by omega)
  have x4 := v3 (i + 4) (by omega) (by omega)
  have x5 := v3 (i + 5) (by omega) (by omega)
  refine pb244_1381 (k := ?_)
  refine pe_M.up (k113 (d := 0) J.2.1 J.2.2.1.1 x1 x2 x3 x4 x5 (fun σ2 st n2 u2 g2 => ?_)) (by omega)
  have J2 : lw_J T U σ2 q y L (N + 0) (Us + 0) a im h a im (pa_doCopy h (pe_I σ 1 (i + 1)) (pe_I σ 1 (i + 2)) (pe_I σ 1 (i + 3)) (pe_I σ 1 (i + 4)) (pe_I σ 1 (i + 5))).1 := J.cls st (by omega) (by omega) (fun _ w => Or.inl w) (fun _ w => Or.inl w) g2 ⟨J.2.2.1.1.1, J.2.2.1.1.2.1, pw_copy J.2.2.1.1.2.2⟩
  have e1 := J.I1 st
  obtain ⟨⟨w1, w2, w3⟩, ⟨w4, w5⟩, w6, w7, w8⟩ := J2.2.2.2.2.2
  have hK9 : pe_K σ2 877 = 9 := J2.1.1.2.1
  refine pb244_1415 (k := ?_)
  rw [e1 (i + 1), e1 (i + 2), e1 (i + 3), e1 (i + 4), e1 (i + 5)]
  refine pe_M_h J2.1.2 (pe_M.up (c240 (d := 0) J2.1.1 J2.2.2.2.1.2.1 J2.2.2.1.1.2.2 x1 x2 x3 x4 x5 (fun y2 f1 f2 f3 => ?_)) (by omega))
  have J3 := J2.modH (q' := q) f1 f3
  refine py_blk 929 1 yk244 [] (cond (decide (pe_w _ = pe_w _)) 1504 1452, _, [], _) rfl trivial ?_
  rw [decide_eq_true rfl]
  refine pb244_1504 (k := ?_)
  exact py_end (k _ _ _ _ _ _ _ _ (J3.wide (by omega) (by omega)))
set_option maxRecDepth 8000 in
theorem lw_34 (J : lw_J T U σ q y L N Us a im h a im h) (hi : 0 ≤ i) (hi6 : i + 6 ≤ L) (hL : L ≤ 3072) (k : lw_K G i L N Us o5 o6 o7) : py_X (d + 24) 10 false cL_law (1454, [some (.inr (.inr 1)), some (.inr (.inr 2)), some (.inr (.inr 877)), some (.inr (.inr 920)), some (.inl i), o5, o6, o7], [], σ) G := by
  obtain ⟨⟨v1, v2, v3⟩, ⟨v4, v5⟩, v6, v7, v8⟩ := J.2.2.2.2.2
  have hK2 : pe_K σ 2 = 8 := pk_sK J.2.1.F
  have x1 := v3 (i + 1) (by omega) (by omega)
  refine pb244_1454 (k := ?_)
  refine pe_M.up (k114 (d := 0) J.2.1 J.2.2.1.1 x1 ?_) (by omega)
  have J2 := J
  have hK9 : pe_K σ 877 = 9 := J2.1.1.2.1
  refine pb244_1464 (k := ?_)
  refine pe_M_h J2.1.2 (pe_M.up (c242 (d := 0) J2.1.1 J2.2.2.2.1.2.1 J2.2.2.1.1.2.2 x1 ?_) (by omega))
  have J3 := J2.modP (q' := q) (pm_fr_u (k := 0) (j := 37) (v := 0) (by unfold pm_Zp; omega)) (pm_R_37 J2.2.2.2.1.1 J2.2.2.1.1.1.1.1.w8)
  refine py_blk 946 1 yk244 [] (cond (decide (pe_w _ = pe_w _)) 1504 1477, _, [], _) rfl trivial ?_
  rw [decide_eq_true rfl]
  refine pb244_1504 (k := ?_)
  exact py_end (k _ _ _ _ _ _ _ _ (J3.wide (by omega) (by omega)))
end
