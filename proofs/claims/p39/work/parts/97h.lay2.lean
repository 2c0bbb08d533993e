/-! THE LAW: lay -/
section
variable {d o r q x y x' y' : Nat} {Z Z' : Int → Prop} {Φ : Option pe_V → pe_H → Prop} {σ σ' σ'' : pe_H} {g g' g'' : Nat → Int} {c e v n p : Int} {a b s s' : pa_M} {w : pa_C} {nu : Nat → Int} {k0 : Nat} {l : List Int} {f : pa_F} {fs : List pa_F} {P : pa_P}
theorem ll_LN.A1 {n0 n1 : Nat} (h : ll_LN σ n0 n1 P) (hK : pe_K σ n0 = 10 ∧ pe_L σ n0 = P.length ∧ g n0 = -1) : ll_A σ g n0 (P.map Prod.fst) := by
  refine ⟨⟨hK.1, hK.2.2⟩, by rw [List.length_map]; exact hK.2.1, fun i hi => ?_⟩
  rw [List.length_map] at hi
  rw [(h i hi).1, List.getD_eq_getElem?_getD, List.getD_eq_getElem?_getD, List.getElem?_map, List.getElem?_eq_getElem hi]
  rfl
theorem ll_LN.A2 {n0 n1 : Nat} (h : ll_LN σ n0 n1 P) (hK : pe_K σ n1 = 10 ∧ pe_L σ n1 = P.length ∧ g n1 = -1) : ll_A σ g n1 (P.map Prod.snd) := by
  refine ⟨⟨hK.1, hK.2.2⟩, by rw [List.length_map]; exact hK.2.1, fun i hi => ?_⟩
  rw [List.length_map] at hi
  rw [(h i hi).2, List.getD_eq_getElem?_getD, List.getD_eq_getElem?_getD, List.getElem?_map, List.getElem?_eq_getElem hi]
  rfl
theorem k166 {ra : Nat} {x2 : Int} {txt : List Int} (hR : ll_R σ g b) (hw : pa_wf9 b) (hs : ll_sc σ) (hsg : ll_sg σ) (h2 : 0 ≤ x2 ∧ x2 ≤ 60) (hp : 0 ≤ p ∧ p < 5) (hra : g ra = -6) (hRa : pe_K σ ra = 10 ∧ pe_L σ ra = 100) (hT : ll_T σ ra txt) (htx : txt.length + 17 ≤ 100) (k : ∀ σ' g' P, ll_gd P → ll_fr ll_Zt 2 14 σ g σ' g' → ll_R σ' g' (pa_prog b p P) → ll_T σ' ra (txt ++ ll_tx (p, P)) → (ll_tx (p, P)).length ≤ 17 → Φ (some (.inl ((txt ++ ll_tx (p, P)).length : Int))) σ') : pe_M (d + 4) 166 [.inr (.inr 3), .inr (.inr 1), .inl x2, .inl p, .inr (.inr ra), .inl (txt.length : Int)] σ Φ := by
  have hL := hR.L
  have hg := hR.gg
  have hn3 : 899 ≤ pe_n σ := hL.1.1
  have hra9 : g ra ≠ -9 := by rw [hra]; decide
  have hlt := ll_lt hg hra9
  have r0 : ra ≠ 0 := fun e => by rw [e, hR.B.2.2.2.2.2.2.1] at hra; omega
  have r1 : ra ≠ 1 := fun e => by rw [e, hR.B.2.2.2.2.2.2.2.1] at hra; omega
  have g0 := hg _ (Nat.le_refl (pe_n σ))
  have g01 := hg (pe_n σ + 1) (by omega)
  obtain ⟨hRa1, hRa2⟩ := hRa
  refine pe_M_of ck166 (Nat.le_of_ble_eq_true rfl) ?_
  refine b166_0 (k := ?_)
  refine pe_M.up (k146 (d := 0) hs (by omega) (by decide) (fun sz z0 z8 => ?_)) (by omega)
  refine b166_7 (k := ?_)
  refine pe_M.up (k146 (d := 0) hs (by omega) (by decide) (fun fin f0 f12 => ?_)) (by omega)
  refine b166_18 (k := ?_)
  have e0 : ll_fr (fun _ => False) 1 sz.toNat σ g (pe_new σ 10 sz sz.toNat) (ll_u g (pe_n σ) (-1)) := ll_fr_new hg
  have hL1 := (hR.B.fr e0 (fun h => h)).L
  refine b166_26 (k := ?_)
  have en : pe_n (pe_new σ 10 sz sz.toNat) = pe_n σ + 1 := rfl
  rw [en]
  have e1 : ll_fr (fun _ => False) 1 sz.toNat (pe_new σ 10 sz sz.toNat) (ll_u g (pe_n σ) (-1)) (pe_new (pe_new σ 10 sz sz.toNat) 10 sz sz.toNat) (ll_u (ll_u g (pe_n σ) (-1)) (pe_n σ + 1) (-1)) := ll_fr_new e0.gg
  have e2 := ll_fr_trans e0 e1
  have c0 : ll_u (ll_u g (pe_n σ) (-1)) (pe_n σ + 1) (-1) (pe_n σ) = -1 := (if_neg (Nat.ne_of_lt (Nat.lt_succ_self _))).trans (if_pos rfl)
  have c1 : ll_u (ll_u g (pe_n σ) (-1)) (pe_n σ + 1) (-1) (pe_n σ + 1) = -1 := if_pos rfl
  have k0 : pe_K (pe_new (pe_new σ 10 sz sz.toNat) 10 sz sz.toNat) (pe_n σ) = 10 := (if_neg (Nat.ne_of_lt (Nat.lt_succ_self _))).trans (if_pos rfl)
  have l0 : pe_L (pe_new (pe_new σ 10 sz sz.toNat) 10 sz sz.toNat) (pe_n σ) = sz := (if_neg (Nat.ne_of_lt (Nat.lt_succ_self _))).trans (if_pos rfl)
  have k1 : pe_K (pe_new (pe_new σ 10 sz sz.toNat) 10 sz sz.toNat) (pe_n σ + 1) = 10 := if_pos rfl
  have l1 : pe_L (pe_new (pe_new σ 10 sz sz.toNat) 10 sz sz.toNat) (pe_n σ + 1) = sz := if_pos rfl
  have kr : pe_K (pe_new (pe_new σ 10 sz sz.toNat) 10 sz sz.toNat) ra = 10 := (e2.K hra9).trans hRa1
  have lr : pe_L (pe_new (pe_new σ 10 sz sz.toNat) 10 sz sz.toNat) ra = 100 := (e2.L hra9).trans hRa2
  have T2 : ll_T (pe_new (pe_new σ 10 sz sz.toNat) 10 sz sz.toNat) ra txt := fun i hi => (e2.I hra9 (fun h => h) _).trans (hT i hi)
  have gr : ll_u (ll_u g (pe_n σ) (-1)) (pe_n σ + 1) (-1) ra = -6 := (e2.G hra9).trans hra
  generalize ll_u (ll_u g (pe_n σ) (-1)) (pe_n σ + 1) (-1) = g2 at e2 c0 c1 gr
  generalize pe_new (pe_new σ 10 sz sz.toNat) 10 sz sz.toNat = σ2 at e2 k0 l0 k1 l1 kr lr T2 ⊢
  have e2z : ll_fr (fun z => z = -6) 2 14 σ g σ2 g2 := ll_fr_mono e2 (fun _ h => h.elim)
  have hL2 := (hR.B.fr e2z (by decide)).L
  refine b166_32 (k := ?_)
  have e3 : ll_fr (fun z => z = -6) 2 14 σ g (pe_wI σ2 ra (txt.length : Int) 112) g2 := ll_fr_mono (ll_fr_trans e2z (ll_fr_wI (Z := fun z => z = -6) e2.gg gr)) (fun _ h => h)
  have hL3 := (hR.B.fr e3 (by decide)).L
  have kr3 : pe_K (pe_wI σ2 ra (txt.length : Int) 112) ra = 10 := kr
  have lr3 : pe_L (pe_wI σ2 ra (txt.length : Int) 112) ra = 100 := lr
  refine b166_43 (k := ?_)
  have e4 : ll_fr (fun z => z = -6) 2 14 σ g (pe_wI (pe_wI σ2 ra (txt.length : Int) 112) ra ((txt.length : Int) + 1) (48 + p)) g2 := ll_fr_mono (ll_fr_trans e3 (ll_fr_wI (Z := fun z => z = -6) e3.gg gr)) (fun _ h => h)
  have T4 : ll_T (pe_wI (pe_wI σ2 ra (txt.length : Int) 112) ra ((txt.length : Int) + 1) (48 + p)) ra (txt ++ [112] ++ [48 + p]) := (T2.app rfl).app (by rw [List.length_append, List.length_singleton]; push_cast; rfl)
  have a4 : pe_K (pe_wI (pe_wI σ2 ra (txt.length : Int) 112) ra ((txt.length : Int) + 1) (48 + p)) (pe_n σ) = 10 ∧ pe_L (pe_wI (pe_wI σ2 ra (txt.length : Int) 112) ra ((txt.length : Int) + 1) (48 + p)) (pe_n σ) = sz ∧ g2 (pe_n σ) = -1 := ⟨k0, l0, c0⟩
  have b4 : pe_K (pe_wI (pe_wI σ2 ra (txt.length : Int) 112) ra ((txt.length : Int) + 1) (48 + p)) (pe_n σ + 1) = 10 ∧ pe_L (pe_wI (pe_wI σ2 ra (txt.length : Int) 112) ra ((txt.length : Int) + 1) (48 + p)) (pe_n σ + 1) = sz ∧ g2 (pe_n σ + 1) = -1 := ⟨k1, l1, c1⟩
  have d4 : pe_K (pe_wI (pe_wI σ2 ra (txt.length : Int) 112) ra ((txt.length : Int) + 1) (48 + p)) ra = 10 ∧ pe_L (pe_wI (pe_wI σ2 ra (txt.length : Int) 112) ra ((txt.length : Int) + 1) (48 + p)) ra = 100 := ⟨kr, lr⟩
  generalize pe_wI (pe_wI σ2 ra (txt.length : Int) 112) ra ((txt.length : Int) + 1) (48 + p) = σ4 at e4 T4 a4 b4 d4 ⊢
  have hL4 := (hR.B.fr e4 (by decide)).L
  refine b166_54 (k := ?_)
  refine b166_57 (k := ?_)
  have hl2 : ((txt ++ [112] ++ [48 + p] ++ ll_flat []).length : Int) = (txt.length : Int) + 2 := by simp [ll_flat]
  have hl2' : (txt ++ [112] ++ [48 + p]).length = txt.length + 2 := by simp
  have hg0 : (∀ q ∈ ([] : pa_P), (q.1 = 102 ∧ q.2 = 0) ∨ (pt_ns q.1 ∧ 0 ≤ q.2 ∧ q.2 ≤ 9)) ∧ pt_fs [] ≤ 1 ∧ ((([] : pa_P).length : Int) ≤ fin → pt_fs [] = 0) := ⟨fun q hq => absurd hq List.not_mem_nil, by decide, fun _ => rfl⟩
  have key := k166_loop (d := d) (Φ := Φ) (ra := ra) (x2 := x2) (fin := fin) (sz := sz) (txt := txt ++ [112] ++ [48 + p]) (o5 := some (.inl (txt.length : Int))) hR hs hsg h2 hp hra ⟨z0, by omega⟩ ⟨f0, by omega⟩ (by rw [hl2']; omega) (fun σ5 g5 P o11 o12 o13 o14 e5 hP hgd hA hN hLN hRa5 T5 hle => by
    have hR5 := hR.fr hw e5 (fun z hz => by omega)
    have hL5 := hR5.L
    obtain ⟨q1, q2⟩ := hRa5
    have hlen5 : (txt ++ [112] ++ [48 + p] ++ ll_flat P).length = txt.length + 2 + (ll_flat P).length := by rw [List.length_append, hl2']
    have hg5ra : g5 ra = -6 := (e5.G hra9).trans hra
    refine b166_266 (k := ?_)
    have e6 : ll_fr (fun z => z = -6) 2 14 σ g (pe_wI σ5 ra ((txt ++ [112] ++ [48 + p] ++ ll_flat P).length : Int) 59) g5 := ll_fr_mono (ll_fr_trans e5 (ll_fr_wI (Z := fun z => z = -6) e5.gg hg5ra)) (fun _ h => h)
    have T6 : ll_T (pe_wI σ5 ra ((txt ++ [112] ++ [48 + p] ++ ll_flat P).length : Int) 59) ra (txt ++ [112] ++ [48 + p] ++ ll_flat P ++ [59]) := T5.app rfl
    have et : txt ++ [112] ++ [48 + p] ++ ll_flat P ++ [59] = txt ++ ll_tx (p, P) := by simp [ll_tx]
    rw [et] at T6
    have hR6 := hR.fr hw e6 (fun z hz => by omega)
    have hL6 := hR6.L
    have A1 : ll_A (pe_wI σ5 ra ((txt ++ [112] ++ [48 + p] ++ ll_flat P).length : Int) 59) g5 (pe_n σ) (P.map Prod.fst) := ll_LN.A1 (n1 := pe_n σ + 1) (fun i hi => by
      rw [pe_I_ner (by omega), pe_I_ner (by omega)]
      exact hLN i hi) ⟨hA.1, hA.2.1.trans hP.symm, hA.2.2⟩
    have A2 : ll_A (pe_wI σ5 ra ((txt ++ [112] ++ [48 + p] ++ ll_flat P).length : Int) 59) g5 (pe_n σ + 1) (P.map Prod.snd) := ll_LN.A2 (n0 := pe_n σ) (fun i hi => by
      rw [pe_I_ner (by omega), pe_I_ner (by omega)]
      exact hLN i hi) ⟨hN.1, hN.2.1.trans hP.symm, hN.2.2⟩
    generalize pe_wI σ5 ra ((txt ++ [112] ++ [48 + p] ++ ll_flat P).length : Int) 59 = σ6 at *
    have ka := A1.1.1
    have kb := A2.1.1
    refine b166_273 (h0 := Or.inr ⟨by omega, ka⟩) (k := ?_)
    have qa : ll_fr (fun z => z = -5) 0 0 σ6 g5 (pe_wR σ6 879 p (pe_n σ)) g5 := ll_fr_wR hR6.gg hR6.B.2.2.2.2.1
    have hLa := (hR6.B.fr qa (by decide)).L
    refine b166_281 (h0 := Or.inr ⟨by omega, kb⟩) (k := ?_)
    have qb : ll_fr (fun z => z = -5) 0 0 σ6 g5 (pe_wR (pe_wR σ6 879 p (pe_n σ)) 885 p (pe_n σ + 1)) g5 := ll_fr_trans qa (ll_fr_wR qa.gg hR6.B.2.2.2.2.2.1)
    have hBb := hR6.B.fr qb (by decide)
    have hLb := hBb.L
    refine b166_289 (k := ?_)
    have n1 : ¬ ((-1 : Int) = -5) := by decide
    have lenE : ((txt ++ [112] ++ [48 + p] ++ ll_flat P).length : Int) + 1 = ((txt ++ ll_tx (p, P)).length : Int) := by
      rw [← et, List.length_append (bs := [59]), List.length_singleton]
      push_cast
      rfl
    rw [lenE]
    refine k _ g5 P hgd (ll_fr_mono (ll_fr_trans (ll_fr_mono (Z' := ll_Zt) (x' := 2) (y' := 14) e6 (fun z hz => Or.inr hz)) (ll_fr_mono (Z' := ll_Zt) (x' := 0) (y' := 0) qb (fun z hz => Or.inl hz))) (fun _ h => h)) ⟨hBb, ⟨hR6.2.1.1, hR6.2.1.2.1, hR6.2.1.2.2⟩, fun i i0 i5 => ?_, fun i i0 i3 => ⟨?_, ?_⟩, fun i i0 i1 => ?_⟩ T6 ?_
    · show ll_A _ g5 _ ((if i = p then P else b.2.2.1 i).map Prod.fst) ∧ ll_A _ g5 _ ((if i = p then P else b.2.2.1 i).map Prod.snd)
      by_cases ei : i = p
      · rw [if_pos ei, ei, pe_R_ner (by decide), pe_R_same, pe_R_same]
        exact ⟨A1.fr qb n1, A2.fr qb n1⟩
      · rw [if_neg ei, pe_R_ner (by decide), pe_R_nej ei, pe_R_nej ei, pe_R_ner (by decide)]
        exact ⟨(hR6.2.2.1 i i0 i5).1.fr qb n1, (hR6.2.2.1 i i0 i5).2.fr qb n1⟩
    · rw [pe_R_ner (by decide), pe_R_ner (by decide)]
      exact (hR6.2.2.2.1 i i0 i3).1.fr qb n1
    · rw [pe_R_ner (by decide), pe_R_ner (by decide)]
      exact (hR6.2.2.2.1 i i0 i3).2.fr qb n1
    · rw [pe_R_ner (by decide), pe_R_ner (by decide)]
      exact (hR6.co i0 i1).fr qb n1 i0 (fun z hz q => by unfold ll_Zc at hz; omega) (hw.2 i i0 i1)
    · rw [show (ll_tx (p, P)).length = (ll_flat P).length + 3 from by simp [ll_tx]]
      rw [hl2'] at hle
      omega) sz.toNat [] σ4 g2 none none none (by simp; omega) e4 hg0 a4 b4 (fun i hi => absurd hi (Nat.not_lt_zero _)) d4 (by rw [show txt ++ [112] ++ [48 + p] ++ ll_flat [] = txt ++ [112] ++ [48 + p] by simp [ll_flat]]; exact T4) (by simp [ll_flat])
  rw [hl2] at key
  exact key
end
