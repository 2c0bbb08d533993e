/-! THE LAW: a program is laid -/
def ll_sg (σ : pe_H) : Prop := pe_K σ 2 = 25 ∧ pe_L σ 2 = 16 ∧ ∀ i, 0 ≤ i → i < 16 → pt_ns (pe_I σ 2 i)
def ll_T (σ : pe_H) (ra : Nat) (l : List Int) : Prop := ∀ i : Nat, i < l.length → pe_I σ ra i = l.getD i 0
def ll_Zt (z : Int) : Prop := z = -5 ∨ z = -6
section
variable {d o r q x y x' y' : Nat} {Z Z' : Int → Prop} {Φ : Option pe_V → pe_H → Prop} {σ σ' σ'' : pe_H} {g g' g'' : Nat → Int} {c e v n p : Int} {a b s s' : pa_M} {w : pa_C} {nu : Nat → Int} {k0 : Nat} {l : List Int} {f : pa_F} {fs : List pa_F} {P : pa_P}
theorem ll_sg.fz (h : ll_sg σ) (hg : g 2 = -1) (hz : ¬ Z (-1)) (hf : ll_fz Z x y σ g σ' g') : ll_sg σ' := by
  have := (hf.2 2 (by rw [hg]; decide)).2 (by rw [hg]; exact hz)
  exact ⟨this.1.trans h.1, this.2.1.trans h.2.1, fun i i0 i1 => by rw [(this.2.2 i).1]; exact h.2.2 i i0 i1⟩
theorem ll_T.app {ra : Nat} (h : ll_T σ ra l) (hj : n = l.length) : ll_T (pe_wI σ ra n v) ra (l ++ [v]) := fun i hi => by
  rw [List.length_append] at hi
  rw [ll_getD_app l v i hi]
  by_cases hi2 : i < l.length
  · rw [if_pos hi2, pe_I_nej (by omega)]
    exact h i hi2
  · have hi : i < l.length + 1 := hi
    have : (i : Int) = n := by omega
    rw [if_neg hi2, this, pe_I_same]
theorem ll_T.ner {ra : Nat} (h : ll_T σ ra l) (hr : ra ≠ r) : ll_T (pe_wI σ r n v) ra l := fun i hi => by
  rw [pe_I_ner hr]
  exact h i hi
theorem ll_fs_app (P : pa_P) (q : Int × Int) : pt_fs (P ++ [q]) = pt_fs P + (if q.1 = 102 then 1 else 0) := by
  induction P with
  | nil =>
    show (if q.1 = 102 then 1 else 0) + 0 = 0 + _
    omega
  | cons z P ih =>
    show _ + pt_fs (P ++ [q]) = (_ + pt_fs P) + _
    rw [ih]
    omega
/-- letters and numbers as they stand -/
def ll_LN (σ : pe_H) (n0 n1 : Nat) (P : pa_P) : Prop := ∀ i : Nat, i < P.length → pe_I σ n0 i = (P.getD i (0, 0)).1 ∧ pe_I σ n1 i = (P.getD i (0, 0)).2
theorem ll_getD_app2 (P : pa_P) (z : Int × Int) (i : Nat) (h : i < P.length + 1) : (P ++ [z]).getD i (0, 0) = if i < P.length then P.getD i (0, 0) else z := by
  by_cases hi : i < P.length
  · rw [if_pos hi, List.getD_eq_getElem?_getD, List.getD_eq_getElem?_getD, List.getElem?_append_left hi]
  · have e : i = P.length := by omega
    subst e
    rw [if_neg hi, List.getD_eq_getElem?_getD, List.getElem?_append_right (Nat.le_refl _)]
    simp
theorem k166_loop {ra : Nat} {x2 fin sz : Int} {txt : List Int} {o5 : Option pe_V} (hR : ll_R σ g b) (hs : ll_sc σ) (hsg : ll_sg σ) (h2 : 0 ≤ x2 ∧ x2 ≤ 60) (hp : 0 ≤ p ∧ p < 5) (hra : g ra = -6) (hsz : 0 ≤ sz ∧ sz ≤ 7) (hfi : 0 ≤ fin ∧ fin ≤ 11) (htx : txt.length + 15 ≤ 100) (k : ∀ (σ1 : pe_H) (g1 : Nat → Int) (P : pa_P) (o11 o12 o13 o14 : Option pe_V), ll_fr (fun z => z = -6) 2 14 σ g σ1 g1 → (P.length : Int) = sz → ll_gd P → (pe_K σ1 (pe_n σ) = 10 ∧ pe_L σ1 (pe_n σ) = sz ∧ g1 (pe_n σ) = -1) → (pe_K σ1 (pe_n σ + 1) = 10 ∧ pe_L σ1 (pe_n σ + 1) = sz ∧ g1 (pe_n σ + 1) = -1) → ll_LN σ1 (pe_n σ) (pe_n σ + 1) P → (pe_K σ1 ra = 10 ∧ pe_L σ1 ra = 100) → ll_T σ1 ra (txt ++ ll_flat P) → txt.length + (ll_flat P).length ≤ txt.length + 14 → pe_X (d + 3) 166 (266, [some (.inr (.inr 3)), some (.inr (.inr 1)), some (.inl x2), some (.inl p), some (.inr (.inr ra)), o5, some (.inl sz), some (.inl fin), some (.inr (.inr (pe_n σ))), some (.inr (.inr (pe_n σ + 1))), some (.inl ((txt ++ ll_flat P).length : Int)), o11, o12, o13, o14], [], σ1) Φ) :
    ∀ (m : Nat) (P : pa_P) (σ1 : pe_H) (g1 : Nat → Int) (o12 o13 o14 : Option pe_V), (P.length : Int) + m = sz → ll_fr (fun z => z = -6) 2 14 σ g σ1 g1 → ((∀ q ∈ P, (q.1 = 102 ∧ q.2 = 0) ∨ (pt_ns q.1 ∧ 0 ≤ q.2 ∧ q.2 ≤ 9)) ∧ pt_fs P ≤ 1 ∧ ((P.length : Int) ≤ fin → pt_fs P = 0)) → (pe_K σ1 (pe_n σ) = 10 ∧ pe_L σ1 (pe_n σ) = sz ∧ g1 (pe_n σ) = -1) → (pe_K σ1 (pe_n σ + 1) = 10 ∧ pe_L σ1 (pe_n σ + 1) = sz ∧ g1 (pe_n σ + 1) = -1) → ll_LN σ1 (pe_n σ) (pe_n σ + 1) P → (pe_K σ1 ra = 10 ∧ pe_L σ1 ra = 100) → ll_T σ1 ra (txt ++ ll_flat P) → (ll_flat P).length ≤ 2 * P.length → pe_X (d + 3) 166 (60, [some (.inr (.inr 3)), some (.inr (.inr 1)), some (.inl x2), some (.inl p), some (.inr (.inr ra)), o5, some (.inl sz), some (.inl fin), some (.inr (.inr (pe_n σ))), some (.inr (.inr (pe_n σ + 1))), some (.inl ((txt ++ ll_flat P).length : Int)), some (.inl (P.length : Int)), o12, o13, o14], [], σ1) Φ
  | 0, P, σ1, g1, o12, o13, o14, hm, e1, hg, hA, hN, hLN, hRa, hT, hf2 => by
    have hL1 := (hR.B.fr e1 (by decide)).L
    refine b166_60 (k1 := fun _ => ?_) (k2 := fun r => by omega)
    exact k σ1 g1 P _ _ _ _ e1 (by omega) ⟨hg.1, by omega, hg.2.1⟩ hA hN hLN hRa hT (by omega)
  | m + 1, P, σ1, g1, o12, o13, o14, hm, e1, hg, hA, hN, hLN, hRa, hT, hf2 => by
    have hB1 := hR.B.fr e1 (by decide)
    have hL1 := hB1.L
    have hn3 : 899 ≤ pe_n σ := hR.L.1.1
    have hs1 := hs.fz hR.B.2.2.2.2.2.2.2.1 (by decide) e1.z
    have hsg1 := hsg.fz hR.B.2.2.2.2.2.2.2.2 (by decide) e1.z
    have hra9 : g ra ≠ -9 := by rw [hra]; decide
    have hlt := ll_lt hR.gg hra9
    have r0 : ra ≠ 0 := fun e => by rw [e, hR.B.2.2.2.2.2.2.1] at hra; omega
    have r1 : ra ≠ 1 := fun e => by rw [e, hR.B.2.2.2.2.2.2.2.1] at hra; omega
    have r2 : ra ≠ 2 := fun e => by rw [e, hR.B.2.2.2.2.2.2.2.2] at hra; omega
    have g0 := hR.gg _ (Nat.le_refl (pe_n σ))
    have g01 := hR.gg (pe_n σ + 1) (by omega)
    have g1ra : g1 ra = -6 := (e1.G hra9).trans hra
    obtain ⟨hA1, hA2, hA3⟩ := hA
    obtain ⟨hN1, hN2, hN3⟩ := hN
    obtain ⟨hRa1, hRa2⟩ := hRa
    have htl : (txt ++ ll_flat P).length ≤ txt.length + 2 * P.length := by rw [List.length_append]; omega
    refine b166_60 (k1 := fun r => by omega) (k2 := fun _ => ?_)
    refine b166_67 (k := ?_)
    rw [show x2 + 2 + (P.length : Int) = x2 + 2 + P.length from rfl]
    refine pe_M.up (k145 (d := 0) hs1 (by omega) (fun z => ?_)) (by omega)
    have hzb := pe_and_max z
    have hz16 : 0 ≤ Int.tmod (pe_and z 2147483647) 16 ∧ Int.tmod (pe_and z 2147483647) 16 < 16 := by rw [Int.tmod_eq_emod_of_nonneg hzb.1]; omega
    have hzd : 0 ≤ Int.tdiv (pe_and z 2147483647) 16 ∧ Int.tdiv (pe_and z 2147483647) 16 ≤ 2147483647 := by rw [Int.tdiv_eq_ediv_of_nonneg hzb.1]; omega
    have hzn : 0 ≤ Int.tmod (Int.tdiv (pe_and z 2147483647) 16) 10 ∧ Int.tmod (Int.tdiv (pe_and z 2147483647) 16) 10 ≤ 9 := by rw [Int.tmod_eq_emod_of_nonneg hzd.1]; omega
    -- the letter is told
    have letter : ∀ (lt : Int) (o13 o14 : Option pe_V), ((lt = 102 ∧ (P.length : Int) = fin) ∨ (pt_ns lt ∧ ¬ (P.length : Int) = fin)) → pe_X (d + 3) 166 (107, [some (.inr (.inr 3)), some (.inr (.inr 1)), some (.inl x2), some (.inl p), some (.inr (.inr ra)), o5, some (.inl sz), some (.inl fin), some (.inr (.inr (pe_n σ))), some (.inr (.inr (pe_n σ + 1))), some (.inl ((txt ++ ll_flat P).length : Int)), some (.inl (P.length : Int)), some (.inl (pe_and z 2147483647)), o13, o14], [.inl lt, .inl (P.length : Int), .inr (.inr (pe_n σ))], σ1) Φ := fun lt o13 o14 hlt' => by
      have hlb : 97 ≤ lt ∧ lt ≤ 122 := by
        rcases hlt' with h | h
        · omega
        · have := h.1; unfold pt_ns at this; omega
      refine b166_107 (k := ?_)
      have e2 := e1.wIn (j := (P.length : Int)) (v := lt) g0
      have hL2 := (hR.B.fr e2 (by decide)).L
      have hAk : pe_K (pe_wI σ1 (pe_n σ) (P.length : Int) lt) (pe_n σ) = 10 := hA1
      have hAl : pe_L (pe_wI σ1 (pe_n σ) (P.length : Int) lt) (pe_n σ) = sz := hA2
      have hNk : pe_K (pe_wI σ1 (pe_n σ) (P.length : Int) lt) (pe_n σ + 1) = 10 := hN1
      have hNl : pe_L (pe_wI σ1 (pe_n σ) (P.length : Int) lt) (pe_n σ + 1) = sz := hN2
      have hRk : pe_K (pe_wI σ1 (pe_n σ) (P.length : Int) lt) ra = 10 := hRa1
      have hRl : pe_L (pe_wI σ1 (pe_n σ) (P.length : Int) lt) ra = 100 := hRa2
      have i2 : pe_I (pe_wI σ1 (pe_n σ) (P.length : Int) lt) (pe_n σ) (P.length : Int) = lt := pe_I_same
      -- the number is told
      have num : ∀ (v : Int) (o12 o14 : Option pe_V), (0 ≤ v ∧ v ≤ 9) → (lt = 102 → v = 0) → pe_X (d + 3) 166 (226, [some (.inr (.inr 3)), some (.inr (.inr 1)), some (.inl x2), some (.inl p), some (.inr (.inr ra)), o5, some (.inl sz), some (.inl fin), some (.inr (.inr (pe_n σ))), some (.inr (.inr (pe_n σ + 1))), some (.inl ((txt ++ ll_flat P).length : Int)), some (.inl (P.length : Int)), o12, some (.inl lt), o14], [.inl v, .inl (P.length : Int), .inr (.inr (pe_n σ + 1))], pe_wI σ1 (pe_n σ) (P.length : Int) lt) Φ := fun v o12 o14 hv hv0 => by
        refine b166_226 (k := ?_)
        have e3 := e2.wIn (j := (P.length : Int)) (v := v) g01
        have hL3 := (hR.B.fr e3 (by decide)).L
        have hRk3 : pe_K (pe_wI (pe_wI σ1 (pe_n σ) (P.length : Int) lt) (pe_n σ + 1) (P.length : Int) v) ra = 10 := hRa1
        have hRl3 : pe_L (pe_wI (pe_wI σ1 (pe_n σ) (P.length : Int) lt) (pe_n σ + 1) (P.length : Int) v) ra = 100 := hRa2
        refine b166_227 (k := ?_)
        have e4 : ll_fr (fun z => z = -6) 2 14 σ g (pe_wI (pe_wI (pe_wI σ1 (pe_n σ) (P.length : Int) lt) (pe_n σ + 1) (P.length : Int) v) ra ((txt ++ ll_flat P).length : Int) lt) g1 := ll_fr_mono (ll_fr_trans e3 (ll_fr_wI (Z := fun z => z = -6) e3.gg g1ra)) (fun _ h => h)
        have T4 : ll_T (pe_wI (pe_wI (pe_wI σ1 (pe_n σ) (P.length : Int) lt) (pe_n σ + 1) (P.length : Int) v) ra ((txt ++ ll_flat P).length : Int) lt) ra (txt ++ ll_flat P ++ [lt]) := ((hT.ner (by omega)).ner (by omega)).app rfl
        have LN4 : ll_LN (pe_wI (pe_wI (pe_wI σ1 (pe_n σ) (P.length : Int) lt) (pe_n σ + 1) (P.length : Int) v) ra ((txt ++ ll_flat P).length : Int) lt) (pe_n σ) (pe_n σ + 1) (P ++ [(lt, v)]) := fun i hi => by
          rw [List.length_append] at hi
          have hi : i < P.length + 1 := hi
          rw [ll_getD_app2 P _ i hi]
          by_cases hi2 : i < P.length
          · rw [if_pos hi2]
            refine ⟨?_, ?_⟩
            · rw [pe_I_ner (by omega), pe_I_ner (by omega), pe_I_nej (by omega)]
              exact (hLN i hi2).1
            · rw [pe_I_ner (by omega), pe_I_nej (by omega), pe_I_ner (by omega)]
              exact (hLN i hi2).2
          · have : i = P.length := by omega
            rw [if_neg hi2, this]
            refine ⟨?_, ?_⟩
            · rw [pe_I_ner (by omega), pe_I_ner (by omega), pe_I_same]
            · rw [pe_I_ner (by omega), pe_I_same]
        have hi1 : pe_I (pe_wI (pe_wI (pe_wI σ1 (pe_n σ) (P.length : Int) lt) (pe_n σ + 1) (P.length : Int) v) ra ((txt ++ ll_flat P).length : Int) lt) (pe_n σ + 1) (P.length : Int) = v := by
          rw [pe_I_ner (by omega), pe_I_same]
        have a4 : (pe_K (pe_wI (pe_wI (pe_wI σ1 (pe_n σ) (P.length : Int) lt) (pe_n σ + 1) (P.length : Int) v) ra ((txt ++ ll_flat P).length : Int) lt) (pe_n σ) = 10 ∧ pe_L (pe_wI (pe_wI (pe_wI σ1 (pe_n σ) (P.length : Int) lt) (pe_n σ + 1) (P.length : Int) v) ra ((txt ++ ll_flat P).length : Int) lt) (pe_n σ) = sz ∧ g1 (pe_n σ) = -1) := ⟨hA1, hA2, hA3⟩
        have b4 : (pe_K (pe_wI (pe_wI (pe_wI σ1 (pe_n σ) (P.length : Int) lt) (pe_n σ + 1) (P.length : Int) v) ra ((txt ++ ll_flat P).length : Int) lt) (pe_n σ + 1) = 10 ∧ pe_L (pe_wI (pe_wI (pe_wI σ1 (pe_n σ) (P.length : Int) lt) (pe_n σ + 1) (P.length : Int) v) ra ((txt ++ ll_flat P).length : Int) lt) (pe_n σ + 1) = sz ∧ g1 (pe_n σ + 1) = -1) := ⟨hN1, hN2, hN3⟩
        have c4 : (pe_K (pe_wI (pe_wI (pe_wI σ1 (pe_n σ) (P.length : Int) lt) (pe_n σ + 1) (P.length : Int) v) ra ((txt ++ ll_flat P).length : Int) lt) ra = 10 ∧ pe_L (pe_wI (pe_wI (pe_wI σ1 (pe_n σ) (P.length : Int) lt) (pe_n σ + 1) (P.length : Int) v) ra ((txt ++ ll_flat P).length : Int) lt) ra = 100) := ⟨hRa1, hRa2⟩
        generalize pe_wI (pe_wI (pe_wI σ1 (pe_n σ) (P.length : Int) lt) (pe_n σ + 1) (P.length : Int) v) ra ((txt ++ ll_flat P).length : Int) lt = σ4 at e4 T4 LN4 hi1 a4 b4 c4 ⊢
        have hL4 := (hR.B.fr e4 (by decide)).L
        have hPl : (P ++ [(lt, v)]).length = P.length + 1 := by simp
        have hq : ((lt, v).1 = 102 ∧ (lt, v).2 = 0) ∨ (pt_ns (lt, v).1 ∧ 0 ≤ (lt, v).2 ∧ (lt, v).2 ≤ 9) := by
          rcases hlt' with h | h
          · exact Or.inl ⟨h.1, hv0 h.1⟩
          · exact Or.inr ⟨h.1, hv⟩
        have hg4 : (∀ q ∈ P ++ [(lt, v)], (q.1 = 102 ∧ q.2 = 0) ∨ (pt_ns q.1 ∧ 0 ≤ q.2 ∧ q.2 ≤ 9)) ∧ pt_fs (P ++ [(lt, v)]) ≤ 1 ∧ (((P ++ [(lt, v)]).length : Int) ≤ fin → pt_fs (P ++ [(lt, v)]) = 0) := by
          refine ⟨fun q hq' => ?_, ?_⟩
          · rcases List.mem_append.mp hq' with h | h
            · exact hg.1 q h
            · rw [List.mem_singleton] at h
              rw [h]
              exact hq
          · rw [ll_fs_app, hPl]
            have g2 := hg.2
            show pt_fs P + (if lt = 102 then 1 else 0) ≤ 1 ∧ (_ → pt_fs P + (if lt = 102 then 1 else 0) = 0)
            rcases hlt' with h | h
            · rw [if_pos h.1]
              have := g2.2 (by omega)
              omega
            · have : lt ≠ 102 := fun e => by have := h.1; rw [e] at this; exact absurd this (by decide)
              rw [if_neg this]
              omega
        by_cases h102 : lt = 102
        · have ef : ll_flat (P ++ [(lt, v)]) = ll_flat P ++ [lt] := by
            rw [ll_flat_app]
            show ll_flat P ++ (ll_ltr (lt, v) ++ []) = _
            unfold ll_ltr
            rw [if_pos h102, h102]
            rfl
          have et : txt ++ ll_flat (P ++ [(lt, v)]) = txt ++ ll_flat P ++ [lt] := by rw [ef, List.append_assoc]
          have key := k166_loop hR hs hsg h2 hp hra hsz hfi htx k m (P ++ [(lt, v)]) σ4 g1 o12 (some (.inl lt)) o14 (by rw [hPl]; push_cast; omega) e4 hg4 a4 b4 LN4 c4 (by rw [et]; exact T4) (by rw [ef, hPl, List.length_append, List.length_singleton]; omega)
          have el : ((txt ++ ll_flat (P ++ [(lt, v)])).length : Int) = ((txt ++ ll_flat P).length : Int) + 1 := by rw [et, List.length_append, List.length_singleton]; push_cast; rfl
          rw [el, hPl] at key
          refine b166_234 (k1 := fun _ => ?_) (k2 := fun r => by omega)
          refine b166_260 (k := ?_)
          exact key
        · have ef : ll_flat (P ++ [(lt, v)]) = ll_flat P ++ [lt, 48 + v] := by
            rw [ll_flat_app]
            show ll_flat P ++ (ll_ltr (lt, v) ++ []) = _
            unfold ll_ltr
            rw [if_neg h102]
            rfl
          have et : txt ++ ll_flat (P ++ [(lt, v)]) = txt ++ ll_flat P ++ [lt] ++ [48 + v] := by rw [ef]; simp
          have hl1 : ((txt ++ ll_flat P ++ [lt]).length : Int) = ((txt ++ ll_flat P).length : Int) + 1 := by rw [List.length_append, List.length_singleton]; push_cast; rfl
          obtain ⟨c41, c42⟩ := c4
          obtain ⟨b41, b42, b43⟩ := b4
          refine b166_234 (k1 := fun r => by omega) (k2 := fun _ => ?_)
          refine b166_244 (k := ?_)
          rw [hi1]
          have e5 : ll_fr (fun z => z = -6) 2 14 σ g (pe_wI σ4 ra (((txt ++ ll_flat P).length : Int) + 1) (48 + v)) g1 := ll_fr_mono (ll_fr_trans e4 (ll_fr_wI (Z := fun z => z = -6) e4.gg g1ra)) (fun _ h => h)
          have T5 : ll_T (pe_wI σ4 ra (((txt ++ ll_flat P).length : Int) + 1) (48 + v)) ra (txt ++ ll_flat P ++ [lt] ++ [48 + v]) := T4.app (by omega)
          have LN5 : ll_LN (pe_wI σ4 ra (((txt ++ ll_flat P).length : Int) + 1) (48 + v)) (pe_n σ) (pe_n σ + 1) (P ++ [(lt, v)]) := fun i hi => by
            rw [pe_I_ner (by omega), pe_I_ner (by omega)]
            exact LN4 i hi
          have key := k166_loop hR hs hsg h2 hp hra hsz hfi htx k m (P ++ [(lt, v)]) _ g1 o12 (some (.inl lt)) o14 (by rw [hPl]; push_cast; omega) e5 hg4 a4 ⟨b41, b42, b43⟩ LN5 ⟨c41, c42⟩ (by rw [et]; exact T5) (by rw [ef, hPl, List.length_append]; simp; omega)
          have el : ((txt ++ ll_flat (P ++ [(lt, v)])).length : Int) = ((txt ++ ll_flat P).length : Int) + 1 + 1 := by rw [et, List.length_append, List.length_singleton]; push_cast; omega
          rw [el, hPl] at key
          have hL5 := (hR.B.fr e5 (by decide)).L
          refine b166_257 (k := ?_)
          refine b166_260 (k := ?_)
          exact key
      generalize hnE : Int.tmod (Int.tdiv (pe_and z 2147483647) 16) 10 = nn at hzn
      refine b166_108 (w3 := by rw [i2]; unfold pe_in; omega) (k1 := fun s1 => ?_) (k2 := fun s1 => ?_)
      · rw [i2] at s1 ⊢
        rw [hnE]
        have m9 : 0 ≤ Int.tmod nn 9 ∧ Int.tmod nn 9 ≤ 8 := by rw [Int.tmod_eq_emod_of_nonneg hzn.1]; omega
        have m2 : 0 ≤ Int.tmod nn 2 ∧ Int.tmod nn 2 ≤ 1 := by rw [Int.tmod_eq_emod_of_nonneg hzn.1]; omega
        have m6 : 0 ≤ Int.tmod nn 6 ∧ Int.tmod nn 6 ≤ 5 := by rw [Int.tmod_eq_emod_of_nonneg hzn.1]; omega
        have m8 : 0 ≤ Int.tmod nn 8 ∧ Int.tmod nn 8 ≤ 7 := by rw [Int.tmod_eq_emod_of_nonneg hzn.1]; omega
        have m4 : 0 ≤ Int.tmod nn 4 ∧ Int.tmod nn 4 ≤ 3 := by rw [Int.tmod_eq_emod_of_nonneg hzn.1]; omega
        have sg : pe_X (d + 3) 166 (154, [some (.inr (.inr 3)), some (.inr (.inr 1)), some (.inl x2), some (.inl p), some (.inr (.inr ra)), o5, some (.inl sz), some (.inl fin), some (.inr (.inr (pe_n σ))), some (.inr (.inr (pe_n σ + 1))), some (.inl ((txt ++ ll_flat P).length : Int)), some (.inl (P.length : Int)), some (.inl (pe_and z 2147483647)), some (.inl lt), some (.inl nn)], [.inl (P.length : Int), .inr (.inr (pe_n σ + 1))], pe_wI σ1 (pe_n σ) (P.length : Int) lt) Φ := by
          refine b166_154 (k1 := fun s2 => ?_) (k2 := fun s2 => ?_)
          · refine b166_166 (k := ?_)
            exact num _ _ _ (by omega) (fun h => absurd h s1)
          · refine b166_162 (k := ?_)
            exact num 3 _ _ (by omega) (fun h => absurd h s1)
        have rz : pe_X (d + 3) 166 (217, [some (.inr (.inr 3)), some (.inr (.inr 1)), some (.inl x2), some (.inl p), some (.inr (.inr ra)), o5, some (.inl sz), some (.inl fin), some (.inr (.inr (pe_n σ))), some (.inr (.inr (pe_n σ + 1))), some (.inl ((txt ++ ll_flat P).length : Int)), some (.inl (P.length : Int)), some (.inl (pe_and z 2147483647)), some (.inl lt), some (.inl nn)], [.inl (P.length : Int), .inr (.inr (pe_n σ + 1))], pe_wI σ1 (pe_n σ) (P.length : Int) lt) Φ := by
          refine b166_217 (k := ?_)
          exact num _ _ _ (by omega) (fun h => absurd h s1)
        refine b166_140 (k1 := fun s2 => ?_) (k2 := fun s2 => ?_)
        · exact sg
        · refine b166_147 (k1 := fun s3 => ?_) (k2 := fun s3 => ?_)
          · refine b166_173 (k1 := fun s4 => ?_) (k2 := fun s4 => ?_)
            · refine b166_188 (k1 := fun s5 => ?_) (k2 := fun s5 => ?_)
              · refine b166_203 (k1 := fun s6 => ?_) (k2 := fun s6 => ?_)
                · exact rz
                · refine b166_210 (k1 := fun s7 => ?_) (k2 := fun s7 => ?_)
                  · refine b166_224 (k := ?_)
                    exact num _ _ _ (by omega) (fun h => absurd h s1)
                  · exact rz
              · refine b166_195 (k := ?_)
                exact num _ _ _ (by omega) (fun h => absurd h s1)
            · refine b166_180 (k := ?_)
              exact num _ _ _ (by omega) (fun h => absurd h s1)
          · exact sg
      · rw [i2] at s1 ⊢
        refine b166_136 (k := ?_)
        exact num 0 _ _ (by decide) (fun _ => rfl)
    refine b166_77 (k1 := fun r5 => ?_) (k2 := fun r5 => ?_)
    · obtain ⟨q1, q2, q3⟩ := hsg1
      refine b166_98 (k := ?_)
      exact letter _ _ _ (Or.inr ⟨q3 _ hz16.1 hz16.2, r5⟩)
    · refine b166_93 (k := ?_)
      exact letter 102 _ _ (Or.inl ⟨rfl, r5⟩)
end
