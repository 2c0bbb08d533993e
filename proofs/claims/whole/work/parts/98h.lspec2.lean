section
variable {p : Program} {l : Launch} {e : Env} {R : Room} {s : State} {m : MethodId} {args : Array Value} {below : List Frame} {meth : Method} {c : Code} {Q : State → Prop}
variable {D : va_G} {cA : Nat → ClassId} {b n0 : Nat} {H0 : Heap} {nF uF : Nat}
variable {T U : Nat → Prop} {σ : pe_H} {q q' N Us : Nat} {y : Nat → Int → Int} {L i : Int} {a : pa_M} {im : Option pa_M} {h : Int → pa_Sh} {o5 o6 o7 : Option pe_V}
/-- out is written -/
theorem lw_J.out {v : Int} (J : lw_J T U σ q y L N Us a im h a im h) : lw_J T U (pe_wI σ 920 0 v) q y L N Us a im h a im h := by
  obtain ⟨⟨hF, e⟩, hG, hw, hR, hT, hV⟩ := J
  have sm : ∀ x, x ≠ 920 → pg_same σ (pe_wI σ 920 0 v) x := fun x hx => pg_same_wI hx
  have hs2 : ∀ x, 877 ≤ x → x ≤ 877 + 42 → pg_same σ (pe_wI σ 920 0 v) x := fun x h1 h2 => sm x (by omega)
  refine ⟨⟨pm_F_sm hF hs2, pm_h_sm e hs2⟩, hG.sm hw.1 (Nat.le_refl _) (fun x hx => sm x ?_), hw, hR, hT, ?_⟩
  · rcases hx with w | w | w
    · unfold pg_X at w; omega
    · have := hT x (Or.inl w); omega
    · have := hT x (Or.inr w); omega
  · obtain ⟨⟨v1, v2, v3⟩, v4, v5⟩ := hV
    exact ⟨⟨v1, v2, fun j j0 j1 => by rw [((sm 1 (by decide)).2.2 j).1]; exact v3 j j0 j1⟩, v4, v5⟩
theorem pa_elem_1 (h : Int → pa_Sh) (z i : Int) : 0 ≤ (pa_elem h z i).1 ∧ (pa_elem h z i).1 ≤ 2 := by
  unfold pa_elem
  split
  · exact ⟨by decide, by decide⟩
  · split
    · exact ⟨by decide, by decide⟩
    · exact ⟨Int.le_refl _, (by show (0 : Int) ≤ 2; decide)⟩
set_option maxRecDepth 8000 in
theorem lw_32 (cx : lw_Cx p l R s m args c D cA n0 H0 nF uF) (J : lw_J T U σ q y L N Us a im h a im h) (hi : 0 ≤ i) (hi6 : i + 6 ≤ L) (hL : L ≤ 3072) (hN : N + 300 ≤ nF) (hUs : Us + 2000 ≤ uF) (k : ∀ T U σ q y a im h o5 o6 o7, lw_J T U σ q y L (N + 300) (Us + 2000) a im h a im h → pe_PW p l e R s m args below meth c Q D cA b n0 H0 2 0 nF uF 8 (lw_h (i + 6) o5 o6 o7 σ)) : pe_PW p l e R s m args below meth c Q D cA b n0 H0 2 0 nF uF 8 (1314, [some (.inr (.inr 1)), some (.inr (.inr 2)), some (.inr (.inr 877)), some (.inr (.inr 920)), some (.inl i), o5, o6, o7], [], σ) := by
  have cx0 := cx
  obtain ⟨c1, c2, c3, c4, c5, c6, c7, c8, c9, ⟨r1, r2, r3, r4⟩, c11, c12⟩ := cx
  obtain ⟨⟨v1, v2, v3⟩, ⟨v4, v5⟩, v6, v7, v8⟩ := J.2.2.2.2.2
  have x1 := v3 (i + 1) (by omega) (by omega)
  have x2 := v3 (i + 2) (by omega) (by omega)
  have hn : 921 ≤ σ.1 := v6
  refine lw_py (d := 2) cx0 (by decide) (G := fun S => S = (1328, [some (.inr (.inr 1)), some (.inr (.inr 2)), some (.inr (.inr 877)), some (.inr (.inr 920)), some (.inl i), o5, o6, o7], [.inr (.inr 920), .inl (pe_I σ 1 (i + 2)), .inl (pe_I σ 1 (i + 1)), .inr (.inr 2)], σ)) (pb244_1314 (k := py_end rfl)) ?_
  intro S hS
  subst hS
  have hM := px_lel l c12 (D := D) (cA := cA) (b := b) (n0 := n0) (H0 := H0) (O := 920) J.2.1 J.2.2.1.1 x1 x2 ⟨v4, v5⟩ ⟨by decide, by omega⟩
  have hkd := pa_elem_1 h (pe_I σ 1 (i + 1)) (pe_I σ 1 (i + 2))
  obtain ⟨X, hX⟩ : ∃ X, X = pa_elem h (pe_I σ 1 (i + 1)) (pe_I σ 1 (i + 2)) := ⟨_, rfl⟩
  rw [← hX] at hM hkd
  refine px_callE (as := [.inr (.inr 2), .inl (pe_I σ 1 (i + 1)), .inl (pe_I σ 1 (i + 2)), .inr (.inr 920)]) (st := []) c1 c2 c3 c4 c5 c6 c7 c8 c9 rfl (by decide) hM (by omega) (by omega) (show decode cL_law 1328 = _ by decide +kernel) ⟨by omega, by omega⟩ c11 (by omega) (by omega) (fun τ hτ => ?_) (fun τ hτ => ?_)
  · rcases hτ with ⟨-, rfl⟩ | ⟨-, kk, k1, rfl⟩
    · exact ⟨Nat.le_refl _, rfl⟩
    · exact ⟨Nat.le_add_right _ _, rfl⟩
  · have J2 : lw_J T U τ q y L (N + 1) (Us + 6) a im h a im h ∧ (∀ j, pe_I τ 1 j = pe_I σ 1 j) ∧ (X.1 = 0 → pe_I τ 920 0 = X.2) := by
      rcases hτ with ⟨q1, rfl⟩ | ⟨q1, kk, k1, rfl⟩
      · exact ⟨(J.mo (k := 0) (by decide)).out, fun j => pe_I_ner (by decide), fun _ => pe_I_same⟩
      · exact ⟨J.mo k1, fun _ => rfl, fun w => absurd w q1⟩
    obtain ⟨J2, e1, eO⟩ := J2
    obtain ⟨⟨w1, w2, w3⟩, ⟨w4, w5⟩, w6, w7, w8⟩ := J2.2.2.2.2.2
    have hK9 : pe_K τ 877 = 9 := J2.1.1.2.1
    refine lw_py (d := 4) cx0 (by decide) (G := fun S => ∃ σ2 q2 y2 p5 p6 p7, S = lw_h (i + 6) p5 p6 p7 σ2 ∧ lw_J T U σ2 q2 y2 L (N + 1) (Us + 6) a im h a im h) ?_ ?_
    · refine pb244_1331 (k := ?_)
      rw [e1 (i + 1), e1 (i + 2)]
      refine pe_M_h J2.1.2 (pe_M.up (c239 (d := 0) J2.1.1 J2.2.2.2.1.2.1 J2.2.2.1.1.2.2 x1 x2 ?_) (by omega))
      rw [← hX]
      have J3 := J2.modP (q' := q) (pm_fr_u (y := y) (k := 0) (j := 37) (v := X.1) (by unfold pm_Zp; omega)) (pm_R_z J2.2.2.2.1.1 J2.2.2.1.1.1.1 (pm_fr_u (by unfold pm_Zr; omega)))
      have hK9' : pe_K (pm_h 877 τ q (pm_u y 0 37 X.1)) 877 = 9 := hK9
      refine pb244_1349 (k := ?_)
      refine pe_M_of ck133 (Nat.le_of_ble_eq_true rfl) ?_
      refine b133_0 J2.1.1 (k := ?_)
      rw [pm_us]
      refine pb244_1355 (k1 := fun _ => ?_) (k2 := fun q => absurd rfl q)
      have eI : pe_I (pm_h 877 τ q (pm_u y 0 37 X.1)) 920 0 = pe_I τ 920 0 := show (if 877 ≤ 920 ∧ 920 ≤ 877 + 42 then pm_u y 0 37 X.1 (920 - 877) 0 else pe_I τ 920 0) = pe_I τ 920 0 from if_neg (by decide)
      refine pb244_1362 (k1 := fun _ => ?_) (k2 := fun q0 => ?_)
      · refine pb244_1378 (k := ?_)
        refine pb244_1504 (k := ?_)
        exact py_end ⟨_, _, _, _, _, _, rfl, J3⟩
      · have eL : pe_lcmp (pe_I (pm_h 877 τ q (pm_u y 0 37 X.1)) 920 0) X.2 = 0 := by rw [eI, eO q0]; exact pe_lcmp_same _
        refine pb244_1367 (w0 := by rw [eL]; unfold pe_in; omega) (h0 := w4) (h1 := by show 0 < pe_L τ 920; omega) (k1 := fun _ => ?_) (k2 := fun q => absurd eL q)
        refine pb244_1378 (k := ?_)
        refine pb244_1504 (k := ?_)
        exact py_end ⟨_, _, _, _, _, _, rfl, J3⟩
    · rintro S ⟨σ2, q2, y2, p5, p6, p7, rfl, J3⟩
      exact k _ _ _ _ _ _ _ _ _ _ _ (J3.wide (by omega) (by omega))
end
