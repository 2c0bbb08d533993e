/-! THE LAW: the two cases that catch -/
section
variable {p : Program} {l : Launch} {e : Env} {R : Room} {s : State} {m : MethodId} {args : Array Value} {below : List Frame} {meth : Method} {c : Code} {Q : State → Prop}
variable {D : va_G} {cA : Nat → ClassId} {b n0 : Nat} {H0 : Heap} {nF uF : Nat}
def lw_Cx (p : Program) (l : Launch) (R : Room) (s : State) (m : MethodId) (args : Array Value) (c : Code) (D : va_G) (cA : Nat → ClassId) (n0 : Nat) (H0 : Heap) (nF uF : Nat) : Prop := p.tables.exec = Jvm.exec ∧ c.code = cL_law ∧ c.maxLocals = 8 ∧ (∀ w ∈ pe_TB, w.before args s = true) ∧ s.vm.findClass (pe_rn 10) = some m.cls ∧ pe_G D cA s ∧ pe_N s ∧ px_E n0 H0 s ∧ H0.size = n0 ∧ (40 ≤ R.frames ∧ 2000 ≤ R.locals ∧ nF - 2 ≤ R.cells ∧ uF - 0 ≤ R.slots) ∧ s.heap.size + 2 = n0 + 2 ∧ l.stackTraces = false
theorem lw_py {S : pe_S} {G : pe_S → Prop} {d : Nat} (cx : lw_Cx p l R s m args c D cA n0 H0 nF uF) (hd : d ≤ 30) (w : py_X d 10 false cL_law S G) (k : ∀ S, G S → pe_PW p l e R s m args below meth c Q D cA b n0 H0 2 0 nF uF 8 S) : pe_PW p l e R s m args below meth c Q D cA b n0 H0 2 0 nF uF 8 S := by
  obtain ⟨c1, c2, c3, c4, c5, c6, c7, c8, c9, ⟨r1, r2, r3, r4⟩, c11, c12⟩ := cx
  exact py_PW (ini := false) c1 c2 (by omega) (by omega) c3 r3 r4 c4 c5 (fun h => absurd h (by decide)) c6 c7 w k
variable {T U : Nat → Prop} {σ : pe_H} {q N Us : Nat} {y : Nat → Int → Int} {L i : Int} {a : pa_M} {im : Option pa_M} {h : Int → pa_Sh} {o5 o6 o7 : Option pe_V}
/-- a cell more of which nothing is known -/
theorem lw_J.mo {k : Nat} (J : lw_J T U σ q y L N Us a im h a im h) (hk : k ≤ 1) : lw_J T U (pe_mo σ k 6) q y L (N + 1) (Us + 6) a im h a im h := by
  have sm : ∀ x, x < σ.1 → pg_same σ (pe_mo σ k 6) x := fun x hx => pg_same_mo hx
  have hG := J.2.1
  have hn : 921 ≤ σ.1 := J.2.2.2.2.2.2.2.1
  refine J.cls ⟨⟨Nat.le_add_right _ _, Nat.le_add_right _ _⟩, fun x hx _ _ => sm x hx⟩ (by show σ.1 + k ≤ σ.1 + 1; omega) (Nat.le_refl _) (fun _ w => Or.inl w) (fun _ w => Or.inl w) (hG.sm J.2.2.1.1 (Nat.le_add_right _ _) (fun x hx => sm x ?_)) J.2.2.1.1
  rcases hx with w | w | w
  · unfold pg_X at w; omega
  · exact (hG.2.1.1 x w).2
  · exact (hG.2.1.2.1 x w).2.2
set_option maxRecDepth 8000 in
theorem lw_35 (cx : lw_Cx p l R s m args c D cA n0 H0 nF uF) (J : lw_J T U σ q y L N Us a im h a im h) (hi : 0 ≤ i) (hi6 : i + 6 ≤ L) (hL : L ≤ 3072) (hN : N + 300 ≤ nF) (hUs : Us + 2000 ≤ uF) (k : ∀ T U σ q y a im h o5 o6 o7, lw_J T U σ q y L (N + 300) (Us + 2000) a im h a im h → pe_PW p l e R s m args below meth c Q D cA b n0 H0 2 0 nF uF 8 (lw_h (i + 6) o5 o6 o7 σ)) : pe_PW p l e R s m args below meth c Q D cA b n0 H0 2 0 nF uF 8 (1479, [some (.inr (.inr 1)), some (.inr (.inr 2)), some (.inr (.inr 877)), some (.inr (.inr 920)), some (.inl i), o5, o6, o7], [], σ) := by
  have cx0 := cx
  obtain ⟨c1, c2, c3, c4, c5, c6, c7, c8, c9, ⟨r1, r2, r3, r4⟩, c11, c12⟩ := cx
  obtain ⟨⟨v1, v2, v3⟩, ⟨v4, v5⟩, v6, v7, v8⟩ := J.2.2.2.2.2
  have hK2 : pe_K σ 2 = 8 := pk_sK J.2.1.F
  have x1 := v3 (i + 1) (by omega) (by omega)
  refine lw_py (d := 2) cx0 (by decide) (G := fun S => S = (1486, [some (.inr (.inr 1)), some (.inr (.inr 2)), some (.inr (.inr 877)), some (.inr (.inr 920)), some (.inl i), o5, o6, o7], [.inl (pe_I σ 1 (i + 1)), .inr (.inr 2)], σ)) (pb244_1479 (k := py_end rfl)) ?_
  intro S hS
  subst hS
  refine px_callT c1 c2 c3 c4 c5 c6 c7 c8 c9 hK2 (by decide) (px_tossQ l c12 J.2.1 J.2.2.1.1 x1) (by omega) (by omega) (show decode cL_law 1486 = _ by decide +kernel) ⟨by omega, by omega⟩ c11 (by omega) (by omega) (fun τ hτ => ?_) (fun τ hτ => ?_)
  · obtain ⟨kk, k1, rfl⟩ := hτ
    exact ⟨Nat.le_add_right _ _, rfl⟩
  · obtain ⟨kk, k1, rfl⟩ := hτ
    have J2 := J.mo k1
    have e1 : ∀ j, pe_I (pe_mo σ kk 6) 1 j = pe_I σ 1 j := fun _ => rfl
    obtain ⟨⟨w1, w2, w3⟩, ⟨w4, w5⟩, w6, w7, w8⟩ := J2.2.2.2.2.2
    have hK9 : pe_K (pe_mo σ kk 6) 877 = 9 := J2.1.1.2.1
    refine lw_py (d := 4) cx0 (by decide) (G := fun S => ∃ σ2 q2 y2, S = lw_h (i + 6) o5 o6 o7 σ2 ∧ lw_J T U σ2 q2 y2 L (N + 1) (Us + 6) a im h a im h) ?_ ?_
    · refine pb244_1489 (k := ?_)
      rw [e1 (i + 1)]
      refine pe_M_h J2.1.2 (pe_M.up (c243 (d := 0) J2.1.1 J2.2.2.2.1.2.1 J2.2.2.1.1.2.2 x1 ?_) (by omega))
      have J3 := J2.modP (q' := q) (pm_fr_u (k := 0) (j := 37) (v := 0) (by unfold pm_Zp; omega)) (pm_R_37 J2.2.2.2.1.1 J2.2.2.1.1.1.1.1.w8)
      refine py_blk 963 1 yk244 [] (cond (decide (pe_w _ = pe_w _)) 1504 1502, _, [], _) rfl trivial ?_
      rw [decide_eq_true rfl]
      refine pb244_1504 (k := ?_)
      exact py_end ⟨_, _, _, rfl, J3⟩
    · rintro S ⟨σ2, q2, y2, rfl, J3⟩
      exact k _ _ _ _ _ _ _ _ _ _ _ (J3.wide (by omega) (by omega))
end
