section
variable {p : Program} {l : Launch} {e : Env} {R : Room} {s : State} {m : MethodId} {args : Array Value} {below : List Frame} {meth : Method} {c : Code} {Q : State → Prop}
variable {D : va_G} {cA : Nat → ClassId} {b n0 : Nat} {H0 : Heap} {nF uF : Nat} {L : Int}
theorem pe_and_in (x y : Int) : pe_in (pe_and x y) := by
  unfold pe_in pe_and
  have h1 := Int32.le_toInt (Int32.ofInt x &&& Int32.ofInt y)
  have h2 := Int32.toInt_lt (Int32.ofInt x &&& Int32.ofInt y)
  exact ⟨by simpa using h1, by simpa using h2⟩
def lw_G (T U : Nat → Prop) (i L : Int) (N Us : Nat) (σ : pe_H) (o5 o6 o7 : Option pe_V) : pe_S → Prop := fun S => (∃ T U σ q y a im h, S = lw_h (i + 6) o5 o6 o7 σ ∧ lw_J T U σ q y L (N + 300) (Us + 2000) a im h a im h) ∨ S = (1314, [some (.inr (.inr 1)), some (.inr (.inr 2)), some (.inr (.inr 877)), some (.inr (.inr 920)), some (.inl i), o5, o6, o7], [], σ) ∨ S = (1479, [some (.inr (.inr 1)), some (.inr (.inr 2)), some (.inr (.inr 877)), some (.inr (.inr 920)), some (.inl i), o5, o6, o7], [], σ)
set_option maxRecDepth 8000 in
theorem lw_turn {T U : Nat → Prop} {σ : pe_H} {q N Us : Nat} {y : Nat → Int → Int} {i : Int} {a : pa_M} {im : Option pa_M} {h : Int → pa_Sh} {o5 o6 o7 : Option pe_V} (J : lw_J T U σ q y L N Us a im h a im h) (hi : 0 ≤ i) (hi6 : i + 6 ≤ L) (hL : L ≤ 3072) : py_X 24 10 false cL_law (33, [some (.inr (.inr 1)), some (.inr (.inr 2)), some (.inr (.inr 877)), some (.inr (.inr 920)), some (.inl i), o5, o6, o7], [], σ) (lw_G T U i L N Us σ o5 o6 o7) := by
  obtain ⟨⟨v1, v2, v3⟩, ⟨v4, v5⟩, v6, v7, v8⟩ := J.2.2.2.2.2
  have k : lw_K (lw_G T U i L N Us σ o5 o6 o7) i L N Us o5 o6 o7 := fun T U σ q y a im h J => Or.inl ⟨T, U, σ, q, y, a, im, h, rfl, J⟩
  refine pb244_33 (w1 := pe_and_in _ _) (k0 := fun _ => lw_0 (d := 0) J hi hi6 hL k) (k1 := fun _ => lw_1 (d := 0) J hi hi6 hL k) (k2 := fun _ => lw_2 (d := 0) J hi hi6 hL k) (k3 := fun _ => lw_3 (d := 0) J hi hi6 hL k) (k4 := fun _ => lw_4 (d := 0) J hi hi6 hL k) (k5 := fun _ => lw_5 (d := 0) J hi hi6 hL k) (k6 := fun _ => lw_6 (d := 0) J hi hi6 hL k) (k7 := fun _ => lw_7 (d := 0) J hi hi6 hL k) (k8 := fun _ => lw_8 (d := 0) J hi hi6 hL k) (k9 := fun _ => lw_9 (d := 0) J hi hi6 hL k) (k10 := fun _ => lw_10 (d := 0) J hi hi6 hL k) (k11 := fun _ => lw_11 (d := 0) J hi hi6 hL k) (k12 := fun _ => lw_12 (d := 0) J hi hi6 hL k) (k13 := fun _ => lw_13 (d := 0) J hi hi6 hL k) (k14 := fun _ => lw_14 (d := 0) J hi hi6 hL k) (k15 := fun _ => lw_15 (d := 0) J hi hi6 hL k) (k16 := fun _ => lw_16 (d := 0) J hi hi6 hL k) (k17 := fun _ => lw_17 (d := 0) J hi hi6 hL k) (k18 := fun _ => lw_18 (d := 0) J hi hi6 hL k) (k19 := fun _ => lw_19 (d := 0) J hi hi6 hL k) (k20 := fun _ => lw_20 (d := 0) J hi hi6 hL k) (k21 := fun _ => lw_21 (d := 0) J hi hi6 hL k) (k22 := fun _ => lw_22 (d := 0) J hi hi6 hL k) (k23 := fun _ => lw_23 (d := 0) J hi hi6 hL k) (k24 := fun _ => lw_24 (d := 0) J hi hi6 hL k) (k25 := fun _ => lw_25 (d := 0) J hi hi6 hL k) (k26 := fun _ => lw_26 (d := 0) J hi hi6 hL k) (k27 := fun _ => lw_27 (d := 0) J hi hi6 hL k) (k28 := fun _ => lw_28 (d := 0) J hi hi6 hL k) (k29 := fun _ => lw_29 (d := 0) J hi hi6 hL k) (k30 := fun _ => lw_30 (d := 0) J hi hi6 hL k) (k31 := fun _ => lw_31 (d := 0) J hi hi6 hL k) (k32 := fun _ => py_end (Or.inr (Or.inl rfl))) (k33 := fun _ => lw_33 (d := 0) J hi hi6 hL k) (k34 := fun _ => lw_34 (d := 0) J hi hi6 hL k) (k35 := fun _ => py_end (Or.inr (Or.inr rfl))) (kd := fun _ _ _ _ _ _ _ _ _ _ _ _ _ _ _ _ _ _ _ _ _ _ _ _ _ _ _ _ _ _ _ _ _ _ _ _ => pb244_1504 (k := py_end (k _ _ _ _ _ _ _ _ (J.wide (by omega) (by omega)))))
theorem lw_len {T U : Nat → Prop} {σ : pe_H} {q N Us : Nat} {y : Nat → Int → Int} {a : pa_M} {im : Option pa_M} {h : Int → pa_Sh} (J : lw_J T U σ q y L N Us a im h a im h) : pe_L σ 1 = L := J.2.2.2.2.2.1.2.1
set_option maxRecDepth 8000 in
theorem lw_loop (cx : lw_Cx p l R s m args c D cA n0 H0 nF uF) (hL0 : 0 ≤ L) (hL : L ≤ 3072) (fin : ∀ σ ls, pe_n σ ≤ nF → pe_u σ ≤ uF → pe_PW p l e R s m args below meth c Q D cA b n0 H0 2 0 nF uF 8 (1511, ls, [.inl 1], σ)) : ∀ (k : Nat) (i : Int) (T U : Nat → Prop) (σ : pe_H) (q : Nat) (y : Nat → Int → Int) (a : pa_M) (im : Option pa_M) (h : Int → pa_Sh) (N Us : Nat) (o5 o6 o7 : Option pe_V), 0 ≤ i → i ≤ 3072 + 6 → L < i + 6 * k → lw_J T U σ q y L N Us a im h a im h → N + 300 * k ≤ nF → Us + 2000 * k ≤ uF → pe_PW p l e R s m args below meth c Q D cA b n0 H0 2 0 nF uF 8 (lw_h i o5 o6 o7 σ) := by
  intro k
  induction k with
  | zero =>
    intro i T U σ q y a im h N Us o5 o6 o7 hi hi2 hk J hN hU
    obtain ⟨⟨v1, v2, v3⟩, ⟨v4, v5⟩, v6, v7, v8⟩ := J.2.2.2.2.2
    have hLi := lw_len J
    refine lw_py (d := 0) cx (by decide) (G := fun S => ∃ ls, S = (1511, ls, [.inl 1], σ)) ?_ ?_
    · refine pb244_23 (w0 := by rw [v2]; unfold pe_in; omega) (k1 := fun _ => pb244_1510 (k := py_end ⟨_, rfl⟩)) (k2 := fun w => absurd (show pe_L σ 1 - 6 < i by omega) w)
    · rintro S ⟨ls, rfl⟩
      exact fin σ ls (by omega) (by omega)
  | succ k ih =>
    intro i T U σ q y a im h N Us o5 o6 o7 hi hi2 hk J hN hU
    obtain ⟨⟨v1, v2, v3⟩, ⟨v4, v5⟩, v6, v7, v8⟩ := J.2.2.2.2.2
    have hLi := lw_len J
    by_cases hd : L - 6 < i
    · refine lw_py (d := 0) cx (by decide) (G := fun S => ∃ ls, S = (1511, ls, [.inl 1], σ)) ?_ ?_
      · refine pb244_23 (w0 := by rw [v2]; unfold pe_in; omega) (k1 := fun _ => pb244_1510 (k := py_end ⟨_, rfl⟩)) (k2 := fun w => absurd (show pe_L σ 1 - 6 < i by omega) w)
      · rintro S ⟨ls, rfl⟩
        exact fin σ ls (by omega) (by omega)
    · have next : ∀ T U σ q y a im h o5 o6 o7, lw_J T U σ q y L (N + 300) (Us + 2000) a im h a im h → pe_PW p l e R s m args below meth c Q D cA b n0 H0 2 0 nF uF 8 (lw_h (i + 6) o5 o6 o7 σ) := fun T U σ q y a im h o5 o6 o7 J2 => ih (i + 6) T U σ q y a im h (N + 300) (Us + 2000) o5 o6 o7 (by omega) (by omega) (by omega) J2 (by omega) (by omega)
      refine lw_py (d := 24) cx (by decide) (G := lw_G T U i L N Us σ o5 o6 o7) ?_ ?_
      · exact pb244_23 (w0 := by rw [v2]; unfold pe_in; omega) (k1 := fun w => absurd w (by omega)) (k2 := fun _ => lw_turn J hi (by omega) hL)
      · intro S hS
        rcases hS with ⟨T2, U2, σ2, q2, y2, a2, im2, h2, rfl, J2⟩ | rfl | rfl
        · exact next _ _ _ _ _ _ _ _ _ _ _ J2
        · exact lw_32 cx J hi (by omega) hL (by omega) (by omega) next
        · exact lw_35 cx J hi (by omega) hL (by omega) (by omega) next
end
