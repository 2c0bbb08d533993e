/-! THE LAW'S MACHINE AND THE CLASS'S, side by side -/
/-- of the cells that were there only those of Z have changed, also their kinds -/
def ll_fz (Z : Int → Prop) (x y : Nat) (σ : pe_H) (g : Nat → Int) (σ' : pe_H) (g' : Nat → Int) : Prop := ((pe_n σ ≤ pe_n σ' ∧ pe_n σ' ≤ pe_n σ + x ∧ pe_u σ' ≤ pe_u σ + y) ∧ ll_g σ' g') ∧ ∀ r, g r ≠ -9 → g' r = g r ∧ (¬ Z (g r) → pg_same σ σ' r)
/-- the class's cells' codes gone -/
def ll_hh (g : Nat → Int) (r : Nat) : Int := if g r = -7 then -9 else g r
section
variable {d o r q x y x' y' : Nat} {Z Z' : Int → Prop} {Φ : Option pe_V → pe_H → Prop} {σ σ' σ'' : pe_H} {g g' g'' : Nat → Int} {c e v n k1 : Int} {a b s s' : pa_M} {w : pa_C} {nu : Nat → Int} {k0 : Nat} {l : List Int} {f : pa_F} {fs : List pa_F} {T U T' U' : Nat → Prop} {im im' : Option pa_M} {h h' : Int → pa_Sh}
theorem ll_fr.z (h : ll_fr Z x y σ g σ' g') : ll_fz Z x y σ g σ' g' := ⟨⟨⟨h.1.1.1, h.1.1.2.1, h.1.1.2.2.1⟩, h.1.2⟩, fun r hr => ⟨h.G hr, fun hz => h.same hr hz⟩⟩
theorem pg_same_trans {σ1 σ2 σ3 : pe_H} (h : pg_same σ1 σ2 r) (h' : pg_same σ2 σ3 r) : pg_same σ1 σ3 r := ⟨h'.1.trans h.1, h'.2.1.trans h.2.1, fun j => ⟨(h'.2.2 j).1.trans (h.2.2 j).1, (h'.2.2 j).2.trans (h.2.2 j).2⟩⟩
theorem ll_fz_trans (h : ll_fz Z x y σ g σ' g') (h' : ll_fz Z x' y' σ' g' σ'' g'') : ll_fz Z (x + x') (y + y') σ g σ'' g'' := by
  obtain ⟨⟨⟨a1, a2, a3⟩, -⟩, a5⟩ := h
  obtain ⟨⟨⟨b1, b2, b3⟩, b4⟩, b5⟩ := h'
  refine ⟨⟨⟨by omega, by omega, by omega⟩, b4⟩, fun r hr => ?_⟩
  obtain ⟨p1, p2⟩ := a5 r hr
  obtain ⟨q1, q2⟩ := b5 r (by rw [p1]; exact hr)
  exact ⟨q1.trans p1, fun hz => pg_same_trans (p2 hz) (q2 (by rw [p1]; exact hz))⟩
theorem ll_fz_mono (h : ll_fz Z x y σ g σ' g') (hz : ∀ z, Z z → Z' z) (hx : x ≤ x' := by omega) (hy : y ≤ y' := by omega) : ll_fz Z' x' y' σ g σ' g' := by
  obtain ⟨⟨⟨a1, a2, a3⟩, a4⟩, a5⟩ := h
  exact ⟨⟨⟨a1, by omega, by omega⟩, a4⟩, fun r hr => ⟨(a5 r hr).1, fun q => (a5 r hr).2 (fun w => q (hz _ w))⟩⟩
theorem ll_hh_ne (hr : g r ≠ -7) : ll_hh g r = g r := if_neg hr
theorem ll_hh_of {z : Int} (hr : g r = z) (hz : z ≠ -7) : ll_hh g r = z := (ll_hh_ne (by rw [hr]; exact hz)).trans hr
theorem ll_A.hh (h : ll_A σ g r l) : ll_A σ (ll_hh g) r l := ⟨⟨h.1.1, ll_hh_of h.1.2 (by decide)⟩, h.2⟩
theorem ll_fa.hh : ∀ (l : List Int) (r : Nat), ll_fa σ g l r → ll_fa σ (ll_hh g) l r
  | [], _, h => h
  | _ :: l, _, h => ⟨⟨h.1.1, h.1.2.1, ll_hh_of h.1.2.2 (by decide)⟩, h.2.1, ll_fa.hh l _ h.2.2⟩
theorem ll_H.hh {h : Option (List Int)} (hh : ll_H σ g r h) : ll_H σ (ll_hh g) r h := by
  unfold ll_H at hh ⊢
  split at hh
  · exact hh
  · exact hh
  · exact ⟨hh.1, ll_fa.hh _ _ hh.2⟩
theorem ll_F.hh (hk : k1 ≠ -7) (h : ll_F σ g k1 r f) : ll_F σ (ll_hh g) k1 r f := ⟨⟨h.1.1, ll_hh_of h.1.2 hk⟩, h.2.1, ⟨h.2.2.1.1.hh, h.2.2.1.2.hh⟩, h.2.2.2.hh⟩
theorem ll_Fs.hh {fa : Nat} (hc : 0 ≤ c) : ∀ (fs : List pa_F), ll_Fs σ g c fa fs → ll_Fs σ (ll_hh g) c fa fs
  | [], _ => trivial
  | _ :: fs, h => ⟨h.1.hh (by omega), ll_Fs.hh hc fs h.2⟩
theorem ll_C.hh (hc : 0 ≤ c) (h : ll_C σ g c o w) : ll_C σ (ll_hh g) c o w := ⟨⟨h.1.1, ll_hh_of h.1.2 (by omega)⟩, h.2.1, ⟨h.2.2.1.1, h.2.2.1.2.1, ll_hh_of h.2.2.1.2.2 (by omega)⟩, h.2.2.2.1, fun q => ll_fa.hh _ _ (h.2.2.2.2.1 q), ll_Fs.hh hc _ h.2.2.2.2.2⟩
theorem ll_R.hh (h : ll_R σ g a) : ll_R σ (ll_hh g) a := by
  obtain ⟨⟨⟨b1, b2⟩, g1, g2, g3, g4, g5, z0, z1, z2⟩, a4, a5, a6, a7⟩ := h
  refine ⟨⟨⟨b1, fun r hr => ?_⟩, ll_hh_of g1 (by decide), ll_hh_of g2 (by decide), ll_hh_of g3 (by decide), ll_hh_of g4 (by decide), ll_hh_of g5 (by decide), ll_hh_of z0 (by decide), ll_hh_of z1 (by decide), ll_hh_of z2 (by decide)⟩, a4, fun p p0 p5 => ⟨(a5 p p0 p5).1.hh, (a5 p p0 p5).2.hh⟩, fun q q0 q3 => ⟨(a6 q q0 q3).1.hh, (a6 q q0 q3).2.hh⟩, fun c c0 c1 => (a7 c c0 c1).hh c0⟩
  unfold ll_hh
  rw [b2 r hr]
  rfl
/-- a call of the class -/
theorem ll_R.cls (hR : ll_R σ g a) (hw : pa_wf9 a) (hf : ll_fz (fun z => z = -7) x y σ g σ' g') (h4 : pe_K σ' 4 = 8) : ll_R σ' g' a := by
  have f1 : ll_fr (fun _ => False) x y σ (ll_hh g) σ' (ll_hh g') := by
    refine ⟨⟨⟨hf.1.1.1, hf.1.1.2.1, hf.1.1.2.2, fun _ => h4.trans hR.L.1.2.symm⟩, fun r hr => ?_⟩, fun r hr => ?_⟩
    · unfold ll_hh
      rw [hf.1.2 r hr]
      rfl
    · have hr7 : g r ≠ -7 := fun e => hr (if_pos e)
      have hr9 : g r ≠ -9 := fun e => hr (by rw [ll_hh_ne hr7]; exact e)
      obtain ⟨p1, p2⟩ := hf.2 r hr9
      have p2 := p2 hr7
      refine ⟨?_, ⟨p2.1, p2.2.1⟩, fun _ j => p2.2.2 j⟩
      rw [ll_hh_ne hr7, ll_hh_ne (by rw [p1]; exact hr7), p1]
  have R1 := hR.hh.fr hw f1 (fun _ h => h.elim)
  have f2 : ll_fr (fun _ => False) 0 0 σ' (ll_hh g') σ' g' := by
    refine ⟨⟨⟨Nat.le_refl _, Nat.le_refl _, Nat.le_refl _, fun _ => rfl⟩, hf.1.2⟩, fun r hr => ⟨?_, ⟨rfl, rfl⟩, fun _ _ => ⟨rfl, rfl⟩⟩⟩
    have hr7 : g' r ≠ -7 := fun e => hr (if_pos e)
    exact (ll_hh_ne hr7).symm
  exact R1.fr hw f2 (fun _ h => h.elim)
/-- both -/
def ll_Q (T U : Nat → Prop) (σ : pe_H) (g : Nat → Int) (a s : pa_M) (im : Option pa_M) (h : Int → pa_Sh) : Prop := ll_R σ g a ∧ (pg_G 4 T U σ s im h ∧ pg_W s im h) ∧ ∀ x, pg_X 4 x ∨ T x ∨ U x → g x = -7
/-- what both change -/
def ll_Zq (z : Int) : Prop := ll_Zs z ∨ z = -7
theorem ll_Q.R (h1 : ll_Q T U σ g a s im h) : ll_R σ g a := h1.1
theorem ll_Q.G (h1 : ll_Q T U σ g a s im h) : pg_G 4 T U σ s im h := h1.2.1.1
theorem ll_Q.W (h1 : ll_Q T U σ g a s im h) : pg_W s im h := h1.2.1.2
/-- the law's machine goes on -/
theorem ll_Q.law (hq : ll_Q T U σ g a s im h) (hf : ll_fr Z x y σ g σ' g') (hz : ¬ Z (-7)) (hR : ll_R σ' g' b) : ll_Q T U σ' g' b s im h := by
  refine ⟨hR, ⟨hq.G.sm hq.W hf.1.1.1 (fun x hx => ?_), hq.W⟩, fun x hx => ?_⟩
  · have e := hq.2.2 x hx
    exact hf.same (by rw [e]; decide) (by rw [e]; exact hz)
  · have e := hq.2.2 x hx
    rw [hf.G (by rw [e]; decide)]
    exact e
theorem pk_Fs_4 (h : pk_Fs 4 σ) : pe_K σ 4 = 8 := by
  exact h.1.2
/-- the class's machine goes on -/
theorem ll_Q.frz (hq : ll_Q T U σ g a s im h) (hf : pk_fr (pg_X 4) σ σ') : ll_fz (fun z => z = -7) 0 0 σ g σ' g := by
  obtain ⟨⟨f1, f2, f3, f4⟩, f5⟩ := hf
  have en : pe_n σ' = pe_n σ := f1
  refine ⟨⟨⟨by omega, by omega, by first | exact Nat.le_of_eq f2 | exact Nat.le_of_eq f3 | exact Nat.le_of_eq f4⟩, fun r hr => hq.R.gg r (by omega)⟩, fun r hr => ⟨rfl, fun h7 => ?_⟩⟩
  have hX : ¬ pg_X 4 r := fun hx => h7 (hq.2.2 r (Or.inl hx))
  refine ⟨?_, ?_, fun j => f5 r hX j⟩
  · show pe_K σ' r = pe_K σ r
    unfold pe_K
    first | rw [f2] | rw [f3] | rw [f4]
  · show pe_L σ' r = pe_L σ r
    unfold pe_L
    first | rw [f4] | rw [f3] | rw [f2]
theorem ll_Q.cls (hq : ll_Q T U σ g a s im h) (hw : pa_wf9 a) (hf : pk_fr (pg_X 4) σ σ') (hG : pg_G 4 T U σ' s' im' h') (hW : pg_W s' im' h') : ll_fz (fun z => z = -7) 0 0 σ g σ' g ∧ ll_Q T U σ' g a s' im' h' := by
  have hz := hq.frz hf
  exact ⟨hz, hq.R.cls hw hz (pk_Fs_4 hG.F), ⟨hG, hW⟩, hq.2.2⟩
/-- the class's machine goes on and has more cells -/
theorem ll_Q.st (hq : ll_Q T U σ g a s im h) (hw : pa_wf9 a) (hf : pg_st 4 U σ σ') (hx : pe_n σ' ≤ pe_n σ + x) (hy : pe_u σ' ≤ pe_u σ + y) (hT : ∀ x, T' x → T x ∨ σ.1 ≤ x) (hU : ∀ x, U' x → U x ∨ σ.1 ≤ x) (hG : pg_G 4 T' U' σ' s' im' h') (hW : pg_W s' im' h') : ∃ g', ll_fz (fun z => z = -7) x y σ g σ' g' ∧ ll_Q T' U' σ' g' a s' im' h' := by
  have hn : pe_n σ ≤ pe_n σ' := hf.1.1
  have hz : ll_fz (fun z => z = -7) x y σ g σ' (fun r => if pe_n σ ≤ r ∧ r < pe_n σ' then -7 else g r) := by
    refine ⟨⟨⟨hn, hx, hy⟩, fun r hr => ?_⟩, fun r hr => ?_⟩
    · show (if pe_n σ ≤ r ∧ r < pe_n σ' then -7 else g r) = -9
      rw [if_neg (by omega)]
      exact hq.R.gg r (by omega)
    · have hlt := ll_lt hq.R.gg hr
      refine ⟨if_neg (by omega), fun h7 => ?_⟩
      exact hf.2 r hlt (fun hx => h7 (hq.2.2 r (Or.inl hx))) (fun hx => h7 (hq.2.2 r (Or.inr (Or.inr hx))))
  refine ⟨_, hz, hq.R.cls hw hz (pk_Fs_4 hG.F), ⟨hG, hW⟩, fun r hr => ?_⟩
  show (if pe_n σ ≤ r ∧ r < pe_n σ' then -7 else g r) = -7
  by_cases e : pe_n σ ≤ r ∧ r < pe_n σ'
  · rw [if_pos e]
  · rw [if_neg e]
    have hb : r < pe_n σ' := by
      rcases hr with h | h | h
      · have := hG.2.1.2.2; have : σ'.1 = pe_n σ' := rfl; unfold pg_X at h; omega
      · exact (hG.2.1.1 r h).2
      · exact (hG.2.1.2.1 r h).2.2
    rcases hr with h | h | h
    · exact hq.2.2 r (Or.inl h)
    · rcases hT r h with h | h
      · exact hq.2.2 r (Or.inr (Or.inl h))
      · have h : pe_n σ ≤ r := h; omega
    · rcases hU r h with h | h
      · exact hq.2.2 r (Or.inr (Or.inr h))
      · have h : pe_n σ ≤ r := h; omega
end
