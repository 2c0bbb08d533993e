/-! THE LAW: faults, frames, a coroutine's own methods -/
section
variable {d o r q : Nat} {Φ : Option pe_V → pe_H → Prop} {σ σ' : pe_H} {g g' : Nat → Int} {c v n k0 : Int} {a : pa_C} {f : pa_F} {fs : List pa_F} {φ : List Int} {nu : Nat → Int}
theorem k132 (hr : r ≠ 0) (hK : pe_K σ r = 9) (k : Φ none (pe_wR (pe_wI σ r 0 v) r 1 q)) : pe_M (d + 1) 132 [.inr (.inr r), .inl v, .inr (.inr q)] σ Φ := by
  refine pe_M_of ck132 (Nat.le_of_ble_eq_true rfl) ?_
  refine b132_0 (k := ?_)
  refine b132_4 (k := ?_)
  refine b132_9 (h0 := hK) (k := ?_)
  refine b132_14 (k := ?_)
  exact k
theorem k133 {p1 p2 : Nat} (hr : r ≠ 0) (hK : pe_K σ r = 19) (k : Φ none (pe_wR (pe_wR (pe_wI σ r 0 v) r 1 p1) r 2 p2)) : pe_M (d + 1) 133 [.inr (.inr r), .inl v, .inr (.inr p1), .inr (.inr p2)] σ Φ := by
  refine pe_M_of ck133 (Nat.le_of_ble_eq_true rfl) ?_
  refine b133_0 (k := ?_)
  refine b133_4 (k := ?_)
  refine b133_9 (h0 := hK) (k := ?_)
  refine b133_14 (h0 := hK) (k := ?_)
  refine b133_19 (k := ?_)
  exact k
theorem pa_ff_is : ∀ (p : pa_P) (i : Int), 0 ≤ i → pa_ff p i ≠ -1 → (p.getD (pa_ff p i - i).toNat (0, 0)).1 = 102
  | [], _, _, h => absurd rfl h
  | q :: l, i, hi, h => by
    unfold pa_ff at h ⊢
    by_cases e : q.1 = 102
    · rw [if_pos e, show (i - i).toNat = 0 by omega]
      exact e
    · rw [if_neg e] at h ⊢
      have hb := pa_ff_b l (i + 1) (by omega)
      have := pa_ff_is l (i + 1) (by omega) h
      rw [show (pa_ff l (i + 1) - i).toNat = (pa_ff l (i + 1) - (i + 1)).toNat + 1 by omega, List.getD_cons_succ]
      exact this
theorem pa_fin_is {p : pa_P} (h : pa_fin p ≠ -1) : (p.getD (pa_fin p).toNat (0, 0)).1 = 102 := by
  have := pa_ff_is p 0 (by decide) h
  rw [Int.sub_zero] at this
  exact this
theorem ll_A_at {p : pa_P} {i : Int} (hA : ll_A σ g r (p.map Prod.fst)) (h0 : 0 ≤ i) (h1 : i < p.length) : pe_I σ r i = (p.getD i.toNat (0, 0)).1 := by
  have := hA.2.2 i.toNat (by rw [List.length_map]; omega)
  rw [show ((i.toNat : Nat) : Int) = i by omega] at this
  rw [this, List.getD_eq_getElem?_getD, List.getD_eq_getElem?_getD, List.getElem?_map]
  cases p[i.toNat]? <;> rfl
theorem ll_A_at2 {p : pa_P} {i : Int} (hA : ll_A σ g r (p.map Prod.snd)) (h0 : 0 ≤ i) (h1 : i < p.length) : pe_I σ r i = (p.getD i.toNat (0, 0)).2 := by
  have := hA.2.2 i.toNat (by rw [List.length_map]; omega)
  rw [show ((i.toNat : Nat) : Int) = i by omega] at this
  rw [this, List.getD_eq_getElem?_getD, List.getD_eq_getElem?_getD, List.getElem?_map]
  cases p[i.toNat]? <;> rfl
/-- finishes -/
theorem k134 (hF : ll_F σ g k0 r f) (hw : pa_wff f) (k1 : f.1 4 = 0 → f.1 2 ≤ pa_fin f.2.1 → Φ (some (.inl 1)) (pe_wI (pe_wI σ r 3 (pa_fin f.2.1 + 1)) r 5 1)) (k2 : ¬ (f.1 4 = 0 ∧ f.1 2 ≤ pa_fin f.2.1) → Φ (some (.inl 0)) σ) : pe_M (d + 1) 134 [.inr (.inr r)] σ Φ := by
  obtain ⟨⟨a1, -⟩, ⟨-, b2, -, b4⟩, ⟨c1, -⟩, -⟩ := hF
  obtain ⟨-, w2, -, w4, w5, -⟩ := hw
  have hlen : pe_L σ (pe_R σ r 1) = f.2.1.length := by rw [c1.2.1, List.length_map]
  have hl16 := w5.1
  have hfb := pa_fin_b f.2.1
  have cK := c1.1.1
  have loop : ∀ (m : Nat) (i : Int), i + m = 26 → f.1 2 ≤ i → (pa_fin f.2.1 < f.1 2 ∨ i ≤ pa_fin f.2.1) → pe_X d 134 (5, [some (.inr (.inr r)), some (.inl i)], [], σ) Φ := by
    intro m
    induction m with
    | zero =>
      intro i hi h2 h3
      refine b134_5 (k1 := fun _ => ?_) (k2 := fun r => by omega)
      refine b134_52 (k := ?_)
      exact k2 (by omega)
    | succ m ih =>
      intro i hi h2 h3
      refine b134_5 (k1 := fun r1 => ?_) (k2 := fun r1 => ?_)
      · refine b134_52 (k := ?_)
        exact k2 (by omega)
      · refine b134_14 (k1 := fun r2 => ?_) (k2 := fun r2 => ?_)
        · refine b134_52 (k := ?_)
          exact k2 (by omega)
        · have e := ll_A_at c1 (i := i) (by omega) (by omega)
          have hok : pa_okl (f.2.1.getD i.toNat (0, 0)).1 := by
            rw [List.getD_eq_getElem?_getD, List.getElem?_eq_getElem (by omega)]
            exact (w5.2.1 _ (List.getElem_mem (by omega))).1
          have hb : pe_in (pe_I σ (pe_R σ r 1) i) := by
            rw [e]
            unfold pa_okl at hok
            unfold pe_in
            omega
          refine b134_21 (w1 := hb) (k1 := fun r3 => ?_) (k2 := fun r3 => ?_)
          · refine b134_46 (k := ?_)
            refine ih (i + 1) (by omega) (by omega) ?_
            rcases h3 with q | q
            · exact Or.inl q
            · right
              have : i ≠ pa_fin f.2.1 := fun e2 => r3 (by rw [e, e2]; exact pa_fin_is (by omega))
              omega
          · have e2 := w5.2.2 i.toNat (by omega) (by rw [← e]; exact r3)
            have e3 : pa_fin f.2.1 = i := by rw [e2]; omega
            refine b134_32 (k := ?_)
            refine b134_39 (h0 := a1) (k := ?_)
            refine b134_44 (k := ?_)
            rw [e3] at k1
            exact k1 (by omega) (by omega)
  refine pe_M_of ck134 (Nat.le_of_ble_eq_true rfl) ?_
  refine b134_0 (k := ?_)
  rw [b2]
  refine loop (26 - f.1 2).toNat (f.1 2) (by omega) (Int.le_refl _) ?_
  omega
/-- told -/
def pa_tld (h : Option (List Int)) : Int := match h with
  | none => 0
  | some [] => 1
  | some (z :: _) => 10 + z
theorem k135 (hK : pe_K σ r = 19) {h : Option (List Int)} (hH : ll_H σ g r h) (k : Φ (some (.inl (pa_tld h))) σ) : pe_M (d + 1) 135 [.inr (.inr r)] σ Φ := by
  refine pe_M_of ck135 (Nat.le_of_ble_eq_true rfl) ?_
  unfold ll_H at hH
  split at hH
  · refine b135_0 (k1 := fun _ => ?_) (k2 := fun r => by omega)
    refine b135_20 (k1 := fun _ => ?_) (k2 := fun r => by omega)
    refine b135_31 (k := ?_)
    refine b135_32 (k := ?_)
    exact k
  · refine b135_0 (k1 := fun _ => ?_) (k2 := fun r => by omega)
    refine b135_20 (k1 := fun r => by omega) (k2 := fun _ => ?_)
    refine b135_27 (k := ?_)
    refine b135_32 (k := ?_)
    exact k
  · obtain ⟨-, ⟨h0, h1, -⟩, h2, -⟩ := hH
    refine b135_0 (k1 := fun r => by omega) (k2 := fun _ => ?_)
    refine b135_7 (k := ?_)
    refine b135_32 (k := ?_)
    rw [h2]
    exact k
/-- a coroutine's frame's array, its frames -/
def ll_S (σ : pe_H) (g : Nat → Int) (c : Int) (o : Nat) (fs : List pa_F) : Prop := (pe_K σ o = 20 ∧ g o = 16 * c) ∧ (pe_K σ (pe_R σ o 10) = 22 ∧ pe_L σ (pe_R σ o 10) = 6 ∧ g (pe_R σ o 10) = 16 * c + 1) ∧ (pe_I σ o 11 = fs.length ∧ fs.length ≤ 6) ∧ ll_Fs σ g c (pe_R σ o 10) fs
theorem ll_C.S (h : ll_C σ g c o a) (hl : a.2.2.length ≤ 6) : ll_S σ g c o a.2.2 := ⟨h.1, h.2.2.1, ⟨h.2.2.2.1, hl⟩, h.2.2.2.2.2⟩
theorem ll_S.C (h : ll_S σ g c o fs) (hN : ll_N σ o nu) (he : nu 2 = 7 → ll_fa σ g φ (pe_R σ o 9)) : ll_C σ g c o (nu, φ, fs) := ⟨h.1, hN, h.2.1, h.2.2.1.1, he, h.2.2.2⟩
/-- top -/
theorem k137 (hS : ll_S σ g c o (f :: fs)) (k : Φ (some (.inr (.inr (pe_R σ (pe_R σ o 10) fs.length)))) σ) : pe_M (d + 1) 137 [.inr (.inr o)] σ Φ := by
  obtain ⟨⟨a1, a2⟩, ⟨b1, b2, b3⟩, ⟨c1, c2⟩, -⟩ := hS
  rw [List.length_cons] at c1 c2
  refine pe_M_of ck137 (Nat.le_of_ble_eq_true rfl) ?_
  refine b137_0 (k := ?_)
  rw [show pe_I σ o 11 - 1 = (fs.length : Int) by omega]
  exact k
/-- frames further below aren't touched -/
theorem ll_Fs.below {Z : Int → Prop} {x y fa : Nat} (hf : ll_fr Z x y σ g σ' g') (hz : ¬ Z (-1)) (hc : 0 ≤ c) (hR : ∀ i : Nat, i < fs.length → pe_R σ' fa i = pe_R σ fa i) (hk : ∀ i : Nat, i < fs.length → ¬ Z (16 * c + 2 + i)) (h : ll_Fs σ g c fa fs) : ll_Fs σ' g' c fa fs := h.fr hf hz fs hk hR hc
/-- one of the frames here and above -/
def ll_Zf (c m z : Int) : Prop := z = 16 * c ∨ (16 * c + 2 + m ≤ z ∧ z < 16 * c + 16)
theorem ll_Zf_c {m z : Int} (hm : 0 ≤ m) (h : ll_Zf c m z) : ll_Zc c z := by
  unfold ll_Zf at h
  unfold ll_Zc
  omega
/-- the frame on top goes -/
theorem ll_S.pop (hg : ll_g σ g) (hc : 0 ≤ c) (h : ll_S σ g c o (f :: fs)) : ll_S (pe_wI σ o 11 (pe_I σ o 11 - 1)) g c o fs := by
  obtain ⟨⟨a1, a2⟩, ⟨b1, b2, b3⟩, ⟨c1, c2⟩, -, d2⟩ := h
  rw [List.length_cons] at c1 c2
  have hfr : ll_fr (fun z => z = 16 * c) 0 0 σ g (pe_wI σ o 11 (pe_I σ o 11 - 1)) g := ll_fr_wI hg a2
  refine ⟨⟨a1, a2⟩, ⟨b1, b2, b3⟩, ⟨?_, by omega⟩, d2.fr hfr (by omega) fs (fun i _ => by omega) (fun _ _ => rfl) hc⟩
  rw [pe_I_same]
  omega
theorem ll_N.st (h : ll_N σ o nu) (v : Int) (hv : ¬ (3 ≤ v ∧ v ≤ 5)) : ll_N (pe_wI σ o 3 v) o (pa_s nu 2 v) := by
  obtain ⟨⟨b0, b1, b2, b3, b4, b5, b6, b7⟩, -⟩ := h
  refine ⟨⟨?_, ?_, ?_, ?_, ?_, ?_, ?_, ?_⟩, fun q1 q2 => ?_⟩
  · rw [pe_I_nej (by decide), pa_sn (by decide)]; exact b0
  · rw [pe_I_nej (by decide), pa_sn (by decide)]; exact b1
  · rw [pe_I_nej (by decide), pa_sn (by decide)]; exact b2
  · rw [pe_I_same, pa_ss]
  · rw [pe_I_nej (by decide), pa_sn (by decide)]; exact b4
  · rw [pe_I_nej (by decide), pa_sn (by decide)]; exact b5
  · rw [pe_I_nej (by decide), pa_sn (by decide)]; exact b6
  · rw [pe_I_nej (by decide), pa_sn (by decide)]; exact b7
  · rw [pa_ss] at q1 q2
    exact absurd ⟨q1, q2⟩ hv
theorem ll_N.same (h : ll_N σ o nu) (hI : ∀ j, j ≠ 11 → pe_I σ' o j = pe_I σ o j) : ll_N σ' o nu := by
  unfold ll_N
  rw [hI 0 (by decide), hI 1 (by decide), hI 2 (by decide), hI 3 (by decide), hI 4 (by decide), hI 5 (by decide), hI 6 (by decide), hI 7 (by decide), hI 8 (by decide)]
  exact h
end
