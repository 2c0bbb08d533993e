/-! THE LAW: a text is told; one comes, to both -/
section
variable {d o r q x y x' y' : Nat} {Z Z' : Int → Prop} {Φ : Option pe_V → pe_H → Prop} {σ σ' σ'' : pe_H} {g g' g'' : Nat → Int} {c e v n p : Int} {a b s s' : pa_M} {w : pa_C} {nu : Nat → Int} {k0 : Nat} {l : List Int} {f : pa_F} {fs : List pa_F} {T U T' U' : Nat → Prop} {im im' : Option pa_M} {h h' : Int → pa_Sh}
theorem ll_i2b_all : ∀ u : Fin 128, pe_i2b (u.val : Int) = u.val := by decide +kernel
theorem ll_i2b (z : Int) (h0 : 0 ≤ z) (h1 : z ≤ 127) : pe_i2b z = z := by
  have := ll_i2b_all ⟨z.toNat, by omega⟩
  dsimp only at this
  rw [show ((z.toNat : Nat) : Int) = z by omega] at this
  exact this
def ll_Zb (z : Int) : Prop := ll_Zj z ∨ z = -7
theorem k168 {kd fg : Int} (hq : ll_Q T U σ g a a im h) (hp : 0 ≤ p ∧ p < 5) (hk : 0 ≤ kd ∧ kd ≤ 5) (hf : 0 ≤ fg ∧ fg ≤ 9) (h4 : a.1 4 < 8) (k : ∀ σ' g' T' h', ll_fz ll_Zb 4 28 σ g σ' g' → ll_Q T' U σ' g' (pa_more a p kd fg) (pa_more a p kd fg) im h' → Φ (some (.inl 1)) σ') : pe_M (d + 5) 168 [.inr (.inr 3), .inl p, .inl kd, .inl fg] σ Φ := by
  have hwf := hq.W.1.1
  have hL := hq.R.L
  obtain ⟨m1, m2, m3, m4⟩ := pa_more_wf (p := p) (k := kd) (f := fg) hwf h4 hp hk hf
  have h8 := hwf.1.1
  refine pe_M_of ck168 (Nat.le_of_ble_eq_true rfl) ?_
  refine b168_0 (k := ?_)
  refine pe_M.up (k167 (d := 0) hq.R hwf hp h4 (fun σ1 g1 p1 hR1 => ?_)) (by omega)
  have hq1 := hq.law p1 (by unfold ll_Zj; omega) hR1
  have hL1 := hR1.L
  refine b168_7 (k := ?_)
  have hd : pa_doKeep h 0 1 kd fg = (pa_shw h 0 (1, (kd, fg), []), 0) := by
    unfold pa_doKeep
    rw [if_neg (by omega)]
  refine pe_M.up (k109 (d := 0) hq1.G hq1.W (by omega) (by omega) (by omega) (by omega) (fun σ2 T' s2 n2 u2 t2 hG2 => ?_)) (by omega)
  have hwk := pw_keep (D := 0) (w := 1) (kk := kd) (f := fg) hq.W.2.2
  rw [hd] at hG2 hwk ⊢
  obtain ⟨g2, p2, hq2⟩ := hq1.st (x := 1) (y := 2) m1.1.w9 s2 n2 u2 t2 (fun x hx => Or.inl hx) hG2 ⟨hq1.W.1, hq1.W.2.1, hwk⟩
  have hL2 := hq2.R.L
  refine b168_18 (k1 := fun r => absurd rfl r) (k2 := fun _ => ?_)
  refine b168_21 (k := ?_)
  have hc : pa_doComes a (pa_shw h 0 (1, (kd, fg), [])) p 0 = (pa_more a p kd fg, a.1 4) := by
    unfold pa_doComes
    have hK : pa_K (pa_shw h 0 (1, (kd, fg), [])) 0 = 0 := rfl
    rw [if_neg (by omega), hK, if_neg (by decide), if_neg (by omega)]
    rfl
  refine pe_M.up (k82 (d := 0) hq2.G hq2.W (by omega) (by omega) (fun σ3 f3 hG3 => ?_)) (by omega)
  rw [hc] at hG3 ⊢
  have hW3 : pg_W (pa_more a p kd fg) im (pa_shw h 0 (1, (kd, fg), [])) := ⟨⟨m1, by rw [m4]; exact hq.W.1.2⟩, hq.W.2.1, hwk⟩
  obtain ⟨p3, hq3⟩ := hq2.cls m1.1.w9 f3 hG3 hW3
  have hL3 := hq3.R.L
  have hcnt := hq3.R.mn
  rw [m2] at hcnt
  refine b168_30 (w0 := by rw [hcnt]; unfold pe_in; omega) (k1 := fun r => by omega) (k2 := fun _ => ?_)
  refine b168_39 (k := ?_)
  refine b168_44 (k := ?_)
  exact k σ3 g2 T' _ (ll_fz_mono (ll_fz_trans (ll_fz_trans (ll_fz_mono p1.z (fun z hz => Or.inl hz) (x' := 3) (y' := 26)) (ll_fz_mono (x' := 1) (y' := 2) p2 (fun z hz => Or.inr hz))) (ll_fz_mono (x' := 0) (y' := 0) p3 (fun z hz => Or.inr hz))) (fun _ h => h)) hq3
/-- tell -/
theorem k147 {ra : Nat} (hq : ll_Q T U σ g b a im h) (hwb : pa_wf9 b) (hr : g ra ≠ -9 ∧ g ra ≠ -7) (hK : pe_K σ ra = 10) (hLn : pe_L σ ra = 100) (hl : l.length ≤ 100) (hI : ∀ i : Nat, i < l.length → pe_I σ ra i = l.getD i 0) (hv : ∀ z ∈ l, 0 ≤ z ∧ z ≤ 127) (k : ∀ σ' g' T' U' h', (h' 7).1 = 2 → (h' 7).2.1.1 = 0 → (h' 7).2.2 = l → ll_fz (fun z => z = -7) 302 2102 σ g σ' g' → ll_Q T' U' σ' g' b (pa_doText a h' 7).1 im h' → Φ (some (.inl (pa_doText a h' 7).2)) σ') : pe_M (d + 17) 147 [.inr (.inr 3), .inr (.inr ra), .inl (l.length : Int)] σ Φ := by
  have hL := hq.R.L
  have loop : ∀ (m i : Nat) (σ1 : pe_H) (g1 : Nat → Int) (T1 U1 : Nat → Prop) (h1 : Int → pa_Sh), i + m = l.length → ll_fz (fun z => z = -7) 2 102 σ g σ1 g1 → ll_Q T1 U1 σ1 g1 b a im h1 → (h1 7).1 = 2 → (h1 7).2.1.1 = 0 → (h1 7).2.2.length = l.length → (∀ j : Nat, j < i → (h1 7).2.2.getD j 0 = l.getD j 0) → pe_X (d + 16) 147 (20, [some (.inr (.inr 3)), some (.inr (.inr ra)), some (.inl (l.length : Int)), some (.inl (i : Int))], [], σ1) Φ := by
    intro m
    induction m with
    | zero =>
      intro i σ1 g1 T1 U1 h1 hi p1 hq1 e1 e2 e3 e4
      have hL1 := hq1.R.L
      have el : (h1 7).2.2 = l := by
        refine List.ext_getElem e3 (fun j j1 j2 => ?_)
        have := e4 j (by omega)
        rw [List.getD_eq_getElem?_getD, List.getD_eq_getElem?_getD, List.getElem?_eq_getElem j1, List.getElem?_eq_getElem j2] at this
        exact this
      refine b147_20 (k1 := fun _ => ?_) (k2 := fun r => by omega)
      refine b147_51 (k := ?_)
      refine pe_M.up (k80 (d := d) hq1.G hq1.W (by omega) (fun σ2 T' s2 n2 u2 t2 hG2 => ?_)) (by omega)
      have hwt := pw_text (h := h1) (D := 7) (a := a) ⟨hq1.W.1.1, hq1.W.1.2⟩
      obtain ⟨g2, p2, hq2⟩ := hq1.st (x := 300) (y := 2000) hwb s2 n2 u2 t2 (fun x hx => Or.inl hx) hG2 ⟨⟨hwt.1, hwt.2⟩, hq1.W.2⟩
      have hL2 := hq2.R.L
      refine b147_60 (k := ?_)
      exact k σ2 g2 T' U1 h1 e1 e2 el (ll_fz_mono (ll_fz_trans p1 p2) (fun _ h => h)) hq2
    | succ m ih =>
      intro i σ1 g1 T1 U1 h1 hi p1 hq1 e1 e2 e3 e4
      have hL1 := hq1.R.L
      have sm := (p1.2 ra hr.1).2 hr.2
      have hK1 : pe_K σ1 ra = 10 := sm.1.trans hK
      have hLn1 : pe_L σ1 ra = 100 := sm.2.1.trans hLn
      have hI1 : pe_I σ1 ra i = l.getD i 0 := ((sm.2.2 i).1).trans (hI i (by omega))
      have hz := hv (l.getD i 0) (pa_getD_mem (by omega))
      refine b147_20 (k1 := fun r => by omega) (k2 := fun _ => ?_)
      refine b147_25 (k := ?_)
      rw [hI1]
      generalize hzz : l.getD i 0 = z at hz
      have hW7 : pa_W h1 7 = 0 := by
        unfold pa_W
        rw [if_neg (by omega), if_neg (by omega), if_neg (by omega)]
      have hnar : pa_nar z 0 = z := by
        unfold pa_nar
        rw [if_pos rfl]
        exact ll_i2b z hz.1 hz.2
      have hd : pa_doPut h1 7 i z = (pa_shw h1 7 (2, (h1 7).2.1, (h1 7).2.2.set i z), 0) := by
        unfold pa_doPut
        rw [hW7, if_neg (by decide), if_neg (by omega), e2, hnar]
        simp
      refine pe_M.up (k111 (d := 0) hq1.G hq1.W (by omega) (by omega) (by omega) (fun σ2 s2 n2 u2 hG2 => ?_)) (by omega)
      have hwp := pw_put (D := 7) (i := i) (v := z) hq1.W.2.2
      rw [hd] at hG2 hwp ⊢
      obtain ⟨g2, p2, hq2⟩ := hq1.st (x := 0) (y := 0) hwb s2 (Nat.le_of_eq n2) (Nat.le_of_eq u2) (fun x hx => Or.inl hx) (fun x hx => Or.inl hx) hG2 ⟨hq1.W.1, hq1.W.2.1, hwp⟩
      have hL2 := hq2.R.L
      refine b147_38 (k1 := fun _ => ?_) (k2 := fun r => absurd rfl r)
      refine b147_45 (k := ?_)
      have h7 : pa_shw h1 7 (2, (h1 7).2.1, (h1 7).2.2.set i z) 7 = (2, (h1 7).2.1, (h1 7).2.2.set i z) := if_pos rfl
      refine ih (i + 1) σ2 g2 T1 U1 (pa_shw h1 7 (2, (h1 7).2.1, (h1 7).2.2.set i z)) (by omega) (ll_fz_mono (ll_fz_trans p1 p2) (fun _ h => h)) hq2 (by rw [h7]) (by rw [h7]; exact e2) (by rw [h7]; show ((h1 7).2.2.set i z).length = l.length; rw [List.length_set]; exact e3) (fun j hj => ?_)
      rw [h7]
      show ((h1 7).2.2.set i z).getD j 0 = l.getD j 0
      rw [List.getD_eq_getElem?_getD, List.getElem?_set]
      by_cases ej : i = j
      · rw [if_pos ej, if_pos (by omega), ← ej, hzz]
        rfl
      · rw [if_neg ej, ← List.getD_eq_getElem?_getD]
        exact e4 j (by omega)
  refine pe_M_of ck147 (Nat.le_of_ble_eq_true rfl) ?_
  refine b147_0 (k := ?_)
  have hd : pa_doRow h 7 0 l.length = (pa_shw h 7 (2, (0, 0), List.replicate l.length 0), 0) := by
    unfold pa_doRow
    rw [if_neg (by omega), if_neg (by omega)]
    simp
  refine pe_M.up (k110 (d := 0) hq.G hq.W (by omega) (by omega) (by omega) (fun σ2 T' U' s2 n2 u2 t2 v2 hG2 => ?_)) (by omega)
  have hwr := pw_row (D := 7) (w := 0) (n := (l.length : Int)) hq.W.2.2
  rw [hd] at hG2 hwr ⊢
  obtain ⟨g2, p2, hq2⟩ := hq.st (x := 2) (y := 102) hwb s2 n2 u2 t2 v2 hG2 ⟨hq.W.1, hq.W.2.1, hwr⟩
  have hL2 := hq2.R.L
  refine b147_11 (k1 := fun _ => ?_) (k2 := fun r => absurd rfl r)
  refine b147_18 (k := ?_)
  exact loop l.length 0 σ2 g2 T' U' _ (by omega) p2 hq2 rfl rfl (by show (List.replicate l.length (0 : Int)).length = l.length; simp) (fun j hj => absurd hj (Nat.not_lt_zero _))
end
