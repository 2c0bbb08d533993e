/-! THE MODEL: sendBest, firstOut, two -/
noncomputable def pa_sbN (a : pa_M) (c : Int) : Nat → Int → Int × Int → Int × Int
  | 0, _, b => b
  | m + 1, v, b => pa_sbN a c m (v + 1) (if b.2 < ((pa_send a c v).2.1 c).1 4 then (v, ((pa_send a c v).2.1 c).1 4) else b)
noncomputable def pa_aSendBest (a : pa_M) (c x : Int) : Int := if ¬ ((0 ≤ c ∧ c < a.1 4) ∧ 0 ≤ x ∧ x ≤ 1) then -1 else if 2 < (a.2.1 c).1 2 then -3 else if x = 0 then (pa_sbN a c 21 0 (0, -4)).1 else (pa_sbN a c 21 0 (0, -4)).2
/-- the lowest bit, of m from c on -/
def pa_low (b : Int) : Nat → Int → Int
  | 0, _ => -4
  | m + 1, c => if pb_h b c.toNat = true then c else pa_low b m (c + 1)
noncomputable def pa_foN : Nat → pa_M → Int
  | 0, _ => -4
  | m + 1, s => if 0 ≤ pa_low (pa_ry s 0) (s.1 4).toNat 0 then pa_low (pa_ry s 0) (s.1 4).toNat 0 else pa_foN m (pa_round s)
noncomputable def pa_cif (s : pa_M) (c b : Int) : pa_M := if b = 1 ∧ (s.2.1 c).1 2 < 6 then pa_shut s c else s
def pa_gain (s : pa_M) (c o b : Int) : Int := (s.2.1 c).1 5 - 2 * b - (if (s.2.1 o).1 2 = 7 then 6 else 0)
noncomputable def pa_twoS (a : pa_M) (x z n p : Int) : pa_M := pa_rounds n.toNat (pa_cif (pa_cif a x (p / 2)) z (p % 2))
noncomputable def pa_g1 (a : pa_M) (x z n p : Int) : Int := pa_gain (pa_twoS a x z n p) x z (p / 2)
noncomputable def pa_g2 (a : pa_M) (x z n p : Int) : Int := pa_gain (pa_twoS a x z n p) z x (p % 2)
def pa_twoF (g1 g2 : Int → Int) : Nat → Int → Int
  | 0, _ => -4
  | m + 1, p => if g1 (2 * (1 - p / 2) + p % 2) ≤ g1 p ∧ g2 (2 * (p / 2) + 1 - p % 2) ≤ g2 p then 10 * (p / 2) + p % 2 else pa_twoF g1 g2 m (p + 1)
noncomputable def pa_aTwo (a : pa_M) (x z n : Int) : Int := if ¬ ((0 ≤ x ∧ x < a.1 4) ∧ (0 ≤ z ∧ z < a.1 4) ∧ x ≠ z ∧ 0 ≤ n ∧ n ≤ 40) then -1 else if 6 ≤ (a.2.1 x).1 2 ∨ 6 ≤ (a.2.1 z).1 2 then -3 else pa_twoF (pa_g1 a x z n) (pa_g2 a x z n) 4 0
theorem pa_low_b (b : Int) : ∀ (m : Nat) (c : Int), 0 ≤ c → pa_low b m c = -4 ∨ (c ≤ pa_low b m c ∧ pa_low b m c < c + m)
  | 0, _, _ => Or.inl rfl
  | m + 1, c, h => by
    unfold pa_low
    split
    · right; push_cast; omega
    · have := pa_low_b b m (c + 1) (by omega)
      push_cast; omega
theorem pa_gy_255 : ∀ (l : List Int) (s : pa_M) (y : Int), (∀ c ∈ l, 0 ≤ c ∧ c < 8) → 0 ≤ y → y ≤ 255 → 0 ≤ (l.foldl pa_gy (s, y)).2 ∧ (l.foldl pa_gy (s, y)).2 ≤ 255
  | [], _, _, _, h0, h1 => ⟨h0, h1⟩
  | c :: l, s, y, h, h0, h1 => by
    have hc := h c List.mem_cons_self
    have h2 := pb_or_255 (c := c.toNat) h0 h1 (by omega)
    rw [show ((c.toNat : Nat) : Int) = c by omega] at h2
    rw [List.foldl_cons]
    by_cases q : ((pa_st1 (pa_cw s c (pa_take (pa_young (s.2.1 c)) 0)) c false).2.1 c).1 2 = 2
    · have e : pa_gy (s, y) c = (pa_go s c, pe_or y (pe_shl 1 c)) := by unfold pa_gy; rw [if_pos q]
      rw [e]
      exact pa_gy_255 l _ _ (fun x hx => h x (List.mem_cons_of_mem _ hx)) h2.1 h2.2
    · have e : pa_gy (s, y) c = (pa_go s c, y) := by unfold pa_gy; rw [if_neg q]
      rw [e]
      exact pa_gy_255 l _ _ (fun x hx => h x (List.mem_cons_of_mem _ hx)) h0 h1
theorem pa_ry_255 {a : pa_M} (h : pa_wf a) : 0 ≤ pa_ry a 0 ∧ pa_ry a 0 ≤ 255 := by
  have h8 := h.1.1
  refine pa_gy_255 _ _ _ (fun c hc => ?_) (by decide) (by decide)
  have := ((pa_line_mem h8.1 c).mp (List.mem_of_mem_take hc)).1
  omega
section
variable {d M q : Nat} {Φ : Option pe_V → pe_H → Prop} {σ : pe_H} {y : Nat → Int → Int} {a : pa_M} {c n : Int}
theorem pa_gain_b {o b : Int} (hwf : pa_wf0 a) (h0 : 0 ≤ c) (h1 : c < a.1 4) (hb : b = 0 ∨ b = 1) : -100 ≤ pa_gain a c o b ∧ pa_gain a c o b ≤ 1000 := by
  have := (hwf.2.2.1 c h0 h1).1.2.2.2.2.1
  unfold pa_gain
  split <;> omega
end

