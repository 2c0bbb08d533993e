/-! THE MODEL: stuck, leastWidth, closeBest -/
noncomputable def pa_stuckN : Nat → Int → pa_M → Int × Int
  | 0, _, _ => (-4, -4)
  | m + 1, i, s => if pa_line s = [] then (i, pe_and (pe_shl 1 (s.1 4) - 1) (pe_xor (pa_bits (pa_isEnd s) (s.1 4).toNat) (-1))) else pa_stuckN m (i + 1) (pa_round s)
noncomputable def pa_aStuck (a : pa_M) (x : Int) : Int := if ¬ (0 ≤ x ∧ x ≤ 1) then -1 else if x = 0 then (pa_stuckN 61 0 a).1 else (pa_stuckN 61 0 a).2
def pa_wid (a : pa_M) (w : Int) : pa_M := (pa_s a.1 5 w, a.2)
noncomputable def pa_lwR (a : pa_M) (n w : Int) : pa_M := pa_rounds n.toNat (pa_wid a w)
noncomputable def pa_lwN (a : pa_M) (n : Int) : Nat → Int → Int
  | 0, _ => -4
  | m + 1, w => if pb_c (pa_bits (pa_isEnd (pa_lwR a n w)) ((pa_lwR a n w).1 4).toNat) = (pa_lwR a n w).1 4 then w else pa_lwN a n m (w + 1)
noncomputable def pa_aLeast (a : pa_M) (n : Int) : Int := if ¬ (0 ≤ n ∧ n ≤ 60) then -1 else pa_lwN a n 8 1
/-- how many are done but for one -/
def pa_don (s : pa_M) (c : Int) : Int := pa_cnt (fun o => !decide (o = c) && pa_isDone s o) (s.1 4).toNat
noncomputable def pa_cbN (a : pa_M) (n : Int) : Nat → Int → Int → Int → Int
  | 0, _, b, _ => b
  | m + 1, c, b, t => if (a.2.1 c).1 2 < 6 ∧ pa_don (pa_rounds n.toNat a) c < pa_don (pa_rounds n.toNat (pa_shut a c)) c ∧ t < pa_don (pa_rounds n.toNat (pa_shut a c)) c then pa_cbN a n m (c + 1) c (pa_don (pa_rounds n.toNat (pa_shut a c)) c) else pa_cbN a n m (c + 1) b t
noncomputable def pa_aCloseBest (a : pa_M) (n : Int) : Int := if ¬ (0 ≤ n ∧ n ≤ 40) then -1 else pa_cbN a n (a.1 4).toNat 0 (-4) (-1)
section
variable {d M q : Nat} {Φ : Option pe_V → pe_H → Prop} {σ : pe_H} {y : Nat → Int → Int} {a : pa_M} {c n : Int}
theorem pa_wid_wf {w : Int} (h : pa_wf a) (h1 : 1 ≤ w) (h8 : w ≤ 8) : pa_wf (pa_wid a w) := ⟨⟨h.1.1, ⟨h1, h8⟩, h.1.2.2⟩, h.2⟩
end

