/-! THE MODEL: runs by lot, the image -/
def pa_dr (z : Int) : Int := z * 1103515245 + 12345
def pa_dv (z b : Int) : Int := Int.tmod (Int.tdiv (pe_and z 2147483647) 65536) b
noncomputable def pa_lot : Nat → pa_M → Int → pa_M × Int
  | 0, s, z => (s, z)
  | m + 1, s, z => pa_lot m (if (s.2.1 (pa_dv (pa_dr z) (s.1 4))).1 2 ≤ 2 then pa_send s (pa_dv (pa_dr z) (s.1 4)) (pa_dv (pa_dr (pa_dr z)) 100) else s) (pa_dr (pa_dr z))
noncomputable def pa_lotR (a : pa_M) (z : Int) : pa_M := pa_rounds 5 (pa_lot 6 a z).1
noncomputable def pa_lotsN (a : pa_M) (x : Int) : Nat → Int → Int → Int
  | 0, _, v => v
  | m + 1, z, v => pa_lotsN a x m (pa_lot 6 a z).2 (v + (if x = 0 then pa_outs (pa_lotR a z) - pa_outs a else pb_c (pa_bits (pa_isEnd (pa_lotR a z)) ((pa_lotR a z).1 4).toNat)))
noncomputable def pa_aLots (a : pa_M) (n z x : Int) : Int := if ¬ ((1 ≤ n ∧ n ≤ 20) ∧ 0 ≤ x ∧ x ≤ 1) then -1 else if a.1 4 = 0 then 0 else pa_lotsN a x n.toNat z 0
def pa_doRestore (a : pa_M) (im : Option pa_M) : pa_M × Int := match im with
  | none => (a, -3)
  | some b => (b, b.1 6)
theorem pe_and_max (x : Int) : 0 ≤ pe_and x 2147483647 ∧ pe_and x 2147483647 ≤ 2147483647 := by
  have e : (Int32.ofInt 2147483647).toBitVec.toNat = 2147483647 := by decide +kernel
  have h : ((Int32.ofInt x) &&& (Int32.ofInt 2147483647)).toBitVec.toNat ≤ 2147483647 := by
    rw [Int32.toBitVec_and, BitVec.toNat_and, e]
    exact Nat.and_le_right
  have h2 : ((Int32.ofInt x) &&& (Int32.ofInt 2147483647)).toInt = (((Int32.ofInt x) &&& (Int32.ofInt 2147483647)).toBitVec.toNat : Int) := by
    show BitVec.toInt _ = _
    rw [BitVec.toInt_eq_toNat_cond, if_pos (by omega)]
  unfold pe_and
  rw [h2]
  omega
theorem pa_dv_b {z b : Int} (hb : 0 < b) : 0 ≤ pa_dv z b ∧ pa_dv z b < b := by
  have h := pe_and_max z
  unfold pa_dv
  rw [Int.tdiv_eq_ediv_of_nonneg h.1, Int.tmod_eq_emod_of_nonneg (by omega)]
  exact ⟨Int.emod_nonneg _ (by omega), Int.emod_lt_of_pos _ hb⟩
section
variable {d M q : Nat} {Φ : Option pe_V → pe_H → Prop} {σ : pe_H} {y : Nat → Int → Int} {a s : pa_M} {c n : Int} {im : Option pa_M}
end

