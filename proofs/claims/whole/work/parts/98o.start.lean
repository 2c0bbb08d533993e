/-! THE START: the script's cell, and nothing else known -/
theorem lw_h9 {s : State} {scr : Cell} (h : s.isArrayOf scr .int) : ArrOfT s scr.cls .int := fun N z => ⟨(fun k h => by cases h), h.2⟩
theorem lw_Hd0 {D : va_G} {cA : Nat → ClassId} {b L : Nat} {xs : Nat → Int32} {s : State} {scr : Cell} (hb : b < s.heap.size) (h1 : s.heap[b]? = some scr) (h9 : cA 9 = scr.cls) (hof : s.isArrayOf scr .int) (hk : scr.vm ≠ .unknown) (hz : scr.slots.size = L) (hv : ∀ j : Nat, j < L → scr.slots[j]? = some (.int (xs j))) : pe_Hd D cA b s.heap.size s.heap (lw_s0 L xs) s.heap := by
  have hK : ∀ r, pe_K (lw_s0 L xs) r = if r = 1 then 10 else 99 := fun _ => rfl
  have hK1 : pe_K (lw_s0 L xs) 1 = 10 := rfl
  refine ⟨hb, Nat.le_refl _, rfl, fun _ _ => rfl, rfl, fun r hr => ?_⟩
  have e : r = 1 := by
    by_cases q : r = 1
    · exact q
    · rw [hK, if_neg q] at hr
      omega
  subst e
  have had : pe_ad b s.heap.size 1 = b := if_pos rfl
  refine ⟨by omega, Nat.le_refl 2, fun h => by rw [hK1] at h; omega, fun _ => ⟨scr, by rw [had]; exact h1, h9.symm, hk, hof.1, by rw [hz]; rfl, fun j hj => ?_⟩⟩
  rw [hv j (by omega)]
  have e1 : pe_I (lw_s0 L xs) 1 j = (xs (j : Int).toNat).toInt := rfl
  rw [e1, Int.toNat_natCast]
  show some (Value.int (xs j)) = some (Value.int (Int32.ofInt (xs j).toInt))
  rw [Int32.ofInt_toInt]
