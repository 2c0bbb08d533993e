/-! THE MODEL: bits, who is ahead -/
def pb_h (x : Int) (c : Nat) : Bool := (Int32.ofInt x).toBitVec.getLsbD c
theorem pb_h_and (x y : Int) (c : Nat) : pb_h (pe_and x y) c = (pb_h x c && pb_h y c) := by
  unfold pb_h pe_and
  rw [Int32.ofInt_toInt, Int32.toBitVec_and, BitVec.getLsbD_and]
theorem pb_h_or (x y : Int) (c : Nat) : pb_h (pe_or x y) c = (pb_h x c || pb_h y c) := by
  unfold pb_h pe_or
  rw [Int32.ofInt_toInt, Int32.toBitVec_or, BitVec.getLsbD_or]
theorem pb_h_xor (x y : Int) (c : Nat) : pb_h (pe_xor x y) c = Bool.xor (pb_h x c) (pb_h y c) := by
  unfold pb_h pe_xor
  rw [Int32.ofInt_toInt, Int32.toBitVec_xor, BitVec.getLsbD_xor]
theorem pb_h_m1 : ∀ c : Fin 32, pb_h (-1) c.val = true := by decide +kernel
theorem pb_h_shl : ∀ c : Fin 8, ∀ i : Fin 8, pb_h (pe_shl 1 (c.val : Int)) i.val = decide (i.val = c.val) := by decide +kernel
theorem pb_h_get : ∀ x : Fin 256, ∀ c : Fin 8, (pe_and (pe_shr (x.val : Int) (c.val : Int)) 1 = if pb_h (x.val : Int) c.val = true then 1 else 0) := by decide +kernel
theorem pb_h_0 : ∀ x : Fin 256, (∀ c : Fin 8, pb_h (x.val : Int) c.val = false) → (x.val : Int) = 0 := by decide +kernel
theorem pb_or_r : ∀ x : Fin 256, ∀ c : Fin 8, 0 ≤ pe_or (x.val : Int) (pe_shl 1 (c.val : Int)) ∧ pe_or (x.val : Int) (pe_shl 1 (c.val : Int)) ≤ 255 := by decide +kernel
theorem pb_fin {x : Int} (h0 : 0 ≤ x) (h1 : x ≤ 255) : ∃ u : Fin 256, (u.val : Int) = x := ⟨⟨x.toNat, by omega⟩, by show (x.toNat : Int) = x; omega⟩
theorem pb_or_255 {x : Int} {c : Nat} (h0 : 0 ≤ x) (h1 : x ≤ 255) (hc : c < 8) : 0 ≤ pe_or x (pe_shl 1 (c : Int)) ∧ pe_or x (pe_shl 1 (c : Int)) ≤ 255 := by
  obtain ⟨u, rfl⟩ := pb_fin h0 h1
  exact pb_or_r u ⟨c, hc⟩
theorem pb_and_255 {x y : Int} (h0 : 0 ≤ x) (h1 : x ≤ 255) : 0 ≤ pe_and x y ∧ pe_and x y ≤ 255 := by
  have e : (Int32.ofInt x).toBitVec.toNat = x.toNat := by
    obtain ⟨u, rfl⟩ := pb_fin h0 h1
    revert u
    decide +kernel
  have h : ((Int32.ofInt x) &&& (Int32.ofInt y)).toBitVec.toNat ≤ 255 := by
    rw [Int32.toBitVec_and, BitVec.toNat_and, e]
    exact Nat.le_trans Nat.and_le_left (by omega)
  have h2 : ((Int32.ofInt x) &&& (Int32.ofInt y)).toInt = (((Int32.ofInt x) &&& (Int32.ofInt y)).toBitVec.toNat : Int) := by
    show BitVec.toInt _ = _
    rw [BitVec.toInt_eq_toNat_cond, if_pos (by omega)]
  unfold pe_and
  rw [h2]
  omega
theorem pb_zero {x : Int} (h0 : 0 ≤ x) (h1 : x ≤ 255) (h : ∀ c : Nat, c < 8 → pb_h x c = false) : x = 0 := by
  obtain ⟨u, rfl⟩ := pb_fin h0 h1
  exact pb_h_0 u (fun c => h c.val c.isLt)
theorem pb_h_zero (c : Nat) : pb_h 0 c = false := by
  unfold pb_h
  show (BitVec.getLsbD (0#32) c) = false
  exact BitVec.getLsbD_zero
theorem pb_h_bits (p : Int → Bool) : ∀ (n : Nat), n ≤ 8 → ∀ c : Nat, c < 8 → pb_h (pa_bits p n) c = (decide (c < n) && p (c : Int))
  | 0, _, c, _ => by
    show pb_h 0 c = _
    rw [pb_h_zero]; simp
  | n + 1, hn, c, hc => by
    have ih := pb_h_bits p n (by omega) c hc
    have hb := pa_bits_b p n
    unfold pa_bits
    cases hp : p (n : Int) with
    | true =>
      rw [if_pos rfl, ← (pb_or (by omega) hb.1 hb.2).1, pb_h_or, ih, pb_h_shl ⟨n, by omega⟩ ⟨c, hc⟩]
      by_cases e : c = n
      · subst e; simp [hp]
      · have : (c < n + 1) ↔ c < n := by omega
        simp [e, this]
    | false =>
      rw [if_neg (by simp), Int.add_zero, ih]
      by_cases e : c = n
      · subst e; simp [hp]
      · have : (c < n + 1) ↔ c < n := by omega
        simp [this]
/-- in the line one comes before another -/
def pa_bef (rk : Int → Int) (x y : Int) : Prop := rk y < rk x ∨ (rk y = rk x ∧ x < y)
theorem pa_ins_bef (rk : Int → Int) (c : Int) : ∀ (L : List Int), (∀ h ∈ L, h < c) → L.Pairwise (pa_bef rk) → (pa_ins rk c L).Pairwise (pa_bef rk)
  | [], _, _ => by simp [pa_ins]
  | h :: t, hc, hp => by
    have hp2 := List.pairwise_cons.mp hp
    have hh := hc h List.mem_cons_self
    unfold pa_ins
    split
    · rename_i q
      refine List.pairwise_cons.mpr ⟨fun z hz => ?_, hp⟩
      rcases List.mem_cons.mp hz with e | e
      · subst e; exact Or.inl q
      · have := hp2.1 z e
        unfold pa_bef at this ⊢
        omega
    · rename_i q
      refine List.pairwise_cons.mpr ⟨fun z hz => ?_, pa_ins_bef rk c t (fun x hx => hc x (List.mem_cons_of_mem _ hx)) hp2.2⟩
      rcases (pa_ins_mem rk c t z).mp hz with e | e
      · subst e
        unfold pa_bef
        omega
      · exact hp2.1 z e
theorem pa_lineN_bef (a : pa_M) : ∀ n : Nat, (pa_lineN a n).Pairwise (pa_bef (pa_rk a))
  | 0 => List.Pairwise.nil
  | n + 1 => by
    have ih := pa_lineN_bef a n
    unfold pa_lineN
    split
    · exact pa_ins_bef _ _ _ (fun h hh => ((pa_lineN_mem a n h).mp hh).1.2) ih
    · exact ih
section
variable {d M q : Nat} {Φ : Option pe_V → pe_H → Prop} {σ : pe_H} {y y' : Nat → Int → Int} {c n : Int} {a : pa_M}
theorem pa_weight_b {k f : Int} (hf : 0 ≤ f ∧ f ≤ 9) : -9 ≤ pa_weight k f ∧ pa_weight k f ≤ 11 := by
  unfold pa_weight
  split
  · omega
  split
  · omega
  split
  · omega
  split
  · rw [Int.neg_tdiv, Int.tdiv_eq_ediv_of_nonneg hf.1]; omega
  · omega
end

