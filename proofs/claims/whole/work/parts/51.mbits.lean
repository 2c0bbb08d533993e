/-! THE MODEL: bits, who is ahead -/
def pb_h (x : Int) (c : Nat) : Bool := (Int32.ofInt x).toBitVec.getLsbD c
theorem pb_h_and (x y : Int) (c : Nat) : pb_h (pe_and x y) c = (pb_h x c && pb_h y c) := by
  unfold pb_h pe_and
  rw [Int32.ofInt_toInt, Int32.toBitVec_and, BitVec.getLsbD_and]
theorem pb_h_or (x y : Int) (c : Nat) : pb_h (pe_or x y) c = (pb_h x c || pb_h y c) := by
  unfold pb_h pe_or
  rw [Int32.ofInt_toInt, Int32.toBitVec_or, BitVec.getLsbD_or]
theorem pb_h_xor (x y : Int) (c : Nat) : pb_h (pe_xor x y) c = Bool.xor (pb_h x c) (pb_h y c) := by
  unfold pb_h pe_xor
  rw [Int32.ofInt_toInt, Int32.toBitVec_xor, BitVec.getLsbD_xor]
theorem pb_h_m1 : ∀ c : Fin 32, pb_h (-1) c.val = true := by decide +kernel
theorem pb_h_shl : ∀ c : Fin 8, ∀ i : Fin 8, pb_h (pe_shl 1 (c.val : Int)) i.val = decide (i.val = c.val) := by decide +kernel
theorem pb_h_get : ∀ x : Fin 256, ∀ c : Fin 8, (pe_and (pe_shr (x.val : Int) (c.val : Int)) 1 = if pb_h (x.val : Int) c.val = true then 1 else 0) := by decide +kernel
theorem pb_h_0 : ∀ x : Fin 256, (∀ c : Fin 8, pb_h (x.val : Int) c.val = false) → (x.val : Int) = 0 := by decide +kernel
theorem pb_or_r : ∀ x : Fin 256, ∀ c : Fin 8, 0 ≤ pe_or (x.val : Int) (pe_shl 1 (c.val : Int)) ∧ pe_or (x.val : Int) (pe_shl 1 (c.val : Int)) ≤ 255 := by decide +kernel
theorem pb_fin {x : Int} (h0 : 0 ≤ x) (h1 : x ≤ 255) : ∃ u : Fin 256, (u.val : Int) = x := ⟨⟨x.toNat, by omega⟩, by show (x.toNat : Int) = x; omega⟩
theorem pb_or_255 {x : Int} {c : Nat} (h0 : 0 ≤ x) (h1 : x ≤ 255) (hc : c < 8) : 0 ≤ pe_or x (pe_shl 1 (c : Int)) ∧ pe_or x (pe_shl 1 (c : Int)) ≤ 255 := by
  obtain ⟨u, rfl⟩ := pb_fin h0 h1
  exact pb_or_r u ⟨c, hc⟩
theorem pb_and_255 {x y : Int} (h0 : 0 ≤ x) (h1 : x ≤ 255) : 0 ≤ pe_and x y ∧ pe_and x y ≤ 255 := by
  have e : (Int32.ofInt x).toBitVec.toNat = x.toNat := by
    obtain ⟨u, rfl⟩ := pb_fin h0 h1
    revert u
    decide +kernel
  have h : ((Int32.ofInt x) &&& (Int32.ofInt y)).toBitVec.toNat ≤ 255 := by
    rw [Int32.toBitVec_and, BitVec.toNat_and, e]
    exact Nat.le_trans Nat.and_le_left (by omega)
  have h2 : ((Int32.ofInt x) &&& (Int32.ofInt y)).toInt = (((Int32.ofInt x) &&& (Int32.ofInt y)).toBitVec.toNat : Int) := by
    show BitVec.toInt _ = _
    rw [BitVec.toInt_eq_toNat_cond, if_pos (by omega)]
  unfold pe_and
  rw [h2]
  omega
theorem pb_zero {x : Int} (h0 : 0 ≤ x) (h1 : x ≤ 255) (h : ∀ c : Nat, c < 8 → pb_h x c = false) : x = 0 := by
  obtain ⟨u, rfl⟩ := pb_fin h0 h1
  exact pb_h_0 u (fun c => h c.val c.isLt)
theorem pb_h_zero (c : Nat) : pb_h 0 c = false := by
  unfold pb_h
  show (BitVec.getLsbD (0#32) c) = false
  exact BitVec.getLsbD_zero
theorem pb_h_bits (p : Int → Bool) : ∀ (n : Nat), n ≤ 8 → ∀ c : Nat, c < 8 → pb_h (pa_bits p n) c = (decide (c < n) && p (c : Int))
  | 0, _, c, _ => by
    show pb_h 0 c = _
    rw [pb_h_zero]; simp
  | n + 1, hn, c, hc => by
    have ih := pb_h_bits p n (by omega) c hc
    have hb := pa_bits_b p n
    unfold pa_bits
    cases hp : p (n : Int) with
    | true =>
      rw [if_pos rfl, ← (pb_or (by omega) hb.1 hb.2).1, pb_h_or, ih, pb_h_shl ⟨n, by omega⟩ ⟨c, hc⟩]
      by_cases e : c = n
      · subst e; simp [hp]
      · have : (c < n + 1) ↔ c < n := by omega
        simp [e, this]
    | false =>
      rw [if_neg (by simp), Int.add_zero, ih]
      by_cases e : c = n
      · subst e; simp [hp]
      · have : (c < n + 1) ↔ c < n := by omega
        simp [this]
/-- in the line one comes before another -/
def pa_bef (rk : Int → Int) (x y : Int) : Prop := rk y < rk x ∨ (rk y = rk x ∧ x < y)
theorem pa_ins_bef (rk : Int → Int) (c : Int) : ∀ (L : List Int), (∀ h ∈ L, h < c) → L.Pairwise (pa_bef rk) → (pa_ins rk c L).Pairwise (pa_bef rk)
  | [], _, _ => by simp [pa_ins]
  | h :: t, hc, hp => by
    have hp2 := List.pairwise_cons.mp hp
    have hh := hc h List.mem_cons_self
    unfold pa_ins
    split
    · rename_i q
      refine List.pairwise_cons.mpr ⟨fun z hz => ?_, hp⟩
      rcases List.mem_cons.mp hz with e | e
      · subst e; exact Or.inl q
      · have := hp2.1 z e
        unfold pa_bef at this ⊢
        omega
    · rename_i q
      refine List.pairwise_cons.mpr ⟨fun z hz => ?_, pa_ins_bef rk c t (fun x hx => hc x (List.mem_cons_of_mem _ hx)) hp2.2⟩
      rcases (pa_ins_mem rk c t z).mp hz with e | e
      · subst e
        unfold pa_bef
        omega
      · exact hp2.1 z e
theorem pa_lineN_bef (a : pa_M) : ∀ n : Nat, (pa_lineN a n).Pairwise (pa_bef (pa_rk a))
  | 0 => List.Pairwise.nil
  | n + 1 => by
    have ih := pa_lineN_bef a n
    unfold pa_lineN
    split
    · exact pa_ins_bef _ _ _ (fun h hh => ((pa_lineN_mem a n h).mp hh).1.2) ih
    · exact ih
section
variable {d M q : Nat} {Φ : Option pe_V → pe_H → Prop} {σ : pe_H} {y y' : Nat → Int → Int} {c n : Int} {a : pa_M}
/-- hasBit -/
theorem c135 {x : Int} (hF : pm_F M σ) (h0 : 0 ≤ x) (h1 : x ≤ 255) (hc0 : 0 ≤ c) (hc8 : c < 8) (k1 : pb_h x c.toNat = true → Φ (some (.inl 1)) (pm_h M σ q y)) (k0 : pb_h x c.toNat = false → Φ (some (.inl 0)) (pm_h M σ q y)) : pe_M (d + 1) 135 [.inl x, .inl c] (pm_h M σ q y) Φ := by
  have e : pe_and (pe_shr x c) 1 = if pb_h x c.toNat = true then 1 else 0 := by
    obtain ⟨u, rfl⟩ := pb_fin h0 h1
    have ec : ((c.toNat : Nat) : Int) = c := by omega
    have := pb_h_get u ⟨c.toNat, by omega⟩
    dsimp only at this
    rw [ec] at this
    exact this
  refine pe_M_of ck135 (Nat.le_of_ble_eq_true rfl) ?_
  refine b135_0 hF (w0 := by rw [e]; unfold pe_in; split <;> omega) (k1 := fun r => ?_) (k2 := fun r => ?_)
  · refine b135_13 hF (k := ?_)
    refine b135_14 hF (k := ?_)
    refine k0 ?_
    rw [e] at r
    cases hb : pb_h x c.toNat with
    | true => rw [hb] at r; simp at r
    | false => rfl
  · refine b135_9 hF (k := ?_)
    refine b135_14 hF (k := ?_)
    refine k1 ?_
    rw [e] at r
    cases hb : pb_h x c.toNat with
    | true => rfl
    | false => rw [hb] at r; simp at r
/-- weightOf -/
theorem c142 (hF : pm_F M σ) (h0 : 0 ≤ c) (h8 : c < 8) (hk : 0 ≤ y 5 c ∧ y 5 c ≤ 5) (hf : 0 ≤ y 6 c ∧ y 6 c ≤ 9) (k : Φ (some (.inl (pa_weight (y 5 c) (y 6 c)))) (pm_h M σ q y)) : pe_M (d + 1) 142 [.inr (.inr M), .inl c] (pm_h M σ q y) Φ := by
  unfold pa_weight at k
  refine pe_M_of ck142 (Nat.le_of_ble_eq_true rfl) ?_
  refine b142_0 hF (k0 := fun r => ?_) (k1 := fun r => ?_) (k2 := fun r => ?_) (k3 := fun r => ?_) (kd := fun r0 r1 r2 r3 => ?_)
  · rw [if_pos r] at k
    exact b142_36 hF (k := k)
  · rw [if_neg (by omega), if_pos r] at k
    exact b142_43 hF (k := k)
  · rw [if_neg (by omega), if_neg (by omega), if_pos r] at k
    exact b142_51 hF (k := k)
  · rw [if_neg (by omega), if_neg (by omega), if_neg (by omega), if_pos r, Int.neg_tdiv] at k
    exact b142_60 hF (k := k)
  · rw [if_neg (by omega), if_neg (by omega), if_neg (by omega), if_neg (by omega)] at k
    exact b142_70 hF (k := k)
theorem pa_weight_b {k f : Int} (hf : 0 ≤ f ∧ f ≤ 9) : -9 ≤ pa_weight k f ∧ pa_weight k f ≤ 11 := by
  unfold pa_weight
  split
  · omega
  split
  · omega
  split
  · omega
  split
  · rw [Int.neg_tdiv, Int.tdiv_eq_ediv_of_nonneg hf.1]; omega
  · omega
def pm_rk (y : Nat → Int → Int) (c : Int) : Int := y 11 c + pa_weight (y 5 c) (y 6 c)
/-- isAhead -/
theorem c168 {o : Int} (hF : pm_F M σ) (h0 : 0 ≤ c) (h8 : c < 8) (ho0 : 0 ≤ o) (ho8 : o < 8) (hk : ∀ i, i = c ∨ i = o → (0 ≤ y 5 i ∧ y 5 i ≤ 5) ∧ (0 ≤ y 6 i ∧ y 6 i ≤ 9) ∧ (0 ≤ y 11 i ∧ y 11 i ≤ 999)) (k1 : pa_bef (pm_rk y) c o → Φ (some (.inl 1)) (pm_h M σ q y)) (k0 : ¬ pa_bef (pm_rk y) c o → Φ (some (.inl 0)) (pm_h M σ q y)) : pe_M (d + 2) 168 [.inr (.inr M), .inl c, .inl o] (pm_h M σ q y) Φ := by
  obtain ⟨c1, c2, c3⟩ := hk c (Or.inl rfl)
  obtain ⟨o1, o2, o3⟩ := hk o (Or.inr rfl)
  have wc := pa_weight_b (k := y 5 c) c2
  have wo := pa_weight_b (k := y 5 o) o2
  unfold pa_bef pm_rk at k1 k0
  have h44 : ∀ o3 o4, (y 11 o + pa_weight (y 5 o) (y 6 o) < y 11 c + pa_weight (y 5 c) (y 6 c) ∨ y 11 o + pa_weight (y 5 o) (y 6 o) = y 11 c + pa_weight (y 5 c) (y 6 c) ∧ c < o) → pe_X (d + 1) 168 (44, [some (.inr (.inr M)), some (.inl c), some (.inl o), o3, o4], [], pm_h M σ q y) Φ := fun o3 o4 h => by
    refine b168_44 hF (k := ?_)
    refine b168_49 hF (k := ?_)
    exact k1 h
  have h48 : ∀ o3 o4, ¬ (y 11 o + pa_weight (y 5 o) (y 6 o) < y 11 c + pa_weight (y 5 c) (y 6 c) ∨ y 11 o + pa_weight (y 5 o) (y 6 o) = y 11 c + pa_weight (y 5 c) (y 6 c) ∧ c < o) → pe_X (d + 1) 168 (48, [some (.inr (.inr M)), some (.inl c), some (.inl o), o3, o4], [], pm_h M σ q y) Φ := fun o3 o4 h => by
    refine b168_48 hF (k := ?_)
    refine b168_49 hF (k := ?_)
    exact k0 h
  refine pe_M_of ck168 (Nat.le_of_ble_eq_true rfl) ?_
  refine b168_0 hF (k := ?_)
  refine c142 hF h0 h8 c1 c2 ?_
  refine b168_11 hF (k := ?_)
  refine c142 hF ho0 ho8 o1 o2 ?_
  generalize pa_weight (y 5 c) (y 6 c) = W at *
  generalize pa_weight (y 5 o) (y 6 o) = V at *
  refine b168_24 hF (k1 := fun r => ?_) (k2 := fun r => ?_)
  · exact h44 _ _ (by omega)
  · refine b168_33 hF (k1 := fun r2 => ?_) (k2 := fun r2 => ?_)
    · exact h48 _ _ (by omega)
    · refine b168_39 hF (k1 := fun r3 => ?_) (k2 := fun r3 => ?_)
      · exact h48 _ _ (by omega)
      · exact h44 _ _ (by omega)
end
