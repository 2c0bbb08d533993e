/-! BITS -/
def T245 : List (Nat × Instr × Nat) := [(0, .iload_n 0, 1), (1, .iload_n 0, 1), (2, .iconst 1, 1), (3, .iushr, 1), (4, .ldc_w 265, 3), (7, .iand, 1), (8, .isub, 1), (9, .istore_n 0, 1), (10, .iload_n 0, 1), (11, .ldc_w 266, 3), (14, .iand, 1), (15, .iload_n 0, 1), (16, .iconst 2, 1), (17, .iushr, 1), (18, .ldc_w 266, 3), (21, .iand, 1), (22, .iadd, 1), (23, .istore_n 0, 1), (24, .iload_n 0, 1), (25, .iload_n 0, 1), (26, .iconst 4, 1), (27, .iushr, 1), (28, .iadd, 1), (29, .ldc_w 267, 3), (32, .iand, 1), (33, .istore_n 0, 1), (34, .iload_n 0, 1), (35, .iload_n 0, 1), (36, .bipush 8, 2), (38, .iushr, 1), (39, .iadd, 1), (40, .istore_n 0, 1), (41, .iload_n 0, 1), (42, .iload_n 0, 1), (43, .bipush 16, 2), (45, .iushr, 1), (46, .iadd, 1), (47, .istore_n 0, 1), (48, .iload_n 0, 1), (49, .bipush 63, 2), (51, .iand, 1), (52, .ireturn, 1)]
theorem ck245 : pe_ctx 245 11 false (some .int) 1 T245 := ⟨rfl, rfl, rfl, rfl, by decide +kernel, by decide, by decide⟩
set_option maxHeartbeats 8000000 in
theorem b245_0 {d : Nat} {Φ : Option pe_V → pe_H → Prop} {σ : pe_H} {x0 : Int}    (k : pe_X d 245 (34, [some (.inl (pe_and (((pe_and (x0 - (pe_and (pe_ushr x0 1) 1431655765)) 858993459) + (pe_and (pe_ushr (x0 - (pe_and (pe_ushr x0 1) 1431655765)) 2) 858993459)) + (pe_ushr ((pe_and (x0 - (pe_and (pe_ushr x0 1) 1431655765)) 858993459) + (pe_and (pe_ushr (x0 - (pe_and (pe_ushr x0 1) 1431655765)) 2) 858993459)) 4)) 252645135))], [], σ) Φ) : pe_X d 245 (0, [some (.inl x0)], [], σ) Φ := by
  refine pe_blk 0 26 ck245 [] (34, [some (.inl (pe_and (((pe_and (x0 - (pe_and (pe_ushr x0 1) 1431655765)) 858993459) + (pe_and (pe_ushr (x0 - (pe_and (pe_ushr x0 1) 1431655765)) 2) 858993459)) + (pe_ushr ((pe_and (x0 - (pe_and (pe_ushr x0 1) 1431655765)) 858993459) + (pe_and (pe_ushr (x0 - (pe_and (pe_ushr x0 1) 1431655765)) 2) 858993459)) 4)) 252645135))], [], σ) rfl ?_ ?_
  · exact trivial
  · exact k
theorem b245_34 {d : Nat} {Φ : Option pe_V → pe_H → Prop} {σ : pe_H} {x0 : Int}    (k : Φ (some (.inl (pe_and ((x0 + (pe_ushr x0 8)) + (pe_ushr (x0 + (pe_ushr x0 8)) 16)) 63))) σ) : pe_X d 245 (34, [some (.inl x0)], [], σ) Φ := by
  refine pe_blk 26 15 ck245 [] (52, [some (.inl ((x0 + (pe_ushr x0 8)) + (pe_ushr (x0 + (pe_ushr x0 8)) 16)))], [.inl (pe_and ((x0 + (pe_ushr x0 8)) + (pe_ushr (x0 + (pe_ushr x0 8)) 16)) 63)], σ) rfl ?_ ?_
  · exact trivial
  · exact pe_fine 41 ck245 rfl rfl rfl trivial k
def pb_1 (x : Int) : Int := pe_and (((pe_and (x - (pe_and (pe_ushr x 1) 1431655765)) 858993459) + (pe_and (pe_ushr (x - (pe_and (pe_ushr x 1) 1431655765)) 2) 858993459)) + (pe_ushr ((pe_and (x - (pe_and (pe_ushr x 1) 1431655765)) 858993459) + (pe_and (pe_ushr (x - (pe_and (pe_ushr x 1) 1431655765)) 2) 858993459)) 4)) 252645135
/-- how many bits -/
def pb_c (x : Int) : Int := pe_and ((pb_1 x + (pe_ushr (pb_1 x) 8)) + (pe_ushr (pb_1 x + (pe_ushr (pb_1 x) 8)) 16)) 63
theorem pb_or_all : ∀ c : Fin 8, ∀ b : Fin 256, (b.val : Int) < 2 ^ c.val → pe_or (b.val : Int) (pe_shl 1 (c.val : Int)) = b.val + 2 ^ c.val ∧ pb_c ((b.val : Int) + 2 ^ c.val) = pb_c b.val + 1 := by decide +kernel
theorem pb_shl_all : ∀ c : Fin 9, pe_shl 1 (c.val : Int) = 2 ^ c.val := by decide +kernel
theorem pb_pow_b {n : Nat} (h : n ≤ 8) : (1 : Int) ≤ 2 ^ n ∧ (2 : Int) ^ n ≤ 256 := by
  have : n = 0 ∨ n = 1 ∨ n = 2 ∨ n = 3 ∨ n = 4 ∨ n = 5 ∨ n = 6 ∨ n = 7 ∨ n = 8 := by omega
  rcases this with rfl | rfl | rfl | rfl | rfl | rfl | rfl | rfl | rfl <;> decide
theorem pb_or {b : Int} {c : Nat} (hc : c < 8) (h0 : 0 ≤ b) (h1 : b < 2 ^ c) : pe_or b (pe_shl 1 (c : Int)) = b + 2 ^ c ∧ pb_c (b + 2 ^ c) = pb_c b + 1 := by
  have := pb_pow_b (n := c) (by omega)
  have e : ((b.toNat : Nat) : Int) = b := by omega
  have := pb_or_all ⟨c, hc⟩ ⟨b.toNat, by omega⟩ (by rw [e]; exact h1)
  dsimp only at this
  rw [e] at this
  exact this
theorem pb_shl {c : Nat} (hc : c ≤ 8) : pe_shl 1 (c : Int) = 2 ^ c := pb_shl_all ⟨c, by omega⟩
theorem pa_bits_b (p : Int → Bool) : ∀ n : Nat, 0 ≤ pa_bits p n ∧ pa_bits p n < 2 ^ n
  | 0 => ⟨Int.le_refl _, show (0 : Int) < 1 by decide⟩
  | n + 1 => by
    have := pa_bits_b p n
    unfold pa_bits
    rw [Int.pow_succ]
    split <;> omega
theorem pb_c_bits (p : Int → Bool) : ∀ n : Nat, n ≤ 8 → pb_c (pa_bits p n) = pa_cnt p n
  | 0, _ => show pb_c 0 = 0 by decide +kernel
  | n + 1, h => by
    have hb := pa_bits_b p n
    have ih := pb_c_bits p n (by omega)
    unfold pa_bits pa_cnt
    split
    · rw [(pb_or (by omega) hb.1 hb.2).2, ih]
    · rw [Int.add_zero, Int.add_zero, ih]
theorem pa_bits_255 (p : Int → Bool) {n : Nat} (h : n ≤ 8) : 0 ≤ pa_bits p n ∧ pa_bits p n ≤ 255 := by
  have := pa_bits_b p n
  have := pb_pow_b h
  omega
/-- Integer.bitCount -/
theorem k245 {d : Nat} {Φ : Option pe_V → pe_H → Prop} {σ : pe_H} {x : Int} (k : Φ (some (.inl (pb_c x))) σ) : pe_M (d + 1) 245 [.inl x] σ Φ := by
  refine pe_M_of ck245 (Nat.le_of_ble_eq_true rfl) ?_
  refine b245_0 (k := ?_)
  refine b245_34 (k := ?_)
  exact k
section
variable {d B : Nat} {Φ : Option pe_V → pe_H → Prop} {T : Nat → Prop} {σ σ' : pe_H} {c : Int} {a : pa_M}
theorem k16 (hM : pk_RM B T σ a) (k : Φ (some (.inl (pe_shl 1 (a.1 4) - 1))) σ) : pe_M (d + 1) 16 [.inr (.inr B)] σ Φ := by
  have hF := hM.F
  have e4 := hM.cnt.1
  refine pe_M_of ck16 (Nat.le_of_ble_eq_true rfl) ?_
  refine b16_0 (k := ?_)
  rw [e4]; exact k
/-- endedBits -/
theorem k17 (hM : pk_RM B T σ a) (hwf : pa_wf0 a) (k : Φ (some (.inl (pa_bits (pa_isEnd a) (a.1 4).toNat))) σ) : pe_M (d + 2) 17 [.inr (.inr B)] σ Φ := by
  have hF := hM.F
  have e4 := hM.cnt.1
  have h8 := hwf.1
  have loop : ∀ (m i : Nat), (i : Int) + m = a.1 4 → pe_X (d + 1) 17 (4, [some (.inr (.inr B)), some (.inl (pa_bits (pa_isEnd a) i)), some (.inl (i : Int))], [], σ) Φ := by
    intro m
    induction m with
    | zero =>
      intro i hi
      refine b17_4 (k1 := fun _ => ?_) (k2 := fun q => by omega)
      refine b17_36 (k := ?_)
      rw [show (a.1 4).toNat = i by omega] at k
      exact k
    | succ m ih =>
      intro i hi
      have ho := hM.o hwf (by omega : 0 ≤ (i : Int)) (by omega)
      have hb := pa_bits_b (pa_isEnd a) i
      refine b17_4 (k1 := fun q => by omega) (k2 := fun _ => ?_)
      refine b17_12 (k := ?_)
      refine k3 ho (hM.i (by omega) (by omega)).2.1 (hwf.2.2.1 i (by omega) (by omega)).1.2.1 (fun q => ?_) (fun q => ?_)
      · refine b17_21 (k1 := fun q4 => by omega) (k2 := fun _ => ?_)
        refine b17_24 (k := ?_)
        refine b17_30 (k := ?_)
        rw [(pb_or (by omega) hb.1 hb.2).1]
        have := ih (i + 1) (by push_cast; omega)
        rw [pa_bits, show pa_isEnd a (i : Int) = true from by unfold pa_isEnd; simp; exact q, if_pos rfl] at this
        exact this
      · refine b17_21 (k1 := fun _ => ?_) (k2 := fun q4 => by omega)
        refine b17_30 (k := ?_)
        have := ih (i + 1) (by push_cast; omega)
        rw [pa_bits, show pa_isEnd a (i : Int) = false from by unfold pa_isEnd; simp; omega, if_neg (by simp), Int.add_zero] at this
        exact this
  refine pe_M_of ck17 (Nat.le_of_ble_eq_true rfl) ?_
  refine b17_0 (k := ?_)
  exact loop (a.1 4).toNat 0 (by omega)
/-- ableBits -/
theorem k19 (hM : pk_RM B T σ a) (hwf : pa_wf0 a) (k : Φ (some (.inl (pa_bits (pa_isAble a) (a.1 4).toNat))) σ) : pe_M (d + 2) 19 [.inr (.inr B)] σ Φ := by
  have hF := hM.F
  have e4 := hM.cnt.1
  have h8 := hwf.1
  have loop : ∀ (m i : Nat), (i : Int) + m = a.1 4 → pe_X (d + 1) 19 (4, [some (.inr (.inr B)), some (.inl (pa_bits (pa_isAble a) i)), some (.inl (i : Int))], [], σ) Φ := by
    intro m
    induction m with
    | zero =>
      intro i hi
      refine b19_4 (k1 := fun _ => ?_) (k2 := fun q => by omega)
      refine b19_36 (k := ?_)
      rw [show (a.1 4).toNat = i by omega] at k
      exact k
    | succ m ih =>
      intro i hi
      have ho := hM.o hwf (by omega : 0 ≤ (i : Int)) (by omega)
      have hb := pa_bits_b (pa_isAble a) i
      refine b19_4 (k1 := fun q => by omega) (k2 := fun _ => ?_)
      refine b19_12 (k := ?_)
      refine k4 ho (hM.i (by omega) (by omega)).2.1 (hwf.2.2.1 i (by omega) (by omega)).1.2.1 (fun q => ?_) (fun q => ?_)
      · refine b19_21 (k1 := fun q4 => by omega) (k2 := fun _ => ?_)
        refine b19_24 (k := ?_)
        refine b19_30 (k := ?_)
        rw [(pb_or (by omega) hb.1 hb.2).1]
        have := ih (i + 1) (by push_cast; omega)
        rw [pa_bits, show pa_isAble a (i : Int) = true from by unfold pa_isAble; simp; exact q, if_pos rfl] at this
        exact this
      · refine b19_21 (k1 := fun _ => ?_) (k2 := fun q4 => by omega)
        refine b19_30 (k := ?_)
        have := ih (i + 1) (by push_cast; omega)
        rw [pa_bits, show pa_isAble a (i : Int) = false from by unfold pa_isAble; simp; omega, if_neg (by simp), Int.add_zero] at this
        exact this
  refine pe_M_of ck19 (Nat.le_of_ble_eq_true rfl) ?_
  refine b19_0 (k := ?_)
  exact loop (a.1 4).toNat 0 (by omega)
/-- outsOfAll -/
theorem k20 (hM : pk_RM B T σ a) (hwf : pa_wf0 a) (k : Φ (some (.inl (pa_sum (fun c => (a.2.1 c).1 5) (a.1 4).toNat))) σ) : pe_M (d + 1) 20 [.inr (.inr B)] σ Φ := by
  have hF := hM.F
  have e4 := hM.cnt.1
  have h8 := hwf.1
  have loop : ∀ (m i : Nat), (i : Int) + m = a.1 4 → pe_X d 20 (4, [some (.inr (.inr B)), some (.inl (pa_sum (fun c => (a.2.1 c).1 5) i)), some (.inl (i : Int))], [], σ) Φ := by
    intro m
    induction m with
    | zero =>
      intro i hi
      refine b20_4 (k1 := fun _ => ?_) (k2 := fun q => by omega)
      refine b20_30 (k := ?_)
      rw [show (a.1 4).toNat = i by omega] at k
      exact k
    | succ m ih =>
      intro i hi
      refine b20_4 (k1 := fun q => by omega) (k2 := fun _ => ?_)
      refine b20_12 (k := ?_)
      rw [(hM.i (by omega : 0 ≤ (i : Int)) (by omega)).2.2.2.2.1]
      exact ih (i + 1) (by push_cast; omega)
  refine pe_M_of ck20 (Nat.le_of_ble_eq_true rfl) ?_
  refine b20_0 (k := ?_)
  exact loop (a.1 4).toNat 0 (by omega)
end

