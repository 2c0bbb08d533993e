/-! THE MODEL: bits of the ended, how many -/
theorem pb_less : ∀ x : Fin 256, (x.val : Int) ≠ 0 → pb_c (pe_and (x.val : Int) ((x.val : Int) - 1)) = pb_c (x.val : Int) - 1 ∧ 0 ≤ pe_and (x.val : Int) ((x.val : Int) - 1) ∧ pe_and (x.val : Int) ((x.val : Int) - 1) < (x.val : Int) := by decide +kernel
theorem pb_c_8 : ∀ x : Fin 256, 0 ≤ pb_c (x.val : Int) ∧ pb_c (x.val : Int) ≤ 8 := by decide +kernel
section
variable {d M q : Nat} {Φ : Option pe_V → pe_H → Prop} {σ : pe_H} {y z : Nat → Int → Int} {a : pa_M}
/-- onesOf -/
theorem c136 {x : Int} (hF : pm_F M σ) (h0 : 0 ≤ x) (h1 : x ≤ 255) (k : Φ (some (.inl (pb_c x))) (pm_h M σ q y)) : pe_M (d + 1) 136 [.inl x] (pm_h M σ q y) Φ := by
  have hx8 : 0 ≤ pb_c x ∧ pb_c x ≤ 8 := by
    obtain ⟨u, rfl⟩ := pb_fin h0 h1
    exact pb_c_8 u
  have loop : ∀ (n : Nat) (b c : Int) (o0 : Option pe_V), 0 ≤ b → b ≤ 255 → b ≤ n → c + pb_c b = pb_c x → 0 ≤ c → pe_X d 136 (4, [o0, some (.inl c), some (.inl b)], [], pm_h M σ q y) Φ := by
    intro n
    induction n with
    | zero =>
      intro b c o0 b0 b1 bn hc c0
      have : b = 0 := by omega
      subst this
      refine b136_4 hF (k1 := fun _ => ?_) (k2 := fun r => absurd rfl r)
      refine b136_20 hF (k := ?_)
      have : pb_c 0 = 0 := by decide +kernel
      rw [show c = pb_c x by omega]
      exact k
    | succ n ih =>
      intro b c o0 b0 b1 bn hc c0
      have hb8 : 0 ≤ pb_c b := by
        obtain ⟨u, rfl⟩ := pb_fin b0 b1
        exact (pb_c_8 u).1
      refine b136_4 hF (k1 := fun r => ?_) (k2 := fun r => ?_)
      · subst r
        refine b136_20 hF (k := ?_)
        have : pb_c 0 = 0 := by decide +kernel
        rw [show c = pb_c x by omega]
        exact k
      · have hl : pb_c (pe_and b (b - 1)) = pb_c b - 1 ∧ 0 ≤ pe_and b (b - 1) ∧ pe_and b (b - 1) < b := by
          obtain ⟨u, rfl⟩ := pb_fin b0 b1
          exact pb_less u r
        refine b136_8 hF (k := ?_)
        exact ih _ _ _ hl.2.1 (by omega) (by omega) (by omega) (by omega)
  refine pe_M_of ck136 (Nat.le_of_ble_eq_true rfl) ?_
  refine b136_0 hF (k := ?_)
  exact loop 255 x 0 _ h0 h1 (by omega) (by omega) (Int.le_refl _)
/-- endedBits -/
theorem c141 (hF : pm_F M σ) (hM : pm_R y a) (hwf : pa_wf0 a) (k : Φ (some (.inl (pa_bits (pa_isEnd a) (a.1 4).toNat))) (pm_h M σ q y)) : pe_M (d + 2) 141 [.inr (.inr M)] (pm_h M σ q y) Φ := by
  have e4 := hM.cnt.1
  have h8 := hwf.1
  have loop : ∀ (m i : Nat), (i : Int) + m = a.1 4 → pe_X (d + 1) 141 (4, [some (.inr (.inr M)), some (.inl (pa_bits (pa_isEnd a) i)), some (.inl (i : Int))], [], pm_h M σ q y) Φ := by
    intro m
    induction m with
    | zero =>
      intro i hi
      refine b141_4 hF (k1 := fun _ => ?_) (k2 := fun r => by omega)
      refine b141_36 hF (k := ?_)
      rw [show (a.1 4).toNat = i by omega] at k
      exact k
    | succ m ih =>
      intro i hi
      have hb := pa_bits_b (pa_isEnd a) i
      have hb5 := pa_bits_255 (pa_isEnd a) (n := i) (by omega)
      have i2 : y 7 (i : Int) = (a.2.1 i).1 2 := (hM.nn (by omega : 0 ≤ (i : Int)) (by omega)).1.1.2.1
      have hb2 := (hwf.2.2.1 i (by omega) (by omega)).1.2.1
      refine b141_4 hF (k1 := fun r => by omega) (k2 := fun _ => ?_)
      refine b141_12 hF (k := ?_)
      refine c139 hF (by omega) (by omega) (by omega) (fun r => ?_) (fun r => ?_)
      · refine b141_18 hF (k1 := fun r => by omega) (k2 := fun _ => ?_)
        refine b141_21 hF (k := ?_)
        refine b141_28 hF (k := ?_)
        rw [(pb_or (by omega) hb.1 hb.2).1]
        have := ih (i + 1) (by push_cast; omega)
        rw [pa_bits, show pa_isEnd a (i : Int) = true from by unfold pa_isEnd; simp; omega, if_pos rfl] at this
        exact this
      · refine b141_18 hF (k1 := fun _ => ?_) (k2 := fun r => absurd rfl r)
        refine b141_27 hF (k := ?_)
        refine b141_28 hF (k := ?_)
        rw [pb_or_z hb5.1 hb5.2]
        have := ih (i + 1) (by push_cast; omega)
        rw [pa_bits, show pa_isEnd a (i : Int) = false from by unfold pa_isEnd; simp; omega, if_neg (by simp), Int.add_zero] at this
        exact this
  refine pe_M_of ck141 (Nat.le_of_ble_eq_true rfl) ?_
  refine b141_0 hF (k := ?_)
  exact loop (a.1 4).toNat 0 (by omega)
end
