/-! THE CLASS: what is told -/
def pb_n (p : Int → Bool) : Nat → Nat
  | 0 => 0
  | n + 1 => 2 ^ n * (if p (n : Int) then 1 else 0) + pb_n p n
theorem pb_n_lt (p : Int → Bool) : ∀ n : Nat, pb_n p n < 2 ^ n
  | 0 => Nat.one_pos
  | n + 1 => by
    have := pb_n_lt p n
    unfold pb_n
    rw [Nat.pow_succ]
    split <;> omega
theorem pb_n_bits (p : Int → Bool) : ∀ n : Nat, pa_bits p n = (pb_n p n : Int)
  | 0 => rfl
  | n + 1 => by
    unfold pa_bits pb_n
    rw [pb_n_bits p n]
    split
    · push_cast; omega
    · push_cast; omega
theorem pb_n_at (p : Int → Bool) : ∀ (n i : Nat), (pb_n p n).testBit i = (decide (i < n) && p (i : Int))
  | 0, i => by simp [pb_n]
  | n + 1, i => by
    have ih := pb_n_at p n i
    have hl := pb_n_lt p n
    unfold pb_n
    by_cases hp : p (n : Int) = true
    · rw [if_pos hp, Nat.mul_one]
      rcases Nat.lt_trichotomy i n with q | q | q
      · rw [Nat.testBit_two_pow_add_gt q, ih, decide_eq_true q, decide_eq_true (by omega)]
      · subst q
        rw [Nat.testBit_two_pow_add_eq, Nat.testBit_lt_two_pow hl, decide_eq_true (by omega), hp]; rfl
      · rw [Nat.testBit_lt_two_pow (Nat.lt_of_lt_of_le (by rw [Nat.pow_succ]; omega : 2 ^ n + pb_n p n < 2 ^ (n + 1)) (Nat.pow_le_pow_right (by decide) q)), decide_eq_false (by omega)]; rfl
    · rw [if_neg hp, Nat.mul_zero, Nat.zero_add, ih]
      rcases Nat.lt_trichotomy i n with q | q | q
      · rw [decide_eq_true q, decide_eq_true (by omega)]
      · subst q
        rw [Bool.not_eq_true] at hp
        rw [hp, Bool.and_false, Bool.and_false]
      · rw [decide_eq_false (by omega), decide_eq_false (by omega)]
theorem pb_and_all : ∀ x a : Fin 256, pe_and (x.val : Int) (pe_xor (a.val : Int) (-1)) = ((x.val &&& (255 ^^^ a.val) : Nat) : Int) := by decide +kernel
theorem pb_andn {x a : Nat} (hx : x < 256) (ha : a < 256) : pe_and (x : Int) (pe_xor (a : Int) (-1)) = ((x &&& (255 ^^^ a) : Nat) : Int) := pb_and_all ⟨x, hx⟩ ⟨a, ha⟩
theorem pb_n_256 (p : Int → Bool) {n : Nat} (h : n ≤ 8) : pb_n p n < 256 := Nat.lt_of_lt_of_le (pb_n_lt p n) (Nat.pow_le_pow_right (n := 2) (j := 8) (by decide) h)
/-- all but those with e -/
theorem pb_but (e : Int → Bool) {n : Nat} (h : n ≤ 8) : pe_and (pe_shl 1 (n : Int) - 1) (pe_xor (pa_bits e n) (-1)) = pa_bits (fun c => !e c) n := by
  have h2 := Nat.pow_le_pow_right (n := 2) (by decide) h
  have h1 : 1 ≤ 2 ^ n := Nat.one_le_two_pow
  have hx : pe_shl 1 (n : Int) - 1 = ((2 ^ n - 1 : Nat) : Int) := by rw [pb_shl h]; push_cast [h1]; rfl
  rw [hx, pb_n_bits, pb_andn (by omega) (pb_n_256 e h), pb_n_bits]
  congr 1
  apply Nat.eq_of_testBit_eq
  intro i
  rw [Nat.testBit_and, Nat.testBit_xor, Nat.testBit_two_pow_sub_one, pb_n_at, pb_n_at, show (255 : Nat) = 2 ^ 8 - 1 from rfl, Nat.testBit_two_pow_sub_one]
  by_cases q : i < n
  · rw [decide_eq_true q, decide_eq_true (by omega)]; cases e (i : Int) <;> rfl
  · rw [decide_eq_false q]; rfl
/-- those with x but not with e -/
theorem pb_lss (x e : Int → Bool) {n : Nat} (h : n ≤ 8) : pe_and (pa_bits x n) (pe_xor (pa_bits e n) (-1)) = pa_bits (fun c => x c && !e c) n := by
  rw [pb_n_bits, pb_n_bits, pb_andn (pb_n_256 x h) (pb_n_256 e h), pb_n_bits]
  congr 1
  apply Nat.eq_of_testBit_eq
  intro i
  rw [Nat.testBit_and, Nat.testBit_xor, pb_n_at, pb_n_at, pb_n_at, show (255 : Nat) = 2 ^ 8 - 1 from rfl, Nat.testBit_two_pow_sub_one]
  by_cases q : i < n
  · rw [decide_eq_true q, decide_eq_true (by omega)]; cases e (i : Int) <;> cases x (i : Int) <;> rfl
  · rw [decide_eq_false q]; rfl
theorem pa_bits_ext {p q : Int → Bool} : ∀ n : Nat, (∀ i : Nat, i < n → p i = q i) → pa_bits p n = pa_bits q n
  | 0, _ => rfl
  | n + 1, h => by
    unfold pa_bits
    rw [pa_bits_ext n (fun i hi => h i (by omega)), h n (by omega)]
section
variable {d C B P : Nat} {Φ : Option pe_V → pe_H → Prop} {T U : Nat → Prop} {σ σ' : pe_H} {c i x D : Int} {l : List Int} {a s : pa_M} {im : Option pa_M} {h : Int → pa_Sh}
theorem pk_RFs_at {w : Int → Int × List Int} {r : Nat} {o : Int} : ∀ (fs : List pa_F) (ub : Int) (i : Nat), pk_RFs T σ w r o fs ub → i < fs.length → ∃ ub', ub' ≤ ub ∧ pk_RFr T σ w (pk_f r i) (o + i) ub' (fs.getD (fs.length - 1 - i) (pa_nf 0 []))
  | [], _, _, _, hi => absurd hi (by simp)
  | f :: fs, ub, i, h, hi => by
    rw [List.length_cons] at hi
    by_cases e : i = fs.length
    · subst e
      refine ⟨ub, Int.le_refl _, ?_⟩
      rw [List.length_cons, show fs.length + 1 - 1 - fs.length = 0 by omega]
      exact h.1
    · obtain ⟨ub', h1, h2⟩ := pk_RFs_at fs _ i h.2 (by omega)
      refine ⟨ub', Int.le_trans h1 ?_, ?_⟩
      · have h3 := h.1.2.2
        unfold pr_nb
        rcases h3 with ⟨g, -⟩ | ⟨g, -⟩ | ⟨g1, g2, -⟩
        · rw [if_neg (by omega)]; exact Int.le_refl _
        · rw [if_neg (by omega)]; exact Int.le_refl _
        · rw [if_pos g1]; omega
      · rw [List.length_cons, show fs.length + 1 - 1 - i = (fs.length - 1 - i) + 1 by omega, List.getD_cons_succ]
        exact h2
/-- coroutine -/
theorem k83 (hG : pg_G C T U σ a im h) (hw : pg_W a im h) (hc : -2147483648 ≤ c ∧ c < 2147483648) (hx : -2147483648 ≤ x ∧ x < 2147483648) (k : Φ (some (.inl (pa_aCo a c x))) σ) : pe_M (d + 3) 83 [.inr (.inr C), .inl c, .inl x] σ Φ := by
  have hF := hG.F
  have h8 := hw.1.1.1.1
  unfold pa_aCo at k
  have hno : ¬ ((0 ≤ c ∧ c < a.1 4) ∧ 0 ≤ x ∧ x ≤ 11) → Φ (some (.inl (-1))) σ := fun q => by
    rw [if_pos q] at k
    exact k
  refine pe_M_of ck83 (Nat.le_of_ble_eq_true rfl) ?_
  refine b83_0 (k := ?_)
  refine pe_M.up (k117 (d := 0) hF hG.M hw.1.1.1 hc (fun rc => ?_) (fun r => ?_)) (by omega)
  · refine b83_5 (k1 := fun r => by omega) (k2 := fun _ => ?_)
    have h1 : c < 8 := by omega
    have ho : pk_Fo (pk_c (C + 1) c) σ := pk_mO (pk_sM0 hF) rc.1 h1
    obtain ⟨m1, m2, m3, m4⟩ := hG.M.mn rc.1 rc.2
    obtain ⟨i0, i2, i3, i4, i5, i6, i7⟩ := hG.M.i rc.1 rc.2
    have hwc := (hw.1.1.1.2.2.1 c rc.1 rc.2).1
    refine b83_8 (k1 := fun r1 => ?_) (k2 := fun r1 => ?_)
    · refine b83_18 (k := ?_)
      exact hno (by omega)
    · refine b83_12 (k1 := fun r2 => ?_) (k2 := fun r2 => ?_)
      · rw [if_neg (by omega)] at k
        refine b83_20 (k0 := fun r => ?_) (k1 := fun r => ?_) (k2 := fun r => ?_) (k3 := fun r => ?_) (k4 := fun r => ?_) (k5 := fun r => ?_) (k6 := fun r => ?_) (kd := fun r0 r1 r2 r3 r4 r5 r6 => ?_)
        · refine b83_72 (k := ?_)
          rw [if_pos (by omega)] at k
          rw [i0]; exact k
        · refine b83_77 (k := ?_)
          rw [if_neg (by omega), if_pos (by omega)] at k
          rw [m3]; exact k
        · refine b83_85 (k := ?_)
          rw [if_neg (by omega), if_neg (by omega), if_pos (by omega)] at k
          rw [m4]; exact k
        · refine b83_93 (k := ?_)
          rw [if_neg (by omega), if_neg (by omega), if_neg (by omega), if_pos (by omega)] at k
          have hb := hwc.2.2.2.2.2.2
          refine pe_M.up (k42 (d := 0) m2 m3 m4 ⟨hb.1.1, hb.1.2, hb.2.1.1, hb.2.1.2⟩ ?_) (by omega)
          refine b83_100 (k := ?_)
          exact k
        · refine b83_104 (k := ?_)
          rw [if_neg (by omega), if_neg (by omega), if_neg (by omega), if_neg (by omega), if_pos (by omega)] at k
          obtain ⟨w, n, hR, -⟩ := hG.M
          rw [(hR.co rc.1 rc.2).2.1]
          exact k
        · refine b83_109 (k := ?_)
          rw [if_neg (by omega), if_neg (by omega), if_neg (by omega), if_neg (by omega), if_neg (by omega), if_pos (by omega)] at k
          rw [i7]; exact k
        · refine b83_114 (k := ?_)
          rw [if_neg (by omega), if_neg (by omega), if_neg (by omega), if_neg (by omega), if_neg (by omega), if_neg (by omega), if_pos (by omega)] at k
          refine pe_M.up (k23 (d := 0) hG.M hw.1.1.1 rc.1 rc.2 ?_) (by omega)
          refine b83_122 (k := ?_)
          exact k
        · refine b83_123 (k := ?_)
          rw [if_neg (by omega), if_neg (by omega), if_neg (by omega), if_neg (by omega), if_neg (by omega), if_neg (by omega), if_neg (by omega)] at k
          refine pe_M.up (k9 (d := 0) ho (by omega) ?_) (by omega)
          refine b83_128 (k := ?_)
          unfold pa_of at k
          rw [i2, i3, i4, i5, i6]
          exact k
      · refine b83_18 (k := ?_)
        exact hno (by omega)
  · refine b83_5 (k1 := fun _ => ?_) (k2 := fun r => absurd rfl r)
    refine b83_18 (k := ?_)
    exact hno (by omega)
/-- frame -/
theorem k84 (hG : pg_G C T U σ a im h) (hw : pg_W a im h) (hc : -2147483648 ≤ c ∧ c < 2147483648) (hi : -2147483648 ≤ i ∧ i < 2147483648) (hx : -2147483648 ≤ x ∧ x < 2147483648) (k : Φ (some (.inl (pa_aFrame a c i x))) σ) : pe_M (d + 3) 84 [.inr (.inr C), .inl c, .inl i, .inl x] σ Φ := by
  have hF := hG.F
  have h8 := hw.1.1.1.1
  unfold pa_aFrame at k
  have hno : ¬ ((0 ≤ c ∧ c < a.1 4) ∧ (0 ≤ x ∧ x ≤ 4) ∧ 0 ≤ i ∧ i < ((a.2.1 c).2.2.length : Int)) → Φ (some (.inl (-1))) σ := fun q => by
    rw [if_pos q] at k
    exact k
  refine pe_M_of ck84 (Nat.le_of_ble_eq_true rfl) ?_
  refine b84_0 (k := ?_)
  refine pe_M.up (k117 (d := 0) hF hG.M hw.1.1.1 hc (fun r => ?_) (fun r => ?_)) (by omega)
  · refine b84_5 (k1 := fun r => by omega) (k2 := fun _ => ?_)
    have h1 : c < 8 := by omega
    have ho : pk_Fo (pk_c (C + 1) c) σ := pk_mO (pk_sM0 hF) r.1 h1
    have hl := (hw.1.1.1.2.2.1 c r.1 r.2).2.1
    obtain ⟨w, n, hR, hn⟩ := hG.M
    have hp := pa_pots_0 (a := a)
    obtain ⟨co1, co2, co3, co4⟩ := hR.co r.1 r.2
    refine b84_8 (k1 := fun r1 => ?_) (k2 := fun r1 => ?_)
    · refine b84_17 (k := ?_)
      exact hno (by omega)
    · refine b84_12 (k1 := fun r2 => ?_) (k2 := fun r2 => ?_)
      · refine b84_19 (k1 := fun r3 => ?_) (k2 := fun r3 => ?_)
        · refine b84_43 (k := ?_)
          exact hno (by omega)
        · refine b84_34 (k1 := fun r4 => ?_) (k2 := fun r4 => ?_)
          · rw [if_neg (by omega)] at k
            obtain ⟨ub, hub, ⟨b1, b2, b3, b4⟩, b5, b6⟩ := pk_RFs_at _ _ i.toNat co4 (by omega)
            rw [show ((i.toNat : Nat) : Int) = i by omega] at b1 b2 b3 b4 b6
            have hKf : pe_K σ (pk_f (pk_c (C + 1) c) i) = 1 := pk_oEK ho (by omega) (by omega)
            have hfin : pe_I σ (pk_f (pk_c (C + 1) c) i) 4 = 0 ∨ pe_I σ (pk_f (pk_c (C + 1) c) i) 4 = 1 := by
              rw [b4]
              have hm : (a.2.1 c).2.2.getD ((a.2.1 c).2.2.length - 1 - i.toNat) (pa_nf 0 []) ∈ (a.2.1 c).2.2 := by
                rw [List.getD_eq_getElem?_getD, List.getElem?_eq_getElem (by omega)]
                exact List.getElem_mem _
              exact ((hw.1.1.1.2.2.1 c r.1 r.2).2.2.1 _ hm).2.2.2.1
            refine b84_45 (k0 := fun r => ?_) (k1 := fun r => ?_) (k2 := fun r => ?_) (k3 := fun r => ?_) (kd := fun r0 r1 r2 r3 => ?_)
            · refine b84_84 (k := ?_)
              rw [if_pos (by omega)] at k
              rw [b1]; exact k
            · refine b84_90 (k := ?_)
              rw [if_neg (by omega), if_pos (by omega)] at k
              rw [b2]; exact k
            · refine b84_96 (k := ?_)
              rw [if_neg (by omega), if_neg (by omega), if_pos (by omega)] at k
              rw [b3]; exact k
            · rw [if_neg (by omega), if_neg (by omega), if_neg (by omega), if_pos (by omega)] at k
              have k : Φ (some (.inl (((a.2.1 c).2.2.getD ((a.2.1 c).2.2.length - 1 - i.toNat) (pa_nf 0 [])).1 4))) σ := k
              rw [← b4] at k
              refine b84_102 (k1 := fun r5 => ?_) (k2 := fun r5 => ?_)
              · refine b84_114 (k := ?_)
                refine b84_115 (k := ?_)
                rw [r5] at k
                exact k
              · refine b84_110 (k := ?_)
                refine b84_115 (k := ?_)
                rw [show pe_I σ (pk_f (pk_c (C + 1) c) i) 4 = 1 by omega] at k
                exact k
            · rw [if_neg (by omega), if_neg (by omega), if_neg (by omega), if_neg (by omega)] at k
              refine b84_116 (k := ?_)
              have hn0 := hR.st.1
              refine pe_M.up (k121 (d := 0) hF ⟨hR.n12, by omega, by omega⟩ hR.st b6 hub ?_) (by omega)
              refine b84_125 (k := ?_)
              exact k
          · refine b84_43 (k := ?_)
            exact hno (by omega)
      · refine b84_17 (k := ?_)
        exact hno (by omega)
  · refine b84_5 (k1 := fun _ => ?_) (k2 := fun r => absurd rfl r)
    refine b84_17 (k := ?_)
    exact hno (by omega)
/-- cause -/
theorem k85 (hG : pg_G C T U σ a im h) (hw : pg_W a im h) (hc : -2147483648 ≤ c ∧ c < 2147483648) (hi : -2147483648 ≤ i ∧ i < 2147483648) (k : Φ (some (.inl (pa_aCause a c i))) σ) : pe_M (d + 3) 85 [.inr (.inr C), .inl c, .inl i] σ Φ := by
  have hF := hG.F
  have h8 := hw.1.1.1.1
  unfold pa_aCause at k
  have hno : ¬ ((0 ≤ c ∧ c < a.1 4) ∧ 0 ≤ i ∧ i < ((a.2.1 c).2.1.length : Int)) → Φ (some (.inl (-1))) σ := fun q => by
    rw [if_pos q] at k
    exact k
  refine pe_M_of ck85 (Nat.le_of_ble_eq_true rfl) ?_
  refine b85_0 (k := ?_)
  refine pe_M.up (k117 (d := 0) hF hG.M hw.1.1.1 hc (fun r => ?_) (fun r => ?_)) (by omega)
  · refine b85_5 (k1 := fun r => by omega) (k2 := fun _ => ?_)
    have h1 : c < 8 := by omega
    have ho : pk_Fo (pk_c (C + 1) c) σ := pk_mO (pk_sM0 hF) r.1 h1
    have hM := hG.M
    obtain ⟨w, n, hR, hn⟩ := hG.M
    have hp := pa_pots_0 (a := a)
    have hst := hR.st
    obtain ⟨b1, b2, b3, b4⟩ := hR.co r.1 r.2
    have hlen : ((a.2.1 c).2.1.length : Int) ≤ 512 := by
      rcases b3 with ⟨e, -⟩ | ⟨-, e1, e2, e3, e4⟩
      · rw [e]; simp
      · have := pr_st_len hst (n.toNat) _ (by omega) e1 e2
        rw [e4] at this
        omega
    refine b85_8 (k1 := fun r1 => ?_) (k2 := fun r1 => ?_)
    · refine b85_24 (k := ?_)
      exact hno (by omega)
    · refine b85_12 (k := ?_)
      refine pe_M.up (k23 (d := 0) hM hw.1.1.1 r.1 r.2 ?_) (by omega)
      refine b85_21 (k1 := fun r2 => ?_) (k2 := fun r2 => ?_)
      · rw [if_neg (by omega)] at k
        have hfm : pk_Fm (C + 1) σ := pk_sM0 hF
        have h12 := hR.n12
        have loop : ∀ (m j : Nat) (f : Int) (o1 : Option pe_V), (j : Int) + m = i → (0 ≤ f ∧ f < n) → (w f).2 = (a.2.1 c).2.1.drop j → pe_X (d + 2) 85 (42, [some (.inr (.inr C)), o1, some (.inl i), some (.inl f), some (.inl (j : Int))], [], σ) Φ := by
          intro m
          induction m with
          | zero =>
            intro j f o1 hj hf hwf
            refine b85_42 (k1 := fun _ => ?_) (k2 := fun r => by omega)
            refine b85_63 (k := ?_)
            refine pe_M.up (k21 (d := 0) hfm (by omega) (by omega) ?_) (by omega)
            refine b85_71 (k := ?_)
            rw [if_pos (by omega)]
            have hdr : (a.2.1 c).2.1.drop j = (a.2.1 c).2.1[j]'(by omega) :: (a.2.1 c).2.1.drop (j + 1) := List.drop_eq_getElem_cons (by omega)
            have ht := (pr_st_tail hst hf.1 hf.2 (hwf.trans hdr)).1
            rw [← ht]
            rw [show i.toNat = j by omega, List.getD_eq_getElem?_getD, List.getElem?_eq_getElem (by omega)] at k
            exact k
          | succ m ih =>
            intro j f o1 hj hf hwf
            have hdr : (a.2.1 c).2.1.drop j = (a.2.1 c).2.1[j]'(by omega) :: (a.2.1 c).2.1.drop (j + 1) := List.drop_eq_getElem_cons (by omega)
            have ht := (pr_st_tail hst hf.1 hf.2 (hwf.trans hdr)).2
            refine b85_42 (k1 := fun r => by omega) (k2 := fun _ => ?_)
            refine b85_48 (k := ?_)
            refine pe_M.up (k22 (d := 0) hfm (by omega) (by omega) ?_) (by omega)
            rw [if_pos (by omega)]
            refine b85_56 (k := ?_)
            rcases ht with ⟨t1, t2⟩ | ⟨t1, t2, t3⟩
            · have := congrArg List.length t2
              rw [List.length_drop, List.length_nil] at this
              omega
            · exact ih (j + 1) _ _ (by push_cast; omega) ⟨t1, by omega⟩ t3
        refine b85_26 (k := ?_)
        rcases b3 with ⟨e, -⟩ | ⟨-, e1, e2, e3, e4⟩
        · rw [e] at r2
          simp at r2
          omega
        · exact loop i.toNat 0 _ _ (by omega) ⟨e1, e2⟩ (by rw [e4]; rfl)
      · refine b85_24 (k := ?_)
        exact hno (by omega)
  · refine b85_5 (k1 := fun _ => ?_) (k2 := fun r => absurd rfl r)
    refine b85_24 (k := ?_)
    exact hno (by omega)
/-- channel -/
theorem k86 {ch : Int} (hG : pg_G C T U σ a im h) (hw : pg_W a im h) (hc : -2147483648 ≤ ch ∧ ch < 2147483648) (hi : -2147483648 ≤ i ∧ i < 2147483648) (hx : -2147483648 ≤ x ∧ x < 2147483648) (k : Φ (some (.inl (pa_aChan a ch i x))) σ) : pe_M (d + 1) 86 [.inr (.inr C), .inl ch, .inl i, .inl x] σ Φ := by
  have hF := hG.F
  unfold pa_aChan at k
  have hno : ¬ ((0 ≤ ch ∧ ch ≤ 2) ∧ 0 ≤ x ∧ x ≤ 1) → Φ (some (.inl (-1))) σ := fun q => by
    rw [if_pos q] at k
    exact k
  have hend : ∀ (r : Nat) (L : List Int) (o1 o2 o3 : Option pe_V), pk_Fq r σ → pk_RQ σ r L → L.length ≤ 8 → Φ (some (.inl (if i = -1 then (L.length : Int) else if 0 ≤ i ∧ i < (L.length : Int) then L.getD i.toNat 0 else -1))) σ → pe_X d 86 (45, [o1, o2, some (.inl i), o3, none], [.inr (.inr r)], σ) Φ := fun r L o1 o2 o3 hq hQ hl k => by
    have hq1 := hQ.1
    refine b86_45 (k1 := fun r1 => ?_) (k2 := fun r1 => ?_)
    · rw [if_neg r1] at k
      refine b86_58 (k1 := fun r2 => ?_) (k2 := fun r2 => ?_)
      · rw [if_neg (by omega)] at k
        refine b86_71 (k := ?_)
        refine b86_82 (k := ?_)
        exact k
      · refine b86_62 (k1 := fun r3 => ?_) (k2 := fun r3 => ?_)
        · rw [hQ.1] at r3
          rw [if_pos (by omega)] at k
          refine b86_75 (k := ?_)
          refine b86_82 (k := ?_)
          have := hQ.2 i.toNat (by omega)
          rw [show ((i.toNat : Nat) : Int) = i by omega] at this
          rw [this]
          exact k
        · rw [hQ.1] at r3
          rw [if_neg (by omega)] at k
          refine b86_71 (k := ?_)
          refine b86_82 (k := ?_)
          exact k
    · refine b86_52 (k := ?_)
      rw [if_pos r1] at k
      rw [hQ.1]; exact k
  have hql := hw.1.1.w3.ql
  refine pe_M_of ck86 (Nat.le_of_ble_eq_true rfl) ?_
  refine b86_0 (k1 := fun r1 => ?_) (k2 := fun r1 => ?_)
  · refine b86_18 (k := ?_)
    exact hno (by omega)
  · refine b86_4 (k1 := fun r2 => ?_) (k2 := fun r2 => ?_)
    · refine b86_18 (k := ?_)
      exact hno (by omega)
    · refine b86_9 (k1 := fun r3 => ?_) (k2 := fun r3 => ?_)
      · refine b86_18 (k := ?_)
        exact hno (by omega)
      · refine b86_13 (k1 := fun r4 => ?_) (k2 := fun r4 => ?_)
        · rw [if_neg (by omega)] at k
          obtain ⟨q1, q2⟩ := hG.M.q (by omega : 0 ≤ ch) (by omega)
          refine b86_20 (k1 := fun r5 => ?_) (k2 := fun r5 => ?_)
          · rw [show x = 1 by omega] at k
            refine b86_36 (k := ?_)
            exact hend _ _ _ _ _ (pk_mG (pk_sM0 hF) (by omega) (by omega)) q2 (hql 1 (by decide) ch (by omega) (by omega)) k
          · rw [show x = 0 by omega] at k
            refine b86_24 (k := ?_)
            exact hend _ _ _ _ _ (pk_mQ (pk_sM0 hF) (by omega) (by omega)) q1 (hql 0 (by decide) ch (by omega) (by omega)) k
        · refine b86_18 (k := ?_)
          exact hno (by omega)
/-- count -/
theorem k108 (hG : pg_G C T U σ a im h) (hw : pg_W a im h) (hx : -2147483648 ≤ x ∧ x < 2147483648) (k : Φ (some (.inl (pa_aCount a x))) σ) : pe_M (d + 3) 108 [.inr (.inr C), .inl x] σ Φ := by
  have hF := hG.F
  have hM := hG.M
  have h8 := hw.1.1.1.1
  obtain ⟨e4, e5, e6⟩ := hM.cnt
  unfold pa_aCount at k
  refine pe_M_of ck108 (Nat.le_of_ble_eq_true rfl) ?_
  refine b108_0 (k0 := fun r => ?_) (k1 := fun r => ?_) (k2 := fun r => ?_) (k3 := fun r => ?_) (k4 := fun r => ?_) (k5 := fun r => ?_) (kd := fun r0 r1 r2 r3 r4 r5 => ?_)
  · refine b108_40 (k := ?_)
    rw [if_pos r] at k
    rw [e4]; exact k
  · refine b108_48 (k := ?_)
    rw [if_neg (by omega), if_pos r] at k
    rw [e6]; exact k
  · refine b108_56 (k := ?_)
    rw [if_neg (by omega), if_neg (by omega), if_pos r] at k
    rw [e5]; exact k
  · refine b108_64 (k := ?_)
    rw [if_neg (by omega), if_neg (by omega), if_neg (by omega), if_pos r] at k
    refine pe_M.up (k17 (d := 0) hM hw.1.1.1 ?_) (by omega)
    refine b108_71 (k := ?_)
    exact k
  · rw [if_neg (by omega), if_neg (by omega), if_neg (by omega), if_neg (by omega), if_pos r] at k
    have hb := pa_bits_255 (pa_isEnd a) (n := (a.1 4).toNat) (by omega)
    refine b108_72 (k := ?_)
    refine pe_M.up (k16 (d := 0) hM ?_) (by omega)
    refine b108_79 (k := ?_)
    refine pe_M.up (k17 (d := 0) hM hw.1.1.1 ?_) (by omega)
    refine b108_86 (k := ?_)
    refine pe_M.up (k19 (d := 0) hM hw.1.1.1 ?_) (by omega)
    refine b108_96 (k := ?_)
    have e : pe_shl 1 (a.1 4) - 1 = pe_shl 1 (((a.1 4).toNat : Nat) : Int) - 1 := by rw [show (((a.1 4).toNat : Nat) : Int) = a.1 4 by omega]
    rw [e, pb_but _ (by omega), pb_lss _ _ (by omega), pa_bits_ext (q := pa_isWait a) _ (fun i hi => ?_)]
    · exact k
    · unfold pa_isEnd pa_isAble pa_isWait
      rw [Bool.eq_iff_iff]
      simp
      omega
  · refine b108_100 (k := ?_)
    rw [if_neg (by omega), if_neg (by omega), if_neg (by omega), if_neg (by omega), if_neg (by omega), if_pos r] at k
    refine pe_M.up (k20 (d := 0) hM hw.1.1.1 ?_) (by omega)
    refine b108_107 (k := ?_)
    exact k
  · refine b108_108 (k := ?_)
    rw [if_neg (by omega), if_neg (by omega), if_neg (by omega), if_neg (by omega), if_neg (by omega), if_neg (by omega)] at k
    exact k
end

