/-! THE MODEL: shares, rounds lost by odds -/
/-- a share in least terms -/
def pa_part (u v x : Int) : Int := if u = 0 then x else (if x = 0 then u else v) / (Nat.gcd u.toNat v.toNat : Int)
def pa_shareOf (a : pa_M) (x : Int) : Int := if ¬ (0 ≤ x ∧ x ≤ 1) then 1000000001 else pa_part (pb_c (pa_bits (pa_isEnd a) (a.1 4).toNat)) (a.1 4) x
noncomputable def pa_ways (t c : Int) : Nat → pa_M → Int
  | 0, s => if 6 ≤ (s.2.1 c).1 2 then 1 else 0
  | m + 1, s => (t - 1) * pa_ways t c m (pa_round s) + pa_ways t c m (pa_lose s)
noncomputable def pa_aLost (a : pa_M) (c n t x : Int) : Int := if ¬ ((0 ≤ c ∧ c < a.1 4) ∧ (0 ≤ n ∧ n ≤ 7) ∧ (2 ≤ t ∧ t ≤ 20) ∧ 0 ≤ x ∧ x ≤ 1) then 1000000001 else pa_part (pa_ways t c n.toNat a) (t ^ n.toNat) x
/-- the rounds of one way, its odds -/
noncomputable def pa_bp (b : Int) : Nat → Nat → pa_M → pa_M
  | 0, _, s => s
  | m + 1, k, s => pa_bp b m (k + 1) (if pb_h b k = true then pa_lose s else pa_round s)
def pa_bo (t b : Int) : Nat → Nat → Int
  | 0, _ => 1
  | m + 1, k => (if pb_h b k = true then 1 else t - 1) * pa_bo t b m (k + 1)
noncomputable def pa_bw (t c b : Int) (m k : Nat) (s : pa_M) : Int := if 6 ≤ ((pa_bp b m k s).2.1 c).1 2 then pa_bo t b m k else 0
theorem pa_sum_ext {f g : Int → Int} : ∀ (n : Nat), (∀ i : Nat, i < n → f i = g i) → pa_sum f n = pa_sum g n
  | 0, _ => rfl
  | n + 1, h => by
    unfold pa_sum
    rw [pa_sum_ext n (fun i hi => h i (by omega)), h n (by omega)]
theorem pa_sum_mul (f : Int → Int) (x : Int) : ∀ n : Nat, pa_sum (fun i => x * f i) n = x * pa_sum f n
  | 0 => by simp [pa_sum]
  | n + 1 => by
    unfold pa_sum
    rw [pa_sum_mul f x n, Int.mul_add]
theorem pa_sum_two (f : Int → Int) : ∀ n : Nat, pa_sum f (2 * n) = pa_sum (fun i => f (2 * i)) n + pa_sum (fun i => f (2 * i + 1)) n
  | 0 => rfl
  | n + 1 => by
    have h := pa_sum_two f n
    rw [show 2 * (n + 1) = 2 * n + 1 + 1 by omega]
    simp only [pa_sum]
    rw [h]
    have e1 : (((2 * n : Nat) : Int)) = 2 * (n : Int) := by push_cast; rfl
    have e2 : (((2 * n + 1 : Nat) : Int)) = 2 * (n : Int) + 1 := by push_cast; rfl
    rw [e1, e2]
    omega
theorem pb_h_all : ∀ x : Fin 128, ∀ k : Fin 7, pb_h (x.val : Int) k.val = decide ((x.val : Int) / ((2 ^ k.val : Nat) : Int) % 2 = 1) := by decide +kernel
theorem pb_h_at {b i : Int} {P k : Nat} {bit : Int} (hk : k < 7) (hP : P = 2 ^ k) (hb0 : 0 ≤ b) (hb : b < P) (hi : 0 ≤ i) (hbit : bit = 0 ∨ bit = 1) (h : b + P * (2 * i + bit) < 128) : pb_h (b + P * (2 * i + bit)) k = decide (bit = 1) := by
  have hp : 0 < (P : Int) := by omega
  have h0 : 0 ≤ (P : Int) * (2 * i + bit) := Int.mul_nonneg (by omega) (by omega)
  obtain ⟨u, hu⟩ : ∃ u : Fin 128, (u.val : Int) = b + P * (2 * i + bit) := ⟨⟨(b + P * (2 * i + bit)).toNat, by omega⟩, by show ((b + P * (2 * i + bit)).toNat : Int) = _; omega⟩
  have := pb_h_all u ⟨k, hk⟩
  rw [hu] at this
  rw [this]
  have e : (b + P * (2 * i + bit)) / (P : Int) = 2 * i + bit := by
    rw [Int.add_mul_ediv_left _ _ (by omega), Int.ediv_eq_zero_of_lt hb0 hb]
    omega
  show decide ((b + P * (2 * i + bit)) / ((2 ^ k : Nat) : Int) % 2 = 1) = _
  rw [← hP, e]
  congr 1
  apply propext
  omega
/-- all ways, counted by their numbers -/
theorem pa_ways_sum (t c : Int) : ∀ (m k : Nat) (b : Int) (P Q : Nat) (s : pa_M), k + m ≤ 7 → P = 2 ^ k → Q = 2 ^ m → 0 ≤ b → b < P → P * Q ≤ 128 → pa_sum (fun i => pa_bw t c (b + P * i) m k s) Q = pa_ways t c m s
  | 0, k, b, P, Q, s, _, _, hQ, _, _, _ => by
    subst hQ
    show 0 + pa_bw t c _ 0 k s = _
    unfold pa_bw pa_bp pa_bo pa_ways
    omega
  | m + 1, k, b, P, Q, s, hkm, hP, hQ, hb0, hb, hPQ => by
    obtain ⟨R, hR⟩ : ∃ R : Nat, R = 2 ^ m := ⟨_, rfl⟩
    have hQ2 : Q = 2 * R := by rw [hQ, hR, Nat.pow_succ]; omega
    have hR1 : P * (2 * R) ≤ 128 := by rw [← hQ2]; exact hPQ
    have hR2 : 2 * P * R ≤ 128 := by rw [show 2 * P * R = P * (2 * R) by rw [Nat.mul_comm 2 P, Nat.mul_assoc]]; exact hR1
    have hlt : ∀ i : Nat, i < R → ∀ bit : Int, bit = 0 ∨ bit = 1 → b + P * (2 * (i : Int) + bit) < 128 := fun i hi bit hbit => by
      have h1 : P * (2 * i + 1 + 1) ≤ P * (2 * R) := Nat.mul_le_mul_left P (by omega)
      have h2 : (P : Int) * (2 * (i : Int) + bit) ≤ P * (2 * i + 1) := Int.mul_le_mul_of_nonneg_left (by omega) (by omega)
      have h3 : ((P * (2 * i + 1 + 1) : Nat) : Int) = P * (2 * (i : Int) + 1) + P := by push_cast; rw [Int.mul_add, Int.mul_one]
      omega
    have hstep : ∀ (bit : Int), bit = 0 ∨ bit = 1 → pa_sum (fun i => pa_bw t c (b + P * (2 * i + bit)) (m + 1) k s) R = (if bit = 1 then 1 else t - 1) * pa_ways t c m (if bit = 1 then pa_lose s else pa_round s) := fun bit hbit => by
      have ih := pa_ways_sum t c m (k + 1) (b + P * bit) (2 * P) R (if bit = 1 then pa_lose s else pa_round s) (by omega) (by rw [hP, Nat.pow_succ]; omega) hR (by rcases hbit with rfl | rfl <;> omega) (by rcases hbit with rfl | rfl <;> (push_cast; omega)) hR2
      rw [← ih, ← pa_sum_mul]
      refine pa_sum_ext R (fun i hi => ?_)
      have hx : b + P * (2 * (i : Int) + bit) = b + P * bit + ((2 * P : Nat) : Int) * (i : Int) := by
        rw [Int.mul_add, show (P : Int) * (2 * (i : Int)) = ((2 * P : Nat) : Int) * (i : Int) by push_cast; rw [← Int.mul_assoc, Int.mul_comm (P : Int) 2]]
        omega
      have hbt := pb_h_at (by omega : k < 7) hP hb0 hb (by omega : 0 ≤ (i : Int)) hbit (hlt i hi bit hbit)
      have e1 : pa_bp (b + P * (2 * (i : Int) + bit)) (m + 1) k s = pa_bp (b + P * (2 * (i : Int) + bit)) m (k + 1) (if bit = 1 then pa_lose s else pa_round s) := by
        show pa_bp _ m (k + 1) (if pb_h _ k = true then pa_lose s else pa_round s) = _
        rw [hbt]
        simp
      have e2 : pa_bo t (b + P * (2 * (i : Int) + bit)) (m + 1) k = (if bit = 1 then 1 else t - 1) * pa_bo t (b + P * (2 * (i : Int) + bit)) m (k + 1) := by
        show (if pb_h _ k = true then 1 else t - 1) * _ = _
        rw [hbt]
        simp
      show pa_bw t c (b + P * (2 * (i : Int) + bit)) (m + 1) k s = (if bit = 1 then 1 else t - 1) * pa_bw t c (b + P * bit + ((2 * P : Nat) : Int) * (i : Int)) m (k + 1) _
      rw [← hx]
      unfold pa_bw
      rw [e1, e2]
      by_cases q : 6 ≤ ((pa_bp (b + P * (2 * (i : Int) + bit)) m (k + 1) (if bit = 1 then pa_lose s else pa_round s)).2.1 c).1 2
      · rw [if_pos q, if_pos q]
      · rw [if_neg q, if_neg q, Int.mul_zero]
    rw [hQ2, pa_sum_two]
    have h0 := hstep 0 (Or.inl rfl)
    have h1 := hstep 1 (Or.inr rfl)
    simp only [Int.add_zero] at h0
    rw [h0, h1]
    have z : ¬ ((0 : Int) = 1) := by decide
    rw [if_neg z, if_neg z, if_pos (rfl : (1 : Int) = 1), if_pos (rfl : (1 : Int) = 1), Int.one_mul]
    rfl
theorem pa_ways_b (t c : Int) (ht : 2 ≤ t) : ∀ (m : Nat) (s : pa_M), 0 ≤ pa_ways t c m s ∧ pa_ways t c m s ≤ t ^ m
  | 0, s => by
    unfold pa_ways
    split <;> simp
  | m + 1, s => by
    have h1 := pa_ways_b t c ht m (pa_round s)
    have h2 := pa_ways_b t c ht m (pa_lose s)
    unfold pa_ways
    have h3 : 0 ≤ (t - 1) * pa_ways t c m (pa_round s) := Int.mul_nonneg (by omega) h1.1
    have h4 : (t - 1) * pa_ways t c m (pa_round s) ≤ (t - 1) * t ^ m := Int.mul_le_mul_of_nonneg_left h1.2 (by omega)
    have h5 : t ^ (m + 1) = (t - 1) * t ^ m + t ^ m := by rw [Int.pow_succ, Int.sub_mul, Int.one_mul, Int.mul_comm]; omega
    omega
theorem pa_pow_b {t : Int} (h2 : 2 ≤ t) (h20 : t ≤ 20) : ∀ m : Nat, m ≤ 7 → 1 ≤ t ^ m ∧ t ^ m ≤ 1280000000 := by
  have key : ∀ m : Nat, 1 ≤ t ^ m ∧ t ^ m ≤ 20 ^ m := by
    intro m
    induction m with
    | zero => simp
    | succ m ih =>
      rw [Int.pow_succ, Int.pow_succ]
      have h1 : t ^ m * 1 ≤ t ^ m * t := Int.mul_le_mul_of_nonneg_left (by omega) (by omega)
      have h3 : t ^ m * t ≤ 20 ^ m * t := Int.mul_le_mul_of_nonneg_right ih.2 (by omega)
      have h4 : (20 : Int) ^ m * t ≤ 20 ^ m * 20 := Int.mul_le_mul_of_nonneg_left h20 (by omega)
      omega
  intro m hm
  have h1 := key m
  have h2 : (20 : Int) ^ m ≤ 20 ^ 7 := by
    have : ∀ m : Fin 8, (20 : Int) ^ m.val ≤ 20 ^ 7 := by decide +kernel
    exact this ⟨m, by omega⟩
  have h3 : (20 : Int) ^ 7 = 1280000000 := by decide +kernel
  omega
section
variable {d M q : Nat} {Φ : Option pe_V → pe_H → Prop} {σ : pe_H} {y : Nat → Int → Int} {a : pa_M} {c n : Int}
/-- divisor -/
theorem c222 {u v : Nat} (hF : pm_F M σ) (hu : u < 4611686018427387904) (hv : v < 4611686018427387904) (k : Φ (some (.inr (.inl (Nat.gcd u v : Int)))) (pm_h M σ q y)) : pe_M (d + 1) 222 [.inr (.inl (u : Int)), .inr (.inl (v : Int))] (pm_h M σ q y) Φ := by
  have loop : ∀ (m u1 v1 : Nat) (o0 o1 o2 o3 o8 o9 : Option pe_V), v1 ≤ m → u1 < 4611686018427387904 → v1 < 4611686018427387904 → Nat.gcd u1 v1 = Nat.gcd u v → pe_X d 222 (6, [o0, o1, o2, o3, some (.inr (.inl (u1 : Int))), none, some (.inr (.inl (v1 : Int))), none, o8, o9], [], pm_h M σ q y) Φ := by
    intro m
    induction m with
    | zero =>
      intro u1 v1 o0 o1 o2 o3 o8 o9 hm h1 h2 hg
      have e : pe_lcmp (v1 : Int) 0 = _ := pe_lcmp_s (by omega) (by decide)
      have : v1 = 0 := by omega
      subst this
      have e0 : pe_lcmp ((0 : Nat) : Int) 0 = 0 := by rw [e]; rfl
      refine b222_6 hF (w0 := by rw [e0]; unfold pe_in; decide) (k1 := fun _ => ?_) (k2 := fun r => by omega)
      refine b222_31 hF (k := ?_)
      rw [Nat.gcd_zero_right] at hg
      rw [hg]
      exact k
    | succ m ih =>
      intro u1 v1 o0 o1 o2 o3 o8 o9 hm h1 h2 hg
      have e : pe_lcmp (v1 : Int) 0 = _ := pe_lcmp_s (by omega) (by decide)
      have ew : pe_in (pe_lcmp (v1 : Int) 0) := by rw [e]; unfold pe_in; split <;> (try split) <;> omega
      by_cases h0 : v1 = 0
      · subst h0
        have e0 : pe_lcmp ((0 : Nat) : Int) 0 = 0 := by rw [e]; rfl
        refine b222_6 hF (w0 := ew) (k1 := fun _ => ?_) (k2 := fun r => by omega)
        refine b222_31 hF (k := ?_)
        rw [Nat.gcd_zero_right] at hg
        rw [hg]
        exact k
      · have e0 : pe_lcmp (v1 : Int) 0 = 1 := by rw [e, if_neg (by omega), if_neg (by omega)]
        have ea : pe_wl (u1 : Int) = u1 := pe_wl_id (by omega)
        have eb : pe_wl (v1 : Int) = v1 := pe_wl_id (by omega)
        refine b222_6 hF (w0 := ew) (k1 := fun r => by omega) (k2 := fun _ => ?_)
        refine b222_13 hF (h0 := by rw [eb]; omega) (k := ?_)
        rw [ea, eb, show Int.tmod (u1 : Int) (v1 : Int) = ((u1 % v1 : Nat) : Int) from rfl]
        have := Nat.mod_lt u1 (by omega : 0 < v1)
        exact ih v1 (u1 % v1) _ _ _ _ _ _ (by omega) h2 (by omega) (by rw [← hg, Nat.gcd_comm u1 v1, Nat.gcd_rec v1 u1, Nat.gcd_comm])
  refine pe_M_of ck222 (Nat.le_of_ble_eq_true rfl) ?_
  refine b222_0 hF (k := ?_)
  exact loop v u v _ _ _ _ _ _ (Nat.le_refl _) hu hv rfl
/-- partOf -/
theorem c223 {u v x : Int} (hF : pm_F M σ) (hu0 : 0 ≤ u) (hu : u < 4611686018427387904) (hv0 : 0 ≤ v) (hv : v < 4611686018427387904) (hx : x = 0 ∨ x = 1) (k : Φ (some (.inr (.inl (pa_part u v x)))) (pm_h M σ q y)) : pe_M (d + 2) 223 [.inr (.inl u), .inr (.inl v), .inl x] (pm_h M σ q y) Φ := by
  have e : pe_lcmp u 0 = _ := pe_lcmp_s (by omega) (by decide)
  have ew : pe_in (pe_lcmp u 0) := by rw [e]; unfold pe_in; split <;> (try split) <;> omega
  unfold pa_part at k
  refine pe_M_of ck223 (Nat.le_of_ble_eq_true rfl) ?_
  by_cases h0 : u = 0
  · have e0 : pe_lcmp u 0 = 0 := by rw [e, if_neg (by omega), if_pos h0]
    rw [if_pos h0] at k
    refine b223_0 hF (w0 := ew) (k1 := fun r => by omega) (k2 := fun _ => ?_)
    refine b223_6 hF (k := ?_)
    exact k
  · have e0 : pe_lcmp u 0 = 1 := by rw [e, if_neg (by omega), if_neg (by omega)]
    rw [if_neg h0] at k
    refine b223_0 hF (w0 := ew) (k1 := fun _ => ?_) (k2 := fun r => by omega)
    refine b223_10 hF (k := ?_)
    obtain ⟨u', rfl⟩ : ∃ u' : Nat, (u' : Int) = u := ⟨u.toNat, by omega⟩
    obtain ⟨v', rfl⟩ : ∃ v' : Nat, (v' : Int) = v := ⟨v.toNat, by omega⟩
    refine c222 hF (by omega) (by omega) ?_
    rw [Int.toNat_natCast, Int.toNat_natCast] at k
    have hgp : 0 < Nat.gcd u' v' := Nat.gcd_pos_of_pos_left _ (by omega)
    have hgl : Nat.gcd u' v' ≤ u' := Nat.gcd_le_left _ (by omega)
    generalize Nat.gcd u' v' = g at *
    have ea : pe_wl (u' : Int) = u' := pe_wl_id (by omega)
    have eb : pe_wl (v' : Int) = v' := pe_wl_id (by omega)
    have eg : pe_wl (g : Int) = g := pe_wl_id (by omega)
    refine b223_15 hF (k1 := fun rx => ?_) (k2 := fun rx => ?_)
    · rw [if_neg rx] at k
      refine b223_29 hF (h0 := by rw [eg]; omega) (k := ?_)
      rw [eb, eg, Int.tdiv_eq_ediv_of_nonneg (by omega)]
      refine b223_33 hF (k := ?_)
      exact k
    · rw [if_pos rx] at k
      refine b223_22 hF (h0 := by rw [eg]; omega) (k := ?_)
      rw [ea, eg, Int.tdiv_eq_ediv_of_nonneg (by omega)]
      refine b223_33 hF (k := ?_)
      exact k
/-- lost -/
theorem c224 {t x : Int} (hF : pm_F M σ) (hM : pm_R y a) (hwf : pa_wf a) (hc : -2147483648 ≤ c ∧ c < 2147483648) (hn : -2147483648 ≤ n ∧ n < 2147483648) (ht : -2147483648 ≤ t ∧ t < 2147483648) (hx : -2147483648 ≤ x ∧ x < 2147483648) (k : ∀ q' y2, pm_Pb y y2 a → Φ (some (.inr (.inl (pa_aLost a c n t x)))) (pm_h M σ q' y2)) : pe_M (d + 8) 224 [.inr (.inr M), .inl c, .inl n, .inl t, .inl x] (pm_h M σ q y) Φ := by
  have h8 := hwf.1.1
  have hP := pm_Pb_37 hM hwf
  unfold pa_aLost at k
  have hno : ¬ ((0 ≤ c ∧ c < a.1 4) ∧ (0 ≤ n ∧ n ≤ 7) ∧ (2 ≤ t ∧ t ≤ 20) ∧ 0 ≤ x ∧ x ≤ 1) → pe_X (d + 7) 224 (50, [some (.inr (.inr M)), some (.inl c), some (.inl n), some (.inl t), some (.inl x), none, none, none, none, none, none, none, none], [], pm_h M σ q (pm_u y 0 37 0)) Φ := fun h => by
    rw [if_pos h] at k
    refine b224_50 hF (k := ?_)
    exact k _ _ hP
  have e4 := hP.R.cnt.1
  refine pe_M_of ck224 (Nat.le_of_ble_eq_true rfl) ?_
  refine b224_0 hF (k := ?_)
  generalize pm_u y 0 37 0 = z at *
  refine pe_M.up (c138 (d := 0) hF (by omega) hc (fun r => ?_) (fun r => ?_)) (by omega)
  · refine b224_10 hF (k1 := fun r => by omega) (k2 := fun _ => ?_)
    refine b224_13 hF (k := ?_)
    refine pe_M.up (c134 (d := 0) hF (by omega) (by omega) (by omega) (fun rn => ?_) (fun rn => ?_)) (by omega)
    · refine b224_22 hF (k1 := fun r => by omega) (k2 := fun _ => ?_)
      refine b224_25 hF (k := ?_)
      refine pe_M.up (c134 (d := 0) hF (by omega) (by omega) (by omega) (fun rt => ?_) (fun rt => ?_)) (by omega)
      · refine b224_36 hF (k1 := fun r => by omega) (k2 := fun _ => ?_)
        refine b224_39 hF (k := ?_)
        refine pe_M.up (c134 (d := 0) hF (by omega) (by omega) (by omega) (fun rx => ?_) (fun rx => ?_)) (by omega)
        · refine b224_47 hF (k1 := fun _ => ?_) (k2 := fun r => by omega)
          refine b224_54 hF (k := ?_)
          rw [if_neg (by omega)] at k
          have h1 : c < a.1 4 := by omega
          obtain ⟨N, rfl⟩ : ∃ N : Nat, (N : Int) = n := ⟨n.toNat, by omega⟩
          rw [Int.toNat_natCast] at k
          have hpw := pa_pow_b rt.1 rt.2
          have eshl : pe_shl 1 (N : Int) = ((2 ^ N : Nat) : Int) := by
            have : ∀ m : Fin 8, pe_shl 1 (m.val : Int) = ((2 ^ m.val : Nat) : Int) := by decide +kernel
            exact this ⟨N, by omega⟩
          have h2N : 1 ≤ 2 ^ N ∧ 2 ^ N ≤ 128 := by
            have : ∀ m : Fin 8, 1 ≤ 2 ^ m.val ∧ 2 ^ m.val ≤ 128 := by decide +kernel
            exact this ⟨N, by omega⟩
          have hws := pa_ways_sum t c N 0 0 1 (2 ^ N) a (by omega) rfl rfl (by decide) (by decide) (by omega)
          have hwb := pa_ways_b t c rt.1 N a
          have hsum0 : ∀ m : Nat, 0 ≤ pa_sum (fun i => pa_bw t c (0 + ((1 : Nat) : Int) * i) N 0 a) m := by
            have hbo : ∀ (b : Int) (m k : Nat), 0 ≤ pa_bo t b m k := by
              intro b m
              induction m with
              | zero => intro k; unfold pa_bo; omega
              | succ m ih => intro k; unfold pa_bo; exact Int.mul_nonneg (by split <;> omega) (ih _)
            intro m
            induction m with
            | zero => exact Int.le_refl _
            | succ m ih =>
              unfold pa_sum
              have : 0 ≤ pa_bw t c (0 + ((1 : Nat) : Int) * (m : Int)) N 0 a := by
                unfold pa_bw
                split
                · exact hbo _ _ _
                · omega
              omega
          have loop2 : ∀ (m i : Nat) (S : Int) (o10 o11 o12 : Option pe_V) (y4 : Nat → Int → Int), i + m = 2 ^ N → S = pa_sum (fun i => pa_bw t c (0 + ((1 : Nat) : Int) * i) N 0 a) i → pm_Mi y a y4 a → pe_X (d + 7) 224 (89, [some (.inr (.inr M)), some (.inl c), some (.inl (N : Int)), some (.inl t), some (.inl x), some (.inr (.inl S)), none, some (.inr (.inl (t ^ N))), none, some (.inl (i : Int)), o10, o11, o12], [], pm_h M σ (M + 38) y4) Φ := by
            intro m
            induction m with
            | zero =>
              intro i S o10 o11 o12 y4 hi hS u1
              refine b224_89 hF (w0 := by rw [eshl]; unfold pe_in; omega) (k1 := fun _ => ?_) (k2 := fun r => by omega)
              refine b224_178 hF (k := ?_)
              have hiN : i = 2 ^ N := by omega
              subst hiN
              rw [hws] at hS
              have := hpw N (by omega)
              refine pe_M.up (c223 (d := 0) hF (by omega) (by omega) (by omega) (by omega) (by omega) ?_) (by omega)
              refine b224_187 hF (k := ?_)
              rw [hS]
              exact k _ _ (pm_Mi_Pb u1)
            | succ m ih =>
              intro i S o10 o11 o12 y4 hi hS u1
              have inner : ∀ (m2 j : Nat) (od : Int) (y5 : Nat → Int → Int) (s : pa_M), j + m2 = N → pm_Mi y a y5 s → pa_wf s → s.1 4 = a.1 4 → pa_bp (i : Int) m2 j s = pa_bp (i : Int) N 0 a → od * pa_bo t (i : Int) m2 j = pa_bo t (i : Int) N 0 → pe_X (d + 7) 224 (103, [some (.inr (.inr M)), some (.inl c), some (.inl (N : Int)), some (.inl t), some (.inl x), some (.inr (.inl S)), none, some (.inr (.inl (t ^ N))), none, some (.inl (i : Int)), some (.inr (.inl od)), none, some (.inl (j : Int))], [], pm_h M σ (M + 38) y5) Φ := by
                intro m2
                induction m2 with
                | zero =>
                  intro j od y5 s hj v1 v2 v3 v4 v5
                  have v4 : s = _ := v4
                  have v5 : od * 1 = _ := v5
                  have i2 := (v1.R.nn r.1 (by omega)).1.1.2.1
                  have hb := (v2.1.2.2.1 c r.1 (by omega)).1.2.1
                  have hS1 : pa_sum (fun i => pa_bw t c (0 + ((1 : Nat) : Int) * i) N 0 a) (i + 1) = S + (if 6 ≤ (s.2.1 c).1 2 then od else 0) := by
                    rw [hS, v4, show od = pa_bo t (i : Int) N 0 by omega]
                    show _ + pa_bw t c (0 + ((1 : Nat) : Int) * (i : Int)) N 0 a = _
                    rw [show 0 + ((1 : Nat) : Int) * (i : Int) = i by omega]
                    rfl
                  refine b224_103 hF (k1 := fun _ => ?_) (k2 := fun r => by omega)
                  refine b224_149 hF (k := ?_)
                  refine pe_M.up (c139 (d := 0) hF r.1 (by omega) (by omega) (fun r6 => ?_) (fun r6 => ?_)) (by omega)
                  · rw [if_pos (by omega)] at hS1
                    refine b224_156 hF (k1 := fun r => by omega) (k2 := fun _ => ?_)
                    refine b224_159 hF (k := ?_)
                    refine b224_165 hF (k := ?_)
                    refine pe_M.up (c188m (d := 0) hF v1 hwf (fun y6 g1 g2 => ?_)) (by omega)
                    refine b224_172 hF (k := ?_)
                    exact ih (i + 1) _ _ _ _ y6 (by omega) hS1.symm g1
                  · rw [if_neg (by omega)] at hS1
                    refine b224_156 hF (k1 := fun _ => ?_) (k2 := fun r => absurd rfl r)
                    refine b224_164 hF (k := ?_)
                    refine b224_165 hF (k := ?_)
                    refine pe_M.up (c188m (d := 0) hF v1 hwf (fun y6 g1 g2 => ?_)) (by omega)
                    refine b224_172 hF (k := ?_)
                    exact ih (i + 1) _ _ _ _ y6 (by omega) hS1.symm g1
                | succ m2 ih2 =>
                  intro j od y5 s hj v1 v2 v3 v4 v5
                  have v4 : pa_bp (i : Int) m2 (j + 1) (if pb_h (i : Int) j = true then pa_lose s else pa_round s) = pa_bp (i : Int) N 0 a := v4
                  have v5 : od * ((if pb_h (i : Int) j = true then 1 else t - 1) * pa_bo t (i : Int) m2 (j + 1)) = pa_bo t (i : Int) N 0 := v5
                  refine b224_103 hF (k1 := fun r => by omega) (k2 := fun _ => ?_)
                  refine b224_109 hF (k := ?_)
                  refine pe_M.up (c135 (d := 0) hF (by omega) (by omega) (by omega) (by omega) (fun rb => ?_) (fun rb => ?_)) (by omega)
                  · rw [Int.toNat_natCast] at rb
                    rw [rb, if_pos rfl] at v4 v5
                    refine b224_118 hF (k1 := fun r => by omega) (k2 := fun _ => ?_)
                    refine b224_121 hF (k := ?_)
                    refine b224_129 hF (k := ?_)
                    refine pe_M.up (c135 (d := 0) hF (by omega) (by omega) (by omega) (by omega) (fun _ => ?_) (fun rb2 => absurd rb (by rw [Int.toNat_natCast] at rb2; rw [rb2]; simp))) (by omega)
                    refine b224_140 hF (k := ?_)
                    refine c169t hF v1.R v2 (fun y6 w1 w2 w3 => ?_)
                    refine b224_143 hF (k := ?_)
                    refine ih2 (j + 1) _ y6 _ (by omega) (v1.st w1 w3) (pa_olds_wf (pa_day_wf v2)) v3 v4 ?_
                    rw [Int.mul_one]
                    rw [Int.one_mul] at v5
                    exact v5
                  · rw [Int.toNat_natCast] at rb
                    rw [rb, if_neg (by simp)] at v4 v5
                    refine b224_118 hF (k1 := fun _ => ?_) (k2 := fun r => absurd rfl r)
                    refine b224_125 hF (k := ?_)
                    refine b224_129 hF (k := ?_)
                    refine pe_M.up (c135 (d := 0) hF (by omega) (by omega) (by omega) (by omega) (fun rb2 => absurd rb (by rw [Int.toNat_natCast] at rb2; rw [rb2]; simp)) (fun _ => ?_)) (by omega)
                    refine b224_140 hF (k := ?_)
                    refine c169f hF v1.R v2 (fun y6 w1 w2 w3 => ?_)
                    refine b224_143 hF (k := ?_)
                    refine ih2 (j + 1) _ y6 _ (by omega) (v1.st w1 w3) (pa_round_wf v2).1 ((pa_round4 v2).1.trans v3) v4 ?_
                    rw [Int.mul_assoc]
                    exact v5
              refine b224_89 hF (w0 := by rw [eshl]; unfold pe_in; omega) (k1 := fun r => by omega) (k2 := fun _ => ?_)
              refine b224_97 hF (k := ?_)
              exact inner N 0 1 y4 a (by omega) u1 hwf rfl rfl (Int.one_mul _)
          have loop1 : ∀ (m i : Nat) (b : Int) (o10 o11 o12 : Option pe_V), i + m = N → b = t ^ i → pe_X (d + 7) 224 (63, [some (.inr (.inr M)), some (.inl c), some (.inl (N : Int)), some (.inl t), some (.inl x), some (.inr (.inl 0)), none, some (.inr (.inl b)), none, some (.inl (i : Int)), o10, o11, o12], [], pm_h M σ q z) Φ := by
            intro m
            induction m with
            | zero =>
              intro i b o10 o11 o12 hi hb
              refine b224_63 hF (k1 := fun _ => ?_) (k2 := fun r => by omega)
              refine b224_82 hF (k := ?_)
              refine pe_M.up (c187q (d := 0) hF hP hwf (fun y4 g => ?_)) (by omega)
              refine b224_86 hF (k := ?_)
              rw [hb, show i = N by omega]
              exact loop2 (2 ^ N) 0 0 _ _ _ y4 (by omega) rfl g
            | succ m ih =>
              intro i b o10 o11 o12 hi hb
              refine b224_63 hF (k1 := fun r => by omega) (k2 := fun _ => ?_)
              refine b224_69 hF (k := ?_)
              exact ih (i + 1) _ _ _ _ (by omega) (by rw [hb, Int.pow_succ])
          exact loop1 N 0 1 _ _ _ (by omega) (by simp)
        · refine b224_47 hF (k1 := fun r => absurd rfl r) (k2 := fun _ => ?_)
          exact hno (by omega)
      · refine b224_36 hF (k1 := fun _ => ?_) (k2 := fun r => absurd rfl r)
        exact hno (by omega)
    · refine b224_22 hF (k1 := fun _ => ?_) (k2 := fun r => absurd rfl r)
      exact hno (by omega)
  · refine b224_10 hF (k1 := fun _ => ?_) (k2 := fun r => absurd rfl r)
    exact hno (by omega)
/-- share -/
theorem c225 {x : Int} (hF : pm_F M σ) (hM : pm_R y a) (hwf : pa_wf a) (hx : -2147483648 ≤ x ∧ x < 2147483648) (k : ∀ q' y2, pm_Pb y y2 a → Φ (some (.inr (.inl (pa_shareOf a x)))) (pm_h M σ q' y2)) : pe_M (d + 3) 225 [.inr (.inr M), .inl x] (pm_h M σ q y) Φ := by
  have h8 := hwf.1.1
  have hP := pm_Pb_37 hM hwf
  unfold pa_shareOf at k
  have e4 := hP.R.cnt.1
  refine pe_M_of ck225 (Nat.le_of_ble_eq_true rfl) ?_
  refine b225_0 hF (k := ?_)
  generalize pm_u y 0 37 0 = z at *
  refine pe_M.up (c134 (d := 0) hF (by omega) (by omega) (by omega) (fun r => ?_) (fun r => ?_)) (by omega)
  · rw [if_neg (by omega)] at k
    refine b225_12 hF (k1 := fun r => by omega) (k2 := fun _ => ?_)
    refine b225_15 hF (k := ?_)
    refine c141 hF hP.R hwf.1 ?_
    refine b225_19 hF (k := ?_)
    have hb := pa_bits_255 (pa_isEnd a) (n := (a.1 4).toNat) (by omega)
    have hc8 : 0 ≤ pb_c (pa_bits (pa_isEnd a) (a.1 4).toNat) ∧ pb_c (pa_bits (pa_isEnd a) (a.1 4).toNat) ≤ 8 := by
      obtain ⟨u, e⟩ := pb_fin hb.1 hb.2
      rw [← e]
      exact pb_c_8 u
    refine pe_M.up (c136 (d := 0) hF hb.1 hb.2 ?_) (by omega)
    refine b225_22 hF (k := ?_)
    rw [e4]
    refine c223 hF (by omega) (by omega) (by omega) (by omega) (by omega) ?_
    refine b225_32 hF (k := ?_)
    refine b225_38 hF (k := ?_)
    exact k _ _ hP
  · rw [if_pos (by omega)] at k
    refine b225_12 hF (k1 := fun _ => ?_) (k2 := fun r => absurd rfl r)
    refine b225_35 hF (k := ?_)
    refine b225_38 hF (k := ?_)
    exact k _ _ hP
end
