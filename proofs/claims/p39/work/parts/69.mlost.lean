/-! THE MODEL: shares, rounds lost by odds -/
/-- a share in least terms -/
def pa_part (u v x : Int) : Int := if u = 0 then x else (if x = 0 then u else v) / (Nat.gcd u.toNat v.toNat : Int)
def pa_shareOf (a : pa_M) (x : Int) : Int := if ¬ (0 ≤ x ∧ x ≤ 1) then 1000000001 else pa_part (pb_c (pa_bits (pa_isEnd a) (a.1 4).toNat)) (a.1 4) x
noncomputable def pa_ways (t c : Int) : Nat → pa_M → Int
  | 0, s => if 6 ≤ (s.2.1 c).1 2 then 1 else 0
  | m + 1, s => (t - 1) * pa_ways t c m (pa_round s) + pa_ways t c m (pa_lose s)
noncomputable def pa_aLost (a : pa_M) (c n t x : Int) : Int := if ¬ ((0 ≤ c ∧ c < a.1 4) ∧ (0 ≤ n ∧ n ≤ 7) ∧ (2 ≤ t ∧ t ≤ 20) ∧ 0 ≤ x ∧ x ≤ 1) then 1000000001 else pa_part (pa_ways t c n.toNat a) (t ^ n.toNat) x
/-- the rounds of one way, its odds -/
noncomputable def pa_bp (b : Int) : Nat → Nat → pa_M → pa_M
  | 0, _, s => s
  | m + 1, k, s => pa_bp b m (k + 1) (if pb_h b k = true then pa_lose s else pa_round s)
def pa_bo (t b : Int) : Nat → Nat → Int
  | 0, _ => 1
  | m + 1, k => (if pb_h b k = true then 1 else t - 1) * pa_bo t b m (k + 1)
noncomputable def pa_bw (t c b : Int) (m k : Nat) (s : pa_M) : Int := if 6 ≤ ((pa_bp b m k s).2.1 c).1 2 then pa_bo t b m k else 0
theorem pa_sum_ext {f g : Int → Int} : ∀ (n : Nat), (∀ i : Nat, i < n → f i = g i) → pa_sum f n = pa_sum g n
  | 0, _ => rfl
  | n + 1, h => by
    unfold pa_sum
    rw [pa_sum_ext n (fun i hi => h i (by omega)), h n (by omega)]
theorem pa_sum_mul (f : Int → Int) (x : Int) : ∀ n : Nat, pa_sum (fun i => x * f i) n = x * pa_sum f n
  | 0 => by simp [pa_sum]
  | n + 1 => by
    unfold pa_sum
    rw [pa_sum_mul f x n, Int.mul_add]
theorem pa_sum_two (f : Int → Int) : ∀ n : Nat, pa_sum f (2 * n) = pa_sum (fun i => f (2 * i)) n + pa_sum (fun i => f (2 * i + 1)) n
  | 0 => rfl
  | n + 1 => by
    have h := pa_sum_two f n
    rw [show 2 * (n + 1) = 2 * n + 1 + 1 by omega]
    simp only [pa_sum]
    rw [h]
    have e1 : (((2 * n : Nat) : Int)) = 2 * (n : Int) := by push_cast; rfl
    have e2 : (((2 * n + 1 : Nat) : Int)) = 2 * (n : Int) + 1 := by push_cast; rfl
    rw [e1, e2]
    omega
theorem pb_h_all : ∀ x : Fin 128, ∀ k : Fin 7, pb_h (x.val : Int) k.val = decide ((x.val : Int) / ((2 ^ k.val : Nat) : Int) % 2 = 1) := by decide +kernel
theorem pb_h_at {b i : Int} {P k : Nat} {bit : Int} (hk : k < 7) (hP : P = 2 ^ k) (hb0 : 0 ≤ b) (hb : b < P) (hi : 0 ≤ i) (hbit : bit = 0 ∨ bit = 1) (h : b + P * (2 * i + bit) < 128) : pb_h (b + P * (2 * i + bit)) k = decide (bit = 1) := by
  have hp : 0 < (P : Int) := by omega
  have h0 : 0 ≤ (P : Int) * (2 * i + bit) := Int.mul_nonneg (by omega) (by omega)
  obtain ⟨u, hu⟩ : ∃ u : Fin 128, (u.val : Int) = b + P * (2 * i + bit) := ⟨⟨(b + P * (2 * i + bit)).toNat, by omega⟩, by show ((b + P * (2 * i + bit)).toNat : Int) = _; omega⟩
  have := pb_h_all u ⟨k, hk⟩
  rw [hu] at this
  rw [this]
  have e : (b + P * (2 * i + bit)) / (P : Int) = 2 * i + bit := by
    rw [Int.add_mul_ediv_left _ _ (by omega), Int.ediv_eq_zero_of_lt hb0 hb]
    omega
  show decide ((b + P * (2 * i + bit)) / ((2 ^ k : Nat) : Int) % 2 = 1) = _
  rw [← hP, e]
  congr 1
  apply propext
  omega
/-- all ways, counted by their numbers -/
theorem pa_ways_sum (t c : Int) : ∀ (m k : Nat) (b : Int) (P Q : Nat) (s : pa_M), k + m ≤ 7 → P = 2 ^ k → Q = 2 ^ m → 0 ≤ b → b < P → P * Q ≤ 128 → pa_sum (fun i => pa_bw t c (b + P * i) m k s) Q = pa_ways t c m s
  | 0, k, b, P, Q, s, _, _, hQ, _, _, _ => by
    subst hQ
    show 0 + pa_bw t c _ 0 k s = _
    unfold pa_bw pa_bp pa_bo pa_ways
    omega
  | m + 1, k, b, P, Q, s, hkm, hP, hQ, hb0, hb, hPQ => by
    obtain ⟨R, hR⟩ : ∃ R : Nat, R = 2 ^ m := ⟨_, rfl⟩
    have hQ2 : Q = 2 * R := by rw [hQ, hR, Nat.pow_succ]; omega
    have hR1 : P * (2 * R) ≤ 128 := by rw [← hQ2]; exact hPQ
    have hR2 : 2 * P * R ≤ 128 := by rw [show 2 * P * R = P * (2 * R) by rw [Nat.mul_comm 2 P, Nat.mul_assoc]]; exact hR1
    have hlt : ∀ i : Nat, i < R → ∀ bit : Int, bit = 0 ∨ bit = 1 → b + P * (2 * (i : Int) + bit) < 128 := fun i hi bit hbit => by
      have h1 : P * (2 * i + 1 + 1) ≤ P * (2 * R) := Nat.mul_le_mul_left P (by omega)
      have h2 : (P : Int) * (2 * (i : Int) + bit) ≤ P * (2 * i + 1) := Int.mul_le_mul_of_nonneg_left (by omega) (by omega)
      have h3 : ((P * (2 * i + 1 + 1) : Nat) : Int) = P * (2 * (i : Int) + 1) + P := by push_cast; rw [Int.mul_add, Int.mul_one]
      omega
    have hstep : ∀ (bit : Int), bit = 0 ∨ bit = 1 → pa_sum (fun i => pa_bw t c (b + P * (2 * i + bit)) (m + 1) k s) R = (if bit = 1 then 1 else t - 1) * pa_ways t c m (if bit = 1 then pa_lose s else pa_round s) := fun bit hbit => by
      have ih := pa_ways_sum t c m (k + 1) (b + P * bit) (2 * P) R (if bit = 1 then pa_lose s else pa_round s) (by omega) (by rw [hP, Nat.pow_succ]; omega) hR (by rcases hbit with rfl | rfl <;> omega) (by rcases hbit with rfl | rfl <;> (push_cast; omega)) hR2
      rw [← ih, ← pa_sum_mul]
      refine pa_sum_ext R (fun i hi => ?_)
      have hx : b + P * (2 * (i : Int) + bit) = b + P * bit + ((2 * P : Nat) : Int) * (i : Int) := by
        rw [Int.mul_add, show (P : Int) * (2 * (i : Int)) = ((2 * P : Nat) : Int) * (i : Int) by push_cast; rw [← Int.mul_assoc, Int.mul_comm (P : Int) 2]]
        omega
      have hbt := pb_h_at (by omega : k < 7) hP hb0 hb (by omega : 0 ≤ (i : Int)) hbit (hlt i hi bit hbit)
      have e1 : pa_bp (b + P * (2 * (i : Int) + bit)) (m + 1) k s = pa_bp (b + P * (2 * (i : Int) + bit)) m (k + 1) (if bit = 1 then pa_lose s else pa_round s) := by
        show pa_bp _ m (k + 1) (if pb_h _ k = true then pa_lose s else pa_round s) = _
        rw [hbt]
        simp
      have e2 : pa_bo t (b + P * (2 * (i : Int) + bit)) (m + 1) k = (if bit = 1 then 1 else t - 1) * pa_bo t (b + P * (2 * (i : Int) + bit)) m (k + 1) := by
        show (if pb_h _ k = true then 1 else t - 1) * _ = _
        rw [hbt]
        simp
      show pa_bw t c (b + P * (2 * (i : Int) + bit)) (m + 1) k s = (if bit = 1 then 1 else t - 1) * pa_bw t c (b + P * bit + ((2 * P : Nat) : Int) * (i : Int)) m (k + 1) _
      rw [← hx]
      unfold pa_bw
      rw [e1, e2]
      by_cases q : 6 ≤ ((pa_bp (b + P * (2 * (i : Int) + bit)) m (k + 1) (if bit = 1 then pa_lose s else pa_round s)).2.1 c).1 2
      · rw [if_pos q, if_pos q]
      · rw [if_neg q, if_neg q, Int.mul_zero]
    rw [hQ2, pa_sum_two]
    have h0 := hstep 0 (Or.inl rfl)
    have h1 := hstep 1 (Or.inr rfl)
    simp only [Int.add_zero] at h0
    rw [h0, h1]
    have z : ¬ ((0 : Int) = 1) := by decide
    rw [if_neg z, if_neg z, if_pos (rfl : (1 : Int) = 1), if_pos (rfl : (1 : Int) = 1), Int.one_mul]
    rfl
theorem pa_ways_b (t c : Int) (ht : 2 ≤ t) : ∀ (m : Nat) (s : pa_M), 0 ≤ pa_ways t c m s ∧ pa_ways t c m s ≤ t ^ m
  | 0, s => by
    unfold pa_ways
    split <;> simp
  | m + 1, s => by
    have h1 := pa_ways_b t c ht m (pa_round s)
    have h2 := pa_ways_b t c ht m (pa_lose s)
    unfold pa_ways
    have h3 : 0 ≤ (t - 1) * pa_ways t c m (pa_round s) := Int.mul_nonneg (by omega) h1.1
    have h4 : (t - 1) * pa_ways t c m (pa_round s) ≤ (t - 1) * t ^ m := Int.mul_le_mul_of_nonneg_left h1.2 (by omega)
    have h5 : t ^ (m + 1) = (t - 1) * t ^ m + t ^ m := by rw [Int.pow_succ, Int.sub_mul, Int.one_mul, Int.mul_comm]; omega
    omega
theorem pa_pow_b {t : Int} (h2 : 2 ≤ t) (h20 : t ≤ 20) : ∀ m : Nat, m ≤ 7 → 1 ≤ t ^ m ∧ t ^ m ≤ 1280000000 := by
  have key : ∀ m : Nat, 1 ≤ t ^ m ∧ t ^ m ≤ 20 ^ m := by
    intro m
    induction m with
    | zero => simp
    | succ m ih =>
      rw [Int.pow_succ, Int.pow_succ]
      have h1 : t ^ m * 1 ≤ t ^ m * t := Int.mul_le_mul_of_nonneg_left (by omega) (by omega)
      have h3 : t ^ m * t ≤ 20 ^ m * t := Int.mul_le_mul_of_nonneg_right ih.2 (by omega)
      have h4 : (20 : Int) ^ m * t ≤ 20 ^ m * 20 := Int.mul_le_mul_of_nonneg_left h20 (by omega)
      omega
  intro m hm
  have h1 := key m
  have h2 : (20 : Int) ^ m ≤ 20 ^ 7 := by
    have : ∀ m : Fin 8, (20 : Int) ^ m.val ≤ 20 ^ 7 := by decide +kernel
    exact this ⟨m, by omega⟩
  have h3 : (20 : Int) ^ 7 = 1280000000 := by decide +kernel
  omega
section
variable {d M q : Nat} {Φ : Option pe_V → pe_H → Prop} {σ : pe_H} {y : Nat → Int → Int} {a : pa_M} {c n : Int}
end

