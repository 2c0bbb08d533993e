/-! SHAPES of the class's objects: where they stand (in the order of the constructors) -/
def pk_f (r : Nat) (i : Int) : Nat := r + 2 + i.toNat
def pk_c (B : Nat) (i : Int) : Nat := B + 11 + 8 * i.toNat
def pk_q (B : Nat) (i : Int) : Nat := B + 75 + 4 * i.toNat
def pk_g (B : Nat) (i : Int) : Nat := B + 77 + 4 * i.toNat
def pk_m (C : Nat) (i : Int) : Nat := C + 179 + 87 * i.toNat
theorem pe_K_cpy {σ : pe_H} {s d a : Nat} {sp dp n : Int} : pe_K (pe_cpy σ s sp d dp n) a = pe_K σ a := rfl
theorem pe_L_cpy {σ : pe_H} {s d a : Nat} {sp dp n : Int} : pe_L (pe_cpy σ s sp d dp n) a = pe_L σ a := rfl
theorem pe_R_cpy {σ : pe_H} {s d a : Nat} {sp dp n j : Int} : pe_R (pe_cpy σ s sp d dp n) a j = pe_R σ a j := rfl
theorem pe_I_cpy {σ : pe_H} {s d a : Nat} {sp dp n j : Int} (h : a ≠ d) : pe_I (pe_cpy σ s sp d dp n) a j = pe_I σ a j := if_neg (fun q => h q.1)
/-- a Coroutine at r, its frames' array, its frames -/
def pk_Fo (r : Nat) (σ : pe_H) : Prop := 2 ≤ r ∧ pe_K σ r = 0 ∧ pe_R σ r 10 = r + 1 ∧ pe_K σ (r + 1) = 13 ∧ pe_L σ (r + 1) = 6 ∧ ∀ i : Int, 0 ≤ i → i < 6 → pe_R σ (r + 1) i = pk_f r i ∧ pe_K σ (pk_f r i) = 1
def pk_Fq (r : Nat) (σ : pe_H) : Prop := 2 ≤ r ∧ pe_K σ r = 5 ∧ pe_R σ r 0 = r + 1 ∧ pe_K σ (r + 1) = 10 ∧ pe_L σ (r + 1) = 8
def pk_Fm (B : Nat) (σ : pe_H) : Prop := (2 ≤ B ∧ pe_K σ B = 2) ∧
  ((pe_R σ B 0 = B + 1 ∧ pe_K σ (B + 1) = 16 ∧ pe_L σ (B + 1) = 5) ∧
   (pe_R σ B 1 = B + 2 ∧ pe_K σ (B + 2) = 12 ∧ pe_L σ (B + 2) = 8) ∧
   (pe_R σ B 2 = B + 3 ∧ pe_K σ (B + 3) = 17 ∧ pe_L σ (B + 3) = 3) ∧
   (pe_R σ B 3 = B + 4 ∧ pe_K σ (B + 4) = 17 ∧ pe_L σ (B + 4) = 3) ∧
   (pe_R σ B 8 = B + 5 ∧ pe_K σ (B + 5) = 10 ∧ pe_L σ (B + 5) = 8) ∧
   (pe_R σ B 9 = B + 6 ∧ pe_K σ (B + 6) = 10 ∧ pe_L σ (B + 6) = 8) ∧
   (pe_R σ B 10 = B + 7 ∧ pe_K σ (B + 7) = 10 ∧ pe_L σ (B + 7) = 512) ∧
   (pe_R σ B 11 = B + 8 ∧ pe_K σ (B + 8) = 10 ∧ pe_L σ (B + 8) = 512)) ∧
  (∀ i : Int, 0 ≤ i → i < 8 → pe_R σ (B + 2) i = pk_c B i ∧ pk_Fo (pk_c B i) σ) ∧
  (∀ i : Int, 0 ≤ i → i < 3 → pe_R σ (B + 3) i = pk_q B i ∧ pk_Fq (pk_q B i) σ) ∧
  (∀ i : Int, 0 ≤ i → i < 3 → pe_R σ (B + 4) i = pk_g B i ∧ pk_Fq (pk_g B i) σ)
def pk_Fs (C : Nat) (σ : pe_H) : Prop := (2 ≤ C ∧ pe_K σ C = 8) ∧ (pe_R σ C 0 = C + 1 ∧ pe_R σ C 1 = C + 88) ∧
  (pe_R σ C 2 = C + 175 ∧ pe_K σ (C + 175) = 14 ∧ pe_L σ (C + 175) = 8) ∧ (pe_R σ C 3 = C + 176 ∧ pe_K σ (C + 176) = 15 ∧ pe_L σ (C + 176) = 8) ∧ (pe_R σ C 4 = C + 177 ∧ pe_K σ (C + 177) = 18 ∧ pe_L σ (C + 177) = 8) ∧ (pe_R σ C 5 = C + 178 ∧ pe_K σ (C + 178) = 3) ∧
  (pk_Fm (C + 1) σ ∧ pk_Fm (C + 88) σ) ∧ (∀ i : Int, 0 ≤ i → i < 8 → pe_R σ (C + 175) i = pk_m C i ∧ pk_Fm (pk_m C i) σ)
section
variable {r B C : Nat} {σ : pe_H} {i : Int}
theorem pk_oK (h : pk_Fo r σ) : pe_K σ r = 0 := h.2.1
theorem pk_oR (h : pk_Fo r σ) : pe_R σ r 10 = r + 1 := h.2.2.1
theorem pk_oK1 (h : pk_Fo r σ) : pe_K σ (r + 1) = 13 := h.2.2.2.1
theorem pk_oL1 (h : pk_Fo r σ) : pe_L σ (r + 1) = 6 := h.2.2.2.2.1
theorem pk_oE (h : pk_Fo r σ) (h0 : 0 ≤ i) (h1 : i < 6) : pe_R σ (r + 1) i = pk_f r i := (h.2.2.2.2.2 i h0 h1).1
theorem pk_oEK (h : pk_Fo r σ) (h0 : 0 ≤ i) (h1 : i < 6) : pe_K σ (pk_f r i) = 1 := (h.2.2.2.2.2 i h0 h1).2
theorem pk_q2 (h : pk_Fq r σ) : 2 ≤ r := h.1
theorem pk_qK (h : pk_Fq r σ) : pe_K σ r = 5 := h.2.1
theorem pk_qR (h : pk_Fq r σ) : pe_R σ r 0 = r + 1 := h.2.2.1
theorem pk_qK1 (h : pk_Fq r σ) : pe_K σ (r + 1) = 10 := h.2.2.2.1
theorem pk_qL1 (h : pk_Fq r σ) : pe_L σ (r + 1) = 8 := h.2.2.2.2
theorem pk_m2 (h : pk_Fm B σ) : 2 ≤ B := h.1.1
theorem pk_mK (h : pk_Fm B σ) : pe_K σ B = 2 := h.1.2
theorem pk_mR1 (h : pk_Fm B σ) : pe_R σ B 0 = B + 1 := h.2.1.1.1
theorem pk_mK1 (h : pk_Fm B σ) : pe_K σ (B + 1) = 16 := h.2.1.1.2.1
theorem pk_mL1 (h : pk_Fm B σ) : pe_L σ (B + 1) = 5 := h.2.1.1.2.2
theorem pk_mR2 (h : pk_Fm B σ) : pe_R σ B 1 = B + 2 := h.2.1.2.1.1
theorem pk_mK2 (h : pk_Fm B σ) : pe_K σ (B + 2) = 12 := h.2.1.2.1.2.1
theorem pk_mL2 (h : pk_Fm B σ) : pe_L σ (B + 2) = 8 := h.2.1.2.1.2.2
theorem pk_mR3 (h : pk_Fm B σ) : pe_R σ B 2 = B + 3 := h.2.1.2.2.1.1
theorem pk_mK3 (h : pk_Fm B σ) : pe_K σ (B + 3) = 17 := h.2.1.2.2.1.2.1
theorem pk_mL3 (h : pk_Fm B σ) : pe_L σ (B + 3) = 3 := h.2.1.2.2.1.2.2
theorem pk_mR4 (h : pk_Fm B σ) : pe_R σ B 3 = B + 4 := h.2.1.2.2.2.1.1
theorem pk_mK4 (h : pk_Fm B σ) : pe_K σ (B + 4) = 17 := h.2.1.2.2.2.1.2.1
theorem pk_mL4 (h : pk_Fm B σ) : pe_L σ (B + 4) = 3 := h.2.1.2.2.2.1.2.2
theorem pk_mR5 (h : pk_Fm B σ) : pe_R σ B 8 = B + 5 := h.2.1.2.2.2.2.1.1
theorem pk_mK5 (h : pk_Fm B σ) : pe_K σ (B + 5) = 10 := h.2.1.2.2.2.2.1.2.1
theorem pk_mL5 (h : pk_Fm B σ) : pe_L σ (B + 5) = 8 := h.2.1.2.2.2.2.1.2.2
theorem pk_mR6 (h : pk_Fm B σ) : pe_R σ B 9 = B + 6 := h.2.1.2.2.2.2.2.1.1
theorem pk_mK6 (h : pk_Fm B σ) : pe_K σ (B + 6) = 10 := h.2.1.2.2.2.2.2.1.2.1
theorem pk_mL6 (h : pk_Fm B σ) : pe_L σ (B + 6) = 8 := h.2.1.2.2.2.2.2.1.2.2
theorem pk_mR7 (h : pk_Fm B σ) : pe_R σ B 10 = B + 7 := h.2.1.2.2.2.2.2.2.1.1
theorem pk_mK7 (h : pk_Fm B σ) : pe_K σ (B + 7) = 10 := h.2.1.2.2.2.2.2.2.1.2.1
theorem pk_mL7 (h : pk_Fm B σ) : pe_L σ (B + 7) = 512 := h.2.1.2.2.2.2.2.2.1.2.2
theorem pk_mR8 (h : pk_Fm B σ) : pe_R σ B 11 = B + 8 := h.2.1.2.2.2.2.2.2.2.1
theorem pk_mK8 (h : pk_Fm B σ) : pe_K σ (B + 8) = 10 := h.2.1.2.2.2.2.2.2.2.2.1
theorem pk_mL8 (h : pk_Fm B σ) : pe_L σ (B + 8) = 512 := h.2.1.2.2.2.2.2.2.2.2.2
theorem pk_mE2 (h : pk_Fm B σ) (h0 : 0 ≤ i) (h1 : i < 8) : pe_R σ (B + 2) i = pk_c B i := (h.2.2.1 i h0 h1).1
theorem pk_mO (h : pk_Fm B σ) (h0 : 0 ≤ i) (h1 : i < 8) : pk_Fo (pk_c B i) σ := (h.2.2.1 i h0 h1).2
theorem pk_mE3 (h : pk_Fm B σ) (h0 : 0 ≤ i) (h1 : i < 3) : pe_R σ (B + 3) i = pk_q B i := (h.2.2.2.1 i h0 h1).1
theorem pk_mQ (h : pk_Fm B σ) (h0 : 0 ≤ i) (h1 : i < 3) : pk_Fq (pk_q B i) σ := (h.2.2.2.1 i h0 h1).2
theorem pk_mE4 (h : pk_Fm B σ) (h0 : 0 ≤ i) (h1 : i < 3) : pe_R σ (B + 4) i = pk_g B i := (h.2.2.2.2 i h0 h1).1
theorem pk_mG (h : pk_Fm B σ) (h0 : 0 ≤ i) (h1 : i < 3) : pk_Fq (pk_g B i) σ := (h.2.2.2.2 i h0 h1).2
theorem pk_s2 (h : pk_Fs C σ) : 2 ≤ C := h.1.1
theorem pk_sK (h : pk_Fs C σ) : pe_K σ C = 8 := h.1.2
theorem pk_sR0 (h : pk_Fs C σ) : pe_R σ C 0 = C + 1 := h.2.1.1
theorem pk_sR1 (h : pk_Fs C σ) : pe_R σ C 1 = C + 88 := h.2.1.2
theorem pk_sR2 (h : pk_Fs C σ) : pe_R σ C 2 = C + 175 := h.2.2.1.1
theorem pk_sK2 (h : pk_Fs C σ) : pe_K σ (C + 175) = 14 := h.2.2.1.2.1
theorem pk_sL2 (h : pk_Fs C σ) : pe_L σ (C + 175) = 8 := h.2.2.1.2.2
theorem pk_sR3 (h : pk_Fs C σ) : pe_R σ C 3 = C + 176 := h.2.2.2.1.1
theorem pk_sK3 (h : pk_Fs C σ) : pe_K σ (C + 176) = 15 := h.2.2.2.1.2.1
theorem pk_sL3 (h : pk_Fs C σ) : pe_L σ (C + 176) = 8 := h.2.2.2.1.2.2
theorem pk_sR4 (h : pk_Fs C σ) : pe_R σ C 4 = C + 177 := h.2.2.2.2.1.1
theorem pk_sK4 (h : pk_Fs C σ) : pe_K σ (C + 177) = 18 := h.2.2.2.2.1.2.1
theorem pk_sL4 (h : pk_Fs C σ) : pe_L σ (C + 177) = 8 := h.2.2.2.2.1.2.2
theorem pk_sM0 (h : pk_Fs C σ) : pk_Fm (C + 1) σ := h.2.2.2.2.2.2.1.1
theorem pk_sM1 (h : pk_Fs C σ) : pk_Fm (C + 88) σ := h.2.2.2.2.2.2.1.2
theorem pk_sE (h : pk_Fs C σ) (h0 : 0 ≤ i) (h1 : i < 8) : pe_R σ (C + 175) i = pk_m C i := (h.2.2.2.2.2.2.2 i h0 h1).1
theorem pk_sMi (h : pk_Fs C σ) (h0 : 0 ≤ i) (h1 : i < 8) : pk_Fm (pk_m C i) σ := (h.2.2.2.2.2.2.2 i h0 h1).2
end

