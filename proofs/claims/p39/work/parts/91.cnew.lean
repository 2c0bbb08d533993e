/-! CONSTRUCTORS of the class -/
theorem pe_n_new {σ : pe_H} {c w : Nat} {l : Int} : pe_n (pe_new σ c l w) = pe_n σ + 1 := rfl
theorem pe_u_new {σ : pe_H} {c w : Nat} {l : Int} : pe_u (pe_new σ c l w) = pe_u σ + w := rfl
theorem pe_n_wI {σ : pe_H} {r : Nat} {j x : Int} : pe_n (pe_wI σ r j x) = pe_n σ := rfl
theorem pe_u_wI {σ : pe_H} {r : Nat} {j x : Int} : pe_u (pe_wI σ r j x) = pe_u σ := rfl
theorem pe_n_wR {σ : pe_H} {r x : Nat} {j : Int} : pe_n (pe_wR σ r j x) = pe_n σ := rfl
theorem pe_u_wR {σ : pe_H} {r x : Nat} {j : Int} : pe_u (pe_wR σ r j x) = pe_u σ := rfl
theorem pe_K_nw {σ : pe_H} {c w a : Nat} {l : Int} : pe_K (pe_new σ c l w) a = if a = pe_n σ then c else pe_K σ a := rfl
theorem pe_L_nw {σ : pe_H} {c w a : Nat} {l : Int} : pe_L (pe_new σ c l w) a = if a = pe_n σ then l else pe_L σ a := rfl
theorem pe_I_nw {σ : pe_H} {c w a : Nat} {l j : Int} : pe_I (pe_new σ c l w) a j = if a = pe_n σ then 0 else pe_I σ a j := rfl
theorem pe_R_nw {σ : pe_H} {c w a : Nat} {l j : Int} : pe_R (pe_new σ c l w) a j = if a = pe_n σ then 0 else pe_R σ a j := rfl
theorem pe_I_if {σ : pe_H} {r a : Nat} {j k x : Int} : pe_I (pe_wI σ r j x) a k = if a = r ∧ k = j then x else pe_I σ a k := rfl
theorem pe_R_if {σ : pe_H} {r a x : Nat} {j k : Int} : pe_R (pe_wR σ r j x) a k = if a = r ∧ k = j then x else pe_R σ a k := rfl
theorem pg_sn {σ : pe_H} {k w x : Nat} {len : Int} (hx : x < pe_n σ) : pg_same σ (pe_new σ k len w) x := pg_same_new hx
section
variable {d r B C : Nat} {Φ : Option pe_V → pe_H → Prop} {σ τ : pe_H}
/-- Coroutine -/
theorem k0 (h2 : 2 ≤ r) (hn : pe_n σ = r + 1) (hK : pe_K σ r = 0) (k : ∀ σ2, pe_n σ2 = r + 8 → pe_u σ2 = pe_u σ + 42 → pk_Fo r σ2 → (∀ x, x < r → pg_same σ σ2 x) → Φ none σ2) : pe_M (d + 2) 0 [.inr (.inr r)] σ Φ := by
  have main : ∀ (m : Nat) (i : Int) (τ : pe_H), i + m = 6 → 0 ≤ i → pe_n τ = r + 2 + i.toNat → pe_u τ = pe_u σ + 6 + 6 * i.toNat → (pe_K τ r = 0 ∧ pe_R τ r 10 = r + 1 ∧ pe_K τ (r + 1) = 13 ∧ pe_L τ (r + 1) = 6) → (∀ j : Int, 0 ≤ j → j < i → pe_R τ (r + 1) j = pk_f r j ∧ pe_K τ (pk_f r j) = 1) → (∀ x, x < r → pg_same σ τ x) → pe_X (d + 1) 0 (15, [some (.inr (.inr r)), some (.inl i)], [], τ) Φ := by
    intro m
    induction m with
    | zero =>
      intro i τ hi i0 tn tu ⟨t1, t2, t3, t4⟩ t5 ts
      refine rb0_15 (k1 := fun q => ?_) (k2 := fun q => absurd q (by omega))
      refine rb0_40 (k := ?_)
      exact k τ (by omega) (by omega) ⟨h2, t1, t2, t3, t4, fun j j0 j6 => t5 j j0 (by omega)⟩ ts
    | succ m ih =>
      intro i τ hi i0 tn tu ⟨t1, t2, t3, t4⟩ t5 ts
      refine rb0_15 (k1 := fun q => absurd q (by omega)) (k2 := fun q => ?_)
      refine rb0_21 (k := ?_)
      refine pe_M_of ck11 (Nat.le_of_ble_eq_true rfl) ?_
      refine b11_0 (k := ?_)
      rw [t2]
      refine rb0_33 (h0 := by (simp (disch := omega) only [pe_n_new, pe_u_new, pe_n_wI, pe_u_wI, pe_n_wR, pe_u_wR, pe_K_nw, pe_L_nw, pe_I_nw, pe_R_nw, pe_K_wI, pe_K_wR, pe_L_wI, pe_L_wR, pe_I_wR, pe_R_wI, pe_I_if, pe_R_if, and_self, and_true, true_and, and_false, false_and, if_true, if_false, if_pos, if_neg]); omega) (h1 := Or.inr (by (simp (disch := omega) only [pe_n_new, pe_u_new, pe_n_wI, pe_u_wI, pe_n_wR, pe_u_wR, pe_K_nw, pe_L_nw, pe_I_nw, pe_R_nw, pe_K_wI, pe_K_wR, pe_L_wI, pe_L_wR, pe_I_wR, pe_R_wI, pe_I_if, pe_R_if, and_self, and_true, true_and, and_false, false_and, if_true, if_false, if_pos, if_neg]); rw [t3]; rfl)) (h3 := by (simp (disch := omega) only [pe_n_new, pe_u_new, pe_n_wI, pe_u_wI, pe_n_wR, pe_u_wR, pe_K_nw, pe_L_nw, pe_I_nw, pe_R_nw, pe_K_wI, pe_K_wR, pe_L_wI, pe_L_wR, pe_I_wR, pe_R_wI, pe_I_if, pe_R_if, and_self, and_true, true_and, and_false, false_and, if_true, if_false, if_pos, if_neg]); omega) (k := ?_)
      have e1 : (i + 1).toNat = i.toNat + 1 := by omega
      refine ih _ _ (by omega) (by omega) (by (simp (disch := omega) only [pe_n_new, pe_u_new, pe_n_wI, pe_u_wI, pe_n_wR, pe_u_wR, pe_K_nw, pe_L_nw, pe_I_nw, pe_R_nw, pe_K_wI, pe_K_wR, pe_L_wI, pe_L_wR, pe_I_wR, pe_R_wI, pe_I_if, pe_R_if, and_self, and_true, true_and, and_false, false_and, if_true, if_false, if_pos, if_neg]); omega) (by (simp (disch := omega) only [pe_n_new, pe_u_new, pe_n_wI, pe_u_wI, pe_n_wR, pe_u_wR, pe_K_nw, pe_L_nw, pe_I_nw, pe_R_nw, pe_K_wI, pe_K_wR, pe_L_wI, pe_L_wR, pe_I_wR, pe_R_wI, pe_I_if, pe_R_if, and_self, and_true, true_and, and_false, false_and, if_true, if_false, if_pos, if_neg]); omega) ⟨by (simp (disch := omega) only [pe_n_new, pe_u_new, pe_n_wI, pe_u_wI, pe_n_wR, pe_u_wR, pe_K_nw, pe_L_nw, pe_I_nw, pe_R_nw, pe_K_wI, pe_K_wR, pe_L_wI, pe_L_wR, pe_I_wR, pe_R_wI, pe_I_if, pe_R_if, and_self, and_true, true_and, and_false, false_and, if_true, if_false, if_pos, if_neg]); exact t1, by (simp (disch := omega) only [pe_n_new, pe_u_new, pe_n_wI, pe_u_wI, pe_n_wR, pe_u_wR, pe_K_nw, pe_L_nw, pe_I_nw, pe_R_nw, pe_K_wI, pe_K_wR, pe_L_wI, pe_L_wR, pe_I_wR, pe_R_wI, pe_I_if, pe_R_if, and_self, and_true, true_and, and_false, false_and, if_true, if_false, if_pos, if_neg]); exact t2, by (simp (disch := omega) only [pe_n_new, pe_u_new, pe_n_wI, pe_u_wI, pe_n_wR, pe_u_wR, pe_K_nw, pe_L_nw, pe_I_nw, pe_R_nw, pe_K_wI, pe_K_wR, pe_L_wI, pe_L_wR, pe_I_wR, pe_R_wI, pe_I_if, pe_R_if, and_self, and_true, true_and, and_false, false_and, if_true, if_false, if_pos, if_neg]); exact t3, by (simp (disch := omega) only [pe_n_new, pe_u_new, pe_n_wI, pe_u_wI, pe_n_wR, pe_u_wR, pe_K_nw, pe_L_nw, pe_I_nw, pe_R_nw, pe_K_wI, pe_K_wR, pe_L_wI, pe_L_wR, pe_I_wR, pe_R_wI, pe_I_if, pe_R_if, and_self, and_true, true_and, and_false, false_and, if_true, if_false, if_pos, if_neg]); exact t4⟩ (fun j j0 j1 => ?_) (fun x hx => (ts x hx).trans ((pg_sn (by omega)).trans (pg_same_wR (by omega))))
      by_cases e : j = i
      · subst e
        unfold pk_f
        constructor
        · (simp (disch := omega) only [pe_n_new, pe_u_new, pe_n_wI, pe_u_wI, pe_n_wR, pe_u_wR, pe_K_nw, pe_L_nw, pe_I_nw, pe_R_nw, pe_K_wI, pe_K_wR, pe_L_wI, pe_L_wR, pe_I_wR, pe_R_wI, pe_I_if, pe_R_if, and_self, and_true, true_and, and_false, false_and, if_true, if_false, if_pos, if_neg]); omega
        · (simp (disch := omega) only [pe_n_new, pe_u_new, pe_n_wI, pe_u_wI, pe_n_wR, pe_u_wR, pe_K_nw, pe_L_nw, pe_I_nw, pe_R_nw, pe_K_wI, pe_K_wR, pe_L_wI, pe_L_wR, pe_I_wR, pe_R_wI, pe_I_if, pe_R_if, and_self, and_true, true_and, and_false, false_and, if_true, if_false, if_pos, if_neg])
      · obtain ⟨u1, u2⟩ := t5 j j0 (by omega)
        constructor
        · (simp (disch := omega) only [pe_n_new, pe_u_new, pe_n_wI, pe_u_wI, pe_n_wR, pe_u_wR, pe_K_nw, pe_L_nw, pe_I_nw, pe_R_nw, pe_K_wI, pe_K_wR, pe_L_wI, pe_L_wR, pe_I_wR, pe_R_wI, pe_I_if, pe_R_if, and_self, and_true, true_and, and_false, false_and, if_true, if_false, if_pos, if_neg]); exact u1
        · have : pk_f r j < pe_n τ := by unfold pk_f; omega
          (simp (disch := omega) only [pe_n_new, pe_u_new, pe_n_wI, pe_u_wI, pe_n_wR, pe_u_wR, pe_K_nw, pe_L_nw, pe_I_nw, pe_R_nw, pe_K_wI, pe_K_wR, pe_L_wI, pe_L_wR, pe_I_wR, pe_R_wI, pe_I_if, pe_R_if, and_self, and_true, true_and, and_false, false_and, if_true, if_false, if_pos, if_neg]); exact u2
  refine pe_M_of ck0 (Nat.le_of_ble_eq_true rfl) ?_
  refine rb0_0 (k := ?_)
  refine rb0_4 (h0 := by (simp (disch := omega) only [pe_n_new, pe_u_new, pe_n_wI, pe_u_wI, pe_n_wR, pe_u_wR, pe_K_nw, pe_L_nw, pe_I_nw, pe_R_nw, pe_K_wI, pe_K_wR, pe_L_wI, pe_L_wR, pe_I_wR, pe_R_wI, pe_I_if, pe_R_if, and_self, and_true, true_and, and_false, false_and, if_true, if_false, if_pos, if_neg]); exact hK) (k := ?_)
  refine rb0_13 (k := ?_)
  refine main 6 0 _ rfl (by decide) (by (simp (disch := omega) only [pe_n_new, pe_u_new, pe_n_wI, pe_u_wI, pe_n_wR, pe_u_wR, pe_K_nw, pe_L_nw, pe_I_nw, pe_R_nw, pe_K_wI, pe_K_wR, pe_L_wI, pe_L_wR, pe_I_wR, pe_R_wI, pe_I_if, pe_R_if, and_self, and_true, true_and, and_false, false_and, if_true, if_false, if_pos, if_neg]); omega) (by (simp (disch := omega) only [pe_n_new, pe_u_new, pe_n_wI, pe_u_wI, pe_n_wR, pe_u_wR, pe_K_nw, pe_L_nw, pe_I_nw, pe_R_nw, pe_K_wI, pe_K_wR, pe_L_wI, pe_L_wR, pe_I_wR, pe_R_wI, pe_I_if, pe_R_if, and_self, and_true, true_and, and_false, false_and, if_true, if_false, if_pos, if_neg]); rfl) ⟨by (simp (disch := omega) only [pe_n_new, pe_u_new, pe_n_wI, pe_u_wI, pe_n_wR, pe_u_wR, pe_K_nw, pe_L_nw, pe_I_nw, pe_R_nw, pe_K_wI, pe_K_wR, pe_L_wI, pe_L_wR, pe_I_wR, pe_R_wI, pe_I_if, pe_R_if, and_self, and_true, true_and, and_false, false_and, if_true, if_false, if_pos, if_neg]); exact hK, by (simp (disch := omega) only [pe_n_new, pe_u_new, pe_n_wI, pe_u_wI, pe_n_wR, pe_u_wR, pe_K_nw, pe_L_nw, pe_I_nw, pe_R_nw, pe_K_wI, pe_K_wR, pe_L_wI, pe_L_wR, pe_I_wR, pe_R_wI, pe_I_if, pe_R_if, and_self, and_true, true_and, and_false, false_and, if_true, if_false, if_pos, if_neg]); exact hn, by (simp (disch := omega) only [pe_n_new, pe_u_new, pe_n_wI, pe_u_wI, pe_n_wR, pe_u_wR, pe_K_nw, pe_L_nw, pe_I_nw, pe_R_nw, pe_K_wI, pe_K_wR, pe_L_wI, pe_L_wR, pe_I_wR, pe_R_wI, pe_I_if, pe_R_if, and_self, and_true, true_and, and_false, false_and, if_true, if_false, if_pos, if_neg]), by (simp (disch := omega) only [pe_n_new, pe_u_new, pe_n_wI, pe_u_wI, pe_n_wR, pe_u_wR, pe_K_nw, pe_L_nw, pe_I_nw, pe_R_nw, pe_K_wI, pe_K_wR, pe_L_wI, pe_L_wR, pe_I_wR, pe_R_wI, pe_I_if, pe_R_if, and_self, and_true, true_and, and_false, false_and, if_true, if_false, if_pos, if_neg])⟩ (fun j j0 j1 => absurd j1 (by omega)) (fun x hx => (pg_sn (by omega)).trans (pg_same_wR (by omega)))
/-- Queue -/
theorem k52 (h2 : 2 ≤ r) (hn : pe_n σ = r + 1) (hK : pe_K σ r = 5) (k : ∀ σ2, pe_n σ2 = r + 2 → pe_u σ2 = pe_u σ + 8 → pk_Fq r σ2 → pe_I σ2 r 1 = 0 → (∀ x, x < r → pg_same σ σ2 x) → Φ none σ2) : pe_M (d + 1) 52 [.inr (.inr r)] σ Φ := by
  refine pe_M_of ck52 (Nat.le_of_ble_eq_true rfl) ?_
  refine rb52_0 (k := ?_)
  refine rb52_4 (h0 := by (simp (disch := omega) only [pe_n_new, pe_u_new, pe_n_wI, pe_u_wI, pe_n_wR, pe_u_wR, pe_K_nw, pe_L_nw, pe_I_nw, pe_R_nw, pe_K_wI, pe_K_wR, pe_L_wI, pe_L_wR, pe_I_wR, pe_R_wI, pe_I_if, pe_R_if, and_self, and_true, true_and, and_false, false_and, if_true, if_false, if_pos, if_neg]); exact hK) (k := ?_)
  refine rb52_12 (h0 := by (simp (disch := omega) only [pe_n_new, pe_u_new, pe_n_wI, pe_u_wI, pe_n_wR, pe_u_wR, pe_K_nw, pe_L_nw, pe_I_nw, pe_R_nw, pe_K_wI, pe_K_wR, pe_L_wI, pe_L_wR, pe_I_wR, pe_R_wI, pe_I_if, pe_R_if, and_self, and_true, true_and, and_false, false_and, if_true, if_false, if_pos, if_neg]); exact hK) (k := ?_)
  refine rb52_17 (k := ?_)
  refine k _ (by (simp (disch := omega) only [pe_n_new, pe_u_new, pe_n_wI, pe_u_wI, pe_n_wR, pe_u_wR, pe_K_nw, pe_L_nw, pe_I_nw, pe_R_nw, pe_K_wI, pe_K_wR, pe_L_wI, pe_L_wR, pe_I_wR, pe_R_wI, pe_I_if, pe_R_if, and_self, and_true, true_and, and_false, false_and, if_true, if_false, if_pos, if_neg]); omega) (by (simp (disch := omega) only [pe_n_new, pe_u_new, pe_n_wI, pe_u_wI, pe_n_wR, pe_u_wR, pe_K_nw, pe_L_nw, pe_I_nw, pe_R_nw, pe_K_wI, pe_K_wR, pe_L_wI, pe_L_wR, pe_I_wR, pe_R_wI, pe_I_if, pe_R_if, and_self, and_true, true_and, and_false, false_and, if_true, if_false, if_pos, if_neg]); rfl) ⟨h2, by (simp (disch := omega) only [pe_n_new, pe_u_new, pe_n_wI, pe_u_wI, pe_n_wR, pe_u_wR, pe_K_nw, pe_L_nw, pe_I_nw, pe_R_nw, pe_K_wI, pe_K_wR, pe_L_wI, pe_L_wR, pe_I_wR, pe_R_wI, pe_I_if, pe_R_if, and_self, and_true, true_and, and_false, false_and, if_true, if_false, if_pos, if_neg]); exact hK, by (simp (disch := omega) only [pe_n_new, pe_u_new, pe_n_wI, pe_u_wI, pe_n_wR, pe_u_wR, pe_K_nw, pe_L_nw, pe_I_nw, pe_R_nw, pe_K_wI, pe_K_wR, pe_L_wI, pe_L_wR, pe_I_wR, pe_R_wI, pe_I_if, pe_R_if, and_self, and_true, true_and, and_false, false_and, if_true, if_false, if_pos, if_neg]); exact hn, by (simp (disch := omega) only [pe_n_new, pe_u_new, pe_n_wI, pe_u_wI, pe_n_wR, pe_u_wR, pe_K_nw, pe_L_nw, pe_I_nw, pe_R_nw, pe_K_wI, pe_K_wR, pe_L_wI, pe_L_wR, pe_I_wR, pe_R_wI, pe_I_if, pe_R_if, and_self, and_true, true_and, and_false, false_and, if_true, if_false, if_pos, if_neg]), by (simp (disch := omega) only [pe_n_new, pe_u_new, pe_n_wI, pe_u_wI, pe_n_wR, pe_u_wR, pe_K_nw, pe_L_nw, pe_I_nw, pe_R_nw, pe_K_wI, pe_K_wR, pe_L_wI, pe_L_wR, pe_I_wR, pe_R_wI, pe_I_if, pe_R_if, and_self, and_true, true_and, and_false, false_and, if_true, if_false, if_pos, if_neg])⟩ (by (simp (disch := omega) only [pe_n_new, pe_u_new, pe_n_wI, pe_u_wI, pe_n_wR, pe_u_wR, pe_K_nw, pe_L_nw, pe_I_nw, pe_R_nw, pe_K_wI, pe_K_wR, pe_L_wI, pe_L_wR, pe_I_wR, pe_R_wI, pe_I_if, pe_R_if, and_self, and_true, true_and, and_false, false_and, if_true, if_false, if_pos, if_neg])) (fun x hx => (pg_sn (by omega)).trans ((pg_same_wR (by omega)).trans (pg_same_wI (by omega))))
/-- all cells below stand, but references of Y -/
def pk_b (Y : Nat) (σ τ : pe_H) : Prop := pe_n σ ≤ pe_n τ ∧ ∀ x, x < pe_n σ → (pe_K τ x = pe_K σ x ∧ pe_L τ x = pe_L σ x ∧ ∀ j, pe_I τ x j = pe_I σ x j) ∧ (x ≠ Y → ∀ j, pe_R τ x j = pe_R σ x j)
theorem pk_b.same {Y x : Nat} (h : pk_b Y σ τ) (hx : x < pe_n σ) (hy : x ≠ Y) : pg_same σ τ x := ⟨(h.2 x hx).1.1, (h.2 x hx).1.2.1, fun j => ⟨(h.2 x hx).1.2.2 j, (h.2 x hx).2 hy j⟩⟩
/-- a machine on the way: its arrays, its numbers, its empty program -/
def pk_M0 (B : Nat) (σ : pe_H) : Prop := (2 ≤ B ∧ pe_K σ B = 2 ∧ B + 11 ≤ pe_n σ) ∧
  ((pe_R σ B 0 = B + 1 ∧ pe_K σ (B + 1) = 16 ∧ pe_L σ (B + 1) = 5) ∧
   (pe_R σ B 1 = B + 2 ∧ pe_K σ (B + 2) = 12 ∧ pe_L σ (B + 2) = 8) ∧
   (pe_R σ B 2 = B + 3 ∧ pe_K σ (B + 3) = 17 ∧ pe_L σ (B + 3) = 3) ∧
   (pe_R σ B 3 = B + 4 ∧ pe_K σ (B + 4) = 17 ∧ pe_L σ (B + 4) = 3) ∧
   (pe_R σ B 8 = B + 5 ∧ pe_K σ (B + 5) = 10 ∧ pe_L σ (B + 5) = 8) ∧
   (pe_R σ B 9 = B + 6 ∧ pe_K σ (B + 6) = 10 ∧ pe_L σ (B + 6) = 8) ∧
   (pe_R σ B 10 = B + 7 ∧ pe_K σ (B + 7) = 10 ∧ pe_L σ (B + 7) = 512) ∧
   (pe_R σ B 11 = B + 8 ∧ pe_K σ (B + 8) = 10 ∧ pe_L σ (B + 8) = 512)) ∧
  (pe_I σ B 4 = 0 ∧ pe_I σ B 5 = 8 ∧ pe_I σ B 6 = 0 ∧ pe_I σ B 12 = 0) ∧
  (pe_K σ (B + 9) = 4 ∧ pe_I σ (B + 9) 1 = -1 ∧ pe_R σ (B + 9) 0 = B + 10 ∧ pe_K σ (B + 10) = 10 ∧ pe_L σ (B + 10) = 0)
theorem pk_M0.b {Y : Nat} (h : pk_M0 B σ) (hb : pk_b Y σ τ) (h1 : B + 1 ≤ Y) (h2 : Y ≠ B + 9) : pk_M0 B τ := by
  obtain ⟨⟨a1, a2, a3⟩, b, ⟨c1, c2, c3, c4⟩, ⟨d1, d2, d3, d4, d5⟩⟩ := h
  have s0 := hb.same (x := B) (by omega) (by omega)
  have s9 := hb.same (x := B + 9) (by omega) (by omega)
  have hK : ∀ i, i ≤ 10 → pe_K τ (B + i) = pe_K σ (B + i) ∧ pe_L τ (B + i) = pe_L σ (B + i) := fun i hi => ⟨(hb.2 (B + i) (by omega)).1.1, (hb.2 (B + i) (by omega)).1.2.1⟩
  refine ⟨⟨a1, by rw [s0.1]; exact a2, by have := hb.1; omega⟩, ?_, ?_, ?_⟩
  · simp only [fun j => (s0.2.2 j).2, (hK 1 (by decide)).1, (hK 1 (by decide)).2, (hK 2 (by decide)).1, (hK 2 (by decide)).2, (hK 3 (by decide)).1, (hK 3 (by decide)).2, (hK 4 (by decide)).1, (hK 4 (by decide)).2, (hK 5 (by decide)).1, (hK 5 (by decide)).2, (hK 6 (by decide)).1, (hK 6 (by decide)).2, (hK 7 (by decide)).1, (hK 7 (by decide)).2, (hK 8 (by decide)).1, (hK 8 (by decide)).2]
    exact b
  · simp only [fun j => (s0.2.2 j).1]
    exact ⟨c1, c2, c3, c4⟩
  · exact ⟨by rw [s9.1]; exact d1, by rw [(s9.2.2 1).1]; exact d2, by rw [(s9.2.2 0).2]; exact d3, by rw [(hK 10 (by decide)).1]; exact d4, by rw [(hK 10 (by decide)).2]; exact d5⟩
def pk_1 (B : Nat) (σ : pe_H) (i : Int) : Prop := ∀ j : Int, 0 ≤ j → j < i → pe_R σ (B + 1) j = B + 9
def pk_2 (B : Nat) (σ : pe_H) (i : Int) : Prop := ∀ j : Int, 0 ≤ j → j < i → pe_R σ (B + 2) j = pk_c B j ∧ pk_Fo (pk_c B j) σ
def pk_3 (B : Nat) (σ : pe_H) (i : Int) : Prop := ∀ j : Int, 0 ≤ j → j < i → (pe_R σ (B + 3) j = pk_q B j ∧ pk_Fq (pk_q B j) σ ∧ pe_I σ (pk_q B j) 1 = 0) ∧ (pe_R σ (B + 4) j = pk_g B j ∧ pk_Fq (pk_g B j) σ ∧ pe_I σ (pk_g B j) 1 = 0)
/-- a machine just made -/
def pk_N (B : Nat) (σ : pe_H) : Prop := pk_M0 B σ ∧ pk_1 B σ 5 ∧ pk_2 B σ 8 ∧ pk_3 B σ 3 ∧ B + 87 ≤ pe_n σ
theorem pk_2.b {Y : Nat} {i : Int} (h : pk_2 B σ i) (hi : i ≤ 8) (hn : B + 11 + 8 * i.toNat ≤ pe_n σ) (hb : pk_b Y σ τ) (hY : Y < B + 11) (hR : ∀ j, 0 ≤ j → j < i → pe_R τ (B + 2) j = pe_R σ (B + 2) j) : pk_2 B τ i := fun j j0 j1 => by
  obtain ⟨a1, a2⟩ := h j j0 j1
  exact ⟨by rw [hR j j0 j1]; exact a1, pk_Fo_sm (fun x x0 x1 => hb.same (by unfold pk_c at x1; omega) (by unfold pk_c at x0; omega)) a2⟩
theorem pk_3.b {Y : Nat} {i : Int} (h : pk_3 B σ i) (hi : i ≤ 3) (hn : B + 75 + 4 * i.toNat ≤ pe_n σ) (hb : pk_b Y σ τ) (hY : Y < B + 11) (hR : ∀ j, 0 ≤ j → j < i → pe_R τ (B + 3) j = pe_R σ (B + 3) j ∧ pe_R τ (B + 4) j = pe_R σ (B + 4) j) : pk_3 B τ i := fun j j0 j1 => by
  obtain ⟨⟨a1, a2, a3⟩, b1, b2, b3⟩ := h j j0 j1
  obtain ⟨r1, r2⟩ := hR j j0 j1
  have sq : ∀ x, pk_q B j ≤ x → x < pk_q B j + 4 → pg_same σ τ x := fun x x0 x1 => hb.same (by unfold pk_q at x1; omega) (by unfold pk_q at x0; omega)
  have e : pk_g B j = pk_q B j + 2 := by unfold pk_g pk_q; omega
  refine ⟨⟨by rw [r1]; exact a1, pk_Fq_sm (sq _ (by omega) (by omega)) (sq _ (by omega) (by omega)) a2, ?_⟩, ⟨by rw [r2]; exact b1, pk_Fq_sm (sq _ (by omega) (by omega)) (sq _ (by omega) (by omega)) b2, ?_⟩⟩
  · rw [((sq (pk_q B j) (by omega) (by omega)).2.2 1).1]; exact a3
  · rw [((sq (pk_g B j) (by omega) (by omega)).2.2 1).1]; exact b3
theorem pk_b_wR {Y x : Nat} {j : Int} : pk_b Y σ (pe_wR σ Y j x) := ⟨Nat.le_refl _, fun y hy => ⟨⟨rfl, rfl, fun _ => rfl⟩, fun e j => pe_R_ner e⟩⟩
theorem pk_b_of {Y : Nat} (hn : pe_n σ ≤ pe_n τ) (h : ∀ x, x < pe_n σ → pg_same σ τ x) : pk_b Y σ τ := ⟨hn, fun x hx => ⟨⟨(h x hx).1, (h x hx).2.1, fun j => ((h x hx).2.2 j).1⟩, fun _ j => ((h x hx).2.2 j).2⟩⟩
theorem pk_b.trans {Y : Nat} {σ' : pe_H} (h : pk_b Y σ τ) (h' : pk_b Y τ σ') : pk_b Y σ σ' := ⟨Nat.le_trans h.1 h'.1, fun x hx => by
  obtain ⟨⟨a1, a2, a3⟩, a4⟩ := h.2 x hx
  obtain ⟨⟨b1, b2, b3⟩, b4⟩ := h'.2 x (Nat.lt_of_lt_of_le hx h.1)
  exact ⟨⟨b1.trans a1, b2.trans a2, fun j => (b3 j).trans (a3 j)⟩, fun e j => (b4 e j).trans (a4 e j)⟩⟩
/-- an object M of kind k0 on the way: l its arrays, z the numbers in its cells -/
def pl_N (k0 M : Nat) (l : List (Int × Nat × Nat × Int)) (z : Nat → Int → Int) (σ τ : pe_H) : Prop := (pe_K τ M = k0 ∧ pe_n τ = M + 1 + l.length) ∧ (∀ q ∈ l, pe_R τ M q.1 = M + q.2.1 ∧ (1 ≤ q.2.1 ∧ q.2.1 ≤ l.length) ∧ pe_K τ (M + q.2.1) = q.2.2.1 ∧ pe_L τ (M + q.2.1) = q.2.2.2) ∧ (∀ x, x ≤ l.length → ∀ j, pe_I τ (M + x) j = z x j) ∧ (∀ j, (∀ q ∈ l, q.1 ≠ j) → pe_R τ M j = 0) ∧ (∀ x, x < M → pg_same σ τ x) ∧ ∀ x, l.length < x → ∀ j, z x j = 0
theorem pl_go {k0 M kd w U : Nat} {l : List (Int × Nat × Nat × Int)} {z : Nat → Int → Int} {f len : Int} {P : pe_H → Prop} (h : pl_N k0 M l z σ τ) (hu : pe_u τ = U) (hf : ∀ q ∈ l, q.1 ≠ f) (k : ∀ τ', pl_N k0 M (l ++ [(f, l.length + 1, kd, len)]) z σ τ' → pe_u τ' = U + w → P τ') : P (pe_wR (pe_new τ kd len w) M f (pe_n τ)) := by
  obtain ⟨⟨a1, a2⟩, b, c, e, g, y⟩ := h
  have hl : (l ++ [(f, l.length + 1, kd, len)]).length = l.length + 1 := by rw [List.length_append]; rfl
  refine k _ ⟨⟨by (simp (disch := omega) only [pe_n_new, pe_u_new, pe_n_wI, pe_u_wI, pe_n_wR, pe_u_wR, pe_K_nw, pe_L_nw, pe_I_nw, pe_R_nw, pe_K_wI, pe_K_wR, pe_L_wI, pe_L_wR, pe_I_wR, pe_R_wI, pe_I_if, pe_R_if, and_self, and_true, true_and, and_false, false_and, if_true, if_false, if_pos, if_neg]); exact a1, by rw [hl]; (simp (disch := omega) only [pe_n_new, pe_u_new, pe_n_wI, pe_u_wI, pe_n_wR, pe_u_wR, pe_K_nw, pe_L_nw, pe_I_nw, pe_R_nw, pe_K_wI, pe_K_wR, pe_L_wI, pe_L_wR, pe_I_wR, pe_R_wI, pe_I_if, pe_R_if, and_self, and_true, true_and, and_false, false_and, if_true, if_false, if_pos, if_neg]); omega⟩, fun q hq => ?_, fun x hx j => ?_, fun j hj => ?_, fun x hx => (g x hx).trans ((pg_sn (by omega)).trans (pg_same_wR (by omega))), fun x hx j => y x (by omega) j⟩ (by (simp (disch := omega) only [pe_n_new, pe_u_new, pe_n_wI, pe_u_wI, pe_n_wR, pe_u_wR, pe_K_nw, pe_L_nw, pe_I_nw, pe_R_nw, pe_K_wI, pe_K_wR, pe_L_wI, pe_L_wR, pe_I_wR, pe_R_wI, pe_I_if, pe_R_if, and_self, and_true, true_and, and_false, false_and, if_true, if_false, if_pos, if_neg]); omega)
  · rw [hl]
    rcases List.mem_append.mp hq with v | v
    · obtain ⟨b1, ⟨b2, b3⟩, b4, b5⟩ := b q v
      have := hf q v
      refine ⟨?_, ⟨b2, by omega⟩, by (simp (disch := omega) only [pe_n_new, pe_u_new, pe_n_wI, pe_u_wI, pe_n_wR, pe_u_wR, pe_K_nw, pe_L_nw, pe_I_nw, pe_R_nw, pe_K_wI, pe_K_wR, pe_L_wI, pe_L_wR, pe_I_wR, pe_R_wI, pe_I_if, pe_R_if, and_self, and_true, true_and, and_false, false_and, if_true, if_false, if_pos, if_neg]); exact b4, by (simp (disch := omega) only [pe_n_new, pe_u_new, pe_n_wI, pe_u_wI, pe_n_wR, pe_u_wR, pe_K_nw, pe_L_nw, pe_I_nw, pe_R_nw, pe_K_wI, pe_K_wR, pe_L_wI, pe_L_wR, pe_I_wR, pe_R_wI, pe_I_if, pe_R_if, and_self, and_true, true_and, and_false, false_and, if_true, if_false, if_pos, if_neg]); exact b5⟩
      rw [pe_R_nej this]; (simp (disch := omega) only [pe_n_new, pe_u_new, pe_n_wI, pe_u_wI, pe_n_wR, pe_u_wR, pe_K_nw, pe_L_nw, pe_I_nw, pe_R_nw, pe_K_wI, pe_K_wR, pe_L_wI, pe_L_wR, pe_I_wR, pe_R_wI, pe_I_if, pe_R_if, and_self, and_true, true_and, and_false, false_and, if_true, if_false, if_pos, if_neg]); exact b1
    · rw [List.mem_singleton] at v
      subst v
      exact ⟨by rw [pe_R_same]; show pe_n τ = M + (l.length + 1); omega, ⟨by show 1 ≤ l.length + 1; omega, by show l.length + 1 ≤ l.length + 1; omega⟩, by rw [pe_K_wR, pe_K_nw, if_pos (by show M + (l.length + 1) = _; omega)], by rw [pe_L_wR, pe_L_nw, if_pos (by show M + (l.length + 1) = _; omega)]⟩
  · rw [hl] at hx
    by_cases e : x = l.length + 1
    · rw [pe_I_wR, pe_I_nw, if_pos (by omega), y x (by omega) j]
    · rw [pe_I_wR, pe_I_nw, if_neg (by omega)]; exact c x (by omega) j
  · have h1 : j ≠ f := fun q => hj _ (List.mem_append_right _ (List.mem_singleton.mpr rfl)) q.symm
    rw [pe_R_nej h1]
    (simp (disch := omega) only [pe_n_new, pe_u_new, pe_n_wI, pe_u_wI, pe_n_wR, pe_u_wR, pe_K_nw, pe_L_nw, pe_I_nw, pe_R_nw, pe_K_wI, pe_K_wR, pe_L_wI, pe_L_wR, pe_I_wR, pe_R_wI, pe_I_if, pe_R_if, and_self, and_true, true_and, and_false, false_and, if_true, if_false, if_pos, if_neg])
    exact e j (fun q hq => hj q (List.mem_append_left _ hq))
theorem pl_go1 {k0 M U : Nat} {l : List (Int × Nat × Nat × Int)} {z : Nat → Int → Int} {f v : Int} {P : pe_H → Prop} (h : pl_N k0 M l z σ τ) (hu : pe_u τ = U) (k : ∀ τ', pl_N k0 M l (pm_u z 0 f v) σ τ' → pe_u τ' = U → P τ') : P (pe_wI τ M f v) := by
  obtain ⟨⟨a1, a2⟩, b, c, e, g, y⟩ := h
  refine k _ ⟨⟨a1, a2⟩, b, fun x hx j => ?_, e, fun x hx => (g x hx).trans (pg_same_wI (by omega)), fun x hx j => ?_⟩ hu
  · rw [pe_I_if]
    unfold pm_u
    by_cases q : x = 0 ∧ j = f
    · rw [if_pos q, if_pos (by omega)]
    · rw [if_neg q, if_neg (by omega)]; exact c x hx j
  · rw [pm_uk (by omega)]; exact y x hx j
/-- Machine -/
theorem k14 (h2 : 2 ≤ B) (hn : pe_n σ = B + 1) (hK : pe_K σ B = 2) (hI : ∀ x, x ≤ 0 → ∀ j, pe_I σ (B + x) j = 0) (hR : ∀ j, (∀ q ∈ ([] : List (Int × Nat × Nat × Int)), q.1 ≠ j) → pe_R σ B j = 0) (k : ∀ σ2, pe_n σ2 = B + 87 → pe_u σ2 = pe_u σ + 1545 → pk_N B σ2 → (∀ x, x < B → pg_same σ σ2 x) → Φ none σ2) : pe_M (d + 3) 14 [.inr (.inr B)] σ Φ := by
  have loop3 : ∀ (m : Nat) (i : Int) (τ : pe_H) (o1 : Option pe_V), i + m = 3 → 0 ≤ i → pe_n τ = B + 75 + 4 * i.toNat → pe_u τ = pe_u σ + 1485 + 20 * i.toNat → pk_M0 B τ → pk_1 B τ 5 → pk_2 B τ 8 → pk_3 B τ i → (∀ x, x < B → pg_same σ τ x) → pe_X (d + 2) 14 (158, [some (.inr (.inr B)), o1, some (.inl i)], [], τ) Φ := by
    intro m
    induction m with
    | zero =>
      intro i τ o1 hi i0 tn tu t0 t1 t2 t3 ts
      refine rb14_158 (k1 := fun q => ?_) (k2 := fun q => absurd q (by omega))
      refine rb14_195 (k := ?_)
      have e : i = 3 := by omega
      subst e
      exact k τ (by omega) (by omega) ⟨t0, t1, t2, t3, by omega⟩ ts
    | succ m ih =>
      intro i τ o1 hi i0 tn tu t0 t1 t2 t3 ts
      have t0' := t0
      obtain ⟨⟨a1, a2, a3⟩, ⟨-, -, ⟨f1, f2, f3⟩, ⟨g1, g2, g3⟩, -⟩, -⟩ := t0
      refine rb14_158 (k1 := fun q => absurd q (by omega)) (k2 := fun q => ?_)
      refine rb14_163 (k := ?_)
      have eq : pk_q B i = pe_n τ := by unfold pk_q; omega
      have eg : pk_g B i = pe_n τ + 2 := by unfold pk_g; omega
      refine k52 (by omega) (by (simp (disch := omega) only [pe_n_new, pe_u_new, pe_n_wI, pe_u_wI, pe_n_wR, pe_u_wR, pe_K_nw, pe_L_nw, pe_I_nw, pe_R_nw, pe_K_wI, pe_K_wR, pe_L_wI, pe_L_wR, pe_I_wR, pe_R_wI, pe_I_if, pe_R_if, and_self, and_true, true_and, and_false, false_and, if_true, if_false, if_pos, if_neg])) (by (simp (disch := omega) only [pe_n_new, pe_u_new, pe_n_wI, pe_u_wI, pe_n_wR, pe_u_wR, pe_K_nw, pe_L_nw, pe_I_nw, pe_R_nw, pe_K_wI, pe_K_wR, pe_L_wI, pe_L_wR, pe_I_wR, pe_R_wI, pe_I_if, pe_R_if, and_self, and_true, true_and, and_false, false_and, if_true, if_false, if_pos, if_neg])) (fun τ1 n1 u1 q1 z1 s1 => ?_)
      have hb1 : pk_b (B + 3) τ τ1 := pk_b_of (by omega) (fun x hx => (pg_sn hx).trans (s1 x hx))
      rw [pe_u_new] at u1
      rw [f1]
      have b3 : pe_K τ1 (B + 3) = 17 := by rw [(hb1.2 (B + 3) (by omega)).1.1]; exact f2
      have l3 : pe_L τ1 (B + 3) = 3 := by rw [(hb1.2 (B + 3) (by omega)).1.2.1]; exact f3
      have bB : pe_K τ1 B = 2 := by rw [(hb1.2 B (by omega)).1.1]; exact a2
      have gB : pe_R τ1 B 3 = B + 4 := by rw [(hb1.2 B (by omega)).2 (by omega)]; exact g1
      refine rb14_175 (h1 := Or.inr (by rw [b3, q1.2.1]; rfl)) (h5 := bB) (h6 := by (simp (disch := omega) only [pe_n_new, pe_u_new, pe_n_wI, pe_u_wI, pe_n_wR, pe_u_wR, pe_K_nw, pe_L_nw, pe_I_nw, pe_R_nw, pe_K_wI, pe_K_wR, pe_L_wI, pe_L_wR, pe_I_wR, pe_R_wI, pe_I_if, pe_R_if, and_self, and_true, true_and, and_false, false_and, if_true, if_false, if_pos, if_neg]); omega) (k := ?_)
      rw [pe_n_wR, n1]
      refine k52 (by omega) (by (simp (disch := omega) only [pe_n_new, pe_u_new, pe_n_wI, pe_u_wI, pe_n_wR, pe_u_wR, pe_K_nw, pe_L_nw, pe_I_nw, pe_R_nw, pe_K_wI, pe_K_wR, pe_L_wI, pe_L_wR, pe_I_wR, pe_R_wI, pe_I_if, pe_R_if, and_self, and_true, true_and, and_false, false_and, if_true, if_false, if_pos, if_neg]); omega) (by rw [pe_K_nw, if_pos (by (simp (disch := omega) only [pe_n_new, pe_u_new, pe_n_wI, pe_u_wI, pe_n_wR, pe_u_wR, pe_K_nw, pe_L_nw, pe_I_nw, pe_R_nw, pe_K_wI, pe_K_wR, pe_L_wI, pe_L_wR, pe_I_wR, pe_R_wI, pe_I_if, pe_R_if, and_self, and_true, true_and, and_false, false_and, if_true, if_false, if_pos, if_neg]); omega)]) (fun τ2 n2 u2 q2 z2 s2 => ?_)
      rw [pe_u_new, pe_u_wR] at u2
      have sm2 : ∀ x, x < pe_n τ1 → pg_same (pe_wR τ1 (B + 3) i (pe_n τ)) τ2 x := fun x hx => (pg_sn (by (simp (disch := omega) only [pe_n_new, pe_u_new, pe_n_wI, pe_u_wI, pe_n_wR, pe_u_wR, pe_K_nw, pe_L_nw, pe_I_nw, pe_R_nw, pe_K_wI, pe_K_wR, pe_L_wI, pe_L_wR, pe_I_wR, pe_R_wI, pe_I_if, pe_R_if, and_self, and_true, true_and, and_false, false_and, if_true, if_false, if_pos, if_neg]); omega)).trans (s2 x (by omega))
      have hb2 : pk_b (B + 3) τ1 τ2 := pk_b_wR.trans (pk_b_of (by (simp (disch := omega) only [pe_n_new, pe_u_new, pe_n_wI, pe_u_wI, pe_n_wR, pe_u_wR, pe_K_nw, pe_L_nw, pe_I_nw, pe_R_nw, pe_K_wI, pe_K_wR, pe_L_wI, pe_L_wR, pe_I_wR, pe_R_wI, pe_I_if, pe_R_if, and_self, and_true, true_and, and_false, false_and, if_true, if_false, if_pos, if_neg]); omega) (fun x hx => sm2 x hx))
      have hbb := hb1.trans hb2
      rw [show pe_R (pe_wR τ1 (B + 3) i (pe_n τ)) B 3 = B + 4 from (pe_R_ner (by omega)).trans gB]
      have b4 : pe_K τ2 (B + 4) = 17 := by rw [(hbb.2 (B + 4) (by omega)).1.1]; exact g2
      have l4 : pe_L τ2 (B + 4) = 3 := by rw [(hbb.2 (B + 4) (by omega)).1.2.1]; exact g3
      refine rb14_188 (h1 := Or.inr (by rw [b4, q2.2.1]; rfl)) (k := ?_)
      have hb3 : pk_b (B + 4) τ2 (pe_wR τ2 (B + 4) i (pe_n τ + 2)) := pk_b_wR
      refine ih _ _ _ (by omega) (by omega) (by (simp (disch := omega) only [pe_n_new, pe_u_new, pe_n_wI, pe_u_wI, pe_n_wR, pe_u_wR, pe_K_nw, pe_L_nw, pe_I_nw, pe_R_nw, pe_K_wI, pe_K_wR, pe_L_wI, pe_L_wR, pe_I_wR, pe_R_wI, pe_I_if, pe_R_if, and_self, and_true, true_and, and_false, false_and, if_true, if_false, if_pos, if_neg]); omega) (by (simp (disch := omega) only [pe_n_new, pe_u_new, pe_n_wI, pe_u_wI, pe_n_wR, pe_u_wR, pe_K_nw, pe_L_nw, pe_I_nw, pe_R_nw, pe_K_wI, pe_K_wR, pe_L_wI, pe_L_wR, pe_I_wR, pe_R_wI, pe_I_if, pe_R_if, and_self, and_true, true_and, and_false, false_and, if_true, if_false, if_pos, if_neg]); omega) ((t0'.b hbb (by omega) (by omega)).b hb3 (by omega) (by omega)) (fun j j0 j1 => ?_) ?_ (fun j j0 j1 => ?_) (fun x hx => (ts x hx).trans ((hbb.same (by omega) (by omega)).trans (hb3.same (by omega) (by omega))))
      · rw [pe_R_ner (by omega), (hbb.2 (B + 1) (by omega)).2 (by omega)]; exact t1 j j0 j1
      · exact (t2.b (by decide) (by omega) hbb (by omega) (fun j _ _ => (hbb.2 (B + 2) (by omega)).2 (by omega) j)).b (by decide) (by omega) hb3 (by omega) (fun j _ _ => pe_R_ner (by omega))
      · by_cases e : j = i
        · subst e
          have sa : ∀ x, x < pe_n τ1 → x ≠ B + 3 → x ≠ B + 4 → pg_same τ1 (pe_wR τ2 (B + 4) j (pe_n τ + 2)) x := fun x x0 x3 x4 => (hb2.same x0 x3).trans (hb3.same (by have := hb2.1; omega) x4)
          have sb : ∀ x, x < pe_n τ2 → x ≠ B + 4 → pg_same τ2 (pe_wR τ2 (B + 4) j (pe_n τ + 2)) x := fun x x0 x4 => hb3.same x0 x4
          rw [eq, eg]
          refine ⟨⟨?_, pk_Fq_sm (sa _ (by omega) (by omega) (by omega)) (sa _ (by omega) (by omega) (by omega)) q1, ?_⟩, ⟨pe_R_same, pk_Fq_sm (sb _ (by omega) (by omega)) (sb _ (by omega) (by omega)) q2, ?_⟩⟩
          · rw [pe_R_ner (by omega), ((sm2 (B + 3) (by omega)).2.2 j).2]; exact pe_R_same
          · rw [((sa _ (by omega) (by omega) (by omega)).2.2 1).1]; exact z1
          · rw [((sb _ (by omega) (by omega)).2.2 1).1]; exact z2
        · have t3' : pk_3 B τ2 i := t3.b (by omega) (by omega) hbb (by omega) (fun j j0 j1 => by
            refine ⟨?_, (hbb.2 (B + 4) (by omega)).2 (by omega) j⟩
            rw [((sm2 (B + 3) (by omega)).2.2 j).2, pe_R_nej (by omega)]
            exact (((pg_sn (by omega)).trans (s1 (B + 3) (by omega))).2.2 j).2)
          exact t3'.b (by omega) (by omega) hb3 (by omega) (fun j j0 j1 => ⟨pe_R_ner (by omega), pe_R_nej (by omega)⟩) j j0 (by omega)
  have loop2 : ∀ (m : Nat) (i : Int) (τ : pe_H) (o1 : Option pe_V), i + m = 8 → 0 ≤ i → pe_n τ = B + 11 + 8 * i.toNat → pe_u τ = pe_u σ + 1061 + 53 * i.toNat → pk_M0 B τ → pk_1 B τ 5 → pk_2 B τ i → (∀ x, x < B → pg_same σ τ x) → pe_X (d + 2) 14 (131, [some (.inr (.inr B)), o1, some (.inl i)], [], τ) Φ := by
    intro m
    induction m with
    | zero =>
      intro i τ o1 hi i0 tn tu t0 t1 t2 ts
      refine rb14_131 (k1 := fun q => ?_) (k2 := fun q => absurd q (by omega))
      refine rb14_156 (k := ?_)
      have e : i = 8 := by omega
      subst e
      exact loop3 3 0 τ _ rfl (by decide) (by omega) (by omega) t0 t1 t2 (fun j j0 j1 => absurd j1 (by omega)) ts
    | succ m ih =>
      intro i τ o1 hi i0 tn tu t0 t1 t2 ts
      have t0' := t0
      obtain ⟨⟨a1, a2, a3⟩, ⟨-, ⟨f1, f2, f3⟩, -⟩, -⟩ := t0
      refine rb14_131 (k1 := fun q => absurd q (by omega)) (k2 := fun q => ?_)
      refine rb14_137 (k := ?_)
      have eq : pk_c B i = pe_n τ := by unfold pk_c; omega
      refine k0 (by omega) (by (simp (disch := omega) only [pe_n_new, pe_u_new, pe_n_wI, pe_u_wI, pe_n_wR, pe_u_wR, pe_K_nw, pe_L_nw, pe_I_nw, pe_R_nw, pe_K_wI, pe_K_wR, pe_L_wI, pe_L_wR, pe_I_wR, pe_R_wI, pe_I_if, pe_R_if, and_self, and_true, true_and, and_false, false_and, if_true, if_false, if_pos, if_neg])) (by rw [pe_K_nw, if_pos (by (simp (disch := omega) only [pe_n_new, pe_u_new, pe_n_wI, pe_u_wI, pe_n_wR, pe_u_wR, pe_K_nw, pe_L_nw, pe_I_nw, pe_R_nw, pe_K_wI, pe_K_wR, pe_L_wI, pe_L_wR, pe_I_wR, pe_R_wI, pe_I_if, pe_R_if, and_self, and_true, true_and, and_false, false_and, if_true, if_false, if_pos, if_neg]))]) (fun τ1 n1 u1 q1 s1 => ?_)
      rw [pe_u_new] at u1
      have sm1 : ∀ x, x < pe_n τ → pg_same τ τ1 x := fun x hx => (pg_sn hx).trans (s1 x hx)
      have hb1 : pk_b (B + 2) τ τ1 := pk_b_of (by omega) sm1
      rw [f1]
      have b3 : pe_K τ1 (B + 2) = 12 := by rw [(hb1.2 (B + 2) (by omega)).1.1]; exact f2
      have l3 : pe_L τ1 (B + 2) = 8 := by rw [(hb1.2 (B + 2) (by omega)).1.2.1]; exact f3
      refine rb14_149 (h1 := Or.inr (by rw [b3, q1.2.1]; rfl)) (k := ?_)
      have hb2 : pk_b (B + 2) τ1 (pe_wR τ1 (B + 2) i (pe_n τ)) := pk_b_wR
      have hbb := hb1.trans hb2
      refine ih _ _ _ (by omega) (by omega) (by (simp (disch := omega) only [pe_n_new, pe_u_new, pe_n_wI, pe_u_wI, pe_n_wR, pe_u_wR, pe_K_nw, pe_L_nw, pe_I_nw, pe_R_nw, pe_K_wI, pe_K_wR, pe_L_wI, pe_L_wR, pe_I_wR, pe_R_wI, pe_I_if, pe_R_if, and_self, and_true, true_and, and_false, false_and, if_true, if_false, if_pos, if_neg]); omega) (by (simp (disch := omega) only [pe_n_new, pe_u_new, pe_n_wI, pe_u_wI, pe_n_wR, pe_u_wR, pe_K_nw, pe_L_nw, pe_I_nw, pe_R_nw, pe_K_wI, pe_K_wR, pe_L_wI, pe_L_wR, pe_I_wR, pe_R_wI, pe_I_if, pe_R_if, and_self, and_true, true_and, and_false, false_and, if_true, if_false, if_pos, if_neg]); omega) (t0'.b hbb (by omega) (by omega)) (fun j j0 j1 => ?_) (fun j j0 j1 => ?_) (fun x hx => (ts x hx).trans (hbb.same (by omega) (by omega)))
      · rw [(hbb.2 (B + 1) (by omega)).2 (by omega)]; exact t1 j j0 j1
      · by_cases e : j = i
        · subst e
          rw [eq]
          exact ⟨pe_R_same, pk_Fo_sm (fun x x0 x1 => hb2.same (by omega) (by omega)) q1⟩
        · exact (t2.b (by omega) (by omega) hbb (by omega) (fun j j0 j1 => by rw [pe_R_nej (by omega)]; exact ((sm1 (B + 2) (by omega)).2.2 j).2)) j j0 (by omega)
  have loop1 : ∀ (m : Nat) (i : Int) (τ : pe_H), i + m = 5 → 0 ≤ i → pe_n τ = B + 11 → pe_u τ = pe_u σ + 1061 → pk_M0 B τ → pk_1 B τ i → (∀ x, x < B → pg_same σ τ x) → pe_X (d + 2) 14 (111, [some (.inr (.inr B)), some (.inr (.inr (B + 9))), some (.inl i)], [], τ) Φ := by
    intro m
    induction m with
    | zero =>
      intro i τ hi i0 tn tu t0 t1 ts
      refine rb14_111 (k1 := fun q => ?_) (k2 := fun q => absurd q (by omega))
      refine rb14_129 (k := ?_)
      have e : i = 5 := by omega
      subst e
      exact loop2 8 0 τ _ rfl (by decide) (by omega) (by omega) t0 t1 (fun j j0 j1 => absurd j1 (by omega)) ts
    | succ m ih =>
      intro i τ hi i0 tn tu t0 t1 ts
      have t0' := t0
      obtain ⟨⟨a1, a2, a3⟩, ⟨⟨f1, f2, f3⟩, -⟩, -, ⟨d1, -⟩⟩ := t0
      refine rb14_111 (k1 := fun q => absurd q (by omega)) (k2 := fun q => ?_)
      refine rb14_116 (h1 := by rw [f1]; omega) (h2 := Or.inr (by rw [f1, f2, d1]; rfl)) (h4 := by rw [f1]; omega) (h5 := by rw [f1]; omega) (k := ?_)
      rw [f1]
      have hb2 : pk_b (B + 1) τ (pe_wR τ (B + 1) i (B + 9)) := pk_b_wR
      refine ih _ _ (by omega) (by omega) (by (simp (disch := omega) only [pe_n_new, pe_u_new, pe_n_wI, pe_u_wI, pe_n_wR, pe_u_wR, pe_K_nw, pe_L_nw, pe_I_nw, pe_R_nw, pe_K_wI, pe_K_wR, pe_L_wI, pe_L_wR, pe_I_wR, pe_R_wI, pe_I_if, pe_R_if, and_self, and_true, true_and, and_false, false_and, if_true, if_false, if_pos, if_neg]); omega) (by (simp (disch := omega) only [pe_n_new, pe_u_new, pe_n_wI, pe_u_wI, pe_n_wR, pe_u_wR, pe_K_nw, pe_L_nw, pe_I_nw, pe_R_nw, pe_K_wI, pe_K_wR, pe_L_wI, pe_L_wR, pe_I_wR, pe_R_wI, pe_I_if, pe_R_if, and_self, and_true, true_and, and_false, false_and, if_true, if_false, if_pos, if_neg]); omega) (t0'.b hb2 (by omega) (by omega)) (fun j j0 j1 => ?_) (fun x hx => (ts x hx).trans (hb2.same (by omega) (by omega)))
      by_cases e : j = i
      · subst e; exact pe_R_same
      · rw [pe_R_nej e]; exact t1 j j0 (by omega)
  refine pe_M_of ck14 (Nat.le_of_ble_eq_true rfl) ?_
  have h0 : pl_N 2 B [] (fun _ _ => 0) σ σ := ⟨⟨hK, hn⟩, fun q hq => absurd hq List.not_mem_nil, hI, hR, fun x _ => pg_same.refl σ x, fun _ _ _ => rfl⟩
  have v0 : pe_u σ = pe_u σ + 0 := rfl
  refine rb14_0 (k := ?_)
  refine rb14_4 (h0 := by have := h0.1.1; have := h0.1.2; (simp (disch := omega) only [pe_n_new, pe_u_new, pe_n_wI, pe_u_wI, pe_n_wR, pe_u_wR, pe_K_nw, pe_L_nw, pe_I_nw, pe_R_nw, pe_K_wI, pe_K_wR, pe_L_wI, pe_L_wR, pe_I_wR, pe_R_wI, pe_I_if, pe_R_if, and_self, and_true, true_and, and_false, false_and, if_true, if_false, if_pos, if_neg]); assumption) (k := ?_)
  refine pl_go (P := fun s => pe_X (d + 2) 14 (12, [some (.inr (.inr B)), _, _], [], s) Φ) h0 v0 (by decide) (fun τ1 h1 v1 => ?_)
  clear h0 v0
  refine rb14_12 (h0 := by have := h1.1.1; have := h1.1.2; (simp (disch := omega) only [pe_n_new, pe_u_new, pe_n_wI, pe_u_wI, pe_n_wR, pe_u_wR, pe_K_nw, pe_L_nw, pe_I_nw, pe_R_nw, pe_K_wI, pe_K_wR, pe_L_wI, pe_L_wR, pe_I_wR, pe_R_wI, pe_I_if, pe_R_if, and_self, and_true, true_and, and_false, false_and, if_true, if_false, if_pos, if_neg]); assumption) (k := ?_)
  refine pl_go (P := fun s => pe_X (d + 2) 14 (21, [some (.inr (.inr B)), _, _], [], s) Φ) h1 v1 (by decide) (fun τ2 h2 v2 => ?_)
  clear h1 v1
  refine rb14_21 (h0 := by have := h2.1.1; have := h2.1.2; (simp (disch := omega) only [pe_n_new, pe_u_new, pe_n_wI, pe_u_wI, pe_n_wR, pe_u_wR, pe_K_nw, pe_L_nw, pe_I_nw, pe_R_nw, pe_K_wI, pe_K_wR, pe_L_wI, pe_L_wR, pe_I_wR, pe_R_wI, pe_I_if, pe_R_if, and_self, and_true, true_and, and_false, false_and, if_true, if_false, if_pos, if_neg]); assumption) (k := ?_)
  refine pl_go (P := fun s => pe_X (d + 2) 14 (29, [some (.inr (.inr B)), _, _], [], s) Φ) h2 v2 (by decide) (fun τ3 h3 v3 => ?_)
  clear h2 v2
  refine rb14_29 (h0 := by have := h3.1.1; have := h3.1.2; (simp (disch := omega) only [pe_n_new, pe_u_new, pe_n_wI, pe_u_wI, pe_n_wR, pe_u_wR, pe_K_nw, pe_L_nw, pe_I_nw, pe_R_nw, pe_K_wI, pe_K_wR, pe_L_wI, pe_L_wR, pe_I_wR, pe_R_wI, pe_I_if, pe_R_if, and_self, and_true, true_and, and_false, false_and, if_true, if_false, if_pos, if_neg]); assumption) (k := ?_)
  refine pl_go (P := fun s => pe_X (d + 2) 14 (37, [some (.inr (.inr B)), _, _], [], s) Φ) h3 v3 (by decide) (fun τ4 h4 v4 => ?_)
  clear h3 v3
  refine rb14_37 (h0 := h4.1.1) (k := ?_)
  refine pl_go1 (P := fun s => pe_X (d + 2) 14 (42, [some (.inr (.inr B)), _, _], [], s) Φ) h4 v4 (fun τ5 h5 v5 => ?_)
  clear h4 v4
  refine rb14_42 (h0 := h5.1.1) (k := ?_)
  refine pl_go1 (P := fun s => pe_X (d + 2) 14 (48, [some (.inr (.inr B)), _, _], [], s) Φ) h5 v5 (fun τ6 h6 v6 => ?_)
  clear h5 v5
  refine rb14_48 (h0 := h6.1.1) (k := ?_)
  refine pl_go1 (P := fun s => pe_X (d + 2) 14 (53, [some (.inr (.inr B)), _, _], [], s) Φ) h6 v6 (fun τ7 h7 v7 => ?_)
  clear h6 v6
  refine rb14_53 (h0 := h7.1.1) (k := ?_)
  refine pl_go1 (P := fun s => pe_X (d + 2) 14 (58, [some (.inr (.inr B)), _, _], [], s) Φ) h7 v7 (fun τ8 h8 v8 => ?_)
  clear h7 v7
  refine rb14_58 (h0 := by have := h8.1.1; have := h8.1.2; (simp (disch := omega) only [pe_n_new, pe_u_new, pe_n_wI, pe_u_wI, pe_n_wR, pe_u_wR, pe_K_nw, pe_L_nw, pe_I_nw, pe_R_nw, pe_K_wI, pe_K_wR, pe_L_wI, pe_L_wR, pe_I_wR, pe_R_wI, pe_I_if, pe_R_if, and_self, and_true, true_and, and_false, false_and, if_true, if_false, if_pos, if_neg]); assumption) (k := ?_)
  refine pl_go (P := fun s => pe_X (d + 2) 14 (66, [some (.inr (.inr B)), _, _], [], s) Φ) h8 v8 (by decide) (fun τ9 h9 v9 => ?_)
  clear h8 v8
  refine rb14_66 (h0 := by have := h9.1.1; have := h9.1.2; (simp (disch := omega) only [pe_n_new, pe_u_new, pe_n_wI, pe_u_wI, pe_n_wR, pe_u_wR, pe_K_nw, pe_L_nw, pe_I_nw, pe_R_nw, pe_K_wI, pe_K_wR, pe_L_wI, pe_L_wR, pe_I_wR, pe_R_wI, pe_I_if, pe_R_if, and_self, and_true, true_and, and_false, false_and, if_true, if_false, if_pos, if_neg]); assumption) (k := ?_)
  refine pl_go (P := fun s => pe_X (d + 2) 14 (74, [some (.inr (.inr B)), _, _], [], s) Φ) h9 v9 (by decide) (fun τ10 h10 v10 => ?_)
  clear h9 v9
  refine rb14_74 (h0 := by have := h10.1.1; have := h10.1.2; (simp (disch := omega) only [pe_n_new, pe_u_new, pe_n_wI, pe_u_wI, pe_n_wR, pe_u_wR, pe_K_nw, pe_L_nw, pe_I_nw, pe_R_nw, pe_K_wI, pe_K_wR, pe_L_wI, pe_L_wR, pe_I_wR, pe_R_wI, pe_I_if, pe_R_if, and_self, and_true, true_and, and_false, false_and, if_true, if_false, if_pos, if_neg]); assumption) (k := ?_)
  refine pl_go (P := fun s => pe_X (d + 2) 14 (83, [some (.inr (.inr B)), _, _], [], s) Φ) h10 v10 (by decide) (fun τ11 h11 v11 => ?_)
  clear h10 v10
  refine rb14_83 (h0 := by have := h11.1.1; have := h11.1.2; (simp (disch := omega) only [pe_n_new, pe_u_new, pe_n_wI, pe_u_wI, pe_n_wR, pe_u_wR, pe_K_nw, pe_L_nw, pe_I_nw, pe_R_nw, pe_K_wI, pe_K_wR, pe_L_wI, pe_L_wR, pe_I_wR, pe_R_wI, pe_I_if, pe_R_if, and_self, and_true, true_and, and_false, false_and, if_true, if_false, if_pos, if_neg]); assumption) (k := ?_)
  refine pl_go (P := fun s => pe_X (d + 2) 14 (92, [some (.inr (.inr B)), _, _], [], s) Φ) h11 v11 (by decide) (fun τ12 h12 v12 => ?_)
  clear h11 v11
  refine rb14_92 (h0 := h12.1.1) (k := ?_)
  refine pl_go1 (P := fun s => pe_X (d + 2) 14 (97, [some (.inr (.inr B)), _, _], [], s) Φ) h12 v12 (fun τ13 h13 v13 => ?_)
  clear h12 v12
  obtain ⟨⟨e1, e2⟩, e3, e4, e5, e6, -⟩ := h13
  have hn9 : pe_n τ13 = B + 9 := e2
  have v : pe_u τ13 = pe_u σ + 1059 := by omega
  clear v13
  have w0 : pe_R τ13 B 0 = B + 1 ∧ pe_K τ13 (B + 1) = 16 ∧ pe_L τ13 (B + 1) = 5 := by
    have := e3 (0, 1, 16, 5) (List.mem_of_getElem? (i := 0) rfl)
    exact ⟨this.1, this.2.2.1, this.2.2.2⟩
  have w1 : pe_R τ13 B 1 = B + 2 ∧ pe_K τ13 (B + 2) = 12 ∧ pe_L τ13 (B + 2) = 8 := by
    have := e3 (1, 2, 12, 8) (List.mem_of_getElem? (i := 1) rfl)
    exact ⟨this.1, this.2.2.1, this.2.2.2⟩
  have w2 : pe_R τ13 B 2 = B + 3 ∧ pe_K τ13 (B + 3) = 17 ∧ pe_L τ13 (B + 3) = 3 := by
    have := e3 (2, 3, 17, 3) (List.mem_of_getElem? (i := 2) rfl)
    exact ⟨this.1, this.2.2.1, this.2.2.2⟩
  have w3 : pe_R τ13 B 3 = B + 4 ∧ pe_K τ13 (B + 4) = 17 ∧ pe_L τ13 (B + 4) = 3 := by
    have := e3 (3, 4, 17, 3) (List.mem_of_getElem? (i := 3) rfl)
    exact ⟨this.1, this.2.2.1, this.2.2.2⟩
  have w4 : pe_R τ13 B 8 = B + 5 ∧ pe_K τ13 (B + 5) = 10 ∧ pe_L τ13 (B + 5) = 8 := by
    have := e3 (8, 5, 10, 8) (List.mem_of_getElem? (i := 4) rfl)
    exact ⟨this.1, this.2.2.1, this.2.2.2⟩
  have w5 : pe_R τ13 B 9 = B + 6 ∧ pe_K τ13 (B + 6) = 10 ∧ pe_L τ13 (B + 6) = 8 := by
    have := e3 (9, 6, 10, 8) (List.mem_of_getElem? (i := 5) rfl)
    exact ⟨this.1, this.2.2.1, this.2.2.2⟩
  have w6 : pe_R τ13 B 10 = B + 7 ∧ pe_K τ13 (B + 7) = 10 ∧ pe_L τ13 (B + 7) = 512 := by
    have := e3 (10, 7, 10, 512) (List.mem_of_getElem? (i := 6) rfl)
    exact ⟨this.1, this.2.2.1, this.2.2.2⟩
  have w7 : pe_R τ13 B 11 = B + 8 ∧ pe_K τ13 (B + 8) = 10 ∧ pe_L τ13 (B + 8) = 512 := by
    have := e3 (11, 8, 10, 512) (List.mem_of_getElem? (i := 7) rfl)
    exact ⟨this.1, this.2.2.1, this.2.2.2⟩
  have e40 : ∀ j, pe_I τ13 B j = pm_u (pm_u (pm_u (pm_u (pm_u (fun _ _ => 0) 0 4 0) 0 5 8) 0 6 0) 0 7 0) 0 12 0 0 j := fun j => e4 0 (Nat.zero_le _) j
  have g4 : pe_I τ13 B 4 = 0 := (e40 4).trans rfl
  have g5 : pe_I τ13 B 5 = 8 := (e40 5).trans rfl
  have g6 : pe_I τ13 B 6 = 0 := (e40 6).trans rfl
  have g12 : pe_I τ13 B 12 = 0 := (e40 12).trans rfl
  clear e3 e4 e5 e40
  refine rb14_97 (k := ?_)
  refine pe_M_of ck48 (Nat.le_of_ble_eq_true rfl) ?_
  refine b48_0 (h1 := by rw [pe_K_nw, if_neg (by (simp (disch := omega) only [pe_n_new, pe_u_new, pe_n_wI, pe_u_wI, pe_n_wR, pe_u_wR, pe_K_nw, pe_L_nw, pe_I_nw, pe_R_nw, pe_K_wI, pe_K_wR, pe_L_wI, pe_L_wR, pe_I_wR, pe_R_wI, pe_I_if, pe_R_if, and_self, and_true, true_and, and_false, false_and, if_true, if_false, if_pos, if_neg]); omega), pe_K_nw, if_pos rfl]) (k := ?_)
  refine rb14_108 (k := ?_)
  rw [show pe_n (pe_new τ13 4 0 2) = B + 10 by (simp (disch := omega) only [pe_n_new, pe_u_new, pe_n_wI, pe_u_wI, pe_n_wR, pe_u_wR, pe_K_nw, pe_L_nw, pe_I_nw, pe_R_nw, pe_K_wI, pe_K_wR, pe_L_wI, pe_L_wR, pe_I_wR, pe_R_wI, pe_I_if, pe_R_if, and_self, and_true, true_and, and_false, false_and, if_true, if_false, if_pos, if_neg]); omega, hn9]
  have hs : ∀ x, x < B + 9 → pg_same τ13 (pe_wI (pe_wR (pe_new (pe_new τ13 4 0 2) 10 0 ((0 : Int).toNat)) (B + 9) 0 (B + 10)) (B + 9) 1 (-1)) x := fun x hx => (pg_sn (by omega)).trans ((pg_sn (by (simp (disch := omega) only [pe_n_new, pe_u_new, pe_n_wI, pe_u_wI, pe_n_wR, pe_u_wR, pe_K_nw, pe_L_nw, pe_I_nw, pe_R_nw, pe_K_wI, pe_K_wR, pe_L_wI, pe_L_wR, pe_I_wR, pe_R_wI, pe_I_if, pe_R_if, and_self, and_true, true_and, and_false, false_and, if_true, if_false, if_pos, if_neg]); omega)).trans ((pg_same_wR (by omega)).trans (pg_same_wI (by omega))))
  have hsB := hs B (by omega)
  have hsK : ∀ i, i < 9 → pe_K _ (B + i) = pe_K τ13 (B + i) ∧ pe_L _ (B + i) = pe_L τ13 (B + i) := fun i hi => ⟨(hs (B + i) (by omega)).1, (hs (B + i) (by omega)).2.1⟩
  refine loop1 5 0 _ rfl (by decide) (by (simp (disch := omega) only [pe_n_new, pe_u_new, pe_n_wI, pe_u_wI, pe_n_wR, pe_u_wR, pe_K_nw, pe_L_nw, pe_I_nw, pe_R_nw, pe_K_wI, pe_K_wR, pe_L_wI, pe_L_wR, pe_I_wR, pe_R_wI, pe_I_if, pe_R_if, and_self, and_true, true_and, and_false, false_and, if_true, if_false, if_pos, if_neg]); omega) (by (simp (disch := omega) only [pe_n_new, pe_u_new, pe_n_wI, pe_u_wI, pe_n_wR, pe_u_wR, pe_K_nw, pe_L_nw, pe_I_nw, pe_R_nw, pe_K_wI, pe_K_wR, pe_L_wI, pe_L_wR, pe_I_wR, pe_R_wI, pe_I_if, pe_R_if, and_self, and_true, true_and, and_false, false_and, if_true, if_false, if_pos, if_neg]); omega) ⟨⟨h2, hsB.1.trans e1, by (simp (disch := omega) only [pe_n_new, pe_u_new, pe_n_wI, pe_u_wI, pe_n_wR, pe_u_wR, pe_K_nw, pe_L_nw, pe_I_nw, pe_R_nw, pe_K_wI, pe_K_wR, pe_L_wI, pe_L_wR, pe_I_wR, pe_R_wI, pe_I_if, pe_R_if, and_self, and_true, true_and, and_false, false_and, if_true, if_false, if_pos, if_neg]); omega⟩, ?_, ?_, ?_⟩ (fun j j0 j1 => absurd j1 (by omega)) (fun x hx => (e6 x hx).trans (hs x (by omega)))
  · exact ⟨⟨((hsB.2.2 _).2).trans w0.1, (hsK 1 (by decide)).1.trans w0.2.1, (hsK 1 (by decide)).2.trans w0.2.2⟩, ⟨((hsB.2.2 _).2).trans w1.1, (hsK 2 (by decide)).1.trans w1.2.1, (hsK 2 (by decide)).2.trans w1.2.2⟩, ⟨((hsB.2.2 _).2).trans w2.1, (hsK 3 (by decide)).1.trans w2.2.1, (hsK 3 (by decide)).2.trans w2.2.2⟩, ⟨((hsB.2.2 _).2).trans w3.1, (hsK 4 (by decide)).1.trans w3.2.1, (hsK 4 (by decide)).2.trans w3.2.2⟩, ⟨((hsB.2.2 _).2).trans w4.1, (hsK 5 (by decide)).1.trans w4.2.1, (hsK 5 (by decide)).2.trans w4.2.2⟩, ⟨((hsB.2.2 _).2).trans w5.1, (hsK 6 (by decide)).1.trans w5.2.1, (hsK 6 (by decide)).2.trans w5.2.2⟩, ⟨((hsB.2.2 _).2).trans w6.1, (hsK 7 (by decide)).1.trans w6.2.1, (hsK 7 (by decide)).2.trans w6.2.2⟩, ⟨((hsB.2.2 _).2).trans w7.1, (hsK 8 (by decide)).1.trans w7.2.1, (hsK 8 (by decide)).2.trans w7.2.2⟩⟩
  · exact ⟨((hsB.2.2 _).1).trans g4, ((hsB.2.2 _).1).trans g5, ((hsB.2.2 _).1).trans g6, ((hsB.2.2 _).1).trans g12⟩
  · refine ⟨?_, ?_, ?_, ?_, ?_⟩
    · rw [pe_K_wI, pe_K_wR, pe_K_nw, if_neg (by (simp (disch := omega) only [pe_n_new, pe_u_new, pe_n_wI, pe_u_wI, pe_n_wR, pe_u_wR, pe_K_nw, pe_L_nw, pe_I_nw, pe_R_nw, pe_K_wI, pe_K_wR, pe_L_wI, pe_L_wR, pe_I_wR, pe_R_wI, pe_I_if, pe_R_if, and_self, and_true, true_and, and_false, false_and, if_true, if_false, if_pos, if_neg]); omega), pe_K_nw, if_pos (by omega)]
    · exact pe_I_same
    · rw [pe_R_wI]; exact pe_R_same
    · rw [pe_K_wI, pe_K_wR, pe_K_nw, if_pos (by (simp (disch := omega) only [pe_n_new, pe_u_new, pe_n_wI, pe_u_wI, pe_n_wR, pe_u_wR, pe_K_nw, pe_L_nw, pe_I_nw, pe_R_nw, pe_K_wI, pe_K_wR, pe_L_wI, pe_L_wR, pe_I_wR, pe_R_wI, pe_I_if, pe_R_if, and_self, and_true, true_and, and_false, false_and, if_true, if_false, if_pos, if_neg]); omega)]
    · rw [pe_L_wI, pe_L_wR, pe_L_nw, if_pos (by (simp (disch := omega) only [pe_n_new, pe_u_new, pe_n_wI, pe_u_wI, pe_n_wR, pe_u_wR, pe_K_nw, pe_L_nw, pe_I_nw, pe_R_nw, pe_K_wI, pe_K_wR, pe_L_wI, pe_L_wR, pe_I_wR, pe_R_wI, pe_I_if, pe_R_if, and_self, and_true, true_and, and_false, false_and, if_true, if_false, if_pos, if_neg]); omega)]
end

