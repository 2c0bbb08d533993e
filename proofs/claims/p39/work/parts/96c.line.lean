/-! THE LAW'S lines, frames, weights -/
section
variable {d o r q x y : Nat} {Z : Int → Prop} {Φ : Option pe_V → pe_H → Prop} {σ σ' : pe_H} {g g' : Nat → Int} {c e v n : Int} {a b s : pa_M} {w : pa_C} {nu : Nat → Int} {k0 : Nat} {l : List Int}
/-- weight -/
theorem k138 {kd fg : Int} (hg : ll_g σ g) (hn : 3 ≤ pe_n σ) (hK : pe_K σ o = 20) (ho : g o ≠ -9) (e1 : pe_I σ o 1 = kd) (e2 : pe_I σ o 2 = fg) (hk : 0 ≤ kd ∧ kd ≤ 5) (hf : 0 ≤ fg ∧ fg ≤ 9) (k : ∀ σ' g', ll_fr (fun _ => False) 1 6 σ g σ' g' → Φ (some (.inl (pa_weight kd fg))) σ') : pe_M (d + 1) 138 [.inr (.inr o)] σ Φ := by
  have hlt := ll_lt hg ho
  have hne : o ≠ pe_n σ := by omega
  have hA : pe_K (pe_new σ 10 6 ((6 : Int).toNat)) (pe_n σ) = 10 := if_pos rfl
  have hK0 : pe_K (pe_new σ 10 6 ((6 : Int).toNat)) o = 20 := (pe_Kn hne).trans hK
  have hl : pe_L (pe_new σ 10 6 ((6 : Int).toNat)) (pe_n σ) = 6 := if_pos rfl
  have i1 : pe_I (pe_new σ 10 6 ((6 : Int).toNat)) o 1 = kd := (pe_In hne).trans e1
  have i2 : pe_I (pe_new σ 10 6 ((6 : Int).toNat)) o 2 = fg := (pe_In hne).trans e2
  have f0 : ll_fr (fun _ => False) 1 6 σ g (pe_new σ 10 6 ((6 : Int).toNat)) (ll_u g (pe_n σ) (-1)) := ll_fr_new hg
  have hg9 := hg _ (Nat.le_refl _)
  refine pe_M_of ck138 (Nat.le_of_ble_eq_true rfl) ?_
  refine b138_0 (h0 := hA) (h1 := by rw [hl]; decide) (h2 := by omega) (h3 := hK0) (h4 := hA) (h5 := by show 1 < pe_L (pe_new σ 10 6 ((6 : Int).toNat)) (pe_n σ); rw [hl]; decide) (h6 := hK0) (h7 := hA) (h8 := by show 2 < pe_L (pe_new σ 10 6 ((6 : Int).toNat)) (pe_n σ); rw [hl]; decide) (h9 := hK0) (h10 := hA) (h11 := by show 3 < pe_L (pe_new σ 10 6 ((6 : Int).toNat)) (pe_n σ); rw [hl]; decide) (h12 := hK0) (h13 := by decide) (h14 := hA) (h15 := by show 4 < pe_L (pe_new σ 10 6 ((6 : Int).toNat)) (pe_n σ); rw [hl]; decide) (h16 := hA) (h17 := by show 5 < pe_L (pe_new σ 10 6 ((6 : Int).toNat)) (pe_n σ); rw [hl]; decide) (w0 := by rw [pe_I_ner hne, pe_I_ner hne, pe_I_ner hne, i2]; unfold pe_in; omega) (k := ?_)
  rw [pe_I_ner hne, pe_I_ner hne, pe_I_ner hne, i2]
  have f7 := ((((((f0.wIn (j := 0) (v := 0) hg9).wIn (j := 1) (v := fg) hg9).wIn (j := 2) (v := -fg) hg9).wIn (j := 3) (v := fg + 2) hg9).wIn (j := 4) (v := -(Int.tdiv fg 2)) hg9).wIn (j := 5) (v := 0) hg9)
  have v0 : ∀ j, pe_I (pe_wI (pe_wI (pe_wI (pe_wI (pe_wI (pe_wI (pe_new σ 10 6 ((6 : Int).toNat)) (pe_n σ) 0 0) (pe_n σ) 1 fg) (pe_n σ) 2 (-fg)) (pe_n σ) 3 (fg + 2)) (pe_n σ) 4 (-(Int.tdiv fg 2))) (pe_n σ) 5 0) o j = pe_I σ o j := fun j => f7.I ho (fun h => h) j
  have hA7 : pe_K (pe_wI (pe_wI (pe_wI (pe_wI (pe_wI (pe_wI (pe_new σ 10 6 ((6 : Int).toNat)) (pe_n σ) 0 0) (pe_n σ) 1 fg) (pe_n σ) 2 (-fg)) (pe_n σ) 3 (fg + 2)) (pe_n σ) 4 (-(Int.tdiv fg 2))) (pe_n σ) 5 0) (pe_n σ) = 10 := hA
  have hL7 : pe_L (pe_wI (pe_wI (pe_wI (pe_wI (pe_wI (pe_wI (pe_new σ 10 6 ((6 : Int).toNat)) (pe_n σ) 0 0) (pe_n σ) 1 fg) (pe_n σ) 2 (-fg)) (pe_n σ) 3 (fg + 2)) (pe_n σ) 4 (-(Int.tdiv fg 2))) (pe_n σ) 5 0) (pe_n σ) = 6 := hl
  have hK7 : pe_K (pe_wI (pe_wI (pe_wI (pe_wI (pe_wI (pe_wI (pe_new σ 10 6 ((6 : Int).toNat)) (pe_n σ) 0 0) (pe_n σ) 1 fg) (pe_n σ) 2 (-fg)) (pe_n σ) 3 (fg + 2)) (pe_n σ) 4 (-(Int.tdiv fg 2))) (pe_n σ) 5 0) o = 20 := hK0
  have hv : pe_I (pe_wI (pe_wI (pe_wI (pe_wI (pe_wI (pe_wI (pe_new σ 10 6 ((6 : Int).toNat)) (pe_n σ) 0 0) (pe_n σ) 1 fg) (pe_n σ) 2 (-fg)) (pe_n σ) 3 (fg + 2)) (pe_n σ) 4 (-(Int.tdiv fg 2))) (pe_n σ) 5 0) (pe_n σ) kd = pa_weight kd fg := by
    have hk6 : kd = 0 ∨ kd = 1 ∨ kd = 2 ∨ kd = 3 ∨ kd = 4 ∨ kd = 5 := by omega
    rcases hk6 with rfl | rfl | rfl | rfl | rfl | rfl <;> simp [pe_I_w, pa_weight, Int.neg_tdiv]
  generalize pe_wI (pe_wI (pe_wI (pe_wI (pe_wI (pe_wI (pe_new σ 10 6 ((6 : Int).toNat)) (pe_n σ) 0 0) (pe_n σ) 1 fg) (pe_n σ) 2 (-fg)) (pe_n σ) 3 (fg + 2)) (pe_n σ) 4 (-(Int.tdiv fg 2))) (pe_n σ) 5 0 = σ7 at f7 v0 hA7 hL7 hK7 hv ⊢
  have i17 : pe_I σ7 o 1 = kd := (v0 1).trans e1
  refine b138_47 (k := ?_)
  rw [i17, hv]
  exact k _ _ f7
/-- a frame -/
theorem k150 {p : Int} {prog : pa_P} {z : Int} (hB : ll_B σ g) (h0 : 0 ≤ p) (h5 : p < 5) (hA1 : ll_A σ g (pe_R σ 879 p) (prog.map Prod.fst)) (hA2 : ll_A σ g (pe_R σ 885 p) (prog.map Prod.snd)) (k : ∀ σ', ll_fr (fun _ => False) 1 8 σ g σ' (ll_u g (pe_n σ) z) → ll_F σ' (ll_u g (pe_n σ) z) z (pe_n σ) (pa_nf p prog) → Φ (some (.inr (.inr (pe_n σ)))) σ') : pe_M (d + 2) 150 [.inr (.inr 3), .inl p] σ Φ := by
  have hL := hB.L
  have hg := hB.1.2
  have hn3 : 3 < pe_n σ := ll_lt hg (by rw [hB.2.1]; decide)
  have n0 : ¬ pe_n σ = 0 := by omega
  have f0 : ll_fr (fun _ => False) 1 8 σ g (pe_new σ 19 0 8) (ll_u g (pe_n σ) z) := ll_fr_new hg
  have hg9 := hg _ (Nat.le_refl _)
  refine pe_M_of ck150 (Nat.le_of_ble_eq_true rfl) ?_
  refine b150_0 (k := ?_)
  refine pe_M.up (k133 (d := 0) n0 (if_pos rfl) ?_) (by omega)
  have f3 := ((f0.wIn (j := 0) (v := p) hg9).wRn (j := 1) (q := pe_R σ 879 p) hg9).wRn (j := 2) (q := pe_R σ 885 p) hg9
  have hL3 := (hB.fr f3 (fun h => h)).L
  have hF : ll_F (pe_wR (pe_wR (pe_wI (pe_new σ 19 0 8) (pe_n σ) 0 p) (pe_n σ) 1 (pe_R σ 879 p)) (pe_n σ) 2 (pe_R σ 885 p)) (ll_u g (pe_n σ) z) z (pe_n σ) (pa_nf p prog) := by
    refine ⟨⟨if_pos rfl, ll_u_s⟩, ⟨?_, ?_, ?_, ?_⟩, ⟨?_, ?_⟩, ?_, ?_⟩
    · rw [pe_I_wR, pe_I_wR, pe_I_same]; simp [pa_nf, pa_s]
    · simp [pe_I_w, pa_nf, pa_s, pe_I_wR, pe_I_nw]
    · simp [pe_I_w, pa_nf, pa_s, pe_I_wR, pe_I_nw]
    · simp [pe_I_w, pa_nf, pa_s, pe_I_wR, pe_I_nw]
    · rw [pe_R_nej (by decide), pe_R_same]
      exact hA1.fr f3 (fun h => h)
    · rw [pe_R_same]
      exact hA2.fr f3 (fun h => h)
    · simp [pe_I_w, pa_nf, pa_s, pe_I_wR, pe_I_nw]
    · rw [pe_R_nej (by decide), pe_R_nej (by decide)]
      exact if_pos rfl
  refine b150_20 (k := ?_)
  exact k _ f3 hF
/-- one line anew -/
theorem ll_R.ln0 (h : ll_R σ g a) (hk : k0 < 2) (h0 : 0 ≤ n) (h3 : n < 3) : ll_A σ g (pe_R σ 892 (n + 3 * k0)) (a.2.2.2 k0 n) := by
  have := h.2.2.2.1 n h0 h3
  have hk : k0 = 0 ∨ k0 = 1 := by omega
  rcases hk with rfl | rfl
  · rw [show n + 3 * ((0 : Nat) : Int) = n by omega]; exact this.1
  · rw [show n + 3 * ((1 : Nat) : Int) = n + 3 by omega]; exact this.2
theorem ll_R.ln (h : ll_R σ g a) (hw : pa_wf9 a) (hk : k0 < 2) (h0 : 0 ≤ n) (h3 : n < 3) (hA : ll_A σ g r l) : ll_fr ll_Zs 0 0 σ g (pe_wR σ 892 (n + 3 * k0) r) g ∧ ll_R (pe_wR σ 892 (n + 3 * k0) r) g (pa_qw a k0 n l) := by
  have hf : ll_fr (fun z => z = -4) 0 0 σ g (pe_wR σ 892 (n + 3 * k0) r) g := ll_fr_wR h.gg h.B.2.2.2.1
  have n1 : ¬ ((-1 : Int) = -4) := by decide
  refine ⟨ll_fr_mono hf (fun z hz => by unfold ll_Zs; omega), h.B.fr hf (by decide), h.2.1, fun p p0 p5 => ?_, fun q q0 q3 => ⟨?_, ?_⟩, fun i i0 i1 => ?_⟩
  · rw [pe_R_ner (by decide), pe_R_ner (by decide)]
    exact ⟨(h.2.2.1 p p0 p5).1.fr hf n1, (h.2.2.1 p p0 p5).2.fr hf n1⟩
  · show ll_A _ g _ (if (0 : Nat) = k0 ∧ q = n then l else a.2.2.2 0 q)
    by_cases e : (0 : Nat) = k0 ∧ q = n
    · rw [if_pos e]
      obtain ⟨e1, e2⟩ := e
      subst e1 e2
      rw [show q + 3 * ((0 : Nat) : Int) = q by omega, pe_R_same]
      exact ll_A.fr (g := g) (hf := by exact (show ll_fr (fun z => z = -4) 0 0 σ g (pe_wR σ 892 (q + 3 * ((0 : Nat) : Int)) r) g from hf) ) n1 hA |> fun z => by
        rw [show q + 3 * ((0 : Nat) : Int) = q by omega] at z
        exact z
    · rw [if_neg e, pe_R_nej (by omega)]
      exact (h.2.2.2.1 q q0 q3).1.fr hf n1
  · show ll_A _ g _ (if (1 : Nat) = k0 ∧ q = n then l else a.2.2.2 1 q)
    by_cases e : (1 : Nat) = k0 ∧ q = n
    · rw [if_pos e]
      have e1 : q + 3 = n + 3 * (k0 : Int) := by omega
      rw [e1, pe_R_same]
      exact hA.fr hf n1
    · rw [if_neg e, pe_R_nej (by omega)]
      exact (h.2.2.2.1 q q0 q3).2.fr hf n1
  · rw [pe_R_ner (by decide)]
    exact (h.co i0 i1).fr hf n1 i0 (fun z hz q => by unfold ll_Zc at hz; omega) (hw.2 i i0 i1)
/-- only what is in range is told -/
theorem ll_R.congr (h : ll_R σ g a) (h1 : b.1 = a.1) (h2 : ∀ c, 0 ≤ c → c < a.1 4 → b.2.1 c = a.2.1 c) (h3 : ∀ p, 0 ≤ p → p < 5 → b.2.2.1 p = a.2.2.1 p) (h4 : ∀ n, 0 ≤ n → n < 3 → b.2.2.2 0 n = a.2.2.2 0 n ∧ b.2.2.2 1 n = a.2.2.2 1 n) : ll_R σ g b := by
  refine ⟨h.1, by rw [h1]; exact h.2.1, fun p p0 p5 => by rw [h3 p p0 p5]; exact h.2.2.1 p p0 p5, fun q q0 q3 => by rw [(h4 q q0 q3).1, (h4 q q0 q3).2]; exact h.2.2.2.1 q q0 q3, fun i i0 i1 => ?_⟩
  rw [h1] at i1
  rw [h2 i i0 i1]
  exact h.2.2.2.2 i i0 i1
end
