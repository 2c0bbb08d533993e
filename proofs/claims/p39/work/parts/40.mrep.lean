/-! THE MODEL'S STATE: y, its ints -/
def pm_RPr (sz : Int) (lt nb : Int → Int) (p : pa_P) : Prop := sz = p.length ∧ ∀ i, 0 ≤ i → i < (p.length : Int) → lt i = (pa_at p i).1 ∧ nb i = (pa_at p i).2
def pm_RFr (y : Nat → Int → Int) (w : Int → Int × List Int) (f ub : Int) (g : pa_F) : Prop := (y 15 f = g.1 1 ∧ y 17 f = g.1 2 ∧ y 18 f = g.1 3 ∧ y 19 f = g.1 4) ∧ pm_RPr (y 16 f) (fun i => y 21 (16 * f + i)) (fun i => y 22 (16 * f + i)) g.2.1 ∧ pr_hl w f (y 20 f - 2) ub g.2.2
def pm_RFs (y : Nat → Int → Int) (w : Int → Int × List Int) (o : Int) : List pa_F → Int → Prop
  | [], _ => True
  | f :: fs, ub => pm_RFr y w (o + fs.length) ub f ∧ pm_RFs y w o fs (pr_nb (y 20 (o + fs.length) - 2) ub)
def pm_RCn (y : Nat → Int → Int) (c : Int) (nu : Nat → Int) : Prop := (y 4 c = nu 0 ∧ y 7 c = nu 2 ∧ y 8 c = nu 3 ∧ y 9 c = nu 4 ∧ y 10 c = nu 5 ∧ y 11 c = nu 6 ∧ y 5 c = nu 20 ∧ y 6 c = nu 21) ∧ (3 ≤ nu 2 → nu 2 ≤ 5 → y 12 c = nu 7)
def pm_RCe (y : Nat → Int → Int) (w : Int → Int × List Int) (c n : Int) (e : List Int) : Prop := e = [] ∨ (e ≠ [] ∧ 0 ≤ y 13 c ∧ y 13 c < n ∧ (w (y 13 c)).1 = -1 ∧ (w (y 13 c)).2 = e)
def pm_RCo (y : Nat → Int → Int) (w : Int → Int × List Int) (c n : Int) (co : pa_C) : Prop := pm_RCn y c co.1 ∧ y 14 c = co.2.2.length ∧ pm_RCe y w c n co.2.1 ∧ pm_RFs y w (6 * c) co.2.2 n
/-- codes of faults that were there at two times (100: when thinking began, 101: when the image was taken) are still there -/
def pm_gh (y : Nat → Int → Int) (n : Int) : Prop := ∀ g : Nat, g = 100 ∨ g = 101 → y g (-1) ≤ n ∧ ∀ j, 0 ≤ j → j < y g (-1) → y 23 j = y g j
def pm_Rx (y : Nat → Int → Int) (w : Int → Int × List Int) (n : Int) (a : pa_M) : Prop := (y 0 3 = a.1 4 ∧ y 0 28 = a.1 5 ∧ y 0 29 = a.1 6 ∧ y 0 23 = n ∧ pm_gh y n) ∧ pr_st (y 23) (y 24) n w ∧ (∀ c, 0 ≤ c → c < a.1 4 → pm_RCo y w c n (a.2.1 c)) ∧ (∀ p, 0 ≤ p → p < 5 → pm_RPr (y 1 p) (fun i => y 2 (16 * p + i)) (fun i => y 3 (16 * p + i)) (a.2.2.1 p)) ∧ (∀ k : Nat, k < 2 → ∀ ch, 0 ≤ ch → ch < 3 → y 25 (3 * k + ch) = (a.2.2.2 k ch).length ∧ ∀ i : Nat, i < (a.2.2.2 k ch).length → y 26 (8 * (3 * k + ch) + i) = (a.2.2.2 k ch).getD i 0)
def pm_R (y : Nat → Int → Int) (a : pa_M) : Prop := ∃ w n, pm_Rx y w n a ∧ n + pa_pots a (a.1 4).toNat ≤ 64 * a.1 4
def pm_fr (Z : Nat → Int → Prop) (y y' : Nat → Int → Int) : Prop := ∀ k j, ¬ Z k j → y' k j = y k j
theorem pm_fr_trans {Z : Nat → Int → Prop} {y y' y'' : Nat → Int → Int} (h : pm_fr Z y y') (h' : pm_fr Z y' y'') : pm_fr Z y y'' := fun k j q => (h' k j q).trans (h k j q)
theorem pm_fr_mono {Z Z' : Nat → Int → Prop} {y y' : Nat → Int → Int} (h : pm_fr Z y y') (hz : ∀ k j, Z k j → Z' k j) : pm_fr Z' y y' := fun k j q => h k j (fun e => q (hz k j e))
def pm_Zs (k : Nat) (j : Int) : Prop := (4 ≤ k ∧ k ≤ 26) ∨ (k = 0 ∧ (j = 23 ∨ j = 29 ∨ j = 30))
section
variable {y y' : Nat → Int → Int} {w w' : Int → Int × List Int}
end
/-- bounds, and frames as they must be -/
def pa_wf8 (a : pa_M) : Prop := (0 ≤ a.1 4 ∧ a.1 4 ≤ 8) ∧ ∀ c, 0 ≤ c → c < a.1 4 → (a.2.1 c).2.2.length ≤ 6 ∧ ∀ f ∈ (a.2.1 c).2.2, pa_wff f
theorem pa_wf0.w8 {a : pa_M} (h : pa_wf0 a) : pa_wf8 a := ⟨h.1, fun c h0 h1 => ⟨(h.2.2.1 c h0 h1).2.1, (h.2.2.1 c h0 h1).2.2.1⟩⟩
theorem pa_wf8_cw {a : pa_M} {c : Int} {v : pa_C} (h : pa_wf8 a) (hv : v.2.2.length ≤ 6) (hf : ∀ f ∈ v.2.2, pa_wff f) : pa_wf8 (pa_cw a c v) := ⟨h.1, fun i h0 h1 => by
  by_cases e : i = c
  · rw [e, pa_cw_same]; exact ⟨hv, hf⟩
  · rw [pa_cw_ne e]; exact h.2 i h0 h1⟩
section
variable {y y' : Nat → Int → Int} {w w' : Int → Int × List Int} {n c : Int} {a : pa_M}
theorem pm_Rx.co (h : pm_Rx y w n a) (h0 : 0 ≤ c) (h1 : c < a.1 4) : pm_RCo y w c n (a.2.1 c) := h.2.2.1 c h0 h1
theorem pm_Rx.st (h : pm_Rx y w n a) : pr_st (y 23) (y 24) n w := h.2.1
theorem pm_R.nn (h : pm_R y a) (h0 : 0 ≤ c) (h1 : c < a.1 4) : pm_RCn y c (a.2.1 c).1 ∧ y 14 c = (a.2.1 c).2.2.length := by
  obtain ⟨w, n, h, -⟩ := h
  exact ⟨(h.co h0 h1).1, (h.co h0 h1).2.1⟩
theorem pm_R.cnt (h : pm_R y a) : y 0 3 = a.1 4 ∧ y 0 28 = a.1 5 ∧ y 0 29 = a.1 6 := by
  obtain ⟨w, n, h, -⟩ := h
  exact ⟨h.1.1, h.1.2.1, h.1.2.2.1⟩
end

