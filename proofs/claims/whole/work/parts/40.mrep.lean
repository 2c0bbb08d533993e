/-! THE MODEL'S STATE: y, its ints -/
def pm_RPr (sz : Int) (lt nb : Int → Int) (p : pa_P) : Prop := sz = p.length ∧ ∀ i, 0 ≤ i → i < (p.length : Int) → lt i = (pa_at p i).1 ∧ nb i = (pa_at p i).2
def pm_RFr (y : Nat → Int → Int) (w : Int → Int × List Int) (f ub : Int) (g : pa_F) : Prop := (y 15 f = g.1 1 ∧ y 17 f = g.1 2 ∧ y 18 f = g.1 3 ∧ y 19 f = g.1 4) ∧ pm_RPr (y 16 f) (fun i => y 21 (16 * f + i)) (fun i => y 22 (16 * f + i)) g.2.1 ∧ pr_hl w f (y 20 f - 2) ub g.2.2
def pm_RFs (y : Nat → Int → Int) (w : Int → Int × List Int) (o : Int) : List pa_F → Int → Prop
  | [], _ => True
  | f :: fs, ub => pm_RFr y w (o + fs.length) ub f ∧ pm_RFs y w o fs (pr_nb (y 20 (o + fs.length) - 2) ub)
def pm_RCn (y : Nat → Int → Int) (c : Int) (nu : Nat → Int) : Prop := (y 4 c = nu 0 ∧ y 7 c = nu 2 ∧ y 8 c = nu 3 ∧ y 9 c = nu 4 ∧ y 10 c = nu 5 ∧ y 11 c = nu 6 ∧ y 5 c = nu 20 ∧ y 6 c = nu 21) ∧ (3 ≤ nu 2 → nu 2 ≤ 5 → y 12 c = nu 7)
def pm_RCe (y : Nat → Int → Int) (w : Int → Int × List Int) (c n : Int) (e : List Int) : Prop := e = [] ∨ (e ≠ [] ∧ 0 ≤ y 13 c ∧ y 13 c < n ∧ (w (y 13 c)).1 = -1 ∧ (w (y 13 c)).2 = e)
def pm_RCo (y : Nat → Int → Int) (w : Int → Int × List Int) (c n : Int) (co : pa_C) : Prop := pm_RCn y c co.1 ∧ y 14 c = co.2.2.length ∧ pm_RCe y w c n co.2.1 ∧ pm_RFs y w (6 * c) co.2.2 n
/-- codes of faults that were there at two times (100: when thinking began, 101: when the image was taken) are still there -/
def pm_gh (y : Nat → Int → Int) (n : Int) : Prop := ∀ g : Nat, g = 100 ∨ g = 101 → y g (-1) ≤ n ∧ ∀ j, 0 ≤ j → j < y g (-1) → y 23 j = y g j
theorem pm_gh_keep {y y' : Nat → Int → Int} {n n' : Int} (h : pm_gh y n) (h23 : ∀ j, y' 23 j = y 23 j) (hg : ∀ g, g = 100 ∨ g = 101 → ∀ j, y' g j = y g j) (hn : n ≤ n') : pm_gh y' n' := fun g hgg => by
  obtain ⟨h1, h2⟩ := h g hgg
  have := hg g hgg (-1)
  refine ⟨by omega, fun j j0 j1 => ?_⟩
  rw [h23, hg g hgg]
  exact h2 j j0 (by omega)
def pm_Rx (y : Nat → Int → Int) (w : Int → Int × List Int) (n : Int) (a : pa_M) : Prop := (y 0 3 = a.1 4 ∧ y 0 28 = a.1 5 ∧ y 0 29 = a.1 6 ∧ y 0 23 = n ∧ pm_gh y n) ∧ pr_st (y 23) (y 24) n w ∧ (∀ c, 0 ≤ c → c < a.1 4 → pm_RCo y w c n (a.2.1 c)) ∧ (∀ p, 0 ≤ p → p < 5 → pm_RPr (y 1 p) (fun i => y 2 (16 * p + i)) (fun i => y 3 (16 * p + i)) (a.2.2.1 p)) ∧ (∀ k : Nat, k < 2 → ∀ ch, 0 ≤ ch → ch < 3 → y 25 (3 * k + ch) = (a.2.2.2 k ch).length ∧ ∀ i : Nat, i < (a.2.2.2 k ch).length → y 26 (8 * (3 * k + ch) + i) = (a.2.2.2 k ch).getD i 0)
def pm_R (y : Nat → Int → Int) (a : pa_M) : Prop := ∃ w n, pm_Rx y w n a ∧ n + pa_pots a (a.1 4).toNat ≤ 64 * a.1 4
def pm_fr (Z : Nat → Int → Prop) (y y' : Nat → Int → Int) : Prop := ∀ k j, ¬ Z k j → y' k j = y k j
theorem pm_fr_refl (Z : Nat → Int → Prop) (y : Nat → Int → Int) : pm_fr Z y y := fun _ _ _ => rfl
theorem pm_fr_trans {Z : Nat → Int → Prop} {y y' y'' : Nat → Int → Int} (h : pm_fr Z y y') (h' : pm_fr Z y' y'') : pm_fr Z y y'' := fun k j q => (h' k j q).trans (h k j q)
theorem pm_fr_mono {Z Z' : Nat → Int → Prop} {y y' : Nat → Int → Int} (h : pm_fr Z y y') (hz : ∀ k j, Z k j → Z' k j) : pm_fr Z' y y' := fun k j q => h k j (fun e => q (hz k j e))
theorem pm_fr_u {Z : Nat → Int → Prop} {y : Nat → Int → Int} {k : Nat} {j v : Int} (h : Z k j) : pm_fr Z y (pm_u y k j v) := fun k' j' q => if_neg (fun e => q (by rw [e.1, e.2]; exact h))
theorem pm_fr_then {Z : Nat → Int → Prop} {y y' : Nat → Int → Int} {k : Nat} {j v : Int} (h' : pm_fr Z y y') (h : Z k j) : pm_fr Z y (pm_u y' k j v) := pm_fr_trans h' (pm_fr_u h)
/-- what is a coroutine's own -/
def pm_own (c : Int) (k : Nat) (j : Int) : Prop := (4 ≤ k ∧ k ≤ 14 ∧ j = c) ∨ (15 ≤ k ∧ k ≤ 20 ∧ 6 * c ≤ j ∧ j < 6 * c + 6) ∨ (21 ≤ k ∧ k ≤ 22 ∧ 96 * c ≤ j ∧ j < 96 * c + 96)
def pm_Zc (c : Int) (k : Nat) (j : Int) : Prop := pm_own c k j ∨ k = 24
def pm_Zs (k : Nat) (j : Int) : Prop := (4 ≤ k ∧ k ≤ 26) ∨ (k = 0 ∧ (j = 23 ∨ j = 29 ∨ j = 30))
theorem pm_Zc_Zs {c : Int} (k : Nat) (j : Int) (h : pm_Zc c k j) : pm_Zs k j := by
  unfold pm_Zc pm_own at h
  unfold pm_Zs
  omega
section
variable {y y' : Nat → Int → Int} {w w' : Int → Int × List Int}
theorem pm_RFr_keep {f ub ub' : Int} {g : pa_F} (hI : ∀ k, 15 ≤ k → k ≤ 20 → y' k f = y k f) (hJ : ∀ k, 21 ≤ k → k ≤ 22 → ∀ i, 0 ≤ i → i < 16 → y' k (16 * f + i) = y k (16 * f + i)) (hl : g.2.1.length ≤ 16) (hu : ub ≤ ub') (hw : ∀ h, (w h).1 = f → w' h = w h) (h : pm_RFr y w f ub g) : pm_RFr y' w' f ub' g := by
  obtain ⟨⟨b1, b2, b3, b4⟩, ⟨b5, b6⟩, b7⟩ := h
  refine ⟨⟨by rw [hI 15 (by decide) (by decide)]; exact b1, by rw [hI 17 (by decide) (by decide)]; exact b2, by rw [hI 18 (by decide) (by decide)]; exact b3, by rw [hI 19 (by decide) (by decide)]; exact b4⟩, ⟨by rw [hI 16 (by decide) (by decide)]; exact b5, fun i i0 i1 => ?_⟩, ?_⟩
  · show y' 21 (16 * f + i) = _ ∧ y' 22 (16 * f + i) = _
    rw [hJ 21 (by decide) (by decide) i i0 (by omega), hJ 22 (by decide) (by decide) i i0 (by omega)]
    exact b6 i i0 i1
  · rw [hI 20 (by decide) (by decide)]
    exact pr_hl_ub (pr_hl_w b7 (fun _ q => hw _ q)) hu
theorem pm_RFs_keep {o : Int} {m : Nat} (hI : ∀ i : Nat, i < m → (∀ k, 15 ≤ k → k ≤ 20 → y' k (o + i) = y k (o + i)) ∧ ∀ k, 21 ≤ k → k ≤ 22 → ∀ x, 0 ≤ x → x < 16 → y' k (16 * (o + i) + x) = y k (16 * (o + i) + x)) : ∀ (fs : List pa_F) (ub ub' : Int), fs.length ≤ m → (∀ f ∈ fs, pa_wff f) → ub ≤ ub' → (∀ h, o ≤ (w h).1 → (w h).1 < o + fs.length → w' h = w h) → pm_RFs y w o fs ub → pm_RFs y' w' o fs ub'
  | [], _, _, _, _, _, _, _ => trivial
  | f :: fs, ub, ub', hl, hf, hu, hw, h => by
    rw [List.length_cons] at hl hw
    have hi := hI fs.length (by omega)
    refine ⟨pm_RFr_keep hi.1 hi.2 (hf f List.mem_cons_self).2.2.2.2.1.1 hu (fun h q => hw h (by omega) (by omega)) h.1, ?_⟩
    rw [hi.1 20 (by decide) (by decide)]
    exact pm_RFs_keep hI fs _ _ (by omega) (fun g hg => hf g (List.mem_cons_of_mem _ hg)) (pr_nb_mono hu) (fun h h1 h2 => hw h h1 (by omega)) h.2
theorem pm_RCo_keep {c n n' : Int} {co : pa_C} (hf : ∀ k j, pm_own c k j → y' k j = y k j) (hn : n ≤ n') (hw : ∀ h, (w h).1 = -1 ∨ (6 * c ≤ (w h).1 ∧ (w h).1 < 6 * c + 6) → w' h = w h) (hl : co.2.2.length ≤ 6) (hff : ∀ f ∈ co.2.2, pa_wff f) (h : pm_RCo y w c n co) : pm_RCo y' w' c n' co := by
  obtain ⟨⟨⟨a0, a2, a3, a4, a5, a6, a7, a8⟩, b7⟩, b2, b3, b4⟩ := h
  have e : ∀ k, 4 ≤ k → k ≤ 14 → y' k c = y k c := fun k k1 k2 => hf k c (Or.inl ⟨k1, k2, rfl⟩)
  refine ⟨⟨⟨by rw [e 4 (by decide) (by decide)]; exact a0, by rw [e 7 (by decide) (by decide)]; exact a2, by rw [e 8 (by decide) (by decide)]; exact a3, by rw [e 9 (by decide) (by decide)]; exact a4, by rw [e 10 (by decide) (by decide)]; exact a5, by rw [e 11 (by decide) (by decide)]; exact a6, by rw [e 5 (by decide) (by decide)]; exact a7, by rw [e 6 (by decide) (by decide)]; exact a8⟩, by rw [e 12 (by decide) (by decide)]; exact b7⟩, by rw [e 14 (by decide) (by decide)]; exact b2, ?_, ?_⟩
  · unfold pm_RCe
    rw [e 13 (by decide) (by decide)]
    rcases b3 with q | ⟨q1, q2, q3, q4, q5⟩
    · exact Or.inl q
    · have := hw _ (Or.inl q4)
      exact Or.inr ⟨q1, q2, by omega, by rw [this]; exact q4, by rw [this]; exact q5⟩
  · exact pm_RFs_keep (m := 6) (fun i hi => ⟨fun k k1 k2 => hf k _ (Or.inr (Or.inl ⟨k1, k2, by omega, by omega⟩)), fun k k1 k2 x x0 x1 => hf k _ (Or.inr (Or.inr ⟨k1, k2, by omega, by omega⟩))⟩) _ _ _ hl hff hn (fun h h1 h2 => hw h (Or.inr ⟨h1, by omega⟩)) b4
end
/-- bounds, and frames as they must be -/
def pa_wf8 (a : pa_M) : Prop := (0 ≤ a.1 4 ∧ a.1 4 ≤ 8) ∧ ∀ c, 0 ≤ c → c < a.1 4 → (a.2.1 c).2.2.length ≤ 6 ∧ ∀ f ∈ (a.2.1 c).2.2, pa_wff f
theorem pa_wf0.w8 {a : pa_M} (h : pa_wf0 a) : pa_wf8 a := ⟨h.1, fun c h0 h1 => ⟨(h.2.2.1 c h0 h1).2.1, (h.2.2.1 c h0 h1).2.2.1⟩⟩
theorem pa_wf8_cw {a : pa_M} {c : Int} {v : pa_C} (h : pa_wf8 a) (hv : v.2.2.length ≤ 6) (hf : ∀ f ∈ v.2.2, pa_wff f) : pa_wf8 (pa_cw a c v) := ⟨h.1, fun i h0 h1 => by
  by_cases e : i = c
  · rw [e, pa_cw_same]; exact ⟨hv, hf⟩
  · rw [pa_cw_ne e]; exact h.2 i h0 h1⟩
section
variable {y y' : Nat → Int → Int} {w w' : Int → Int × List Int} {n c : Int} {a : pa_M}
theorem pm_Rx_co {v : pa_C} (h : pm_Rx y w n a) (hw8 : pa_wf8 a) (h0 : 0 ≤ c) (h1 : c < a.1 4) (hf : pm_fr (pm_Zc c) y y') (hs : pr_st (y' 23) (y' 24) n w') (hw : pr_wk c w w') (hv : pm_RCo y' w' c n v) : pm_Rx y' w' n (pa_cw a c v) := by
  obtain ⟨a1, a2, a3, a4, a5⟩ := h
  have h8 := hw8.1
  have e0 : ∀ k, k < 4 → ∀ j, y' k j = y k j := fun k hk j => hf k j (by unfold pm_Zc pm_own; omega)
  have e25 : ∀ k, 25 ≤ k → ∀ j, y' k j = y k j := fun k hk j => hf k j (by unfold pm_Zc pm_own; omega)
  refine ⟨?_, hs, fun i i0 i1 => ?_, fun p p0 p5 => ?_, fun k hk ch c0 c3 => ?_⟩
  · rw [e0 0 (by decide), e0 0 (by decide), e0 0 (by decide), e0 0 (by decide)]
    exact ⟨a1.1, a1.2.1, a1.2.2.1, a1.2.2.2.1, pm_gh_keep a1.2.2.2.2 (fun j => hf 23 j (by unfold pm_Zc pm_own; omega)) (fun g hg j => hf g j (by unfold pm_Zc pm_own; omega)) (Int.le_refl _)⟩
  · by_cases e : i = c
    · rw [e, pa_cw_same]; exact hv
    · rw [pa_cw_ne e]
      have i1 : i < a.1 4 := i1
      refine pm_RCo_keep (fun k j q => hf k j ?_) (Int.le_refl _) (fun h q => hw h (by omega) (by omega)) (hw8.2 i i0 i1).1 (hw8.2 i i0 i1).2 (a3 i i0 i1)
      unfold pm_own at q
      unfold pm_Zc pm_own
      omega
  · rw [e0 1 (by decide), show y' 2 = y 2 from funext (e0 2 (by decide)), show y' 3 = y 3 from funext (e0 3 (by decide))]
    exact a4 p p0 p5
  · have := a5 k hk ch c0 c3
    exact ⟨by rw [e25 25 (by decide)]; exact this.1, fun i hi => by rw [e25 26 (by decide)]; exact this.2 i hi⟩
theorem pm_Rx.co (h : pm_Rx y w n a) (h0 : 0 ≤ c) (h1 : c < a.1 4) : pm_RCo y w c n (a.2.1 c) := h.2.2.1 c h0 h1
theorem pm_Rx.st (h : pm_Rx y w n a) : pr_st (y 23) (y 24) n w := h.2.1
/-- a coroutine's numbers have changed -/
theorem pm_Rx_nu {nu : Nat → Int} (h : pm_Rx y w n a) (hw8 : pa_wf8 a) (h0 : 0 ≤ c) (h1 : c < a.1 4) (hf : pm_fr (fun k j => 4 ≤ k ∧ k ≤ 12 ∧ j = c) y y') (hN : pm_RCn y' c nu) : pm_Rx y' w n (pa_cw a c (nu, (a.2.1 c).2)) := by
  obtain ⟨b1, b2, b3, b4⟩ := h.co h0 h1
  have hZ : pm_fr (pm_Zc c) y y' := pm_fr_mono hf (fun k j q => Or.inl (Or.inl (by omega)))
  have e : ∀ k, 13 ≤ k → ∀ j, y' k j = y k j := fun k hk j => hf k j (by omega)
  refine pm_Rx_co h hw8 h0 h1 hZ ?_ (pr_wk_refl c w) ⟨hN, by rw [e 14 (by decide)]; exact b2, ?_, ?_⟩
  · rw [show y' 23 = y 23 from funext (e 23 (by decide)), show y' 24 = y 24 from funext (e 24 (by decide))]; exact h.st
  · unfold pm_RCe
    rw [e 13 (by decide)]; exact b3
  · exact pm_RFs_keep (m := 6) (fun i hi => ⟨fun k k1 k2 => e k (by omega) _, fun k k1 k2 x x0 x1 => e k (by omega) _⟩) _ _ _ (hw8.2 c h0 h1).1 (hw8.2 c h0 h1).2 (Int.le_refl _) (fun _ _ _ => rfl) b4
theorem pm_R_cw {n' : Int} {v : pa_C} (hn : n + pa_pots a (a.1 4).toNat ≤ 64 * a.1 4) (h0 : 0 ≤ c) (h1 : c < a.1 4) (hp : n' + pa_pot v.2.2 ≤ n + pa_pot (a.2.1 c).2.2) (hR : pm_Rx y' w' n' (pa_cw a c v)) : pm_R y' (pa_cw a c v) := by
  refine ⟨w', n', hR, ?_⟩
  have := pa_pots_cw (a := a) (v := v) (n := (a.1 4).toNat) h0 (by omega)
  show n' + pa_pots (pa_cw a c v) (a.1 4).toNat ≤ 64 * a.1 4
  omega
theorem pm_R_nu {nu : Nat → Int} (h : pm_R y a) (hw8 : pa_wf8 a) (h0 : 0 ≤ c) (h1 : c < a.1 4) (hf : pm_fr (fun k j => 4 ≤ k ∧ k ≤ 12 ∧ j = c) y y') (hN : pm_RCn y' c nu) : pm_R y' (pa_cw a c (nu, (a.2.1 c).2)) := by
  obtain ⟨w, n, h, hn⟩ := h
  exact pm_R_cw hn h0 h1 (Int.le_refl _) (pm_Rx_nu h hw8 h0 h1 hf hN)
theorem pm_R.nn (h : pm_R y a) (h0 : 0 ≤ c) (h1 : c < a.1 4) : pm_RCn y c (a.2.1 c).1 ∧ y 14 c = (a.2.1 c).2.2.length := by
  obtain ⟨w, n, h, -⟩ := h
  exact ⟨(h.co h0 h1).1, (h.co h0 h1).2.1⟩
theorem pm_R.cnt (h : pm_R y a) : y 0 3 = a.1 4 ∧ y 0 28 = a.1 5 ∧ y 0 29 = a.1 6 := by
  obtain ⟨w, n, h, -⟩ := h
  exact ⟨h.1.1, h.1.2.1, h.1.2.2.1⟩
end
