/-! THE MODEL: the steps that do nothing while one is closing -/
theorem pe_wl_id {x : Int} (h : -9223372036854775808 ≤ x ∧ x < 9223372036854775808) : pe_wl x = x := by
  unfold pe_wl
  exact Int64.toInt_ofInt_of_le h.1 h.2
theorem pe_lcmp_s {x y : Int} (hx : -9223372036854775808 ≤ x ∧ x < 9223372036854775808) (hy : -9223372036854775808 ≤ y ∧ y < 9223372036854775808) : pe_lcmp x y = if x < y then -1 else if x = y then 0 else 1 := by
  unfold pe_lcmp
  rw [pe_wl_id hx, pe_wl_id hy]
section
variable {d M q : Nat} {Φ : Option pe_V → pe_H → Prop} {σ : pe_H} {y y' : Nat → Int → Int} {c n : Int} {a : pa_M}
/-- in -/
theorem c134 {x l h : Int} (hF : pm_F M σ) (hx : -9223372036854775808 ≤ x ∧ x < 9223372036854775808) (hl : -9223372036854775808 ≤ l ∧ l < 9223372036854775808) (hh : -9223372036854775808 ≤ h ∧ h < 9223372036854775808) (k1 : l ≤ x ∧ x ≤ h → Φ (some (.inl 1)) (pm_h M σ q y)) (k0 : ¬ (l ≤ x ∧ x ≤ h) → Φ (some (.inl 0)) (pm_h M σ q y)) : pe_M (d + 1) 134 [.inr (.inl x), .inr (.inl l), .inr (.inl h)] (pm_h M σ q y) Φ := by
  have e1 := pe_lcmp_s hx hl
  have e2 := pe_lcmp_s hx hh
  have w1 : pe_in (pe_lcmp x l) := by rw [e1]; unfold pe_in; split <;> (try split) <;> omega
  have w2 : pe_in (pe_lcmp x h) := by rw [e2]; unfold pe_in; split <;> (try split) <;> omega
  have f1 : pe_lcmp x l < 0 ↔ x < l := by rw [e1]; split <;> (try split) <;> omega
  have f2 : 0 < pe_lcmp x h ↔ h < x := by rw [e2]; split <;> (try split) <;> omega
  refine pe_M_of ck134 (Nat.le_of_ble_eq_true rfl) ?_
  refine b134_0 hF (w0 := w1) (k1 := fun r => ?_) (k2 := fun r => ?_)
  · refine b134_17 hF (k := ?_)
    refine b134_18 hF (k := ?_)
    exact k0 (by omega)
  · refine b134_6 hF (w0 := w2) (k1 := fun r2 => ?_) (k2 := fun r2 => ?_)
    · refine b134_17 hF (k := ?_)
      refine b134_18 hF (k := ?_)
      exact k0 (by omega)
    · refine b134_13 hF (k := ?_)
      refine b134_18 hF (k := ?_)
      exact k1 (by omega)
/-- isOne -/
theorem c138 (hF : pm_F M σ) (h4 : 0 ≤ y 0 3 ∧ y 0 3 ≤ 8) (hn : -2147483648 ≤ n ∧ n < 2147483648) (k1 : 0 ≤ n ∧ n < y 0 3 → Φ (some (.inl 1)) (pm_h M σ q y)) (k0 : ¬ (0 ≤ n ∧ n < y 0 3) → Φ (some (.inl 0)) (pm_h M σ q y)) : pe_M (d + 2) 138 [.inr (.inr M), .inl n] (pm_h M σ q y) Φ := by
  refine pe_M_of ck138 (Nat.le_of_ble_eq_true rfl) ?_
  refine b138_0 hF (k := ?_)
  refine c134 hF (by omega) (by omega) (by omega) (fun r => ?_) (fun r => ?_)
  · refine b138_13 hF (k := ?_)
    exact k1 (by omega)
  · refine b138_13 hF (k := ?_)
    exact k0 (by omega)
/-- joins -/
theorem c158 (hF : pm_F M σ) (hM : pm_R y a) (hwf : pa_wf3 a) (h0 : 0 ≤ c) (h1 : c < a.1 4) (h3 : (a.2.1 c).1 2 < 3) (hn0 : 0 ≤ n) (hn9 : n ≤ 9) (k : ∀ y2, pm_fr pm_Zt y y2 → pm_R y2 (pa_cw a c (pa_join a c (a.2.1 c) n)) → Φ none (pm_h M σ q y2)) : pe_M (d + 4) 158 [.inr (.inr M), .inl c, .inl n] (pm_h M σ q y) Φ := by
  have h8 := hwf.1.1
  have h4 := hM.cnt.1
  have hthrow : n = c ∨ a.1 4 ≤ n → pe_X (d + 3) 158 (13, [some (.inr (.inr M)), some (.inl c), some (.inl n)], [], pm_h M σ q y) Φ := fun hno => by
    refine b158_13 hF (k := ?_)
    refine cTN hF hM hwf.1 h0 h1 h3 (Or.inl ⟨rfl, rfl⟩) (fun m y1 g => ?_)
    refine b158_22 hF (k := ?_)
    refine g _ _ (fun y2 e1 e3' => ?_)
    refine b158_25 hF (k := ?_)
    refine b158_59 hF (k := ?_)
    refine k y2 e1 ?_
    unfold pa_join
    rw [if_pos hno]
    exact e3'
  refine pe_M_of ck158 (Nat.le_of_ble_eq_true rfl) ?_
  refine b158_0 hF (k1 := fun r => ?_) (k2 := fun r => ?_)
  · exact hthrow (Or.inl r)
  · refine b158_5 hF (k := ?_)
    refine c138 hF (by omega) (by omega) (fun r2 => ?_) (fun r2 => ?_)
    · refine b158_10 hF (k1 := fun _ => ?_) (k2 := fun r => by omega)
      have ho1 : n < a.1 4 := by omega
      have hwo := hwf.1.2.2.1 n hn0 ho1
      have hob := hwo.1.2.1
      have e7 : y 7 n = (a.2.1 n).1 2 := (hM.nn hn0 ho1).1.1.2.1
      refine b158_28 hF (k := ?_)
      refine c139 hF hn0 (by omega) (by omega) (fun r6 => ?_) (fun r6 => ?_)
      · refine b158_33 hF (k1 := fun r => by omega) (k2 := fun _ => ?_)
        refine b158_36 hF (k := ?_)
        refine c157 hF hM hwf.1 h0 h1 h3 hn0 ho1 (by omega) (fun y2 e1 e2 => ?_)
        refine b158_42 hF (k := ?_)
        refine b158_59 hF (k := ?_)
        refine k y2 e1 ?_
        unfold pa_join
        rw [if_neg (by omega), if_pos (by omega)]
        exact e2
      · refine b158_33 hF (k1 := fun _ => ?_) (k2 := fun r => absurd rfl r)
        refine b158_45 hF (k := ?_)
        refine b158_59 hF (k := ?_)
        refine k _ (pm_fr_then (pm_fr_u (Or.inl ⟨by decide, by decide⟩)) (Or.inl ⟨by decide, by decide⟩)) ?_
        unfold pa_join
        rw [if_neg (by omega), if_neg (by omega)]
        refine pm_R_nu (nu := pa_s (pa_s (a.2.1 c).1 2 5) 7 n) hM hwf.1.w8 h0 h1 (pm_fr_then (pm_fr_u ⟨by decide, by decide, rfl⟩) ⟨by decide, by decide, rfl⟩) ?_
        obtain ⟨⟨a0, a2, a3, a4, a5, a6, a7, a8⟩, b⟩ := (hM.nn h0 h1).1
        refine ⟨⟨?_, ?_, ?_, ?_, ?_, ?_, ?_, ?_⟩, fun q1 q2 => by simp [pm_u, pa_s]⟩
        · simpa [pm_u, pa_s] using a0
        · simp [pm_u, pa_s]
        · simpa [pm_u, pa_s] using a3
        · simpa [pm_u, pa_s] using a4
        · simpa [pm_u, pa_s] using a5
        · simpa [pm_u, pa_s] using a6
        · simpa [pm_u, pa_s] using a7
        · simpa [pm_u, pa_s] using a8
    · refine b158_10 hF (k1 := fun r => absurd rfl r) (k2 := fun _ => ?_)
      exact hthrow (Or.inr (by omega))
/-- an int of the frame on top -/
theorem pm_R_top {f : pa_F} {fs : List pa_F} {k j : Nat} {v : Int} (hk : (k = 17 ∧ j = 2) ∨ (k = 18 ∧ j = 3) ∨ (k = 19 ∧ j = 4)) (hM : pm_R y a) (hw8 : pa_wf8 a) (h0 : 0 ≤ c) (h1 : c < a.1 4) (hfs : (a.2.1 c).2.2 = f :: fs) : pm_R (pm_u y k (6 * c + (fs.length : Int)) v) (pa_cw a c ((a.2.1 c).1, (a.2.1 c).2.1, (pa_s f.1 j v, f.2) :: fs)) := by
  obtain ⟨w, n, hR, hn⟩ := hM
  have hl := (hw8.2 c h0 h1).1
  have hff := (hw8.2 c h0 h1).2
  obtain ⟨b1, b2, b3, b4⟩ := hR.co h0 h1
  rw [hfs] at b2 b4 hl hff
  rw [List.length_cons] at hl
  have hfr : pm_fr (fun k' i => k' = k ∧ i = 6 * c + (fs.length : Int)) y (pm_u y k (6 * c + (fs.length : Int)) v) := pm_fr_u ⟨rfl, rfl⟩
  have hfr2 : pm_fr (pm_Zc c) y (pm_u y k (6 * c + (fs.length : Int)) v) := pm_fr_u (Or.inl (Or.inr (Or.inl ⟨by omega, by omega, by omega, by omega⟩)))
  have e : ∀ k', k' ≠ k → (pm_u y k (6 * c + (fs.length : Int)) v) k' = y k' := fun k' hk' => funext fun i => hfr k' i (by omega)
  obtain ⟨⟨⟨c1, c2, c3, c4⟩, c5, c6⟩, c7⟩ := b4
  refine pm_R_cw hn h0 h1 ?_ (pm_Rx_co hR hw8 h0 h1 hfr2 ?_ (pr_wk_refl c w) ⟨pm_RCn_keep (fun k' k1 k2 => by rw [e k' (by omega)]) b1, by rw [e 14 (by omega)]; exact b2, ?_, ⟨⟨⟨?_, ?_, ?_, ?_⟩, ?_, ?_⟩, ?_⟩⟩)
  · rw [hfs]; exact Int.le_refl _
  · rw [e 23 (by omega), e 24 (by omega)]; exact hR.st
  · unfold pm_RCe
    rw [e 13 (by omega)]; exact b3
  · rw [e 15 (by omega)]
    rcases hk with ⟨-, rfl⟩ | ⟨-, rfl⟩ | ⟨-, rfl⟩ <;> simp [pa_s] <;> exact c1
  · rcases hk with ⟨rfl, rfl⟩ | ⟨rfl, rfl⟩ | ⟨rfl, rfl⟩ <;> simp [pm_u, pa_s] <;> exact c2
  · rcases hk with ⟨rfl, rfl⟩ | ⟨rfl, rfl⟩ | ⟨rfl, rfl⟩ <;> simp [pm_u, pa_s] <;> exact c3
  · rcases hk with ⟨rfl, rfl⟩ | ⟨rfl, rfl⟩ | ⟨rfl, rfl⟩ <;> simp [pm_u, pa_s] <;> exact c4
  · rw [e 16 (by omega), e 21 (by omega), e 22 (by omega)]; exact c5
  · rw [e 20 (by omega)]; exact c6
  · rw [e 20 (by omega)]
    exact pm_RFs_keep (m := fs.length) (fun i hi => ⟨fun k' k1 k2 => hfr k' _ (by omega), fun k' k1 k2 x _ _ => by rw [e k' (by omega)]⟩) _ _ _ (Nat.le_refl _) (fun g hg => hff g (List.mem_cons_of_mem _ hg)) (Int.le_refl _) (fun _ _ _ => rfl) c7
theorem pm_R.tp {f : pa_F} {fs : List pa_F} (h : pm_R y a) (h0 : 0 ≤ c) (h1 : c < a.1 4) (hfs : (a.2.1 c).2.2 = f :: fs) : y 14 c - 1 = fs.length ∧ (y 15 (6 * c + (fs.length : Int)) = f.1 1 ∧ y 17 (6 * c + (fs.length : Int)) = f.1 2 ∧ y 18 (6 * c + (fs.length : Int)) = f.1 3 ∧ y 19 (6 * c + (fs.length : Int)) = f.1 4) ∧ pm_RPr (y 16 (6 * c + (fs.length : Int))) (fun i => y 21 (16 * (6 * c + (fs.length : Int)) + i)) (fun i => y 22 (16 * (6 * c + (fs.length : Int)) + i)) f.2.1 := by
  obtain ⟨w, n, h, -⟩ := h
  obtain ⟨b1, b2, b3, b4⟩ := h.co h0 h1
  rw [hfs] at b2 b4
  rw [List.length_cons] at b2
  exact ⟨by omega, b4.1.1, b4.1.2.1⟩
/-- who has yielded isn't looked at -/
theorem pm_R_30 {v : Int} (hM : pm_R y a) (hw8 : pa_wf8 a) : pm_R (pm_u y 0 30 v) a := by
  obtain ⟨w, n, ⟨a1, a2, a3, a4, a5⟩, hn⟩ := hM
  have e : ∀ k, k ≠ 0 → (pm_u y 0 30 v) k = y k := fun k hk => by funext j; simp [pm_u, hk]
  refine ⟨w, n, ⟨?_, ?_, fun i i0 i1 => ?_, ?_, ?_⟩, hn⟩
  · exact ⟨by simpa [pm_u] using a1.1, by simpa [pm_u] using a1.2.1, by simpa [pm_u] using a1.2.2.1, by simpa [pm_u] using a1.2.2.2.1, pm_gh_keep a1.2.2.2.2 (fun j => by rw [e 23 (by decide)]) (fun g hg j => by rw [e g (by omega)]) (Int.le_refl _)⟩
  · rw [e 23 (by decide), e 24 (by decide)]; exact a2
  · exact pm_RCo_keep (fun k j hk => by rw [e k (by unfold pm_own at hk; omega)]) (Int.le_refl _) (fun _ _ => rfl) (hw8.2 i i0 i1).1 (hw8.2 i i0 i1).2 (a3 i i0 i1)
  · rw [e 1 (by decide), e 2 (by decide), e 3 (by decide)]; exact a4
  · rw [e 25 (by decide), e 26 (by decide)]; exact a5
/-- a frame more -/
theorem pm_R_push {p : Int} {z : Nat → Int → Int} (hM : pm_R y a) (hwf : pa_wf0 a) (h0 : 0 ≤ c) (h1 : c < a.1 4) (hl : (a.2.1 c).2.2.length < 6) (hne : (a.2.1 c).2.2 ≠ []) (hp0 : 0 ≤ p) (hp5 : p < 5)
    (hf : pm_fr (fun k j => (k = 14 ∧ j = c) ∨ (15 ≤ k ∧ k ≤ 20 ∧ j = 6 * c + ((a.2.1 c).2.2.length : Int)) ∨ (21 ≤ k ∧ k ≤ 22 ∧ 16 * (6 * c + ((a.2.1 c).2.2.length : Int)) ≤ j ∧ j < 16 * (6 * c + ((a.2.1 c).2.2.length : Int)) + 16)) y z)
    (hz : z 14 c = (a.2.1 c).2.2.length + 1 ∧ z 15 (6 * c + ((a.2.1 c).2.2.length : Int)) = p ∧ z 16 (6 * c + ((a.2.1 c).2.2.length : Int)) = y 1 p ∧ z 17 (6 * c + ((a.2.1 c).2.2.length : Int)) = 0 ∧ z 18 (6 * c + ((a.2.1 c).2.2.length : Int)) = 0 ∧ z 19 (6 * c + ((a.2.1 c).2.2.length : Int)) = 0 ∧ z 20 (6 * c + ((a.2.1 c).2.2.length : Int)) = 0)
    (hp : ∀ i, 0 ≤ i → i < 16 → z 21 (16 * (6 * c + ((a.2.1 c).2.2.length : Int)) + i) = y 2 (16 * p + i) ∧ z 22 (16 * (6 * c + ((a.2.1 c).2.2.length : Int)) + i) = y 3 (16 * p + i)) : pm_R z (pa_cw a c ((a.2.1 c).1, (a.2.1 c).2.1, pa_nf p (a.2.2.1 p) :: (a.2.1 c).2.2)) := by
  obtain ⟨w, n, hR, hn⟩ := hM
  obtain ⟨b1, b2, b3, b4⟩ := hR.co h0 h1
  have hff := (hwf.w8.2 c h0 h1).2
  have hP := hR.2.2.2.1 p hp0 hp5
  have hPl := (hwf.2.2.2 p hp0 hp5).1
  have hpot := pa_pot_push (n := p) (p := a.2.2.1 p) (fs := (a.2.1 c).2.2) (by omega) hne
  generalize hN : (a.2.1 c).2.2.length = N at *
  obtain ⟨z14, z15, z16, z17, z18, z19, z20⟩ := hz
  have hfz : pm_fr (pm_Zc c) y z := pm_fr_mono hf (fun k j h => by unfold pm_Zc pm_own; omega)
  have e : ∀ k, k < 14 ∨ 22 < k → z k = y k := fun k hk => funext fun i => hf k i (by omega)
  refine pm_R_cw hn h0 h1 ?_ (pm_Rx_co hR hwf.w8 h0 h1 hfz ?_ (pr_wk_refl c w) ⟨pm_RCn_keep (fun k k1 k2 => by rw [e k (by omega)]) b1, ?_, ?_, ⟨⟨⟨?_, ?_, ?_, ?_⟩, ⟨?_, fun i i0 i1 => ?_⟩, ?_⟩, ?_⟩⟩)
  · show n + pa_pot (pa_nf p (a.2.2.1 p) :: (a.2.1 c).2.2) ≤ _
    omega
  · rw [e 23 (by omega), e 24 (by omega)]; exact hR.st
  · rw [z14, List.length_cons, hN]; rfl
  · unfold pm_RCe
    rw [e 13 (by omega)]; exact b3
  · rw [hN, z15]; simp [pa_nf, pa_s]
  · rw [hN, z17]; simp [pa_nf, pa_s]
  · rw [hN, z18]; simp [pa_nf, pa_s]
  · rw [hN, z19]; simp [pa_nf, pa_s]
  · rw [hN, z16]; exact hP.1
  · have i1 : i < ((a.2.2.1 p).length : Int) := i1
    obtain ⟨g1, g2⟩ := hp i i0 (by omega)
    rw [hN]
    show z 21 _ = _ ∧ z 22 _ = _
    rw [g1, g2]
    exact hP.2 i i0 i1
  · rw [hN, z20]; exact Or.inl ⟨rfl, rfl⟩
  · rw [hN, z20]
    exact pm_RFs_keep (m := N) (fun i hi => ⟨fun k k1 k2 => hf k _ (by omega), fun k k1 k2 x _ _ => hf k _ (by omega)⟩) _ _ _ (by omega) hff (Int.le_refl _) (fun _ _ _ => rfl) b4
end
