/-! THE MODEL: small methods, throwing, closing -/
section
variable {d M q : Nat} {Φ : Option pe_V → pe_H → Prop} {σ : pe_H} {y : Nat → Int → Int} {c f : Int} {p : pa_P}
theorem c145 (hF : pm_F M σ) (h0 : 0 ≤ c) (h8 : c < 8) (k : Φ (some (.inl (6 * c + y 14 c - 1))) (pm_h M σ q y)) : pe_M (d + 1) 145 [.inr (.inr M), .inl c] (pm_h M σ q y) Φ := by
  refine pe_M_of ck145 (Nat.le_of_ble_eq_true rfl) ?_
  refine b145_0 hF (k := ?_)
  exact k
theorem c139 (hF : pm_F M σ) (h0 : 0 ≤ c) (h8 : c < 8) (hb : 0 ≤ y 7 c ∧ y 7 c ≤ 8) (k1 : 6 ≤ y 7 c → Φ (some (.inl 1)) (pm_h M σ q y)) (k0 : ¬ 6 ≤ y 7 c → Φ (some (.inl 0)) (pm_h M σ q y)) : pe_M (d + 1) 139 [.inr (.inr M), .inl c] (pm_h M σ q y) Φ := by
  refine pe_M_of ck139 (Nat.le_of_ble_eq_true rfl) ?_
  refine b139_0 hF (k1 := fun q8 => ?_) (k2 := fun q8 => ?_)
  · refine b139_15 hF (k := ?_)
    refine b139_16 hF (k := ?_)
    first | exact k1 (by omega) | exact k0 (by omega)
  · refine b139_11 hF (k := ?_)
    refine b139_16 hF (k := ?_)
    first | exact k1 (by omega) | exact k0 (by omega)
theorem c140 (hF : pm_F M σ) (h0 : 0 ≤ c) (h8 : c < 8) (hb : 0 ≤ y 7 c ∧ y 7 c ≤ 8) (k1 : y 7 c ≤ 2 → Φ (some (.inl 1)) (pm_h M σ q y)) (k0 : ¬ y 7 c ≤ 2 → Φ (some (.inl 0)) (pm_h M σ q y)) : pe_M (d + 1) 140 [.inr (.inr M), .inl c] (pm_h M σ q y) Φ := by
  refine pe_M_of ck140 (Nat.le_of_ble_eq_true rfl) ?_
  refine b140_0 hF (k1 := fun q7 => ?_) (k2 := fun q7 => ?_)
  · refine b140_14 hF (k := ?_)
    refine b140_15 hF (k := ?_)
    first | exact k1 (by omega) | exact k0 (by omega)
  · refine b140_10 hF (k := ?_)
    refine b140_15 hF (k := ?_)
    first | exact k1 (by omega) | exact k0 (by omega)
/-- finishOf -/
theorem c147 (hF : pm_F M σ) (h0 : 0 ≤ f) (h8 : f < 48) (hP : pm_RPr (y 16 f) (fun i => y 21 (16 * f + i)) (fun i => y 22 (16 * f + i)) p) (hp : pa_wfp p) (h17 : 0 ≤ y 17 f ∧ y 17 f ≤ 25) (h19 : y 19 f = 0 ∨ y 19 f = 1) (k : Φ (some (.inl (if y 19 f = 0 ∧ y 17 f ≤ pa_fin p then pa_fin p + 1 else -1))) (pm_h M σ q y)) : pe_M (d + 1) 147 [.inr (.inr M), .inl f] (pm_h M σ q y) Φ := by
  have hsz := hP.1
  have h16 := hp.1
  have hfb := pa_fin_b p
  have loop : ∀ (m : Nat) (i : Int), i = (m : Int) - 1 → i < (p.length : Int) → (y 17 f ≤ i + 1 ∨ i = (p.length : Int) - 1) → pe_X d 147 (11, [some (.inr (.inr M)), some (.inl f), some (.inl (if i < pa_fin p then pa_fin p + 1 else -1)), some (.inl i)], [], pm_h M σ q y) Φ := by
    intro m
    induction m with
    | zero =>
      intro i hi hl hor
      have hend : pe_X d 147 (51, [some (.inr (.inr M)), some (.inl f), some (.inl (if i < pa_fin p then pa_fin p + 1 else -1)), some (.inl i)], [], pm_h M σ q y) Φ := by
        refine b147_51 hF (k1 := fun q1 => ?_) (k2 := fun q1 => ?_)
        · refine b147_65 hF (k := ?_)
          refine b147_66 hF (k := ?_)
          have : (if y 19 f = 0 ∧ y 17 f ≤ pa_fin p then pa_fin p + 1 else -1) = (if i < pa_fin p then pa_fin p + 1 else -1) := by
            by_cases q2 : i < pa_fin p
            · rw [if_pos q2, if_pos (by omega)]
            · rw [if_neg q2, if_neg (by omega)]
          rw [this] at k; exact k
        · refine b147_61 hF (k := ?_)
          refine b147_66 hF (k := ?_)
          rw [if_neg (by omega)] at k; exact k
      refine b147_11 hF (k1 := fun q1 => hend) (k2 := fun q1 => by omega)
    | succ m ih =>
      intro i hi hl hor
      by_cases hlt : i < y 17 f
      · have hend : pe_X d 147 (51, [some (.inr (.inr M)), some (.inl f), some (.inl (if i < pa_fin p then pa_fin p + 1 else -1)), some (.inl i)], [], pm_h M σ q y) Φ := by
          refine b147_51 hF (k1 := fun q1 => ?_) (k2 := fun q1 => ?_)
          · refine b147_65 hF (k := ?_)
            refine b147_66 hF (k := ?_)
            have : (if y 19 f = 0 ∧ y 17 f ≤ pa_fin p then pa_fin p + 1 else -1) = (if i < pa_fin p then pa_fin p + 1 else -1) := by
              by_cases q2 : i < pa_fin p
              · rw [if_pos q2, if_pos (by omega)]
              · rw [if_neg q2, if_neg (by omega)]
            rw [this] at k; exact k
          · refine b147_61 hF (k := ?_)
            refine b147_66 hF (k := ?_)
            rw [if_neg (by omega)] at k; exact k
        refine b147_11 hF (k1 := fun q1 => hend) (k2 := fun q1 => by omega)
      · have hi0 : 0 ≤ i := by omega
        have hlet := (hP.2 i hi0 hl).1
        have hmem := pa_at_mem (p := p) hi0 hl
        have hok := pa_okl_b (hp.2.1 _ hmem).1
        have huni := hp.2.2 m (by omega)
        have hat : (pa_at p i).1 = (p.getD m (0, 0)).1 := by unfold pa_at; rw [show i.toNat = m by omega]
        have hlet : y 21 (16 * f + i) = (p.getD m (0, 0)).1 := by rw [← hat]; exact hlet
        -- the one 'f'
        have hff : (p.getD m (0, 0)).1 = 102 ↔ pa_fin p = i := by
          constructor
          · intro q1
            have := huni q1
            omega
          · intro q1
            have key : ∀ (l : pa_P) (s : Int), 0 ≤ s → ∀ j : Nat, pa_ff l s = s + j → (l.getD j (0, 0)).1 = 102 := by
              intro l
              induction l with
              | nil => intro s hs j hj; unfold pa_ff at hj; omega
              | cons x l ihl =>
                intro s hs j hj
                unfold pa_ff at hj
                by_cases qx : x.1 = 102
                · rw [if_pos qx] at hj
                  have : j = 0 := by omega
                  subst this; exact qx
                · rw [if_neg qx] at hj
                  cases j with
                  | zero =>
                    rcases pa_ff_b l (s + 1) (by omega) with e | e <;> omega
                  | succ j => exact ihl (s + 1) (by omega) j (by rw [hj]; push_cast; omega)
            exact key p 0 (by decide) m (by show pa_fin p = _; omega)
        refine b147_11 hF (k1 := fun q1 => by omega) (k2 := fun q1 => ?_)
        refine b147_21 hF (w1 := by rw [hlet, ← hat]; unfold pe_in; omega) (k1 := fun q2 => ?_) (k2 := fun q2 => ?_)
        · refine b147_43 hF (k := ?_)
          refine b147_44 hF (k := ?_)
          have := ih (i + (-1)) (by omega) (by omega) (by omega)
          have hne : ¬ pa_fin p = i := fun e => q2 (by rw [hlet]; exact hff.mpr e)
          have e : (if i < pa_fin p then pa_fin p + 1 else (-1 : Int)) = (if i + (-1) < pa_fin p then pa_fin p + 1 else -1) := by
            by_cases q3 : i < pa_fin p
            · rw [if_pos q3, if_pos (by omega)]
            · rw [if_neg q3, if_neg (by omega)]
          rw [e]; exact this
        · refine b147_37 hF (k := ?_)
          refine b147_44 hF (k := ?_)
          have := ih (i + (-1)) (by omega) (by omega) (by omega)
          have he : pa_fin p = i := hff.mp (by rw [← hlet]; exact q2)
          rw [if_pos (by omega), he] at this
          exact this
  refine pe_M_of ck147 (Nat.le_of_ble_eq_true rfl) ?_
  refine b147_0 hF (k := ?_)
  have := loop p.length (y 16 f - 1) (by omega) (by omega) (Or.inr (by omega))
  rw [if_neg (by omega)] at this
  exact this
end
/-- the frames below one that goes -/
theorem pm_RFs_pop {y y' : Nat → Int → Int} {w w' : Int → Int × List Int} {o n ub : Int} {f : pa_F} {fs : List pa_F} (hfr : pm_fr (fun k _ => k = 14 ∨ k = 24) y y') (h : pm_RFs y w o (f :: fs) ub) (hf : ∀ g ∈ fs, pa_wff g) (hn : pr_nb (y 20 (o + fs.length) - 2) ub ≤ n) (hw : ∀ x, o ≤ (w x).1 → (w x).1 < o + fs.length → w' x = w x) : pm_RFs y' w' o fs n :=
  pm_RFs_keep (m := fs.length) (fun i hi => ⟨fun k k1 k2 => hfr k _ (by omega), fun k k1 k2 x _ _ => hfr k _ (by omega)⟩) _ _ _ (Nat.le_refl _) hf hn hw h.2
theorem pm_catch {y : Nat → Int → Int} {w w' : Int → Int × List Int} {o ub n h t : Int} {f : pa_F} {fs : List pa_F} {l : List Int} (hf : pm_RFs y w o (f :: fs) ub) (hff : ∀ g ∈ f :: fs, pa_wff g) (ht : t = pa_fin f.2.1 + 1) (hw : ∀ x, o ≤ (w x).1 → (w x).1 < o + fs.length → w' x = w x) (hh : pr_hl w' (o + fs.length) (h - 2) n (some l)) (hu : pr_nb (y 20 (o + fs.length) - 2) ub ≤ pr_nb (h - 2) n) :
    pm_RFs (pm_u (pm_u (pm_u y 20 (o + fs.length) h) 19 (o + fs.length) 1) 17 (o + fs.length) t) w' o (pa_catch f l :: fs) n := by
  obtain ⟨⟨⟨b1, b2, b3, b4⟩, b5, b6⟩, b7⟩ := hf
  refine ⟨⟨⟨?_, ?_, ?_, ?_⟩, ?_, ?_⟩, ?_⟩
  · simp [pm_u, pa_catch, pa_s, b1]
  · simp [pm_u, pa_catch, pa_s, ht]
  · simp [pm_u, pa_catch, pa_s, b3]
  · simp [pm_u, pa_catch, pa_s]
  · refine ⟨?_, fun i i0 i1 => ?_⟩
    · simp [pm_u]; exact b5.1
    · simp [pm_u]; exact b5.2 i i0 i1
  · simp [pm_u]; exact hh
  · have e : (pm_u (pm_u (pm_u y 20 (o + fs.length) h) 19 (o + fs.length) 1) 17 (o + fs.length) t) 20 (o + fs.length) = h := by simp [pm_u]
    rw [e]
    refine pm_RFs_keep (m := fs.length) (fun i hi => ⟨fun k k1 k2 => ?_, fun k k1 k2 x _ _ => ?_⟩) _ _ _ (Nat.le_refl _) (fun g hg => hff g (List.mem_cons_of_mem _ hg)) hu hw b7
    · have : o + (i : Int) ≠ o + fs.length := by omega
      simp [pm_u, this]
    · have h1 : k ≠ 17 := by omega
      have h2 : k ≠ 19 := by omega
      have h3 : k ≠ 20 := by omega
      simp [pm_u, h1, h2, h3]
