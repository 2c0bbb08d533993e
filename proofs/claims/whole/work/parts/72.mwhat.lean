/-! THE MODEL: told rows looked at, programs alike, one more, runs by lot -/
def pa_fgN (a : pa_M) (l : List Int) : Nat → Int → Int
  | 0, _ => -4
  | m + 1, k => if a.1 4 ≤ k ∨ l.getD k.toNat 0 ≠ (a.2.1 k).1 2 then k else pa_fgN a l m (k + 1)
def pa_aForged (a : pa_M) (h : Int → pa_Sh) (d : Int) : Int := if pa_W h d < 0 then pa_W h d else pa_fgN a (h d).2.2 (h d).2.2.length 0
noncomputable def pa_jgN (t : Int) (l : List Int) : Nat → Int → pa_M → Int
  | 0, _, _ => -4
  | m + 1, k, s => if l.getD k.toNat 0 ≠ pa_least t ∧ l.getD k.toNat 0 ≠ pb_c (pa_bits (pa_isEnd s) (s.1 4).toNat) then k else pa_jgN t l m (k + 1) (pa_round s)
noncomputable def pa_aJudge (a : pa_M) (h : Int → pa_Sh) (d : Int) : Int := if pa_W h d < 0 then pa_W h d else pa_jgN (h d).2.1.1 (h d).2.2 (h d).2.2.length 0 a
noncomputable def pa_yrN (t : Int) (l : List Int) (c : Int) : Nat → Int → pa_M → Bool
  | 0, _, _ => true
  | m + 1, k, s => if ((pa_send s c 0).2.1 c).1 2 = 2 ∧ (l.getD k.toNat 0 = pa_least t ∨ l.getD k.toNat 0 = ((pa_send s c 0).2.1 c).1 4) then pa_yrN t l c m (k + 1) (pa_send s c 0) else false
noncomputable def pa_yr (a : pa_M) (t : Int) (l : List Int) (p : Int) : Bool := pa_yrN t l (a.1 4) l.length 0 (pa_more a p 0 0)
noncomputable def pa_aWhat (a : pa_M) (h : Int → pa_Sh) (d : Int) : Int := if pa_W h d < 0 then pa_W h d else if a.1 4 = 8 then -2 else pa_bits (pa_yr a (h d).2.1.1 (h d).2.2) 5
/-- one more step of what is laid out -/
noncomputable def pa_ly (c : Int) (s : pa_M) : pa_M := if (s.2.1 c).1 2 ≤ 2 then pa_send s c 0 else s
noncomputable def pa_lyN (c : Int) : Nat → pa_M → pa_M
  | 0, s => s
  | m + 1, s => pa_ly c (pa_lyN c m s)
def pa_lyC (s : pa_M) (c : Int) : Int := 10000 * (s.2.1 c).1 2 + (s.2.1 c).1 4 + 4
noncomputable def pa_alN (c : Int) : Nat → pa_M → pa_M → Int
  | 0, _, _ => 1
  | m + 1, s, t => if (s.2.1 c).1 2 ≤ 2 ∧ (t.2.1 c).1 2 ≤ 2 then (if ((pa_send s c 0).2.1 c).1 2 = ((pa_send t c 0).2.1 c).1 2 ∧ ((pa_send s c 0).2.1 c).1 4 = ((pa_send t c 0).2.1 c).1 4 then pa_alN c m (pa_send s c 0) (pa_send t c 0) else 0) else 1
noncomputable def pa_aAlike (a : pa_M) (p r n : Int) : Int := if ¬ ((0 ≤ p ∧ p ≤ 4) ∧ (0 ≤ r ∧ r ≤ 4) ∧ p ≠ r ∧ 0 ≤ n ∧ n ≤ 20) then -1 else if a.1 4 = 8 then -2 else pa_alN (a.1 4) n.toNat (pa_more a p 0 0) (pa_more a r 0 0)
def pa_doComes (a : pa_M) (h : Int → pa_Sh) (p d : Int) : pa_M × Int := if ¬ (0 ≤ p ∧ p ≤ 4) then (a, -1) else if pa_K h d < 0 then (a, pa_K h d) else if 8 ≤ a.1 4 then (a, -2) else (pa_more a p (h d).2.1.1 (h d).2.1.2, a.1 4)
theorem pa_least_r (t : Int) : -2147483648 ≤ pa_least t ∧ pa_least t ≤ 0 := by
  unfold pa_least
  split
  · omega
  · split <;> omega
theorem pa_more_wf {a : pa_M} {p k f : Int} (h : pa_wf a) (h8 : a.1 4 < 8) (hp : 0 ≤ p ∧ p < 5) (hk : 0 ≤ k ∧ k ≤ 5) (hf : 0 ≤ f ∧ f ≤ 9) : pa_wf (pa_more a p k f) ∧ (pa_more a p k f).1 4 = a.1 4 + 1 ∧ (pa_more a p k f).2.1 (a.1 4) = pa_newC p k f (a.2.2.1 p) ∧ (pa_more a p k f).1 6 = a.1 6 := by
  have e4 : (pa_more a p k f).1 4 = a.1 4 + 1 := rfl
  have h0 := h.1.1
  have en : (pa_more a p k f).2.1 (a.1 4) = pa_newC p k f (a.2.2.1 p) := if_pos rfl
  have eo : ∀ c, c ≠ a.1 4 → (pa_more a p k f).2.1 c = a.2.1 c := fun c hc => if_neg hc
  have hprog := h.1.2.2.2 p hp.1 (by omega)
  have hnew : pa_wfc (pa_newC p k f (a.2.2.1 p)) := by
    refine ⟨⟨⟨hp.1, ?_⟩, ?_, ?_, ?_, ?_, ?_, hk, hf, fun _ => rfl⟩, ?_, fun g hg => ?_, ?_, ?_⟩
    · show p ≤ 4; omega
    · exact ⟨Int.le_refl _, by show (0 : Int) ≤ 8; decide⟩
    · exact ⟨Int.le_refl _, by show (0 : Int) ≤ 999; decide⟩
    · exact ⟨Int.le_refl _, by show (-4 : Int) ≤ 999; decide⟩
    · exact ⟨Int.le_refl _, by show (0 : Int) ≤ 999; decide⟩
    · exact ⟨Int.le_refl _, by show (0 : Int) ≤ 999; decide⟩
    · show ([pa_nf p (a.2.2.1 p)] : List pa_F).length ≤ 6
      simp
    · have hg : g ∈ ([pa_nf p (a.2.2.1 p)] : List pa_F) := hg
      rw [List.mem_singleton] at hg
      rw [hg]
      exact pa_nf_wf hp.1 (by omega) hprog
    · constructor
      · intro q
        have q : (6 : Int) ≤ 0 := q
        omega
      · intro q
        cases q
    · constructor
      · intro q
        have q : (0 : Int) = 7 := q
        omega
      · intro q
        exact absurd rfl q
  have e2 : ((pa_more a p k f).2.1 (a.1 4)).1 2 = 0 := by rw [en]; rfl
  refine ⟨⟨⟨?_, h.1.2.1, fun c c0 c1 => ?_, h.1.2.2.2⟩, fun w hw ch ch0 ch3 => ?_, fun c c0 c1 => ?_, fun c c0 c1 => ?_⟩, e4, en, rfl⟩
  · show 0 ≤ a.1 4 + 1 ∧ a.1 4 + 1 ≤ 8
    omega
  · rw [e4] at c1
    by_cases e : c = a.1 4
    · rw [e, en]; exact hnew
    · rw [eo c e]; exact h.1.2.2.1 c c0 (by omega)
  · obtain ⟨n1, n2⟩ := h.2.1 w hw ch ch0 ch3
    refine ⟨n1, fun c => ?_⟩
    show c ∈ a.2.2.2 w ch ↔ (0 ≤ c ∧ c < a.1 4 + 1) ∧ _
    rw [n2 c]
    by_cases e : c = a.1 4
    · rw [e, e2]
      omega
    · rw [eo c e]
      omega
  · rw [e4] at c1 ⊢
    by_cases e : c = a.1 4
    · rw [e, e2]
      omega
    · rw [eo c e]
      have := h.2.2.1 c c0 (by omega)
      omega
  · rw [e4] at c1
    by_cases e : c = a.1 4
    · rw [e, e2]
      omega
    · intro h5
      rw [eo c e] at h5 ⊢
      have h7 := (h.2.2.1 c c0 (by omega)).2 h5
      rw [eo _ (by omega)]
      exact h.2.2.2 c c0 (by omega) h5
theorem pa_ly_wf {s : pa_M} {c : Int} (h : pa_wf s) (h0 : 0 ≤ c) (h1 : c < s.1 4) : pa_wf (pa_ly c s) ∧ (pa_ly c s).1 = s.1 := by
  unfold pa_ly
  split
  · rename_i q
    exact pa_send_wf h h0 h1 q (by decide)
  · exact ⟨h, rfl⟩
theorem pa_lyN_wf {c : Int} (h0 : 0 ≤ c) : ∀ (m : Nat) (s : pa_M), pa_wf s → c < s.1 4 → pa_wf (pa_lyN c m s) ∧ (pa_lyN c m s).1 = s.1
  | 0, s, h, _ => ⟨h, rfl⟩
  | m + 1, s, h, h1 => by
    have ih := pa_lyN_wf h0 m s h h1
    have := pa_ly_wf ih.1 h0 (by rw [ih.2]; exact h1)
    exact ⟨this.1, this.2.trans ih.2⟩
theorem pa_lyN_succ (c : Int) : ∀ (m : Nat) (s : pa_M), pa_lyN c (m + 1) s = pa_lyN c m (pa_ly c s)
  | 0, _ => rfl
  | m + 1, s => by
    show pa_ly c (pa_lyN c (m + 1) s) = pa_ly c (pa_lyN c m (pa_ly c s))
    rw [pa_lyN_succ c m s]
theorem pa_lyC_inj {s t : pa_M} {c : Int} (hs : pa_wf s) (ht : pa_wf t) (h0 : 0 ≤ c) (h1 : c < s.1 4) (h2 : c < t.1 4) : pa_lyC s c = pa_lyC t c ↔ (s.2.1 c).1 2 = (t.2.1 c).1 2 ∧ (s.2.1 c).1 4 = (t.2.1 c).1 4 := by
  have b1 := (hs.1.2.2.1 c h0 h1).1.2.2.2.1
  have b2 := (ht.1.2.2.1 c h0 h2).1.2.2.2.1
  unfold pa_lyC
  omega
theorem pa_ly_stop {c : Int} {s : pa_M} (h : ¬ (s.2.1 c).1 2 ≤ 2) : ∀ m, pa_lyN c m s = s
  | 0 => rfl
  | m + 1 => by
    show pa_ly c (pa_lyN c m s) = s
    rw [pa_ly_stop h m]
    unfold pa_ly
    rw [if_neg h]
/-- what is laid out is alike, or not -/
theorem pa_al_eq {c : Int} (h0 : 0 ≤ c) : ∀ (m : Nat) (s t : pa_M), pa_wf s → pa_wf t → c < s.1 4 → c < t.1 4 → (s.2.1 c).1 2 = (t.2.1 c).1 2 → (s.2.1 c).1 4 = (t.2.1 c).1 4 → (pa_alN c m s t = 1 ∨ pa_alN c m s t = 0) ∧ (pa_alN c m s t = 1 ↔ ∀ k : Nat, k < m → pa_lyC (pa_lyN c (k + 1) s) c = pa_lyC (pa_lyN c (k + 1) t) c)
  | 0, s, t, _, _, _, _, _, _ => ⟨Or.inl rfl, ⟨fun _ k hk => absurd hk (Nat.not_lt_zero _), fun _ => rfl⟩⟩
  | m + 1, s, t, hs, ht, h1, h2, e2, e4 => by
    unfold pa_alN
    by_cases q : (s.2.1 c).1 2 ≤ 2
    · have q' : (t.2.1 c).1 2 ≤ 2 := by omega
      have hs1 := pa_send_wf hs h0 h1 q (v := 0) (by decide)
      have ht1 := pa_send_wf ht h0 h2 q' (v := 0) (by decide)
      have es : pa_ly c s = pa_send s c 0 := if_pos q
      have et : pa_ly c t = pa_send t c 0 := if_pos q'
      have hc := pa_lyC_inj (c := c) hs1.1 ht1.1 h0 (by rw [hs1.2]; exact h1) (by rw [ht1.2]; exact h2)
      rw [if_pos ⟨q, q'⟩]
      by_cases r : ((pa_send s c 0).2.1 c).1 2 = ((pa_send t c 0).2.1 c).1 2 ∧ ((pa_send s c 0).2.1 c).1 4 = ((pa_send t c 0).2.1 c).1 4
      · rw [if_pos r]
        have ih := pa_al_eq h0 m _ _ hs1.1 ht1.1 (by rw [hs1.2]; exact h1) (by rw [ht1.2]; exact h2) r.1 r.2
        refine ⟨ih.1, ih.2.trans ⟨fun H k hk => ?_, fun H k hk => ?_⟩⟩
        · rw [pa_lyN_succ, pa_lyN_succ, es, et]
          cases k with
          | zero => exact hc.mpr r
          | succ k => exact H k (by omega)
        · have := H (k + 1) (by omega)
          rw [pa_lyN_succ c (k + 1) s, pa_lyN_succ c (k + 1) t, es, et] at this
          exact this
      · rw [if_neg r]
        refine ⟨Or.inr rfl, ⟨fun q => absurd q (by decide), fun H => ?_⟩⟩
        have := H 0 (by omega)
        rw [pa_lyN_succ, pa_lyN_succ, es, et] at this
        exact absurd (hc.mp this) r
    · have q' : ¬ (t.2.1 c).1 2 ≤ 2 := by omega
      rw [if_neg (fun x => q x.1)]
      refine ⟨Or.inl rfl, ⟨fun _ k _ => ?_, fun _ => rfl⟩⟩
      rw [pa_ly_stop q, pa_ly_stop q']
      unfold pa_lyC
      omega
section
variable {d M q : Nat} {Φ : Option pe_V → pe_H → Prop} {σ : pe_H} {y : Nat → Int → Int} {a s : pa_M} {c n : Int} {h : Int → pa_Sh} {D : Int}
theorem pm_Mi.S {y4 : Nat → Int → Int} (hm : pm_Mi y a y4 s) (hS : pm_RS y h) : pm_RS y4 h := pm_RS_fr (fun k j hk => hm.nothing hk) hS
/-- leastOf -/
theorem c213 {t : Int} (hF : pm_F M σ) (ht : 0 ≤ t ∧ t ≤ 2) (k : Φ (some (.inr (.inl (pa_least t)))) (pm_h M σ q y)) : pe_M (d + 1) 213 [.inl t] (pm_h M σ q y) Φ := by
  unfold pa_least at k
  refine pe_M_of ck213 (Nat.le_of_ble_eq_true rfl) ?_
  refine b213_0 hF (k1 := fun r => ?_) (k2 := fun r => ?_)
  · rw [if_neg r] at k
    refine b213_10 hF (k1 := fun r1 => ?_) (k2 := fun r1 => ?_)
    · rw [if_neg r1] at k
      refine b213_21 hF (k := ?_)
      refine b213_24 hF (k := ?_)
      exact k
    · rw [if_pos r1] at k
      refine b213_15 hF (k := ?_)
      refine b213_24 hF (k := ?_)
      exact k
  · rw [if_pos r] at k
    refine b213_4 hF (k := ?_)
    refine b213_24 hF (k := ?_)
    exact k
theorem pm_rng {s v : Int} (h : pa_rng s v) : -2147483648 ≤ v ∧ v < 2147483648 := h.2.2
/-- isSkipped -/
theorem c214 {i : Int} (hF : pm_F M σ) (hS : pm_RS y h) (hwS : pa_wfS h) (h0 : 0 ≤ D) (h8 : D < 8) (h2 : (h D).1 = 2) (hi0 : 0 ≤ i) (hi : i < ((h D).2.2.length : Int)) (k1 : (h D).2.2.getD i.toNat 0 = pa_least (h D).2.1.1 → Φ (some (.inl 1)) (pm_h M σ q y)) (k0 : ¬ (h D).2.2.getD i.toNat 0 = pa_least (h D).2.1.1 → Φ (some (.inl 0)) (pm_h M σ q y)) : pe_M (d + 2) 214 [.inr (.inr M), .inl D, .inl i] (pm_h M σ q y) Φ := by
  obtain ⟨s1, s2, s3⟩ := hS D h0 h8
  obtain ⟨s4, s5, s6⟩ := s3 h2
  obtain ⟨v1, v2, v3⟩ := (hwS D h0 h8).2.2 h2
  have e := s6 i.toNat (by omega)
  rw [show 100 * D + ((i.toNat : Nat) : Int) = 100 * D + i by omega] at e
  have hr := pm_rng (v3 i.toNat (by omega))
  have hl := pa_least_r (h D).2.1.1
  have hc : pe_lcmp ((h D).2.2.getD i.toNat 0) (pa_least (h D).2.1.1) = _ := pe_lcmp_s (by omega) (by omega)
  have hw : pe_in (pe_lcmp ((h D).2.2.getD i.toNat 0) (pa_least (h D).2.1.1)) := by rw [hc]; unfold pe_in; split <;> (try split) <;> omega
  have hz : pe_lcmp ((h D).2.2.getD i.toNat 0) (pa_least (h D).2.1.1) = 0 ↔ (h D).2.2.getD i.toNat 0 = pa_least (h D).2.1.1 := by rw [hc]; split <;> (try split) <;> omega
  refine pe_M_of ck214 (Nat.le_of_ble_eq_true rfl) ?_
  refine b214_0 hF (k := ?_)
  rw [s4, e]
  refine c213 hF v1 ?_
  refine b214_20 hF (w0 := hw) (k1 := fun r => ?_) (k2 := fun r => ?_)
  · refine b214_28 hF (k := ?_)
    refine b214_29 hF (k := ?_)
    exact k0 (fun q => r (hz.mpr q))
  · refine b214_24 hF (k := ?_)
    refine b214_29 hF (k := ?_)
    exact k1 (hz.mp r)
/-- forged -/
theorem c226 (hF : pm_F M σ) (hM : pm_R y a) (hwf : pa_wf a) (hS : pm_RS y h) (hwS : pa_wfS h) (hD : -2147483648 ≤ D ∧ D < 2147483648) (k : ∀ q' y2, pm_Pb y y2 a → Φ (some (.inl (pa_aForged a h D))) (pm_h M σ q' y2)) : pe_M (d + 3) 226 [.inr (.inr M), .inl D] (pm_h M σ q y) Φ := by
  have hP := pm_Pb_37 hM hwf
  have hS1 := pm_RS_37 (v := 0) hS
  have h8 := hwf.1.1
  unfold pa_aForged at k
  have hr := pa_W_r h D
  refine pe_M_of ck226 (Nat.le_of_ble_eq_true rfl) ?_
  refine b226_0 hF (k := ?_)
  generalize pm_u y 0 37 0 = z at *
  refine c235 hF hS1 hwS hD ?_
  by_cases hw : pa_W h D < 0
  · rw [if_pos hw] at k
    refine b226_10 hF (k1 := fun r => by omega) (k2 := fun _ => ?_)
    refine b226_15 hF (k := ?_)
    exact k _ _ hP
  · rw [if_neg hw] at k
    obtain ⟨w1, w2, w3⟩ := pa_W_0 hw
    obtain ⟨s1, s2, s3⟩ := hS1 D w1.1 w1.2
    obtain ⟨s4, s5, s6⟩ := s3 w2
    obtain ⟨v1, v2, v3⟩ := (hwS D w1.1 w1.2).2.2 w2
    have e4 := hP.R.cnt.1
    obtain ⟨V, hV⟩ : ∃ V, V = pa_fgN a (h D).2.2 (h D).2.2.length 0 := ⟨_, rfl⟩
    rw [← hV] at k
    have loop : ∀ (m : Nat) (i : Int) (o2 : Option pe_V), i + m = ((h D).2.2.length : Int) → 0 ≤ i → pa_fgN a (h D).2.2 m i = V → pe_X (d + 2) 226 (19, [some (.inr (.inr M)), some (.inl D), o2, some (.inl i)], [], pm_h M σ q z) Φ := by
      intro m
      induction m with
      | zero =>
        intro i o2 hi hi0 u5
        have u5 : -4 = V := u5
        refine b226_19 hF (k1 := fun _ => ?_) (k2 := fun r => by omega)
        refine b226_67 hF (k := ?_)
        rw [u5]; exact k _ _ hP
      | succ m ih =>
        intro i o2 hi hi0 u5
        unfold pa_fgN at u5
        have e := s6 i.toNat (by omega)
        rw [show 100 * D + ((i.toNat : Nat) : Int) = 100 * D + i by omega] at e
        have hr := pm_rng (v3 i.toNat (by omega))
        refine b226_19 hF (k1 := fun r => by omega) (k2 := fun _ => ?_)
        refine b226_29 hF (k1 := fun rc => ?_) (k2 := fun rc => ?_)
        · rw [if_pos (Or.inl (by omega))] at u5
          refine b226_59 hF (k := ?_)
          rw [u5]; exact k _ _ hP
        · have i2 := (hP.R.nn hi0 (by omega)).1.1.2.1
          have hb := (hwf.1.2.2.1 i hi0 (by omega)).1.2.1
          have hc : pe_lcmp ((h D).2.2.getD i.toNat 0) ((a.2.1 i).1 2) = _ := pe_lcmp_s (by omega) (by omega)
          have hw : pe_in (pe_lcmp ((h D).2.2.getD i.toNat 0) ((a.2.1 i).1 2)) := by rw [hc]; unfold pe_in; split <;> (try split) <;> omega
          have hz : pe_lcmp ((h D).2.2.getD i.toNat 0) ((a.2.1 i).1 2) = 0 ↔ (h D).2.2.getD i.toNat 0 = (a.2.1 i).1 2 := by rw [hc]; split <;> (try split) <;> omega
          rw [← e, ← i2] at hz hw
          refine b226_37 hF (w3 := hw) (k1 := fun rz => ?_) (k2 := fun rz => ?_)
          · have hz := hz.mp rz
            rw [if_neg (by omega)] at u5
            refine b226_61 hF (k := ?_)
            exact ih (i + 1) _ (by omega) (by omega) u5
          · have hz := fun x => rz (hz.mpr x)
            rw [if_pos (Or.inr (by rw [← e, ← i2]; exact hz))] at u5
            refine b226_59 hF (k := ?_)
            rw [u5]; exact k _ _ hP
    refine b226_10 hF (k1 := fun _ => ?_) (k2 := fun r => by omega)
    refine b226_17 hF (k := ?_)
    exact loop _ 0 _ (by omega) (Int.le_refl _) hV.symm
/-- judge -/
theorem c227 (hF : pm_F M σ) (hM : pm_R y a) (hwf : pa_wf a) (hS : pm_RS y h) (hwS : pa_wfS h) (hD : -2147483648 ≤ D ∧ D < 2147483648) (k : ∀ q' y2, pm_Pb y y2 a → Φ (some (.inl (pa_aJudge a h D))) (pm_h M σ q' y2)) : pe_M (d + 8) 227 [.inr (.inr M), .inl D] (pm_h M σ q y) Φ := by
  have hP := pm_Pb_37 hM hwf
  have hS1 := pm_RS_37 (v := 0) hS
  have h8 := hwf.1.1
  unfold pa_aJudge at k
  have hr := pa_W_r h D
  refine pe_M_of ck227 (Nat.le_of_ble_eq_true rfl) ?_
  refine b227_0 hF (k := ?_)
  generalize pm_u y 0 37 0 = z at *
  refine pe_M.up (c235 (d := 0) hF hS1 hwS hD ?_) (by omega)
  by_cases hw : pa_W h D < 0
  · rw [if_pos hw] at k
    refine b227_10 hF (k1 := fun r => by omega) (k2 := fun _ => ?_)
    refine b227_15 hF (k := ?_)
    exact k _ _ hP
  · rw [if_neg hw] at k
    obtain ⟨w1, w2, w3⟩ := pa_W_0 hw
    obtain ⟨v1, v2, v3⟩ := (hwS D w1.1 w1.2).2.2 w2
    obtain ⟨V, hV⟩ : ∃ V, V = pa_jgN (h D).2.1.1 (h D).2.2 (h D).2.2.length 0 a := ⟨_, rfl⟩
    rw [← hV] at k
    refine b227_10 hF (k1 := fun _ => ?_) (k2 := fun r => by omega)
    refine b227_17 hF (k := ?_)
    refine pe_M.up (c187q (d := 0) hF hP hwf (fun y4 g => ?_)) (by omega)
    have hex : ∀ (y4 : Nat → Int → Int) (s : pa_M) (v : Int) (o2 o4 : Option pe_V), pm_Mi y a y4 s → v = V → pe_X (d + 7) 227 (95, [some (.inr (.inr M)), some (.inl D), o2, some (.inl v), o4], [], pm_h M σ (M + 38) y4) Φ := fun y4 s v o2 o4 u1 u2 => by
      refine b227_95 hF (k := ?_)
      refine pe_M.up (c188m (d := 0) hF u1 hwf (fun y5 v1 v2 => ?_)) (by omega)
      refine b227_99 hF (k := ?_)
      rw [u2]; exact k _ _ v2
    have loop : ∀ (m : Nat) (i : Int) (y4 : Nat → Int → Int) (s : pa_M) (o2 : Option pe_V), i + m = ((h D).2.2.length : Int) → 0 ≤ i → pm_Mi y a y4 s → pa_wf s → pa_jgN (h D).2.1.1 (h D).2.2 m i s = V → pe_X (d + 7) 227 (27, [some (.inr (.inr M)), some (.inl D), o2, some (.inl (-4)), some (.inl i)], [], pm_h M σ (M + 38) y4) Φ := by
      intro m
      induction m with
      | zero =>
        intro i y4 s o2 hi hi0 u1 u3 u5
        have u5 : -4 = V := u5
        obtain ⟨s1, s2, s3⟩ := (u1.S hS) D w1.1 w1.2
        obtain ⟨s4, s5, s6⟩ := s3 w2
        refine b227_27 hF (k1 := fun _ => ?_) (k2 := fun r => by omega)
        exact hex y4 s _ _ _ u1 u5
      | succ m ih =>
        intro i y4 s o2 hi hi0 u1 u3 u5
        have s8 := u3.1.1
        obtain ⟨s1, s2, s3⟩ := (u1.S hS) D w1.1 w1.2
        obtain ⟨s4, s5, s6⟩ := s3 w2
        unfold pa_jgN at u5
        have e := s6 i.toNat (by omega)
        rw [show 100 * D + ((i.toNat : Nat) : Int) = 100 * D + i by omega] at e
        have hr := pm_rng (v3 i.toNat (by omega))
        have hb := pa_bits_255 (pa_isEnd s) (n := (s.1 4).toNat) (by omega)
        have hc8 : 0 ≤ pb_c (pa_bits (pa_isEnd s) (s.1 4).toNat) ∧ pb_c (pa_bits (pa_isEnd s) (s.1 4).toNat) ≤ 8 := by
          obtain ⟨u, e⟩ := pb_fin hb.1 hb.2
          rw [← e]
          exact pb_c_8 u
        have hgo : ∀ o2, pa_jgN (h D).2.1.1 (h D).2.2 m (i + 1) (pa_round s) = V → pe_X (d + 7) 227 (83, [some (.inr (.inr M)), some (.inl D), o2, some (.inl (-4)), some (.inl i)], [.inl (-4)], pm_h M σ (M + 38) y4) Φ := fun o2 hv => by
          refine b227_83 hF (k := ?_)
          refine c169f hF u1.R u3 (fun y6 x1 x2 x3 => ?_)
          refine b227_89 hF (k := ?_)
          exact ih (i + 1) y6 _ _ (by omega) (by omega) (u1.st x1 x3) (pa_round_wf u3).1 hv
        refine b227_27 hF (k1 := fun r => by omega) (k2 := fun _ => ?_)
        refine b227_38 hF (k1 := fun r => by omega) (k2 := fun _ => ?_)
        refine b227_42 hF (k := ?_)
        refine pe_M.up (c214 (d := 0) hF (u1.S hS) hwS w1.1 w1.2 w2 hi0 (by omega) (fun rk => ?_) (fun rk => ?_)) (by omega)
        · rw [if_neg (fun x => x.1 rk)] at u5
          refine b227_49 hF (k1 := fun _ => ?_) (k2 := fun r => by omega)
          refine b227_81 hF (k := ?_)
          exact hgo _ u5
        · refine b227_49 hF (k1 := fun r => absurd rfl r) (k2 := fun _ => ?_)
          refine b227_52 hF (k := ?_)
          refine pe_M.up (c141 (d := 0) hF u1.R u3.1 ?_) (by omega)
          refine b227_68 hF (k := ?_)
          refine pe_M.up (c136 (d := 0) hF hb.1 hb.2 ?_) (by omega)
          rw [e]
          generalize pb_c (pa_bits (pa_isEnd s) (s.1 4).toNat) = B at *
          have hc : pe_lcmp ((h D).2.2.getD i.toNat 0) B = _ := pe_lcmp_s (by omega) (by omega)
          have hw : pe_in (pe_lcmp ((h D).2.2.getD i.toNat 0) B) := by rw [hc]; unfold pe_in; split <;> (try split) <;> omega
          have hz : pe_lcmp ((h D).2.2.getD i.toNat 0) B = 0 ↔ (h D).2.2.getD i.toNat 0 = B := by rw [hc]; split <;> (try split) <;> omega
          refine b227_71 hF (w1 := hw) (k1 := fun rz => ?_) (k2 := fun rz => ?_)
          · rw [if_neg (fun x => x.2 (hz.mp rz))] at u5
            refine b227_81 hF (k := ?_)
            exact hgo _ u5
          · rw [if_pos ⟨rk, fun x => rz (hz.mpr x)⟩] at u5
            refine b227_76 hF (k := ?_)
            refine b227_83 hF (k := ?_)
            refine c169f hF u1.R u3 (fun y6 x1 x2 x3 => ?_)
            have u6 := u1.st x1 x3
            obtain ⟨t1, t2, t3⟩ := (u6.S hS) D w1.1 w1.2
            obtain ⟨t4, t5, t6⟩ := t3 w2
            refine b227_89 hF (k := ?_)
            refine b227_27 hF (k1 := fun rq => ?_) (k2 := fun rq => ?_)
            · exact hex y6 _ _ _ _ u6 u5
            · refine b227_38 hF (k1 := fun _ => ?_) (k2 := fun r => by omega)
              exact hex y6 _ _ _ _ u6 u5
    refine b227_24 hF (k := ?_)
    exact loop _ 0 y4 a _ (by omega) (Int.le_refl _) g hwf hV.symm
/-- isYieldRow -/
theorem c215 {p : Int} {y4 : Nat → Int → Int} (hF : pm_F M σ) (hm : pm_Mi y a y4 a) (hwf : pa_wf a) (hS : pm_RS y h) (hwS : pa_wfS h) (h0 : 0 ≤ D) (h8 : D < 8) (h2 : (h D).1 = 2) (hp0 : 0 ≤ p) (hp5 : p < 5) (h4 : a.1 4 < 8) (k : ∀ y5, pm_Mi y a y5 a → pm_Pb y y5 a → Φ (some (.inl (if pa_yr a (h D).2.1.1 (h D).2.2 p = true then 1 else 0))) (pm_h M σ (M + 38) y5)) : pe_M (d + 8) 215 [.inr (.inr M), .inl D, .inl p] (pm_h M σ q y4) Φ := by
  obtain ⟨v1, v2, v3⟩ := (hwS D h0 h8).2.2 h2
  obtain ⟨m1, m2, m3, m4⟩ := pa_more_wf hwf h4 ⟨hp0, hp5⟩ ⟨Int.le_refl 0, by decide⟩ ⟨Int.le_refl 0, by decide⟩
  have hc0 := hwf.1.1
  unfold pa_yr at k
  obtain ⟨V, hV⟩ : ∃ V, V = pa_yrN (h D).2.1.1 (h D).2.2 (a.1 4) (h D).2.2.length 0 (pa_more a p 0 0) := ⟨_, rfl⟩
  rw [← hV] at k
  have hex : ∀ (q' : Nat) (y5 : Nat → Int → Int) (s : pa_M) (b : Bool) (v : Int) (o2 o4 o5 : Option pe_V), pm_Mi y a y5 s → b = V → v = (if b = true then 1 else 0) → pe_X (d + 7) 215 (111, [some (.inr (.inr M)), some (.inl D), o2, some (.inl v), o4, o5], [], pm_h M σ q' y5) Φ := fun q' y5 s b v o2 o4 o5 u1 u2 u3 => by
    have hv : v = 0 ∨ v = 1 := by rw [u3]; split <;> simp
    refine b215_111 hF (k := ?_)
    refine pe_M.up (c188m (d := 0) hF u1 hwf (fun y6 w1 w2 => ?_)) (by omega)
    refine b215_115 hF (k := ?_)
    rw [u3, u2]
    exact k _ w1 w2
  have loop : ∀ (m : Nat) (i : Int) (q' : Nat) (y5 : Nat → Int → Int) (s : pa_M) (o2 : Option pe_V), i + m = ((h D).2.2.length : Int) → 0 ≤ i → pm_Mi y a y5 s → pa_wf s → s.1 4 = a.1 4 + 1 → (s.2.1 (a.1 4)).1 2 ≤ 2 → pa_yrN (h D).2.1.1 (h D).2.2 (a.1 4) m i s = V → pe_X (d + 7) 215 (21, [some (.inr (.inr M)), some (.inl D), o2, some (.inl 1), some (.inl (a.1 4)), some (.inl i)], [], pm_h M σ q' y5) Φ := by
    intro m
    induction m with
    | zero =>
      intro i q' y5 s o2 hi hi0 u1 u3 u4 u6 u5
      have u5 : true = V := u5
      obtain ⟨s1, s2, s3⟩ := (u1.S hS) D h0 h8
      obtain ⟨s4, s5, s6⟩ := s3 h2
      refine b215_21 hF (k1 := fun _ => ?_) (k2 := fun r => by omega)
      exact hex q' y5 s true 1 _ _ _ u1 u5 rfl
    | succ m ih =>
      intro i q' y5 s o2 hi hi0 u1 u3 u4 u6 u5
      obtain ⟨s1, s2, s3⟩ := (u1.S hS) D h0 h8
      obtain ⟨s4, s5, s6⟩ := s3 h2
      unfold pa_yrN at u5
      have i2 := (u1.R.nn hc0.1 (by omega)).1.1.2.1
      have hb := (u3.1.2.2.1 (a.1 4) hc0.1 (by omega)).1.2.1
      have hs := pa_send_wf u3 hc0.1 (by omega) u6 (v := 0) (by decide)
      refine b215_21 hF (k1 := fun r => by omega) (k2 := fun _ => ?_)
      refine b215_32 hF (k1 := fun r => by omega) (k2 := fun _ => ?_)
      refine b215_36 hF (k := ?_)
      refine pe_M.up (c140 (d := 0) hF hc0.1 h4 (by omega) (fun r2 => ?_) (fun r2 => absurd u6 (by omega))) (by omega)
      refine b215_42 hF (k1 := fun r => by omega) (k2 := fun _ => ?_)
      refine b215_47 hF (k := ?_)
      refine pe_M.up (c166 (d := 0) hF u1.R u3 hc0.1 (by omega) u6 (by decide) (fun y6 x1 x2 => ?_)) (by omega)
      have u7 := u1.st x1 x2
      obtain ⟨t1, t2, t3⟩ := (u7.S hS) D h0 h8
      obtain ⟨t4, t5, t6⟩ := t3 h2
      have e := t6 i.toNat (by omega)
      rw [show 100 * D + ((i.toNat : Nat) : Int) = 100 * D + i by omega] at e
      have hr := pm_rng (v3 i.toNat (by omega))
      have nn := (x2.nn hc0.1 (by rw [hs.2]; omega)).1.1
      have j2 := nn.2.1
      have j9 := nn.2.2.2.1
      have hbs := (hs.1.1.2.2.1 (a.1 4) hc0.1 (by rw [hs.2]; omega)).1
      have hb2 := hbs.2.1
      have hb4 := hbs.2.2.2.1
      have hno : ∀ o2 o3, false = V → pe_X (d + 7) 215 (103, [some (.inr (.inr M)), some (.inl D), o2, o3, some (.inl (a.1 4)), some (.inl i)], [], pm_h M σ q' y6) Φ := fun o2 o3 hv => by
        refine b215_103 hF (k := ?_)
        refine b215_104 hF (k := ?_)
        refine b215_105 hF (k := ?_)
        refine b215_21 hF (k1 := fun rq => ?_) (k2 := fun rq => ?_)
        · exact hex q' y6 _ false 0 _ _ _ u7 hv rfl
        · refine b215_32 hF (k1 := fun _ => ?_) (k2 := fun r => by omega)
          exact hex q' y6 _ false 0 _ _ _ u7 hv rfl
      have hyes : ∀ o2 o3, ((pa_send s (a.1 4) 0).2.1 (a.1 4)).1 2 = 2 → pa_yrN (h D).2.1.1 (h D).2.2 (a.1 4) m (i + 1) (pa_send s (a.1 4) 0) = V → pe_X (d + 7) 215 (99, [some (.inr (.inr M)), some (.inl D), o2, o3, some (.inl (a.1 4)), some (.inl i)], [], pm_h M σ q' y6) Φ := fun o2 o3 h22 hv => by
        refine b215_99 hF (k := ?_)
        refine b215_104 hF (k := ?_)
        refine b215_105 hF (k := ?_)
        exact ih (i + 1) q' y6 _ _ (by omega) (by omega) u7 hs.1 (by rw [hs.2]; exact u4) (by omega) hv
      refine b215_54 hF (k1 := fun r3 => ?_) (k2 := fun r3 => ?_)
      · rw [if_neg (fun x => r3 (by omega))] at u5
        exact hno _ _ u5
      · refine b215_65 hF (k := ?_)
        refine pe_M.up (c214 (d := 0) hF (u7.S hS) hwS h0 h8 h2 hi0 (by omega) (fun rk => ?_) (fun rk => ?_)) (by omega)
        · rw [if_pos ⟨by omega, Or.inl rk⟩] at u5
          refine b215_72 hF (k1 := fun _ => ?_) (k2 := fun r => by omega)
          exact hyes _ _ (by omega) u5
        · have hc : pe_lcmp ((h D).2.2.getD i.toNat 0) (y6 9 (a.1 4)) = _ := pe_lcmp_s (by omega) (by omega)
          have hw : pe_in (pe_lcmp ((h D).2.2.getD i.toNat 0) (y6 9 (a.1 4))) := by rw [hc]; unfold pe_in; split <;> (try split) <;> omega
          have hz : pe_lcmp ((h D).2.2.getD i.toNat 0) (y6 9 (a.1 4)) = 0 ↔ (h D).2.2.getD i.toNat 0 = y6 9 (a.1 4) := by rw [hc]; split <;> (try split) <;> omega
          rw [← e] at hw
          refine b215_72 hF (k1 := fun r => absurd rfl r) (k2 := fun _ => ?_)
          refine b215_75 hF (w3 := hw) (k1 := fun rz => ?_) (k2 := fun rz => ?_)
          · rw [e] at rz
            have hz := fun x => rz (hz.mpr x)
            rw [if_neg (fun x => x.2.elim rk (fun x => hz (by omega)))] at u5
            exact hno _ _ u5
          · rw [e] at rz
            have hz := hz.mp rz
            rw [if_pos ⟨by omega, Or.inr (by omega)⟩] at u5
            exact hyes _ _ (by omega) u5
  refine pe_M_of ck215 (Nat.le_of_ble_eq_true rfl) ?_
  refine b215_0 hF (k := ?_)
  refine pe_M.up (c171 (d := 0) hF hm.R hwf.1 (by omega) (by decide) (by decide) (fun r => absurd ⟨⟨hp0, hp5⟩, ⟨by decide, by decide⟩, h4⟩ r) (fun _ _ _ y5 g1 g2 => ?_)) (by omega)
  have u1 := hm.mo g1 g2
  have e4 : y5 0 3 = a.1 4 + 1 := g2.cnt.1
  refine b215_9 hF (k := ?_)
  rw [show y5 0 3 - 1 = a.1 4 by omega]
  exact loop _ 0 _ y5 _ _ (by omega) (Int.le_refl _) u1 m1 m2 (by rw [m3]; show (0 : Int) ≤ 2; decide) hV.symm
/-- whatProgram -/
theorem c216 (hF : pm_F M σ) (hM : pm_R y a) (hwf : pa_wf a) (hS : pm_RS y h) (hwS : pa_wfS h) (hD : -2147483648 ≤ D ∧ D < 2147483648) (k : ∀ q' y2, pm_Pb y y2 a → Φ (some (.inl (pa_aWhat a h D))) (pm_h M σ q' y2)) : pe_M (d + 9) 216 [.inr (.inr M), .inl D] (pm_h M σ q y) Φ := by
  have hP := pm_Pb_37 hM hwf
  have hS1 := pm_RS_37 (v := 0) hS
  have h8 := hwf.1.1
  unfold pa_aWhat at k
  have hr := pa_W_r h D
  have e4 := hP.R.cnt.1
  refine pe_M_of ck216 (Nat.le_of_ble_eq_true rfl) ?_
  refine b216_0 hF (k := ?_)
  generalize pm_u y 0 37 0 = z at *
  refine pe_M.up (c235 (d := 0) hF hS1 hwS hD ?_) (by omega)
  by_cases hw : pa_W h D < 0
  · rw [if_pos hw] at k
    refine b216_10 hF (k1 := fun _ => ?_) (k2 := fun r => by omega)
    refine b216_22 hF (k := ?_)
    refine pe_M.up (c235 (d := 0) hF hS1 hwS hD ?_) (by omega)
    refine b216_27 hF (k1 := fun r => by omega) (k2 := fun _ => ?_)
    refine b216_30 hF (k := ?_)
    refine pe_M.up (c235 (d := 0) hF hS1 hwS hD ?_) (by omega)
    refine b216_35 hF (k := ?_)
    refine b216_40 hF (k := ?_)
    exact k _ _ hP
  · rw [if_neg hw] at k
    obtain ⟨w1, w2, w3⟩ := pa_W_0 hw
    refine b216_10 hF (k1 := fun r => by omega) (k2 := fun _ => ?_)
    refine b216_13 hF (k1 := fun r8 => ?_) (k2 := fun r8 => ?_)
    · rw [if_neg (by omega)] at k
      refine b216_41 hF (k := ?_)
      refine pe_M.up (c187q (d := 0) hF hP hwf (fun y4 g => ?_)) (by omega)
      refine b216_47 hF (k := ?_)
      have loop : ∀ (m i : Nat) (y4 : Nat → Int → Int), i + m = 5 → pm_Mi y a y4 a → pm_Pb y y4 a → pe_X (d + 8) 216 (49, [some (.inr (.inr M)), some (.inl D), some (.inl (pa_bits (pa_yr a (h D).2.1.1 (h D).2.2) i)), some (.inl (i : Int))], [], pm_h M σ (M + 38) y4) Φ := by
        intro m
        induction m with
        | zero =>
          intro i y4 hi u1 u2
          refine b216_49 hF (k1 := fun _ => ?_) (k2 := fun r => by omega)
          refine b216_79 hF (k := ?_)
          rw [show i = 5 by omega]
          exact k _ _ u2
        | succ m ih =>
          intro i y4 hi u1 u2
          have hb := pa_bits_b (pa_yr a (h D).2.1.1 (h D).2.2) i
          have hb5 := pa_bits_255 (pa_yr a (h D).2.1.1 (h D).2.2) (n := i) (by omega)
          refine b216_49 hF (k1 := fun r => by omega) (k2 := fun _ => ?_)
          refine b216_54 hF (k := ?_)
          refine pe_M.up (c215 (d := 0) hF u1 hwf hS hwS w1.1 w1.2 w2 (by omega : 0 ≤ (i : Int)) (by omega) (by omega) (fun y5 v1 v2 => ?_)) (by omega)
          have := ih (i + 1) y5 (by omega) v1 v2
          rw [pa_bits] at this
          by_cases hy : pa_yr a (h D).2.1.1 (h D).2.2 (i : Int) = true
          · rw [if_pos hy] at this ⊢
            refine b216_61 hF (k1 := fun r => by omega) (k2 := fun _ => ?_)
            refine b216_64 hF (k := ?_)
            refine b216_71 hF (k := ?_)
            rw [(pb_or (by omega) hb.1 hb.2).1]
            exact this
          · rw [if_neg hy] at this ⊢
            refine b216_61 hF (k1 := fun _ => ?_) (k2 := fun r => absurd rfl r)
            refine b216_70 hF (k := ?_)
            refine b216_71 hF (k := ?_)
            rw [pb_or_z hb5.1 hb5.2]
            rw [Int.add_zero] at this
            exact this
      exact loop 5 0 y4 (by decide) g (pm_Mi_Pb g)
    · rw [if_pos (by omega)] at k
      refine b216_22 hF (k := ?_)
      refine pe_M.up (c235 (d := 0) hF hS1 hwS hD ?_) (by omega)
      refine b216_27 hF (k1 := fun _ => ?_) (k2 := fun r => by omega)
      refine b216_38 hF (k := ?_)
      refine b216_40 hF (k := ?_)
      exact k _ _ hP
/-- layOuts -/
theorem c217 {p t : Int} {y4 : Nat → Int → Int} (hF : pm_F M σ) (hm : pm_Mi y a y4 a) (hwf : pa_wf a) (hp0 : 0 ≤ p) (hp5 : p < 5) (ht : t = 0 ∨ t = 1) (hn0 : 0 ≤ n) (hn : n ≤ 20) (h4 : a.1 4 < 8) (k : ∀ y5, pm_Mi y a y5 a → (∀ i : Nat, (i : Int) < n → y5 40 (20 * t + i) = pa_lyC (pa_lyN (a.1 4) (i + 1) (pa_more a p 0 0)) (a.1 4)) → (∀ j, (j < 20 * t ∨ 20 * t + 20 ≤ j) → y5 40 j = y4 40 j) → Φ none (pm_h M σ (M + 38) y5)) : pe_M (d + 8) 217 [.inr (.inr M), .inl p, .inl t, .inl n] (pm_h M σ q y4) Φ := by
  obtain ⟨m1, m2, m3, m4⟩ := pa_more_wf hwf h4 ⟨hp0, hp5⟩ ⟨Int.le_refl 0, by decide⟩ ⟨Int.le_refl 0, by decide⟩
  have hc0 := hwf.1.1
  have hlw := fun i => pa_lyN_wf hc0.1 i (pa_more a p 0 0) m1 (by rw [m2]; omega)
  have loop : ∀ (m i : Nat) (q' : Nat) (o1 : Option pe_V) (y5 : Nat → Int → Int), (i : Int) + m = n → pm_Mi y a y5 (pa_lyN (a.1 4) i (pa_more a p 0 0)) → (∀ j : Nat, j < i → y5 40 (20 * t + j) = pa_lyC (pa_lyN (a.1 4) (j + 1) (pa_more a p 0 0)) (a.1 4)) → (∀ j, (j < 20 * t ∨ 20 * t + 20 ≤ j) → y5 40 j = y4 40 j) → pe_X (d + 7) 217 (19, [some (.inr (.inr M)), o1, some (.inl t), some (.inl n), some (.inl (a.1 4)), some (.inl (i : Int))], [], pm_h M σ q' y5) Φ := by
    intro m
    induction m with
    | zero =>
      intro i q' o1 y5 hi u1 u2 u3
      refine b217_19 hF (k1 := fun _ => ?_) (k2 := fun r => by omega)
      refine b217_80 hF (k := ?_)
      refine pe_M.up (c188n (d := 0) hF u1 hwf (fun y6 w1 w2 w3 => ?_)) (by omega)
      refine b217_84 hF (k := ?_)
      have e40 : ∀ j, y6 40 j = y5 40 j := fun j => w3 40 j (by unfold pm_Zo pm_Zy; omega)
      exact k y6 w1 (fun j hj => by rw [e40]; exact u2 j (by omega)) (fun j hj => by rw [e40]; exact u3 j hj)
    | succ m ih =>
      intro i q' o1 y5 hi u1 u2 u3
      obtain ⟨l1, l2⟩ := hlw i
      obtain ⟨l3, l4⟩ := hlw (i + 1)
      have hc1 : a.1 4 < (pa_lyN (a.1 4) i (pa_more a p 0 0)).1 4 := by rw [l2, m2]; omega
      have i2 := (u1.R.nn hc0.1 hc1).1.1.2.1
      have hb := (l1.1.2.2.1 (a.1 4) hc0.1 hc1).1.2.1
      have hgo : ∀ y6, pm_fr (fun k j => pm_Zs k j) y5 y6 → pm_R y6 (pa_lyN (a.1 4) (i + 1) (pa_more a p 0 0)) → pe_X (d + 7) 217 (41, [some (.inr (.inr M)), o1, some (.inl t), some (.inl n), some (.inl (a.1 4)), some (.inl (i : Int))], [], pm_h M σ q' y6) Φ := fun y6 x1 x2 => by
        have u7 := u1.st x1 x2
        have nn := (x2.nn hc0.1 (by rw [l4, m2]; omega)).1.1
        have x3 := pm_R_z x2 l3 (pm_fr_u (k := 40) (j := 20 * t + i) (v := 10000 * y6 7 (a.1 4) + y6 9 (a.1 4) + 4) (by unfold pm_Zr; omega))
        have u8 := u7.ex (pm_fr_u (k := 40) (j := 20 * t + i) (v := 10000 * y6 7 (a.1 4) + y6 9 (a.1 4) + 4) (by unfold pm_Zq; omega)) x3
        have e40 : ∀ j, y6 40 j = y5 40 j := fun j => x1 40 j (by unfold pm_Zs; omega)
        refine b217_41 hF (k := ?_)
        refine b217_77 hF (k := ?_)
        refine ih (i + 1) _ _ _ (by push_cast; omega) u8 (fun j hj => ?_) (fun j hj => ?_)
        · simp only [pm_u, true_and]
          by_cases ej : j = i
          · subst ej
            rw [if_pos rfl, nn.2.1, nn.2.2.2.1]
            rfl
          · rw [if_neg (by omega), e40]
            exact u2 j (by omega)
        · simp only [pm_u, true_and]
          rw [if_neg (by omega), e40]
          exact u3 j hj
      refine b217_19 hF (k1 := fun r => by omega) (k2 := fun _ => ?_)
      refine b217_25 hF (k := ?_)
      refine pe_M.up (c140 (d := 0) hF hc0.1 h4 (by omega) (fun r2 => ?_) (fun r2 => ?_)) (by omega)
      · refine b217_31 hF (k1 := fun r => by omega) (k2 := fun _ => ?_)
        refine b217_34 hF (k := ?_)
        refine pe_M.up (c166 (d := 0) hF u1.R l1 hc0.1 hc1 (by omega) (by decide) (fun y6 x1 x2 => ?_)) (by omega)
        refine hgo y6 x1 ?_
        show pm_R y6 (pa_ly _ _)
        unfold pa_ly
        rw [if_pos (by omega)]
        exact x2
      · refine b217_31 hF (k1 := fun _ => ?_) (k2 := fun r => absurd rfl r)
        refine hgo y5 (pm_fr_refl _ _) ?_
        show pm_R y5 (pa_ly _ _)
        unfold pa_ly
        rw [if_neg (by omega)]
        exact u1.R
  refine pe_M_of ck217 (Nat.le_of_ble_eq_true rfl) ?_
  refine b217_0 hF (k := ?_)
  refine pe_M.up (c171 (d := 0) hF hm.R hwf.1 (by omega) (by decide) (by decide) (fun r => absurd ⟨⟨hp0, hp5⟩, ⟨by decide, by decide⟩, h4⟩ r) (fun _ _ _ y5 g1 g2 => ?_)) (by omega)
  have u1 := hm.mo g1 g2
  have e4 : y5 0 3 = a.1 4 + 1 := g2.cnt.1
  refine b217_7 hF (k := ?_)
  rw [show y5 0 3 - 1 = a.1 4 by omega]
  exact loop n.toNat 0 _ _ y5 (by omega) u1 (fun j hj => absurd hj (Nat.not_lt_zero _)) (fun j _ => g1 40 j (by unfold pm_Zm pm_Zs; omega))
/-- alike -/
theorem c218 {p r : Int} (hF : pm_F M σ) (hM : pm_R y a) (hwf : pa_wf a) (hp : -2147483648 ≤ p ∧ p < 2147483648) (hr : -2147483648 ≤ r ∧ r < 2147483648) (hn : -2147483648 ≤ n ∧ n < 2147483648) (k : ∀ q' y2, pm_Pb y y2 a → Φ (some (.inl (pa_aAlike a p r n))) (pm_h M σ q' y2)) : pe_M (d + 9) 218 [.inr (.inr M), .inl p, .inl r, .inl n] (pm_h M σ q y) Φ := by
  have h8 := hwf.1.1
  have hP := pm_Pb_37 hM hwf
  unfold pa_aAlike at k
  have hno : ¬ ((0 ≤ p ∧ p ≤ 4) ∧ (0 ≤ r ∧ r ≤ 4) ∧ p ≠ r ∧ 0 ≤ n ∧ n ≤ 20) → pe_X (d + 8) 218 (46, [some (.inr (.inr M)), some (.inl p), some (.inl r), some (.inl n), none, none], [], pm_h M σ q (pm_u y 0 37 0)) Φ := fun h => by
    rw [if_pos h] at k
    refine b218_46 hF (k := ?_)
    exact k _ _ hP
  have e4 := hP.R.cnt.1
  refine pe_M_of ck218 (Nat.le_of_ble_eq_true rfl) ?_
  refine b218_0 hF (k := ?_)
  generalize pm_u y 0 37 0 = z at *
  refine pe_M.up (c134 (d := 0) hF (by omega) (by omega) (by omega) (fun rp => ?_) (fun rp => ?_)) (by omega)
  · refine b218_14 hF (k1 := fun r => by omega) (k2 := fun _ => ?_)
    refine b218_17 hF (k := ?_)
    refine pe_M.up (c134 (d := 0) hF (by omega) (by omega) (by omega) (fun rr => ?_) (fun rr => ?_)) (by omega)
    · refine b218_26 hF (k1 := fun r => by omega) (k2 := fun _ => ?_)
      refine b218_29 hF (k1 := fun re => ?_) (k2 := fun re => ?_)
      · exact hno (by omega)
      · refine b218_34 hF (k := ?_)
        refine pe_M.up (c134 (d := 0) hF (by omega) (by omega) (by omega) (fun rn => ?_) (fun rn => ?_)) (by omega)
        · rw [if_neg (by omega)] at k
          refine b218_43 hF (k1 := fun _ => ?_) (k2 := fun r => by omega)
          refine b218_48 hF (k1 := fun r8 => ?_) (k2 := fun r8 => ?_)
          · rw [if_neg (by omega)] at k
            obtain ⟨m1, m2, m3, m4⟩ := pa_more_wf hwf (by omega) ⟨rp.1, (by omega : p < 5)⟩ ⟨Int.le_refl 0, by decide⟩ ⟨Int.le_refl 0, by decide⟩
            obtain ⟨n1, n2, n3, n4⟩ := pa_more_wf hwf (by omega) ⟨rr.1, (by omega : r < 5)⟩ ⟨Int.le_refl 0, by decide⟩ ⟨Int.le_refl 0, by decide⟩
            have hal := pa_al_eq h8.1 n.toNat _ _ m1 n1 (by rw [m2]; omega) (by rw [n2]; omega) (by rw [m3, n3]; rfl) (by rw [m3, n3]; rfl)
            refine b218_60 hF (k := ?_)
            refine pe_M.up (c187q (d := 0) hF hP hwf (fun y4 g => ?_)) (by omega)
            refine b218_64 hF (k := ?_)
            refine c217 hF g hwf rp.1 (by omega) (Or.inl rfl) rn.1 rn.2 (by omega) (fun y5 u1 u2 u3 => ?_)
            refine b218_71 hF (k := ?_)
            refine c217 hF u1 hwf rr.1 (by omega) (Or.inr rfl) rn.1 rn.2 (by omega) (fun y6 v1 v2 v3 => ?_)
            refine b218_78 hF (k := ?_)
            have f1 : ∀ i : Nat, (i : Int) < n → y6 40 (i : Int) = pa_lyC (pa_lyN (a.1 4) (i + 1) (pa_more a p 0 0)) (a.1 4) := fun i hi => by
              rw [v3 _ (by omega), ← u2 i hi]
              congr 1
              omega
            have f2 : ∀ i : Nat, (i : Int) < n → y6 40 (20 + (i : Int)) = pa_lyC (pa_lyN (a.1 4) (i + 1) (pa_more a r 0 0)) (a.1 4) := fun i hi => by
              rw [← v2 i hi]
              congr 1
            have hlyb : ∀ (s : pa_M) (m : Nat), pa_wf s → a.1 4 < s.1 4 → -2147483648 ≤ pa_lyC (pa_lyN (a.1 4) m s) (a.1 4) ∧ pa_lyC (pa_lyN (a.1 4) m s) (a.1 4) < 2147483648 := fun s m hs hc => by
              have hl := pa_lyN_wf h8.1 m s hs hc
              have b := (hl.1.1.2.2.1 (a.1 4) h8.1 (by rw [hl.2]; exact hc)).1
              have b2 := b.2.1
              have b4 := b.2.2.2.1
              unfold pa_lyC
              omega
            have loop : ∀ (m i : Nat) (v : Int), (i : Int) + m = n → (v = 0 ∨ v = 1) → (v = 1 ↔ ∀ j : Nat, j < i → pa_lyC (pa_lyN (a.1 4) (j + 1) (pa_more a p 0 0)) (a.1 4) = pa_lyC (pa_lyN (a.1 4) (j + 1) (pa_more a r 0 0)) (a.1 4)) → pe_X (d + 8) 218 (84, [some (.inr (.inr M)), some (.inl p), some (.inl r), some (.inl n), some (.inl v), some (.inl (i : Int))], [], pm_h M σ (M + 38) y6) Φ := by
              intro m
              induction m with
              | zero =>
                intro i v hi hv1 hv
                rw [show n.toNat = i by omega] at hal k
                refine b218_84 hF (k1 := fun _ => ?_) (k2 := fun r => by omega)
                by_cases hv0 : v = 0
                · have : pa_alN (a.1 4) i (pa_more a p 0 0) (pa_more a r 0 0) = 0 := hal.1.resolve_left (fun e => by have := hv.mpr (hal.2.mp e); omega)
                  rw [this] at k
                  refine b218_128 hF (k1 := fun _ => ?_) (k2 := fun r => by omega)
                  refine b218_137 hF (k := ?_)
                  refine b218_138 hF (k := ?_)
                  exact k _ _ (pm_Mi_Pb v1)
                · have : pa_alN (a.1 4) i (pa_more a p 0 0) (pa_more a r 0 0) = 1 := hal.2.mpr (hv.mp (by omega))
                  rw [this] at k
                  refine b218_128 hF (k1 := fun r => by omega) (k2 := fun _ => ?_)
                  refine b218_133 hF (k := ?_)
                  refine b218_138 hF (k := ?_)
                  exact k _ _ (pm_Mi_Pb v1)
              | succ m ih =>
                intro i v hi hv1 hv
                have g1 := f1 i (by omega)
                have g2 := f2 i (by omega)
                have b1 := hlyb _ (i + 1) m1 (by rw [m2]; omega)
                have b2 := hlyb _ (i + 1) n1 (by rw [n2]; omega)
                refine b218_84 hF (k1 := fun r => by omega) (k2 := fun _ => ?_)
                have hgo : ∀ v', (v' = 0 ∨ v' = 1) → (v' = 1 ↔ v = 1 ∧ y6 40 (i : Int) = y6 40 (20 + (i : Int))) → pe_X (d + 8) 218 (120, [some (.inr (.inr M)), some (.inl p), some (.inl r), some (.inl n), some (.inl v), some (.inl (i : Int))], [.inl v'], pm_h M σ (M + 38) y6) Φ := fun v' hv2 hv3 => by
                  refine b218_120 hF (k := ?_)
                  refine ih (i + 1) v' (by push_cast; omega) hv2 (hv3.trans ⟨fun H j hj => ?_, fun H => ⟨hv.mpr (fun j hj => H j (by omega)), ?_⟩⟩)
                  · by_cases ej : j = i
                    · subst ej
                      rw [← g1, ← g2]; exact H.2
                    · exact hv.mp H.1 j (by omega)
                  · rw [g1, g2]; exact H i (by omega)
                refine b218_90 hF (k1 := fun r0 => ?_) (k2 := fun r0 => ?_)
                · refine b218_119 hF (k := ?_)
                  exact hgo 0 (Or.inl rfl) (by omega)
                · refine b218_95 hF (k1 := fun r1 => ?_) (k2 := fun r1 => ?_)
                  · refine b218_119 hF (k := ?_)
                    exact hgo 0 (Or.inl rfl) (by omega)
                  · refine b218_115 hF (k := ?_)
                    exact hgo 1 (Or.inr rfl) (by omega)
            exact loop n.toNat 0 1 (by omega) (Or.inr rfl) ⟨fun _ j hj => absurd hj (Nat.not_lt_zero _), fun _ => rfl⟩
          · rw [if_pos (by omega)] at k
            refine b218_57 hF (k := ?_)
            exact k _ _ hP
        · refine b218_43 hF (k1 := fun r => absurd rfl r) (k2 := fun _ => ?_)
          exact hno (by omega)
    · refine b218_26 hF (k1 := fun _ => ?_) (k2 := fun r => absurd rfl r)
      exact hno (by omega)
  · refine b218_14 hF (k1 := fun _ => ?_) (k2 := fun r => absurd rfl r)
    exact hno (by omega)
/-- comes -/
theorem c192 {p : Int} (hF : pm_F M σ) (hM : pm_R y a) (hwf : pa_wf a) (hS : pm_RS y h) (hwS : pa_wfS h) (hp : -2147483648 ≤ p ∧ p < 2147483648) (hD : -2147483648 ≤ D ∧ D < 2147483648) (k : ∀ y2, pm_Pb y y2 (pa_doComes a h p D).1 → Φ (some (.inl (pa_doComes a h p D).2)) (pm_h M σ q y2)) : pe_M (d + 3) 192 [.inr (.inr M), .inl p, .inl D] (pm_h M σ q y) Φ := by
  have hP := pm_Pb_37 hM hwf
  have hS1 := pm_RS_37 (v := 0) hS
  have h8 := hwf.1.1
  unfold pa_doComes at k
  have hr := pa_K_r h D
  have e4 := hP.R.cnt.1
  refine pe_M_of ck192 (Nat.le_of_ble_eq_true rfl) ?_
  refine b192_0 hF (k := ?_)
  generalize pm_u y 0 37 0 = z at *
  refine pe_M.up (c134 (d := 0) hF (by omega) (by omega) (by omega) (fun rp => ?_) (fun rp => ?_)) (by omega)
  · rw [if_neg (by omega)] at k
    refine b192_14 hF (k1 := fun r => by omega) (k2 := fun _ => ?_)
    refine b192_17 hF (k := ?_)
    refine pe_M.up (c233 (d := 0) hF hS1 hwS hD ?_) (by omega)
    by_cases hw : pa_K h D < 0
    · rw [if_pos hw] at k
      refine b192_22 hF (k1 := fun r => by omega) (k2 := fun _ => ?_)
      refine b192_25 hF (k := ?_)
      refine pe_M.up (c134 (d := 0) hF (by omega) (by omega) (by omega) (fun rp2 => ?_) (fun rp2 => absurd rp rp2)) (by omega)
      refine b192_34 hF (k1 := fun r => by omega) (k2 := fun _ => ?_)
      refine b192_37 hF (k := ?_)
      refine pe_M.up (c233 (d := 0) hF hS1 hwS hD ?_) (by omega)
      refine b192_42 hF (k := ?_)
      refine b192_46 hF (k := ?_)
      exact k _ hP
    · rw [if_neg hw] at k
      obtain ⟨w1, w2, w3⟩ := pa_K_0 hwS hw
      obtain ⟨s1, s2, s3⟩ := hS1 D w1.1 w1.2
      have hb := (hwS D w1.1 w1.2).2.1 w2
      refine b192_22 hF (k1 := fun _ => ?_) (k2 := fun r => by omega)
      refine b192_47 hF (k := ?_)
      rw [(s2 w2).1, (s2 w2).2]
      refine pe_M.up (c171 (d := 0) hF hP.R hwf.1 hp (by omega) (by omega) (fun r => ?_) (fun r1 r2 r3 y5 g1 g2 => ?_)) (by omega)
      · rw [if_pos (by omega)] at k
        refine b192_64 hF (k1 := fun _ => ?_) (k2 := fun r => absurd rfl r)
        refine b192_76 hF (k := ?_)
        refine b192_78 hF (k := ?_)
        exact k _ hP
      · rw [if_neg (by omega)] at k
        have e5 : y5 0 3 = a.1 4 + 1 := g2.cnt.1
        refine b192_64 hF (k1 := fun r => by omega) (k2 := fun _ => ?_)
        refine b192_67 hF (k := ?_)
        refine b192_78 hF (k := ?_)
        rw [show y5 0 3 - 1 = a.1 4 by omega]
        exact k _ ⟨pm_fr_trans hP.1 (pm_fr_mono g1 (fun k j hk => pm_Zq_Zp k j (pm_Zm_Zq k j hk))), (g1 0 37 (by unfold pm_Zm pm_Zs; omega)).trans hP.2.1, g2⟩
  · rw [if_pos (by omega)] at k
    refine b192_14 hF (k1 := fun _ => ?_) (k2 := fun r => absurd rfl r)
    refine b192_25 hF (k := ?_)
    refine pe_M.up (c134 (d := 0) hF (by omega) (by omega) (by omega) (fun rp2 => absurd rp2 rp) (fun _ => ?_)) (by omega)
    refine b192_34 hF (k1 := fun _ => ?_) (k2 := fun r => absurd rfl r)
    refine b192_45 hF (k := ?_)
    refine b192_46 hF (k := ?_)
    exact k _ hP
end
