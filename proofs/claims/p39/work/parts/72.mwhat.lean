/-! THE MODEL: told rows looked at, programs alike, one more, runs by lot -/
def pa_fgN (a : pa_M) (l : List Int) : Nat → Int → Int
  | 0, _ => -4
  | m + 1, k => if a.1 4 ≤ k ∨ l.getD k.toNat 0 ≠ (a.2.1 k).1 2 then k else pa_fgN a l m (k + 1)
def pa_aForged (a : pa_M) (h : Int → pa_Sh) (d : Int) : Int := if pa_W h d < 0 then pa_W h d else pa_fgN a (h d).2.2 (h d).2.2.length 0
noncomputable def pa_jgN (t : Int) (l : List Int) : Nat → Int → pa_M → Int
  | 0, _, _ => -4
  | m + 1, k, s => if l.getD k.toNat 0 ≠ pa_least t ∧ l.getD k.toNat 0 ≠ pb_c (pa_bits (pa_isEnd s) (s.1 4).toNat) then k else pa_jgN t l m (k + 1) (pa_round s)
noncomputable def pa_aJudge (a : pa_M) (h : Int → pa_Sh) (d : Int) : Int := if pa_W h d < 0 then pa_W h d else pa_jgN (h d).2.1.1 (h d).2.2 (h d).2.2.length 0 a
noncomputable def pa_yrN (t : Int) (l : List Int) (c : Int) : Nat → Int → pa_M → Bool
  | 0, _, _ => true
  | m + 1, k, s => if ((pa_send s c 0).2.1 c).1 2 = 2 ∧ (l.getD k.toNat 0 = pa_least t ∨ l.getD k.toNat 0 = ((pa_send s c 0).2.1 c).1 4) then pa_yrN t l c m (k + 1) (pa_send s c 0) else false
noncomputable def pa_yr (a : pa_M) (t : Int) (l : List Int) (p : Int) : Bool := pa_yrN t l (a.1 4) l.length 0 (pa_more a p 0 0)
noncomputable def pa_aWhat (a : pa_M) (h : Int → pa_Sh) (d : Int) : Int := if pa_W h d < 0 then pa_W h d else if a.1 4 = 8 then -2 else pa_bits (pa_yr a (h d).2.1.1 (h d).2.2) 5
/-- one more step of what is laid out -/
noncomputable def pa_ly (c : Int) (s : pa_M) : pa_M := if (s.2.1 c).1 2 ≤ 2 then pa_send s c 0 else s
noncomputable def pa_lyN (c : Int) : Nat → pa_M → pa_M
  | 0, s => s
  | m + 1, s => pa_ly c (pa_lyN c m s)
def pa_lyC (s : pa_M) (c : Int) : Int := 10000 * (s.2.1 c).1 2 + (s.2.1 c).1 4 + 4
noncomputable def pa_alN (c : Int) : Nat → pa_M → pa_M → Int
  | 0, _, _ => 1
  | m + 1, s, t => if (s.2.1 c).1 2 ≤ 2 ∧ (t.2.1 c).1 2 ≤ 2 then (if ((pa_send s c 0).2.1 c).1 2 = ((pa_send t c 0).2.1 c).1 2 ∧ ((pa_send s c 0).2.1 c).1 4 = ((pa_send t c 0).2.1 c).1 4 then pa_alN c m (pa_send s c 0) (pa_send t c 0) else 0) else 1
noncomputable def pa_aAlike (a : pa_M) (p r n : Int) : Int := if ¬ ((0 ≤ p ∧ p ≤ 4) ∧ (0 ≤ r ∧ r ≤ 4) ∧ p ≠ r ∧ 0 ≤ n ∧ n ≤ 20) then -1 else if a.1 4 = 8 then -2 else pa_alN (a.1 4) n.toNat (pa_more a p 0 0) (pa_more a r 0 0)
def pa_doComes (a : pa_M) (h : Int → pa_Sh) (p d : Int) : pa_M × Int := if ¬ (0 ≤ p ∧ p ≤ 4) then (a, -1) else if pa_K h d < 0 then (a, pa_K h d) else if 8 ≤ a.1 4 then (a, -2) else (pa_more a p (h d).2.1.1 (h d).2.1.2, a.1 4)
theorem pa_least_r (t : Int) : -2147483648 ≤ pa_least t ∧ pa_least t ≤ 0 := by
  unfold pa_least
  split
  · omega
  · split <;> omega
theorem pa_more_wf {a : pa_M} {p k f : Int} (h : pa_wf a) (h8 : a.1 4 < 8) (hp : 0 ≤ p ∧ p < 5) (hk : 0 ≤ k ∧ k ≤ 5) (hf : 0 ≤ f ∧ f ≤ 9) : pa_wf (pa_more a p k f) ∧ (pa_more a p k f).1 4 = a.1 4 + 1 ∧ (pa_more a p k f).2.1 (a.1 4) = pa_newC p k f (a.2.2.1 p) ∧ (pa_more a p k f).1 6 = a.1 6 := by
  have e4 : (pa_more a p k f).1 4 = a.1 4 + 1 := rfl
  have h0 := h.1.1
  have en : (pa_more a p k f).2.1 (a.1 4) = pa_newC p k f (a.2.2.1 p) := if_pos rfl
  have eo : ∀ c, c ≠ a.1 4 → (pa_more a p k f).2.1 c = a.2.1 c := fun c hc => if_neg hc
  have hprog := h.1.2.2.2 p hp.1 (by omega)
  have hnew : pa_wfc (pa_newC p k f (a.2.2.1 p)) := by
    refine ⟨⟨⟨hp.1, ?_⟩, ?_, ?_, ?_, ?_, ?_, hk, hf, fun _ => rfl⟩, ?_, fun g hg => ?_, ?_, ?_⟩
    · show p ≤ 4; omega
    · exact ⟨Int.le_refl _, by show (0 : Int) ≤ 8; decide⟩
    · exact ⟨Int.le_refl _, by show (0 : Int) ≤ 999; decide⟩
    · exact ⟨Int.le_refl _, by show (-4 : Int) ≤ 999; decide⟩
    · exact ⟨Int.le_refl _, by show (0 : Int) ≤ 999; decide⟩
    · exact ⟨Int.le_refl _, by show (0 : Int) ≤ 999; decide⟩
    · show ([pa_nf p (a.2.2.1 p)] : List pa_F).length ≤ 6
      simp
    · have hg : g ∈ ([pa_nf p (a.2.2.1 p)] : List pa_F) := hg
      rw [List.mem_singleton] at hg
      rw [hg]
      exact pa_nf_wf hp.1 (by omega) hprog
    · constructor
      · intro q
        have q : (6 : Int) ≤ 0 := q
        omega
      · intro q
        cases q
    · constructor
      · intro q
        have q : (0 : Int) = 7 := q
        omega
      · intro q
        exact absurd rfl q
  have e2 : ((pa_more a p k f).2.1 (a.1 4)).1 2 = 0 := by rw [en]; rfl
  refine ⟨⟨⟨?_, h.1.2.1, fun c c0 c1 => ?_, h.1.2.2.2⟩, fun w hw ch ch0 ch3 => ?_, fun c c0 c1 => ?_, fun c c0 c1 => ?_⟩, e4, en, rfl⟩
  · show 0 ≤ a.1 4 + 1 ∧ a.1 4 + 1 ≤ 8
    omega
  · rw [e4] at c1
    by_cases e : c = a.1 4
    · rw [e, en]; exact hnew
    · rw [eo c e]; exact h.1.2.2.1 c c0 (by omega)
  · obtain ⟨n1, n2⟩ := h.2.1 w hw ch ch0 ch3
    refine ⟨n1, fun c => ?_⟩
    show c ∈ a.2.2.2 w ch ↔ (0 ≤ c ∧ c < a.1 4 + 1) ∧ _
    rw [n2 c]
    by_cases e : c = a.1 4
    · rw [e, e2]
      omega
    · rw [eo c e]
      omega
  · rw [e4] at c1 ⊢
    by_cases e : c = a.1 4
    · rw [e, e2]
      omega
    · rw [eo c e]
      have := h.2.2.1 c c0 (by omega)
      omega
  · rw [e4] at c1
    by_cases e : c = a.1 4
    · rw [e, e2]
      omega
    · intro h5
      rw [eo c e] at h5 ⊢
      have h7 := (h.2.2.1 c c0 (by omega)).2 h5
      rw [eo _ (by omega)]
      exact h.2.2.2 c c0 (by omega) h5
theorem pa_lyN_succ (c : Int) : ∀ (m : Nat) (s : pa_M), pa_lyN c (m + 1) s = pa_lyN c m (pa_ly c s)
  | 0, _ => rfl
  | m + 1, s => by
    show pa_ly c (pa_lyN c (m + 1) s) = pa_ly c (pa_lyN c m (pa_ly c s))
    rw [pa_lyN_succ c m s]
theorem pa_lyC_inj {s t : pa_M} {c : Int} (hs : pa_wf s) (ht : pa_wf t) (h0 : 0 ≤ c) (h1 : c < s.1 4) (h2 : c < t.1 4) : pa_lyC s c = pa_lyC t c ↔ (s.2.1 c).1 2 = (t.2.1 c).1 2 ∧ (s.2.1 c).1 4 = (t.2.1 c).1 4 := by
  have b1 := (hs.1.2.2.1 c h0 h1).1.2.2.2.1
  have b2 := (ht.1.2.2.1 c h0 h2).1.2.2.2.1
  unfold pa_lyC
  omega
theorem pa_ly_stop {c : Int} {s : pa_M} (h : ¬ (s.2.1 c).1 2 ≤ 2) : ∀ m, pa_lyN c m s = s
  | 0 => rfl
  | m + 1 => by
    show pa_ly c (pa_lyN c m s) = s
    rw [pa_ly_stop h m]
    unfold pa_ly
    rw [if_neg h]
section
variable {d M q : Nat} {Φ : Option pe_V → pe_H → Prop} {σ : pe_H} {y : Nat → Int → Int} {a s : pa_M} {c n : Int} {h : Int → pa_Sh} {D : Int}
theorem pm_Mi.S {y4 : Nat → Int → Int} (hm : pm_Mi y a y4 s) (hS : pm_RS y h) : pm_RS y4 h := pm_RS_fr (fun k j hk => hm.nothing hk) hS
end

