/-! THE LAW: out of all lines; served -/
section
variable {d o r q x y : Nat} {Z : Int → Prop} {Φ : Option pe_V → pe_H → Prop} {σ σ' : pe_H} {g g' : Nat → Int} {c e v n : Int} {a b s : pa_M} {w : pa_C} {nu : Nat → Int} {k0 : Nat} {l : List Int}
theorem k152_in {ra : Nat} {at' : Int} (hl8 : l.length ≤ 8) (hc8 : 0 ≤ c ∧ c < 8) (hz8 : ∀ z ∈ l, 0 ≤ z ∧ z < 8) (hA : ll_A σ g ra l) (hB : ll_B σ g) (k : ∀ (σ1 : pe_H) (o7 o8 : Option pe_V), ll_fr (fun _ => False) 1 l.length σ g σ1 (ll_u g (pe_n σ) (-1)) → pe_K σ1 (pe_n σ) = 10 → pe_L σ1 (pe_n σ) = l.length → (∀ i : Nat, i < (l.filter (fun z => decide (z ≠ c))).length → pe_I σ1 (pe_n σ) i = (l.filter (fun z => decide (z ≠ c))).getD i 0) → pe_X d 152 (79, [some (.inr (.inr 3)), some (.inl c), some (.inl at'), some (.inr (.inr (pe_n σ))), some (.inl ((l.filter (fun z => decide (z ≠ c))).length : Int)), some (.inr (.inr ra)), some (.inl (l.length : Int)), o7, o8], [], σ1) Φ) :
    ∀ (post pre : List Int) (σ1 : pe_H) (o8 : Option pe_V), l = pre ++ post → ll_fr (fun _ => False) 1 l.length σ g σ1 (ll_u g (pe_n σ) (-1)) → pe_K σ1 (pe_n σ) = 10 → pe_L σ1 (pe_n σ) = l.length → (∀ i : Nat, i < (pre.filter (fun z => decide (z ≠ c))).length → pe_I σ1 (pe_n σ) i = (pre.filter (fun z => decide (z ≠ c))).getD i 0) → pe_X d 152 (37, [some (.inr (.inr 3)), some (.inl c), some (.inl at'), some (.inr (.inr (pe_n σ))), some (.inl ((pre.filter (fun z => decide (z ≠ c))).length : Int)), some (.inr (.inr ra)), some (.inl (l.length : Int)), some (.inl (pre.length : Int)), o8], [], σ1) Φ
  | [], pre, σ1, o8, hl, e1, kN, lN, iN => by
    rw [List.append_nil] at hl
    subst hl
    have hL1 := (hB.fr e1 (fun h => h)).L
    refine b152_37 (k1 := fun _ => ?_) (k2 := fun r => by omega)
    exact k σ1 _ _ e1 kN lN iN
  | z :: post, pre, σ1, o8, hl, e1, kN, lN, iN => by
    have hz := hz8 z (by rw [hl]; simp)
    have hlen : l.length = pre.length + post.length + 1 := by rw [hl, List.length_append, List.length_cons]; omega
    have hfl : (pre.filter (fun z => decide (z ≠ c))).length ≤ pre.length := List.length_filter_le _ _
    have hA1 := hA.fr e1 (fun h => h)
    have hg9 := hB.1.2 _ (Nat.le_refl (pe_n σ))
    have hn3 : 3 < pe_n σ := ll_lt hB.1.2 (by rw [hB.2.1]; decide)
    have hL1 := (hB.fr e1 (fun h => h)).L
    have kA := hA1.1.1
    have lA := hA1.2.1
    have iA : pe_I σ1 ra (pre.length : Int) = z := by
      rw [hA1.2.2 pre.length (by omega), hl, List.getD_eq_getElem?_getD, List.getElem?_append_right (Nat.le_refl _)]
      simp
    have e2 := e1.wIn (j := ((pre.filter (fun z => decide (z ≠ c))).length : Int)) (v := z) hg9
    have hL2 := (hB.fr e2 (fun h => h)).L
    have hpp : (pre ++ [z]).length = pre.length + 1 := by simp
    refine b152_37 (k1 := fun r => by omega) (k2 := fun _ => ?_)
    refine b152_44 (k := ?_)
    rw [iA]
    have kN2 : pe_K (pe_wI σ1 (pe_n σ) ((pre.filter (fun z => decide (z ≠ c))).length : Int) z) (pe_n σ) = 10 := kN
    have lN2 : pe_L (pe_wI σ1 (pe_n σ) ((pre.filter (fun z => decide (z ≠ c))).length : Int) z) (pe_n σ) = l.length := lN
    refine b152_57 (k1 := fun r1 => ?_) (k2 := fun r1 => ?_)
    · have hf : (pre ++ [z]).filter (fun z => decide (z ≠ c)) = pre.filter (fun z => decide (z ≠ c)) ++ [z] := by
        rw [List.filter_append]
        simp [r1]
      have ih := k152_in hl8 hc8 hz8 hA hB k post (pre ++ [z]) _ (some (.inl z)) (by rw [hl]; simp) e2 kN2 lN2 (fun i hi => by
        rw [hf] at hi ⊢
        rw [List.length_append] at hi
        have hi : i < (pre.filter (fun z => decide (z ≠ c))).length + 1 := hi
        rw [ll_getD_app _ z i hi]
        by_cases hi2 : i < (pre.filter (fun z => decide (z ≠ c))).length
        · rw [if_pos hi2, pe_I_nej (by omega)]
          exact iN i hi2
        · have : i = (pre.filter (fun z => decide (z ≠ c))).length := by omega
          rw [if_neg hi2, this, pe_I_same])
      rw [hf, hpp, List.length_append] at ih
      refine b152_69 (k := ?_)
      refine b152_70 (k := ?_)
      exact ih
    · have hf : (pre ++ [z]).filter (fun z => decide (z ≠ c)) = pre.filter (fun z => decide (z ≠ c)) := by
        rw [List.filter_append]
        simp [r1]
      have ih := k152_in hl8 hc8 hz8 hA hB k post (pre ++ [z]) _ (some (.inl z)) (by rw [hl]; simp) e2 kN2 lN2 (fun i hi => by
        rw [hf] at hi ⊢
        rw [pe_I_nej (by omega)]
        exact iN i hi)
      rw [hf, hpp] at ih
      refine b152_65 (k := ?_)
      refine b152_70 (k := ?_)
      rw [Int.add_zero]
      exact ih
/-- one line -/
theorem k152_1 (hR : ll_R σ g a) (hw : pa_wf9 a) (hk : k0 < 2) (hn0 : 0 ≤ n) (hn3 : n < 3) (hl8 : (a.2.2.2 k0 n).length ≤ 8) (hc8 : 0 ≤ c ∧ c < 8) (hz8 : ∀ z ∈ a.2.2.2 k0 n, 0 ≤ z ∧ z < 8) (k : ∀ (σ' : pe_H) (g' : Nat → Int) (o3 o4 o5 o6 o7 o8 : Option pe_V), ll_fr ll_Zs 2 16 σ g σ' g' → ll_R σ' g' (pa_qw a k0 n ((a.2.2.2 k0 n).filter (fun z => decide (z ≠ c)))) → pe_X d 152 (2, [some (.inr (.inr 3)), some (.inl c), some (.inl (n + 3 * k0 + 1)), o3, o4, o5, o6, o7, o8], [], σ') Φ) (o3 o4 o5 o6 o7 o8 : Option pe_V) : pe_X d 152 (8, [some (.inr (.inr 3)), some (.inl c), some (.inl (n + 3 * k0)), o3, o4, o5, o6, o7, o8], [], σ) Φ := by
  have hL := hR.L
  have hB := hR.B
  have hg := hR.gg
  have hA := hR.ln0 hk hn0 hn3
  have hn3' : 3 < pe_n σ := ll_lt hg (by rw [hR.B.2.1]; decide)
  generalize hl : a.2.2.2 k0 n = l at hA hl8 hz8 k
  have hA0 := hA
  obtain ⟨⟨hAK, hAg⟩, hAL, hAI⟩ := hA
  generalize hat : n + 3 * (k0 : Int) = at' at hAK hAg hAL hAI hA0 k ⊢
  have hat0 : 0 ≤ at' := by omega
  have hat6 : at' < 6 := by omega
  have hg9 := hg _ (Nat.le_refl _)
  refine b152_8 (k := ?_)
  rw [hAL]
  have s0 : ((l.length : Int)).toNat = l.length := by omega
  rw [s0]
  have e0 : ll_fr (fun _ => False) 1 l.length σ g (pe_new σ 10 (l.length : Int) l.length) (ll_u g (pe_n σ) (-1)) := ll_fr_new hg
  have hL1 := (hR.B.fr e0 (fun h => h)).L
  have rR : pe_R (pe_new σ 10 (l.length : Int) l.length) 892 at' = pe_R σ 892 at' := e0.R (by rw [hR.B.2.2.2.1]; decide) (fun h => h) _
  have kN : pe_K (pe_new σ 10 (l.length : Int) l.length) (pe_n σ) = 10 := if_pos rfl
  have lN : pe_L (pe_new σ 10 (l.length : Int) l.length) (pe_n σ) = (l.length : Int) := if_pos rfl
  have hA1 := hA0.fr e0 (fun h => h)
  have kA1 := hA1.1.1
  refine b152_18 (k := ?_)
  rw [rR]
  refine b152_29 (k := ?_)
  rw [hA1.2.1]
  refine k152_in hl8 hc8 hz8 hA0 hB (fun σ1 o7 o8 e1 kN1 lN1 iN1 => ?_) l [] _ o8 rfl e0 kN lN (fun i hi => absurd hi (Nat.not_lt_zero _))
  have hfl : (l.filter (fun z => decide (z ≠ c))).length ≤ l.length := List.length_filter_le _ _
  have hR1 := hR.fr hw e1 (fun _ h => h.elim)
  have hL2 := hR1.L
  have hg1 := hR1.gg
  generalize hm : l.filter (fun z => decide (z ≠ c)) = m at iN1 hfl k ⊢
  have gN : ll_u g (pe_n σ) (-1) (pe_n σ) = -1 := ll_u_s
  generalize ll_u g (pe_n σ) (-1) = g1 at e1 hR1 hg1 gN
  have hn1 : 3 < pe_n σ1 := ll_lt hg1 (by rw [hR1.B.2.1]; decide)
  have hlt1 : pe_n σ < pe_n σ1 := ll_lt hg1 (by rw [gN]; decide)
  have hg91 := hg1 _ (Nat.le_refl _)
  have s1 : ((m.length : Int)).toNat = m.length := by omega
  have e3 : ll_fr (fun _ => False) 1 m.length σ1 g1 (pe_new σ1 10 (m.length : Int) m.length) (ll_u g1 (pe_n σ1) (-1)) := ll_fr_new hg1
  have kM : pe_K (pe_new σ1 10 (m.length : Int) m.length) (pe_n σ1) = 10 := if_pos rfl
  have lM : pe_L (pe_new σ1 10 (m.length : Int) m.length) (pe_n σ1) = (m.length : Int) := if_pos rfl
  have kN3 : pe_K (pe_new σ1 10 (m.length : Int) m.length) (pe_n σ) = 10 := (e3.K (by rw [gN]; decide)).trans kN1
  have lN3 : pe_L (pe_new σ1 10 (m.length : Int) m.length) (pe_n σ) = l.length := (e3.L (by rw [gN]; decide)).trans lN1
  have iN3 : ∀ i : Nat, i < m.length → pe_I (pe_new σ1 10 (m.length : Int) m.length) (pe_n σ) i = m.getD i 0 := fun i hi => (e3.I (by rw [gN]; decide) (fun h => h) _).trans (iN1 i hi)
  refine b152_79 (h2 := Or.inr ⟨by omega, if_pos rfl⟩) (k := ?_)
  rw [s1]
  have hR3 := hR1.fr hw e3 (fun _ h => h.elim)
  generalize pe_new σ1 10 (m.length : Int) m.length = σ3 at e3 kM lM kN3 lN3 iN3 hR3 ⊢
  have gM : ll_u g1 (pe_n σ1) (-1) (pe_n σ1) = -1 := ll_u_s
  have gN3 : ll_u g1 (pe_n σ1) (-1) (pe_n σ) = -1 := (e3.G (by rw [gN]; decide)).trans gN
  have hA3 : ll_A (pe_cpy σ3 (pe_n σ) 0 (pe_n σ1) 0 m.length) (ll_u g1 (pe_n σ1) (-1)) (pe_n σ1) m := by
    refine ⟨⟨kM, gM⟩, lM, fun i hi => ?_⟩
    rw [pe_I_cpy_in (by omega) (by omega), show (0 : Int) + ((i : Int) - 0) = i by omega]
    exact iN3 i hi
  -- the copy comes after the line is set; both ways the same
  have e4 : ll_fr (fun _ => False) 1 m.length σ1 g1 (pe_cpy σ3 (pe_n σ) 0 (pe_n σ1) 0 m.length) (ll_u g1 (pe_n σ1) (-1)) := e3.cpyn hg91
  have hR4 := hR1.fr hw e4 (fun _ h => h.elim)
  obtain ⟨e5, hR5⟩ := hR4.ln hw hk hn0 hn3 hA3
  rw [hat] at e5 hR5
  have e6 : ll_fr (fun z => z = -4) 1 m.length σ1 g1 (pe_wR σ3 892 at' (pe_n σ1)) (ll_u g1 (pe_n σ1) (-1)) := ll_fr_mono (ll_fr_trans (Z := fun z => z = -4) (ll_fr_mono (x' := 1) (y' := m.length) e3 (fun _ h => h.elim)) (ll_fr_wR (g := ll_u g1 (pe_n σ1) (-1)) e3.gg ((e3.G (by rw [hR1.B.2.2.2.1]; decide)).trans hR1.B.2.2.2.1))) (fun _ h => h)
  have hL4 := (hR1.B.fr e6 (by decide)).L
  have rM : pe_R (pe_wR σ3 892 at' (pe_n σ1)) 892 at' = pe_n σ1 := pe_R_same
  have kM4 : pe_K (pe_wR σ3 892 at' (pe_n σ1)) (pe_R (pe_wR σ3 892 at' (pe_n σ1)) 892 at') = 10 := by rw [rM]; exact kM
  have lM4 : pe_L (pe_wR σ3 892 at' (pe_n σ1)) (pe_R (pe_wR σ3 892 at' (pe_n σ1)) 892 at') = m.length := by rw [rM]; exact lM
  have kN4 : pe_K (pe_wR σ3 892 at' (pe_n σ1)) (pe_n σ) = 10 := kN3
  have lN4 : pe_L (pe_wR σ3 892 at' (pe_n σ1)) (pe_n σ) = l.length := lN3
  refine b152_89 (k := ?_)
  rw [rM]
  have hL5 := hR5.L
  have eq : pe_cpy (pe_wR σ3 892 at' (pe_n σ1)) (pe_n σ) 0 (pe_n σ1) 0 m.length = pe_wR (pe_cpy σ3 (pe_n σ) 0 (pe_n σ1) 0 m.length) 892 at' (pe_n σ1) := rfl
  rw [eq]
  refine b152_103 (k := ?_)
  exact k _ _ _ _ _ _ _ _ (ll_fr_mono (ll_fr_trans (ll_fr_trans (ll_fr_mono (x' := 1) (y' := 8) e1 (fun _ h => h.elim)) (ll_fr_mono (x' := 1) (y' := 8) e4 (fun _ h => h.elim))) e5) (fun _ h => h)) hR5
/-- out of the lines before the i-th -/
def ll_lvn (a : pa_M) (c i : Int) : pa_M := (a.1, a.2.1, a.2.2.1, fun k q => if q + 3 * k < i then (a.2.2.2 k q).filter (fun z => decide (z ≠ c)) else a.2.2.2 k q)
theorem k152_loop (hw : pa_wf9 a) (hc8 : 0 ≤ c ∧ c < 8) (hl8 : ∀ k : Nat, k < 2 → ∀ n : Int, 0 ≤ n → n < 3 → (a.2.2.2 k n).length ≤ 8 ∧ ∀ z ∈ a.2.2.2 k n, 0 ≤ z ∧ z < 8) (k : ∀ (σ' : pe_H) (g' : Nat → Int), ll_fr ll_Zs 12 96 σ g σ' g' → ll_R σ' g' (pa_lv a c) → Φ none σ') : ∀ (m : Nat) (i : Int) (σ1 : pe_H) (g1 : Nat → Int) (o3 o4 o5 o6 o7 o8 : Option pe_V), i + m = 6 → 0 ≤ i → ll_fr ll_Zs (2 * (6 - m)) (16 * (6 - m)) σ g σ1 g1 → ll_R σ1 g1 (ll_lvn a c i) → pe_X d 152 (2, [some (.inr (.inr 3)), some (.inl c), some (.inl i), o3, o4, o5, o6, o7, o8], [], σ1) Φ
  | 0, i, σ1, g1, o3, o4, o5, o6, o7, o8, hi, hi0, e1, hR => by
    have hL := hR.L
    refine b152_2 (k1 := fun _ => ?_) (k2 := fun r => by omega)
    refine b152_109 (k := ?_)
    refine k σ1 g1 (ll_fr_mono e1 (fun _ h => h)) (hR.congr rfl (fun _ _ _ => rfl) (fun _ _ _ => rfl) (fun n n0 n3 => ⟨?_, ?_⟩))
    · exact (if_pos (by omega)).symm
    · exact (if_pos (by omega)).symm
  | m + 1, i, σ1, g1, o3, o4, o5, o6, o7, o8, hi, hi0, e1, hR => by
    have hL := hR.L
    obtain ⟨k0, n, hk, hn0, hn3, hat⟩ : ∃ (k0 : Nat) (n : Int), k0 < 2 ∧ 0 ≤ n ∧ n < 3 ∧ i = n + 3 * k0 := by
      by_cases h : i < 3
      · exact ⟨0, i, by omega, hi0, h, by omega⟩
      · exact ⟨1, i - 3, by omega, by omega, by omega, by omega⟩
    have hq : (ll_lvn a c i).2.2.2 k0 n = a.2.2.2 k0 n := if_neg (by omega)
    refine b152_2 (k1 := fun r => by omega) (k2 := fun _ => ?_)
    rw [hat]
    refine k152_1 (c := c) (a := ll_lvn a c i) hR hw hk hn0 hn3 (by rw [hq]; exact (hl8 k0 hk n hn0 hn3).1) hc8 (by rw [hq]; exact (hl8 k0 hk n hn0 hn3).2) (fun σ2 g2 p3 p4 p5 p6 p7 p8 e2 hR2 => ?_) o3 o4 o5 o6 o7 o8
    refine k152_loop hw hc8 hl8 k m (n + 3 * k0 + 1) σ2 g2 p3 p4 p5 p6 p7 p8 (by omega) (by omega) (ll_fr_mono (ll_fr_trans e1 e2) (fun _ h => h)) (hR2.congr rfl (fun _ _ _ => rfl) (fun _ _ _ => rfl) (fun n' n0 n3 => ?_))
    rw [← hat]
    have key : ∀ k' : Nat, k' < 2 → (ll_lvn a c (i + 1)).2.2.2 k' n' = (pa_qw (ll_lvn a c i) k0 n ((ll_lvn a c i).2.2.2 k0 n |>.filter (fun z => decide (z ≠ c)))).2.2.2 k' n' := fun k' hk' => by
      show (if n' + 3 * (k' : Int) < i + 1 then _ else _) = (if k' = k0 ∧ n' = n then _ else if n' + 3 * (k' : Int) < i then _ else _)
      rw [hq]
      by_cases e : k' = k0 ∧ n' = n
      · obtain ⟨e1, e2⟩ := e
        subst e1 e2
        rw [if_pos (by omega), if_pos ⟨rfl, rfl⟩]
      · rw [if_neg e]
        by_cases h : n' + 3 * (k' : Int) < i
        · rw [if_pos (by omega), if_pos h]
        · rw [if_neg (by omega), if_neg h]
    exact ⟨key 0 (by decide), key 1 (by decide)⟩
theorem k152 (hR : ll_R σ g a) (hw : pa_wf9 a) (hc8 : 0 ≤ c ∧ c < 8) (hl8 : ∀ k : Nat, k < 2 → ∀ n : Int, 0 ≤ n → n < 3 → (a.2.2.2 k n).length ≤ 8 ∧ ∀ z ∈ a.2.2.2 k n, 0 ≤ z ∧ z < 8) (k : ∀ (σ' : pe_H) (g' : Nat → Int), ll_fr ll_Zs 12 96 σ g σ' g' → ll_R σ' g' (pa_lv a c) → Φ none σ') : pe_M (d + 1) 152 [.inr (.inr 3), .inl c] σ Φ := by
  have hL := hR.L
  refine pe_M_of ck152 (Nat.le_of_ble_eq_true rfl) ?_
  refine b152_0 (k := ?_)
  refine k152_loop hw hc8 hl8 k 6 0 σ g _ _ _ _ _ _ (by omega) (by omega) (ll_fr_mono (ll_fr_refl _ hR.gg) (fun _ h => h)) (hR.congr rfl (fun _ _ _ => rfl) (fun _ _ _ => rfl) (fun n n0 n3 => ⟨if_neg (by omega), if_neg (by omega)⟩))
theorem ll_len8 (hq : pa_wfq a) (h8 : a.1 4 ≤ 8) : ∀ k : Nat, k < 2 → ∀ n : Int, 0 ≤ n → n < 3 → (a.2.2.2 k n).length ≤ 8 ∧ ∀ z ∈ a.2.2.2 k n, 0 ≤ z ∧ z < 8 := fun _ hk _ h0 h3 => ⟨(pa_wfq_b hq h8 hk h0 h3).2.1, (pa_wfq_b hq h8 hk h0 h3).1⟩
/-- served -/
theorem k153 (hR : ll_R σ g a) (hwf : pa_wf3 a) (hk : k0 < 2) (hn0 : 0 ≤ n) (hn3 : n < 3) (hl : a.2.2.2 k0 n = e :: l) (k : ∀ (σ' : pe_H) (g' : Nat → Int), ll_fr ll_Zs 12 96 σ g σ' g' → ll_R σ' g' (pa_cw (pa_qw a k0 n ((e :: l).filter (fun z => decide (z ≠ e)))) e (pa_on (a.2.1 e))) → Φ (some (.inr (.inr (pe_R σ 891 e)))) σ') : pe_M (d + 2) 153 [.inr (.inr 3), .inl (n + 3 * k0)] σ Φ := by
  have h8 := hwf.1.1
  have hL := hR.L
  have hg := hR.gg
  have hA := hR.ln0 hk hn0 hn3
  have he := ((hwf.2.1 k0 hk n hn0 hn3).2 e).mp (by rw [hl]; exact List.mem_cons_self)
  obtain ⟨⟨e0, e1⟩, es, e7⟩ := he
  have eI : pe_I σ (pe_R σ 892 (n + 3 * k0)) 0 = e := by
    have := hA.2.2 0 (by rw [hl]; simp)
    rw [hl] at this
    simpa using this
  have eL : pe_L σ (pe_R σ 892 (n + 3 * k0)) = (l.length : Int) + 1 := by rw [hA.2.1, hl, List.length_cons]; omega
  have eK := hA.1.1
  have hat6 : n + 3 * (k0 : Int) < 6 := by omega
  have hat0 : 0 ≤ n + 3 * (k0 : Int) := by omega
  generalize hat : n + 3 * (k0 : Int) = at' at eI eL eK hat6 hat0 ⊢
  refine pe_M_of ck153 (Nat.le_of_ble_eq_true rfl) ?_
  refine b153_0 (k := ?_)
  refine b153_14 (k := ?_)
  rw [eI]
  refine pe_M.up (k152 (d := 0) hR hwf.1.w9 ⟨by omega, by omega⟩ (ll_len8 hwf.2.1 h8.2) (fun σ1 g1 f1 hR1 => ?_)) (by omega)
  have hR2 : ll_R σ1 g1 (pa_qw a k0 n ((e :: l).filter (fun z => decide (z ≠ e)))) := by
    refine hR1.congr rfl (fun _ _ _ => rfl) (fun _ _ _ => rfl) (fun n' n0 n3 => ?_)
    have key : ∀ k' : Nat, k' < 2 → (pa_qw a k0 n ((e :: l).filter (fun z => decide (z ≠ e)))).2.2.2 k' n' = (pa_lv a e).2.2.2 k' n' := fun k' hk' => by
      show (if k' = k0 ∧ n' = n then _ else a.2.2.2 k' n') = (a.2.2.2 k' n').filter (fun z => decide (z ≠ e))
      by_cases h : k' = k0 ∧ n' = n
      · obtain ⟨h1, h2⟩ := h
        subst h1 h2
        rw [if_pos ⟨rfl, rfl⟩, hl]
      · rw [if_neg h]
        refine (List.filter_eq_self.mpr (fun z hz => ?_)).symm
        have hz2 := ((hwf.2.1 k' hk' n' n0 n3).2 z).mp hz
        refine decide_eq_true (fun e1 => h ?_)
        subst e1
        exact ⟨by omega, by omega⟩
    exact ⟨key 0 (by decide), key 1 (by decide)⟩
  have hw2 : pa_wf9 (pa_qw a k0 n ((e :: l).filter (fun z => decide (z ≠ e)))) := hwf.1.w9
  have hL2 := hR2.L
  have rR : pe_R σ1 891 e = pe_R σ 891 e := f1.R (by rw [hR.B.2.2.1]; decide) (by rw [hR.B.2.2.1]; unfold ll_Zs; decide) _
  have hC := hR2.co e0 (show e < a.1 4 from e1)
  rw [rR] at hC
  have C0 : ll_C σ1 g1 e (pe_R σ 891 e) (a.2.1 e) := hC
  have hKc := C0.1.1
  refine b153_26 (k := ?_)
  obtain ⟨p1, C1⟩ := C0.num f1.gg e0 (by decide) C0.2.1.on (fun q => by simp [pa_s] at q)
  have hR3 := hR2.one hw2 e0 (show e < a.1 4 from e1) p1 (by rw [rR]; exact C1)
  have hL3 := hR3.L
  refine b153_31 (k := ?_)
  exact k _ _ (ll_fr_mono (ll_fr_trans f1 (ll_fr_mono (x' := 0) (y' := 0) p1 (fun z hz => ll_Zc_s e0 hz))) (fun _ h => h)) hR3
end
