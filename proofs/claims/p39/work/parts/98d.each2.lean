/-! holds: close each; all of them; stuck, least width -/
section
variable {d o r q x y x' y' N M : Nat} {Z Z' : Int → Prop} {Φ : Option pe_V → pe_H → Prop} {σ σ' σ'' : pe_H} {g g' g'' : Nat → Int} {c e v n p st : Int} {a b s s' : pa_M} {T U T' U' : Nat → Prop} {im im' : Option pa_M} {h h' : Int → pa_Sh} {o2 o3 o4 o7 o8 o9 o10 : Option pe_V}
theorem k172_D (hI : ll_I a) (hq0 : ll_Q T U σ g a a (some a) h) (hb0 : ll_nb σ N M) (hs0 : ll_sc σ) (h0 : 0 ≤ c) (h1 : c < a.1 4) (k : ∀ σ' o7 o8 o9 o10, ll_nb σ' N M → ll_sc σ' → ll_Q T U σ' g a a (some a) h → pe_X (d + 18) 172 (1216, [some (.inr (.inr 3)), some (.inr (.inr 1)), o2, o3, o4, some (.inl st), some (.inl c), o7, o8, o9, o10], [], σ') Φ) : pe_X (d + 18) 172 (1002, [some (.inr (.inr 3)), some (.inr (.inr 1)), o2, o3, o4, some (.inl st), some (.inl c), o7, o8, o9, o10], [], σ) Φ := by
  have hwf := hq0.W.1.1
  have hw9 := hwf.1.w9
  have h8 := hwf.1.1
  have h6 := hq0.W.1.2
  have g1 : g 1 = -1 := hq0.R.B.2.2.2.2.2.2.2.1
  have n7 := ll_k71
  have hL0 := hq0.R.L
  have hK0 := hq0.R.K h0 h1
  have es0 := hq0.R.st h0 h1
  have hbb := ll_st_b hwf.1 h0 h1
  have h5b := (hwf.1.2.2.1 c h0 h1).1.2.2.2.2.1
  refine b172_1002 (w1 := by rw [es0]; unfold pe_in; omega) (k1 := fun r1 => ?_) (k2 := fun r1 => ?_)
  · exact k σ _ _ _ _ hb0 hs0 hq0
  · have hlt : (a.2.1 c).1 2 < 6 := by omega
    obtain ⟨e6, e5, ej⟩ := ll_shut hwf h0 h1 hlt
    obtain ⟨w1, w2⟩ := pa_shut_wf hwf h0 h1 hlt
    have h14 : c < (pa_shut a c).1 4 := by rw [w2]; exact h1
    have hwc := w1.1.2.2.1 c h0 h14
    have hbs := hwc.1.2.1
    have u3 : pa_aCo a c 3 = (a.2.1 c).1 5 := by
      unfold pa_aCo
      rw [if_neg (by omega)]
      rfl
    have rd0 : pa_aCo (pa_shut a c) c 0 = ((pa_shut a c).2.1 c).1 2 := by
      unfold pa_aCo
      rw [if_neg (by omega)]
      rfl
    have rd3 : pa_aCo (pa_shut a c) c 3 = (a.2.1 c).1 5 := by
      unfold pa_aCo
      rw [if_neg (by omega)]
      exact e5
    have rd9 : pa_aCo (pa_shut a c) c 9 = 0 := by
      unfold pa_aCo
      rw [if_neg (by omega)]
      show ((((pa_shut a c).2.1 c).2.2.length : Nat) : Int) = 0
      rw [hwc.2.2.2.1.mp e6]
      rfl
    refine b172_1017 (k := ?_)
    refine pe_M.up (q83 (d := 0) hq0 (by omega) (by decide) ?_) (by omega)
    rw [u3]
    refine b172_1027 (k := ?_)
    refine pe_M.up (q88 (d := 0) hq0 hw9 h0 h1 hlt (fun σ1 p1 hq1 => ?_)) (by omega)
    have hb1 := hb0.z p1
    have hs1 := hs0.fz g1 n7 p1
    have hL1 := hq1.R.L
    refine b172_1038 (k1 := fun r => by omega) (k2 := fun _ => ?_)
    refine b172_1047 (k := ?_)
    refine pe_M.up (q83 (d := 0) hq1 (by omega) (by decide) ?_) (by omega)
    rw [rd0]
    refine b172_1057 (k1 := fun r => by omega) (k2 := fun _ => ?_)
    refine b172_1062 (k := ?_)
    refine pe_M.up (q83 (d := 0) hq1 (by omega) (by decide) ?_) (by omega)
    rw [rd3]
    refine b172_1072 (k1 := fun r => by omega) (k2 := fun _ => ?_)
    refine b172_1077 (k := ?_)
    refine pe_M.up (q88n (d := 0) hq1 hw9 h0 h14 (by omega) (fun σ2 p2 hq2 => ?_)) (by omega)
    have hb2 := hb1.z p2
    have hs2 := hs1.fz g1 n7 p2
    have hL2 := hq2.R.L
    refine b172_1086 (k1 := fun r => absurd rfl r) (k2 := fun _ => ?_)
    refine b172_1091 (k := ?_)
    refine pe_M.up (q87n (d := 0) hq2 hw9 h0 h14 (by omega) (by decide) (fun σ3 p3 hq3 => ?_)) (by omega)
    have hb3 := hb2.z p3
    have hs3 := hs2.fz g1 n7 p3
    have hL3 := hq3.R.L
    refine b172_1101 (k1 := fun r => absurd rfl r) (k2 := fun _ => ?_)
    refine b172_1106 (k := ?_)
    refine pe_M.up (q83 (d := 0) hq3 (by omega) (by decide) ?_) (by omega)
    rw [rd9]
    refine b172_1117 (k1 := fun _ => ?_) (k2 := fun r => absurd rfl r)
    refine b172_1122 (k := ?_)
    have loop : ∀ (m : Nat) (i : Int) (o7 o8 o9 : Option pe_V), i + m = a.1 4 → 0 ≤ i → pe_X (d + 18) 172 (1125, [some (.inr (.inr 3)), some (.inr (.inr 1)), o2, o3, o4, some (.inl st), some (.inl c), o7, o8, o9, some (.inl i)], [], σ3) Φ := by
      have e33 := hq3.R.mn
      intro m
      induction m with
      | zero =>
        intro i o7 o8 o9 hi hi0
        refine b172_1125 (w0 := by rw [e33]; unfold pe_in; omega) (k1 := fun _ => ?_) (k2 := fun r => by omega)
        refine b172_1200 (k := ?_)
        refine pe_M.up (q107 (d := 0) hq3 hw9  (fun σ4 p4 hq4 => ?_)) (by omega)
        have hb4 := hb3.z p4
        have hs4 := hs3.fz g1 n7 p4
        have hL4 := hq4.R.L
        have e35 := hq4.R.2.1.2.2
        refine b172_1207 (w0 := by rw [e35]; unfold pe_in; omega) (k1 := fun _ => ?_) (k2 := fun r => by omega)
        exact k σ4 _ _ _ _ hb4 hs4 hq4
      | succ m ih =>
        intro i o7 o8 o9 hi hi0
        have hi1 : i < a.1 4 := by omega
        have hKi := hq3.R.K hi0 hi1
        have esi := hq3.R.st hi0 hi1
        have hbi := ll_st_b hwf.1 hi0 hi1
        refine b172_1125 (w0 := by rw [e33]; unfold pe_in; omega) (k1 := fun r => by omega) (k2 := fun _ => ?_)
        refine b172_1134 (w1 := by rw [esi]; unfold pe_in; omega) (k1 := fun r2 => ?_) (k2 := fun r2 => ?_)
        · refine b172_1194 (k := ?_)
          exact ih (i + 1) _ _ _ (by omega) (by omega)
        · have i5 : (a.2.1 i).1 2 = 5 := by omega
          have e8 := hq3.R.wt hi0 hi1 (by omega) (by omega)
          have ht := (hwf.2.2.1 i hi0 hi1).2 i5
          refine b172_1148 (w2 := by rw [e8]; unfold pe_in; omega) (k1 := fun r3 => ?_) (k2 := fun r3 => ?_)
          · refine b172_1194 (k := ?_)
            exact ih (i + 1) _ _ _ (by omega) (by omega)
          · have i7 : (a.2.1 i).1 7 = c := by omega
            have hne : i ≠ c := fun e => hI.1 i hi0 hi1 i5 (by omega)
            obtain ⟨x5, x6⟩ := ej i hi0 hi1 hne i5 i7
            have hi4 : i < (pa_shut a c).1 4 := by rw [w2]; exact hi1
            have hbsi := (w1.1.2.2.1 i hi0 hi4).1.2.1
            have rdi : pa_aCo (pa_shut a c) i 0 = ((pa_shut a c).2.1 i).1 2 := by
              unfold pa_aCo
              rw [if_neg (by omega)]
              rfl
            refine b172_1163 (k := ?_)
            refine pe_M.up (q83 (d := 0) hq3 (by omega) (by decide) ?_) (by omega)
            rw [rdi]
            refine b172_1173 (k1 := fun r => by omega) (k2 := fun _ => ?_)
            refine b172_1177 (k := ?_)
            refine pe_M.up (q83 (d := 0) hq3 (by omega) (by decide) ?_) (by omega)
            rw [rdi]
            refine b172_1187 (k1 := fun _ => ?_) (k2 := fun r => by omega)
            refine b172_1194 (k := ?_)
            exact ih (i + 1) _ _ _ (by omega) (by omega)
    exact loop (a.1 4).toNat 0 _ _ _ (by omega) (by decide)
/-- all of them, and the least width -/
theorem k172_7 (hI : ll_I a) (hst : st = (pa_stuckN 61 0 a).1) (hq : ll_Q T U σ g a a (some a) h) (k : ∀ σ', ll_nb σ' (N + 8) (M + 48) → Φ (some (.inl 1)) σ') : ∀ (m : Nat) (i : Int) (σ0 : pe_H) (o2 o3 o4 o7 o8 o9 o10 : Option pe_V), i + m = a.1 4 → 0 ≤ i → ll_nb σ0 N M → ll_sc σ0 → ll_Q T U σ0 g a a (some a) h → pe_X (d + 18) 172 (660, [some (.inr (.inr 3)), some (.inr (.inr 1)), o2, o3, o4, some (.inl st), some (.inl i), o7, o8, o9, o10], [], σ0) Φ := by
  have hwf := hq.W.1.1
  have hw9 := hwf.1.w9
  have h8 := hwf.1.1
  have g1 : g 1 = -1 := hq.R.B.2.2.2.2.2.2.2.1
  have n7 := ll_k71
  intro m
  induction m with
  | zero =>
    intro i σ0 o2 o3 o4 o7 o8 o9 o10 hi hi0 hb0 hs0 hq0
    have hL0 := hq0.R.L
    have e33 := hq0.R.mn
    refine b172_660 (w0 := by rw [e33]; unfold pe_in; omega) (k1 := fun _ => ?_) (k2 := fun r => by omega)
    refine b172_1222 (k := ?_)
    refine pe_M.up (k146 (d := 0) hs0 (by decide) (by decide) (fun mm m0 m61 => ?_)) (by omega)
    refine b172_1230 (k := ?_)
    refine pe_M.up (q94 (d := 0) hq0 hw9 m0 (by omega) (fun σ1 p1 hq1 => ?_)) (by omega)
    have hb1 := hb0.z p1
    have hs1 := hs0.fz g1 n7 p1
    have hL1 := hq1.R.L
    refine b172_1241 (k := ?_)
    have hlb : -4 ≤ pa_lwN a mm 8 1 := by
      rcases ll_lwN a mm 8 1 with ⟨e, -⟩ | ⟨j, e1, e2, -⟩ <;> omega
    refine k172_8 hq1 hb1 ⟨m0, by omega⟩ k 8 1 σ1 _ _ _ _ _ _ _ (by decide) (by decide) ?_ hb1 hq1
    rcases ll_lwN a mm 8 1 with ⟨e, -⟩ | ⟨j, e1, e2, -⟩ <;> omega
  | succ m ih =>
    intro i σ0 o2 o3 o4 o7 o8 o9 o10 hi hi0 hb0 hs0 hq0
    have hL0 := hq0.R.L
    have e33 := hq0.R.mn
    refine b172_660 (w0 := by rw [e33]; unfold pe_in; omega) (k1 := fun r => by omega) (k2 := fun _ => ?_)
    refine k172_A hq0 hb0 hs0 hi0 (by omega) (fun σ1 o7 hb1 hs1 hq1 => ?_)
    refine k172_B hst hq1 hb1 hs1 hi0 (by omega) (fun σ2 hb2 hs2 hq2 => ?_)
    refine k172_C hq2 hb2 hs2 hi0 (by omega) (fun σ3 o7 o8 o9 hb3 hs3 hq3 => ?_)
    refine k172_D hI hq3 hb3 hs3 hi0 (by omega) (fun σ4 o7 o8 o9 o10 hb4 hs4 hq4 => ?_)
    have hL4 := hq4.R.L
    refine b172_1216 (k := ?_)
    exact ih (i + 1) σ4 _ _ _ _ _ _ _ (by omega) (by omega) hb4 hs4 hq4
/-- restore, stuck -/
theorem k172_6 (hI : ll_I a) (hq0 : ll_Q T U σ g a s (some a) h) (hwf : pa_wf a) (h6 : 0 ≤ a.1 6 ∧ a.1 6 ≤ 999) (hb0 : ll_nb σ N M) (hs0 : ll_sc σ) (k : ∀ σ', ll_nb σ' (N + 8) (M + 48) → Φ (some (.inl 1)) σ') (o2 o3 o4 o5 o6 o7 o8 o9 o10 : Option pe_V) : pe_X (d + 18) 172 (631, [some (.inr (.inr 3)), some (.inr (.inr 1)), o2, o3, o4, o5, o6, o7, o8, o9, o10], [], σ) Φ := by
  have hw9 := hwf.1.w9
  have h8 := hwf.1.1
  have g1 : g 1 = -1 := hq0.R.B.2.2.2.2.2.2.2.1
  have n7 := ll_k71
  have hL0 := hq0.R.L
  refine b172_631 (k := ?_)
  refine pe_M.up (q107 (d := 0) hq0 hw9  (fun σ1 p1 hq1 => ?_)) (by omega)
  have hb1 := hb0.z p1
  have hs1 := hs0.fz g1 n7 p1
  have hL1 := hq1.R.L
  have e35 := hq1.R.2.1.2.2
  refine b172_638 (w0 := by rw [e35]; unfold pe_in; omega) (k1 := fun _ => ?_) (k2 := fun r => by omega)
  refine b172_647 (k := ?_)
  refine pe_M.up (q93 (d := 0) hq1 hw9 (Or.inl rfl) (fun σ2 p2 hq2 => ?_)) (by omega)
  have hb2 := hb1.z p2
  have hs2 := hs1.fz g1 n7 p2
  have hL2 := hq2.R.L
  rw [if_pos rfl]
  refine b172_655 (k := ?_)
  exact k172_7 hI rfl hq2 k (a.1 4).toNat 0 σ2 _ _ _ _ _ _ _ (by omega) (by decide) hb2 hs2 hq2
end
