/-! THE MODEL: runs by lot, the image -/
def pa_dr (z : Int) : Int := z * 1103515245 + 12345
def pa_dv (z b : Int) : Int := Int.tmod (Int.tdiv (pe_and z 2147483647) 65536) b
noncomputable def pa_lot : Nat → pa_M → Int → pa_M × Int
  | 0, s, z => (s, z)
  | m + 1, s, z => pa_lot m (if (s.2.1 (pa_dv (pa_dr z) (s.1 4))).1 2 ≤ 2 then pa_send s (pa_dv (pa_dr z) (s.1 4)) (pa_dv (pa_dr (pa_dr z)) 100) else s) (pa_dr (pa_dr z))
noncomputable def pa_lotR (a : pa_M) (z : Int) : pa_M := pa_rounds 5 (pa_lot 6 a z).1
noncomputable def pa_lotsN (a : pa_M) (x : Int) : Nat → Int → Int → Int
  | 0, _, v => v
  | m + 1, z, v => pa_lotsN a x m (pa_lot 6 a z).2 (v + (if x = 0 then pa_outs (pa_lotR a z) - pa_outs a else pb_c (pa_bits (pa_isEnd (pa_lotR a z)) ((pa_lotR a z).1 4).toNat)))
noncomputable def pa_aLots (a : pa_M) (n z x : Int) : Int := if ¬ ((1 ≤ n ∧ n ≤ 20) ∧ 0 ≤ x ∧ x ≤ 1) then -1 else if a.1 4 = 0 then 0 else pa_lotsN a x n.toNat z 0
def pa_doRestore (a : pa_M) (im : Option pa_M) : pa_M × Int := match im with
  | none => (a, -3)
  | some b => (b, b.1 6)
theorem pe_and_max (x : Int) : 0 ≤ pe_and x 2147483647 ∧ pe_and x 2147483647 ≤ 2147483647 := by
  have e : (Int32.ofInt 2147483647).toBitVec.toNat = 2147483647 := by decide +kernel
  have h : ((Int32.ofInt x) &&& (Int32.ofInt 2147483647)).toBitVec.toNat ≤ 2147483647 := by
    rw [Int32.toBitVec_and, BitVec.toNat_and, e]
    exact Nat.and_le_right
  have h2 : ((Int32.ofInt x) &&& (Int32.ofInt 2147483647)).toInt = (((Int32.ofInt x) &&& (Int32.ofInt 2147483647)).toBitVec.toNat : Int) := by
    show BitVec.toInt _ = _
    rw [BitVec.toInt_eq_toNat_cond, if_pos (by omega)]
  unfold pe_and
  rw [h2]
  omega
theorem pa_dv_b {z b : Int} (hb : 0 < b) : 0 ≤ pa_dv z b ∧ pa_dv z b < b := by
  have h := pe_and_max z
  unfold pa_dv
  rw [Int.tdiv_eq_ediv_of_nonneg h.1, Int.tmod_eq_emod_of_nonneg (by omega)]
  exact ⟨Int.emod_nonneg _ (by omega), Int.emod_lt_of_pos _ hb⟩
theorem pa_lot_wf : ∀ (m : Nat) (s : pa_M) (z : Int), pa_wf s → 0 < s.1 4 → pa_wf (pa_lot m s z).1 ∧ (pa_lot m s z).1.1 = s.1
  | 0, s, _, h, _ => ⟨h, rfl⟩
  | m + 1, s, z, h, h4 => by
    have b1 := pa_dv_b (z := pa_dr z) h4
    have b2 := pa_dv_b (z := pa_dr (pa_dr z)) (by decide : (0 : Int) < 100)
    unfold pa_lot
    by_cases q : (s.2.1 (pa_dv (pa_dr z) (s.1 4))).1 2 ≤ 2
    · rw [if_pos q]
      have hs := pa_send_wf h b1.1 b1.2 q (v := pa_dv (pa_dr (pa_dr z)) 100) (by omega)
      have ih := pa_lot_wf m _ (pa_dr (pa_dr z)) hs.1 (by rw [hs.2]; exact h4)
      exact ⟨ih.1, ih.2.trans hs.2⟩
    · rw [if_neg q]
      exact pa_lot_wf m s _ h h4
/-- the image, in the model's cells -/
def pm_Im (y : Nat → Int → Int) (im : Option pa_M) : Prop := (im = none → y 0 50 = 0) ∧ ∀ b, im = some b → y 0 50 = 1 ∧ ∃ yi : Nat → Int → Int, pm_R yi b ∧ (∀ i : Nat, i < pm_cl.length → y 39 i = yi (pm_cl.getD i (0, 0)).1 (pm_cl.getD i (0, 0)).2) ∧ y 101 (-1) = yi 0 23 ∧ ∀ j, 0 ≤ j → y 101 j = yi 23 j
/-- what taking and giving back the image keeps -/
def pm_Zi (k : Nat) (_ : Int) : Prop := ¬ (27 ≤ k ∧ k ≤ 32)
def pm_g0 (y : Nat → Int → Int) : Nat → Int → Int := fun k j => if k = 100 then 0 else y k j
section
variable {d M q : Nat} {Φ : Option pe_V → pe_H → Prop} {σ : pe_H} {y : Nat → Int → Int} {a s : pa_M} {c n : Int} {im : Option pa_M}
theorem pm_Im_fr {Z : Nat → Int → Prop} {y2 : Nat → Int → Int} (hf : pm_fr Z y y2) (h0 : ∀ j, ¬ Z 39 j) (h1 : ∀ j, ¬ Z 101 j) (h2 : ¬ Z 0 50) (h : pm_Im y im) : pm_Im y2 im := by
  refine ⟨fun e => by rw [hf 0 50 h2]; exact h.1 e, fun b e => ?_⟩
  obtain ⟨g1, yi, g2, g3, g4, g5⟩ := h.2 b e
  refine ⟨by rw [hf 0 50 h2]; exact g1, yi, g2, fun i hi => by rw [hf 39 _ (h0 _)]; exact g3 i hi, by rw [hf 101 _ (h1 _)]; exact g4, fun j hj => by rw [hf 101 _ (h1 _)]; exact g5 j hj⟩
theorem pm_h_g0 : pm_h M σ q (pm_g0 y) = pm_h M σ q y := by
  unfold pm_h
  congr 4
  refine Prod.ext ?_ rfl
  funext a j
  show (if M ≤ a ∧ a ≤ M + 42 then pm_g0 y (a - M) j else _) = (if M ≤ a ∧ a ≤ M + 42 then y (a - M) j else _)
  by_cases h : M ≤ a ∧ a ≤ M + 42
  · rw [if_pos h, if_pos h]
    unfold pm_g0
    rw [if_neg (by omega)]
  · rw [if_neg h, if_neg h]
theorem pm_R_gh (hM : pm_R y a) : pm_gh y (y 0 23) ∧ 0 ≤ y 0 23 := by
  obtain ⟨w, n, h, -⟩ := hM
  rw [h.1.2.2.2.1]
  exact ⟨h.1.2.2.2.2, h.st.1⟩
/-- image -/
theorem c189 (hF : pm_F M σ) (hM : pm_R y a) (hwf : pa_wf a) (k : ∀ q' y2, pm_fr pm_Zi y y2 → y2 0 37 = 0 → pm_R y2 a → pm_Im y2 (some a) → Φ (some (.inl (a.1 6))) (pm_h M σ q' y2)) : pe_M (d + 4) 189 [.inr (.inr M)] (pm_h M σ q y) Φ := by
  have hok := pm_cl_ok (kq := 39) (by decide)
  refine pe_M_of ck189 (Nat.le_of_ble_eq_true rfl) ?_
  refine b189_0 hF (k := ?_)
  have hM1 : pm_R (pm_u (pm_u y 0 37 0) 0 50 1) a := pm_R_z hM hwf (pm_fr_then (pm_fr_u (by unfold pm_Zr; omega)) (by unfold pm_Zr; omega))
  have hf1 : pm_fr pm_Zi y (pm_u (pm_u y 0 37 0) 0 50 1) := pm_fr_then (pm_fr_u (by unfold pm_Zi; omega)) (by unfold pm_Zi; omega)
  have e37 : (pm_u (pm_u y 0 37 0) 0 50 1) 0 37 = 0 := by simp [pm_u]
  have e50 : (pm_u (pm_u y 0 37 0) 0 50 1) 0 50 = 1 := by simp [pm_u]
  generalize pm_u (pm_u y 0 37 0) 0 50 1 = z at *
  refine c186 (t := true) (d := d) hF (Or.inr rfl) ?_
  refine b189_19 hF (k := ?_)
  obtain ⟨y1, hy1⟩ : ∃ y1, y1 = pm_cr true 39 pm_cl (pm_u (pm_u z 0 52 1) 0 51 0) := ⟨_, rfl⟩
  obtain ⟨g1, g2, g3⟩ := pm_crt (kq := 39) (by decide) pm_cl (pm_u (pm_u z 0 52 1) 0 51 0) hok
  have hy1 : y1 = pm_cr true 39 pm_cl (pm_u (pm_u z 0 52 (if true = true then 1 else 0)) 0 51 0) := hy1
  rw [← hy1]
  have hy1 : y1 = pm_cr true 39 pm_cl (pm_u (pm_u z 0 52 1) 0 51 0) := hy1
  rw [← hy1] at g1 g2 g3
  have e51 : (pm_u (pm_u z 0 52 1) 0 51 0) 0 51 = 0 := pm_us
  rw [e51] at g2 g3
  have e1 : ∀ k j, k ≠ 39 → ¬ (k = 0 ∧ (j = 51 ∨ j = 52)) → y1 k j = z k j := fun k j hk hj => by
    rw [g1 k j hk (fun e => hj ⟨e.1, Or.inl e.2⟩)]
    simp only [pm_u]
    rw [if_neg (fun e => hj ⟨e.1, Or.inl e.2⟩), if_neg (fun e => hj ⟨e.1, Or.inr e.2⟩)]
  have e29 : y1 0 29 = a.1 6 := (e1 0 29 (by decide) (by omega)).trans hM1.cnt.2.2
  rw [← pm_h_gs (g := 101) (by decide), e29]
  have e2 : ∀ k j, k ≠ 101 → pm_gs 101 y1 k j = y1 k j := fun k j hk => if_neg hk
  have e101 : pm_gs 101 y1 101 (-1) = z 0 23 := by
    unfold pm_gs
    rw [if_pos rfl, if_pos rfl]
    exact e1 0 23 (by decide) (by omega)
  have e101j : ∀ j, 0 ≤ j → pm_gs 101 y1 101 j = z 23 j := fun j hj => by
    unfold pm_gs
    rw [if_pos rfl, if_neg (by omega)]
    exact e1 23 j (by decide) (by omega)
  have hgh := pm_R_gh hM1
  refine k _ _ (pm_fr_trans hf1 (fun k j hk => ?_)) ?_ (pm_R_sub hM1 hwf.1 hwf.w3.ql (fun k j hc => ?_) (fun j _ _ => ?_) (fun g hg => ?_)) ⟨fun e => (by cases e), fun b hb => ⟨?_, z, ?_, fun i hi => ?_, e101, e101j⟩⟩
  · unfold pm_Zi at hk
    rw [e2 k j (by omega), e1 k j (by omega) (by omega)]
  · rw [e2 0 37 (by decide), e1 0 37 (by decide) (by omega)]; exact e37
  · have := pm_cl_no hc
    rw [e2 k j this.2.2.2.1, e1 k j this.2.1 this.2.2.2.2]
  · rw [e2 23 j (by decide), e1 23 j (by decide) (by omega)]
  · rcases hg with rfl | rfl
    · rw [e2 100 _ (by decide), e1 100 _ (by decide) (by omega)]
      refine ⟨(hgh.1 100 (Or.inl rfl)).1, fun j j0 j1 => ?_⟩
      rw [e2 100 _ (by decide), e1 100 _ (by decide) (by omega), e2 23 j (by decide), e1 23 j (by decide) (by omega)]
      exact (hgh.1 100 (Or.inl rfl)).2 j j0 j1
    · rw [e101]
      refine ⟨Int.le_refl _, fun j j0 _ => ?_⟩
      rw [e101j j j0, e2 23 j (by decide), e1 23 j (by decide) (by omega)]
  · rw [e2 0 50 (by decide), e1 0 50 (by decide) (by omega)]; exact e50
  · rw [← Option.some.inj hb]; exact hM1
  · rw [e2 39 _ (by decide)]
    have := g3 i hi
    rw [Int.zero_add] at this
    rw [this]
    have hm : pm_cl.getD i (0, 0) ∈ pm_cl := by
      rw [List.getD_eq_getElem?_getD, List.getElem?_eq_getElem (by omega)]
      exact List.getElem_mem _
    have ho := hok _ hm
    simp only [pm_u]
    rw [if_neg (fun e => ho.2 ⟨e.1, Or.inl e.2⟩), if_neg (fun e => ho.2 ⟨e.1, Or.inr e.2⟩)]
/-- restore -/
theorem c190 (hF : pm_F M σ) (hM : pm_R y a) (hwf : pa_wf a) (hI : pm_Im y im) (hwi : ∀ b, im = some b → pa_wf b) (k : ∀ q' y2, pm_fr pm_Zi y y2 → y2 0 37 = 0 → pm_R y2 (pa_doRestore a im).1 → pm_Im y2 im → Φ (some (.inl (pa_doRestore a im).2)) (pm_h M σ q' y2)) : pe_M (d + 4) 190 [.inr (.inr M)] (pm_h M σ q y) Φ := by
  have hok := pm_cl_ok (kq := 39) (by decide)
  have e50 : y 0 50 = 0 ∨ y 0 50 = 1 := by
    cases im with
    | none => exact Or.inl (hI.1 rfl)
    | some b => exact Or.inr (hI.2 b rfl).1
  have f37 : pm_fr pm_Zi y (pm_u y 0 37 0) := pm_fr_u (by unfold pm_Zi; omega)
  have hI1 : pm_Im (pm_u y 0 37 0) im := pm_Im_fr (Z := fun k j => k = 0 ∧ j = 37) (pm_fr_u ⟨rfl, rfl⟩) (by omega) (by omega) (by omega) hI
  have e37 : (pm_u y 0 37 0) 0 37 = 0 := pm_us
  have hM1 := pm_R_37 hM hwf.1.w8
  refine pe_M_of ck190 (Nat.le_of_ble_eq_true rfl) ?_
  cases im with
  | none =>
    have := hI.1 rfl
    refine b190_0 hF (k1 := fun r => by omega) (k2 := fun _ => ?_)
    refine b190_12 hF (k := ?_)
    exact k _ _ f37 e37 hM1 hI1
  | some b =>
    have hb := (hI.2 b rfl).1
    refine b190_0 hF (k1 := fun _ => ?_) (k2 := fun r => by omega)
    refine b190_15 hF (k := ?_)
    generalize pm_u y 0 37 0 = z at *
    obtain ⟨h50, yi, i1, i2, i3, i4⟩ := hI1.2 b rfl
    have hwb := hwi b rfl
    refine c186 (t := false) (d := d) hF (Or.inr rfl) ?_
    refine b190_24 hF (k := ?_)
    obtain ⟨y5, hy5⟩ : ∃ y5, y5 = pm_cr false 39 pm_cl (pm_u (pm_u z 0 52 0) 0 51 0) := ⟨_, rfl⟩
    have hy5' : y5 = pm_cr false 39 pm_cl (pm_u (pm_u z 0 52 (if false = true then 1 else 0)) 0 51 0) := hy5
    rw [← hy5']
    have e51 : (pm_u (pm_u z 0 52 0) 0 51 0) 0 51 = 0 := pm_us
    have g := pm_crf (kq := 39) (o := yi) (by decide) pm_cl (pm_u (pm_u z 0 52 0) 0 51 0) hok (fun i hi => by
      rw [e51, Int.zero_add]
      have : (pm_u (pm_u z 0 52 0) 0 51 0) 39 (i : Int) = z 39 i := by simp [pm_u]
      rw [this, i2 i hi])
    rw [← hy5] at g
    have gno : ∀ k j, (k, j) ∉ pm_cl → ¬ (k = 0 ∧ (j = 51 ∨ j = 52)) → y5 k j = z k j := fun k j hk hj => by
      rw [(g k j (fun e => hj ⟨e.1, Or.inl e.2⟩)).2 hk]
      simp only [pm_u]
      rw [if_neg (fun e => hj ⟨e.1, Or.inl e.2⟩), if_neg (fun e => hj ⟨e.1, Or.inr e.2⟩)]
    have gin : ∀ k j, (k, j) ∈ pm_cl → y5 k j = yi k j := fun k j hk => (g k j (fun e => (pm_cl_no hk).2.2.2.2 ⟨e.1, Or.inl e.2⟩)).1 hk
    have hgh := (pm_R_gh hM1).1 101 (Or.inr rfl)
    have hgi := (pm_R_gh i1).2
    have n23 : ∀ j, ((23 : Nat), j) ∉ pm_cl := fun j h => (pm_cl_23 _ h) rfl
    have n0 : ∀ k j, ¬ pm_Zy k j → (k, j) ∉ pm_cl := fun k j h hc => h (pm_cl_Zy hc)
    have e29 : y5 0 29 = b.1 6 := (gin 0 29 (pm_cl_mem (Or.inl ⟨rfl, by decide⟩))).trans i1.cnt.2.2
    rw [← pm_h_g0, e29]
    have e0 : ∀ k j, k ≠ 100 → pm_g0 y5 k j = y5 k j := fun k j hk => if_neg hk
    refine k _ _ (pm_fr_trans f37 (fun k j hk => ?_)) ?_ (pm_R_sub i1 hwb.1 hwb.w3.ql (fun k j hc => ?_) (fun j j0 j1 => ?_) (fun g hg => ?_)) (pm_Im_fr (Z := fun k j => pm_Zo k j ∨ k = 100) (fun k j hk => ?_) (by unfold pm_Zo pm_Zy; omega) (by unfold pm_Zo pm_Zy; omega) (by unfold pm_Zo pm_Zy; omega) hI1)
    · unfold pm_Zi at hk
      rw [e0 k j (by omega), gno k j (n0 k j (by unfold pm_Zy; omega)) (by omega)]
    · rw [e0 0 37 (by decide), gno 0 37 (n0 0 37 (by unfold pm_Zy; omega)) (by omega)]; exact e37
    · rw [e0 k j (pm_cl_no hc).2.2.1, gin k j hc]
    · rw [e0 23 j (by decide), gno 23 j (n23 j) (by omega), hgh.2 j j0 (by omega), i4 j j0]
    · rcases hg with rfl | rfl
      · have : pm_g0 y5 100 (-1) = 0 := if_pos rfl
        rw [this]
        exact ⟨hgi, fun j j0 j1 => absurd j1 (by omega)⟩
      · have e101 : ∀ j, pm_g0 y5 101 j = z 101 j := fun j => (e0 101 j (by decide)).trans (gno 101 j (n0 101 j (by unfold pm_Zy; omega)) (by omega))
        rw [e101]
        refine ⟨by omega, fun j j0 j1 => ?_⟩
        rw [e101, e0 23 j (by decide), gno 23 j (n23 j) (by omega)]
        exact hgh.2 j j0 j1
    · rw [e0 k j (fun e => hk (Or.inr e)), gno k j (n0 k j (fun e => hk (Or.inl (Or.inl e)))) (fun e => hk (Or.inl (Or.inr e)))]
/-- drawBelow -/
theorem c229 {b : Int} (hF : pm_F M σ) (hb0 : 0 < b) (hb : b < 2147483648) (k : Φ (some (.inl (pa_dv (pa_dr (y 0 56)) b))) (pm_h M σ q (pm_u y 0 56 (pa_dr (y 0 56))))) : pe_M (d + 1) 229 [.inr (.inr M), .inl b] (pm_h M σ q y) Φ := by
  have h := pe_and_max (pa_dr (y 0 56))
  unfold pa_dr at h
  have h2 : Int.tdiv (pe_and (y 0 56 * 1103515245 + 12345) 2147483647) 65536 = pe_and (y 0 56 * 1103515245 + 12345) 2147483647 / 65536 := Int.tdiv_eq_ediv_of_nonneg h.1
  refine pe_M_of ck229 (Nat.le_of_ble_eq_true rfl) ?_
  refine b229_0 hF (k := ?_)
  exact k
/-- think; the seed stays -/
theorem c187s {z : Nat → Int → Int} (hF : pm_F M σ) (hP : pm_Pb y z a) (hwf : pa_wf a) (k : ∀ y4, pm_Mi y a y4 a → y4 0 56 = z 0 56 → Φ none (pm_h M σ (M + 38) y4)) : pe_M (d + 4) 187 [.inr (.inr M)] (pm_h M σ q z) Φ :=
  c187 hF hP.R hwf.w3 (fun y2 g1 g2 => k y2 ⟨z, y2, hP, g1, pm_fr_refl _ _, g2⟩ (g1.1 0 56 (by unfold pm_Zk; omega)))
/-- lots -/
theorem c230 {z x : Int} (hF : pm_F M σ) (hM : pm_R y a) (hwf : pa_wf a) (h6 : 0 ≤ a.1 6 ∧ a.1 6 ≤ 999) (hn : -2147483648 ≤ n ∧ n < 2147483648) (hx : -2147483648 ≤ x ∧ x < 2147483648) (k : ∀ q' y2, pm_Pb y y2 a → Φ (some (.inl (pa_aLots a n z x))) (pm_h M σ q' y2)) : pe_M (d + 9) 230 [.inr (.inr M), .inl n, .inl z, .inl x] (pm_h M σ q y) Φ := by
  have h8 := hwf.1.1
  have hP := pm_Pb_37 hM hwf
  unfold pa_aLots at k
  have hno : ¬ ((1 ≤ n ∧ n ≤ 20) ∧ 0 ≤ x ∧ x ≤ 1) → pe_X (d + 8) 230 (27, [some (.inr (.inr M)), some (.inl n), some (.inl z), some (.inl x), none, none, none, none, none, none], [], pm_h M σ q (pm_u y 0 37 0)) Φ := fun h => by
    rw [if_pos h] at k
    refine b230_27 hF (k := ?_)
    exact k _ _ hP
  refine pe_M_of ck230 (Nat.le_of_ble_eq_true rfl) ?_
  refine b230_0 hF (k := ?_)
  generalize pm_u y 0 37 0 = z1 at *
  refine pe_M.up (c134 (d := 0) hF (by omega) (by omega) (by omega) (fun rn => ?_) (fun rn => ?_)) (by omega)
  · refine b230_14 hF (k1 := fun r => by omega) (k2 := fun _ => ?_)
    refine b230_17 hF (k := ?_)
    refine pe_M.up (c134 (d := 0) hF (by omega) (by omega) (by omega) (fun rx => ?_) (fun rx => ?_)) (by omega)
    · rw [if_neg (by omega)] at k
      refine b230_24 hF (k1 := fun _ => ?_) (k2 := fun r => by omega)
      refine b230_29 hF (k := ?_)
      have hM2 : pm_R (pm_u z1 0 56 z) a := pm_R_z hP.R hwf (pm_fr_u (by unfold pm_Zr; omega))
      have hP2 : pm_Pb y (pm_u z1 0 56 z) a := ⟨pm_fr_trans hP.1 (pm_fr_u (by unfold pm_Zp; omega)), by simpa [pm_u] using hP.2.1, hM2⟩
      have e56 : (pm_u z1 0 56 z) 0 56 = z := pm_us
      generalize pm_u z1 0 56 z = z2 at *
      refine pe_M.up (c228 (d := 0) hF hM2 hwf.1 ?_) (by omega)
      refine b230_41 hF (k := ?_)
      refine pe_M.up (c187s (d := 0) hF hP2 hwf (fun y4 g g56 => ?_)) (by omega)
      refine b230_47 hF (k := ?_)
      have e4 : ∀ y4, pm_Mi y a y4 a → y4 0 3 = a.1 4 := fun y4 g => g.R.cnt.1
      by_cases h0 : a.1 4 = 0
      · have := e4 y4 g
        rw [if_pos h0] at k
        refine b230_50 hF (k1 := fun r => by omega) (k2 := fun _ => ?_)
        refine b230_56 hF (k1 := fun _ => ?_) (k2 := fun r => by omega)
        refine b230_155 hF (k := ?_)
        exact k _ _ (pm_Mi_Pb g)
      · rw [if_neg h0] at k
        obtain ⟨V, hV⟩ : ∃ V, V = pa_lotsN a x n.toNat z 0 := ⟨_, rfl⟩
        rw [← hV] at k
        have loop : ∀ (m : Nat) (i w v : Int) (oz o7 o8 o9 : Option pe_V) (y4 : Nat → Int → Int), i + m = n → 0 ≤ i → pm_Mi y a y4 a → y4 0 56 = w → pa_lotsN a x m w v = V → pe_X (d + 8) 230 (50, [some (.inr (.inr M)), some (.inl n), oz, some (.inl x), some (.inl v), some (.inl (pa_outs a)), some (.inl i), o7, o8, o9], [], pm_h M σ (M + 38) y4) Φ := by
          intro m
          induction m with
          | zero =>
            intro i w v oz o7 o8 o9 y4 hi hi0 u1 u2 u5
            have u5 : v = V := u5
            refine b230_50 hF (k1 := fun _ => ?_) (k2 := fun r => by omega)
            refine b230_155 hF (k := ?_)
            rw [u5]
            exact k _ _ (pm_Mi_Pb u1)
          | succ m ih =>
            intro i w v oz o7 o8 o9 y4 hi hi0 u1 u2 u5
            have u5 : pa_lotsN a x m (pa_lot 6 a w).2 (v + (if x = 0 then pa_outs (pa_lotR a w) - pa_outs a else pb_c (pa_bits (pa_isEnd (pa_lotR a w)) ((pa_lotR a w).1 4).toNat))) = V := u5
            have hl := pa_lot_wf 6 a w hwf (by omega)
            have inner : ∀ (m2 : Nat) (j t : Int) (s : pa_M) (o8 o9 : Option pe_V) (y5 : Nat → Int → Int), j + m2 = 6 → 0 ≤ j → pm_Mi y a y5 s → pa_wf s → s.1 = a.1 → y5 0 56 = t → pa_lot m2 s t = pa_lot 6 a w → pe_X (d + 8) 230 (66, [some (.inr (.inr M)), some (.inl n), oz, some (.inl x), some (.inl v), some (.inl (pa_outs a)), some (.inl i), some (.inl j), o8, o9], [], pm_h M σ (M + 38) y5) Φ := by
              intro m2
              induction m2 with
              | zero =>
                intro j t s o8 o9 y5 hj hj0 v1 v2 v3 v4 v5
                have v5 : (s, t) = pa_lot 6 a w := v5
                refine b230_66 hF (k1 := fun _ => ?_) (k2 := fun r => by omega)
                refine b230_114 hF (k := ?_)
                refine c170 hF v1.R v2 (by decide) (by decide) (by rw [v3]; omega) (fun y6 x1 x2 x3 => ?_)
                have hs : s = (pa_lot 6 a w).1 := by rw [← v5]
                have ht : t = (pa_lot 6 a w).2 := by rw [← v5]
                have x2 : pm_R y6 (pa_rounds 5 s) := x2
                have x3 : pa_wf (pa_rounds 5 s) := x3
                have u6 := v1.st x1 x2
                have e56 : y6 0 56 = t := (x1 0 56 (by unfold pm_Zs; omega)).trans v4
                rw [hs] at x2 x3 u6
                have x2 : pm_R y6 (pa_lotR a w) := x2
                have x3 : pa_wf (pa_lotR a w) := x3
                have h4 := x3.1.1
                have hgo : ∀ u, u = (if x = 0 then pa_outs (pa_lotR a w) - pa_outs a else pb_c (pa_bits (pa_isEnd (pa_lotR a w)) ((pa_lotR a w).1 4).toNat)) → ∀ o4 o7, pe_X (d + 8) 230 (142, [some (.inr (.inr M)), some (.inl n), oz, some (.inl x), o4, some (.inl (pa_outs a)), some (.inl i), o7, o8, o9], [.inl u, .inl v], pm_h M σ (M + 38) y6) Φ := fun u hu o4 o7 => by
                  refine b230_142 hF (k := ?_)
                  refine pe_M.up (c188n (d := 0) hF u6 hwf (fun y7 w1 w2 w3 => ?_)) (by omega)
                  refine b230_149 hF (k := ?_)
                  exact ih (i + 1) _ _ _ _ _ _ y7 (by omega) (by omega) w1 ((w3 0 56 (by unfold pm_Zo pm_Zy; omega)).trans e56) (by rw [ht, hu]; exact u5)
                refine b230_119 hF (k1 := fun r0 => ?_) (k2 := fun r0 => ?_)
                · refine b230_135 hF (k := ?_)
                  refine pe_M.up (c141 (d := 0) hF x2 x3.1 ?_) (by omega)
                  refine b230_139 hF (k := ?_)
                  have hb := pa_bits_255 (pa_isEnd (pa_lotR a w)) (n := ((pa_lotR a w).1 4).toNat) (by omega)
                  refine pe_M.up (c136 (d := 0) hF hb.1 hb.2 ?_) (by omega)
                  exact hgo _ (by rw [if_neg r0]) _ _
                · refine b230_125 hF (k := ?_)
                  refine pe_M.up (c228 (d := 0) hF x2 x3.1 ?_) (by omega)
                  refine b230_129 hF (k := ?_)
                  exact hgo _ (by rw [if_pos r0]) _ _
              | succ m2 ih2 =>
                intro j t s o8 o9 y5 hj hj0 v1 v2 v3 v4 v5
                have c4 : s.1 4 = a.1 4 := by rw [v3]
                have b1 := pa_dv_b (z := pa_dr t) (b := s.1 4) (by omega)
                have b2 := pa_dv_b (z := pa_dr (pa_dr t)) (by decide : (0 : Int) < 100)
                unfold pa_lot at v5
                refine b230_66 hF (k1 := fun r => by omega) (k2 := fun _ => ?_)
                refine b230_73 hF (k := ?_)
                rw [v1.R.cnt.1]
                refine pe_M.up (c229 (d := 0) hF (by omega) (by omega) ?_) (by omega)
                refine b230_81 hF (k := ?_)
                have v6 := pm_R_z v1.R v2 (pm_fr_u (k := 0) (j := 56) (v := pa_dr (y5 0 56)) (by unfold pm_Zr; omega))
                have v7 := v1.ex (pm_fr_u (k := 0) (j := 56) (v := pa_dr (y5 0 56)) (by unfold pm_Zq; omega)) v6
                rw [v4] at v7 ⊢
                have f56 : (pm_u y5 0 56 (pa_dr t)) 0 56 = pa_dr t := pm_us
                generalize pm_u y5 0 56 (pa_dr t) = y6 at *
                refine pe_M.up (c229 (d := 0) hF (by decide) (by decide) ?_) (by omega)
                refine b230_89 hF (k := ?_)
                have v8 := pm_R_z v7.R v2 (pm_fr_u (k := 0) (j := 56) (v := pa_dr (y6 0 56)) (by unfold pm_Zr; omega))
                have v9 := v7.ex (pm_fr_u (k := 0) (j := 56) (v := pa_dr (y6 0 56)) (by unfold pm_Zq; omega)) v8
                rw [f56] at v9 ⊢
                have g56 : (pm_u y6 0 56 (pa_dr (pa_dr t))) 0 56 = pa_dr (pa_dr t) := pm_us
                generalize pm_u y6 0 56 (pa_dr (pa_dr t)) = y7 at *
                have i2 := (v9.R.nn b1.1 b1.2).1.1.2.1
                have hb := (v2.1.2.2.1 _ b1.1 b1.2).1.2.1
                refine pe_M.up (c140 (d := 0) hF b1.1 (by omega) (by omega) (fun r2 => ?_) (fun r2 => ?_)) (by omega)
                · rw [if_pos (by omega)] at v5
                  refine b230_97 hF (k1 := fun r => by omega) (k2 := fun _ => ?_)
                  refine b230_100 hF (k := ?_)
                  refine pe_M.up (c166 (d := 0) hF v9.R v2 b1.1 b1.2 (by omega) (by omega) (fun y8 x1 x2 => ?_)) (by omega)
                  have hs := pa_send_wf v2 b1.1 b1.2 (by omega) (v := pa_dv (pa_dr (pa_dr t)) 100) (by omega)
                  refine b230_108 hF (k := ?_)
                  exact ih2 (j + 1) _ _ _ _ y8 (by omega) (by omega) (v9.st x1 x2) hs.1 (hs.2.trans v3) ((x1 0 56 (by unfold pm_Zs; omega)).trans g56) v5
                · rw [if_neg (by omega)] at v5
                  refine b230_97 hF (k1 := fun _ => ?_) (k2 := fun r => absurd rfl r)
                  refine b230_108 hF (k := ?_)
                  exact ih2 (j + 1) _ _ _ _ y7 (by omega) (by omega) v9 v2 v3 g56 v5
            have e5 := e4 y4 u1
            refine b230_50 hF (k1 := fun r => by omega) (k2 := fun _ => ?_)
            refine b230_56 hF (k1 := fun r => by omega) (k2 := fun _ => ?_)
            refine b230_63 hF (k := ?_)
            exact inner 6 0 w a _ _ y4 (by decide) (by decide) u1 hwf rfl u2 rfl
        exact loop n.toNat 0 z 0 _ _ _ _ y4 (by omega) (by decide) g (g56.trans e56) hV.symm
    · refine b230_24 hF (k1 := fun r => absurd rfl r) (k2 := fun _ => ?_)
      exact hno (by omega)
  · refine b230_14 hF (k1 := fun _ => ?_) (k2 := fun r => absurd rfl r)
    exact hno (by omega)
end
