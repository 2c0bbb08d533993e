/-! THE LAW: cells of the script, bits, acts -/
section
variable {d o r q x y x' y' : Nat} {Z Z' : Int → Prop} {Φ : Option pe_V → pe_H → Prop} {σ σ' σ'' : pe_H} {g g' g'' : Nat → Int} {c e v n k1 : Int} {a b s s' : pa_M} {w : pa_C} {nu : Nat → Int} {k0 : Nat} {l : List Int} {f : pa_F} {fs : List pa_F} {T U T' U' : Nat → Prop} {im im' : Option pa_M} {h h' : Int → pa_Sh}
/-- the script: an array of ints, of whatever length -/
def ll_sc (σ : pe_H) : Prop := pe_K σ 1 = 10 ∧ pe_in (pe_L σ 1)
theorem k145 (hs : ll_sc σ) (hc : 0 ≤ c ∧ c ≤ 1000) (k : ∀ v, Φ (some (.inl v)) σ) : pe_M (d + 1) 145 [.inr (.inr 1), .inl c] σ Φ := by
  obtain ⟨h1, h2⟩ := hs
  refine pe_M_of ck145 (Nat.le_of_ble_eq_true rfl) ?_
  refine b145_0 (w0 := h2) (k1 := fun r1 => ?_) (k2 := fun r1 => ?_)
  · refine b145_12 (k := ?_)
    refine b145_18 (k := ?_)
    exact k _
  · refine b145_6 (k := ?_)
    refine b145_18 (k := ?_)
    exact k _
theorem k146 (hs : ll_sc σ) (hc : 0 ≤ c ∧ c ≤ 1000) (hn : 1 ≤ n ∧ n ≤ 1000) (k : ∀ v, 0 ≤ v → v < n → Φ (some (.inl v)) σ) : pe_M (d + 2) 146 [.inr (.inr 1), .inl c, .inl n] σ Φ := by
  refine pe_M_of ck146 (Nat.le_of_ble_eq_true rfl) ?_
  refine b146_0 (k := ?_)
  refine k145 hs hc (fun v => ?_)
  have hb := pe_and_max v
  refine b146_5 (k := ?_)
  rw [Int.tmod_eq_emod_of_nonneg hb.1]
  exact k _ (Int.emod_nonneg _ (by omega)) (Int.emod_lt_of_pos _ (by omega))
theorem ll_sc.fz (h : ll_sc σ) (hg : g 1 = -1) (hz : ¬ Z (-1)) (hf : ll_fz Z x y σ g σ' g') : ll_sc σ' := by
  have := (hf.2 1 (by rw [hg]; decide)).2 (by rw [hg]; exact hz)
  exact ⟨this.1.trans h.1, by rw [this.2.1]; exact h.2⟩
/-- how many bits -/
def ll_bs (x : Int) : Nat → Int
  | 0 => 0
  | n + 1 => ll_bs x n + pe_and (pe_shr x (n : Int)) 1
theorem ll_bs_all : ∀ x : Fin 256, ll_bs (x.val : Int) 16 = pb_c (x.val : Int) ∧ ∀ n : Fin 17, 0 ≤ ll_bs (x.val : Int) n.val ∧ ll_bs (x.val : Int) n.val ≤ 16 := by decide +kernel
theorem k149 {z : Int} (hz : 0 ≤ z ∧ z ≤ 255) (k : Φ (some (.inl (pb_c z))) σ) : pe_M (d + 1) 149 [.inl z] σ Φ := by
  obtain ⟨u, hu⟩ := pb_fin hz.1 hz.2
  obtain ⟨e1, e2⟩ := ll_bs_all u
  rw [hu] at e1 e2
  have loop : ∀ (m i : Nat), i + m = 16 → pe_X d 149 (4, [some (.inl z), some (.inl (ll_bs z i)), some (.inl (i : Int))], [], σ) Φ := by
    intro m
    induction m with
    | zero =>
      intro i hi
      refine b149_4 (k1 := fun _ => ?_) (k2 := fun r => by omega)
      refine b149_24 (k := ?_)
      have : i = 16 := by omega
      rw [this, e1]
      exact k
    | succ m ih =>
      intro i hi
      refine b149_4 (k1 := fun r => by omega) (k2 := fun _ => ?_)
      refine b149_10 (k := ?_)
      exact ih (i + 1) (by omega)
  refine pe_M_of ck149 (Nat.le_of_ble_eq_true rfl) ?_
  refine b149_0 (k := ?_)
  exact loop 16 0 rfl
/-- who is ended -/
theorem k164 (hR : ll_R σ g a) (hwf : pa_wf0 a) (k : Φ (some (.inl (pa_bits (pa_isEnd a) (a.1 4).toNat))) σ) : pe_M (d + 1) 164 [.inr (.inr 3)] σ Φ := by
  have h8 := hwf.1
  have hL := hR.L
  have hcnt := hR.mn
  have loop : ∀ (m i : Nat), (i : Int) + m = a.1 4 → pe_X d 164 (4, [some (.inr (.inr 3)), some (.inl (pa_bits (pa_isEnd a) i)), some (.inl (i : Int))], [], σ) Φ := by
    intro m
    induction m with
    | zero =>
      intro i hi
      refine b164_4 (w0 := by rw [hcnt]; unfold pe_in; omega) (k1 := fun _ => ?_) (k2 := fun r => by omega)
      refine b164_41 (k := ?_)
      rw [show (a.1 4).toNat = i by omega] at k
      exact k
    | succ m ih =>
      intro i hi
      have hb := pa_bits_b (pa_isEnd a) i
      have hb5 := pa_bits_255 (pa_isEnd a) (n := i) (by omega)
      have hK := hR.K (by omega : 0 ≤ (i : Int)) (by omega)
      have es := hR.st (by omega : 0 ≤ (i : Int)) (by omega)
      have hb2 := (hwf.2.2.1 i (by omega) (by omega)).1.2.1
      refine b164_4 (w0 := by rw [hcnt]; unfold pe_in; omega) (k1 := fun r => by omega) (k2 := fun _ => ?_)
      refine b164_12 (k1 := fun r1 => ?_) (k2 := fun r1 => ?_)
      · refine b164_32 (k := ?_)
        refine b164_33 (k := ?_)
        rw [pb_or_z hb5.1 hb5.2]
        have := ih (i + 1) (by push_cast; omega)
        rw [pa_bits, show pa_isEnd a (i : Int) = false from by unfold pa_isEnd; simp; omega, if_neg (by simp), Int.add_zero] at this
        exact this
      · refine b164_26 (k := ?_)
        refine b164_33 (k := ?_)
        rw [(pb_or (by omega) hb.1 hb.2).1]
        have := ih (i + 1) (by push_cast; omega)
        rw [pa_bits, show pa_isEnd a (i : Int) = true from by unfold pa_isEnd; simp; omega, if_pos rfl] at this
        exact this
  refine pe_M_of ck164 (Nat.le_of_ble_eq_true rfl) ?_
  refine b164_0 (k := ?_)
  exact loop (a.1 4).toNat 0 (by omega)
theorem k165 (hR : ll_R σ g a) (hwf : pa_wf0 a) (k : Φ (some (.inl (pa_outs a))) σ) : pe_M (d + 1) 165 [.inr (.inr 3)] σ Φ := by
  have h8 := hwf.1
  have hL := hR.L
  have hcnt := hR.mn
  have loop : ∀ (m i : Nat), (i : Int) + m = a.1 4 → pe_X d 165 (4, [some (.inr (.inr 3)), some (.inl (pa_sum (fun c => (a.2.1 c).1 5) i)), some (.inl (i : Int))], [], σ) Φ := by
    intro m
    induction m with
    | zero =>
      intro i hi
      refine b165_4 (w0 := by rw [hcnt]; unfold pe_in; omega) (k1 := fun _ => ?_) (k2 := fun r => by omega)
      refine b165_30 (k := ?_)
      have : pa_outs a = pa_sum (fun c => (a.2.1 c).1 5) i := by
        unfold pa_outs
        rw [show (a.1 4).toNat = i by omega]
      rw [← this]
      exact k
    | succ m ih =>
      intro i hi
      have hK := hR.K (by omega : 0 ≤ (i : Int)) (by omega)
      have e6 : pe_I σ (pe_R σ 891 i) 6 = (a.2.1 i).1 5 := (hR.co (by omega : 0 ≤ (i : Int)) (by omega)).2.1.1.2.2.2.2.2.2.1
      refine b165_4 (w0 := by rw [hcnt]; unfold pe_in; omega) (k1 := fun r => by omega) (k2 := fun _ => ?_)
      refine b165_12 (k := ?_)
      rw [e6]
      exact ih (i + 1) (by push_cast; omega)
  refine pe_M_of ck165 (Nat.le_of_ble_eq_true rfl) ?_
  refine b165_0 (k := ?_)
  exact loop (a.1 4).toNat 0 (by omega)
theorem ll_Zs_q : ∀ z, ll_Zs z → ll_Zq z := fun _ h => Or.inl h
theorem ll_7_q : ∀ z : Int, z = -7 → ll_Zq z := fun _ h => Or.inr h
theorem ll_Zs7 : ¬ ll_Zs (-7) := by unfold ll_Zs; omega
theorem ll_Zq1 : ¬ ll_Zq (-1) := by unfold ll_Zq ll_Zs; omega
theorem ll_Zq6 : ¬ ll_Zq (-6) := by unfold ll_Zq ll_Zs; omega
/-- an act: both go on alike -/
theorem k169 (hq : ll_Q T U σ g a a im h) (hI : ll_I a) (hx : 0 ≤ c ∧ c ≤ 2147483647) (h6 : a.1 6 ≤ 990) (k : ∀ σ' g' a', ll_fz ll_Zq 9700 31000 σ g σ' g' → ll_Q T U σ' g' a' a' im h → a'.1 6 ≤ a.1 6 + 4 → a'.1 4 = a.1 4 → ll_I a' → Φ (some (.inl 1)) σ') : pe_M (d + 17) 169 [.inr (.inr 3), .inl c] σ Φ := by
  have hwf := hq.W.1.1
  have hw6 : pa_w6 a := ⟨hwf, hq.W.1.2⟩
  have h8 := hwf.1.1
  have h5w := hwf.1.2.1
  have hR := hq.R
  have hL := hR.L
  have hcnt := hR.mn
  have hwid := hR.2.1.2.1
  have ht16 : 0 ≤ Int.tdiv c 16 ∧ Int.tdiv c 16 ≤ 2147483647 := by rw [Int.tdiv_eq_ediv_of_nonneg hx.1]; omega
  have ht128 : 0 ≤ Int.tdiv c 128 ∧ Int.tdiv c 128 ≤ 2147483647 := by rw [Int.tdiv_eq_ediv_of_nonneg hx.1]; omega
  have hm16 : 0 ≤ Int.tmod c 16 ∧ Int.tmod c 16 ≤ 15 := by rw [Int.tmod_eq_emod_of_nonneg hx.1]; omega
  have hv : 0 ≤ Int.tmod (Int.tdiv c 128) 1000 ∧ Int.tmod (Int.tdiv c 128) 1000 ≤ 999 := pa_tmod_b ht128.1
  have hWr : ∀ {a'}, pa_w6 a' → pg_W a' im h := fun ha => ⟨⟨ha.1, ha.2⟩, hq.W.2⟩
  -- the class's call after the law's
  have fin1 : ∀ o2 o3 o4 (τ : pe_H), ll_L τ → Φ (some (.inl 1)) τ → pe_X (d + 16) 169 (104, [some (.inr (.inr 3)), some (.inl c), o2, o3, o4], [.inl 1], τ) Φ := fun o2 o3 o4 τ hLτ hk => by
    refine b169_104 (k := ?_)
    exact hk
  have go : ∀ (cc : Int), (cc = -1 ∨ (0 ≤ cc ∧ cc < a.1 4)) → ∀ o2 o3 o4, pe_X (d + 16) 169 (20, [some (.inr (.inr 3)), some (.inl c), o2, o3, o4], [.inl cc], σ) Φ := fun cc hcc o2 o3 o4 => by
    generalize hvE : Int.tmod (Int.tdiv c 128) 1000 = v at hv
    generalize hmE : Int.tmod c 16 = mm at hm16
    -- rounds, width
    have late : ¬ (mm < 6 ∧ 0 ≤ cc) → ¬ (mm = 6 ∧ 0 ≤ cc) → ∀ o2 o4, pe_X (d + 16) 169 (181, [some (.inr (.inr 3)), some (.inl c), o2, some (.inl v), o4], [], σ) Φ := fun n1 n2 o2 o4 => by
      refine b169_181 (w1 := by rw [hmE]; unfold pe_in; omega) (k1 := fun r1 => ?_) (k2 := fun r1 => ?_)
      · have hn4 : 0 ≤ Int.tmod v 4 ∧ Int.tmod v 4 ≤ 3 := by rw [Int.tmod_eq_emod_of_nonneg hv.1]; omega
        refine b169_228 (k := ?_)
        generalize hnE : 1 + Int.tmod v 4 = nn
        have hnb : 1 ≤ nn ∧ nn ≤ 4 := by omega
        have hw6' := hq.W.1.2
        refine pe_M.up (k163 (d := 0) hR hwf (by omega) (by omega) ⟨hw6'.1, by omega⟩ (fun σ1 g1 p1 hR1 hw1 => ?_)) (by omega)
        have hq1 := hq.law p1 ll_Zs7 hR1
        have hL1 := hR1.L
        have w9 : pa_wf9 (pa_rounds nn.toNat a) := hw1.1.w9
        have hd : pa_doRounds a nn = (pa_rounds nn.toNat a, pb_c (pa_bits (pa_isEnd (pa_rounds nn.toNat a)) ((pa_rounds nn.toNat a).1 4).toNat)) := by
          unfold pa_doRounds
          rw [if_neg (by omega), if_neg (by omega)]
        refine b169_237 (k := ?_)
        rw [hnE]
        refine pe_M.up (k90 (d := 0) hq1.G hq1.W (by omega) (fun σ2 f2 hG2 => ?_)) (by omega)
        have hwr := pw_rounds (n := nn) hw6
        rw [hd] at hG2 hwr ⊢
        obtain ⟨p2, hq2⟩ := hq1.cls w9 f2 hG2 (hWr hwr)
        have hL2 := hq2.R.L
        have hb1 := pa_bits_255 (pa_isEnd (pa_rounds nn.toNat a)) (n := ((pa_rounds nn.toNat a).1 4).toNat) (by have := hw1.1.1; omega)
        refine b169_249 (k := ?_)
        refine pe_M.up (k164 (d := 0) hq2.R hw1.1 ?_) (by omega)
        refine b169_253 (k := ?_)
        refine pe_M.up (k149 (d := 0) hb1 ?_) (by omega)
        have hpc : pe_in (pb_c (pa_bits (pa_isEnd (pa_rounds nn.toNat a)) ((pa_rounds nn.toNat a).1 4).toNat)) := by
          obtain ⟨u, hu⟩ := pb_fin hb1.1 hb1.2
          obtain ⟨e1, e2⟩ := ll_bs_all u
          have := e2 ⟨16, by decide⟩
          rw [← hu, ← e1]
          unfold pe_in
          dsimp only at this
          omega
        refine b169_256 (w0 := hpc) (w1 := hpc) (k1 := fun r => absurd rfl r) (k2 := fun _ => ?_)
        refine b169_259 (k := ?_)
        refine b169_264 (k := ?_)
        refine k σ2 g1 _ (ll_fz_mono (ll_fz_trans (ll_fz_mono p1.z ll_Zs_q (x' := 2240) (y' := 8000)) (ll_fz_mono (x' := 0) (y' := 0) p2 ll_7_q)) (fun _ h => h)) hq2 (by rw [pa_rounds6 _ _ hwf]; omega) (pa_rounds4 _ _ hwf) ((ll_rounds_go _ _ hwf).I hI)
      · have hn8 : 0 ≤ Int.tmod v 8 ∧ Int.tmod v 8 ≤ 7 := by rw [Int.tmod_eq_emod_of_nonneg hv.1]; omega
        refine b169_190 (k := ?_)
        generalize hnE : 1 + Int.tmod v 8 = nn
        have hnb : 1 ≤ nn ∧ nn ≤ 8 := by omega
        obtain ⟨p1, hR1⟩ := hR.lw (j := 4) (v := nn) (a' := (pa_s a.1 5 nn, a.2)) (by omega) rfl (by simp [pa_s]) (by rw [pe_I_same]; simp [pa_s]) (by rw [pe_I_nej (by decide)]; exact hR.2.1.2.2.trans (by simp [pa_s]))
        have hq1 := hq.law p1 ll_Zs7 hR1
        have hL1 := hR1.L
        have w9 : pa_wf9 (pa_s a.1 5 nn, a.2) := ⟨by simpa [pa_s] using hwf.1.1, fun c h0 h1 => hwf.1.w9.2 c h0 (by simpa [pa_s] using h1)⟩
        have hd : pa_doWidth a nn = ((pa_s a.1 5 nn, a.2), a.1 5) := by
          unfold pa_doWidth
          rw [if_neg (by omega)]
        refine b169_206 (k := ?_)
        rw [show pe_I (pe_wI σ 3 4 nn) 3 4 = nn from pe_I_same, hwid]
        refine pe_M.up (k89 (d := 0) hq1.G hq1.W (by omega) (fun σ2 f2 hG2 => ?_)) (by omega)
        have hwr := pw_width (w := nn) hw6
        rw [hd] at hG2 hwr ⊢
        obtain ⟨p2, hq2⟩ := hq1.cls w9 f2 hG2 (hWr hwr)
        have hL2 := hq2.R.L
        refine b169_217 (k1 := fun r => absurd rfl r) (k2 := fun _ => ?_)
        refine b169_222 (k := ?_)
        refine b169_227 (k := ?_)
        refine k σ2 g _ (ll_fz_mono (ll_fz_trans (ll_fz_mono p1.z ll_Zs_q (x' := 0) (y' := 0)) (ll_fz_mono (x' := 0) (y' := 0) p2 ll_7_q)) (fun _ h => h)) hq2 ?_ ?_ ⟨fun i i0 i1 => hI.1 i i0 (by simpa [pa_s] using i1), hI.2⟩
        · simp [pa_s]; omega
        · simp [pa_s]
    have mid : ¬ (mm < 6 ∧ 0 ≤ cc) → ∀ o4, pe_X (d + 16) 169 (105, [some (.inr (.inr 3)), some (.inl c), some (.inl cc), some (.inl v), o4], [], σ) Φ := fun n1 o4 => by
      refine b169_105 (w1 := by rw [hmE]; unfold pe_in; omega) (k1 := fun r1 => ?_) (k2 := fun r1 => ?_)
      · exact late n1 (by omega) _ _
      · refine b169_114 (k1 := fun r2 => ?_) (k2 := fun r2 => ?_)
        · exact late n1 (by omega) _ _
        · have hc0 : 0 ≤ cc ∧ cc < a.1 4 := by omega
          have hK := hR.K hc0.1 hc0.2
          have es := hR.st hc0.1 hc0.2
          have hb2 := (hwf.1.2.2.1 cc hc0.1 hc0.2).1.2.1
          refine b169_118 (k1 := fun r3 => ?_) (k2 := fun r3 => ?_)
          · have hd : pa_doClose a cc = (pa_shut a cc, ((pa_shut a cc).2.1 cc).1 2) := by
              unfold pa_doClose
              rw [if_neg (by omega), if_neg (by omega)]
            obtain ⟨w1, w2⟩ := pa_shut_wf hwf hc0.1 hc0.2 (by omega)
            refine b169_150 (k := ?_)
            refine pe_M.up (k161 (d := 0) hR hwf hc0.1 hc0.2 (by omega) (fun σ1 g1 p1 hR1 => ?_)) (by omega)
            have hq1 := hq.law p1 ll_Zs7 hR1
            have hL1 := hR1.L
            refine b169_155 (k := ?_)
            refine pe_M.up (k88 (d := 0) hq1.G hq1.W (by omega) (fun σ2 f2 hG2 => ?_)) (by omega)
            have hwr := pw_close (c := cc) hw6
            rw [hd] at hG2 hwr ⊢
            obtain ⟨p2, hq2⟩ := hq1.cls w1.1.w9 f2 hG2 (hWr hwr)
            have hL2 := hq2.R.L
            have h14 : cc < (pa_shut a cc).1 4 := by rw [w2]; exact hc0.2
            have hK2 := hq2.R.K hc0.1 h14
            have es2 := hq2.R.st hc0.1 h14
            have hb3 := (w1.1.2.2.1 cc hc0.1 h14).1.2.1
            refine b169_163 (k1 := fun r => by omega) (k2 := fun _ => ?_)
            refine b169_175 (k := ?_)
            refine b169_180 (k := ?_)
            exact k σ2 g1 _ (ll_fz_mono (ll_fz_trans (ll_fz_mono p1.z ll_Zs_q (x' := 9700) (y' := 30700)) (ll_fz_mono (x' := 0) (y' := 0) p2 ll_7_q)) (fun _ h => h)) hq2 (by rw [w2]; omega) (by rw [w2]) ((ll_shut_go hwf hc0.1 hc0.2 (by omega)).I hI)
          · have hd : pa_doClose a cc = (a, -3) := by
              unfold pa_doClose
              rw [if_neg (by omega), if_pos (by omega)]
            refine b169_131 (k := ?_)
            refine pe_M.up (k88 (d := 0) hq.G hq.W (by omega) (fun σ2 f2 hG2 => ?_)) (by omega)
            rw [hd] at hG2 ⊢
            obtain ⟨p2, hq2⟩ := hq.cls hwf.1.w9 f2 hG2 hq.W
            have hL2 := hq2.R.L
            refine b169_139 (k1 := fun r => absurd rfl r) (k2 := fun _ => ?_)
            refine b169_144 (k := ?_)
            refine b169_149 (k := ?_)
            exact k σ2 g _ (ll_fz_mono p2 ll_7_q) hq2 (by omega) rfl hI
    refine b169_20 (w2 := by rw [hmE]; unfold pe_in; omega) (k1 := fun r1 => ?_) (k2 := fun r1 => ?_)
    · rw [hvE]
      exact mid (by omega) _
    · rw [hvE]
      refine b169_40 (k1 := fun r2 => ?_) (k2 := fun r2 => ?_)
      · exact mid (by omega) _
      · have hc0 : 0 ≤ cc ∧ cc < a.1 4 := by omega
        have hK := hR.K hc0.1 hc0.2
        have es := hR.st hc0.1 hc0.2
        have hb2 := (hwf.1.2.2.1 cc hc0.1 hc0.2).1.2.1
        refine b169_44 (k := ?_)
        refine pe_M.up (k159 (d := 0) hR hwf.1 hc0.1 hc0.2 (fun r3 => ?_) (fun r3 => ?_)) (by omega)
        · refine b169_49 (k1 := fun _ => ?_) (k2 := fun r => by omega)
          have hd : pa_doSend a cc v = (pa_send a cc v, ((pa_send a cc v).2.1 cc).1 2) := by
            unfold pa_doSend
            rw [if_neg (by omega), if_neg (by omega)]
          obtain ⟨w1, w2⟩ := pa_send_wf (v := v) hwf hc0.1 hc0.2 r3 hv
          refine b169_72 (k := ?_)
          refine pe_M.up (k160 (d := 0) hR hwf hc0.1 hc0.2 r3 hv (fun σ1 g1 p1 hR1 => ?_)) (by omega)
          have hq1 := hq.law p1 ll_Zs7 hR1
          have hL1 := hR1.L
          refine b169_78 (k := ?_)
          refine pe_M.up (k87 (d := 0) hq1.G hq1.W (by omega) (by omega) (fun σ2 f2 hG2 => ?_)) (by omega)
          have hwr := pw_send (c := cc) (v := v) hw6
          rw [hd] at hG2 hwr ⊢
          obtain ⟨p2, hq2⟩ := hq1.cls w1.1.w9 f2 hG2 (hWr hwr)
          have hL2 := hq2.R.L
          have h14 : cc < (pa_send a cc v).1 4 := by rw [w2]; exact hc0.2
          have hK2 := hq2.R.K hc0.1 h14
          have es2 := hq2.R.st hc0.1 h14
          have hb3 := (w1.1.2.2.1 cc hc0.1 h14).1.2.1
          refine b169_87 (k1 := fun r => by omega) (k2 := fun _ => ?_)
          refine b169_99 (k := ?_)
          refine b169_104 (k := ?_)
          exact k σ2 g1 _ (ll_fz_mono (ll_fz_trans (ll_fz_mono p1.z ll_Zs_q (x' := 2440) (y' := 7760)) (ll_fz_mono (x' := 0) (y' := 0) p2 ll_7_q)) (fun _ h => h)) hq2 (by rw [w2]; omega) (by rw [w2]) ((ll_send_go hwf hc0.1 hc0.2 r3 hv).I hI)
        · refine b169_49 (k1 := fun r => absurd rfl r) (k2 := fun _ => ?_)
          have hd : pa_doSend a cc v = (a, -3) := by
            unfold pa_doSend
            rw [if_neg (by omega), if_pos (by omega)]
          refine b169_52 (k := ?_)
          refine pe_M.up (k87 (d := 0) hq.G hq.W (by omega) (by omega) (fun σ2 f2 hG2 => ?_)) (by omega)
          rw [hd] at hG2 ⊢
          obtain ⟨p2, hq2⟩ := hq.cls hwf.1.w9 f2 hG2 hq.W
          have hL2 := hq2.R.L
          refine b169_61 (k1 := fun r => absurd rfl r) (k2 := fun _ => ?_)
          refine b169_66 (k := ?_)
          refine b169_71 (k := ?_)
          exact k σ2 g _ (ll_fz_mono p2 ll_7_q) hq2 (by omega) rfl hI
  refine pe_M_of ck169 (Nat.le_of_ble_eq_true rfl) ?_
  refine b169_0 (w0 := by rw [hcnt]; unfold pe_in; omega) (k1 := fun r1 => ?_) (k2 := fun r1 => ?_)
  · refine b169_11 (w1 := by rw [hcnt]; unfold pe_in; omega) (k := ?_)
    refine go _ (Or.inr ?_) _ _ _
    rw [Int.tmod_eq_emod_of_nonneg ht16.1, hcnt]
    exact ⟨Int.emod_nonneg _ (by omega), Int.emod_lt_of_pos _ (by omega)⟩
  · refine b169_7 (k := ?_)
    exact go (-1) (Or.inl rfl) _ _ _
end
