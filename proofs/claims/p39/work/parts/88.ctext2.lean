/-! THE CLASS: what a text does -/
def T246 : List (Nat × Instr × Nat) := [(0, .iload_n 1, 1), (1, .aload_n 0, 1), (2, .arraylength, 1), (3, .if_icmp .ne 11, 3), (6, .aload_n 0, 1), (7, .invokevirtual 316, 3), (10, .checkcast 317, 3), (13, .areturn, 1), (14, .iload_n 1, 1), (15, .newarray .int, 2), (17, .astore_n 2, 1), (18, .aload_n 0, 1), (19, .iconst 0, 1), (20, .aload_n 2, 1), (21, .iconst 0, 1), (22, .aload_n 0, 1), (23, .arraylength, 1), (24, .iload_n 1, 1), (25, .invokestatic 304, 3), (28, .invokestatic 150, 3), (31, .aload_n 2, 1), (32, .areturn, 1)]
theorem ck246 : pe_ctx 246 13 false (some (.array .int)) 3 T246 := ⟨rfl, rfl, rfl, rfl, by decide +kernel, by decide, by decide⟩
theorem pt_fs_app (p q : pa_P) : pt_fs (p ++ q) = pt_fs p + pt_fs q := by
  induction p with
  | nil => simp [pt_fs]
  | cons x p ih =>
    rw [List.cons_append]
    show (if x.1 = 102 then 1 else 0) + pt_fs (p ++ q) = ((if x.1 = 102 then 1 else 0) + pt_fs p) + pt_fs q
    rw [ih]
    omega
theorem pa_ff_app : ∀ (p : pa_P) (q : Int × Int) (o : Int), 0 ≤ o → (pa_ff p o < 0 ↔ pt_fs p = 0) ∧ (pt_fs p = 0 → pa_ff (p ++ [q]) o = if q.1 = 102 then o + p.length else -1) ∧ (pt_fs p ≠ 0 → pa_ff (p ++ [q]) o = pa_ff p o) ∧ pa_ff p o < o + p.length + 1 ∧ -1 ≤ pa_ff p o
  | [], q, o, h => by
    refine ⟨by simp [pa_ff, pt_fs], fun _ => ?_, fun w => absurd rfl w, by simp [pa_ff]; omega, by simp [pa_ff]⟩
    simp [pa_ff]
  | x :: p, q, o, h => by
    obtain ⟨a1, a2, a3, a4, a5⟩ := pa_ff_app p q (o + 1) (by omega)
    have hb := pt_fs_b p
    rw [List.cons_append]
    unfold pa_ff pt_fs
    rw [List.length_cons]
    by_cases e : x.1 = 102
    · rw [if_pos e, if_pos e, if_pos e]
      refine ⟨by omega, fun w => by omega, fun _ => rfl, by push_cast; omega, by omega⟩
    · rw [if_neg e, if_neg e, if_neg e]
      rw [Int.zero_add]
      refine ⟨a1, fun w => ?_, a3, by push_cast; omega, a5⟩
      rw [a2 w]
      push_cast
      split <;> omega
theorem pa_at_app_lt {p q : pa_P} {i : Int} (h0 : 0 ≤ i) (h : i < (p.length : Int)) : pa_at (p ++ q) i = pa_at p i := by
  unfold pa_at
  rw [List.getD_eq_getElem?_getD, List.getD_eq_getElem?_getD, List.getElem?_append_left (by omega)]
theorem pa_at_app_eq {p : pa_P} {x : Int × Int} : pa_at (p ++ [x]) (p.length : Int) = x := by
  unfold pa_at
  rw [List.getD_eq_getElem?_getD, Int.toNat_natCast, List.getElem?_append_right (Nat.le_refl _), Nat.sub_self]
  rfl
section
variable {d C B P X Q : Nat} {Φ : Option pe_V → pe_H → Prop} {T T' U U' : Nat → Prop} {σ σ' τ σ1 σ2 : pe_H} {c i x D n p z j k0 : Int} {l : List Int} {a b s t : pa_M} {im : Option pa_M} {h : Int → pa_Sh}
/-- Arrays.copyOf -/
theorem k246 {m : Nat} (hK : pe_K σ Q = 10) (hL : pe_L σ Q = 16) (hQ : 2 ≤ Q) (hQn : Q < σ.1) (hm : m ≤ 16) (k : ∀ σ2, σ2.1 = σ.1 + 1 → σ2.2.1 = σ.2.1 + m → (∀ y, y < σ.1 → pg_same σ σ2 y) → pe_K σ2 σ.1 = 10 → pe_L σ2 σ.1 = m → (∀ i : Nat, i < m → pe_I σ2 σ.1 i = pe_I σ Q i) → Φ (some (.inr (.inr σ.1))) σ2) : pe_M (d + 1) 246 [.inr (.inr Q), .inl (m : Int)] σ Φ := by
  refine pe_M_of ck246 (Nat.le_of_ble_eq_true rfl) ?_
  have w : pe_w (m : Int) = m := pe_wi (by unfold pe_in; omega)
  have wL : pe_w (pe_L σ Q) = 16 := by rw [hL]; exact pe_wi (by unfold pe_in; omega)
  refine pe_blk 0 4 ck246 [10 ≤ pe_K σ Q ∧ pe_K σ Q < 19] (cond (decide (¬ pe_w (m : Int) = pe_w (pe_L σ Q))) 14 6, [some (.inr (.inr Q)), some (.inl (m : Int)), none], [], σ) rfl ⟨by omega, by omega⟩ ?_
  refine pe_two' (fun q => ?_) (fun q => ?_)
  · rw [w, wL] at q
    have wn : pe_n σ = σ.1 := rfl
    have w0 : pe_w 0 = 0 := by decide
    have wL2 : pe_w (pe_L (pe_new σ 10 (pe_w (m : Int)) (pe_w (m : Int)).toNat) Q) = 16 := by
      have : pe_L (pe_new σ 10 (pe_w (m : Int)) (pe_w (m : Int)).toNat) Q = pe_L σ Q := if_neg (by omega)
      rw [this]; exact wL
    have wmin : pe_w (if pe_w (m : Int) < pe_w (pe_L (pe_new σ 10 (pe_w (m : Int)) (pe_w (m : Int)).toNat) Q) then (m : Int) else pe_L (pe_new σ 10 (pe_w (m : Int)) (pe_w (m : Int)).toNat) Q) = m := by
      rw [wL2, w, if_pos (by omega), w]
    refine pe_blk 8 12 ck246 [0 ≤ pe_w (m : Int), pe_w (m : Int) ≤ 10000, 10 ≤ pe_K (pe_new σ 10 (pe_w (m : Int)) (pe_w (m : Int)).toNat) Q ∧ pe_K (pe_new σ 10 (pe_w (m : Int)) (pe_w (m : Int)).toNat) Q < 19, pe_K (pe_new σ 10 (pe_w (m : Int)) (pe_w (m : Int)).toNat) Q = 10, pe_K (pe_new σ 10 (pe_w (m : Int)) (pe_w (m : Int)).toNat) (pe_n σ) = 10, 2 ≤ pe_n σ, 0 ≤ pe_w 0, 0 ≤ pe_w 0, 0 ≤ pe_w (if pe_w (m : Int) < pe_w (pe_L (pe_new σ 10 (pe_w (m : Int)) (pe_w (m : Int)).toNat) Q) then (m : Int) else pe_L (pe_new σ 10 (pe_w (m : Int)) (pe_w (m : Int)).toNat) Q), pe_w 0 + pe_w (if pe_w (m : Int) < pe_w (pe_L (pe_new σ 10 (pe_w (m : Int)) (pe_w (m : Int)).toNat) Q) then (m : Int) else pe_L (pe_new σ 10 (pe_w (m : Int)) (pe_w (m : Int)).toNat) Q) ≤ pe_L (pe_new σ 10 (pe_w (m : Int)) (pe_w (m : Int)).toNat) Q, pe_w 0 + pe_w (if pe_w (m : Int) < pe_w (pe_L (pe_new σ 10 (pe_w (m : Int)) (pe_w (m : Int)).toNat) Q) then (m : Int) else pe_L (pe_new σ 10 (pe_w (m : Int)) (pe_w (m : Int)).toNat) Q) ≤ pe_L (pe_new σ 10 (pe_w (m : Int)) (pe_w (m : Int)).toNat) (pe_n σ)] (31, [some (.inr (.inr Q)), some (.inl (m : Int)), some (.inr (.inr (pe_n σ)))], [], pe_cpy (pe_new σ 10 (pe_w (m : Int)) (pe_w (m : Int)).toNat) Q (pe_w 0) (pe_n σ) (pe_w 0) (pe_w (if pe_w (m : Int) < pe_w (pe_L (pe_new σ 10 (pe_w (m : Int)) (pe_w (m : Int)).toNat) Q) then (m : Int) else pe_L (pe_new σ 10 (pe_w (m : Int)) (pe_w (m : Int)).toNat) Q))) rfl ?_ ?_
    · rw [wmin, w0, w]
      have kQ : pe_K (pe_new σ 10 (m : Int) (m : Int).toNat) Q = 10 := (if_neg (by omega)).trans hK
      have kN : pe_K (pe_new σ 10 (m : Int) (m : Int).toNat) (pe_n σ) = 10 := if_pos rfl
      have lQ : pe_L (pe_new σ 10 (m : Int) (m : Int).toNat) Q = 16 := (if_neg (by omega)).trans hL
      have lN : pe_L (pe_new σ 10 (m : Int) (m : Int).toNat) (pe_n σ) = m := if_pos rfl
      have g2 : 2 ≤ σ.1 := by omega
      have g3 : (0 : Int) + (m : Int) ≤ pe_L (pe_new σ 10 (m : Int) (m : Int).toNat) Q := by rw [lQ]; omega
      have g4 : (0 : Int) + (m : Int) ≤ pe_L (pe_new σ 10 (m : Int) (m : Int).toNat) (pe_n σ) := by rw [lN]; omega
      have g5 : (m : Int) ≤ 10000 := by omega
      exact ⟨Int.natCast_nonneg _, g5, ⟨by rw [kQ]; decide, by rw [kQ]; decide⟩, kQ, kN, g2, Int.le_refl _, Int.le_refl _, Int.natCast_nonneg _, g3, g4⟩
    · rw [wmin, w0, w]
      refine pe_blk 20 1 ck246 [] (32, [some (.inr (.inr Q)), some (.inl (m : Int)), some (.inr (.inr (pe_n σ)))], [.inr (.inr (pe_n σ))], pe_cpy (pe_new σ 10 (m : Int) (m : Int).toNat) Q 0 (pe_n σ) 0 (m : Int)) rfl trivial ?_
      refine pe_fine 21 ck246 rfl rfl rfl trivial ?_
      refine k _ rfl (by show σ.2.1 + (m : Int).toNat = _; omega) (fun y hy => (pg_same_new hy).trans ⟨rfl, rfl, fun y2 => ⟨if_neg (fun q => by have := q.1; omega), rfl⟩⟩) (if_pos rfl) (if_pos rfl) (fun i hi => ?_)
      show (if σ.1 = pe_n σ ∧ 0 ≤ (i : Int) ∧ (i : Int) < 0 + (m : Int) then (if Q = σ.1 then 0 else pe_I σ Q (0 + ((i : Int) - 0))) else _) = _
      rw [if_pos ⟨rfl, by omega, by omega⟩, if_neg (by omega)]
      simp
  · rw [w, wL] at q
    have em : m = 16 := by omega
    refine pe_blk 4 3 ck246 [pe_K σ Q = 10, 2 ≤ Q, pe_K (pe_cpy (pe_new σ 10 (pe_L σ Q) (pe_L σ Q).toNat) Q 0 (pe_n σ) 0 (pe_L σ Q)) (pe_n σ) = 10, 2 ≤ pe_n σ] (13, [some (.inr (.inr Q)), some (.inl (m : Int)), none], [.inr (.inr (pe_n σ))], pe_cpy (pe_new σ 10 (pe_L σ Q) (pe_L σ Q).toNat) Q 0 (pe_n σ) 0 (pe_L σ Q)) rfl ⟨hK, hQ, if_pos rfl, by show 2 ≤ σ.1; omega⟩ ?_
    refine pe_fine 7 ck246 rfl rfl rfl trivial ?_
    rw [hL]
    refine k _ rfl (by show σ.2.1 + (16 : Int).toNat = _; omega) (fun y hy => (pg_same_new hy).trans ⟨rfl, rfl, fun y2 => ⟨if_neg (fun q => by have := q.1; have : pe_n σ = σ.1 := rfl; omega), rfl⟩⟩) (if_pos rfl) ((if_pos rfl).trans (by omega)) (fun i hi => ?_)
    show (if σ.1 = pe_n σ ∧ 0 ≤ (i : Int) ∧ (i : Int) < 0 + (16 : Int) then (if Q = σ.1 then 0 else pe_I σ Q (0 + ((i : Int) - 0))) else _) = _
    rw [if_pos ⟨rfl, by omega, by omega⟩, if_neg (by omega)]
    simp
/-- a program told: none, or a new one -/
theorem k76 (hX : pg_Tx σ X P Q l) (hl : pg_By l) (hj : 0 ≤ k0 ∧ k0 ≤ 100) (hXn : X < σ.1 ∧ P < σ.1 ∧ Q < σ.1 ∧ pe_R σ P 1 < σ.1) (hXQ : X ≠ Q ∧ P ≠ Q ∧ pe_R σ P 1 ≠ Q) (hg : 0 ≤ pt_pend l 101 (k0 + 2))
    (k0' : ∀ σ2, σ2.1 = σ.1 → σ2.2.1 = σ.2.1 → (∀ y, y ≠ Q → pg_same σ σ2 y) → pg_Tx σ2 X P Q l → ¬ ((pt_steps l 101 (k0 + 2)).length ≤ 16 ∧ pt_fs (pt_steps l 101 (k0 + 2)) ≤ 1) → Φ (some (.inr (.inr 0))) σ2)
    (k1 : ∀ σ2, σ2.1 = σ.1 + 2 → (σ.2.1 ≤ σ2.2.1 ∧ σ2.2.1 ≤ σ.2.1 + 18) → (∀ y, y < σ.1 → y ≠ Q → pg_same σ σ2 y) → pg_Tx σ2 X P Q l → (pt_steps l 101 (k0 + 2)).length ≤ 16 → pt_fs (pt_steps l 101 (k0 + 2)) ≤ 1 → (∀ T' : Nat → Prop, T' σ.1 → T' (σ.1 + 1) → pk_RPr T' σ2 σ.1 (pt_steps l 101 (k0 + 2))) → Φ (some (.inr (.inr σ.1))) σ2) : pe_M (d + 4) 76 [.inr (.inr X), .inl (k0 + 2)] σ Φ := by
  have hlen := hl.1
  obtain ⟨g, hgs⟩ : ∃ g, g = pt_steps l 101 (k0 + 2) := ⟨_, rfl⟩
  rw [← hgs] at k0' k1
  have same_Tx : ∀ {σ2}, (∀ y, y ≠ Q → pg_same σ σ2 y) → pe_K σ2 Q = 10 → pe_L σ2 Q = 16 → pg_Tx σ2 X P Q l := fun hs hK hL => by
    obtain ⟨⟨a1, a2, a3⟩, ⟨b1, b2, b3⟩, hR⟩ := hX
    have sX := hs X hXQ.1
    exact ⟨⟨by rw [sX.1]; exact a1, by rw [(sX.2.2 0).2]; exact a2, by rw [(sX.2.2 1).2]; exact a3⟩, ⟨hK, hL, b3⟩, pg_Rw_sm (hs P hXQ.2.1) (hs _ hXQ.2.2) hR⟩
  have loop : ∀ (f : Nat) (i : Int) (pre : pa_P) (o1 o5 : Option pe_V) (σ1 : pe_H), 2 ≤ i → 103 ≤ i + f → i ≤ 205 → 0 ≤ pt_pend l f i → g = pre ++ pt_steps l f i → pre.length ≤ 16 → pt_fs pre ≤ 1 → σ1.1 = σ.1 → σ1.2.1 = σ.2.1 → (∀ y, y ≠ Q → pg_same σ σ1 y) → pe_K σ1 Q = 10 → pe_L σ1 Q = 16 → (∀ y : Int, 0 ≤ y → y < (pre.length : Int) → pe_I σ1 Q y = 10 * (pa_at pre y).1 + (pa_at pre y).2) → pe_X (d + 3) 76 (7, [some (.inr (.inr X)), o1, some (.inl (pre.length : Int)), some (.inl (pa_fin pre)), some (.inl i), o5], [], σ1) Φ := by
    intro f
    induction f with
    | zero =>
      intro i pre o1 o5 σ1 hi0 hf hi hp
      unfold pt_pend at hp
      omega
    | succ f ih =>
      intro i pre o1 o5 σ1 hi0 hf hi hp hgp hpl hpf n1 u1 s1 kQ lQ hI
      have hX1 := same_Tx s1 kQ lQ
      have hK := hX1.1.1
      have hK0 := hX1.K0
      have hat := pt_at_r hl.2 i
      have hat1 := pt_at_r hl.2 (i + 1)
      have hfb := pt_fs_b pre
      have hff := pa_ff_app pre (102, 0) 0 (by decide)
      have hfin : pa_fin pre = pa_ff pre 0 := rfl
      have hr1 : pe_R σ1 X 1 = Q := hX1.1.2.2
      -- the end
      have fin : ∀ o5, pt_at l i = 59 → pe_X (d + 3) 76 (129, [some (.inr (.inr X)), o1, some (.inl (pre.length : Int)), some (.inl (pa_fin pre)), some (.inl i), o5], [], σ1) Φ := fun o5 e59 => by
        have eg : g = pre := by
          rw [hgp]
          unfold pt_steps
          rw [e59, if_neg (by decide), if_neg (by unfold pt_ns; decide), List.append_nil]
        have kX : pe_K (pe_new σ1 4 0 2) X = 7 := (if_neg (by omega)).trans hK
        have sn : ∀ y, y < σ1.1 → pg_same σ1 (pe_new σ1 4 0 2) y := fun y hy => pg_same_new hy
        have eQ : pe_R (pe_new σ1 4 0 2) X 1 = Q := ((sn X (by omega)).2.2 1).2.trans hr1
        refine b76_129 (h0 := kX) (k := ?_)
        rw [eQ]
        have hQ2 := hX1.2.1.2.2
        have nn : (pe_new σ1 4 0 2).1 = σ.1 + 1 := by show σ1.1 + 1 = _; omega
        have np : pe_n σ1 = σ.1 := n1
        refine k246 (d := d + 2) (Q := Q) (m := pre.length) ((sn Q (by omega)).1.trans kQ) ((sn Q (by omega)).2.1.trans lQ) hQ2 (by omega) hpl (fun σ2 n2 u2 s2 k2 l2 i2 => ?_)
        rw [nn] at n2 s2 k2 l2 i2 ⊢
        rw [np]
        have hk4 : pe_K σ2 σ.1 = 4 := (s2 σ.1 (by omega)).1.trans (if_pos (by omega))
        refine b76_141 (h0 := by omega) (k := ?_)
        refine pe_M.up (d := 1) (pe_M_of (d := 0) ck48 (Nat.le_of_ble_eq_true rfl) ?_) (by omega)
        refine b48_0 (h0 := by omega) (h1 := hk4) (k := ?_)
        refine b76_145 (k := ?_)
        have s3 : ∀ y, y < σ.1 → y ≠ Q → pg_same σ (pe_wI (pe_wR σ2 σ.1 0 (σ.1 + 1)) σ.1 1 (pa_fin pre)) y := fun y hy hyQ => ((((s1 y hyQ).trans (sn y (by omega))).trans (s2 y (by omega))).trans (pg_same_wR (by omega))).trans (pg_same_wI (by omega))
        have hTx : pg_Tx (pe_wI (pe_wR σ2 σ.1 0 (σ.1 + 1)) σ.1 1 (pa_fin pre)) X P Q l := by
          obtain ⟨⟨a1, a2, a3⟩, ⟨b1, b2, b3⟩, hR⟩ := hX
          have sX := s3 X (by omega) hXQ.1
          exact ⟨⟨by rw [sX.1]; exact a1, by rw [(sX.2.2 0).2]; exact a2, by rw [(sX.2.2 1).2]; exact a3⟩, ⟨by show pe_K σ2 Q = 10; rw [(s2 Q (by omega)).1]; exact (sn Q (by omega)).1.trans kQ, by show pe_L σ2 Q = 16; rw [(s2 Q (by omega)).2.1]; exact (sn Q (by omega)).2.1.trans lQ, b3⟩, pg_Rw_sm (s3 P (by omega) hXQ.2.1) (s3 _ (by omega) hXQ.2.2) hR⟩
        refine k1 _ (by show σ2.1 = _; omega) (by show _ ≤ σ2.2.1 ∧ σ2.2.1 ≤ _; have : (pe_new σ1 4 0 2).2.1 = σ1.2.1 + 2 := rfl; omega) s3 hTx (by rw [eg]; exact hpl) (by rw [eg]; exact hpf) (fun T' t1 t2 => ?_)
        have e0 : pe_R (pe_wI (pe_wR σ2 σ.1 0 (σ.1 + 1)) σ.1 1 (pa_fin pre)) σ.1 0 = σ.1 + 1 := pe_R_same
        unfold pk_RPr
        rw [e0, eg]
        refine ⟨⟨t1, t2⟩, hk4, pe_I_same, k2, l2, fun y y0 y1 => ?_⟩
        rw [pe_I_ner (by omega), pe_I_wR]
        have := i2 y.toNat (by omega)
        rw [show ((y.toNat : Nat) : Int) = y by omega] at this
        rw [this, ((sn Q (by omega)).2.2 y).1]
        exact hI y y0 y1
      -- none
      have none : ∀ o0 o1 o2 o3 o4 o5, ¬ (g.length ≤ 16 ∧ pt_fs g ≤ 1) → pe_X (d + 3) 76 (69, [o0, o1, o2, o3, o4, o5], [], σ1) Φ := fun o0 o1 o2 o3 o4 o5 q => by
        refine b76_69 (k := ?_)
        exact k0' σ1 n1 u1 s1 hX1 q
      refine b76_7 (k := ?_)
      rw [hX1.1.2.1]
      refine pe_M.up (k57 (d := 0) hX1.2.2 ?_) (by omega)
      have hin : ¬ pt_at l i = 0 → i < (l.length : Int) := fun q => by
        have := pt_at_in q
        omega
      unfold pt_pend at hp
      by_cases e59 : pt_at l i = 59
      · have hi1 := hin (by omega)
        refine b76_16 (k1 := fun r => by omega) (k2 := fun _ => ?_)
        refine b76_19 (k := ?_)
        refine pe_M.up (hX1.at (d := 0) hl (by omega) ?_) (by omega)
        refine b76_28 (k1 := fun _ => ?_) (k2 := fun r => by omega)
        exact fin _ e59
      · rw [if_neg e59] at hp
        unfold pt_steps at hgp
        by_cases e102 : pt_at l i = 102
        · rw [if_pos e102] at hp hgp
          have hi1 := hin (by omega)
          refine b76_16 (k1 := fun r => by omega) (k2 := fun _ => ?_)
          refine b76_19 (k := ?_)
          refine pe_M.up (hX1.at (d := 0) hl (by omega) ?_) (by omega)
          refine b76_28 (k1 := fun r => by omega) (k2 := fun _ => ?_)
          refine b76_33 (k := ?_)
          refine pe_M.up (hX1.at (d := 0) hl (by omega) ?_) (by omega)
          refine b76_42 (k1 := fun r => by omega) (k2 := fun _ => ?_)
          refine b76_47 (k := ?_)
          have hg17 : g.length = pre.length + ((pt_steps l f (i + 1)).length + 1) := by rw [hgp]; simp
          have hgf : pt_fs g = pt_fs pre + (1 + pt_fs (pt_steps l f (i + 1))) := by rw [hgp, pt_fs_app]; rfl
          have hrb := pt_fs_b (pt_steps l f (i + 1))
          refine b76_52 (k1 := fun r1 => ?_) (k2 := fun r1 => ?_)
          · exact none _ _ _ _ _ _ (by omega)
          · refine b76_60 (k1 := fun r => by omega) (k2 := fun _ => ?_)
            refine b76_65 (k1 := fun r2 => ?_) (k2 := fun r2 => ?_)
            · refine b76_71 (k1 := fun r => by omega) (k2 := fun _ => ?_)
              have hp0 : pt_fs pre = 0 := hff.1.mp (by omega)
              refine b76_76 (h0 := hK) (h1 := by rw [hr1]; exact kQ) (h2 := by omega) (h3 := by rw [hr1, lQ]; omega) (h4 := by rw [hr1]; exact hX1.2.1.2.2) (k := ?_)
              rw [hr1]
              refine b76_120 (k := ?_)
              have ef : pa_fin (pre ++ [(102, 0)]) = (pre.length : Int) := by
                show pa_ff (pre ++ [(102, 0)]) 0 = _
                rw [hff.2.1 hp0, if_pos rfl]; omega
              have := ih (i + 1) (pre ++ [(102, 0)]) (pe_nl o1) (some (.inl 1)) (pe_wI σ1 Q (pre.length : Int) 1020) (by omega) (by omega) (by omega) hp (by rw [hgp]; simp) (by simp; omega) (by rw [pt_fs_app, hp0]; decide) n1 u1 (fun y hy => (s1 y hy).trans (pg_same_wI hy)) kQ lQ (fun y y0 y1 => by
                rw [List.length_append] at y1
                by_cases e : y = (pre.length : Int)
                · rw [e, pe_I_same, pa_at_app_eq]; rfl
                · rw [pe_I_nej e, pa_at_app_lt y0 (by simp at y1; omega)]
                  exact hI y y0 (by simp at y1; omega))
              rw [ef, List.length_append] at this
              push_cast at this
              exact this
            · have hp1 : pt_fs pre ≠ 0 := fun q => by have := hff.1.mpr q; omega
              exact none _ _ _ _ _ _ (by omega)
        · rw [if_neg e102] at hp hgp
          by_cases ens : pt_ns (pt_at l i)
          · rw [if_pos ens] at hp hgp
            have hi1 := hin (by unfold pt_ns at ens; omega)
            by_cases edg : pt_dg l (i + 1)
            · rw [if_pos edg] at hp
              refine b76_16 (k1 := fun r => by omega) (k2 := fun _ => ?_)
              refine b76_19 (k := ?_)
              refine pe_M.up (hX1.at (d := 0) hl (by omega) ?_) (by omega)
              refine b76_28 (k1 := fun r => by omega) (k2 := fun _ => ?_)
              refine b76_33 (k := ?_)
              refine pe_M.up (hX1.at (d := 0) hl (by omega) ?_) (by omega)
              refine b76_42 (k1 := fun _ => ?_) (k2 := fun r => by omega)
              refine b76_51 (k := ?_)
              have hg17 : g.length = pre.length + ((pt_steps l f (i + 2)).length + 1) := by rw [hgp]; simp
              have hffx := pa_ff_app pre (pt_at l i, pt_d l (i + 1)) 0 (by decide)
              refine b76_52 (k1 := fun r1 => ?_) (k2 := fun r1 => ?_)
              · exact none _ _ _ _ _ _ (by omega)
              · refine b76_60 (k1 := fun _ => ?_) (k2 := fun r => by omega)
                refine b76_71 (k1 := fun _ => ?_) (k2 := fun r => by omega)
                refine b76_90 (k := ?_)
                refine pe_M.up (hX1.at (d := 0) hl (by omega) ?_) (by omega)
                rw [hr1]
                refine b76_104 (k := ?_)
                refine pe_M.up (k72 (d := 0) hX1 hl (by omega) ?_) (by omega)
                refine b76_115 (h0 := kQ) (h1 := by omega) (h2 := by rw [lQ]; omega) (h3 := hX1.2.1.2.2) (k := ?_)
                refine b76_120 (k := ?_)
                have ef : pa_fin (pre ++ [(pt_at l i, pt_d l (i + 1))]) = pa_fin pre := by
                  show pa_ff (pre ++ [(pt_at l i, pt_d l (i + 1))]) 0 = pa_ff pre 0
                  by_cases q : pt_fs pre = 0
                  · rw [hffx.2.1 q, if_neg e102]
                    have := hffx.1.mpr q
                    have := hffx.2.2.2.2
                    omega
                  · exact hffx.2.2.1 q
                have hf1 : pt_fs [(pt_at l i, pt_d l (i + 1))] = 0 := by simp [pt_fs, e102]
                have := ih (i + 2) (pre ++ [(pt_at l i, pt_d l (i + 1))]) (pe_nl o1) (some (.inl 0)) (pe_wI σ1 Q (pre.length : Int) (pt_at l i * 10 + pt_d l (i + 1))) (by omega) (by omega) (by omega) hp (by rw [hgp]; simp) (by simp; omega) (by rw [pt_fs_app]; omega) n1 u1 (fun y hy => (s1 y hy).trans (pg_same_wI hy)) kQ lQ (fun y y0 y1 => by
                  rw [List.length_append] at y1
                  by_cases e : y = (pre.length : Int)
                  · rw [e, pe_I_same, pa_at_app_eq]; omega
                  · rw [pe_I_nej e, pa_at_app_lt y0 (by simp at y1; omega)]
                    exact hI y y0 (by simp at y1; omega))
                rw [ef, List.length_append, show i + 2 = i + 1 + 1 by omega] at this
                push_cast at this
                exact this
            · rw [if_neg edg] at hp
              omega
          · rw [if_neg ens] at hp
            omega
  refine pe_M_of ck76 (Nat.le_of_ble_eq_true rfl) ?_
  refine b76_0 (k := ?_)
  exact loop 101 (k0 + 2) [] _ _ σ (by omega) (by omega) (by omega) hg (by rw [hgs]; rfl) (by decide) (by decide) rfl rfl (fun y _ => pg_same.refl _ _) hX.2.1.1 hX.2.1.2.1 (fun y y0 y1 => by simp at y1; omega)
end

