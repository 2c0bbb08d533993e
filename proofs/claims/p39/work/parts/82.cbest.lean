/-! THE CLASS: closeBest, sendBest, firstOut, two -/
theorem pa_bits_one {c : Int} (c0 : 0 ≤ c) : ∀ m : Nat, pa_bits (fun o => decide (o = c)) m = if c < (m : Int) then (2 : Int) ^ c.toNat else 0
  | 0 => by rw [if_neg (by push_cast; omega)]; rfl
  | m + 1 => by
    unfold pa_bits
    rw [pa_bits_one c0 m]
    push_cast
    by_cases e : (m : Int) = c
    · rw [decide_eq_true e, if_pos rfl, if_neg (by omega), if_pos (by omega), show c.toNat = m by omega]
      omega
    · rw [decide_eq_false e]
      rw [if_neg (by simp : ¬ false = true), Int.add_zero]
      by_cases q : c < (m : Int)
      · rw [if_pos q, if_pos (by omega)]
      · rw [if_neg q, if_neg (by omega)]
theorem pa_cnt_ext {p q : Int → Bool} : ∀ n : Nat, (∀ i : Nat, i < n → p i = q i) → pa_cnt p n = pa_cnt q n
  | 0, _ => rfl
  | n + 1, h => by
    unfold pa_cnt
    rw [pa_cnt_ext n (fun i hi => h i (by omega)), h n (by omega)]
/-- how many are done but for c -/
theorem pa_don_bits {s : pa_M} {c : Int} (hs : pa_wf0 s) (c0 : 0 ≤ c) (c1 : c < s.1 4) : pb_c (pe_and (pa_bits (pa_isDone s) (s.1 4).toNat) (pe_xor (pe_shl 1 c) (-1))) = pa_don s c := by
  have h8 := hs.1
  have e : pe_shl 1 c = pa_bits (fun o => decide (o = c)) (s.1 4).toNat := by
    rw [pa_bits_one c0, if_pos (by omega)]
    have := pb_shl (c := c.toNat) (by omega)
    rw [show ((c.toNat : Nat) : Int) = c by omega] at this
    exact this
  rw [e, pb_lss _ _ (by omega), pb_c_bits _ _ (by omega)]
  exact pa_cnt_ext _ (fun i hi => Bool.and_comm _ _)
section
variable {d C B P : Nat} {Φ : Option pe_V → pe_H → Prop} {T U : Nat → Prop} {σ σ' σ1 σ2 : pe_H} {c i x D n : Int} {l : List Int} {a s s' : pa_M} {im : Option pa_M} {h : Int → pa_Sh}
theorem pa_done_eq {a2 r : pa_M} (h2 : a2.2 = r.2) (h1 : a2.1 4 = r.1 4) : pa_bits (pa_isDone a2) (a2.1 4).toNat = pa_bits (pa_isDone r) (r.1 4).toNat := by
  rw [h1]
  exact pa_bits_ext _ (fun i hi => by unfold pa_isDone; rw [h2])
/-- sendBest -/
theorem k96 (hG : pg_G C T U σ a im h) (hw : pg_W a im h) (hc : -2147483648 ≤ c ∧ c < 2147483648) (hx : -2147483648 ≤ x ∧ x < 2147483648) (k : ∀ σ2, pk_fr (pg_X C) σ σ2 → pg_G C T U σ2 a im h → Φ (some (.inl (pa_aSendBest a c x))) σ2) : pe_M (d + 15) 96 [.inr (.inr C), .inl c, .inl x] σ Φ := by
  have hF := hG.F
  have h8 := hw.1.1.1.1
  unfold pa_aSendBest at k
  have hno : ¬ ((0 ≤ c ∧ c < a.1 4) ∧ 0 ≤ x ∧ x ≤ 1) → Φ (some (.inl (-1))) σ := fun q => by
    rw [if_pos q] at k
    exact k σ (pk_fr_refl _ _) hG
  refine pe_M_of ck96 (Nat.le_of_ble_eq_true rfl) ?_
  refine b96_0 (k := ?_)
  refine pe_M.up (k117 (d := 0) hF hG.M hw.1.1.1 hc (fun rc => ?_) (fun r => ?_)) (by omega)
  · refine b96_5 (k1 := fun r => by omega) (k2 := fun _ => ?_)
    have h1 : c < 8 := by omega
    refine b96_8 (k1 := fun r1 => ?_) (k2 := fun r1 => ?_)
    · refine b96_17 (k := ?_)
      exact hno (by omega)
    · refine b96_12 (k1 := fun r2 => ?_) (k2 := fun r2 => ?_)
      · rw [if_neg (by omega)] at k
        have ho : pk_Fo (pk_c (C + 1) c) σ := pk_mO (pk_sM0 hF) rc.1 h1
        have i2 := (hG.M.i rc.1 rc.2).2.1
        have hb := (hw.1.1.1.2.2.1 c rc.1 rc.2).1.2.1
        refine b96_19 (k := ?_)
        refine pe_M.up (k4 (d := 0) ho i2 hb (fun r3 => ?_) (fun r3 => ?_)) (by omega)
        · rw [if_neg (by omega)] at k
          refine b96_31 (k1 := fun _ => ?_) (k2 := fun r => by omega)
          refine b96_37 (k := ?_)
          obtain ⟨V, hV⟩ : ∃ V, V = pa_sbN a c 21 0 (0, -4) := ⟨_, rfl⟩
          rw [← hV] at k
          have loop : ∀ (m : Nat) (v : Int) (b : Int × Int) (o6 : Option pe_V) (σ1 : pe_H), v + m = 21 → 0 ≤ v → -4 ≤ b.2 → b.2 ≤ 999 → pk_fr (pg_X C) σ σ1 → pg_G C T U σ1 a im h → pa_sbN a c m v b = V → pe_X (d + 14) 96 (46, [some (.inr (.inr C)), some (.inl c), some (.inl x), some (.inl b.1), some (.inl b.2), some (.inl v), o6], [], σ1) Φ := by
            intro m
            induction m with
            | zero =>
              intro v b o6 σ1 hi hi0 b1 b2 f1 g1 hv
              have hF1 := g1.F
              have hv : b = V := hv
              subst hv
              refine b96_46 (k1 := fun _ => ?_) (k2 := fun r => by omega)
              refine b96_103 (k1 := fun rx => ?_) (k2 := fun rx => ?_)
              · rw [if_neg rx] at k
                refine b96_111 (k := ?_)
                refine b96_113 (k := ?_)
                exact k σ1 f1 g1
              · rw [if_pos rx] at k
                refine b96_107 (k := ?_)
                refine b96_113 (k := ?_)
                exact k σ1 f1 g1
            | succ m ih =>
              intro v b o6 σ1 hi hi0 b1 b2 f1 g1 hv
              have hF1 := g1.F
              unfold pa_sbN at hv
              refine b96_46 (k1 := fun r => by omega) (k2 := fun _ => ?_)
              refine b96_53 (k := ?_)
              refine pe_M.up (k122q (d := 0) f1 g1 hw (fun σ2 q2 => ?_)) (by omega)
              have hF2 := q2.F
              have hm2 := q2.m
              refine b96_57 (k := ?_)
              refine pe_M.up (k25 (d := 0) q2.M hw.1.1 rc.1 rc.2 r3 (by omega) (fun σ3 e1 e2 => ?_)) (by omega)
              have hws := pa_send_wf (v := v) hw.1.1 rc.1 rc.2 r3 (by omega)
              have q3 := q2.next hw (by decide) (by decide) (pk_fr_mono e1 pk_Zs_Z) e2 hws.1
              have hF3 := q3.F
              have hm3 := q3.m
              have hc4 : c < (pa_send a c v).1 4 := by rw [hws.2]; exact rc.2
              have i4 := (q3.M.i rc.1 hc4).2.2.2.1
              have hb4 := (hws.1.1.2.2.1 c rc.1 hc4).1.2.2.2.1
              refine b96_67 (k1 := fun r5 => ?_) (k2 := fun r5 => ?_)
              · rw [if_neg (by omega)] at hv
                refine b96_97 (k := ?_)
                exact ih (v + 1) b _ σ3 (by omega) (by omega) b1 b2 q3.1 q3.G hv
              · rw [if_pos (by omega)] at hv
                refine b96_82 (k := ?_)
                rw [i4]
                refine b96_97 (k := ?_)
                exact ih (v + 1) (v, ((pa_send a c v).2.1 c).1 4) _ σ3 (by omega) (by omega) (by show -4 ≤ _; omega) (by show _ ≤ 999; omega) q3.1 q3.G hv
          exact loop 21 0 (0, -4) _ σ (by decide) (by decide) (by decide) (by decide) (pk_fr_refl _ _) hG hV.symm
        · rw [if_pos (by omega)] at k
          refine b96_31 (k1 := fun r => by omega) (k2 := fun _ => ?_)
          refine b96_34 (k := ?_)
          exact k σ (pk_fr_refl _ _) hG
      · refine b96_17 (k := ?_)
        exact hno (by omega)
  · refine b96_5 (k1 := fun _ => ?_) (k2 := fun r => absurd rfl r)
    refine b96_17 (k := ?_)
    exact hno (by omega)
theorem pb_two : ∀ p : Fin 4, pe_shr (p.val : Int) 1 = (p.val : Int) / 2 ∧ pe_and (p.val : Int) 1 = (p.val : Int) % 2 ∧ pe_xor (p.val : Int) 2 = 2 * (1 - (p.val : Int) / 2) + (p.val : Int) % 2 ∧ pe_xor (p.val : Int) 1 = 2 * ((p.val : Int) / 2) + 1 - (p.val : Int) % 2 := by decide +kernel
/-- so far: σ0 and then σ; more may have been made, of what was there only the class's cells have changed and U's -/
def pg_st (C : Nat) (U : Nat → Prop) (σ0 σ : pe_H) : Prop := (σ0.1 ≤ σ.1 ∧ σ0.2.1 ≤ σ.2.1) ∧ ∀ x, x < σ0.1 → ¬ pg_X C x → ¬ U x → pg_same σ0 σ x
theorem pg_st.refl (σ : pe_H) : pg_st C U σ σ := ⟨⟨Nat.le_refl _, Nat.le_refl _⟩, fun x _ _ _ => pg_same.refl σ x⟩
theorem pg_st.trans {U' : Nat → Prop} (q : pg_st C U σ σ1) (q' : pg_st C U' σ1 σ2) (hU : ∀ x, U' x → U x ∨ σ.1 ≤ x) : pg_st C U σ σ2 := ⟨⟨Nat.le_trans q.1.1 q'.1.1, Nat.le_trans q.1.2 q'.1.2⟩, fun x hx h1 h2 => (q.2 x hx h1 h2).trans (q'.2 x (Nat.lt_of_lt_of_le hx q.1.1) h1 (fun w => (hU x w).elim h2 (fun e => by omega)))⟩
theorem pg_st_fr (q : pk_fr (pg_X C) σ σ1) : pg_st C U σ σ1 := ⟨⟨by rw [q.1.1]; exact Nat.le_refl _, by rw [q.1.2.1]; exact Nat.le_refl _⟩, fun x _ h1 _ => q.same h1⟩
theorem pg_same_new {k w x : Nat} {len : Int} (hx : x < σ.1) : pg_same σ (pe_new σ k len w) x := by
  have e : ¬ x = σ.1 := by omega
  exact ⟨if_neg e, if_neg e, fun j => ⟨if_neg e, if_neg e⟩⟩
theorem pg_same_wI {r x : Nat} {j v : Int} (hx : x ≠ r) : pg_same σ (pe_wI σ r j v) x := ⟨rfl, rfl, fun k => ⟨pe_I_ner hx, rfl⟩⟩
theorem pg_same_wR {r x y : Nat} {j : Int} (hx : x ≠ r) : pg_same σ (pe_wR σ r j y) x := ⟨rfl, rfl, fun k => ⟨rfl, pe_R_ner hx⟩⟩
/-- the class stands while what is made is written -/
theorem pg_G.old (g : pg_G C T U σ a im h) (hw : pg_W a im h) (hn : σ.1 ≤ σ1.1) (hs : ∀ x, x < σ.1 → pg_same σ σ1 x) : pg_G C T U σ1 a im h := g.sm hw hn (fun x hx => hs x (by
  rcases hx with q | q | q
  · have := g.2.1.2.2; unfold pg_X at q; omega
  · exact (g.2.1.1 x q).2
  · exact (g.2.1.2.1 x q).2.2))
end

