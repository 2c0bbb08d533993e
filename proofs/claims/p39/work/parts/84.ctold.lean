/-! THE CLASS: one more, told rows looked at, which program, programs alike -/
/-- thinking beside a row at P -/
def pg_V (C : Nat) (T U : Nat → Prop) (σ0 : pe_H) (a : pa_M) (im : Option pa_M) (h : Int → pa_Sh) (D : Int) (P : Nat) (σ : pe_H) (s : pa_M) : Prop := pg_Q C T U σ0 a im h 0 σ s ∧ pe_R σ (C + 177) D = P
section
variable {d C B P : Nat} {Φ : Option pe_V → pe_H → Prop} {T U : Nat → Prop} {σ σ' σ1 σ2 : pe_H} {c i x D n p : Int} {l : List Int} {a s s' t : pa_M} {im : Option pa_M} {h : Int → pa_Sh}
theorem pg_V.row (q : pg_V C T U σ a im h D P σ1 s) (hW : ¬ pa_W h D < 0) : pg_Rw σ1 P (h D).2.1.1 (h D).2.2 := by
  have := (q.1.G.S.row hW).1
  rw [q.2] at this
  exact this
/-- a row's sort and length -/
theorem pg_W.row (hw : pg_W a im h) (hW : ¬ pa_W h D < 0) : (0 ≤ (h D).2.1.1 ∧ (h D).2.1.1 ≤ 2) ∧ (h D).2.2.length ≤ 100 ∧ ∀ i : Nat, i < (h D).2.2.length → pa_rng (h D).2.1.1 ((h D).2.2.getD i 0) := by
  obtain ⟨⟨h0, h8⟩, h2, -⟩ := pa_W_0 hW
  exact (hw.2.2 D h0 h8).2.2 h2
theorem pt_at_D {l : List Int} {k : Int} (h0 : 0 ≤ k) (h1 : k < (l.length : Int)) : pt_at l k = l.getD k.toNat 0 := by
  unfold pt_at
  rw [if_pos ⟨h0, h1⟩]
/-- comes -/
theorem k82 (hG : pg_G C T U σ a im h) (hw : pg_W a im h) (hp : -2147483648 ≤ p ∧ p < 2147483648) (hD : -2147483648 ≤ D ∧ D < 2147483648) (k : ∀ σ2, pk_fr (pg_X C) σ σ2 → pg_G C T U σ2 (pa_doComes a h p D).1 im h → Φ (some (.inl (pa_doComes a h p D).2)) σ2) : pe_M (d + 4) 82 [.inr (.inr C), .inl p, .inl D] σ Φ := by
  have hF := hG.F
  unfold pa_doComes at k
  have hKr := pa_K_r h D
  refine pe_M_of ck82 (Nat.le_of_ble_eq_true rfl) ?_
  refine b82_0 (k := ?_)
  refine pe_M.up (k116 (d := 0) hp (fun rp => ?_) (fun r => ?_)) (by omega)
  · rw [if_neg (by omega)] at k
    refine b82_4 (k1 := fun _ => ?_) (k2 := fun r => by omega)
    refine b82_9 (k := ?_)
    refine pe_M.up (k120 (d := 0) hF hG.S hw.2.2 hD ?_) (by omega)
    by_cases hK : pa_K h D < 0
    · rw [if_pos hK] at k
      refine b82_14 (k1 := fun r => by omega) (k2 := fun _ => ?_)
      refine b82_19 (k := ?_)
      exact k σ (pk_fr_refl _ _) hG
    · rw [if_neg hK] at k
      obtain ⟨⟨h0, h8⟩, h1, e0⟩ := pa_K_0 hw.2.2 hK
      obtain ⟨b1, b2, b3, b4, b5, b6⟩ := (hG.S.1 D h0 h8).2.1 h1
      refine b82_14 (k1 := fun _ => ?_) (k2 := fun r => by omega)
      refine b82_21 (k := ?_)
      refine k24 (d := d) hG.M hw.1.1.1 rp.1 rp.2 b3 b4 b5 b6 (fun q => ?_) (fun σ2 q e1 e2 => ?_)
      · rw [if_pos (by omega)] at k
        refine b82_35 (k := ?_)
        exact k σ (pk_fr_refl _ _) hG
      · rw [if_neg (by omega)] at k
        have e3 := pk_fr_mono e1 pk_Zs_Z
        refine b82_35 (k := ?_)
        exact k σ2 (pk_fr_mono e3 pg_nX) (hG.now hw e3 e2)
  · rw [if_pos (by omega)] at k
    refine b82_4 (k1 := fun r => by omega) (k2 := fun _ => ?_)
    refine b82_7 (k := ?_)
    exact k σ (pk_fr_refl _ _) hG
end

