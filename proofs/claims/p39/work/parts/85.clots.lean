/-! THE CLASS: runs by lot, the image -/
section
variable {d C B P : Nat} {Φ : Option pe_V → pe_H → Prop} {T U : Nat → Prop} {σ σ' σ1 σ2 : pe_H} {c i x D n p z : Int} {l : List Int} {a b s s' t : pa_M} {im : Option pa_M} {h : Int → pa_Sh}
theorem pg_G.img (g : pg_G C T U σ a im h) (hw : pg_W a im h) (hf : pk_fr (pk_Z (C + 88)) σ σ') (hM : pk_RM (C + 88) T σ' b) (hb : pa_wf0 b) : pg_G C T U (pe_wI σ' C 6 1) a (some b) h := by
  obtain ⟨g1, ⟨g2, g3, g4⟩, ⟨g5, g6, g7⟩, g8, ⟨g9, g10⟩, g11⟩ := g
  have hn : σ'.1 = σ.1 := hf.1.1
  have hTC : ∀ x, T x → x ≠ C := fun x hx e => (g2 x hx).1 (Or.inl e)
  have hT : ∀ x, T x → ¬ pk_Z (C + 88) x := fun x hx q => (g2 x hx).1 (Or.inr (Or.inr (Or.inr (Or.inl q))))
  have hU : ∀ x, U x → ¬ pk_Z (C + 88) x := fun x hx q => (g3 x hx).1 (pg_Z_in (Or.inr (Or.inr (Or.inr (Or.inl q)))))
  have hs : ∀ x, ¬ pk_Z (C + 88) x → x ≠ C → pg_same σ (pe_wI σ' C 6 1) x := fun x h1 h2 => (hf.same h1).trans (pg_same_wI h2)
  have s8 := hs _ (hT _ g5) (hTC _ g5)
  have hFs0 : pk_Fs C σ' := pk_Fs_mach g1 (Or.inr (Or.inl rfl)) hf hM.F
  have hFs : pk_Fs C (pe_wI σ' C 6 1) := hFs0
  refine ⟨hFs, ⟨fun x hx => ⟨(g2 x hx).1, by show x < σ'.1; rw [hn]; exact (g2 x hx).2⟩, fun x hx => ⟨(g3 x hx).1, (g3 x hx).2.1, by show x < σ'.1; rw [hn]; exact (g3 x hx).2.2⟩, by show _ ≤ σ'.1; rw [hn]; exact g4⟩, ⟨g5, by rw [(s8.2.2 0).1]; exact g6, by rw [(s8.2.2 1).1]; exact g7⟩, pk_RM_sm g8 hw.1.1.1.w9 (fun x hx => hs x (fun q => by unfold pk_Z at hx q; omega) (by unfold pk_Z at hx; omega)) (fun x hx => hs x (hT x hx) (hTC x hx)) (fun _ q => q) (fun x hx q => (g2 x hx).1 (Or.inr (Or.inr (Or.inl q)))), ⟨fun q => (by cases q), fun b' hb' => by
    cases hb'
    exact ⟨pe_I_same, pk_RM_sm hM hb.w9 (fun x hx => pg_same_wI (by unfold pk_Z at hx; omega)) (fun x hx => pg_same_wI (hTC x hx)) (fun _ q => q) hT⟩⟩, pg_S_sm (fun x hx => ?_) (fun _ q => q) (fun _ q => q) g11⟩
  rcases hx with q | q | q | q
  · exact hs x (hT x q) (hTC x q)
  · exact hs x (hU x q) (fun e => (g3 x q).1 ⟨by omega, by omega⟩)
  · exact hs x (fun w => by unfold pk_Z at w; omega) (by omega)
  · exact hs x (fun w => by unfold pk_Z at w; omega) (by omega)
/-- image -/
theorem k106 (hG : pg_G C T U σ a im h) (hw : pg_W a im h) (k : ∀ σ2, pk_fr (pg_X C) σ σ2 → pg_G C T U σ2 a (some a) h → Φ (some (.inl (a.1 6))) σ2) : pe_M (d + 4) 106 [.inr (.inr C)] σ Φ := by
  have hF := hG.F
  refine pe_M_of ck106 (Nat.le_of_ble_eq_true rfl) ?_
  refine b106_0 (k := ?_)
  refine pe_M.up (k15 (d := 0) hG.M hw.1.1.1 hw.1.1.2.1 (pk_sM1 hF) (by omega) (fun x hx q => hG.TZ hx (Or.inr (Or.inr (Or.inr (Or.inl q))))) (fun σ2 e1 _ e2 => ?_)) (by omega)
  have hF2 := pk_Fs_mach hF (Or.inr (Or.inl rfl)) e1 e2.F
  have m2 := pk_RM_fr hG.M hw.1.1.1.w9 e1 (fun x hx q => by unfold pk_Z at hx; omega) (fun x hx q => hG.TZ hx (Or.inr (Or.inr (Or.inr (Or.inl q)))))
  have e6 := m2.cnt.2.2
  refine b106_11 (k := ?_)
  rw [e6]
  exact k _ (pk_fr_trans (pk_fr_mono e1 pg_kX) (pk_frI_wI ⟨Nat.le_refl _, by omega⟩).1) (hG.img hw e1 e2 hw.1.1.1)
/-- restore -/
theorem k107 (hG : pg_G C T U σ a im h) (hw : pg_W a im h) (k : ∀ σ2, pk_fr (pg_X C) σ σ2 → pg_G C T U σ2 (pa_doRestore a im).1 im h → Φ (some (.inl (pa_doRestore a im).2)) σ2) : pe_M (d + 4) 107 [.inr (.inr C)] σ Φ := by
  have hF := hG.F
  obtain ⟨g9, g10⟩ := hG.2.2.2.2.1
  refine pe_M_of ck107 (Nat.le_of_ble_eq_true rfl) ?_
  cases im with
  | none =>
    have e6 := g9 rfl
    refine b107_0 (k1 := fun r => by omega) (k2 := fun _ => ?_)
    refine b107_7 (k := ?_)
    exact k σ (pk_fr_refl _ _) hG
  | some b =>
    obtain ⟨e6, hM⟩ := g10 b rfl
    have hwb := (hw.2.1 b rfl).1
    refine b107_0 (k1 := fun _ => ?_) (k2 := fun r => by omega)
    refine b107_10 (k := ?_)
    refine pe_M.up (k15 (d := 0) hM hwb.1 hwb.2.1 (pk_sM0 hF) (by omega) (fun x hx q => hG.TZ hx (Or.inr (Or.inr (Or.inl q)))) (fun σ2 e1 _ e2 => ?_)) (by omega)
    have g2 := hG.now hw e1 e2
    have hF2 := g2.F
    have e62 := e2.cnt.2.2
    refine b107_21 (k := ?_)
    rw [e62]
    exact k σ2 (pk_fr_mono e1 pg_nX) g2
end

