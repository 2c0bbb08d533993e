/-! THE LAW: class at 2, Model at 877, out at 920, script at 1 -/
/-- the script, out, how much is made -/
def lw_V (σ : pe_H) (L : Int) (N Us : Nat) : Prop := (pe_K σ 1 = 10 ∧ pe_L σ 1 = L ∧ ∀ j, 0 ≤ j → j < L → -2147483648 ≤ pe_I σ 1 j ∧ pe_I σ 1 j < 2147483648) ∧ (pe_K σ 920 = 11 ∧ pe_L σ 920 = 1) ∧ 921 ≤ pe_n σ ∧ pe_n σ ≤ N ∧ pe_u σ ≤ Us
/-- the class is at a', im', h', the Model at a, im, h -/
def lw_J (T U : Nat → Prop) (σ : pe_H) (q : Nat) (y : Nat → Int → Int) (L : Int) (N Us : Nat) (a : pa_M) (im : Option pa_M) (h : Int → pa_Sh) (a' : pa_M) (im' : Option pa_M) (h' : Int → pa_Sh) : Prop := (pm_F 877 σ ∧ σ = pm_h 877 σ q y) ∧ pg_G 2 T U σ a' im' h' ∧ (pg_W a im h ∧ pg_W a' im' h') ∧ (pm_R y a ∧ pm_RS y h ∧ pm_Im y im) ∧ (∀ x, T x ∨ U x → x ≠ 1 ∧ ¬ (877 ≤ x ∧ x ≤ 920)) ∧ lw_V σ L N Us
section
variable {T T' U U' : Nat → Prop} {σ σ2 : pe_H} {q q' N Us dn du : Nat} {y y2 : Nat → Int → Int} {L : Int} {a a' a2 : pa_M} {im im' im2 : Option pa_M} {h h' h2 : Int → pa_Sh}
theorem pm_hh {M : Nat} : pm_h M (pm_h M σ q y) q' y2 = pm_h M σ q' y2 := by
  unfold pm_h
  refine Prod.ext rfl (Prod.ext rfl (Prod.ext rfl (Prod.ext rfl (Prod.ext ?_ ?_))))
  · funext x j
    show (if M ≤ x ∧ x ≤ M + 42 then _ else (if M ≤ x ∧ x ≤ M + 42 then _ else _)) = (if M ≤ x ∧ x ≤ M + 42 then _ else _)
    by_cases e : M ≤ x ∧ x ≤ M + 42
    · rw [if_pos e, if_pos e]
    · rw [if_neg e, if_neg e, if_neg e]
  · funext x j
    show (if x = M ∧ j = 53 then _ else (if x = M ∧ j = 53 then _ else _)) = (if x = M ∧ j = 53 then _ else _)
    by_cases e : x = M ∧ j = 53
    · rw [if_pos e, if_pos e]
    · rw [if_neg e, if_neg e, if_neg e]
theorem pm_h_sm {M : Nat} (e : σ = pm_h M σ q y) (hs : ∀ x, M ≤ x → x ≤ M + 42 → pg_same σ σ2 x) : σ2 = pm_h M σ2 q y := by
  have eI : ∀ x j, M ≤ x → x ≤ M + 42 → pe_I σ x j = y (x - M) j := fun x j h1 h2 => by
    have : pe_I σ x j = pe_I (pm_h M σ q y) x j := by rw [← e]
    rw [this]
    exact if_pos ⟨h1, h2⟩
  have eR : pe_R σ M 53 = q := by
    have : pe_R σ M 53 = pe_R (pm_h M σ q y) M 53 := by rw [← e]
    rw [this]
    exact if_pos ⟨rfl, rfl⟩
  unfold pm_h
  refine Prod.ext rfl (Prod.ext rfl (Prod.ext rfl (Prod.ext rfl (Prod.ext ?_ ?_))))
  · funext x j
    show pe_I σ2 x j = if M ≤ x ∧ x ≤ M + 42 then y (x - M) j else pe_I σ2 x j
    by_cases g : M ≤ x ∧ x ≤ M + 42
    · rw [if_pos g, ((hs x g.1 g.2).2.2 j).1]; exact eI x j g.1 g.2
    · rw [if_neg g]
  · funext x j
    show pe_R σ2 x j = if x = M ∧ j = 53 then q else pe_R σ2 x j
    by_cases g : x = M ∧ j = 53
    · rw [if_pos g, g.1, g.2, ((hs M (Nat.le_refl _) (by omega)).2.2 53).2]; exact eR
    · rw [if_neg g]
theorem pm_F_sm {M : Nat} (hF : pm_F M σ) (hs : ∀ x, M ≤ x → x ≤ M + 42 → pg_same σ σ2 x) : pm_F M σ2 := by
  obtain ⟨h1, h2, h3⟩ := hF
  have key : ∀ q ∈ pm_tab, q.2.1 ≤ 42 := by decide
  have s0 := hs M (Nat.le_refl _) (by omega)
  refine ⟨h1, s0.1.trans h2, fun q hq => ?_⟩
  obtain ⟨g1, g2, g3⟩ := h3 q hq
  have sq := hs (M + q.2.1) (by omega) (by have := key q hq; omega)
  exact ⟨((s0.2.2 _).2).trans g1, sq.1.trans g2, sq.2.1.trans g3⟩
theorem lw_V.sm (hV : lw_V σ L N Us) (hs : ∀ x, x = 1 ∨ x = 920 → pg_same σ σ2 x) (hn : pe_n σ ≤ pe_n σ2) (hn2 : pe_n σ2 ≤ pe_n σ + dn) (hu : pe_u σ2 ≤ pe_u σ + du) : lw_V σ2 L (N + dn) (Us + du) := by
  obtain ⟨⟨a1, a2, a3⟩, ⟨b1, b2⟩, c1, c2, c3⟩ := hV
  have s1 := hs 1 (Or.inl rfl)
  have s9 := hs 920 (Or.inr rfl)
  exact ⟨⟨s1.1.trans a1, s1.2.1.trans a2, fun j j0 j1 => by rw [(s1.2.2 j).1]; exact a3 j j0 j1⟩, ⟨s9.1.trans b1, s9.2.1.trans b2⟩, by omega, by omega, by omega⟩
/-- the class has done its part -/
theorem lw_J.cls (J : lw_J T U σ q y L N Us a im h a im h) (st : pg_st 2 U σ σ2) (hn : σ2.1 ≤ σ.1 + dn) (hu : σ2.2.1 ≤ σ.2.1 + du) (hT' : ∀ x, T' x → T x ∨ σ.1 ≤ x) (hU' : ∀ x, U' x → U x ∨ σ.1 ≤ x) (g2 : pg_G 2 T' U' σ2 a' im' h') (w2 : pg_W a' im' h') : lw_J T' U' σ2 q y L (N + dn) (Us + du) a im h a' im' h' := by
  obtain ⟨⟨hF, e⟩, hG, ⟨hw, -⟩, hR, hT, hV⟩ := J
  have hn0 : 921 ≤ σ.1 := hV.2.2.1
  have hs : ∀ x, x = 1 ∨ (877 ≤ x ∧ x ≤ 920) → pg_same σ σ2 x := fun x hx => st.2 x (by omega) (by unfold pg_X; omega) (fun z => by have := hT x (Or.inr z); omega)
  have hs2 : ∀ x, 877 ≤ x → x ≤ 877 + 42 → pg_same σ σ2 x := fun x h1 h2 => hs x (Or.inr (by omega))
  exact ⟨⟨pm_F_sm hF hs2, pm_h_sm e hs2⟩, g2, ⟨hw, w2⟩, hR, fun x hx => by
    rcases hx with w | w
    · rcases hT' x w with z | z
      · exact hT x (Or.inl z)
      · omega
    · rcases hU' x w with z | z
      · exact hT x (Or.inr z)
      · omega, hV.sm (fun x hx => hs x (by omega)) st.1.1 hn hu⟩
/-- the Model has done its part -/
theorem lw_J.mod (J : lw_J T U σ q y L N Us a im h a' im' h') (hR : pm_R y2 a' ∧ pm_RS y2 h' ∧ pm_Im y2 im') : lw_J T U (pm_h 877 σ q' y2) q' y2 L N Us a' im' h' a' im' h' := by
  obtain ⟨⟨hF, e⟩, hG, ⟨-, hw⟩, -, hT, hV⟩ := J
  have hs : ∀ x, ¬ (877 ≤ x ∧ x ≤ 919) → pg_same σ (pm_h 877 σ q' y2) x := fun x hx => ⟨rfl, rfl, fun j => ⟨if_neg (by omega), if_neg (by omega)⟩⟩
  refine ⟨⟨?_, pm_hh.symm⟩, hG.sm hw (Nat.le_refl _) (fun x hx => hs x ?_), ⟨hw, hw⟩, hR, hT, ?_⟩
  · obtain ⟨h1, h2, h3⟩ := hF
    have key : ∀ q ∈ pm_tab, q.1 ≠ 53 := by decide
    exact ⟨h1, h2, fun q hq => ⟨(show pe_R (pm_h 877 σ q' y2) 877 q.1 = pe_R σ 877 q.1 from if_neg (fun z => key q hq z.2)).trans (h3 q hq).1, (h3 q hq).2⟩⟩
  · rcases hx with w | w | w
    · unfold pg_X at w; omega
    · have := hT x (Or.inl w); omega
    · have := hT x (Or.inr w); omega
  · have := hV.sm (σ2 := pm_h 877 σ q' y2) (dn := 0) (du := 0) (fun x hx => hs x (by omega)) (Nat.le_refl _) (Nat.le_refl _) (Nat.le_refl _)
    exact this
theorem pm_Zp_39 : (∀ j, ¬ pm_Zp 39 j) ∧ (∀ j, ¬ pm_Zp 101 j) ∧ ¬ pm_Zp 0 50 := ⟨fun j w => w (Or.inr (Or.inl rfl)), fun j w => w (Or.inr (Or.inr (Or.inl rfl))), fun w => w (Or.inr (Or.inr (Or.inr ⟨rfl, rfl⟩)))⟩
/-- a call that changes the live machine, or nothing -/
theorem lw_J.modP (J : lw_J T U σ q y L N Us a im h a' im h) (hf : pm_fr pm_Zp y y2) (hR : pm_R y2 a') : lw_J T U (pm_h 877 σ q' y2) q' y2 L N Us a' im h a' im h := J.mod ⟨hR, pm_RS_fr hf J.2.2.2.1.2.1, pm_Im_fr hf pm_Zp_39.1 pm_Zp_39.2.1 pm_Zp_39.2.2 J.2.2.2.1.2.2⟩
end
