section
variable {p : Program} {l : Launch} {e : Env} {R : Room} {s : State} {m : MethodId} {args : Array Value} {below : List Frame} {meth : Method} {c : Code} {Q : State → Prop}
variable {D : va_G} {cA : Nat → ClassId} {b n0 : Nat} {H0 : Heap} {nF uF : Nat} {L : Int}
set_option maxRecDepth 8000 in
/-- from the law's entry to its end -/
theorem lw_all (cx : lw_Cx p l R s m args c D cA n0 H0 nF uF) (hL0 : 0 ≤ L) (hL : L ≤ 3072) (hnF : 200000 ≤ nF) (huF : 2000000 ≤ uF) (fin : ∀ σ ls, pe_n σ ≤ nF → pe_u σ ≤ uF → pe_PW p l e R s m args below meth c Q D cA b n0 H0 2 0 nF uF 8 (1511, ls, [.inl 1], σ)) {σ : pe_H} (hn : pe_n σ = 2) (hu : pe_u σ = 0) (hK : pe_K σ 1 = 10) (hLL : pe_L σ 1 = L) (hI : ∀ j, 0 ≤ j → j < L → -2147483648 ≤ pe_I σ 1 j ∧ pe_I σ 1 j < 2147483648) : pe_PW p l e R s m args below meth c Q D cA b n0 H0 2 0 nF uF 8 (0, [some (.inr (.inr 1)), none, none, none, none, none, none, none], [], σ) := by
  refine lw_py (d := 6) cx (by decide) (G := fun S => ∃ T U σ q y a im h, S = lw_h 0 none none none σ ∧ lw_J T U σ q y L 921 30000 a im h a im h) ?_ ?_
  · refine pb244_0 (k := ?_)
    rw [hn]
    refine pe_M.up (k79 (d := 0) (C := 2) (by decide) (by (simp (disch := ((try simp only [pe_n_new, pe_n_wR, pe_n_wI]); omega)) only [pe_n_new, pe_u_new, pe_n_wI, pe_u_wI, pe_n_wR, pe_u_wR, pe_Kn, pe_Ke, pe_Ln, pe_Le, pe_In, pe_Ie, pe_Rn, pe_Re, pe_K_wI, pe_K_wR, pe_L_wI, pe_L_wR, pe_I_wR, pe_R_wI, pe_I_same, pe_I_ner, pe_I_nej, pe_R_same, pe_R_ner, pe_R_nej]); omega) (by (simp (disch := ((try simp only [pe_n_new, pe_n_wR, pe_n_wI]); omega)) only [pe_n_new, pe_u_new, pe_n_wI, pe_u_wI, pe_n_wR, pe_u_wR, pe_Kn, pe_Ke, pe_Ln, pe_Le, pe_In, pe_Ie, pe_Rn, pe_Re, pe_K_wI, pe_K_wR, pe_L_wI, pe_L_wR, pe_I_wR, pe_R_wI, pe_I_same, pe_I_ner, pe_I_nej, pe_R_same, pe_R_ner, pe_R_nej])) (fun σ2 n2 u2 S2 => ?_)) (by omega)
    have hG2 := S2.G (by omega)
    obtain ⟨-, -, -, -, -, -, -, -, -, -, sm2⟩ := S2
    rw [pe_u_new] at u2
    have n2 : pe_n σ2 = 877 := n2
    refine pb244_7 (k := ?_)
    rw [n2]
    refine pe_M.up (c132 (d := 0) (M := 877) (by decide) (by rw [pe_n_new, n2]) (pe_Ke n2.symm) (fun x hx j => pe_Ie (show 877 + x = pe_n σ2 by omega)) (fun j _ => pe_Re n2.symm) (fun σ3 n3 u3 F3 e3 sm3 => ?_)) (by omega)
    rw [pe_u_new] at u3
    have n3 : pe_n σ3 = 920 := n3
    refine pb244_15 (k := ?_)
    rw [n3]
    refine py_end ⟨pk_T0 2, fun _ => False, _, 0, pm_z0, pa_0, none, pa_h0, rfl, ?_⟩
    have sm4 : ∀ x, x < 920 → pg_same σ3 (pe_new σ3 11 1 ((1 : Int).toNat)) x := fun x hx => pg_sn (by omega)
    have sm23 : ∀ x, x < 877 → pg_same σ2 (pe_new σ3 11 1 ((1 : Int).toNat)) x := fun x hx => (pg_sn (by omega)).trans ((sm3 x hx).trans (sm4 x (by omega)))
    have s1 := (pg_sn (σ := σ) (k := 8) (len := 0) (w := 8) (x := 1) (by omega)).trans ((sm2 1 (by decide)).trans (sm23 1 (by decide)))
    refine ⟨⟨pm_F_sm F3 (fun x h1 h2 => sm4 x (by omega)), pm_h_sm e3 (fun x h1 h2 => sm4 x (by omega))⟩, hG2.sm pg_W_0 ?_ (fun x hx => ?_), ⟨pg_W_0, pg_W_0⟩, ⟨pm_R_at0, pm_RS_z, pm_Im_z⟩, fun x hx => ?_, ⟨⟨s1.1.trans hK, s1.2.1.trans hLL, fun j j0 j1 => by rw [(s1.2.2 j).1]; exact hI j j0 j1⟩, ⟨by rw [pe_Ke n3.symm], by rw [pe_Le n3.symm]⟩, ?_, ?_, ?_⟩⟩
    · show pe_n σ2 ≤ pe_n (pe_new σ3 11 1 _)
      rw [pe_n_new]; omega
    · rcases hx with w | w | w
      · exact sm23 x (by unfold pg_X at w; omega)
      · exact sm23 x (by unfold pk_T0 at w; omega)
      · exact w.elim
    · rcases hx with w | w
      · unfold pk_T0 at w; omega
      · exact w.elim
    · rw [pe_n_new]; omega
    · rw [pe_n_new]; omega
    · rw [pe_u_new]
      show pe_u σ3 + 1 ≤ 30000
      omega
  · rintro S ⟨T, U, σ2, q, y, a, im, h, rfl, J⟩
    exact lw_loop cx hL0 hL fin 513 0 T U σ2 q y a im h 921 30000 none none none (by decide) (by decide) (by omega) J (by omega) (by omega)
end
