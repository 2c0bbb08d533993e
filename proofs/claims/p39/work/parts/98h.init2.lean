/-! THE LAW'S constructor, whole; law -/
def ll_g0 (r : Nat) : Int := if 899 ≤ r then -9 else if r = 3 then -2 else if r = 891 then -3 else if r = 892 then -4 else if r = 879 ∨ r = 885 then -5 else if 4 ≤ r ∧ r < 879 then -7 else -1
section
variable {d o r : Nat} {Φ : Option pe_V → pe_H → Prop} {σ σ' : pe_H}
theorem ll_two {a0 o : Nat} {j : Int} (ho : o = pe_n σ) (h3 : 3 ≤ pe_n σ) (ha : a0 < pe_n σ) (hK : pe_K σ a0 = 21) : pe_K (ll_E σ o 5) a0 = 21 := by
  rw [((ll_E_f ho 5 (by decide)).2.2.2.2 a0 (by omega)).1]; exact hK
theorem ll_mn6 (hn : pe_n σ = 892) : pe_n (pe_mn2 σ 6 0) = 899 ∧ pe_u (pe_mn2 σ 6 0) = pe_u σ + 6 ∧ (pe_K (pe_mn2 σ 6 0) 892 = 24 ∧ pe_L (pe_mn2 σ 6 0) 892 = 6) ∧ (∀ q : Int, 0 ≤ q → q < 6 → pe_R (pe_mn2 σ 6 0) 892 q = 893 + q.toNat ∧ pe_K (pe_mn2 σ 6 0) (893 + q.toNat) = 10 ∧ pe_L (pe_mn2 σ 6 0) (893 + q.toNat) = 0) ∧ ∀ x, x < 892 → pg_same σ (pe_mn2 σ 6 0) x := by
  have e1 : σ.1 = 892 := hn
  have en : pe_n (pe_mn2 σ 6 0) = pe_n σ + 7 := rfl
  have eu : pe_u (pe_mn2 σ 6 0) = pe_u σ + 6 + 0 := rfl
  refine ⟨by omega, by omega, ⟨if_pos e1.symm, if_pos e1.symm⟩, fun q q0 q6 => ⟨?_, ?_, ?_⟩, fun x hx => ⟨(if_neg (by omega)).trans (if_neg (by omega)), (if_neg (by omega)).trans (if_neg (by omega)), fun j => ⟨if_neg (by omega), (if_neg (by omega)).trans (if_neg (by omega))⟩⟩⟩
  · have : pe_R (pe_mn2 σ 6 0) 892 q = σ.1 + 1 + q.toNat := if_pos e1.symm
    omega
  · exact (if_neg (by omega)).trans (if_pos ⟨by omega, by show _ < σ.1 + 1 + 6; omega⟩)
  · exact (if_neg (by omega)).trans (if_pos ⟨by omega, by show _ < σ.1 + 1 + 6; omega⟩)
theorem k144 (hn : pe_n σ = 4) (hK : pe_K σ 3 = 21) (hI : ∀ j, pe_I σ 3 j = 0) (k : ∀ σ', pe_n σ' = 899 → pe_u σ' = pe_u σ + 15638 → ll_Q (pk_T0 4) (fun _ => False) σ' ll_g0 pa_0 pa_0 none pa_h0 → (∀ x, x < 3 → pg_same σ σ' x) → Φ none σ') : pe_M (d + 5) 144 [.inr (.inr 3)] σ Φ := by
  have hr3 : ∀ (τ : pe_H) (j : Int) (q : Nat) (x : Nat), x ≠ 3 → pg_same τ (pe_wR τ 3 j q) x := fun τ j q x hx => ⟨rfl, rfl, fun i => ⟨rfl, pe_R_ner hx⟩⟩
  have hi3 : ∀ (τ : pe_H) (j v : Int) (x : Nat), x ≠ 3 → pg_same τ (pe_wI τ 3 j v) x := fun τ j v x hx => ⟨rfl, rfl, fun i => ⟨pe_I_ner hx, rfl⟩⟩
  have hnw : ∀ (τ : pe_H) (c : Nat) (l : Int) (w x : Nat), x < pe_n τ → pg_same τ (pe_new τ c l w) x := fun τ c l w x hx => ⟨pe_Kn (by omega), pe_Ln (by omega), fun i => ⟨pe_In (by omega), pe_Rn (by omega)⟩⟩
  refine pe_M_of (d := d + 4) ck144 (Nat.le_of_ble_eq_true rfl) ?_
  refine b144_0 (k := ?_)
  refine b144_4 (k := ?_)
  rw [hn]
  refine pe_M.up (k79 (d := d) (C := 4) (by decide) (by show pe_n σ + 1 = 5; omega) (pe_Ke hn.symm) (fun σ1 n1 u1 hS => ?_)) (by omega)
  have hG := hS.G (by omega)
  have hSame := hS.2.2.2.2.2.2.2.2.2.2
  have u1 : pe_u σ1 = pe_u σ + 8 + 15606 := u1
  have s1 : ∀ x, x < 4 → pg_same σ σ1 x := fun x hx => pg_same_trans (hnw σ 8 0 8 x (by omega)) (hSame x hx)
  have k1 : pe_K σ1 3 = 21 := (s1 3 (by decide)).1.trans hK
  refine b144_12 (k := ?_)
  -- the class
  have n2 : pe_n (pe_wR σ1 3 0 4) = 879 := n1
  have u2 : pe_u (pe_wR σ1 3 0 4) = pe_u σ1 := rfl
  have k2 : pe_K (pe_wR σ1 3 0 4) 3 = 21 := k1
  have s2 : ∀ x, x ≠ 3 → pg_same σ1 (pe_wR σ1 3 0 4) x := hr3 σ1 0 4
  have r2 : pe_R (pe_wR σ1 3 0 4) 3 0 = 4 := pe_R_same
  have i2 : ∀ j, pe_I (pe_wR σ1 3 0 4) 3 j = 0 := fun j => ((s1 3 (by decide)).2.2 j).1.trans (hI j)
  generalize pe_wR σ1 3 0 4 = σ2 at *
  -- letters
  have E2 := ll_E_f (σ := σ2) (o := 879) n2.symm 5 (by decide)
  have H2 := fun n (hn : n < 5) => ll_E_h (σ := σ2) (o := 879) n2.symm (by omega) n hn
  have L2 := ll_two (a0 := 3) (o := 879) (j := 0) n2.symm (by omega) (by omega) k2
  have step : pe_X (d + 4) 144 (53, [some (.inr (.inr 3))], [], pe_wR (ll_E σ2 (pe_n σ2) 5) 3 1 (pe_n σ2)) Φ → pe_X (d + 4) 144 (15, [some (.inr (.inr 3))], [], σ2) Φ := fun kk => by
    have H2 := fun n (hn : n < 5) => ll_E_h (σ := σ2) (o := pe_n σ2) rfl (by omega) n hn
    have L2 := ll_two (a0 := 3) (o := pe_n σ2) (j := 0) rfl (by omega) (by omega) k2
    exact b144_15 (h0 := (H2 0 (by decide)).1) (h1 := (H2 0 (by decide)).2.1) (h2 := (H2 0 (by decide)).2.2) (h3 := by omega) (h4 := (H2 1 (by decide)).1) (h5 := (H2 1 (by decide)).2.1) (h6 := (H2 1 (by decide)).2.2) (h7 := (H2 2 (by decide)).1) (h8 := (H2 2 (by decide)).2.1) (h9 := (H2 2 (by decide)).2.2) (h10 := (H2 3 (by decide)).1) (h11 := (H2 3 (by decide)).2.1) (h12 := (H2 3 (by decide)).2.2) (h13 := (H2 4 (by decide)).1) (h14 := (H2 4 (by decide)).2.1) (h15 := (H2 4 (by decide)).2.2) (h16 := L2) (k := kk)
  refine step ?_
  rw [n2]
  obtain ⟨m3, v3, ⟨K3, Ln3⟩, R3, S3⟩ := E2
  have n3 : pe_n (pe_wR (ll_E σ2 879 5) 3 1 879) = 885 := m3
  have u3 : pe_u (pe_wR (ll_E σ2 879 5) 3 1 879) = pe_u σ2 + 5 := v3
  have k3 : pe_K (pe_wR (ll_E σ2 879 5) 3 1 879) 3 = 21 := L2
  have s3 : ∀ x, x ≠ 3 → x < 879 → pg_same σ2 (pe_wR (ll_E σ2 879 5) 3 1 879) x := fun x hx hlt => pg_same_trans (S3 x hlt) (hr3 _ 1 879 x hx)
  have r3 : pe_R (pe_wR (ll_E σ2 879 5) 3 1 879) 3 0 = 4 ∧ pe_R (pe_wR (ll_E σ2 879 5) 3 1 879) 3 1 = 879 := ⟨by rw [pe_R_nej (by decide), ((S3 3 (by decide)).2.2 0).2]; exact r2, pe_R_same⟩
  have i3 : ∀ j, pe_I (pe_wR (ll_E σ2 879 5) 3 1 879) 3 j = 0 := fun j => ((S3 3 (by decide)).2.2 j).1.trans (i2 j)
  have A3 : (pe_K (pe_wR (ll_E σ2 879 5) 3 1 879) 879 = 24 ∧ pe_L (pe_wR (ll_E σ2 879 5) 3 1 879) 879 = 5) ∧ ∀ i : Nat, i < 5 → pe_R (pe_wR (ll_E σ2 879 5) 3 1 879) 879 i = 880 + i ∧ pe_K (pe_wR (ll_E σ2 879 5) 3 1 879) (880 + i) = 10 ∧ pe_L (pe_wR (ll_E σ2 879 5) 3 1 879) (880 + i) = 0 := ⟨⟨K3, Ln3⟩, fun i hi => ⟨by rw [pe_R_ner (by decide)]; exact (R3 i hi).1, (R3 i hi).2⟩⟩
  generalize pe_wR (ll_E σ2 879 5) 3 1 879 = σ3 at *
  clear S3 R3 K3 Ln3 step H2
  -- numbers
  have E3 := ll_E_f (σ := σ3) (o := 885) n3.symm 5 (by decide)
  have L3 := ll_two (a0 := 3) (o := 885) (j := 0) n3.symm (by omega) (by omega) k3
  have step : pe_X (d + 4) 144 (91, [some (.inr (.inr 3))], [], pe_wR (ll_E σ3 (pe_n σ3) 5) 3 2 (pe_n σ3)) Φ → pe_X (d + 4) 144 (53, [some (.inr (.inr 3))], [], σ3) Φ := fun kk => by
    have H2 := fun n (hn : n < 5) => ll_E_h (σ := σ3) (o := pe_n σ3) rfl (by omega) n hn
    have L2 := ll_two (a0 := 3) (o := pe_n σ3) (j := 0) rfl (by omega) (by omega) k3
    exact b144_53 (h0 := (H2 0 (by decide)).1) (h1 := (H2 0 (by decide)).2.1) (h2 := (H2 0 (by decide)).2.2) (h3 := by omega) (h4 := (H2 1 (by decide)).1) (h5 := (H2 1 (by decide)).2.1) (h6 := (H2 1 (by decide)).2.2) (h7 := (H2 2 (by decide)).1) (h8 := (H2 2 (by decide)).2.1) (h9 := (H2 2 (by decide)).2.2) (h10 := (H2 3 (by decide)).1) (h11 := (H2 3 (by decide)).2.1) (h12 := (H2 3 (by decide)).2.2) (h13 := (H2 4 (by decide)).1) (h14 := (H2 4 (by decide)).2.1) (h15 := (H2 4 (by decide)).2.2) (h16 := L2) (k := kk)
  refine step ?_
  rw [n3]
  obtain ⟨m4, v4, ⟨K4, Ln4⟩, R4, S4⟩ := E3
  have n4 : pe_n (pe_wR (ll_E σ3 885 5) 3 2 885) = 891 := m4
  have u4 : pe_u (pe_wR (ll_E σ3 885 5) 3 2 885) = pe_u σ3 + 5 := v4
  have k4 : pe_K (pe_wR (ll_E σ3 885 5) 3 2 885) 3 = 21 := L3
  have s4 : ∀ x, x ≠ 3 → x < 885 → pg_same σ3 (pe_wR (ll_E σ3 885 5) 3 2 885) x := fun x hx hlt => pg_same_trans (S4 x hlt) (hr3 _ 2 885 x hx)
  have r4 : pe_R (pe_wR (ll_E σ3 885 5) 3 2 885) 3 0 = 4 ∧ pe_R (pe_wR (ll_E σ3 885 5) 3 2 885) 3 1 = 879 ∧ pe_R (pe_wR (ll_E σ3 885 5) 3 2 885) 3 2 = 885 := ⟨by rw [pe_R_nej (by decide), ((S4 3 (by decide)).2.2 0).2]; exact r3.1, by rw [pe_R_nej (by decide), ((S4 3 (by decide)).2.2 1).2]; exact r3.2, pe_R_same⟩
  have i4 : ∀ j, pe_I (pe_wR (ll_E σ3 885 5) 3 2 885) 3 j = 0 := fun j => ((S4 3 (by decide)).2.2 j).1.trans (i3 j)
  have A4 : (pe_K (pe_wR (ll_E σ3 885 5) 3 2 885) 885 = 24 ∧ pe_L (pe_wR (ll_E σ3 885 5) 3 2 885) 885 = 5) ∧ ∀ i : Nat, i < 5 → pe_R (pe_wR (ll_E σ3 885 5) 3 2 885) 885 i = 886 + i ∧ pe_K (pe_wR (ll_E σ3 885 5) 3 2 885) (886 + i) = 10 ∧ pe_L (pe_wR (ll_E σ3 885 5) 3 2 885) (886 + i) = 0 := ⟨⟨K4, Ln4⟩, fun i hi => ⟨by rw [pe_R_ner (by decide)]; exact (R4 i hi).1, (R4 i hi).2⟩⟩
  generalize pe_wR (ll_E σ3 885 5) 3 2 885 = σ4 at *
  clear S4 R4 K4 Ln4 step
  refine b144_91 (k := ?_)
  have n5 : pe_n (pe_wI σ4 3 4 8) = 891 := n4
  have u5 : pe_u (pe_wI σ4 3 4 8) = pe_u σ4 := rfl
  have k5 : pe_K (pe_wI σ4 3 4 8) 3 = 21 := k4
  have s5 : ∀ x, x ≠ 3 → pg_same σ4 (pe_wI σ4 3 4 8) x := hi3 σ4 4 8
  have r5 : ∀ j, pe_R (pe_wI σ4 3 4 8) 3 j = pe_R σ4 3 j := fun j => rfl
  have i5 : pe_I (pe_wI σ4 3 4 8) 3 4 = 8 ∧ pe_I (pe_wI σ4 3 4 8) 3 3 = 0 ∧ pe_I (pe_wI σ4 3 4 8) 3 5 = 0 := ⟨pe_I_same, by rw [pe_I_nej (by decide)]; exact i4 3, by rw [pe_I_nej (by decide)]; exact i4 5⟩
  generalize pe_wI σ4 3 4 8 = σ5 at *
  have k5n : pe_K (pe_new σ5 23 8 ((8 : Int).toNat)) 3 = 21 := (pe_Kn (by omega)).trans k5
  refine b144_97 (k := ?_)
  rw [n5]
  have n6 : pe_n (pe_wR (pe_new σ5 23 8 ((8 : Int).toNat)) 3 6 891) = 892 := by show pe_n σ5 + 1 = 892; omega
  have u6 : pe_u (pe_wR (pe_new σ5 23 8 ((8 : Int).toNat)) 3 6 891) = pe_u σ5 + 8 := rfl
  have k6 : pe_K (pe_wR (pe_new σ5 23 8 ((8 : Int).toNat)) 3 6 891) 3 = 21 := k5n
  have s6 : ∀ x, x ≠ 3 → x < 891 → pg_same σ5 (pe_wR (pe_new σ5 23 8 ((8 : Int).toNat)) 3 6 891) x := fun x hx hlt => pg_same_trans (hnw σ5 23 8 _ x (by omega)) (hr3 _ 6 891 x hx)
  have r6 : pe_R (pe_wR (pe_new σ5 23 8 ((8 : Int).toNat)) 3 6 891) 3 6 = 891 ∧ ∀ j, j ≠ 6 → pe_R (pe_wR (pe_new σ5 23 8 ((8 : Int).toNat)) 3 6 891) 3 j = pe_R σ5 3 j := ⟨pe_R_same, fun j hj => by rw [pe_R_nej hj]; exact pe_Rn (by omega)⟩
  have i6 : ∀ j, pe_I (pe_wR (pe_new σ5 23 8 ((8 : Int).toNat)) 3 6 891) 3 j = pe_I σ5 3 j := fun j => by
    rw [pe_I_wR]
    exact pe_In (by omega)
  have A6 : pe_K (pe_wR (pe_new σ5 23 8 ((8 : Int).toNat)) 3 6 891) 891 = 23 ∧ pe_L (pe_wR (pe_new σ5 23 8 ((8 : Int).toNat)) 3 6 891) 891 = 8 := ⟨by rw [pe_K_wR]; exact pe_Ke n5.symm, by rw [pe_L_wR]; exact pe_Le n5.symm⟩
  generalize pe_wR (pe_new σ5 23 8 ((8 : Int).toNat)) 3 6 891 = σ6 at *
  obtain ⟨m7, v7, A7, R7, S7⟩ := ll_mn6 n6
  have k7 : pe_K (pe_mn2 σ6 6 0) 3 = 21 := (S7 3 (by decide)).1.trans k6
  refine b144_106 (k := ?_)
  rw [n6]
  refine b144_117 (k := ?_)
  have s7 : ∀ x, x ≠ 3 → x < 892 → pg_same σ6 (pe_wR (pe_mn2 σ6 6 0) 3 7 892) x := fun x hx hlt => pg_same_trans (S7 x hlt) (hr3 _ 7 892 x hx)
  have r7 : pe_R (pe_wR (pe_mn2 σ6 6 0) 3 7 892) 3 7 = 892 ∧ ∀ j, j ≠ 7 → pe_R (pe_wR (pe_mn2 σ6 6 0) 3 7 892) 3 j = pe_R σ6 3 j := ⟨pe_R_same, fun j hj => by rw [pe_R_nej hj]; exact ((S7 3 (by decide)).2.2 j).2⟩
  have i7 : ∀ j, pe_I (pe_wR (pe_mn2 σ6 6 0) 3 7 892) 3 j = pe_I σ6 3 j := fun j => ((S7 3 (by decide)).2.2 j).1
  have B7 : ∀ q : Int, 0 ≤ q → q < 6 → pe_R (pe_wR (pe_mn2 σ6 6 0) 3 7 892) 892 q = 893 + q.toNat ∧ pe_K (pe_wR (pe_mn2 σ6 6 0) 3 7 892) (893 + q.toNat) = 10 ∧ pe_L (pe_wR (pe_mn2 σ6 6 0) 3 7 892) (893 + q.toNat) = 0 := fun q q0 q6 => ⟨by rw [pe_R_ner (by decide)]; exact (R7 q q0 q6).1, (R7 q q0 q6).2⟩
  have n8 : pe_n (pe_wR (pe_mn2 σ6 6 0) 3 7 892) = 899 := m7
  have u8 : pe_u (pe_wR (pe_mn2 σ6 6 0) 3 7 892) = pe_u σ6 + 6 := v7
  have k8 : pe_K (pe_wR (pe_mn2 σ6 6 0) 3 7 892) 3 = 21 := k7
  have A8 : pe_K (pe_wR (pe_mn2 σ6 6 0) 3 7 892) 892 = 24 ∧ pe_L (pe_wR (pe_mn2 σ6 6 0) 3 7 892) 892 = 6 := A7
  generalize pe_wR (pe_mn2 σ6 6 0) 3 7 892 = σ8 at *
  clear S7 R7
  -- what was, stands
  have c38 : ∀ x, x ≠ 3 → x < 885 → pg_same σ3 σ8 x := fun x hx hlt => pg_same_trans (pg_same_trans (pg_same_trans (s4 x hx hlt) (s5 x hx)) (s6 x hx (by omega))) (s7 x hx (by omega))
  have c48 : ∀ x, x ≠ 3 → x < 891 → pg_same σ4 σ8 x := fun x hx hlt => pg_same_trans (pg_same_trans (s5 x hx) (s6 x hx hlt)) (s7 x hx (by omega))
  have c18 : ∀ x, x ≠ 3 → x < 879 → pg_same σ1 σ8 x := fun x hx hlt => pg_same_trans (pg_same_trans (s2 x hx) (s3 x hx hlt)) (c38 x hx (by omega))
  refine k σ8 n8 (by omega) ?_ (fun x hx => pg_same_trans (s1 x (by omega)) (c18 x (by omega) (by omega)))
  have hn' : pe_n σ1 ≤ pe_n σ8 := by omega
  have hG8 : pg_G 4 (pk_T0 4) (fun _ => False) σ8 pa_0 none pa_h0 := hG.sm pg_W_0 hn' (fun x hx => by
    rcases hx with h | h | h
    · unfold pg_X at h
      exact c18 x (by omega) (by omega)
    · unfold pk_T0 at h
      exact c18 x (by omega) (by omega)
    · exact h.elim)
  have hg8 : ll_g σ8 ll_g0 := fun r hr => if_pos (by omega)
  have g891 : pg_same σ6 σ8 891 := s7 891 (by decide) (by decide)
  have hL8 : ll_L σ8 := ⟨⟨by omega, pk_Fs_4 hG8.F⟩, ⟨k8, by rw [r7.2 0 (by decide), r6.2 0 (by decide), r5]; exact r4.1, by rw [r7.2 1 (by decide), r6.2 1 (by decide), r5]; exact r4.2.1, by rw [r7.2 2 (by decide), r6.2 2 (by decide), r5]; exact r4.2.2, by rw [r7.2 6 (by decide)]; exact r6.1, r7.1⟩, ⟨(c38 879 (by decide) (by decide)).1.trans A3.1.1, (c38 879 (by decide) (by decide)).2.1.trans A3.1.2⟩, ⟨(c48 885 (by decide) (by decide)).1.trans A4.1.1, (c48 885 (by decide) (by decide)).2.1.trans A4.1.2⟩, ⟨g891.1.trans A6.1, g891.2.1.trans A6.2⟩, A8⟩
  have hA : ∀ r, 880 ≤ r → r < 899 → r ≠ 885 → r ≠ 891 → r ≠ 892 → ll_g0 r = -1 := fun r a1 a2 a3 a4 a5 => by
    unfold ll_g0
    rw [if_neg (by omega), if_neg (by omega), if_neg a4, if_neg a5, if_neg (by omega), if_neg (by omega)]
  have mkA : ∀ r, pe_K σ8 r = 10 → pe_L σ8 r = 0 → ll_g0 r = -1 → ll_A σ8 ll_g0 r [] := fun r a1 a2 a3 => ⟨⟨a1, a3⟩, a2, fun i hi => absurd hi (Nat.not_lt_zero _)⟩
  refine ⟨⟨⟨⟨hL8, hg8⟩, rfl, rfl, rfl, rfl, rfl, rfl, rfl, rfl⟩, ⟨?_, ?_, ?_⟩, fun p p0 p5 => ⟨?_, ?_⟩, fun q q0 q3 => ⟨?_, ?_⟩, fun c c0 c1 => ?_⟩, ⟨hG8, pg_W_0⟩, fun x hx => ?_⟩
  · rw [i7, i6]; exact i5.2.1
  · rw [i7, i6]; exact i5.1
  · rw [i7, i6]; exact i5.2.2
  · obtain ⟨x1, x2, x3⟩ := A3.2 p.toNat (by omega)
    rw [show ((p.toNat : Nat) : Int) = p by omega] at x1
    rw [((c38 879 (by decide) (by decide)).2.2 p).2, x1]
    exact mkA _ ((c38 _ (by omega) (by omega)).1.trans x2) ((c38 _ (by omega) (by omega)).2.1.trans x3) (hA _ (by omega) (by omega) (by omega) (by omega) (by omega))
  · obtain ⟨x1, x2, x3⟩ := A4.2 p.toNat (by omega)
    rw [show ((p.toNat : Nat) : Int) = p by omega] at x1
    rw [((c48 885 (by decide) (by decide)).2.2 p).2, x1]
    exact mkA _ ((c48 _ (by omega) (by omega)).1.trans x2) ((c48 _ (by omega) (by omega)).2.1.trans x3) (hA _ (by omega) (by omega) (by omega) (by omega) (by omega))
  · obtain ⟨x1, x2, x3⟩ := B7 q q0 (by omega)
    rw [x1]
    exact mkA _ x2 x3 (hA _ (by omega) (by omega) (by omega) (by omega) (by omega))
  · obtain ⟨x1, x2, x3⟩ := B7 (q + 3) (by omega) (by omega)
    rw [x1]
    exact mkA _ x2 x3 (hA _ (by omega) (by omega) (by omega) (by omega) (by omega))
  · have : c < 0 := c1
    omega
  · have hx' : 4 ≤ x ∧ x < 879 := by
      rcases hx with h | h | h
      · unfold pg_X at h; omega
      · unfold pk_T0 at h; omega
      · exact h.elim
    unfold ll_g0
    rw [if_neg (by omega), if_neg (by omega), if_neg (by omega), if_neg (by omega), if_neg (by omega), if_pos hx']
theorem ll_I_0 : ll_I pa_0 := ⟨fun i i0 i1 => by have : i < 0 := i1; omega, fun n _ _ => Or.inl rfl⟩
end
