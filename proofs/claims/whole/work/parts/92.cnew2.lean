theorem pe_Kn {σ : pe_H} {c w a : Nat} {l : Int} (h : a ≠ pe_n σ) : pe_K (pe_new σ c l w) a = pe_K σ a := if_neg h
theorem pe_Ke {σ : pe_H} {c w a : Nat} {l : Int} (h : a = pe_n σ) : pe_K (pe_new σ c l w) a = c := if_pos h
theorem pe_Ln {σ : pe_H} {c w a : Nat} {l : Int} (h : a ≠ pe_n σ) : pe_L (pe_new σ c l w) a = pe_L σ a := if_neg h
theorem pe_Le {σ : pe_H} {c w a : Nat} {l : Int} (h : a = pe_n σ) : pe_L (pe_new σ c l w) a = l := if_pos h
theorem pe_In {σ : pe_H} {c w a : Nat} {l j : Int} (h : a ≠ pe_n σ) : pe_I (pe_new σ c l w) a j = pe_I σ a j := if_neg h
theorem pe_Ie {σ : pe_H} {c w a : Nat} {l j : Int} (h : a = pe_n σ) : pe_I (pe_new σ c l w) a j = 0 := if_pos h
theorem pe_Rn {σ : pe_H} {c w a : Nat} {l j : Int} (h : a ≠ pe_n σ) : pe_R (pe_new σ c l w) a j = pe_R σ a j := if_neg h
theorem pe_Re {σ : pe_H} {c w a : Nat} {l j : Int} (h : a = pe_n σ) : pe_R (pe_new σ c l w) a j = 0 := if_pos h
section
variable {d r B C : Nat} {Φ : Option pe_V → pe_H → Prop} {σ τ : pe_H}
def pk_o (C : Nat) (σ τ : pe_H) : Prop := pe_n σ ≤ pe_n τ ∧ ∀ x, x < pe_n σ → x ≠ C → pg_same σ τ x
theorem pk_o.trans {σ' : pe_H} (h : pk_o C σ τ) (h' : pk_o C τ σ') : pk_o C σ σ' := ⟨Nat.le_trans h.1 h'.1, fun x hx e => (h.2 x hx e).trans (h'.2 x (Nat.lt_of_lt_of_le hx h.1) e)⟩
theorem pk_o_wR {x : Nat} {j : Int} : pk_o C σ (pe_wR σ C j x) := ⟨Nat.le_refl _, fun _ _ e => pg_same_wR e⟩
theorem pk_o_wI {j v : Int} : pk_o C σ (pe_wI σ C j v) := ⟨Nat.le_refl _, fun _ _ e => pg_same_wI e⟩
theorem pk_o_new {c w : Nat} {l : Int} : pk_o C σ (pe_new σ c l w) := ⟨Nat.le_succ _, fun _ hx _ => pg_sn hx⟩
theorem pk_o_of (hn : pe_n σ ≤ pe_n τ) (h : ∀ x, x < pe_n σ → pg_same σ τ x) : pk_o C σ τ := ⟨hn, fun x hx _ => h x hx⟩
theorem pk_N.o (h : pk_N B σ) (ho : pk_o C σ τ) (hC : C < B ∨ B + 87 ≤ C) : pk_N B τ := by
  obtain ⟨a0, a1, a2, a3, a4⟩ := h
  have hn := ho.1
  have hb : pk_b (B + 1) (σ.1, σ.2.1, σ.2.2) (τ.1, τ.2.1, τ.2.2) → True := fun _ => trivial
  have s : ∀ x, B ≤ x → x < B + 87 → pg_same σ τ x := fun x x0 x1 => ho.2 x (by omega) (by omega)
  have sB := s B (by omega) (by omega)
  have sK : ∀ i, i < 87 → pe_K τ (B + i) = pe_K σ (B + i) ∧ pe_L τ (B + i) = pe_L σ (B + i) := fun i hi => ⟨(s (B + i) (by omega) (by omega)).1, (s (B + i) (by omega) (by omega)).2.1⟩
  refine ⟨?_, fun j j0 j1 => by rw [((s (B + 1) (by omega) (by omega)).2.2 j).2]; exact a1 j j0 j1, fun j j0 j1 => ?_, fun j j0 j1 => ?_, by omega⟩
  · obtain ⟨⟨b1, b2, b3⟩, b, ⟨c1, c2, c3, c4⟩, ⟨d1, d2, d3, d4, d5⟩⟩ := a0
    have s9 := s (B + 9) (by omega) (by omega)
    refine ⟨⟨b1, by rw [sB.1]; exact b2, by omega⟩, ?_, ?_, ?_⟩
    · simp only [fun j => (sB.2.2 j).2, (sK 1 (by decide)).1, (sK 1 (by decide)).2, (sK 2 (by decide)).1, (sK 2 (by decide)).2, (sK 3 (by decide)).1, (sK 3 (by decide)).2, (sK 4 (by decide)).1, (sK 4 (by decide)).2, (sK 5 (by decide)).1, (sK 5 (by decide)).2, (sK 6 (by decide)).1, (sK 6 (by decide)).2, (sK 7 (by decide)).1, (sK 7 (by decide)).2, (sK 8 (by decide)).1, (sK 8 (by decide)).2]
      exact b
    · simp only [fun j => (sB.2.2 j).1]
      exact ⟨c1, c2, c3, c4⟩
    · exact ⟨by rw [s9.1]; exact d1, by rw [(s9.2.2 1).1]; exact d2, by rw [(s9.2.2 0).2]; exact d3, by rw [(sK 10 (by decide)).1]; exact d4, by rw [(sK 10 (by decide)).2]; exact d5⟩
  · obtain ⟨b1, b2⟩ := a2 j j0 j1
    exact ⟨by rw [((s (B + 2) (by omega) (by omega)).2.2 j).2]; exact b1, pk_Fo_sm (fun x x0 x1 => s x (by unfold pk_c at x0; omega) (by unfold pk_c at x1; omega)) b2⟩
  · obtain ⟨⟨b1, b2, b3⟩, e1, e2, e3⟩ := a3 j j0 j1
    have t : ∀ x, (x = pk_q B j ∨ x = pk_q B j + 1 ∨ x = pk_g B j ∨ x = pk_g B j + 1) → pg_same σ τ x := fun x hx => s x (by unfold pk_q pk_g at hx; omega) (by unfold pk_q pk_g at hx; omega)
    refine ⟨⟨by rw [((s (B + 3) (by omega) (by omega)).2.2 j).2]; exact b1, pk_Fq_sm (t _ (Or.inl rfl)) (t _ (Or.inr (Or.inl rfl))) b2, ?_⟩, ⟨by rw [((s (B + 4) (by omega) (by omega)).2.2 j).2]; exact e1, pk_Fq_sm (t _ (Or.inr (Or.inr (Or.inl rfl)))) (t _ (Or.inr (Or.inr (Or.inr rfl)))) e2, ?_⟩⟩
    · rw [((t _ (Or.inl rfl)).2.2 1).1]; exact b3
    · rw [((t _ (Or.inr (Or.inr (Or.inl rfl)))).2.2 1).1]; exact e3
theorem pk_N.F (h : pk_N B σ) : pk_Fm B σ := by
  obtain ⟨⟨⟨b1, b2, b3⟩, b, -⟩, a1, a2, a3, -⟩ := h
  exact ⟨⟨b1, b2⟩, b, a2, fun i i0 i3 => ⟨(a3 i i0 i3).1.1, (a3 i i0 i3).1.2.1⟩, fun i i0 i3 => ⟨(a3 i i0 i3).2.1, (a3 i i0 i3).2.2.1⟩⟩
/-- the machine at the beginning, the shelves at the beginning -/
def pa_0 : pa_M := (fun k => if k = 5 then 8 else 0, fun _ => (fun _ => 0, [], []), fun _ => [], fun _ _ => [])
def pa_h0 : Int → pa_Sh := fun _ => (0, (0, 0), [])
theorem pg_W_0 : pg_W pa_0 none pa_h0 := by
  refine ⟨⟨⟨⟨⟨by decide, by decide⟩, ⟨by decide, by decide⟩, fun c c0 c1 => ?_, fun p _ _ => ?_⟩, fun w hw ch _ _ => ⟨List.nodup_nil, fun c => ⟨fun q => absurd q List.not_mem_nil, fun q => ?_⟩⟩, fun c c0 c1 => ?_, fun c c0 c1 => ?_⟩, by decide, by decide⟩, ⟨fun b hb => (by cases hb), fun d _ _ => ?_⟩⟩
  · have : c < 0 := c1; omega
  · exact ⟨Nat.zero_le _, fun q hq => absurd hq List.not_mem_nil, fun i hi => absurd hi (Nat.not_lt_zero _)⟩
  · have : c < 0 := q.1.2; have := q.1.1; omega
  · have : c < 0 := c1; omega
  · have : c < 0 := c1; omega
  · exact ⟨Or.inl rfl, fun q => absurd (show (0 : Int) = 1 from q) (by decide), fun q => absurd (show (0 : Int) = 2 from q) (by decide)⟩
theorem pk_N.RM {T : Nat → Prop} (h : pk_N B σ) (h9 : T (B + 9)) (h10 : T (B + 10)) (hT : ∀ x, T x → ¬ pk_Z B x) : pk_RM B T σ pa_0 := by
  have hF := h.F
  obtain ⟨⟨-, -, ⟨c1, c2, c3, c4⟩, ⟨d1, d2, d3, d4, d5⟩⟩, a1, a2, a3, -⟩ := h
  refine ⟨fun _ => (0, []), 0, ⟨hF, hT, ⟨c1, c2, c3, c4⟩, ⟨by decide, fun i i0 i1 => absurd i1 (by omega)⟩, fun c c0 c1 => ?_, fun p p0 p5 => ?_, fun ch h0 h3 => ?_⟩, ?_⟩
  · have : c < 0 := c1; omega
  · rw [a1 p p0 p5]
    exact ⟨⟨h9, by rw [d3]; exact h10⟩, d1, d2, by rw [d3]; exact d4, by rw [d3]; exact d5, fun i i0 i1 => absurd i1 (by show ¬ i < (0 : Int); omega)⟩
  · exact ⟨⟨(a3 ch h0 h3).1.2.2, fun i hi => absurd hi (Nat.not_lt_zero _)⟩, (a3 ch h0 h3).2.2.2, fun i hi => absurd hi (Nat.not_lt_zero _)⟩
  · exact Int.le_refl _
/-- the class on the way: i minds -/
def pk_S0 (C : Nat) (σ τ : pe_H) (i : Int) : Prop := (2 ≤ C ∧ pe_K τ C = 8) ∧ (pe_R τ C 0 = C + 1 ∧ pe_R τ C 1 = C + 88) ∧
  (pe_R τ C 2 = C + 175 ∧ pe_K τ (C + 175) = 14 ∧ pe_L τ (C + 175) = 8) ∧ (pe_R τ C 3 = C + 176 ∧ pe_K τ (C + 176) = 15 ∧ pe_L τ (C + 176) = 8) ∧ (pe_R τ C 4 = C + 177 ∧ pe_K τ (C + 177) = 18 ∧ pe_L τ (C + 177) = 8) ∧ (pe_R τ C 5 = C + 178 ∧ pe_K τ (C + 178) = 3) ∧
  (pe_I τ (C + 178) 0 = 0 ∧ pe_I τ (C + 178) 1 = 0 ∧ pe_I τ C 6 = 0) ∧ (∀ j, pe_R τ (C + 176) j = 0 ∧ pe_R τ (C + 177) j = 0) ∧
  (pk_N (C + 1) τ ∧ pk_N (C + 88) τ) ∧ (∀ j : Int, 0 ≤ j → j < i → pe_R τ (C + 175) j = pk_m C j ∧ pk_N (pk_m C j) τ) ∧ ∀ x, x < C → pg_same σ τ x
def pk_T0 (C x : Nat) : Prop := x = C + 178 ∨ x = C + 10 ∨ x = C + 11
theorem pk_S0.G (h : pk_S0 C σ τ 8) (hn : C + 875 ≤ pe_n τ) : pg_G C (pk_T0 C) (fun _ => False) τ pa_0 none pa_h0 := by
  obtain ⟨a1, a2, a3, a4, a5, a6, ⟨a7, a8, a9⟩, b1, ⟨b2, b3⟩, b4, -⟩ := h
  have hT : ∀ x, pk_T0 C x → ¬ pg_Z C x := fun x hx q => by
    rcases q with q | q | q | q | ⟨i, i0, i8, q⟩ <;> (try unfold pk_Z at q) <;> (try unfold pk_m at q) <;> rcases hx with e | e | e <;> omega
  refine ⟨⟨a1, a2, a3, a4, a5, a6, ⟨b2.F, b3.F⟩, fun i i0 i8 => ⟨(b4 i i0 i8).1, (b4 i i0 i8).2.F⟩⟩, ⟨fun x hx => ⟨hT x hx, ?_⟩, fun x hx => hx.elim, hn⟩, ⟨Or.inl rfl, a7, a8⟩, b2.RM (Or.inr (Or.inl rfl)) (Or.inr (Or.inr rfl)) (fun x hx q => hT x hx (Or.inr (Or.inr (Or.inl q)))), ⟨fun _ => a9, fun b hb => (by cases hb)⟩, fun D D0 D8 => ⟨fun _ => ⟨(b1 D).2, (b1 D).1⟩, fun q => absurd (show (0 : Int) = 1 from q) (by decide), fun q => absurd (show (0 : Int) = 2 from q) (by decide)⟩, fun D e _ _ _ _ _ q => absurd (show (0 : Int) = 2 from q) (by decide)⟩
  have hn' : C + 875 ≤ τ.1 := hn
  rcases hx with e | e | e <;> omega
theorem k79 (h2 : 2 ≤ C) (hn : pe_n σ = C + 1) (hK : pe_K σ C = 8) (k : ∀ σ2, pe_n σ2 = C + 875 → pe_u σ2 = pe_u σ + 15606 → pk_S0 C σ σ2 8 → Φ none σ2) : pe_M (d + 4) 79 [.inr (.inr C)] σ Φ := by
  have loop : ∀ (m : Nat) (i : Int) (τ : pe_H), i + m = 8 → 0 ≤ i → pe_n τ = C + 179 + 87 * i.toNat → pe_u τ = pe_u σ + 3142 + 1558 * i.toNat → pk_S0 C σ τ i → pe_X (d + 3) 79 (78, [some (.inr (.inr C)), some (.inl i)], [], τ) Φ := by
    intro m
    induction m with
    | zero =>
      intro i τ hi i0 tn tu t
      have t' := t
      obtain ⟨⟨a1, a2⟩, -, ⟨a3, a4, a5⟩, -⟩ := t
      have e : i = 8 := by omega
      subst e
      refine rb79_78 (w0 := by rw [a3, a5]; unfold pe_in; omega) (h1 := by rw [a3, a4]; omega) (k1 := fun q => ?_) (k2 := fun q => absurd q (by rw [a3, a5]; omega))
      refine rb79_106 (k := ?_)
      exact k τ (by omega) (by omega) t'
    | succ m ih =>
      intro i τ hi i0 tn tu ⟨⟨a1, a2⟩, ⟨b0, b1⟩, ⟨c1, c2, c3⟩, ⟨d1, d2, d3⟩, ⟨e1, e2, e3⟩, ⟨f1, f2⟩, ⟨g1, g2, g3⟩, g4, ⟨g5, g6⟩, g7, g8⟩
      refine rb79_78 (w0 := by rw [c1, c3]; unfold pe_in; omega) (h1 := by rw [c1, c2]; omega) (k1 := fun q => absurd q (by rw [c1, c3]; omega)) (k2 := fun q => ?_)
      refine rb79_87 (k := ?_)
      have em : pk_m C i = pe_n τ := by unfold pk_m; omega
      refine k14 (by omega) (by (simp (disch := omega) only [pe_n_new, pe_u_new, pe_n_wI, pe_u_wI, pe_n_wR, pe_u_wR, pe_K_nw, pe_L_nw, pe_I_nw, pe_R_nw, pe_K_wI, pe_K_wR, pe_L_wI, pe_L_wR, pe_I_wR, pe_R_wI, pe_I_if, pe_R_if, and_self, and_true, true_and, and_false, false_and, if_true, if_false, if_pos, if_neg])) (by rw [pe_K_nw, if_pos (by (simp (disch := omega) only [pe_n_new, pe_u_new, pe_n_wI, pe_u_wI, pe_n_wR, pe_u_wR, pe_K_nw, pe_L_nw, pe_I_nw, pe_R_nw, pe_K_wI, pe_K_wR, pe_L_wI, pe_L_wR, pe_I_wR, pe_R_wI, pe_I_if, pe_R_if, and_self, and_true, true_and, and_false, false_and, if_true, if_false, if_pos, if_neg]))]) (fun x hx j => by rw [pe_I_nw, if_pos (by omega)]) (fun j _ => by rw [pe_R_nw, if_pos rfl]) (fun τ1 n1 u1 q1 s1 => ?_)
      rw [pe_u_new] at u1
      rw [c1]
      have sm1 : ∀ x, x < pe_n τ → pg_same τ τ1 x := fun x hx => (pg_sn hx).trans (s1 x hx)
      have kk : pe_K τ1 (C + 175) = 14 := by rw [(sm1 (C + 175) (by omega)).1]; exact c2
      have ll : pe_L τ1 (C + 175) = 8 := by rw [(sm1 (C + 175) (by omega)).2.1]; exact c3
      refine rb79_99 (h1 := Or.inr (by rw [kk, q1.1.1.2.1]; rfl)) (k := ?_)
      have o1 : pk_o (C + 175) τ (pe_wR τ1 (C + 175) i (pe_n τ)) := (pk_o_of (by omega) sm1).trans pk_o_wR
      have sC := o1.2 C (by omega) (by omega)
      have s6 := o1.2 (C + 176) (by omega) (by omega)
      have s7 := o1.2 (C + 177) (by omega) (by omega)
      have s8 := o1.2 (C + 178) (by omega) (by omega)
      refine ih _ _ (by omega) (by omega) (by (simp (disch := omega) only [pe_n_new, pe_u_new, pe_n_wI, pe_u_wI, pe_n_wR, pe_u_wR, pe_K_nw, pe_L_nw, pe_I_nw, pe_R_nw, pe_K_wI, pe_K_wR, pe_L_wI, pe_L_wR, pe_I_wR, pe_R_wI, pe_I_if, pe_R_if, and_self, and_true, true_and, and_false, false_and, if_true, if_false, if_pos, if_neg]); omega) (by (simp (disch := omega) only [pe_n_new, pe_u_new, pe_n_wI, pe_u_wI, pe_n_wR, pe_u_wR, pe_K_nw, pe_L_nw, pe_I_nw, pe_R_nw, pe_K_wI, pe_K_wR, pe_L_wI, pe_L_wR, pe_I_wR, pe_R_wI, pe_I_if, pe_R_if, and_self, and_true, true_and, and_false, false_and, if_true, if_false, if_pos, if_neg]); omega) ⟨⟨a1, sC.1.trans a2⟩, ⟨((sC.2.2 _).2).trans b0, ((sC.2.2 _).2).trans b1⟩, ⟨((sC.2.2 _).2).trans c1, kk, ll⟩, ⟨((sC.2.2 _).2).trans d1, s6.1.trans d2, s6.2.1.trans d3⟩, ⟨((sC.2.2 _).2).trans e1, s7.1.trans e2, s7.2.1.trans e3⟩, ⟨((sC.2.2 _).2).trans f1, s8.1.trans f2⟩, ⟨((s8.2.2 _).1).trans g1, ((s8.2.2 _).1).trans g2, ((sC.2.2 _).1).trans g3⟩, fun j => ⟨((s6.2.2 _).2).trans (g4 j).1, ((s7.2.2 _).2).trans (g4 j).2⟩, ⟨?_, ?_⟩, fun j j0 j1 => ?_, fun x hx => (g8 x hx).trans (o1.2 x (by omega) (by omega))⟩
      · exact g5.o o1 (Or.inr (by omega))
      · exact g6.o o1 (Or.inr (by omega))
      · by_cases e : j = i
        · subst e
          rw [em]
          exact ⟨pe_R_same, q1.o (C := C + 175) pk_o_wR (Or.inl (by omega))⟩
        · obtain ⟨v1, v2⟩ := g7 j j0 (by omega)
          refine ⟨?_, v2.o o1 (Or.inl (by unfold pk_m; omega))⟩
          rw [pe_R_nej e, ((sm1 (C + 175) (by omega)).2.2 j).2]; exact v1
  refine pe_M_of ck79 (Nat.le_of_ble_eq_true rfl) ?_
  refine rb79_0 (k := ?_)
  refine rb79_4 (k := ?_)
  rw [hn]
  refine k14 (by omega) (by (simp (disch := omega) only [pe_n_new, pe_u_new, pe_n_wI, pe_u_wI, pe_n_wR, pe_u_wR, pe_K_nw, pe_L_nw, pe_I_nw, pe_R_nw, pe_K_wI, pe_K_wR, pe_L_wI, pe_L_wR, pe_I_wR, pe_R_wI, pe_I_if, pe_R_if, and_self, and_true, true_and, and_false, false_and, if_true, if_false, if_pos, if_neg]); omega) (by rw [pe_K_nw, if_pos hn.symm]) (fun x hx j => by rw [pe_I_nw, if_pos (by omega)]) (fun j _ => by rw [pe_R_nw, if_pos hn.symm]) (fun τ1 n1 u1 q1 s1 => ?_)
  rw [pe_u_new] at u1
  have sm1 : ∀ x, x < pe_n σ → pg_same σ τ1 x := fun x hx => (pg_sn hx).trans (s1 x (by omega))
  have K1 : pe_K τ1 C = 8 := (sm1 C (by omega)).1.trans hK
  refine rb79_12 (k := ?_)
  refine rb79_15 (h0 := by (simp (disch := omega) only [pe_n_new, pe_u_new, pe_n_wI, pe_u_wI, pe_n_wR, pe_u_wR, pe_K_nw, pe_L_nw, pe_I_nw, pe_R_nw, pe_K_wI, pe_K_wR, pe_L_wI, pe_L_wR, pe_I_wR, pe_R_wI, pe_I_if, pe_R_if, and_self, and_true, true_and, and_false, false_and, if_true, if_false, if_pos, if_neg]); omega) (k := ?_)
  rw [pe_n_wR, n1]
  refine k14 (B := C + 88) (by omega) (by (simp (disch := omega) only [pe_n_new, pe_u_new, pe_n_wI, pe_u_wI, pe_n_wR, pe_u_wR, pe_K_nw, pe_L_nw, pe_I_nw, pe_R_nw, pe_K_wI, pe_K_wR, pe_L_wI, pe_L_wR, pe_I_wR, pe_R_wI, pe_I_if, pe_R_if, and_self, and_true, true_and, and_false, false_and, if_true, if_false, if_pos, if_neg]); omega) (by rw [pe_K_nw, if_pos (by (simp (disch := omega) only [pe_n_new, pe_u_new, pe_n_wI, pe_u_wI, pe_n_wR, pe_u_wR, pe_K_nw, pe_L_nw, pe_I_nw, pe_R_nw, pe_K_wI, pe_K_wR, pe_L_wI, pe_L_wR, pe_I_wR, pe_R_wI, pe_I_if, pe_R_if, and_self, and_true, true_and, and_false, false_and, if_true, if_false, if_pos, if_neg]); omega)]) (fun x hx j => by rw [pe_I_nw, if_pos (by (simp (disch := omega) only [pe_n_new, pe_u_new, pe_n_wI, pe_u_wI, pe_n_wR, pe_u_wR, pe_K_nw, pe_L_nw, pe_I_nw, pe_R_nw, pe_K_wI, pe_K_wR, pe_L_wI, pe_L_wR, pe_I_wR, pe_R_wI, pe_I_if, pe_R_if, and_self, and_true, true_and, and_false, false_and, if_true, if_false, if_pos, if_neg]); omega)]) (fun j _ => by rw [pe_R_nw, if_pos (by (simp (disch := omega) only [pe_n_new, pe_u_new, pe_n_wI, pe_u_wI, pe_n_wR, pe_u_wR, pe_K_nw, pe_L_nw, pe_I_nw, pe_R_nw, pe_K_wI, pe_K_wR, pe_L_wI, pe_L_wR, pe_I_wR, pe_R_wI, pe_I_if, pe_R_if, and_self, and_true, true_and, and_false, false_and, if_true, if_false, if_pos, if_neg]); omega)]) (fun τ2 n2 u2 q2 s2 => ?_)
  rw [pe_u_new, pe_u_wR] at u2
  have n2 : pe_n τ2 = C + 175 := n2
  have sm2 : ∀ x, x < pe_n τ1 → pg_same (pe_wR τ1 C 0 (C + 1)) τ2 x := fun x hx => (pg_sn (by (simp (disch := omega) only [pe_n_new, pe_u_new, pe_n_wI, pe_u_wI, pe_n_wR, pe_u_wR, pe_K_nw, pe_L_nw, pe_I_nw, pe_R_nw, pe_K_wI, pe_K_wR, pe_L_wI, pe_L_wR, pe_I_wR, pe_R_wI, pe_I_if, pe_R_if, and_self, and_true, true_and, and_false, false_and, if_true, if_false, if_pos, if_neg]); omega)).trans (s2 x (by omega))
  have K2 : pe_K τ2 C = 8 := (sm2 C (by omega)).1.trans K1
  have R2 : pe_R τ2 C 0 = C + 1 := ((sm2 C (by omega)).2.2 0).2.trans pe_R_same
  have o2 : pk_o C τ1 τ2 := pk_o_wR.trans (pk_o_of (by (simp (disch := omega) only [pe_n_new, pe_u_new, pe_n_wI, pe_u_wI, pe_n_wR, pe_u_wR, pe_K_nw, pe_L_nw, pe_I_nw, pe_R_nw, pe_K_wI, pe_K_wR, pe_L_wI, pe_L_wR, pe_I_wR, pe_R_wI, pe_I_if, pe_R_if, and_self, and_true, true_and, and_false, false_and, if_true, if_false, if_pos, if_neg]); omega) sm2)
  clear s1 s2
  refine rb79_23 (k := ?_)
  show pe_X (d + 3) 79 (26, [some (.inr (.inr C)), none], [], pe_wR τ2 C 1 (C + 88)) Φ
  refine rb79_26 (h0 := by (simp (disch := ((try simp only [pe_n_new, pe_n_wR, pe_n_wI]); omega)) only [pe_n_new, pe_u_new, pe_n_wI, pe_u_wI, pe_n_wR, pe_u_wR, pe_Kn, pe_Ke, pe_Ln, pe_Le, pe_In, pe_Ie, pe_Rn, pe_Re, pe_K_wI, pe_K_wR, pe_L_wI, pe_L_wR, pe_I_wR, pe_R_wI, pe_I_same, pe_I_ner, pe_I_nej, pe_R_same, pe_R_ner, pe_R_nej]); exact K2) (k := ?_)
  refine rb79_35 (h0 := by (simp (disch := ((try simp only [pe_n_new, pe_n_wR, pe_n_wI]); omega)) only [pe_n_new, pe_u_new, pe_n_wI, pe_u_wI, pe_n_wR, pe_u_wR, pe_Kn, pe_Ke, pe_Ln, pe_Le, pe_In, pe_Ie, pe_Rn, pe_Re, pe_K_wI, pe_K_wR, pe_L_wI, pe_L_wR, pe_I_wR, pe_R_wI, pe_I_same, pe_I_ner, pe_I_nej, pe_R_same, pe_R_ner, pe_R_nej]); exact K2) (k := ?_)
  refine rb79_44 (h0 := by (simp (disch := ((try simp only [pe_n_new, pe_n_wR, pe_n_wI]); omega)) only [pe_n_new, pe_u_new, pe_n_wI, pe_u_wI, pe_n_wR, pe_u_wR, pe_Kn, pe_Ke, pe_Ln, pe_Le, pe_In, pe_Ie, pe_Rn, pe_Re, pe_K_wI, pe_K_wR, pe_L_wI, pe_L_wR, pe_I_wR, pe_R_wI, pe_I_same, pe_I_ner, pe_I_nej, pe_R_same, pe_R_ner, pe_R_nej]); exact K2) (k := ?_)
  refine rb79_53 (h0 := by (simp (disch := omega) only [pe_n_new, pe_u_new, pe_n_wI, pe_u_wI, pe_n_wR, pe_u_wR, pe_K_nw, pe_L_nw, pe_I_nw, pe_R_nw, pe_K_wI, pe_K_wR, pe_L_wI, pe_L_wR, pe_I_wR, pe_R_wI, pe_I_if, pe_R_if, and_self, and_true, true_and, and_false, false_and, if_true, if_false, if_pos, if_neg]); omega) (k := ?_)
  simp only [pe_n_new, pe_n_wR]
  rw [n2]
  refine pe_M_of ck41 (Nat.le_of_ble_eq_true rfl) ?_
  refine b41_0 (h0 := by omega) (h1 := by rw [pe_K_nw, if_pos (by (simp (disch := omega) only [pe_n_new, pe_u_new, pe_n_wI, pe_u_wI, pe_n_wR, pe_u_wR, pe_K_nw, pe_L_nw, pe_I_nw, pe_R_nw, pe_K_wI, pe_K_wR, pe_L_wI, pe_L_wR, pe_I_wR, pe_R_wI, pe_I_if, pe_R_if, and_self, and_true, true_and, and_false, false_and, if_true, if_false, if_pos, if_neg]); omega)]) (k := ?_)
  refine rb79_63 (h0 := by (simp (disch := ((try simp only [pe_n_new, pe_n_wR, pe_n_wI]); omega)) only [pe_n_new, pe_u_new, pe_n_wI, pe_u_wI, pe_n_wR, pe_u_wR, pe_Kn, pe_Ke, pe_Ln, pe_Le, pe_In, pe_Ie, pe_Rn, pe_Re, pe_K_wI, pe_K_wR, pe_L_wI, pe_L_wR, pe_I_wR, pe_R_wI, pe_I_same, pe_I_ner, pe_I_nej, pe_R_same, pe_R_ner, pe_R_nej]); exact K2) (k := ?_)
  refine rb79_66 (h0 := by (simp (disch := ((try simp only [pe_n_new, pe_n_wR, pe_n_wI]); omega)) only [pe_n_new, pe_u_new, pe_n_wI, pe_u_wI, pe_n_wR, pe_u_wR, pe_Kn, pe_Ke, pe_Ln, pe_Le, pe_In, pe_Ie, pe_Rn, pe_Re, pe_K_wI, pe_K_wR, pe_L_wI, pe_L_wR, pe_I_wR, pe_R_wI, pe_I_same, pe_I_ner, pe_I_nej, pe_R_same, pe_R_ner, pe_R_nej]); exact K2) (k := ?_)
  refine rb79_71 (h0 := by (simp (disch := ((try simp only [pe_n_new, pe_n_wR, pe_n_wI]); omega)) only [pe_n_new, pe_u_new, pe_n_wI, pe_u_wI, pe_n_wR, pe_u_wR, pe_Kn, pe_Ke, pe_Ln, pe_Le, pe_In, pe_Ie, pe_Rn, pe_Re, pe_K_wI, pe_K_wR, pe_L_wI, pe_L_wR, pe_I_wR, pe_R_wI, pe_I_same, pe_I_ner, pe_I_nej, pe_R_same, pe_R_ner, pe_R_nej]); exact K2) (k := ?_)
  refine rb79_76 (k := ?_)
  refine loop 8 0 _ rfl (by decide) (by (simp (disch := ((try simp only [pe_n_new, pe_n_wR, pe_n_wI]); omega)) only [pe_n_new, pe_u_new, pe_n_wI, pe_u_wI, pe_n_wR, pe_u_wR, pe_Kn, pe_Ke, pe_Ln, pe_Le, pe_In, pe_Ie, pe_Rn, pe_Re, pe_K_wI, pe_K_wR, pe_L_wI, pe_L_wR, pe_I_wR, pe_R_wI, pe_I_same, pe_I_ner, pe_I_nej, pe_R_same, pe_R_ner, pe_R_nej]); omega) (by (simp (disch := ((try simp only [pe_n_new, pe_n_wR, pe_n_wI]); omega)) only [pe_n_new, pe_u_new, pe_n_wI, pe_u_wI, pe_n_wR, pe_u_wR, pe_Kn, pe_Ke, pe_Ln, pe_Le, pe_In, pe_Ie, pe_Rn, pe_Re, pe_K_wI, pe_K_wR, pe_L_wI, pe_L_wR, pe_I_wR, pe_R_wI, pe_I_same, pe_I_ner, pe_I_nej, pe_R_same, pe_R_ner, pe_R_nej]); omega) ⟨⟨h2, by (simp (disch := ((try simp only [pe_n_new, pe_n_wR, pe_n_wI]); omega)) only [pe_n_new, pe_u_new, pe_n_wI, pe_u_wI, pe_n_wR, pe_u_wR, pe_Kn, pe_Ke, pe_Ln, pe_Le, pe_In, pe_Ie, pe_Rn, pe_Re, pe_K_wI, pe_K_wR, pe_L_wI, pe_L_wR, pe_I_wR, pe_R_wI, pe_I_same, pe_I_ner, pe_I_nej, pe_R_same, pe_R_ner, pe_R_nej]); exact K2⟩, ⟨by (simp (disch := ((try simp only [pe_n_new, pe_n_wR, pe_n_wI]); omega)) only [pe_n_new, pe_u_new, pe_n_wI, pe_u_wI, pe_n_wR, pe_u_wR, pe_Kn, pe_Ke, pe_Ln, pe_Le, pe_In, pe_Ie, pe_Rn, pe_Re, pe_K_wI, pe_K_wR, pe_L_wI, pe_L_wR, pe_I_wR, pe_R_wI, pe_I_same, pe_I_ner, pe_I_nej, pe_R_same, pe_R_ner, pe_R_nej]); exact R2, by (simp (disch := ((try simp only [pe_n_new, pe_n_wR, pe_n_wI]); omega)) only [pe_n_new, pe_u_new, pe_n_wI, pe_u_wI, pe_n_wR, pe_u_wR, pe_Kn, pe_Ke, pe_Ln, pe_Le, pe_In, pe_Ie, pe_Rn, pe_Re, pe_K_wI, pe_K_wR, pe_L_wI, pe_L_wR, pe_I_wR, pe_R_wI, pe_I_same, pe_I_ner, pe_I_nej, pe_R_same, pe_R_ner, pe_R_nej])⟩, ⟨by (simp (disch := ((try simp only [pe_n_new, pe_n_wR, pe_n_wI]); omega)) only [pe_n_new, pe_u_new, pe_n_wI, pe_u_wI, pe_n_wR, pe_u_wR, pe_Kn, pe_Ke, pe_Ln, pe_Le, pe_In, pe_Ie, pe_Rn, pe_Re, pe_K_wI, pe_K_wR, pe_L_wI, pe_L_wR, pe_I_wR, pe_R_wI, pe_I_same, pe_I_ner, pe_I_nej, pe_R_same, pe_R_ner, pe_R_nej]), by (simp (disch := ((try simp only [pe_n_new, pe_n_wR, pe_n_wI]); omega)) only [pe_n_new, pe_u_new, pe_n_wI, pe_u_wI, pe_n_wR, pe_u_wR, pe_Kn, pe_Ke, pe_Ln, pe_Le, pe_In, pe_Ie, pe_Rn, pe_Re, pe_K_wI, pe_K_wR, pe_L_wI, pe_L_wR, pe_I_wR, pe_R_wI, pe_I_same, pe_I_ner, pe_I_nej, pe_R_same, pe_R_ner, pe_R_nej]), by (simp (disch := ((try simp only [pe_n_new, pe_n_wR, pe_n_wI]); omega)) only [pe_n_new, pe_u_new, pe_n_wI, pe_u_wI, pe_n_wR, pe_u_wR, pe_Kn, pe_Ke, pe_Ln, pe_Le, pe_In, pe_Ie, pe_Rn, pe_Re, pe_K_wI, pe_K_wR, pe_L_wI, pe_L_wR, pe_I_wR, pe_R_wI, pe_I_same, pe_I_ner, pe_I_nej, pe_R_same, pe_R_ner, pe_R_nej])⟩, ⟨by (simp (disch := ((try simp only [pe_n_new, pe_n_wR, pe_n_wI]); omega)) only [pe_n_new, pe_u_new, pe_n_wI, pe_u_wI, pe_n_wR, pe_u_wR, pe_Kn, pe_Ke, pe_Ln, pe_Le, pe_In, pe_Ie, pe_Rn, pe_Re, pe_K_wI, pe_K_wR, pe_L_wI, pe_L_wR, pe_I_wR, pe_R_wI, pe_I_same, pe_I_ner, pe_I_nej, pe_R_same, pe_R_ner, pe_R_nej]), by (simp (disch := ((try simp only [pe_n_new, pe_n_wR, pe_n_wI]); omega)) only [pe_n_new, pe_u_new, pe_n_wI, pe_u_wI, pe_n_wR, pe_u_wR, pe_Kn, pe_Ke, pe_Ln, pe_Le, pe_In, pe_Ie, pe_Rn, pe_Re, pe_K_wI, pe_K_wR, pe_L_wI, pe_L_wR, pe_I_wR, pe_R_wI, pe_I_same, pe_I_ner, pe_I_nej, pe_R_same, pe_R_ner, pe_R_nej]), by (simp (disch := ((try simp only [pe_n_new, pe_n_wR, pe_n_wI]); omega)) only [pe_n_new, pe_u_new, pe_n_wI, pe_u_wI, pe_n_wR, pe_u_wR, pe_Kn, pe_Ke, pe_Ln, pe_Le, pe_In, pe_Ie, pe_Rn, pe_Re, pe_K_wI, pe_K_wR, pe_L_wI, pe_L_wR, pe_I_wR, pe_R_wI, pe_I_same, pe_I_ner, pe_I_nej, pe_R_same, pe_R_ner, pe_R_nej])⟩, ⟨by (simp (disch := ((try simp only [pe_n_new, pe_n_wR, pe_n_wI]); omega)) only [pe_n_new, pe_u_new, pe_n_wI, pe_u_wI, pe_n_wR, pe_u_wR, pe_Kn, pe_Ke, pe_Ln, pe_Le, pe_In, pe_Ie, pe_Rn, pe_Re, pe_K_wI, pe_K_wR, pe_L_wI, pe_L_wR, pe_I_wR, pe_R_wI, pe_I_same, pe_I_ner, pe_I_nej, pe_R_same, pe_R_ner, pe_R_nej]), by (simp (disch := ((try simp only [pe_n_new, pe_n_wR, pe_n_wI]); omega)) only [pe_n_new, pe_u_new, pe_n_wI, pe_u_wI, pe_n_wR, pe_u_wR, pe_Kn, pe_Ke, pe_Ln, pe_Le, pe_In, pe_Ie, pe_Rn, pe_Re, pe_K_wI, pe_K_wR, pe_L_wI, pe_L_wR, pe_I_wR, pe_R_wI, pe_I_same, pe_I_ner, pe_I_nej, pe_R_same, pe_R_ner, pe_R_nej]), by (simp (disch := ((try simp only [pe_n_new, pe_n_wR, pe_n_wI]); omega)) only [pe_n_new, pe_u_new, pe_n_wI, pe_u_wI, pe_n_wR, pe_u_wR, pe_Kn, pe_Ke, pe_Ln, pe_Le, pe_In, pe_Ie, pe_Rn, pe_Re, pe_K_wI, pe_K_wR, pe_L_wI, pe_L_wR, pe_I_wR, pe_R_wI, pe_I_same, pe_I_ner, pe_I_nej, pe_R_same, pe_R_ner, pe_R_nej])⟩, ⟨by (simp (disch := ((try simp only [pe_n_new, pe_n_wR, pe_n_wI]); omega)) only [pe_n_new, pe_u_new, pe_n_wI, pe_u_wI, pe_n_wR, pe_u_wR, pe_Kn, pe_Ke, pe_Ln, pe_Le, pe_In, pe_Ie, pe_Rn, pe_Re, pe_K_wI, pe_K_wR, pe_L_wI, pe_L_wR, pe_I_wR, pe_R_wI, pe_I_same, pe_I_ner, pe_I_nej, pe_R_same, pe_R_ner, pe_R_nej]), by (simp (disch := ((try simp only [pe_n_new, pe_n_wR, pe_n_wI]); omega)) only [pe_n_new, pe_u_new, pe_n_wI, pe_u_wI, pe_n_wR, pe_u_wR, pe_Kn, pe_Ke, pe_Ln, pe_Le, pe_In, pe_Ie, pe_Rn, pe_Re, pe_K_wI, pe_K_wR, pe_L_wI, pe_L_wR, pe_I_wR, pe_R_wI, pe_I_same, pe_I_ner, pe_I_nej, pe_R_same, pe_R_ner, pe_R_nej])⟩, ⟨by (simp (disch := ((try simp only [pe_n_new, pe_n_wR, pe_n_wI]); omega)) only [pe_n_new, pe_u_new, pe_n_wI, pe_u_wI, pe_n_wR, pe_u_wR, pe_Kn, pe_Ke, pe_Ln, pe_Le, pe_In, pe_Ie, pe_Rn, pe_Re, pe_K_wI, pe_K_wR, pe_L_wI, pe_L_wR, pe_I_wR, pe_R_wI, pe_I_same, pe_I_ner, pe_I_nej, pe_R_same, pe_R_ner, pe_R_nej]), by (simp (disch := ((try simp only [pe_n_new, pe_n_wR, pe_n_wI]); omega)) only [pe_n_new, pe_u_new, pe_n_wI, pe_u_wI, pe_n_wR, pe_u_wR, pe_Kn, pe_Ke, pe_Ln, pe_Le, pe_In, pe_Ie, pe_Rn, pe_Re, pe_K_wI, pe_K_wR, pe_L_wI, pe_L_wR, pe_I_wR, pe_R_wI, pe_I_same, pe_I_ner, pe_I_nej, pe_R_same, pe_R_ner, pe_R_nej]), by (simp (disch := ((try simp only [pe_n_new, pe_n_wR, pe_n_wI]); omega)) only [pe_n_new, pe_u_new, pe_n_wI, pe_u_wI, pe_n_wR, pe_u_wR, pe_Kn, pe_Ke, pe_Ln, pe_Le, pe_In, pe_Ie, pe_Rn, pe_Re, pe_K_wI, pe_K_wR, pe_L_wI, pe_L_wR, pe_I_wR, pe_R_wI, pe_I_same, pe_I_ner, pe_I_nej, pe_R_same, pe_R_ner, pe_R_nej])⟩, fun j => ⟨by (simp (disch := ((try simp only [pe_n_new, pe_n_wR, pe_n_wI]); omega)) only [pe_n_new, pe_u_new, pe_n_wI, pe_u_wI, pe_n_wR, pe_u_wR, pe_Kn, pe_Ke, pe_Ln, pe_Le, pe_In, pe_Ie, pe_Rn, pe_Re, pe_K_wI, pe_K_wR, pe_L_wI, pe_L_wR, pe_I_wR, pe_R_wI, pe_I_same, pe_I_ner, pe_I_nej, pe_R_same, pe_R_ner, pe_R_nej]), by (simp (disch := ((try simp only [pe_n_new, pe_n_wR, pe_n_wI]); omega)) only [pe_n_new, pe_u_new, pe_n_wI, pe_u_wI, pe_n_wR, pe_u_wR, pe_Kn, pe_Ke, pe_Ln, pe_Le, pe_In, pe_Ie, pe_Rn, pe_Re, pe_K_wI, pe_K_wR, pe_L_wI, pe_L_wR, pe_I_wR, pe_R_wI, pe_I_same, pe_I_ner, pe_I_nej, pe_R_same, pe_R_ner, pe_R_nej])⟩, ⟨?_, ?_⟩, fun j j0 j1 => absurd j1 (by omega), fun x hx => ?_⟩
  · exact (q1.o o2 (Or.inl (by omega))).o (C := C) ⟨by (simp (disch := ((try simp only [pe_n_new, pe_n_wR, pe_n_wI]); omega)) only [pe_n_new, pe_u_new, pe_n_wI, pe_u_wI, pe_n_wR, pe_u_wR, pe_Kn, pe_Ke, pe_Ln, pe_Le, pe_In, pe_Ie, pe_Rn, pe_Re, pe_K_wI, pe_K_wR, pe_L_wI, pe_L_wR, pe_I_wR, pe_R_wI, pe_I_same, pe_I_ner, pe_I_nej, pe_R_same, pe_R_ner, pe_R_nej]); omega, fun x hx e => ⟨by (simp (disch := ((try simp only [pe_n_new, pe_n_wR, pe_n_wI]); omega)) only [pe_n_new, pe_u_new, pe_n_wI, pe_u_wI, pe_n_wR, pe_u_wR, pe_Kn, pe_Ke, pe_Ln, pe_Le, pe_In, pe_Ie, pe_Rn, pe_Re, pe_K_wI, pe_K_wR, pe_L_wI, pe_L_wR, pe_I_wR, pe_R_wI, pe_I_same, pe_I_ner, pe_I_nej, pe_R_same, pe_R_ner, pe_R_nej]), by (simp (disch := ((try simp only [pe_n_new, pe_n_wR, pe_n_wI]); omega)) only [pe_n_new, pe_u_new, pe_n_wI, pe_u_wI, pe_n_wR, pe_u_wR, pe_Kn, pe_Ke, pe_Ln, pe_Le, pe_In, pe_Ie, pe_Rn, pe_Re, pe_K_wI, pe_K_wR, pe_L_wI, pe_L_wR, pe_I_wR, pe_R_wI, pe_I_same, pe_I_ner, pe_I_nej, pe_R_same, pe_R_ner, pe_R_nej]), fun j => ⟨by (simp (disch := ((try simp only [pe_n_new, pe_n_wR, pe_n_wI]); omega)) only [pe_n_new, pe_u_new, pe_n_wI, pe_u_wI, pe_n_wR, pe_u_wR, pe_Kn, pe_Ke, pe_Ln, pe_Le, pe_In, pe_Ie, pe_Rn, pe_Re, pe_K_wI, pe_K_wR, pe_L_wI, pe_L_wR, pe_I_wR, pe_R_wI, pe_I_same, pe_I_ner, pe_I_nej, pe_R_same, pe_R_ner, pe_R_nej]), by (simp (disch := ((try simp only [pe_n_new, pe_n_wR, pe_n_wI]); omega)) only [pe_n_new, pe_u_new, pe_n_wI, pe_u_wI, pe_n_wR, pe_u_wR, pe_Kn, pe_Ke, pe_Ln, pe_Le, pe_In, pe_Ie, pe_Rn, pe_Re, pe_K_wI, pe_K_wR, pe_L_wI, pe_L_wR, pe_I_wR, pe_R_wI, pe_I_same, pe_I_ner, pe_I_nej, pe_R_same, pe_R_ner, pe_R_nej])⟩⟩⟩ (Or.inl (by omega))
  · exact q2.o (C := C) ⟨by (simp (disch := ((try simp only [pe_n_new, pe_n_wR, pe_n_wI]); omega)) only [pe_n_new, pe_u_new, pe_n_wI, pe_u_wI, pe_n_wR, pe_u_wR, pe_Kn, pe_Ke, pe_Ln, pe_Le, pe_In, pe_Ie, pe_Rn, pe_Re, pe_K_wI, pe_K_wR, pe_L_wI, pe_L_wR, pe_I_wR, pe_R_wI, pe_I_same, pe_I_ner, pe_I_nej, pe_R_same, pe_R_ner, pe_R_nej]); omega, fun x hx e => ⟨by (simp (disch := ((try simp only [pe_n_new, pe_n_wR, pe_n_wI]); omega)) only [pe_n_new, pe_u_new, pe_n_wI, pe_u_wI, pe_n_wR, pe_u_wR, pe_Kn, pe_Ke, pe_Ln, pe_Le, pe_In, pe_Ie, pe_Rn, pe_Re, pe_K_wI, pe_K_wR, pe_L_wI, pe_L_wR, pe_I_wR, pe_R_wI, pe_I_same, pe_I_ner, pe_I_nej, pe_R_same, pe_R_ner, pe_R_nej]), by (simp (disch := ((try simp only [pe_n_new, pe_n_wR, pe_n_wI]); omega)) only [pe_n_new, pe_u_new, pe_n_wI, pe_u_wI, pe_n_wR, pe_u_wR, pe_Kn, pe_Ke, pe_Ln, pe_Le, pe_In, pe_Ie, pe_Rn, pe_Re, pe_K_wI, pe_K_wR, pe_L_wI, pe_L_wR, pe_I_wR, pe_R_wI, pe_I_same, pe_I_ner, pe_I_nej, pe_R_same, pe_R_ner, pe_R_nej]), fun j => ⟨by (simp (disch := ((try simp only [pe_n_new, pe_n_wR, pe_n_wI]); omega)) only [pe_n_new, pe_u_new, pe_n_wI, pe_u_wI, pe_n_wR, pe_u_wR, pe_Kn, pe_Ke, pe_Ln, pe_Le, pe_In, pe_Ie, pe_Rn, pe_Re, pe_K_wI, pe_K_wR, pe_L_wI, pe_L_wR, pe_I_wR, pe_R_wI, pe_I_same, pe_I_ner, pe_I_nej, pe_R_same, pe_R_ner, pe_R_nej]), by (simp (disch := ((try simp only [pe_n_new, pe_n_wR, pe_n_wI]); omega)) only [pe_n_new, pe_u_new, pe_n_wI, pe_u_wI, pe_n_wR, pe_u_wR, pe_Kn, pe_Ke, pe_Ln, pe_Le, pe_In, pe_Ie, pe_Rn, pe_Re, pe_K_wI, pe_K_wR, pe_L_wI, pe_L_wR, pe_I_wR, pe_R_wI, pe_I_same, pe_I_ner, pe_I_nej, pe_R_same, pe_R_ner, pe_R_nej])⟩⟩⟩ (Or.inl (by omega))
  · exact (sm1 x (by omega)).trans ((o2.2 x (by omega) (by omega)).trans ⟨by (simp (disch := ((try simp only [pe_n_new, pe_n_wR, pe_n_wI]); omega)) only [pe_n_new, pe_u_new, pe_n_wI, pe_u_wI, pe_n_wR, pe_u_wR, pe_Kn, pe_Ke, pe_Ln, pe_Le, pe_In, pe_Ie, pe_Rn, pe_Re, pe_K_wI, pe_K_wR, pe_L_wI, pe_L_wR, pe_I_wR, pe_R_wI, pe_I_same, pe_I_ner, pe_I_nej, pe_R_same, pe_R_ner, pe_R_nej]), by (simp (disch := ((try simp only [pe_n_new, pe_n_wR, pe_n_wI]); omega)) only [pe_n_new, pe_u_new, pe_n_wI, pe_u_wI, pe_n_wR, pe_u_wR, pe_Kn, pe_Ke, pe_Ln, pe_Le, pe_In, pe_Ie, pe_Rn, pe_Re, pe_K_wI, pe_K_wR, pe_L_wI, pe_L_wR, pe_I_wR, pe_R_wI, pe_I_same, pe_I_ner, pe_I_nej, pe_R_same, pe_R_ner, pe_R_nej]), fun j => ⟨by (simp (disch := ((try simp only [pe_n_new, pe_n_wR, pe_n_wI]); omega)) only [pe_n_new, pe_u_new, pe_n_wI, pe_u_wI, pe_n_wR, pe_u_wR, pe_Kn, pe_Ke, pe_Ln, pe_Le, pe_In, pe_Ie, pe_Rn, pe_Re, pe_K_wI, pe_K_wR, pe_L_wI, pe_L_wR, pe_I_wR, pe_R_wI, pe_I_same, pe_I_ner, pe_I_nej, pe_R_same, pe_R_ner, pe_R_nej]), by (simp (disch := ((try simp only [pe_n_new, pe_n_wR, pe_n_wI]); omega)) only [pe_n_new, pe_u_new, pe_n_wI, pe_u_wI, pe_n_wR, pe_u_wR, pe_Kn, pe_Ke, pe_Ln, pe_Le, pe_In, pe_Ie, pe_Rn, pe_Re, pe_K_wI, pe_K_wR, pe_L_wI, pe_L_wR, pe_I_wR, pe_R_wI, pe_I_same, pe_I_ner, pe_I_nej, pe_R_same, pe_R_ner, pe_R_nej])⟩⟩)
end
