/-! WHO IS TOLD, what stays -/
theorem pa_wf0_cw {a : pa_M} {c : Int} {v : pa_C} (h : pa_wf0 a) (hv : pa_wfc v) : pa_wf0 (pa_cw a c v) := ⟨h.1, h.2.1, fun i h0 h1 => by
  by_cases e : i = c
  · rw [e, pa_cw_same]; exact hv
  · rw [pa_cw_ne e]; exact h.2.2.1 i h0 h1, h.2.2.2⟩
theorem pa_told_wf {a : pa_M} (h : pa_wf3 a) : ∀ (n : Nat) (c : Int) (v : pa_C), pa_told a n c v → pa_wfc v ∧ (v.1 2 = 1 ∨ v.1 2 = 7) := by
  intro n
  induction n with
  | zero => intro c v hv; exact hv.elim
  | succ n ih =>
    rintro c v ⟨⟨h0, h1, h5⟩, o, ho, h6, rfl⟩
    have hc := h.1.2.2.1 c h0 h1
    have ht := (h.2.2 c h0 h1).2 h5
    have hwo : pa_wfc o := by
      rcases ho with rfl | ho
      · exact h.1.2.2.1 _ ht.1 ht.2
      · exact (ih _ _ ho).1
    have h2 := pa_on2 (a.2.1 c)
    refine ⟨pa_have_wf (pa_on_wf hc (by omega)) (by omega) hwo, ?_⟩
    rcases pa_have_st (pa_on (a.2.1 c)) o with e | e <;> omega
theorem pa_mid_wf {a s : pa_M} (h : pa_wf3 a) (hm : pa_mid a s) : pa_wf3 s := by
  obtain ⟨m1, m2, m3⟩ := hm
  refine ⟨⟨by rw [m1]; exact h.1.1, by rw [m1]; exact h.1.2.1, fun c h0 h1 => ?_, by rw [m2]; exact h.1.2.2.2⟩, fun w hw ch h0 h3 => ?_, fun c h0 h1 => ?_⟩
  · rw [m1] at h1
    rcases m3 c with e | ⟨n, e⟩
    · rw [e]; exact h.1.2.2.1 c h0 h1
    · exact (pa_told_wf h n c _ e).1
  · rw [m2, m1]
    obtain ⟨q1, q2⟩ := h.2.1 w hw ch h0 h3
    refine ⟨q1, fun c => ?_⟩
    rw [q2 c]
    rcases m3 c with e | ⟨n, e⟩
    · rw [e]
    · have h5 := (pa_told_5 e).2.1
      have h17 := (pa_told_wf h n c _ e).2
      constructor
      · rintro ⟨-, q, -⟩; omega
      · rintro ⟨-, q, -⟩; omega
  · rw [m1] at h1 ⊢
    rcases m3 c with e | ⟨n, e⟩
    · rw [e]; exact h.2.2 c h0 h1
    · have h17 := (pa_told_wf h n c _ e).2
      exact ⟨fun q => by omega, fun q => by omega⟩
theorem pa_settle_wf {a : pa_M} (h : pa_wf3 a) : pa_wf (pa_settle a) := (pa_mid_wf h (pa_settle_mid a)).wf (pa_settle_max a)
theorem pa_step_wf {a : pa_M} {who : Int} {cl : Bool} (h : pa_wf a) (hwho : 0 ≤ who ∧ who < a.1 4) (hs1 : (a.2.1 who).1 2 < 3) : pa_wf (pa_step a who cl) := by
  obtain ⟨k1, k2, k3, k4, k5⟩ := pa_st1_wf (cl := cl) h.w3 hwho hs1
  unfold pa_step
  split
  · exact pa_settle_wf k1
  · exact k1.wf ((k5 h.2.2.2).max (by omega))
theorem pa_step_1 {a : pa_M} {who : Int} {cl : Bool} (h : pa_wf a) (hwho : 0 ≤ who ∧ who < a.1 4) (hs1 : (a.2.1 who).1 2 < 3) : (pa_step a who cl).1 = a.1 ∧ (pa_step a who cl).2.2.1 = a.2.2.1 := by
  obtain ⟨k1, k2, k3, k4, k5⟩ := pa_st1_wf (cl := cl) h.w3 hwho hs1
  unfold pa_step
  split
  · exact ⟨k2, k3⟩
  · exact ⟨k2, k3⟩
/-- one who could go and isn't at it stays as he is -/
theorem pa_step_else {a : pa_M} {who c : Int} {cl : Bool} (h : pa_wf a) (hwho : 0 ≤ who ∧ who < a.1 4) (hs1 : (a.2.1 who).1 2 < 3) (hc : c ≠ who) (hc2 : (a.2.1 c).1 2 ≤ 2) : (pa_step a who cl).2.1 c = a.2.1 c := by
  obtain ⟨k1, k2, k3, k4, k5⟩ := pa_st1_wf (cl := cl) h.w3 hwho hs1
  have e := k4 c hc hc2
  unfold pa_step
  split
  · rcases (pa_settle_mid (pa_st1 a who cl)).2.2 c with q | ⟨n, q⟩
    · rw [q, e]
    · have := (pa_told_5 q).2.1
      rw [e] at this
      omega
  · exact e
def pa_J (a : pa_M) : Int := pa_cnt (fun c => decide ((a.2.1 c).1 2 = 5)) (a.1 4).toNat
theorem pa_cnt_b (p : Int → Bool) : ∀ n : Nat, 0 ≤ pa_cnt p n ∧ pa_cnt p n ≤ n
  | 0 => by unfold pa_cnt; omega
  | n + 1 => by
    have := pa_cnt_b p n
    unfold pa_cnt
    split <;> omega
theorem pa_cnt_eq {p q : Int → Bool} : ∀ n : Nat, (∀ c : Int, 0 ≤ c → c < n → p c = q c) → pa_cnt p n = pa_cnt q n
  | 0, _ => rfl
  | n + 1, h => by
    unfold pa_cnt
    rw [pa_cnt_eq n (fun c h0 h1 => h c h0 (by omega)), h n (by omega) (by omega)]
theorem pa_cnt_less {p q : Int → Bool} {c : Int} : ∀ n : Nat, 0 ≤ c → c < n → (∀ i, i ≠ c → q i = p i) → p c = true → q c = false → pa_cnt q n = pa_cnt p n - 1
  | 0, h0, h1, _, _, _ => by omega
  | n + 1, h0, h1, h, hp, hq => by
    unfold pa_cnt
    by_cases e : c = n
    · subst e
      rw [pa_cnt_eq (p := q) (q := p) n (fun i _ hi => h i (by omega)), hp, hq]
      simp <;> omega
    · rw [pa_cnt_less n h0 (by omega) h hp hq, h n (by omega)]
      omega
theorem pa_cnt_not {p : Int → Bool} {c : Int} : ∀ n : Nat, 0 ≤ c → c < n → p c = false → pa_cnt p n ≤ n - 1
  | 0, h0, h1, _ => by omega
  | n + 1, h0, h1, h => by
    unfold pa_cnt
    by_cases e : c = n
    · subst e
      have := pa_cnt_b p n
      rw [h]
      simp <;> omega
    · have := pa_cnt_not n h0 (by omega) h
      split <;> omega
/-! THE CLASS: tellJoining -/
section
variable {B : Nat} {T : Nat → Prop} {a : pa_M}
theorem k37 (hwf : pa_wf3 a) : ∀ (m : Nat) (d : Nat) (Φ : Option pe_V → pe_H → Prop) (σ : pe_H) (s : pa_M) (e L : Int), pk_RM B T σ s → pa_mid a s → 0 ≤ e → e < a.1 4 → 6 ≤ (s.2.1 e).1 2 → 0 ≤ L → L + m = 8 → L + pa_J s ≤ 7 →
    (∀ σ' s', pk_frI (pk_Zs B) σ σ' → pe_I σ' B 7 = pe_I σ B 7 → pk_RM B T σ' s' → pa_mid a s' → pa_J s' ≤ pa_J s → (∀ c, (s.2.1 c).1 2 ≠ 5 → s'.2.1 c = s.2.1 c) → (∀ c, 0 ≤ c → c < a.1 4 → (s'.2.1 c).1 2 = 5 → 6 ≤ (s'.2.1 ((s'.2.1 c).1 7)).1 2 → (s'.2.1 c).1 7 ≠ e ∧ 6 ≤ (s.2.1 ((s'.2.1 c).1 7)).1 2) → Φ none σ') →
    pe_M (d + 3 + m) 37 [.inr (.inr B), .inl e, .inl L] σ Φ
  | 0, d, Φ, σ, s, e, L, hM, hm, he0, he1, he6, hL0, hL8, hJ, k => by
    have := (pa_cnt_b (fun c => decide ((s.2.1 c).1 2 = 5)) (s.1 4).toNat).1
    unfold pa_J at hJ
    omega
  | m + 1, d, Φ, σ, s, e, L, hM, hm, he0, he1, he6, hL0, hL8, hJ, k => by
    have h8 := hwf.1.1
    have hF := hM.F
    refine pe_M_of (d := d + 3 + m) ck37 (Nat.le_of_ble_eq_true rfl) ?_
    have hJ0 : 0 ≤ pa_J s := (pa_cnt_b (fun c => decide ((s.2.1 c).1 2 = 5)) (s.1 4).toNat).1
    refine b37_0 (k1 := fun _ => ?_) (k2 := fun q => by omega)
    refine b37_7 (k := ?_)
    have loop : ∀ (r : Nat) (i : Int) (σ1 : pe_H) (s1 : pa_M) (o4 : Option pe_V), i + r = a.1 4 → 0 ≤ i → pk_frI (pk_Zs B) σ σ1 → pe_I σ1 B 7 = pe_I σ B 7 → pk_RM B T σ1 s1 → pa_mid a s1 → pa_J s1 ≤ pa_J s → (∀ c, (s.2.1 c).1 2 ≠ 5 → s1.2.1 c = s.2.1 c) → (∀ c, 0 ≤ c → c < a.1 4 → (s1.2.1 c).1 2 = 5 → 6 ≤ (s1.2.1 ((s1.2.1 c).1 7)).1 2 → ((s1.2.1 c).1 7 = e → i ≤ c) ∧ ((s1.2.1 c).1 7 ≠ e → 6 ≤ (s.2.1 ((s1.2.1 c).1 7)).1 2)) →
        pe_X (d + 3 + m) 37 (9, [some (.inr (.inr B)), some (.inl e), some (.inl L), some (.inl i), o4], [], σ1) Φ := by
      intro r
      induction r with
      | zero =>
        intro i σ1 s1 o4 hi hi0 g1 g2 g3 g4 g5 g6 g7
        have hF1 := g3.F
        have hc := g3.cnt.1
        rw [g4.1] at hc
        refine b37_9 (k1 := fun _ => ?_) (k2 := fun q => by omega)
        refine b37_82 (k := ?_)
        refine k σ1 s1 g1 g2 g3 g4 g5 g6 (fun c c0 c1 c5 c6 => ?_)
        have q := g7 c c0 c1 c5 c6
        have : (s1.2.1 c).1 7 ≠ e := fun q2 => by have := q.1 q2; omega
        exact ⟨this, q.2 this⟩
      | succ r ih =>
        intro i σ1 s1 o4 hi hi0 g1 g2 g3 g4 g5 g6 g7
        have hF1 := g3.F
        have hw1 := pa_mid_wf hwf g4
        have hc := g3.cnt.1
        rw [g4.1] at hc
        have e14 : s1.1 4 = a.1 4 := by rw [g4.1]
        have hi1 : i < s1.1 4 := by rw [g4.1]; omega
        have hoi := g3.o hw1.1 hi0 hi1
        obtain ⟨-, i2, -, -, -, -, i7⟩ := g3.i hi0 hi1
        have hwi := hw1.1.2.2.1 i hi0 hi1
        have hb2 := hwi.1.2.1
        have hnext : ((s1.2.1 i).1 2 = 5 → (s1.2.1 i).1 7 ≠ e) → ∀ o4, pe_X (d + 3 + m) 37 (76, [some (.inr (.inr B)), some (.inl e), some (.inl L), some (.inl i), o4], [], σ1) Φ := fun hno o4 => by
          refine b37_76 (k := ?_)
          refine ih (i + 1) σ1 s1 _ (by omega) (by omega) g1 g2 g3 g4 g5 g6 (fun c c0 c1 c5 c6 => ?_)
          have q := g7 c c0 c1 c5 c6
          refine ⟨fun q2 => ?_, q.2⟩
          have := q.1 q2
          have : c ≠ i := fun e1 => by subst e1; exact hno c5 q2
          omega
        refine b37_9 (k1 := fun q => by omega) (k2 := fun _ => ?_)
        refine b37_17 (k1 := fun q => ?_) (k2 := fun q => ?_)
        · exact hnext (fun q2 => by omega) _
        · have h5 : (s1.2.1 i).1 2 = 5 := by omega
          have ht := (hw1.2.2 i hi0 hi1).2 h5
          refine b37_34 (k1 := fun q2 => ?_) (k2 := fun q2 => ?_)
          · exact hnext (fun _ => by omega) _
          · have h7 : (s1.2.1 i).1 7 = e := by omega
            have hes : s1.2.1 e = s.2.1 e := g6 e (by omega)
            have hei : e ≠ i := fun e1 => by subst e1; rw [hes] at h5; omega
            have ht6 : 6 ≤ (s1.2.1 ((s1.2.1 i).1 7)).1 2 := by rw [h7, hes]; exact he6
            have g4' := pa_mid_tell g4 hi0 (by omega) h5 ht6
            rw [h7] at g4'
            refine b37_43 (k := ?_)
            refine pe_M.up (k8M (d := 0) g3 hw1.1.w9 hi0 hi1 (fun σ2 e1 e2 e3 => ?_)) (by omega)
            have hF2 := e3.F
            have hw2 : pa_wf0 (pa_cw s1 i (pa_on (s1.2.1 i))) := pa_wf0_cw hw1.1 (pa_on_wf hwi (by omega))
            have ho2 := e3.o hw2 hi0 hi1
            refine b37_48 (k := ?_)
            refine pe_M.up (k36 (d := 0) e3 hw2 hi0 hi1 (by rw [pa_cw_same, pa_on2]; decide) he0 (by show e < s1.1 4; rw [g4.1]; exact he1) (by rw [pa_cw_ne hei, hes]; exact he6) (fun σ3 f1 f2 f3 => ?_)) (by omega)
            rw [pa_cw_same, pa_cw_ne hei, pa_cw_cw] at f3
            generalize hs2 : pa_cw s1 i (pa_have (pa_on (s1.2.1 i)) (s1.2.1 e)) = s2 at g4' f3
            have hw3 := pa_mid_wf hwf g4'
            have hF3 := f3.F
            have hi2 : i < s2.1 4 := by rw [g4'.1]; omega
            have ho3 := f3.o hw3.1 hi0 hi2
            have hsi : s2.2.1 i = pa_have (pa_on (s1.2.1 i)) (s1.2.1 e) := by rw [← hs2, pa_cw_same]
            have hsn : ∀ c, c ≠ i → s2.2.1 c = s1.2.1 c := fun c hc => by rw [← hs2, pa_cw_ne hc]
            have hst : (s2.2.1 i).1 2 ≠ 5 := by
              rw [hsi]
              have := pa_on2 (s1.2.1 i)
              rcases pa_have_st (pa_on (s1.2.1 i)) (s1.2.1 e) with q3 | q3 <;> omega
            have hJ2 : pa_J s2 = pa_J s1 - 1 := by
              unfold pa_J
              rw [g4'.1, g4.1]
              exact pa_cnt_less _ hi0 (by omega) (fun c hc => by rw [hsn c hc]) (by simp [h5]) (by simp [hst])
            have gfr := pk_frI_trans (pk_frI_trans g1 e1) f1
            have g7b : pe_I σ3 B 7 = pe_I σ B 7 := f2.trans (e2.trans g2)
            have hun : ∀ c, (s.2.1 c).1 2 ≠ 5 → s2.2.1 c = s.2.1 c := fun c hc => by
              have q3 := g6 c hc
              rw [hsn c (fun e1 => by subst e1; rw [q3] at h5; exact hc h5)]
              exact q3
            refine b37_60 (k := ?_)
            refine pe_M.up (k3 (d := 0) ho3 (f3.i hi0 hi2).2.1 (hw3.1.2.2.1 i hi0 hi2).1.2.1 (fun q3 => ?_) (fun q3 => ?_)) (by omega)
            · refine b37_65 (k1 := fun q4 => by omega) (k2 := fun _ => ?_)
              refine b37_68 (k := ?_)
              refine k37 hwf m d _ σ3 s2 i (L + 1) f3 g4' hi0 (by omega) q3 (by omega) (by omega) (by omega) (fun σ4 s4 t1 t2 t3 t4 t5 t6 t7 => ?_)
              have hF4 := t3.F
              refine b37_76 (k := ?_)
              refine ih (i + 1) σ4 s4 _ (by omega) (by omega) (pk_frI_trans gfr t1) (t2.trans g7b) t3 t4 (by omega) (fun c hc => by rw [t6 c (by rw [hun c hc]; exact hc)]; exact hun c hc) (fun c c0 c1 c5 c6 => ?_)
              obtain ⟨u1, u2⟩ := t7 c c0 c1 c5 c6
              have hci : c ≠ i := fun e1 => by
                subst e1
                have := t6 c hst
                rw [this] at c5
                exact hst c5
              have hc2 : s4.2.1 c = s1.2.1 c := by
                have : (s2.2.1 c).1 2 = 5 := Classical.byContradiction fun q4 => by
                  rw [t6 c q4] at c5
                  exact q4 c5
                rcases t4.2.2 c with q4 | ⟨n4, q4⟩
                · rcases g4.2.2 c with q5 | ⟨n5, q5⟩
                  · rw [q4, q5]
                  · rw [hsn c hci] at this
                    exact absurd this (pa_told_5 q5).2.2
                · exact absurd c5 (pa_told_5 q4).2.2
              rw [hc2] at u1 u2 c5 c6 ⊢
              rw [hsn _ u1] at u2
              have q := g7 c c0 c1 c5 u2
              exact ⟨fun q2 => by have := q.1 q2; omega, q.2⟩
            · refine b37_65 (k1 := fun _ => ?_) (k2 := fun q4 => by omega)
              refine b37_76 (k := ?_)
              refine ih (i + 1) σ3 s2 _ (by omega) (by omega) gfr g7b f3 g4' (by omega) hun (fun c c0 c1 c5 c6 => ?_)
              have hci : c ≠ i := fun e1 => by subst e1; exact hst c5
              rw [hsn c hci] at c5 c6 ⊢
              have hti : (s1.2.1 c).1 7 ≠ i := fun e1 => by rw [e1] at c6; omega
              rw [hsn _ hti] at c6
              have q := g7 c c0 c1 c5 c6
              exact ⟨fun q2 => by have := q.1 q2; omega, q.2⟩
    refine loop (a.1 4).toNat 0 σ s _ (by omega) (by omega) (pk_frI_refl _ _) rfl hM hm (Int.le_refl _) (fun _ _ => rfl) (fun c c0 c1 c5 c6 => ⟨fun _ => c0, fun _ => c6⟩)
end

