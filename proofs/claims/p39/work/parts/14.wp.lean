/-! WHAT MUST HOLD: rules over the pure machine (total correctness); blocks of instructions at once -/
def pe_X (d m : Nat) (S : pe_S) (Φ : Option pe_V → pe_H → Prop) : Prop := ∃ r σ', pe_Ev (pe_C d) (pe_me m).2.2.2.2.1 (pe_me m).2.2.2.2.2.2.1 (pe_me m).2.2.2.1 (pe_me m).2.1 S r σ' ∧ Φ r σ'
def pe_M (d m : Nat) (as : List pe_V) (σ : pe_H) (Φ : Option pe_V → pe_H → Prop) : Prop := ∃ r σ', pe_C d m as σ r σ' ∧ Φ r σ'
theorem pe_X.imp {d m : Nat} {S : pe_S} {Φ Ψ : Option pe_V → pe_H → Prop} (h : pe_X d m S Φ) (k : ∀ r σ', Φ r σ' → Ψ r σ') : pe_X d m S Ψ := by
  obtain ⟨r, σ', h1, h2⟩ := h
  exact ⟨r, σ', h1, k r σ' h2⟩
theorem pe_M.imp {d m : Nat} {as : List pe_V} {σ : pe_H} {Φ Ψ : Option pe_V → pe_H → Prop} (h : pe_M d m as σ Φ) (k : ∀ r σ', Φ r σ' → Ψ r σ') : pe_M d m as σ Ψ := by
  obtain ⟨r, σ', h1, h2⟩ := h
  exact ⟨r, σ', h1, k r σ' h2⟩
theorem pe_X_nx {d m : Nat} {S S' : pe_S} {Φ : Option pe_V → pe_H → Prop} {φ : List Prop} {i : Instr} {len : Nat} (hd : decode (pe_me m).2.1 S.1 = .ok (i, len)) (hl : pe_ln i = len ∨ pe_ln i = 0) (hs : pe_nx (pe_me m).2.2.2.2.1 (pe_me m).2.2.2.2.2.2.1 i S = some (φ, S')) (hφ : pe_all φ) (k : pe_X d m S' Φ) : pe_X d m S Φ := by
  obtain ⟨r, σ', h, hΦ⟩ := k
  exact ⟨r, σ', fun P hP => hP S ⟨i, len, hd, hl, Or.inl ⟨φ, S', hs, hφ, h P hP⟩⟩, hΦ⟩
def pe_chk (b : ByteArray) (T : List (Nat × Instr × Nat)) : Bool := T.all (fun q => decide (decode b q.1 = .ok (q.2.1, q.2.2)) && (Nat.beq (pe_ln q.2.1) q.2.2 || Nat.beq (pe_ln q.2.1) 0))
theorem pe_chk_at {b : ByteArray} {T : List (Nat × Instr × Nat)} (h : pe_chk b T = true) {q : Nat × Instr × Nat} (hq : q ∈ T) : decode b q.1 = .ok (q.2.1, q.2.2) ∧ (pe_ln q.2.1 = q.2.2 ∨ pe_ln q.2.1 = 0) := by
  have h1 := List.all_eq_true.mp h q hq
  simp only [Bool.and_eq_true, Bool.or_eq_true, decide_eq_true_eq] at h1
  exact ⟨h1.1, h1.2.elim (fun e => Or.inl (Nat.eq_of_beq_eq_true e)) (fun e => Or.inr (Nat.eq_of_beq_eq_true e))⟩
def pe_run (o : Nat) (ini : Bool) : List (Nat × Instr × Nat) → pe_S → Option pe_R2
  | [], S => some ([], S)
  | (pc, i, _) :: is, S => cond (Nat.beq S.1 pc) (match pe_nx o ini i S with
    | some (φ, S') => match pe_run o ini is S' with
      | some (ψ, S'') => some (φ ++ ψ, S'')
      | none => none
    | none => none) none
theorem pe_all_app : ∀ (φ ψ : List Prop), pe_all (φ ++ ψ) → pe_all φ ∧ pe_all ψ
  | [], ψ, h => ⟨trivial, h⟩
  | [a], [], h => ⟨h, trivial⟩
  | [a], b :: ψ, h => ⟨h.1, h.2⟩
  | a :: b :: φ, ψ, h => by
    obtain ⟨h1, h2⟩ := pe_all_app (b :: φ) ψ h.2
    exact ⟨⟨h.1, h1⟩, h2⟩
theorem pe_X_run {d m : Nat} {Φ : Option pe_V → pe_H → Prop} : ∀ (is : List (Nat × Instr × Nat)) (S S' : pe_S) (φ : List Prop), pe_chk (pe_me m).2.1 is = true → pe_run (pe_me m).2.2.2.2.1 (pe_me m).2.2.2.2.2.2.1 is S = some (φ, S') → pe_all φ → pe_X d m S' Φ → pe_X d m S Φ
  | [], S, S', φ, _, hr, _, k => by
    unfold pe_run at hr
    cases hr
    exact k
  | (pc, i, len) :: is, S, S', φ, hc, hr, hφ, k => by
    unfold pe_run at hr
    by_cases hb : Nat.beq S.1 pc = true
    · rw [hb] at hr
      dsimp only [cond] at hr
      split at hr
      · rename_i φ1 S1 hn
        split at hr
        · rename_i φ2 S2 hr2
          cases hr
          obtain ⟨h1, h2⟩ := pe_all_app φ1 φ2 hφ
          obtain ⟨h3, h4⟩ := pe_chk_at hc List.mem_cons_self
          have hpc := Nat.eq_of_beq_eq_true hb
          refine pe_X_nx (by rw [hpc]; exact h3) h4 hn h1 (pe_X_run is S1 S' φ2 ?_ hr2 h2 k)
          unfold pe_chk at hc ⊢
          rw [List.all_cons, Bool.and_eq_true] at hc
          exact hc.2
        · cases hr
      · cases hr
    · rw [Bool.eq_false_iff.mpr hb] at hr
      cases hr
theorem pe_chk_sub {b : ByteArray} {T : List (Nat × Instr × Nat)} (h : pe_chk b T = true) (a n : Nat) : pe_chk b ((T.drop a).take n) = true := by
  unfold pe_chk at h ⊢
  rw [List.all_eq_true] at h ⊢
  exact fun q hq => h q (List.mem_of_mem_drop (List.mem_of_mem_take hq))
/-- a method's class, is it <init>, answer, locals, code -/
def pe_ctx (m o : Nat) (ini : Bool) (rt : Option FieldType) (ml : Nat) (T : List (Nat × Instr × Nat)) : Prop := (pe_me m).2.2.2.2.1 = o ∧ (pe_me m).2.2.2.2.2.2.1 = ini ∧ (pe_me m).2.2.2.1 = rt ∧ (pe_me m).2.2.1 = ml ∧ pe_chk (pe_me m).2.1 T = true ∧ m < pe_mn ∧ m ≠ pe_ml
/-- a block: n instructions from the a-th on -/
theorem pe_blk {d m o ml : Nat} {ini : Bool} {rt : Option FieldType} {T : List (Nat × Instr × Nat)} (a n : Nat) (hc : pe_ctx m o ini rt ml T) {S : pe_S} (φ : List Prop) (S' : pe_S) {Φ : Option pe_V → pe_H → Prop} (hr : pe_run o ini ((T.drop a).take n) S = some (φ, S')) (hφ : pe_all φ) (k : pe_X d m S' Φ) : pe_X d m S Φ := by
  obtain ⟨h1, h2, h3, h4, h5, -⟩ := hc
  subst h1; subst h2
  exact pe_X_run _ S S' φ (pe_chk_sub h5 a n) hr hφ k
/-- a call, the a-th instruction -/
theorem pe_cal {d m o ml : Nat} {ini : Bool} {rt : Option FieldType} {T : List (Nat × Instr × Nat)} (a : Nat) (hc : pe_ctx m o ini rt ml T) {S : pe_S} {Φ : Option pe_V → pe_H → Prop} {pc : Nat} {i : Instr} {len m2 : Nat} {as st : List pe_V} (ha : T[a]? = some (pc, i, len)) (hpc : S.1 = pc) (hcl : pe_call o i S = some (m2, as, st)) (hr : pe_recv m2 as S.2.2.2)
    (k : pe_M d m2 as S.2.2.2 (fun r σ' => pe_X d m (S.1 + 3, S.2.1, r.toList ++ st, σ') Φ)) : pe_X d m S Φ := by
  obtain ⟨r1, σ1, hC, r, σ', h, hΦ⟩ := k
  obtain ⟨h1, h2, h30, h40, h5, -⟩ := hc
  subst h1
  obtain ⟨h3, h4⟩ := pe_chk_at h5 (List.mem_of_getElem? ha)
  exact ⟨r, σ', fun P hP => hP S ⟨i, len, by rw [hpc]; exact h3, h4, Or.inr (Or.inl ⟨m2, as, st, r1, σ1, hcl, hr, hC, h P hP⟩)⟩, hΦ⟩
/-- an answer, the a-th instruction -/
theorem pe_fine {d m o ml : Nat} {ini : Bool} {rt : Option FieldType} {T : List (Nat × Instr × Nat)} (a : Nat) (hc : pe_ctx m o ini rt ml T) {S : pe_S} {Φ : Option pe_V → pe_H → Prop} {pc : Nat} {i : Instr} {len : Nat} {φ : List Prop} {r : Option pe_V} (ha : T[a]? = some (pc, i, len)) (hpc : S.1 = pc) (hs : pe_ret rt i S = some (φ, r)) (hφ : pe_all φ) (k : Φ r S.2.2.2) : pe_X d m S Φ := by
  obtain ⟨h1, h2, h30, h40, h5, -⟩ := hc
  subst h30
  obtain ⟨h3, h4⟩ := pe_chk_at h5 (List.mem_of_getElem? ha)
  exact ⟨r, S.2.2.2, fun P hP => hP S ⟨i, len, by rw [hpc]; exact h3, h4, Or.inr (Or.inr ⟨φ, r, hs, hφ, rfl, rfl⟩)⟩, k⟩
/-- a method, from its entry -/
theorem pe_M_of {d m o ml : Nat} {ini : Bool} {rt : Option FieldType} {T : List (Nat × Instr × Nat)} (hc : pe_ctx m o ini rt ml T) {as : List pe_V} {σ : pe_H} {Φ : Option pe_V → pe_H → Prop} (h1 : (pe_lc as).length ≤ ml) (k : pe_X d m (0, pe_lo as ml, [], σ) Φ) : pe_M (d + 1) m as σ Φ := by
  obtain ⟨r, σ', h, hΦ⟩ := k
  obtain ⟨-, -, -, q4, -, q6, q7⟩ := hc
  subst q4
  exact ⟨r, σ', ⟨h1, q6, q7, h⟩, hΦ⟩
theorem pe_Ev.mono {C C' : pe_CR} (hC : ∀ m as σ r σ', C m as σ r σ' → C' m as σ r σ') {o : Nat} {ini : Bool} {rt : Option FieldType} {b : ByteArray} {S : pe_S} {r : Option pe_V} {σ' : pe_H} (h : pe_Ev C o ini rt b S r σ') : pe_Ev C' o ini rt b S r σ' := fun P hP => h P (fun S hS => hP S (by
  obtain ⟨i, len, h1, h2, h3⟩ := hS
  refine ⟨i, len, h1, h2, ?_⟩
  rcases h3 with q | ⟨m, as, st, r1, σ1, q1, q2, q3, q4⟩ | q
  · exact Or.inl q
  · exact Or.inr (Or.inl ⟨m, as, st, r1, σ1, q1, q2, hC _ _ _ _ _ q3, q4⟩)
  · exact Or.inr (Or.inr q)))
theorem pe_C_succ : ∀ (d m : Nat) (as : List pe_V) (σ : pe_H) (r : Option pe_V) (σ' : pe_H), pe_C d m as σ r σ' → pe_C (d + 1) m as σ r σ'
  | 0, _, _, _, _, _, h => h.elim
  | d + 1, m, as, σ, r, σ', h => ⟨h.1, h.2.1, h.2.2.1, h.2.2.2.mono (pe_C_succ d)⟩
theorem pe_M.up {d d' m : Nat} {as : List pe_V} {σ : pe_H} {Φ : Option pe_V → pe_H → Prop} (h : pe_M d m as σ Φ) (hd : d ≤ d' := by omega) : pe_M d' m as σ Φ := by
  obtain ⟨k, rfl⟩ : ∃ k, d' = d + k := ⟨d' - d, by omega⟩
  clear hd
  induction k with
  | zero => exact h
  | succ k ih =>
    obtain ⟨r, σ', h1, h2⟩ := ih
    exact ⟨r, σ', pe_C_succ _ _ _ _ _ _ h1, h2⟩
/-- the two ways of a branch -/
theorem pe_two {d m : Nat} {q : Prop} {dq : Decidable q} {t f : Nat} {ls : List (Option pe_V)} {st : List pe_V} {σ : pe_H} {Φ : Option pe_V → pe_H → Prop} (k1 : q → pe_X d m (t, ls, st, σ) Φ) (k2 : ¬ q → pe_X d m (f, ls, st, σ) Φ) : pe_X d m (cond (decide q) t f, ls, st, σ) Φ := by
  by_cases h : q
  · rw [decide_eq_true h]; exact k1 h
  · rw [decide_eq_false h]; exact k2 h
def pe_in (x : Int) : Prop := -2147483648 ≤ x ∧ x < 2147483648
theorem pe_wi {x : Int} (h : pe_in x) : pe_w x = x := pe_w_id h.1 h.2
theorem pe_two' {d m : Nat} {q : Prop} {dq : Decidable (¬ q)} {t f : Nat} {ls : List (Option pe_V)} {st : List pe_V} {σ : pe_H} {Φ : Option pe_V → pe_H → Prop} (k1 : ¬ q → pe_X d m (t, ls, st, σ) Φ) (k2 : q → pe_X d m (f, ls, st, σ) Φ) : pe_X d m (cond (decide (¬ q)) t f, ls, st, σ) Φ := pe_two k1 (fun h => k2 (Classical.not_not.mp h))
theorem pe_I_same {σ : pe_H} {r : Nat} {j x : Int} : pe_I (pe_wI σ r j x) r j = x := if_pos ⟨rfl, rfl⟩
theorem pe_I_ner {σ : pe_H} {r a : Nat} {j k x : Int} (h : a ≠ r) : pe_I (pe_wI σ r j x) a k = pe_I σ a k := if_neg (fun q => h q.1)
theorem pe_I_nej {σ : pe_H} {r a : Nat} {j k x : Int} (h : k ≠ j) : pe_I (pe_wI σ r j x) a k = pe_I σ a k := if_neg (fun q => h q.2)
theorem pe_I_wR {σ : pe_H} {r x a : Nat} {j k : Int} : pe_I (pe_wR σ r j x) a k = pe_I σ a k := rfl
theorem pe_R_wI {σ : pe_H} {r a : Nat} {j k x : Int} : pe_R (pe_wI σ r j x) a k = pe_R σ a k := rfl
theorem pe_R_same {σ : pe_H} {r x : Nat} {j : Int} : pe_R (pe_wR σ r j x) r j = x := if_pos ⟨rfl, rfl⟩
theorem pe_R_ner {σ : pe_H} {r a x : Nat} {j k : Int} (h : a ≠ r) : pe_R (pe_wR σ r j x) a k = pe_R σ a k := if_neg (fun q => h q.1)
theorem pe_R_nej {σ : pe_H} {r a x : Nat} {j k : Int} (h : k ≠ j) : pe_R (pe_wR σ r j x) a k = pe_R σ a k := if_neg (fun q => h q.2)
theorem pe_K_wI {σ : pe_H} {r a : Nat} {j x : Int} : pe_K (pe_wI σ r j x) a = pe_K σ a := rfl
theorem pe_K_wR {σ : pe_H} {r x a : Nat} {j : Int} : pe_K (pe_wR σ r j x) a = pe_K σ a := rfl
theorem pe_L_wI {σ : pe_H} {r a : Nat} {j x : Int} : pe_L (pe_wI σ r j x) a = pe_L σ a := rfl
theorem pe_L_wR {σ : pe_H} {r x a : Nat} {j : Int} : pe_L (pe_wR σ r j x) a = pe_L σ a := rfl
