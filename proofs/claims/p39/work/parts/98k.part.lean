/-! THE PURE MACHINE, UP TO STATES OF A SET: for methods that throw, catch, or are the law's own -/
def py_stp (d o : Nat) (ini : Bool) (b : ByteArray) (S : pe_S) (P : pe_S → Prop) : Prop := ∃ i len, decode b S.1 = .ok (i, len) ∧ (pe_ln i = len ∨ pe_ln i = 0) ∧ ((∃ φ S', pe_nx o ini i S = some (φ, S') ∧ pe_all φ ∧ P S') ∨ ∃ m as st r σ1, pe_call o i S = some (m, as, st) ∧ pe_recv m as S.2.2.2 ∧ pe_C d m as S.2.2.2 r σ1 ∧ P (S.1 + 3, S.2.1, r.toList ++ st, σ1))
def py_X (d o : Nat) (ini : Bool) (b : ByteArray) (S : pe_S) (G : pe_S → Prop) : Prop := ∀ P : pe_S → Prop, (∀ S, py_stp d o ini b S P → P S) → (∀ S, G S → P S) → P S
section
variable {d o : Nat} {ini : Bool} {b : ByteArray} {S S' : pe_S} {G G' : pe_S → Prop} {T : List (Nat × Instr × Nat)}
theorem py_end (h : G S) : py_X d o ini b S G := fun _ _ hG => hG S h
theorem py_X.then (h : py_X d o ini b S G) (k : ∀ S, G S → py_X d o ini b S G') : py_X d o ini b S G' := fun P hP hG => h P hP (fun S hS => k S hS P hP hG)
theorem py_nx {φ : List Prop} {i : Instr} {len : Nat} (hd : decode b S.1 = .ok (i, len)) (hl : pe_ln i = len ∨ pe_ln i = 0) (hs : pe_nx o ini i S = some (φ, S')) (hφ : pe_all φ) (k : py_X d o ini b S' G) : py_X d o ini b S G := fun P hP hG => hP S ⟨i, len, hd, hl, Or.inl ⟨φ, S', hs, hφ, k P hP hG⟩⟩
theorem py_run : ∀ (is : List (Nat × Instr × Nat)) (S S' : pe_S) (φ : List Prop), pe_chk b is = true → pe_run o ini is S = some (φ, S') → pe_all φ → py_X d o ini b S' G → py_X d o ini b S G
  | [], S, S', φ, _, hr, _, k => by
    unfold pe_run at hr
    cases hr
    exact k
  | (pc, i, len) :: is, S, S', φ, hc, hr, hφ, k => by
    unfold pe_run at hr
    by_cases hb : Nat.beq S.1 pc = true
    · rw [hb] at hr
      dsimp only [cond] at hr
      split at hr
      · rename_i φ1 S1 hn
        split at hr
        · rename_i φ2 S2 hr2
          cases hr
          obtain ⟨h1, h2⟩ := pe_all_app φ1 φ2 hφ
          obtain ⟨h3, h4⟩ := pe_chk_at hc List.mem_cons_self
          have hpc := Nat.eq_of_beq_eq_true hb
          refine py_nx (by rw [hpc]; exact h3) h4 hn h1 (py_run is S1 S' φ2 ?_ hr2 h2 k)
          unfold pe_chk at hc ⊢
          rw [List.all_cons, Bool.and_eq_true] at hc
          exact hc.2
        · cases hr
      · cases hr
    · rw [Bool.eq_false_iff.mpr hb] at hr
      cases hr
/-- a block: n instructions from the a-th on -/
theorem py_blk (a n : Nat) (hc : pe_chk b T = true) (φ : List Prop) (S' : pe_S) (hr : pe_run o ini ((T.drop a).take n) S = some (φ, S')) (hφ : pe_all φ) (k : py_X d o ini b S' G) : py_X d o ini b S G := py_run _ S S' φ (pe_chk_sub hc a n) hr hφ k
theorem py_cal (a : Nat) (hc : pe_chk b T = true) {pc : Nat} {i : Instr} {len m2 : Nat} {as st : List pe_V} (ha : T[a]? = some (pc, i, len)) (hpc : S.1 = pc) (hcl : pe_call o i S = some (m2, as, st)) (hr : pe_recv m2 as S.2.2.2)
    (k : pe_M d m2 as S.2.2.2 (fun r σ' => py_X d o ini b (S.1 + 3, S.2.1, r.toList ++ st, σ') G)) : py_X d o ini b S G := by
  obtain ⟨r1, σ1, hC, k⟩ := k
  obtain ⟨h3, h4⟩ := pe_chk_at hc (List.mem_of_getElem? ha)
  exact fun P hP hG => hP S ⟨i, len, by rw [hpc]; exact h3, h4, Or.inr ⟨m2, as, st, r1, σ1, hcl, hr, hC, k P hP hG⟩⟩
theorem py_two {q : Prop} {dq : Decidable q} {t f : Nat} {ls : List (Option pe_V)} {st : List pe_V} {σ : pe_H} (k1 : q → py_X d o ini b (t, ls, st, σ) G) (k2 : ¬ q → py_X d o ini b (f, ls, st, σ) G) : py_X d o ini b (cond (decide q) t f, ls, st, σ) G := by
  by_cases h : q
  · rw [decide_eq_true h]; exact k1 h
  · rw [decide_eq_false h]; exact k2 h
theorem py_two' {q : Prop} {dq : Decidable (¬ q)} {t f : Nat} {ls : List (Option pe_V)} {st : List pe_V} {σ : pe_H} (k1 : ¬ q → py_X d o ini b (t, ls, st, σ) G) (k2 : q → py_X d o ini b (f, ls, st, σ) G) : py_X d o ini b (cond (decide (¬ q)) t f, ls, st, σ) G := py_two k1 (fun h => k2 (Classical.not_not.mp h))
end
section
variable {p : Program} {l : Launch} {e : Env} {R : Room} {s : State} {m : MethodId} {args : Array Value} {below : List Frame} {meth : Method} {c : Code} {Q : State → Prop} {cc : ByteArray}
variable {D : va_G} {cA : Nat → ClassId} {b : Nat × Nat} {n0 : Nat} {H0 : Heap} {nS uS nF uF nL d o : Nat} {ini : Bool} {S : pe_S} {G : pe_S → Prop}
/-- what the pure machine comes to, the machine comes to -/
theorem py_PW (hx : p.tables.exec = Jvm.exec) (hb : c.code = cc) (hfr : d + 1 ≤ R.frames) (hlo : 40 * d + 100 ≤ R.locals) (hml : c.maxLocals = nL) (hRc : nF - nS ≤ R.cells) (hRs : uF - uS ≤ R.slots) (hts : ∀ w ∈ pe_TB, w.before args s = true) (hown : s.vm.findClass (pe_rn o) = some m.cls) (hini : ini = true → meth.name = "<init>") (hG : pe_G D cA b n0 H0 s) (hN : pe_N s) (h : py_X d o ini cc S G)
    (k : ∀ S, G S → pe_PW p l e R s m args below meth c Q D cA b n0 H0 nS uS nF uF nL S) : pe_PW p l e R s m args below meth c Q D cA b n0 H0 nS uS nF uF nL S :=
  h (pe_PW p l e R s m args below meth c Q D cA b n0 H0 nS uS nF uF nL) (fun S hS => by
    obtain ⟨i, len, hd, hln, h⟩ := hS
    rcases h with ⟨φ, S', hnx, hφ, hP⟩ | ⟨m2, as2, st, r2, σ2, hcl, hrc, hC, hP⟩
    · exact pe_row (o := o) (ini := ini) hx hb (by omega) (by omega) hml hRc hRs hts hown hN hini hG hnx hφ hd hln hP
    · obtain ⟨⟨q1, q2⟩, q3⟩ := pe_sound l _ _ _ _ _ _ hC
      have hm2 : m2 ≠ pe_ml := by
        intro q
        subst q
        cases d with
        | zero => exact hC.elim
        | succ d => exact hC.2.2.1 rfl
      exact pe_r_call (o := o) (d := d) hx hb hfr hlo hml hRc hRs hts hown hG hN hcl hrc hd hln hm2 q3 q1 q2 hP) k
end
