/-! SOUND, 3: a step of the pure machine is the machine's -/
section PEW
variable {p : Program} {l : Launch} {e : Env} {R : Room} {s : State} {m : MethodId} {args : Array Value} {below : List Frame} {meth : Method} {c : Code} {Q : State → Prop} {cc : ByteArray}
variable {D : va_G} {cA : Nat → ClassId} {b : Nat × Nat} {n0 : Nat} {H0 : Heap} {nS uS nF uF nL : Nat}
def pe_PW (p : Program) (l : Launch) (e : Env) (R : Room) (s : State) (m : MethodId) (args : Array Value) (below : List Frame) (meth : Method) (c : Code) (Q : State → Prop) (D : va_G) (cA : Nat → ClassId) (b : Nat × Nat) (n0 : Nat) (H0 : Heap) (nS uS nF uF nL : Nat) (S : pe_S) : Prop :=
  pe_n S.2.2.2 ≤ nF ∧ pe_u S.2.2.2 ≤ uF ∧ (nS ≤ pe_n S.2.2.2 → uS ≤ pe_u S.2.2.2 → S.2.1.length = nL → ∀ (H : Heap) (Ls : Array Slot) (locs : List Loc), pe_Hd D cA b n0 H0 S.2.2.2 H → pe_lv (pe_ad b n0) Ls S.2.1 → (∀ q ∈ locs, n0 ≤ q.base) →
    W p l e R s m args below meth c H locs (pe_n S.2.2.2 - nS) (pe_u S.2.2.2 - uS) Q (F0 m S.1 Ls (S.2.2.1.map (pe_e (pe_ad b n0)))))
theorem pe_same {pc pc' : Nat} {ls ls' : List (Option pe_V)} {st st' : List pe_V} {σ : pe_H} (hlen : ls'.length = ls.length)
    (row : ∀ (H : Heap) (Ls : Array Slot) (locs : List Loc) (k z : Nat), pe_lv (pe_ad b n0) Ls ls → (∀ Ls' : Array Slot, pe_lv (pe_ad b n0) Ls' ls' → W p l e R s m args below meth c H locs k z Q (F0 m pc' Ls' (st'.map (pe_e (pe_ad b n0))))) → W p l e R s m args below meth c H locs k z Q (F0 m pc Ls (st.map (pe_e (pe_ad b n0)))))
    (h : pe_PW p l e R s m args below meth c Q D cA b n0 H0 nS uS nF uF nL (pc', ls', st', σ)) : pe_PW p l e R s m args below meth c Q D cA b n0 H0 nS uS nF uF nL (pc, ls, st, σ) :=
  ⟨h.1, h.2.1, fun h1 h2 h3 H Ls locs hH hL hlocs => row H Ls locs _ _ hL fun Ls' hL' => h.2.2 h1 h2 (hlen.trans h3) H Ls' locs hH hL' hlocs⟩
/-- locals stay -/
theorem pe_sm {pc pc' : Nat} {ls : List (Option pe_V)} {st st' : List pe_V} {σ : pe_H}
    (row : ∀ (H : Heap) (Ls : Array Slot) (locs : List Loc) (k z : Nat), pe_lv (pe_ad b n0) Ls ls → W p l e R s m args below meth c H locs k z Q (F0 m pc' Ls (st'.map (pe_e (pe_ad b n0)))) → W p l e R s m args below meth c H locs k z Q (F0 m pc Ls (st.map (pe_e (pe_ad b n0)))))
    (h : pe_PW p l e R s m args below meth c Q D cA b n0 H0 nS uS nF uF nL (pc', ls, st', σ)) : pe_PW p l e R s m args below meth c Q D cA b n0 H0 nS uS nF uF nL (pc, ls, st, σ) :=
  pe_same rfl (fun H Ls locs k z hL kk => row H Ls locs k z hL (kk Ls hL)) h
theorem pe_lvi {ad : Nat → Nat} {Ls : Array Slot} {ls : List (Option pe_V)} {i : Nat} {v : pe_V} (h : pe_lv ad Ls ls) (hv : pe_ld ls i = some v) : Ls[i]? = some (.val (pe_e ad v)) := h.2.2 i v hv
-- loads
theorem pe_r_ldi {S S' : pe_S} {φ : List Prop} {len k : Nat} (hx : p.tables.exec = Jvm.exec) (hb : c.code = cc) (hs : pe_ldi len k S = some (φ, S'))
    (hd : (len = 2 ∧ decode cc S.1 = .ok (.iload k, 2)) ∨ (∃ k' : Fin 4, k'.val = k ∧ len = 1 ∧ decode cc S.1 = .ok (.iload_n k', 1)))
    (h : pe_PW p l e R s m args below meth c Q D cA b n0 H0 nS uS nF uF nL S') : pe_PW p l e R s m args below meth c Q D cA b n0 H0 nS uS nF uF nL S := by
  obtain ⟨pc, ls, st, σ⟩ := S
  unfold pe_ldi at hs
  split at hs
  · rename_i x hv
    unfold pe_psh at hs
    cases hs
    refine pe_sm (fun H Ls locs k0 z hL kk => ?_) h
    rcases hd with ⟨rfl, hd⟩ | ⟨k', rfl, rfl, hd⟩
    · exact lv_iload hx hb hd (pe_lvi hL hv) kk
    · exact lv_iload_n hx hb hd rfl (pe_lvi hL hv) kk
  · cases hs
theorem pe_r_ldl {S S' : pe_S} {φ : List Prop} {len k : Nat} (hx : p.tables.exec = Jvm.exec) (hb : c.code = cc) (hs : pe_ldl len k S = some (φ, S'))
    (hd : (len = 2 ∧ decode cc S.1 = .ok (.lload k, 2)) ∨ (∃ k' : Fin 4, k'.val = k ∧ len = 1 ∧ decode cc S.1 = .ok (.lload_n k', 1)))
    (h : pe_PW p l e R s m args below meth c Q D cA b n0 H0 nS uS nF uF nL S') : pe_PW p l e R s m args below meth c Q D cA b n0 H0 nS uS nF uF nL S := by
  obtain ⟨pc, ls, st, σ⟩ := S
  unfold pe_ldl at hs
  split at hs
  · rename_i x hv
    unfold pe_psh at hs
    cases hs
    refine pe_sm (fun H Ls locs k0 z hL kk => ?_) h
    rcases hd with ⟨rfl, hd⟩ | ⟨k', rfl, rfl, hd⟩
    · exact lv_lload hx hb hd (pe_lvi hL hv) kk
    · exact lv_lload_n hx hb hd rfl (pe_lvi hL hv) kk
  · cases hs
theorem pe_r_nul (hx : p.tables.exec = Jvm.exec) (hb : c.code = cc) {H : Heap} {locs : List Loc} {k z pc i : Nat} {ls : Array Slot} {rest : List Value} {v : Value} (hv : v = .null ∨ ∃ x, v = .ref x) (hl : ls[i]? = some (.val v))
    (hd : decode cc pc = .ok (.aload i, 2)) (kk : W p l e R s m args below meth c H locs k z Q (F0 m (pc + 2) ls (v :: rest))) : W p l e R s m args below meth c H locs k z Q (F0 m pc ls rest) := by
  rcases hv with rfl | ⟨x, rfl⟩
  · exact lv_aloadN hx hb hd hl kk
  · exact lv_aload hx hb hd hl kk
theorem pe_r_nul1 (hx : p.tables.exec = Jvm.exec) (hb : c.code = cc) {H : Heap} {locs : List Loc} {k z pc : Nat} {i : Fin 4} {ls : Array Slot} {rest : List Value} {v : Value} (hv : v = .null ∨ ∃ x, v = .ref x) (hl : ls[i.val]? = some (.val v))
    (hd : decode cc pc = .ok (.aload_n i, 1)) (kk : W p l e R s m args below meth c H locs k z Q (F0 m (pc + 1) ls (v :: rest))) : W p l e R s m args below meth c H locs k z Q (F0 m pc ls rest) := by
  rcases hv with rfl | ⟨x, rfl⟩
  · exact lv_aload_nN hx hb hd rfl hl kk
  · exact lv_aload_n hx hb hd rfl hl kk
theorem pe_rf_or (ad : Nat → Nat) (r : Nat) : pe_rf ad r = .null ∨ ∃ x, pe_rf ad r = .ref x := by
  unfold pe_rf; split
  · exact Or.inl rfl
  · exact Or.inr ⟨_, rfl⟩
theorem pe_r_lda {S S' : pe_S} {φ : List Prop} {len k : Nat} (hx : p.tables.exec = Jvm.exec) (hb : c.code = cc) (hs : pe_lda len k S = some (φ, S'))
    (hd : (len = 2 ∧ decode cc S.1 = .ok (.aload k, 2)) ∨ (∃ k' : Fin 4, k'.val = k ∧ len = 1 ∧ decode cc S.1 = .ok (.aload_n k', 1)))
    (h : pe_PW p l e R s m args below meth c Q D cA b n0 H0 nS uS nF uF nL S') : pe_PW p l e R s m args below meth c Q D cA b n0 H0 nS uS nF uF nL S := by
  obtain ⟨pc, ls, st, σ⟩ := S
  unfold pe_lda at hs
  split at hs
  · rename_i x hv
    unfold pe_psh at hs
    cases hs
    refine pe_sm (fun H Ls locs k0 z hL kk => ?_) h
    rcases hd with ⟨rfl, hd⟩ | ⟨k', rfl, rfl, hd⟩
    · exact pe_r_nul hx hb (pe_rf_or _ _) (pe_lvi hL hv) hd kk
    · exact pe_r_nul1 hx hb (pe_rf_or _ _) (pe_lvi hL hv) hd kk
  · cases hs
-- stores
theorem pe_r_sti {S S' : pe_S} {φ : List Prop} {len k : Nat} (hx : p.tables.exec = Jvm.exec) (hb : c.code = cc) (hs : pe_sti len k S = some (φ, S'))
    (hd : (len = 2 ∧ decode cc S.1 = .ok (.istore k, 2)) ∨ (∃ k' : Fin 4, k'.val = k ∧ len = 1 ∧ decode cc S.1 = .ok (.istore_n k', 1)))
    (h : pe_PW p l e R s m args below meth c Q D cA b n0 H0 nS uS nF uF nL S') : pe_PW p l e R s m args below meth c Q D cA b n0 H0 nS uS nF uF nL S := by
  obtain ⟨pc, ls, st, σ⟩ := S
  unfold pe_sti at hs
  split at hs
  · rename_i x st' he
    split at hs
    · rename_i hk
      cases hs
      dsimp only at he hk h
      subst he
      refine pe_same (by unfold pe_st1; rw [pe_sto_len, pe_kil_len]) (fun H Ls locs k0 z hL kk => ?_) h
      rcases hd with ⟨rfl, hd⟩ | ⟨k', rfl, rfl, hd⟩
      · exact lv_istore hx hb hd (pe_lv_has hL) hk rfl (fun ls' hl' => kk ls' (pe_lv_st1 (v := .inl x) hk hl'))
      · exact lv_istore_n hx hb hd rfl (pe_lv_has hL) hk rfl (fun ls' hl' => kk ls' (pe_lv_st1 (v := .inl x) hk hl'))
    · cases hs
  · cases hs
theorem pe_r_stl {S S' : pe_S} {φ : List Prop} {len k : Nat} (hx : p.tables.exec = Jvm.exec) (hb : c.code = cc) (hs : pe_stl len k S = some (φ, S'))
    (hd : (len = 2 ∧ decode cc S.1 = .ok (.lstore k, 2)) ∨ (∃ k' : Fin 4, k'.val = k ∧ len = 1 ∧ decode cc S.1 = .ok (.lstore_n k', 1)))
    (h : pe_PW p l e R s m args below meth c Q D cA b n0 H0 nS uS nF uF nL S') : pe_PW p l e R s m args below meth c Q D cA b n0 H0 nS uS nF uF nL S := by
  obtain ⟨pc, ls, st, σ⟩ := S
  unfold pe_stl at hs
  split at hs
  · rename_i x st' he
    split at hs
    · rename_i hk
      cases hs
      dsimp only at he hk h
      subst he
      refine pe_same (by unfold pe_st2; rw [pe_sto_len, pe_sto_len, pe_kil_len]) (fun H Ls locs k0 z hL kk => ?_) h
      rcases hd with ⟨rfl, hd⟩ | ⟨k', rfl, rfl, hd⟩
      · exact lv_lstore hx hb hd (pe_lv_has hL) hk rfl (fun ls' hl' => kk ls' (pe_lv_st2 (v := .inr (.inl x)) hk hl'))
      · exact lv_lstore_n hx hb hd rfl (pe_lv_has hL) hk rfl (fun ls' hl' => kk ls' (pe_lv_st2 (v := .inr (.inl x)) hk hl'))
    · cases hs
  · cases hs
theorem pe_r_sta {S S' : pe_S} {φ : List Prop} {len k : Nat} (hx : p.tables.exec = Jvm.exec) (hb : c.code = cc) (hs : pe_sta len k S = some (φ, S')) (hd : (len = 2 ∧ decode cc S.1 = .ok (.astore k, 2)) ∨ (∃ k' : Fin 4, k'.val = k ∧ len = 1 ∧ decode cc S.1 = .ok (.astore_n k', 1)))
    (h : pe_PW p l e R s m args below meth c Q D cA b n0 H0 nS uS nF uF nL S') : pe_PW p l e R s m args below meth c Q D cA b n0 H0 nS uS nF uF nL S := by
  obtain ⟨pc, ls, st, σ⟩ := S
  unfold pe_sta at hs
  split at hs
  · rename_i x st' he
    split at hs
    · rename_i hk
      cases hs
      dsimp only at he hk h
      subst he
      refine pe_same (by unfold pe_st1; rw [pe_sto_len, pe_kil_len]) (fun H Ls locs k0 z hL kk => ?_) h
      have key : ∀ v : Value, (v = .null ∨ ∃ x, v = .ref x) → v = pe_rf (pe_ad b n0) x → W p l e R s m args below meth c H locs k0 z Q (F0 m pc Ls (v :: st'.map (pe_e (pe_ad b n0)))) := by
        intro v hv hvx
        rcases hv with rfl | ⟨y, rfl⟩
        · rcases hd with ⟨rfl, hd⟩ | ⟨k', rfl, rfl, hd⟩
          · exact lv_astoreN hx hb hd (pe_lv_has hL) hk rfl (fun ls' hl' => kk ls' (pe_lv_st1 (v := .inr (.inr x)) hk (by rw [hvx] at hl'; exact hl')))
          · exact lv_astore_nN hx hb hd rfl (pe_lv_has hL) hk rfl (fun ls' hl' => kk ls' (pe_lv_st1 (v := .inr (.inr x)) hk (by rw [hvx] at hl'; exact hl')))
        · rcases hd with ⟨rfl, hd⟩ | ⟨k', rfl, rfl, hd⟩
          · exact lv_astore hx hb hd (pe_lv_has hL) hk rfl (fun ls' hl' => kk ls' (pe_lv_st1 (v := .inr (.inr x)) hk (by rw [hvx] at hl'; exact hl')))
          · exact lv_astore_n hx hb hd rfl (pe_lv_has hL) hk rfl (fun ls' hl' => kk ls' (pe_lv_st1 (v := .inr (.inr x)) hk (by rw [hvx] at hl'; exact hl')))
      exact key _ (pe_rf_or _ _) rfl
    · cases hs
  · cases hs
theorem pe_r_iadd {S S' : pe_S} {φ : List Prop} (hx : p.tables.exec = Jvm.exec) (hb : c.code = cc) (hs : pe_ii (fun x y => ([], x + y)) S = some (φ, S')) (hφ : pe_all φ) (hd : decode cc S.1 = .ok (.iadd, 1))
    (h : pe_PW p l e R s m args below meth c Q D cA b n0 H0 nS uS nF uF nL S') : pe_PW p l e R s m args below meth c Q D cA b n0 H0 nS uS nF uF nL S := by
  obtain ⟨pc, ls, st, σ⟩ := S
  unfold pe_ii at hs
  split at hs
  · rename_i y x st' he
    cases hs
    dsimp only at he h
    subst he
    refine pe_sm (fun H Ls locs k0 z hL kk => ?_) h
    refine lv_iadd (x := Int32.ofInt x) (y := Int32.ofInt y) hx hb hd ?_
    rw [pe_add]; exact kk
  · cases hs

theorem pe_r_isub {S S' : pe_S} {φ : List Prop} (hx : p.tables.exec = Jvm.exec) (hb : c.code = cc) (hs : pe_ii (fun x y => ([], x - y)) S = some (φ, S')) (hφ : pe_all φ) (hd : decode cc S.1 = .ok (.isub, 1))
    (h : pe_PW p l e R s m args below meth c Q D cA b n0 H0 nS uS nF uF nL S') : pe_PW p l e R s m args below meth c Q D cA b n0 H0 nS uS nF uF nL S := by
  obtain ⟨pc, ls, st, σ⟩ := S
  unfold pe_ii at hs
  split at hs
  · rename_i y x st' he
    cases hs
    dsimp only at he h
    subst he
    refine pe_sm (fun H Ls locs k0 z hL kk => ?_) h
    refine lv_isub (x := Int32.ofInt x) (y := Int32.ofInt y) hx hb hd ?_
    rw [pe_sub]; exact kk
  · cases hs

theorem pe_r_imul {S S' : pe_S} {φ : List Prop} (hx : p.tables.exec = Jvm.exec) (hb : c.code = cc) (hs : pe_ii (fun x y => ([], x * y)) S = some (φ, S')) (hφ : pe_all φ) (hd : decode cc S.1 = .ok (.imul, 1))
    (h : pe_PW p l e R s m args below meth c Q D cA b n0 H0 nS uS nF uF nL S') : pe_PW p l e R s m args below meth c Q D cA b n0 H0 nS uS nF uF nL S := by
  obtain ⟨pc, ls, st, σ⟩ := S
  unfold pe_ii at hs
  split at hs
  · rename_i y x st' he
    cases hs
    dsimp only at he h
    subst he
    refine pe_sm (fun H Ls locs k0 z hL kk => ?_) h
    refine lv_imul (x := Int32.ofInt x) (y := Int32.ofInt y) hx hb hd ?_
    rw [pe_mul]; exact kk
  · cases hs

theorem pe_r_ladd {S S' : pe_S} {φ : List Prop} (hx : p.tables.exec = Jvm.exec) (hb : c.code = cc) (hs : pe_ll (fun x y => ([], x + y)) S = some (φ, S')) (hφ : pe_all φ) (hd : decode cc S.1 = .ok (.ladd, 1))
    (h : pe_PW p l e R s m args below meth c Q D cA b n0 H0 nS uS nF uF nL S') : pe_PW p l e R s m args below meth c Q D cA b n0 H0 nS uS nF uF nL S := by
  obtain ⟨pc, ls, st, σ⟩ := S
  unfold pe_ll at hs
  split at hs
  · rename_i y x st' he
    cases hs
    dsimp only at he h
    subst he
    refine pe_sm (fun H Ls locs k0 z hL kk => ?_) h
    refine lv_ladd (x := Int64.ofInt x) (y := Int64.ofInt y) hx hb hd ?_
    rw [pe_addl]; exact kk
  · cases hs

theorem pe_r_lsub {S S' : pe_S} {φ : List Prop} (hx : p.tables.exec = Jvm.exec) (hb : c.code = cc) (hs : pe_ll (fun x y => ([], x - y)) S = some (φ, S')) (hφ : pe_all φ) (hd : decode cc S.1 = .ok (.lsub, 1))
    (h : pe_PW p l e R s m args below meth c Q D cA b n0 H0 nS uS nF uF nL S') : pe_PW p l e R s m args below meth c Q D cA b n0 H0 nS uS nF uF nL S := by
  obtain ⟨pc, ls, st, σ⟩ := S
  unfold pe_ll at hs
  split at hs
  · rename_i y x st' he
    cases hs
    dsimp only at he h
    subst he
    refine pe_sm (fun H Ls locs k0 z hL kk => ?_) h
    refine lv_lsub (x := Int64.ofInt x) (y := Int64.ofInt y) hx hb hd ?_
    rw [pe_subl]; exact kk
  · cases hs

theorem pe_r_lmul {S S' : pe_S} {φ : List Prop} (hx : p.tables.exec = Jvm.exec) (hb : c.code = cc) (hs : pe_ll (fun x y => ([], x * y)) S = some (φ, S')) (hφ : pe_all φ) (hd : decode cc S.1 = .ok (.lmul, 1))
    (h : pe_PW p l e R s m args below meth c Q D cA b n0 H0 nS uS nF uF nL S') : pe_PW p l e R s m args below meth c Q D cA b n0 H0 nS uS nF uF nL S := by
  obtain ⟨pc, ls, st, σ⟩ := S
  unfold pe_ll at hs
  split at hs
  · rename_i y x st' he
    cases hs
    dsimp only at he h
    subst he
    refine pe_sm (fun H Ls locs k0 z hL kk => ?_) h
    refine lv_lmul (x := Int64.ofInt x) (y := Int64.ofInt y) hx hb hd ?_
    rw [pe_mull]; exact kk
  · cases hs

theorem pe_r_idiv {S S' : pe_S} {φ : List Prop} (hx : p.tables.exec = Jvm.exec) (hb : c.code = cc) (hs : pe_ii (fun x y => ([¬ pe_w y = 0], Int.tdiv (pe_w x) (pe_w y))) S = some (φ, S')) (hφ : pe_all φ) (hd : decode cc S.1 = .ok (.idiv, 1))
    (h : pe_PW p l e R s m args below meth c Q D cA b n0 H0 nS uS nF uF nL S') : pe_PW p l e R s m args below meth c Q D cA b n0 H0 nS uS nF uF nL S := by
  obtain ⟨pc, ls, st, σ⟩ := S
  unfold pe_ii at hs
  split at hs
  · rename_i y x st' he
    cases hs
    dsimp only at he h
    subst he
    refine pe_sm (fun H Ls locs k0 z hL kk => ?_) h
    refine lv_idiv (x := Int32.ofInt x) (y := Int32.ofInt y) hx hb hd (fun q => hφ ((pe_zero y).mp q)) ?_
    rw [pe_div]; exact kk
  · cases hs

theorem pe_r_irem {S S' : pe_S} {φ : List Prop} (hx : p.tables.exec = Jvm.exec) (hb : c.code = cc) (hs : pe_ii (fun x y => ([¬ pe_w y = 0], Int.tmod (pe_w x) (pe_w y))) S = some (φ, S')) (hφ : pe_all φ) (hd : decode cc S.1 = .ok (.irem, 1))
    (h : pe_PW p l e R s m args below meth c Q D cA b n0 H0 nS uS nF uF nL S') : pe_PW p l e R s m args below meth c Q D cA b n0 H0 nS uS nF uF nL S := by
  obtain ⟨pc, ls, st, σ⟩ := S
  unfold pe_ii at hs
  split at hs
  · rename_i y x st' he
    cases hs
    dsimp only at he h
    subst he
    refine pe_sm (fun H Ls locs k0 z hL kk => ?_) h
    refine lv_irem (x := Int32.ofInt x) (y := Int32.ofInt y) hx hb hd (fun q => hφ ((pe_zero y).mp q)) ?_
    rw [pe_rem]; exact kk
  · cases hs

theorem pe_r_ldiv {S S' : pe_S} {φ : List Prop} (hx : p.tables.exec = Jvm.exec) (hb : c.code = cc) (hs : pe_ll (fun x y => ([¬ pe_wl y = 0], Int.tdiv (pe_wl x) (pe_wl y))) S = some (φ, S')) (hφ : pe_all φ) (hd : decode cc S.1 = .ok (.ldiv, 1))
    (h : pe_PW p l e R s m args below meth c Q D cA b n0 H0 nS uS nF uF nL S') : pe_PW p l e R s m args below meth c Q D cA b n0 H0 nS uS nF uF nL S := by
  obtain ⟨pc, ls, st, σ⟩ := S
  unfold pe_ll at hs
  split at hs
  · rename_i y x st' he
    cases hs
    dsimp only at he h
    subst he
    refine pe_sm (fun H Ls locs k0 z hL kk => ?_) h
    refine lv_ldiv (x := Int64.ofInt x) (y := Int64.ofInt y) hx hb hd (fun q => hφ ((pe_zerol y).mp q)) ?_
    rw [pe_divl]; exact kk
  · cases hs

theorem pe_r_lrem {S S' : pe_S} {φ : List Prop} (hx : p.tables.exec = Jvm.exec) (hb : c.code = cc) (hs : pe_ll (fun x y => ([¬ pe_wl y = 0], Int.tmod (pe_wl x) (pe_wl y))) S = some (φ, S')) (hφ : pe_all φ) (hd : decode cc S.1 = .ok (.lrem, 1))
    (h : pe_PW p l e R s m args below meth c Q D cA b n0 H0 nS uS nF uF nL S') : pe_PW p l e R s m args below meth c Q D cA b n0 H0 nS uS nF uF nL S := by
  obtain ⟨pc, ls, st, σ⟩ := S
  unfold pe_ll at hs
  split at hs
  · rename_i y x st' he
    cases hs
    dsimp only at he h
    subst he
    refine pe_sm (fun H Ls locs k0 z hL kk => ?_) h
    refine lv_lrem (x := Int64.ofInt x) (y := Int64.ofInt y) hx hb hd (fun q => hφ ((pe_zerol y).mp q)) ?_
    rw [pe_reml]; exact kk
  · cases hs

theorem pe_r_iand {S S' : pe_S} {φ : List Prop} (hx : p.tables.exec = Jvm.exec) (hb : c.code = cc) (hs : pe_ii (fun x y => ([], pe_and x y)) S = some (φ, S')) (hφ : pe_all φ) (hd : decode cc S.1 = .ok (.iand, 1))
    (h : pe_PW p l e R s m args below meth c Q D cA b n0 H0 nS uS nF uF nL S') : pe_PW p l e R s m args below meth c Q D cA b n0 H0 nS uS nF uF nL S := by
  obtain ⟨pc, ls, st, σ⟩ := S
  unfold pe_ii at hs
  split at hs
  · rename_i y x st' he
    cases hs
    dsimp only at he h
    subst he
    refine pe_sm (fun H Ls locs k0 z hL kk => ?_) h
    refine lv_iand (x := Int32.ofInt x) (y := Int32.ofInt y) hx hb hd ?_
    rw [← Int32.ofInt_toInt ((Int32.ofInt x) &&& _)]; exact kk
  · cases hs

theorem pe_r_ior {S S' : pe_S} {φ : List Prop} (hx : p.tables.exec = Jvm.exec) (hb : c.code = cc) (hs : pe_ii (fun x y => ([], pe_or x y)) S = some (φ, S')) (hφ : pe_all φ) (hd : decode cc S.1 = .ok (.ior, 1))
    (h : pe_PW p l e R s m args below meth c Q D cA b n0 H0 nS uS nF uF nL S') : pe_PW p l e R s m args below meth c Q D cA b n0 H0 nS uS nF uF nL S := by
  obtain ⟨pc, ls, st, σ⟩ := S
  unfold pe_ii at hs
  split at hs
  · rename_i y x st' he
    cases hs
    dsimp only at he h
    subst he
    refine pe_sm (fun H Ls locs k0 z hL kk => ?_) h
    refine lv_ior (x := Int32.ofInt x) (y := Int32.ofInt y) hx hb hd ?_
    rw [← Int32.ofInt_toInt ((Int32.ofInt x) ||| _)]; exact kk
  · cases hs

theorem pe_r_ixor {S S' : pe_S} {φ : List Prop} (hx : p.tables.exec = Jvm.exec) (hb : c.code = cc) (hs : pe_ii (fun x y => ([], pe_xor x y)) S = some (φ, S')) (hφ : pe_all φ) (hd : decode cc S.1 = .ok (.ixor, 1))
    (h : pe_PW p l e R s m args below meth c Q D cA b n0 H0 nS uS nF uF nL S') : pe_PW p l e R s m args below meth c Q D cA b n0 H0 nS uS nF uF nL S := by
  obtain ⟨pc, ls, st, σ⟩ := S
  unfold pe_ii at hs
  split at hs
  · rename_i y x st' he
    cases hs
    dsimp only at he h
    subst he
    refine pe_sm (fun H Ls locs k0 z hL kk => ?_) h
    refine lv_ixor (x := Int32.ofInt x) (y := Int32.ofInt y) hx hb hd ?_
    rw [← Int32.ofInt_toInt ((Int32.ofInt x) ^^^ _)]; exact kk
  · cases hs

theorem pe_r_ishl {S S' : pe_S} {φ : List Prop} (hx : p.tables.exec = Jvm.exec) (hb : c.code = cc) (hs : pe_ii (fun x y => ([], pe_shl x y)) S = some (φ, S')) (hφ : pe_all φ) (hd : decode cc S.1 = .ok (.ishl, 1))
    (h : pe_PW p l e R s m args below meth c Q D cA b n0 H0 nS uS nF uF nL S') : pe_PW p l e R s m args below meth c Q D cA b n0 H0 nS uS nF uF nL S := by
  obtain ⟨pc, ls, st, σ⟩ := S
  unfold pe_ii at hs
  split at hs
  · rename_i y x st' he
    cases hs
    dsimp only at he h
    subst he
    refine pe_sm (fun H Ls locs k0 z hL kk => ?_) h
    refine lv_ishl (x := Int32.ofInt x) (y := Int32.ofInt y) hx hb hd ?_
    rw [← Int32.ofInt_toInt ((Int32.ofInt x) <<< _)]; exact kk
  · cases hs

theorem pe_r_ishr {S S' : pe_S} {φ : List Prop} (hx : p.tables.exec = Jvm.exec) (hb : c.code = cc) (hs : pe_ii (fun x y => ([], pe_shr x y)) S = some (φ, S')) (hφ : pe_all φ) (hd : decode cc S.1 = .ok (.ishr, 1))
    (h : pe_PW p l e R s m args below meth c Q D cA b n0 H0 nS uS nF uF nL S') : pe_PW p l e R s m args below meth c Q D cA b n0 H0 nS uS nF uF nL S := by
  obtain ⟨pc, ls, st, σ⟩ := S
  unfold pe_ii at hs
  split at hs
  · rename_i y x st' he
    cases hs
    dsimp only at he h
    subst he
    refine pe_sm (fun H Ls locs k0 z hL kk => ?_) h
    refine lv_ishr (x := Int32.ofInt x) (y := Int32.ofInt y) hx hb hd ?_
    rw [← Int32.ofInt_toInt ((Int32.ofInt x) >>> _)]; exact kk
  · cases hs

theorem pe_r_iushr {S S' : pe_S} {φ : List Prop} (hx : p.tables.exec = Jvm.exec) (hb : c.code = cc) (hs : pe_ii (fun x y => ([], pe_ushr x y)) S = some (φ, S')) (hφ : pe_all φ) (hd : decode cc S.1 = .ok (.iushr, 1))
    (h : pe_PW p l e R s m args below meth c Q D cA b n0 H0 nS uS nF uF nL S') : pe_PW p l e R s m args below meth c Q D cA b n0 H0 nS uS nF uF nL S := by
  obtain ⟨pc, ls, st, σ⟩ := S
  unfold pe_ii at hs
  split at hs
  · rename_i y x st' he
    cases hs
    dsimp only at he h
    subst he
    refine pe_sm (fun H Ls locs k0 z hL kk => ?_) h
    refine lv_iushr (x := Int32.ofInt x) (y := Int32.ofInt y) (v := Int32.ofInt (pe_ushr x y)) hx hb hd ?_ kk
    unfold pe_ushr; exact (Int32.ofInt_toInt _).symm
  · cases hs

end PEW
