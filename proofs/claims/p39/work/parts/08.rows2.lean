/-! SOUND, 4: the other steps that leave the heap -/
section PEW2
variable {p : Program} {l : Launch} {e : Env} {R : Room} {s : State} {m : MethodId} {args : Array Value} {below : List Frame} {meth : Method} {c : Code} {Q : State → Prop} {cc : ByteArray}
variable {D : va_G} {cA : Nat → ClassId} {b : Nat × Nat} {n0 : Nat} {H0 : Heap} {nS uS nF uF nL : Nat}

theorem pe_r_psh {S S' : pe_S} {φ : List Prop} {len : Nat} {v : pe_V} (hx : p.tables.exec = Jvm.exec) (hb : c.code = cc) (hs : pe_psh len v S = some (φ, S')) (row : ∀ (H : Heap) (Ls : Array Slot) (locs : List Loc) (k z : Nat) (rest : List Value), W p l e R s m args below meth c H locs k z Q (F0 m (S.1 + len) Ls (pe_e (pe_ad b n0) v :: rest)) → W p l e R s m args below meth c H locs k z Q (F0 m S.1 Ls rest))
    (h : pe_PW p l e R s m args below meth c Q D cA b n0 H0 nS uS nF uF nL S') : pe_PW p l e R s m args below meth c Q D cA b n0 H0 nS uS nF uF nL S := by
  obtain ⟨pc, ls, st, σ⟩ := S
  unfold pe_psh at hs
  cases hs
  exact pe_sm (fun H Ls locs k0 z hL kk => row H Ls locs k0 z _ kk) h

theorem pe_r_x1 {S S' : pe_S} {φ : List Prop} {f : Int → pe_V} (hx : p.tables.exec = Jvm.exec) (hb : c.code = cc) (hs : pe_x1 f S = some (φ, S')) (row : ∀ (x : Int) (H : Heap) (Ls : Array Slot) (locs : List Loc) (k z : Nat) (rest : List Value), W p l e R s m args below meth c H locs k z Q (F0 m (S.1 + 1) Ls (pe_e (pe_ad b n0) (f x) :: rest)) → W p l e R s m args below meth c H locs k z Q (F0 m S.1 Ls (.int (Int32.ofInt x) :: rest)))
    (h : pe_PW p l e R s m args below meth c Q D cA b n0 H0 nS uS nF uF nL S') : pe_PW p l e R s m args below meth c Q D cA b n0 H0 nS uS nF uF nL S := by
  obtain ⟨pc, ls, st, σ⟩ := S
  unfold pe_x1 at hs
  split at hs
  · rename_i x st' he
    cases hs
    dsimp only at he h row
    subst he
    exact pe_sm (fun H Ls locs k0 z hL kk => row x H Ls locs k0 z _ kk) h
  · cases hs

theorem pe_r_y1 {S S' : pe_S} {φ : List Prop} {f : Int → pe_V} (hx : p.tables.exec = Jvm.exec) (hb : c.code = cc) (hs : pe_y1 f S = some (φ, S')) (row : ∀ (x : Int) (H : Heap) (Ls : Array Slot) (locs : List Loc) (k z : Nat) (rest : List Value), W p l e R s m args below meth c H locs k z Q (F0 m (S.1 + 1) Ls (pe_e (pe_ad b n0) (f x) :: rest)) → W p l e R s m args below meth c H locs k z Q (F0 m S.1 Ls (.long (Int64.ofInt x) :: rest)))
    (h : pe_PW p l e R s m args below meth c Q D cA b n0 H0 nS uS nF uF nL S') : pe_PW p l e R s m args below meth c Q D cA b n0 H0 nS uS nF uF nL S := by
  obtain ⟨pc, ls, st, σ⟩ := S
  unfold pe_y1 at hs
  split at hs
  · rename_i x st' he
    cases hs
    dsimp only at he h row
    subst he
    exact pe_sm (fun H Ls locs k0 z hL kk => row x H Ls locs k0 z _ kk) h
  · cases hs

theorem pe_r_br {pc : Nat} {ls : List (Option pe_V)} {st0 st : List pe_V} {σ : pe_H} {S' : pe_S} {φ : List Prop} {q : Bool} {off : Int} (hs : pe_br q off (pc, ls, st0, σ) st = some (φ, S'))
    (row : ∀ (tgt : Nat), (pc : Int) + off = (tgt : Int) → ∀ (H : Heap) (Ls : Array Slot) (locs : List Loc) (k z : Nat), (q = true → W p l e R s m args below meth c H locs k z Q (F0 m tgt Ls (st.map (pe_e (pe_ad b n0))))) → (q = false → W p l e R s m args below meth c H locs k z Q (F0 m (pc + 3) Ls (st.map (pe_e (pe_ad b n0))))) → W p l e R s m args below meth c H locs k z Q (F0 m pc Ls (st0.map (pe_e (pe_ad b n0)))))
    (h : pe_PW p l e R s m args below meth c Q D cA b n0 H0 nS uS nF uF nL S') : pe_PW p l e R s m args below meth c Q D cA b n0 H0 nS uS nF uF nL (pc, ls, st0, σ) := by
  unfold pe_br at hs
  split at hs
  · rename_i t ht
    cases hs
    dsimp only at ht h
    refine pe_sm (fun H Ls locs k0 z hL kk => row t ht H Ls locs k0 z (fun hq => ?_) (fun hq => ?_)) h
    · rw [hq] at kk; exact kk
    · rw [hq] at kk; exact kk
  · cases hs

theorem pe_r_goto {S S' : pe_S} {φ : List Prop} {off : Int} (hx : p.tables.exec = Jvm.exec) (hb : c.code = cc) (hs : pe_br true off S S.2.2.1 = some (φ, S')) (hd : decode cc S.1 = .ok (.goto off, 3))
    (h : pe_PW p l e R s m args below meth c Q D cA b n0 H0 nS uS nF uF nL S') : pe_PW p l e R s m args below meth c Q D cA b n0 H0 nS uS nF uF nL S := by
  obtain ⟨pc, ls, st, σ⟩ := S
  exact pe_r_br hs (fun tgt ht H Ls locs k z h1 _ => lv_goto hx hb hd ht (h1 rfl)) h

theorem pe_w_icmp_eq (hx : p.tables.exec = Jvm.exec) (hb : c.code = cc) {pc : Nat} {off : Int} {tgt : Nat} {x y : Int} (hd : decode cc pc = .ok (.if_icmp .eq off, 3)) (ht : (pc : Int) + off = (tgt : Int)) {H : Heap} {Ls : Array Slot} {locs : List Loc} {k z : Nat} {rest : List Value}
    (h1 : pe_cb .eq (pe_w x) (pe_w y) = true → W p l e R s m args below meth c H locs k z Q (F0 m tgt Ls rest)) (h2 : pe_cb .eq (pe_w x) (pe_w y) = false → W p l e R s m args below meth c H locs k z Q (F0 m (pc + 3) Ls rest)) : W p l e R s m args below meth c H locs k z Q (F0 m pc Ls (.int (Int32.ofInt y) :: .int (Int32.ofInt x) :: rest)) :=
  lv_icmp_eq hx hb hd ht (fun q => h1 (by simp [pe_cb, (pe_eq x y).mp q])) (fun q => h2 (by simp only [pe_cb, decide_eq_false_iff_not]; exact fun w => q ((pe_eq x y).mpr w)))

theorem pe_w_icmp_ne (hx : p.tables.exec = Jvm.exec) (hb : c.code = cc) {pc : Nat} {off : Int} {tgt : Nat} {x y : Int} (hd : decode cc pc = .ok (.if_icmp .ne off, 3)) (ht : (pc : Int) + off = (tgt : Int)) {H : Heap} {Ls : Array Slot} {locs : List Loc} {k z : Nat} {rest : List Value}
    (h1 : pe_cb .ne (pe_w x) (pe_w y) = true → W p l e R s m args below meth c H locs k z Q (F0 m tgt Ls rest)) (h2 : pe_cb .ne (pe_w x) (pe_w y) = false → W p l e R s m args below meth c H locs k z Q (F0 m (pc + 3) Ls rest)) : W p l e R s m args below meth c H locs k z Q (F0 m pc Ls (.int (Int32.ofInt y) :: .int (Int32.ofInt x) :: rest)) :=
  lv_icmp_ne hx hb hd ht (fun q => h1 (by simp only [pe_cb, decide_eq_true_eq]; exact fun w => q ((pe_eq x y).mpr w))) (fun q => h2 (by simp [pe_cb, (pe_eq x y).mp q]))

theorem pe_w_icmp_lt (hx : p.tables.exec = Jvm.exec) (hb : c.code = cc) {pc : Nat} {off : Int} {tgt : Nat} {x y : Int} (hd : decode cc pc = .ok (.if_icmp .lt off, 3)) (ht : (pc : Int) + off = (tgt : Int)) {H : Heap} {Ls : Array Slot} {locs : List Loc} {k z : Nat} {rest : List Value}
    (h1 : pe_cb .lt (pe_w x) (pe_w y) = true → W p l e R s m args below meth c H locs k z Q (F0 m tgt Ls rest)) (h2 : pe_cb .lt (pe_w x) (pe_w y) = false → W p l e R s m args below meth c H locs k z Q (F0 m (pc + 3) Ls rest)) : W p l e R s m args below meth c H locs k z Q (F0 m pc Ls (.int (Int32.ofInt y) :: .int (Int32.ofInt x) :: rest)) :=
  lv_icmp_lt hx hb hd ht (fun q => h1 (by simp only [pe_cb, decide_eq_true_eq]; exact (pe_lt x y).mp q)) (fun q => h2 (by simp only [pe_cb, decide_eq_false_iff_not]; exact fun w => q ((pe_lt x y).mpr w)))

theorem pe_w_icmp_ge (hx : p.tables.exec = Jvm.exec) (hb : c.code = cc) {pc : Nat} {off : Int} {tgt : Nat} {x y : Int} (hd : decode cc pc = .ok (.if_icmp .ge off, 3)) (ht : (pc : Int) + off = (tgt : Int)) {H : Heap} {Ls : Array Slot} {locs : List Loc} {k z : Nat} {rest : List Value}
    (h1 : pe_cb .ge (pe_w x) (pe_w y) = true → W p l e R s m args below meth c H locs k z Q (F0 m tgt Ls rest)) (h2 : pe_cb .ge (pe_w x) (pe_w y) = false → W p l e R s m args below meth c H locs k z Q (F0 m (pc + 3) Ls rest)) : W p l e R s m args below meth c H locs k z Q (F0 m pc Ls (.int (Int32.ofInt y) :: .int (Int32.ofInt x) :: rest)) :=
  lv_icmp_ge hx hb hd ht (fun q => h1 (by simp only [pe_cb, decide_eq_true_eq]; exact (pe_le y x).mp q)) (fun q => h2 (by simp only [pe_cb, decide_eq_false_iff_not]; exact fun w => q ((pe_le y x).mpr w)))

theorem pe_w_icmp_gt (hx : p.tables.exec = Jvm.exec) (hb : c.code = cc) {pc : Nat} {off : Int} {tgt : Nat} {x y : Int} (hd : decode cc pc = .ok (.if_icmp .gt off, 3)) (ht : (pc : Int) + off = (tgt : Int)) {H : Heap} {Ls : Array Slot} {locs : List Loc} {k z : Nat} {rest : List Value}
    (h1 : pe_cb .gt (pe_w x) (pe_w y) = true → W p l e R s m args below meth c H locs k z Q (F0 m tgt Ls rest)) (h2 : pe_cb .gt (pe_w x) (pe_w y) = false → W p l e R s m args below meth c H locs k z Q (F0 m (pc + 3) Ls rest)) : W p l e R s m args below meth c H locs k z Q (F0 m pc Ls (.int (Int32.ofInt y) :: .int (Int32.ofInt x) :: rest)) :=
  lv_icmp_gt hx hb hd ht (fun q => h1 (by simp only [pe_cb, decide_eq_true_eq]; exact (pe_lt y x).mp q)) (fun q => h2 (by simp only [pe_cb, decide_eq_false_iff_not]; exact fun w => q ((pe_lt y x).mpr w)))

theorem pe_w_icmp_le (hx : p.tables.exec = Jvm.exec) (hb : c.code = cc) {pc : Nat} {off : Int} {tgt : Nat} {x y : Int} (hd : decode cc pc = .ok (.if_icmp .le off, 3)) (ht : (pc : Int) + off = (tgt : Int)) {H : Heap} {Ls : Array Slot} {locs : List Loc} {k z : Nat} {rest : List Value}
    (h1 : pe_cb .le (pe_w x) (pe_w y) = true → W p l e R s m args below meth c H locs k z Q (F0 m tgt Ls rest)) (h2 : pe_cb .le (pe_w x) (pe_w y) = false → W p l e R s m args below meth c H locs k z Q (F0 m (pc + 3) Ls rest)) : W p l e R s m args below meth c H locs k z Q (F0 m pc Ls (.int (Int32.ofInt y) :: .int (Int32.ofInt x) :: rest)) :=
  lv_icmp_le hx hb hd ht (fun q => h1 (by simp only [pe_cb, decide_eq_true_eq]; exact (pe_le x y).mp q)) (fun q => h2 (by simp only [pe_cb, decide_eq_false_iff_not]; exact fun w => q ((pe_le x y).mpr w)))

theorem pe_r_icmp {S S' : pe_S} {φ : List Prop} {q : Jvm.ClassFile.Cond} {off : Int} (hx : p.tables.exec = Jvm.exec) (hb : c.code = cc) (hs : (match S.2.2.1 with | .inl y :: .inl x :: st => pe_br (pe_cb q (pe_w x) (pe_w y)) off S st | _ => none) = some (φ, S')) (hd : decode cc S.1 = .ok (.if_icmp q off, 3))
    (h : pe_PW p l e R s m args below meth c Q D cA b n0 H0 nS uS nF uF nL S') : pe_PW p l e R s m args below meth c Q D cA b n0 H0 nS uS nF uF nL S := by
  obtain ⟨pc, ls, st, σ⟩ := S
  split at hs
  · rename_i y x st' he
    dsimp only at he hs hd
    subst he
    refine pe_r_br hs (fun tgt ht H Ls locs k z h1 h2 => ?_) h
    cases q with
    | eq => exact pe_w_icmp_eq hx hb hd ht h1 h2
    | ne => exact pe_w_icmp_ne hx hb hd ht h1 h2
    | lt => exact pe_w_icmp_lt hx hb hd ht h1 h2
    | ge => exact pe_w_icmp_ge hx hb hd ht h1 h2
    | gt => exact pe_w_icmp_gt hx hb hd ht h1 h2
    | le => exact pe_w_icmp_le hx hb hd ht h1 h2
  · cases hs

theorem pe_w0 : pe_w 0 = 0 := by decide
theorem pe_lt0 (x : Int) : Int32.ofInt x < 0 ↔ pe_w x < 0 := by have h := pe_lt x 0; rw [pe_w0] at h; exact h
theorem pe_gt0 (x : Int) : 0 < Int32.ofInt x ↔ 0 < pe_w x := by have h := pe_lt 0 x; rw [pe_w0] at h; exact h
theorem pe_le0 (x : Int) : Int32.ofInt x ≤ 0 ↔ pe_w x ≤ 0 := by have h := pe_le x 0; rw [pe_w0] at h; exact h
theorem pe_ge0 (x : Int) : 0 ≤ Int32.ofInt x ↔ 0 ≤ pe_w x := by have h := pe_le 0 x; rw [pe_w0] at h; exact h
theorem pe_w_if_eq (hx : p.tables.exec = Jvm.exec) (hb : c.code = cc) {pc : Nat} {off : Int} {tgt : Nat} {x : Int} (hd : decode cc pc = .ok (.ifCond .eq off, 3)) (ht : (pc : Int) + off = (tgt : Int)) {H : Heap} {Ls : Array Slot} {locs : List Loc} {k z : Nat} {rest : List Value}
    (h1 : pe_cb .eq (pe_w x) 0 = true → W p l e R s m args below meth c H locs k z Q (F0 m tgt Ls rest)) (h2 : pe_cb .eq (pe_w x) 0 = false → W p l e R s m args below meth c H locs k z Q (F0 m (pc + 3) Ls rest)) : W p l e R s m args below meth c H locs k z Q (F0 m pc Ls (.int (Int32.ofInt x) :: rest)) :=
  lv_if_eq hx hb hd ht (fun q => h1 (by simp only [pe_cb, decide_eq_true_eq]; exact (pe_zero x).mp q)) (fun q => h2 (by simp only [pe_cb, decide_eq_false_iff_not]; exact fun w => q ((pe_zero x).mpr w)))

theorem pe_w_if_ne (hx : p.tables.exec = Jvm.exec) (hb : c.code = cc) {pc : Nat} {off : Int} {tgt : Nat} {x : Int} (hd : decode cc pc = .ok (.ifCond .ne off, 3)) (ht : (pc : Int) + off = (tgt : Int)) {H : Heap} {Ls : Array Slot} {locs : List Loc} {k z : Nat} {rest : List Value}
    (h1 : pe_cb .ne (pe_w x) 0 = true → W p l e R s m args below meth c H locs k z Q (F0 m tgt Ls rest)) (h2 : pe_cb .ne (pe_w x) 0 = false → W p l e R s m args below meth c H locs k z Q (F0 m (pc + 3) Ls rest)) : W p l e R s m args below meth c H locs k z Q (F0 m pc Ls (.int (Int32.ofInt x) :: rest)) :=
  lv_if_ne hx hb hd ht (fun q => h1 (by simp only [pe_cb, decide_eq_true_eq]; exact fun w => q ((pe_zero x).mpr w))) (fun q => h2 (by simp [pe_cb, (pe_zero x).mp q]))

theorem pe_w_if_lt (hx : p.tables.exec = Jvm.exec) (hb : c.code = cc) {pc : Nat} {off : Int} {tgt : Nat} {x : Int} (hd : decode cc pc = .ok (.ifCond .lt off, 3)) (ht : (pc : Int) + off = (tgt : Int)) {H : Heap} {Ls : Array Slot} {locs : List Loc} {k z : Nat} {rest : List Value}
    (h1 : pe_cb .lt (pe_w x) 0 = true → W p l e R s m args below meth c H locs k z Q (F0 m tgt Ls rest)) (h2 : pe_cb .lt (pe_w x) 0 = false → W p l e R s m args below meth c H locs k z Q (F0 m (pc + 3) Ls rest)) : W p l e R s m args below meth c H locs k z Q (F0 m pc Ls (.int (Int32.ofInt x) :: rest)) :=
  lv_if_lt hx hb hd ht (fun q => h1 (by simp only [pe_cb, decide_eq_true_eq]; exact (pe_lt0 x).mp q)) (fun q => h2 (by simp only [pe_cb, decide_eq_false_iff_not]; exact fun w => q ((pe_lt0 x).mpr w)))

theorem pe_w_if_ge (hx : p.tables.exec = Jvm.exec) (hb : c.code = cc) {pc : Nat} {off : Int} {tgt : Nat} {x : Int} (hd : decode cc pc = .ok (.ifCond .ge off, 3)) (ht : (pc : Int) + off = (tgt : Int)) {H : Heap} {Ls : Array Slot} {locs : List Loc} {k z : Nat} {rest : List Value}
    (h1 : pe_cb .ge (pe_w x) 0 = true → W p l e R s m args below meth c H locs k z Q (F0 m tgt Ls rest)) (h2 : pe_cb .ge (pe_w x) 0 = false → W p l e R s m args below meth c H locs k z Q (F0 m (pc + 3) Ls rest)) : W p l e R s m args below meth c H locs k z Q (F0 m pc Ls (.int (Int32.ofInt x) :: rest)) :=
  lv_if_ge hx hb hd ht (fun q => h1 (by simp only [pe_cb, decide_eq_true_eq]; exact (pe_ge0 x).mp q)) (fun q => h2 (by simp only [pe_cb, decide_eq_false_iff_not]; exact fun w => q ((pe_ge0 x).mpr w)))

theorem pe_w_if_gt (hx : p.tables.exec = Jvm.exec) (hb : c.code = cc) {pc : Nat} {off : Int} {tgt : Nat} {x : Int} (hd : decode cc pc = .ok (.ifCond .gt off, 3)) (ht : (pc : Int) + off = (tgt : Int)) {H : Heap} {Ls : Array Slot} {locs : List Loc} {k z : Nat} {rest : List Value}
    (h1 : pe_cb .gt (pe_w x) 0 = true → W p l e R s m args below meth c H locs k z Q (F0 m tgt Ls rest)) (h2 : pe_cb .gt (pe_w x) 0 = false → W p l e R s m args below meth c H locs k z Q (F0 m (pc + 3) Ls rest)) : W p l e R s m args below meth c H locs k z Q (F0 m pc Ls (.int (Int32.ofInt x) :: rest)) :=
  lv_if_gt hx hb hd ht (fun q => h1 (by simp only [pe_cb, decide_eq_true_eq]; exact (pe_gt0 x).mp q)) (fun q => h2 (by simp only [pe_cb, decide_eq_false_iff_not]; exact fun w => q ((pe_gt0 x).mpr w)))

theorem pe_w_if_le (hx : p.tables.exec = Jvm.exec) (hb : c.code = cc) {pc : Nat} {off : Int} {tgt : Nat} {x : Int} (hd : decode cc pc = .ok (.ifCond .le off, 3)) (ht : (pc : Int) + off = (tgt : Int)) {H : Heap} {Ls : Array Slot} {locs : List Loc} {k z : Nat} {rest : List Value}
    (h1 : pe_cb .le (pe_w x) 0 = true → W p l e R s m args below meth c H locs k z Q (F0 m tgt Ls rest)) (h2 : pe_cb .le (pe_w x) 0 = false → W p l e R s m args below meth c H locs k z Q (F0 m (pc + 3) Ls rest)) : W p l e R s m args below meth c H locs k z Q (F0 m pc Ls (.int (Int32.ofInt x) :: rest)) :=
  lv_if_le hx hb hd ht (fun q => h1 (by simp only [pe_cb, decide_eq_true_eq]; exact (pe_le0 x).mp q)) (fun q => h2 (by simp only [pe_cb, decide_eq_false_iff_not]; exact fun w => q ((pe_le0 x).mpr w)))

theorem pe_r_if {S S' : pe_S} {φ : List Prop} {q : Jvm.ClassFile.Cond} {off : Int} (hx : p.tables.exec = Jvm.exec) (hb : c.code = cc) (hs : (match S.2.2.1 with | .inl x :: st => pe_br (pe_cb q (pe_w x) 0) off S st | _ => none) = some (φ, S')) (hd : decode cc S.1 = .ok (.ifCond q off, 3))
    (h : pe_PW p l e R s m args below meth c Q D cA b n0 H0 nS uS nF uF nL S') : pe_PW p l e R s m args below meth c Q D cA b n0 H0 nS uS nF uF nL S := by
  obtain ⟨pc, ls, st, σ⟩ := S
  split at hs
  · rename_i x st' he
    dsimp only at he hs hd
    subst he
    refine pe_r_br hs (fun tgt ht H Ls locs k z h1 h2 => ?_) h
    cases q with
    | eq => exact pe_w_if_eq hx hb hd ht h1 h2
    | ne => exact pe_w_if_ne hx hb hd ht h1 h2
    | lt => exact pe_w_if_lt hx hb hd ht h1 h2
    | ge => exact pe_w_if_ge hx hb hd ht h1 h2
    | gt => exact pe_w_if_gt hx hb hd ht h1 h2
    | le => exact pe_w_if_le hx hb hd ht h1 h2
  · cases hs

theorem pe_r_ifnull {S S' : pe_S} {φ : List Prop} {off : Int} (hx : p.tables.exec = Jvm.exec) (hb : c.code = cc) (hs : (match S.2.2.1 with | .inr (.inr x) :: st => pe_br (decide (x = 0)) off S st | _ => none) = some (φ, S')) (hd : decode cc S.1 = .ok (.ifnull off, 3))
    (h : pe_PW p l e R s m args below meth c Q D cA b n0 H0 nS uS nF uF nL S') : pe_PW p l e R s m args below meth c Q D cA b n0 H0 nS uS nF uF nL S := by
  obtain ⟨pc, ls, st, σ⟩ := S
  split at hs
  · rename_i x st' he
    dsimp only at he hs hd
    subst he
    refine pe_r_br hs (fun tgt ht H Ls locs k z h1 h2 => ?_) h
    show W p l e R s m args below meth c H locs k z Q (F0 m pc Ls (pe_rf (pe_ad b n0) x :: st'.map (pe_e (pe_ad b n0))))
    by_cases hx0 : x = 0
    · rw [show pe_rf (pe_ad b n0) x = .null by unfold pe_rf; rw [if_pos hx0]]
      exact lv_ifnullN hx hb hd ht (h1 (by simp [hx0]))
    · rw [show pe_rf (pe_ad b n0) x = .ref (pe_ad b n0 x) by unfold pe_rf; rw [if_neg hx0]]
      exact lv_ifnull hx hb hd (h2 (by simp [hx0]))
  · cases hs

theorem pe_r_ifnonnull {S S' : pe_S} {φ : List Prop} {off : Int} (hx : p.tables.exec = Jvm.exec) (hb : c.code = cc) (hs : (match S.2.2.1 with | .inr (.inr x) :: st => pe_br (decide (¬ x = 0)) off S st | _ => none) = some (φ, S')) (hd : decode cc S.1 = .ok (.ifnonnull off, 3))
    (h : pe_PW p l e R s m args below meth c Q D cA b n0 H0 nS uS nF uF nL S') : pe_PW p l e R s m args below meth c Q D cA b n0 H0 nS uS nF uF nL S := by
  obtain ⟨pc, ls, st, σ⟩ := S
  split at hs
  · rename_i x st' he
    dsimp only at he hs hd
    subst he
    refine pe_r_br hs (fun tgt ht H Ls locs k z h1 h2 => ?_) h
    show W p l e R s m args below meth c H locs k z Q (F0 m pc Ls (pe_rf (pe_ad b n0) x :: st'.map (pe_e (pe_ad b n0))))
    by_cases hx0 : x = 0
    · rw [show pe_rf (pe_ad b n0) x = .null by unfold pe_rf; rw [if_pos hx0]]
      exact lv_ifnonnullN hx hb hd (h2 (by simp [hx0]))
    · rw [show pe_rf (pe_ad b n0) x = .ref (pe_ad b n0 x) by unfold pe_rf; rw [if_neg hx0]]
      exact lv_ifnonnull hx hb hd ht (h1 (by simp [hx0]))
  · cases hs

theorem pe_r_lcmp {S S' : pe_S} {φ : List Prop} (hx : p.tables.exec = Jvm.exec) (hb : c.code = cc) (hs : (match S.2.2.1 with | .inr (.inl y) :: .inr (.inl x) :: st => some (([] : List Prop), (S.1 + 1, S.2.1, .inl (pe_lcmp x y) :: st, S.2.2.2)) | _ => none) = some (φ, S')) (hd : decode cc S.1 = .ok (.lcmp, 1))
    (h : pe_PW p l e R s m args below meth c Q D cA b n0 H0 nS uS nF uF nL S') : pe_PW p l e R s m args below meth c Q D cA b n0 H0 nS uS nF uF nL S := by
  obtain ⟨pc, ls, st, σ⟩ := S
  split at hs
  · rename_i y x st' he
    cases hs
    dsimp only at he h
    subst he
    refine pe_sm (fun H Ls locs k0 z hL kk => ?_) h
    refine W.lcmp (x := Int64.ofInt x) (y := Int64.ofInt y) hx hb hd ?_
    rw [show lg_cmp (Int64.ofInt x) (Int64.ofInt y) = Int32.ofInt (pe_lcmp x y) from ?_]
    · exact kk
    · unfold pe_lcmp pe_wl lg_cmp
      generalize Int64.ofInt x = X
      generalize Int64.ofInt y = Y
      have e1 : X < Y ↔ X.toInt < Y.toInt := Int64.lt_iff_toInt_lt
      have e2 : X = Y ↔ X.toInt = Y.toInt := Int64.toInt_inj.symm
      by_cases q1 : X.toInt < Y.toInt
      · have q3 : X < Y := e1.mpr q1
        have q4 : ¬ X = Y := fun w => by have := e2.mp w; omega
        have q5 : ¬ Y < X := fun w => by have := Int64.lt_iff_toInt_lt.mp w; omega
        simp [q1, q3, q4, q5] <;> rfl
      · have q3 : ¬ X < Y := fun w => q1 (e1.mp w)
        by_cases q2 : X.toInt = Y.toInt
        · have q4 : X = Y := e2.mpr q2
          subst q4
          simp <;> rfl
        · have q4 : ¬ X = Y := fun w => q2 (e2.mp w)
          have q5 : Y < X := Int64.lt_iff_toInt_lt.mpr (by omega)
          simp [q1, q2, q3, q4, q5] <;> rfl
  · cases hs

theorem pe_r_iinc {S S' : pe_S} {φ : List Prop} {i : Nat} {n : Int} (hx : p.tables.exec = Jvm.exec) (hb : c.code = cc) (hs : (match pe_ld S.2.1 i with | some (.inl x) => if i < S.2.1.length then some (([] : List Prop), (S.1 + 3, pe_st1 S.2.1 i (.inl (x + n)), S.2.2.1, S.2.2.2)) else none | _ => none) = some (φ, S')) (hd : decode cc S.1 = .ok (.iinc i n, 3))
    (h : pe_PW p l e R s m args below meth c Q D cA b n0 H0 nS uS nF uF nL S') : pe_PW p l e R s m args below meth c Q D cA b n0 H0 nS uS nF uF nL S := by
  obtain ⟨pc, ls, st, σ⟩ := S
  split at hs
  · rename_i x he
    split at hs
    · rename_i hk
      cases hs
      dsimp only at he h hk
      refine pe_same (by unfold pe_st1; rw [pe_sto_len, pe_kil_len]) (fun H Ls locs k0 z hL kk => ?_) h
      obtain ⟨j, hj⟩ := List.getElem?_of_mem (pe_kn_mem (ad := pe_ad b n0) he)
      exact lv_iinc (x := Int32.ofInt x) (v := Int32.ofInt (x + n)) (k := j) hx hb hd (pe_lv_has hL) hj (pe_add x n) hk rfl (fun ls' hl' => kk ls' (pe_lv_st1 (v := .inl (x + n)) hk hl'))
    · cases hs
  · cases hs

theorem pe_r_dup {S S' : pe_S} {φ : List Prop} (hx : p.tables.exec = Jvm.exec) (hb : c.code = cc) (hs : (match S.2.2.1 with | .inl x :: st => some (([] : List Prop), (S.1 + 1, S.2.1, .inl x :: .inl x :: st, S.2.2.2)) | .inr (.inr x) :: st => some ([], (S.1 + 1, S.2.1, .inr (.inr x) :: .inr (.inr x) :: st, S.2.2.2)) | _ => none) = some (φ, S')) (hd : decode cc S.1 = .ok (.dup, 1))
    (h : pe_PW p l e R s m args below meth c Q D cA b n0 H0 nS uS nF uF nL S') : pe_PW p l e R s m args below meth c Q D cA b n0 H0 nS uS nF uF nL S := by
  obtain ⟨pc, ls, st, σ⟩ := S
  split at hs
  · rename_i x st' he
    cases hs
    dsimp only at he h
    subst he
    exact pe_sm (fun H Ls locs k0 z hL kk => lv_dup hx hb hd rfl kk) h
  · rename_i x st' he
    cases hs
    dsimp only at he h
    subst he
    exact pe_sm (fun H Ls locs k0 z hL kk => lv_dup hx hb hd (pe_cat_e (ad := pe_ad b n0) (v := .inr (.inr x)) (fun y q => by simp at q)) kk) h
  · cases hs

theorem pe_r_pop {S S' : pe_S} {φ : List Prop} (hx : p.tables.exec = Jvm.exec) (hb : c.code = cc) (hs : (match S.2.2.1 with | .inl _ :: st => some (([] : List Prop), (S.1 + 1, S.2.1, st, S.2.2.2)) | .inr (.inr _) :: st => some ([], (S.1 + 1, S.2.1, st, S.2.2.2)) | _ => none) = some (φ, S')) (hd : decode cc S.1 = .ok (.pop, 1))
    (h : pe_PW p l e R s m args below meth c Q D cA b n0 H0 nS uS nF uF nL S') : pe_PW p l e R s m args below meth c Q D cA b n0 H0 nS uS nF uF nL S := by
  obtain ⟨pc, ls, st, σ⟩ := S
  split at hs
  · rename_i x st' he
    cases hs
    dsimp only at he h
    subst he
    exact pe_sm (fun H Ls locs k0 z hL kk => lv_pop hx hb hd rfl kk) h
  · rename_i x st' he
    cases hs
    dsimp only at he h
    subst he
    exact pe_sm (fun H Ls locs k0 z hL kk => lv_pop hx hb hd (pe_cat_e (ad := pe_ad b n0) (v := .inr (.inr x)) (fun y q => by simp at q)) kk) h
  · cases hs

theorem pe_r_dup2 {S S' : pe_S} {φ : List Prop} (hx : p.tables.exec = Jvm.exec) (hb : c.code = cc) (hs : (match S.2.2.1 with | .inl x :: .inr (.inr y) :: st => some (([] : List Prop), (S.1 + 1, S.2.1, .inl x :: .inr (.inr y) :: .inl x :: .inr (.inr y) :: st, S.2.2.2)) | _ => none) = some (φ, S')) (hd : decode cc S.1 = .ok (.dup2, 1))
    (h : pe_PW p l e R s m args below meth c Q D cA b n0 H0 nS uS nF uF nL S') : pe_PW p l e R s m args below meth c Q D cA b n0 H0 nS uS nF uF nL S := by
  obtain ⟨pc, ls, st, σ⟩ := S
  split at hs
  · rename_i x y st' he
    cases hs
    dsimp only at he h
    subst he
    exact pe_sm (fun H Ls locs k0 z hL kk => lv_dup2_11 hx hb hd rfl (pe_cat_e (ad := pe_ad b n0) (v := .inr (.inr y)) (fun y q => by simp at q)) kk) h
  · cases hs

end PEW2
