/-! THE MODEL, blocks 1: by program -/
-- thrown()I
def T133 : List (Nat × Instr × Nat) := [(0, .aload_n 0, 1), (1, .getfield 141, 3), (4, .ireturn, 1)]
theorem ck133 : pe_ctx 133 9 false (some .int) 1 T133 := ⟨rfl, rfl, rfl, rfl, by decide +kernel, by decide, by decide⟩
theorem b133_0 {d : Nat} {Φ : Option pe_V → pe_H → Prop} {σ : pe_H} {M : Nat} (hF : pm_F M σ)    (k : Φ (some (.inl (pe_I σ M 37))) σ) : pe_X d 133 (0, [some (.inr (.inr M))], [], σ) Φ := by
  refine pe_blk 0 2 ck133 [pe_K σ M = 9] (4, [some (.inr (.inr M))], [.inl (pe_I σ M 37)], σ) rfl ?_ ?_
  · first
    | (simp (disch := omega) only [pe_all, pm_KM hF]; done)
    | (simp (disch := omega) only [pe_all, pm_KM hF]; (repeat' apply And.intro) <;> first | assumption | omega | decide)
  · try simp (disch := omega) only [pm_KM hF]
    exact pe_fine 2 ck133 rfl rfl rfl trivial k
-- in(JJJ)Z
def T134 : List (Nat × Instr × Nat) := [(0, .lload_n 0, 1), (1, .lload_n 2, 1), (2, .lcmp, 1), (3, .ifCond .lt 14, 3), (6, .lload_n 0, 1), (7, .lload 4, 2), (9, .lcmp, 1), (10, .ifCond .gt 7, 3), (13, .iconst 1, 1), (14, .goto 4, 3), (17, .iconst 0, 1), (18, .ireturn, 1)]
theorem ck134 : pe_ctx 134 9 false (some .boolean) 6 T134 := ⟨rfl, rfl, rfl, rfl, by decide +kernel, by decide, by decide⟩
theorem b134_0 {d : Nat} {Φ : Option pe_V → pe_H → Prop} {σ : pe_H} {M : Nat} (hF : pm_F M σ) {y0 : Int} {y2 : Int} {y4 : Int} (w0 : pe_in (pe_lcmp y0 y2) := by unfold pe_in; omega)  (k1 : (pe_lcmp y0 y2) < 0 → pe_X d 134 (17, [some (.inr (.inl y0)), none, some (.inr (.inl y2)), none, some (.inr (.inl y4)), none], [], σ) Φ) (k2 : ¬ ((pe_lcmp y0 y2) < 0) → pe_X d 134 (6, [some (.inr (.inl y0)), none, some (.inr (.inl y2)), none, some (.inr (.inl y4)), none], [], σ) Φ) : pe_X d 134 (0, [some (.inr (.inl y0)), none, some (.inr (.inl y2)), none, some (.inr (.inl y4)), none], [], σ) Φ := by
  refine pe_blk 0 4 ck134 [] (cond (decide ((pe_w (pe_lcmp y0 y2)) < 0)) 17 6, [some (.inr (.inl y0)), none, some (.inr (.inl y2)), none, some (.inr (.inl y4)), none], [], σ) rfl ?_ ?_
  · exact trivial
  · try simp (disch := omega) only [pe_wi w0]
    exact pe_two k1 k2
theorem b134_6 {d : Nat} {Φ : Option pe_V → pe_H → Prop} {σ : pe_H} {M : Nat} (hF : pm_F M σ) {y0 : Int} {o2 : Option pe_V} {o3 : Option pe_V} {y4 : Int} (w0 : pe_in (pe_lcmp y0 y4) := by unfold pe_in; omega)  (k1 : 0 < (pe_lcmp y0 y4) → pe_X d 134 (17, [some (.inr (.inl y0)), none, o2, o3, some (.inr (.inl y4)), none], [], σ) Φ) (k2 : ¬ (0 < (pe_lcmp y0 y4)) → pe_X d 134 (13, [some (.inr (.inl y0)), none, o2, o3, some (.inr (.inl y4)), none], [], σ) Φ) : pe_X d 134 (6, [some (.inr (.inl y0)), none, o2, o3, some (.inr (.inl y4)), none], [], σ) Φ := by
  refine pe_blk 4 4 ck134 [] (cond (decide (0 < (pe_w (pe_lcmp y0 y4)))) 17 13, [some (.inr (.inl y0)), none, o2, o3, some (.inr (.inl y4)), none], [], σ) rfl ?_ ?_
  · exact trivial
  · try simp (disch := omega) only [pe_wi w0]
    exact pe_two k1 k2
theorem b134_13 {d : Nat} {Φ : Option pe_V → pe_H → Prop} {σ : pe_H} {M : Nat} (hF : pm_F M σ) {o0 : Option pe_V} {o1 : Option pe_V} {o2 : Option pe_V} {o3 : Option pe_V} {o4 : Option pe_V} {o5 : Option pe_V}   (k : pe_X d 134 (18, [o0, o1, o2, o3, o4, o5], [.inl 1], σ) Φ) : pe_X d 134 (13, [o0, o1, o2, o3, o4, o5], [], σ) Φ := by
  refine pe_blk 8 2 ck134 [] (18, [o0, o1, o2, o3, o4, o5], [.inl 1], σ) rfl ?_ ?_
  · exact trivial
  · exact k
theorem b134_17 {d : Nat} {Φ : Option pe_V → pe_H → Prop} {σ : pe_H} {M : Nat} (hF : pm_F M σ) {o0 : Option pe_V} {o1 : Option pe_V} {o2 : Option pe_V} {o3 : Option pe_V} {o4 : Option pe_V} {o5 : Option pe_V}   (k : pe_X d 134 (18, [o0, o1, o2, o3, o4, o5], [.inl 0], σ) Φ) : pe_X d 134 (17, [o0, o1, o2, o3, o4, o5], [], σ) Φ := by
  refine pe_blk 10 1 ck134 [] (18, [o0, o1, o2, o3, o4, o5], [.inl 0], σ) rfl ?_ ?_
  · exact trivial
  · exact k
theorem b134_18 {d : Nat} {Φ : Option pe_V → pe_H → Prop} {σ : pe_H} {M : Nat} (hF : pm_F M σ) {o0 : Option pe_V} {o1 : Option pe_V} {o2 : Option pe_V} {o3 : Option pe_V} {o4 : Option pe_V} {o5 : Option pe_V} {s0 : Int}  (h0 : s0 = 0 ∨ s0 = 1 := by first | assumption | omega) (k : Φ (some (.inl s0)) σ) : pe_X d 134 (18, [o0, o1, o2, o3, o4, o5], [.inl s0], σ) Φ := by
  exact pe_fine 11 ck134 rfl rfl rfl h0 k
-- hasBit(II)Z
def T135 : List (Nat × Instr × Nat) := [(0, .iload_n 0, 1), (1, .iload_n 1, 1), (2, .ishr, 1), (3, .iconst 1, 1), (4, .iand, 1), (5, .iconst 1, 1), (6, .if_icmp .ne 7, 3), (9, .iconst 1, 1), (10, .goto 4, 3), (13, .iconst 0, 1), (14, .ireturn, 1)]
theorem ck135 : pe_ctx 135 9 false (some .boolean) 2 T135 := ⟨rfl, rfl, rfl, rfl, by decide +kernel, by decide, by decide⟩
theorem b135_0 {d : Nat} {Φ : Option pe_V → pe_H → Prop} {σ : pe_H} {M : Nat} (hF : pm_F M σ) {x0 : Int} {x1 : Int} (w0 : pe_in (pe_and (pe_shr x0 x1) 1) := by unfold pe_in; omega)  (k1 : ¬ (pe_and (pe_shr x0 x1) 1) = 1 → pe_X d 135 (13, [some (.inl x0), some (.inl x1)], [], σ) Φ) (k2 : (pe_and (pe_shr x0 x1) 1) = 1 → pe_X d 135 (9, [some (.inl x0), some (.inl x1)], [], σ) Φ) : pe_X d 135 (0, [some (.inl x0), some (.inl x1)], [], σ) Φ := by
  refine pe_blk 0 7 ck135 [] (cond (decide (¬ (pe_w (pe_and (pe_shr x0 x1) 1)) = (pe_w 1))) 13 9, [some (.inl x0), some (.inl x1)], [], σ) rfl ?_ ?_
  · exact trivial
  · try simp (disch := omega) only [pe_wi w0, pe_wi (x := 1) ⟨by decide, by decide⟩]
    exact pe_two' k1 k2
theorem b135_9 {d : Nat} {Φ : Option pe_V → pe_H → Prop} {σ : pe_H} {M : Nat} (hF : pm_F M σ) {o0 : Option pe_V} {o1 : Option pe_V}   (k : pe_X d 135 (14, [o0, o1], [.inl 1], σ) Φ) : pe_X d 135 (9, [o0, o1], [], σ) Φ := by
  refine pe_blk 7 2 ck135 [] (14, [o0, o1], [.inl 1], σ) rfl ?_ ?_
  · exact trivial
  · exact k
theorem b135_13 {d : Nat} {Φ : Option pe_V → pe_H → Prop} {σ : pe_H} {M : Nat} (hF : pm_F M σ) {o0 : Option pe_V} {o1 : Option pe_V}   (k : pe_X d 135 (14, [o0, o1], [.inl 0], σ) Φ) : pe_X d 135 (13, [o0, o1], [], σ) Φ := by
  refine pe_blk 9 1 ck135 [] (14, [o0, o1], [.inl 0], σ) rfl ?_ ?_
  · exact trivial
  · exact k
theorem b135_14 {d : Nat} {Φ : Option pe_V → pe_H → Prop} {σ : pe_H} {M : Nat} (hF : pm_F M σ) {o0 : Option pe_V} {o1 : Option pe_V} {s0 : Int}  (h0 : s0 = 0 ∨ s0 = 1 := by first | assumption | omega) (k : Φ (some (.inl s0)) σ) : pe_X d 135 (14, [o0, o1], [.inl s0], σ) Φ := by
  exact pe_fine 10 ck135 rfl rfl rfl h0 k
-- onesOf(I)I
def T136 : List (Nat × Instr × Nat) := [(0, .iconst 0, 1), (1, .istore_n 1, 1), (2, .iload_n 0, 1), (3, .istore_n 2, 1), (4, .iload_n 2, 1), (5, .ifCond .eq 15, 3), (8, .iinc 1 1, 3), (11, .iload_n 2, 1), (12, .iload_n 2, 1), (13, .iconst 1, 1), (14, .isub, 1), (15, .iand, 1), (16, .istore_n 2, 1), (17, .goto (-13), 3), (20, .iload_n 1, 1), (21, .ireturn, 1)]
theorem ck136 : pe_ctx 136 9 false (some .int) 3 T136 := ⟨rfl, rfl, rfl, rfl, by decide +kernel, by decide, by decide⟩
theorem b136_0 {d : Nat} {Φ : Option pe_V → pe_H → Prop} {σ : pe_H} {M : Nat} (hF : pm_F M σ) {x0 : Int} {o1 : Option pe_V} {o2 : Option pe_V}   (k : pe_X d 136 (4, [some (.inl x0), some (.inl 0), some (.inl x0)], [], σ) Φ) : pe_X d 136 (0, [some (.inl x0), o1, o2], [], σ) Φ := by
  refine pe_blk 0 4 ck136 [] (4, [some (.inl x0), some (.inl 0), some (.inl x0)], [], σ) rfl ?_ ?_
  · exact trivial
  · exact k
theorem b136_4 {d : Nat} {Φ : Option pe_V → pe_H → Prop} {σ : pe_H} {M : Nat} (hF : pm_F M σ) {o0 : Option pe_V} {x1 : Int} {x2 : Int} (w0 : pe_in x2 := by unfold pe_in; omega)  (k1 : x2 = 0 → pe_X d 136 (20, [o0, some (.inl x1), some (.inl x2)], [], σ) Φ) (k2 : ¬ (x2 = 0) → pe_X d 136 (8, [o0, some (.inl x1), some (.inl x2)], [], σ) Φ) : pe_X d 136 (4, [o0, some (.inl x1), some (.inl x2)], [], σ) Φ := by
  refine pe_blk 4 2 ck136 [] (cond (decide ((pe_w x2) = 0)) 20 8, [o0, some (.inl x1), some (.inl x2)], [], σ) rfl ?_ ?_
  · exact trivial
  · try simp (disch := omega) only [pe_wi w0]
    exact pe_two k1 k2
theorem b136_8 {d : Nat} {Φ : Option pe_V → pe_H → Prop} {σ : pe_H} {M : Nat} (hF : pm_F M σ) {o0 : Option pe_V} {x1 : Int} {x2 : Int}   (k : pe_X d 136 (4, [pe_nl o0, some (.inl (x1 + 1)), some (.inl (pe_and x2 (x2 - 1)))], [], σ) Φ) : pe_X d 136 (8, [o0, some (.inl x1), some (.inl x2)], [], σ) Φ := by
  refine pe_blk 6 8 ck136 [] (4, [pe_nl o0, some (.inl (x1 + 1)), some (.inl (pe_and x2 (x2 - 1)))], [], σ) rfl ?_ ?_
  · exact trivial
  · exact k
theorem b136_20 {d : Nat} {Φ : Option pe_V → pe_H → Prop} {σ : pe_H} {M : Nat} (hF : pm_F M σ) {o0 : Option pe_V} {x1 : Int} {o2 : Option pe_V}   (k : Φ (some (.inl x1)) σ) : pe_X d 136 (20, [o0, some (.inl x1), o2], [], σ) Φ := by
  refine pe_blk 14 1 ck136 [] (21, [o0, some (.inl x1), o2], [.inl x1], σ) rfl ?_ ?_
  · exact trivial
  · exact pe_fine 15 ck136 rfl rfl rfl trivial k
-- held(II)I
def T137 : List (Nat × Instr × Nat) := [(0, .iload_n 0, 1), (1, .ifCond .ge 7, 3), (4, .iconst 0, 1), (5, .goto 13, 3), (8, .iload_n 0, 1), (9, .iload_n 1, 1), (10, .if_icmp .le 7, 3), (13, .iload_n 1, 1), (14, .goto 4, 3), (17, .iload_n 0, 1), (18, .ireturn, 1)]
theorem ck137 : pe_ctx 137 9 false (some .int) 2 T137 := ⟨rfl, rfl, rfl, rfl, by decide +kernel, by decide, by decide⟩
theorem b137_0 {d : Nat} {Φ : Option pe_V → pe_H → Prop} {σ : pe_H} {M : Nat} (hF : pm_F M σ) {x0 : Int} {x1 : Int} (w0 : pe_in x0 := by unfold pe_in; omega)  (k1 : 0 ≤ x0 → pe_X d 137 (8, [some (.inl x0), some (.inl x1)], [], σ) Φ) (k2 : ¬ (0 ≤ x0) → pe_X d 137 (4, [some (.inl x0), some (.inl x1)], [], σ) Φ) : pe_X d 137 (0, [some (.inl x0), some (.inl x1)], [], σ) Φ := by
  refine pe_blk 0 2 ck137 [] (cond (decide (0 ≤ (pe_w x0))) 8 4, [some (.inl x0), some (.inl x1)], [], σ) rfl ?_ ?_
  · exact trivial
  · try simp (disch := omega) only [pe_wi w0]
    exact pe_two k1 k2
theorem b137_4 {d : Nat} {Φ : Option pe_V → pe_H → Prop} {σ : pe_H} {M : Nat} (hF : pm_F M σ) {o0 : Option pe_V} {o1 : Option pe_V}   (k : pe_X d 137 (18, [o0, o1], [.inl 0], σ) Φ) : pe_X d 137 (4, [o0, o1], [], σ) Φ := by
  refine pe_blk 2 2 ck137 [] (18, [o0, o1], [.inl 0], σ) rfl ?_ ?_
  · exact trivial
  · exact k
theorem b137_8 {d : Nat} {Φ : Option pe_V → pe_H → Prop} {σ : pe_H} {M : Nat} (hF : pm_F M σ) {x0 : Int} {x1 : Int} (w0 : pe_in x0 := by unfold pe_in; omega) (w1 : pe_in x1 := by unfold pe_in; omega)  (k1 : x0 ≤ x1 → pe_X d 137 (17, [some (.inl x0), some (.inl x1)], [], σ) Φ) (k2 : ¬ (x0 ≤ x1) → pe_X d 137 (13, [some (.inl x0), some (.inl x1)], [], σ) Φ) : pe_X d 137 (8, [some (.inl x0), some (.inl x1)], [], σ) Φ := by
  refine pe_blk 4 3 ck137 [] (cond (decide ((pe_w x0) ≤ (pe_w x1))) 17 13, [some (.inl x0), some (.inl x1)], [], σ) rfl ?_ ?_
  · exact trivial
  · try simp (disch := omega) only [pe_wi w0, pe_wi w1]
    exact pe_two k1 k2
theorem b137_13 {d : Nat} {Φ : Option pe_V → pe_H → Prop} {σ : pe_H} {M : Nat} (hF : pm_F M σ) {o0 : Option pe_V} {x1 : Int}   (k : pe_X d 137 (18, [o0, some (.inl x1)], [.inl x1], σ) Φ) : pe_X d 137 (13, [o0, some (.inl x1)], [], σ) Φ := by
  refine pe_blk 7 2 ck137 [] (18, [o0, some (.inl x1)], [.inl x1], σ) rfl ?_ ?_
  · exact trivial
  · exact k
theorem b137_17 {d : Nat} {Φ : Option pe_V → pe_H → Prop} {σ : pe_H} {M : Nat} (hF : pm_F M σ) {x0 : Int} {o1 : Option pe_V}   (k : pe_X d 137 (18, [some (.inl x0), o1], [.inl x0], σ) Φ) : pe_X d 137 (17, [some (.inl x0), o1], [], σ) Φ := by
  refine pe_blk 9 1 ck137 [] (18, [some (.inl x0), o1], [.inl x0], σ) rfl ?_ ?_
  · exact trivial
  · exact k
theorem b137_18 {d : Nat} {Φ : Option pe_V → pe_H → Prop} {σ : pe_H} {M : Nat} (hF : pm_F M σ) {o0 : Option pe_V} {o1 : Option pe_V} {s0 : Int}   (k : Φ (some (.inl s0)) σ) : pe_X d 137 (18, [o0, o1], [.inl s0], σ) Φ := by
  exact pe_fine 10 ck137 rfl rfl rfl trivial k
-- isOne(I)Z
def T138 : List (Nat × Instr × Nat) := [(0, .iload_n 1, 1), (1, .i2l, 1), (2, .lconst 0, 1), (3, .aload_n 0, 1), (4, .getfield 144, 3), (7, .iconst 1, 1), (8, .isub, 1), (9, .i2l, 1), (10, .invokestatic 147, 3), (13, .ireturn, 1)]
theorem ck138 : pe_ctx 138 9 false (some .boolean) 2 T138 := ⟨rfl, rfl, rfl, rfl, by decide +kernel, by decide, by decide⟩
theorem b138_0 {d : Nat} {Φ : Option pe_V → pe_H → Prop} {σ : pe_H} {M : Nat} (hF : pm_F M σ) {x1 : Int} (w0 : pe_in x1 := by unfold pe_in; omega) (w1 : pe_in ((pe_I σ M 3) - 1) := by unfold pe_in; omega)  (k : pe_M d 134 [.inr (.inl x1), .inr (.inl 0), .inr (.inl ((pe_I σ M 3) - 1))] σ (fun r σ' => pe_X d 138 (13, [some (.inr (.inr M)), some (.inl x1)], r.toList ++ [], σ') Φ)) : pe_X d 138 (0, [some (.inr (.inr M)), some (.inl x1)], [], σ) Φ := by
  refine pe_blk 0 8 ck138 [pe_K σ M = 9] (10, [some (.inr (.inr M)), some (.inl x1)], [.inr (.inl (pe_w ((pe_I σ M 3) - 1))), .inr (.inl 0), .inr (.inl (pe_w x1))], σ) rfl ?_ ?_
  · first
    | (simp (disch := omega) only [pe_all, pe_wi w0, pe_wi w1, pm_KM hF]; done)
    | (simp (disch := omega) only [pe_all, pe_wi w0, pe_wi w1, pm_KM hF]; (repeat' apply And.intro) <;> first | assumption | omega | decide)
  · try simp (disch := omega) only [pe_wi w0, pe_wi w1, pm_KM hF]
    exact pe_cal 8 ck138 rfl rfl rfl trivial k
theorem b138_13 {d : Nat} {Φ : Option pe_V → pe_H → Prop} {σ : pe_H} {M : Nat} (hF : pm_F M σ) {o1 : Option pe_V} {s0 : Int}  (h0 : s0 = 0 ∨ s0 = 1 := by first | assumption | omega) (k : Φ (some (.inl s0)) σ) : pe_X d 138 (13, [some (.inr (.inr M)), o1], [.inl s0], σ) Φ := by
  exact pe_fine 9 ck138 rfl rfl rfl h0 k
-- isEnded(I)Z
def T139 : List (Nat × Instr × Nat) := [(0, .aload_n 0, 1), (1, .getfield 28, 3), (4, .iload_n 1, 1), (5, .iaload, 1), (6, .bipush 6, 2), (8, .if_icmp .lt 7, 3), (11, .iconst 1, 1), (12, .goto 4, 3), (15, .iconst 0, 1), (16, .ireturn, 1)]
theorem ck139 : pe_ctx 139 9 false (some .boolean) 2 T139 := ⟨rfl, rfl, rfl, rfl, by decide +kernel, by decide, by decide⟩
theorem b139_0 {d : Nat} {Φ : Option pe_V → pe_H → Prop} {σ : pe_H} {M : Nat} (hF : pm_F M σ) {x1 : Int} (w0 : pe_in x1 := by unfold pe_in; omega) (w1 : pe_in (pe_I σ (M + 7) x1) := by unfold pe_in; omega) (h0 : 0 ≤ x1 := by first | assumption | omega) (h1 : x1 < 8 := by first | assumption | omega) (k1 : (pe_I σ (M + 7) x1) < 6 → pe_X d 139 (15, [some (.inr (.inr M)), some (.inl x1)], [], σ) Φ) (k2 : ¬ ((pe_I σ (M + 7) x1) < 6) → pe_X d 139 (11, [some (.inr (.inr M)), some (.inl x1)], [], σ) Φ) : pe_X d 139 (0, [some (.inr (.inr M)), some (.inl x1)], [], σ) Φ := by
  refine pe_blk 0 6 ck139 [pe_K σ M = 9, pe_K σ (pe_R σ M 7) = 10, 0 ≤ (pe_w x1), (pe_w x1) < pe_L σ (pe_R σ M 7)] (cond (decide ((pe_w (pe_I σ (pe_R σ M 7) (pe_w x1))) < (pe_w 6))) 15 11, [some (.inr (.inr M)), some (.inl x1)], [], σ) rfl ?_ ?_
  · first
    | (simp (disch := omega) only [pe_all, pe_wi w0, pe_wi w1, pe_wi (x := 6) ⟨by decide, by decide⟩, pm_K7 hF, pm_KM hF, pm_L7 hF, pm_R7 hF]; done)
    | (simp (disch := omega) only [pe_all, pe_wi w0, pe_wi w1, pe_wi (x := 6) ⟨by decide, by decide⟩, pm_K7 hF, pm_KM hF, pm_L7 hF, pm_R7 hF]; (repeat' apply And.intro) <;> first | assumption | omega | decide)
  · try simp (disch := omega) only [pe_wi w0, pe_wi w1, pe_wi (x := 6) ⟨by decide, by decide⟩, pm_K7 hF, pm_KM hF, pm_L7 hF, pm_R7 hF]
    exact pe_two k1 k2
theorem b139_11 {d : Nat} {Φ : Option pe_V → pe_H → Prop} {σ : pe_H} {M : Nat} (hF : pm_F M σ) {o1 : Option pe_V}   (k : pe_X d 139 (16, [some (.inr (.inr M)), o1], [.inl 1], σ) Φ) : pe_X d 139 (11, [some (.inr (.inr M)), o1], [], σ) Φ := by
  refine pe_blk 6 2 ck139 [] (16, [some (.inr (.inr M)), o1], [.inl 1], σ) rfl ?_ ?_
  · exact trivial
  · exact k
theorem b139_15 {d : Nat} {Φ : Option pe_V → pe_H → Prop} {σ : pe_H} {M : Nat} (hF : pm_F M σ) {o1 : Option pe_V}   (k : pe_X d 139 (16, [some (.inr (.inr M)), o1], [.inl 0], σ) Φ) : pe_X d 139 (15, [some (.inr (.inr M)), o1], [], σ) Φ := by
  refine pe_blk 8 1 ck139 [] (16, [some (.inr (.inr M)), o1], [.inl 0], σ) rfl ?_ ?_
  · exact trivial
  · exact k
theorem b139_16 {d : Nat} {Φ : Option pe_V → pe_H → Prop} {σ : pe_H} {M : Nat} (hF : pm_F M σ) {o1 : Option pe_V} {s0 : Int}  (h0 : s0 = 0 ∨ s0 = 1 := by first | assumption | omega) (k : Φ (some (.inl s0)) σ) : pe_X d 139 (16, [some (.inr (.inr M)), o1], [.inl s0], σ) Φ := by
  exact pe_fine 9 ck139 rfl rfl rfl h0 k
-- isFree(I)Z
def T140 : List (Nat × Instr × Nat) := [(0, .aload_n 0, 1), (1, .getfield 28, 3), (4, .iload_n 1, 1), (5, .iaload, 1), (6, .iconst 2, 1), (7, .if_icmp .gt 7, 3), (10, .iconst 1, 1), (11, .goto 4, 3), (14, .iconst 0, 1), (15, .ireturn, 1)]
theorem ck140 : pe_ctx 140 9 false (some .boolean) 2 T140 := ⟨rfl, rfl, rfl, rfl, by decide +kernel, by decide, by decide⟩
theorem b140_0 {d : Nat} {Φ : Option pe_V → pe_H → Prop} {σ : pe_H} {M : Nat} (hF : pm_F M σ) {x1 : Int} (w0 : pe_in x1 := by unfold pe_in; omega) (w1 : pe_in (pe_I σ (M + 7) x1) := by unfold pe_in; omega) (h0 : 0 ≤ x1 := by first | assumption | omega) (h1 : x1 < 8 := by first | assumption | omega) (k1 : 2 < (pe_I σ (M + 7) x1) → pe_X d 140 (14, [some (.inr (.inr M)), some (.inl x1)], [], σ) Φ) (k2 : ¬ (2 < (pe_I σ (M + 7) x1)) → pe_X d 140 (10, [some (.inr (.inr M)), some (.inl x1)], [], σ) Φ) : pe_X d 140 (0, [some (.inr (.inr M)), some (.inl x1)], [], σ) Φ := by
  refine pe_blk 0 6 ck140 [pe_K σ M = 9, pe_K σ (pe_R σ M 7) = 10, 0 ≤ (pe_w x1), (pe_w x1) < pe_L σ (pe_R σ M 7)] (cond (decide ((pe_w 2) < (pe_w (pe_I σ (pe_R σ M 7) (pe_w x1))))) 14 10, [some (.inr (.inr M)), some (.inl x1)], [], σ) rfl ?_ ?_
  · first
    | (simp (disch := omega) only [pe_all, pe_wi w0, pe_wi w1, pe_wi (x := 2) ⟨by decide, by decide⟩, pm_K7 hF, pm_KM hF, pm_L7 hF, pm_R7 hF]; done)
    | (simp (disch := omega) only [pe_all, pe_wi w0, pe_wi w1, pe_wi (x := 2) ⟨by decide, by decide⟩, pm_K7 hF, pm_KM hF, pm_L7 hF, pm_R7 hF]; (repeat' apply And.intro) <;> first | assumption | omega | decide)
  · try simp (disch := omega) only [pe_wi w0, pe_wi w1, pe_wi (x := 2) ⟨by decide, by decide⟩, pm_K7 hF, pm_KM hF, pm_L7 hF, pm_R7 hF]
    exact pe_two k1 k2
theorem b140_10 {d : Nat} {Φ : Option pe_V → pe_H → Prop} {σ : pe_H} {M : Nat} (hF : pm_F M σ) {o1 : Option pe_V}   (k : pe_X d 140 (15, [some (.inr (.inr M)), o1], [.inl 1], σ) Φ) : pe_X d 140 (10, [some (.inr (.inr M)), o1], [], σ) Φ := by
  refine pe_blk 6 2 ck140 [] (15, [some (.inr (.inr M)), o1], [.inl 1], σ) rfl ?_ ?_
  · exact trivial
  · exact k
theorem b140_14 {d : Nat} {Φ : Option pe_V → pe_H → Prop} {σ : pe_H} {M : Nat} (hF : pm_F M σ) {o1 : Option pe_V}   (k : pe_X d 140 (15, [some (.inr (.inr M)), o1], [.inl 0], σ) Φ) : pe_X d 140 (14, [some (.inr (.inr M)), o1], [], σ) Φ := by
  refine pe_blk 8 1 ck140 [] (15, [some (.inr (.inr M)), o1], [.inl 0], σ) rfl ?_ ?_
  · exact trivial
  · exact k
theorem b140_15 {d : Nat} {Φ : Option pe_V → pe_H → Prop} {σ : pe_H} {M : Nat} (hF : pm_F M σ) {o1 : Option pe_V} {s0 : Int}  (h0 : s0 = 0 ∨ s0 = 1 := by first | assumption | omega) (k : Φ (some (.inl s0)) σ) : pe_X d 140 (15, [some (.inr (.inr M)), o1], [.inl s0], σ) Φ := by
  exact pe_fine 9 ck140 rfl rfl rfl h0 k
-- endedBits()I
def T141 : List (Nat × Instr × Nat) := [(0, .iconst 0, 1), (1, .istore_n 1, 1), (2, .iconst 0, 1), (3, .istore_n 2, 1), (4, .iload_n 2, 1), (5, .aload_n 0, 1), (6, .getfield 144, 3), (9, .if_icmp .ge 27, 3), (12, .iload_n 1, 1), (13, .aload_n 0, 1), (14, .iload_n 2, 1), (15, .invokevirtual 151, 3), (18, .ifCond .eq 9, 3), (21, .iconst 1, 1), (22, .iload_n 2, 1), (23, .ishl, 1), (24, .goto 4, 3), (27, .iconst 0, 1), (28, .ior, 1), (29, .istore_n 1, 1), (30, .iinc 2 1, 3), (33, .goto (-29), 3), (36, .iload_n 1, 1), (37, .ireturn, 1)]
theorem ck141 : pe_ctx 141 9 false (some .int) 3 T141 := ⟨rfl, rfl, rfl, rfl, by decide +kernel, by decide, by decide⟩
theorem b141_0 {d : Nat} {Φ : Option pe_V → pe_H → Prop} {σ : pe_H} {M : Nat} (hF : pm_F M σ) {o1 : Option pe_V} {o2 : Option pe_V}   (k : pe_X d 141 (4, [some (.inr (.inr M)), some (.inl 0), some (.inl 0)], [], σ) Φ) : pe_X d 141 (0, [some (.inr (.inr M)), o1, o2], [], σ) Φ := by
  refine pe_blk 0 4 ck141 [] (4, [some (.inr (.inr M)), some (.inl 0), some (.inl 0)], [], σ) rfl ?_ ?_
  · exact trivial
  · exact k
theorem b141_4 {d : Nat} {Φ : Option pe_V → pe_H → Prop} {σ : pe_H} {M : Nat} (hF : pm_F M σ) {x1 : Int} {x2 : Int} (w0 : pe_in x2 := by unfold pe_in; omega) (w1 : pe_in (pe_I σ M 3) := by unfold pe_in; omega)  (k1 : (pe_I σ M 3) ≤ x2 → pe_X d 141 (36, [some (.inr (.inr M)), some (.inl x1), some (.inl x2)], [], σ) Φ) (k2 : ¬ ((pe_I σ M 3) ≤ x2) → pe_X d 141 (12, [some (.inr (.inr M)), some (.inl x1), some (.inl x2)], [], σ) Φ) : pe_X d 141 (4, [some (.inr (.inr M)), some (.inl x1), some (.inl x2)], [], σ) Φ := by
  refine pe_blk 4 4 ck141 [pe_K σ M = 9] (cond (decide ((pe_w (pe_I σ M 3)) ≤ (pe_w x2))) 36 12, [some (.inr (.inr M)), some (.inl x1), some (.inl x2)], [], σ) rfl ?_ ?_
  · first
    | (simp (disch := omega) only [pe_all, pe_wi w0, pe_wi w1, pm_KM hF]; done)
    | (simp (disch := omega) only [pe_all, pe_wi w0, pe_wi w1, pm_KM hF]; (repeat' apply And.intro) <;> first | assumption | omega | decide)
  · try simp (disch := omega) only [pe_wi w0, pe_wi w1, pm_KM hF]
    exact pe_two k1 k2
theorem b141_12 {d : Nat} {Φ : Option pe_V → pe_H → Prop} {σ : pe_H} {M : Nat} (hF : pm_F M σ) {x1 : Int} {x2 : Int}   (k : pe_M d 139 [.inr (.inr M), .inl x2] σ (fun r σ' => pe_X d 141 (18, [some (.inr (.inr M)), some (.inl x1), some (.inl x2)], r.toList ++ [.inl x1], σ') Φ)) : pe_X d 141 (12, [some (.inr (.inr M)), some (.inl x1), some (.inl x2)], [], σ) Φ := by
  refine pe_blk 8 3 ck141 [] (15, [some (.inr (.inr M)), some (.inl x1), some (.inl x2)], [.inl x2, .inr (.inr M), .inl x1], σ) rfl ?_ ?_
  · exact trivial
  · try simp (disch := omega) only [pm_KM hF]
    exact pe_cal 11 ck141 rfl rfl rfl ⟨pm_KM hF, by decide⟩ k
theorem b141_18 {d : Nat} {Φ : Option pe_V → pe_H → Prop} {σ : pe_H} {M : Nat} (hF : pm_F M σ) {o1 : Option pe_V} {x2 : Int} {s0 : Int} {s1 : Int} (w0 : pe_in s1 := by unfold pe_in; omega)  (k1 : s1 = 0 → pe_X d 141 (27, [some (.inr (.inr M)), o1, some (.inl x2)], [.inl s0], σ) Φ) (k2 : ¬ (s1 = 0) → pe_X d 141 (21, [some (.inr (.inr M)), o1, some (.inl x2)], [.inl s0], σ) Φ) : pe_X d 141 (18, [some (.inr (.inr M)), o1, some (.inl x2)], [.inl s1, .inl s0], σ) Φ := by
  refine pe_blk 12 1 ck141 [] (cond (decide ((pe_w s1) = 0)) 27 21, [some (.inr (.inr M)), o1, some (.inl x2)], [.inl s0], σ) rfl ?_ ?_
  · exact trivial
  · try simp (disch := omega) only [pe_wi w0]
    exact pe_two k1 k2
theorem b141_21 {d : Nat} {Φ : Option pe_V → pe_H → Prop} {σ : pe_H} {M : Nat} (hF : pm_F M σ) {o1 : Option pe_V} {x2 : Int} {s0 : Int}   (k : pe_X d 141 (28, [some (.inr (.inr M)), o1, some (.inl x2)], [.inl (pe_shl 1 x2), .inl s0], σ) Φ) : pe_X d 141 (21, [some (.inr (.inr M)), o1, some (.inl x2)], [.inl s0], σ) Φ := by
  refine pe_blk 13 4 ck141 [] (28, [some (.inr (.inr M)), o1, some (.inl x2)], [.inl (pe_shl 1 x2), .inl s0], σ) rfl ?_ ?_
  · exact trivial
  · exact k
theorem b141_27 {d : Nat} {Φ : Option pe_V → pe_H → Prop} {σ : pe_H} {M : Nat} (hF : pm_F M σ) {o1 : Option pe_V} {x2 : Int} {s0 : Int}   (k : pe_X d 141 (28, [some (.inr (.inr M)), o1, some (.inl x2)], [.inl 0, .inl s0], σ) Φ) : pe_X d 141 (27, [some (.inr (.inr M)), o1, some (.inl x2)], [.inl s0], σ) Φ := by
  refine pe_blk 17 1 ck141 [] (28, [some (.inr (.inr M)), o1, some (.inl x2)], [.inl 0, .inl s0], σ) rfl ?_ ?_
  · exact trivial
  · exact k
theorem b141_28 {d : Nat} {Φ : Option pe_V → pe_H → Prop} {σ : pe_H} {M : Nat} (hF : pm_F M σ) {o1 : Option pe_V} {x2 : Int} {s0 : Int} {s1 : Int}   (k : pe_X d 141 (4, [some (.inr (.inr M)), some (.inl (pe_or s0 s1)), some (.inl (x2 + 1))], [], σ) Φ) : pe_X d 141 (28, [some (.inr (.inr M)), o1, some (.inl x2)], [.inl s1, .inl s0], σ) Φ := by
  refine pe_blk 18 4 ck141 [] (4, [some (.inr (.inr M)), some (.inl (pe_or s0 s1)), some (.inl (x2 + 1))], [], σ) rfl ?_ ?_
  · exact trivial
  · exact k
theorem b141_36 {d : Nat} {Φ : Option pe_V → pe_H → Prop} {σ : pe_H} {M : Nat} (hF : pm_F M σ) {x1 : Int} {o2 : Option pe_V}   (k : Φ (some (.inl x1)) σ) : pe_X d 141 (36, [some (.inr (.inr M)), some (.inl x1), o2], [], σ) Φ := by
  refine pe_blk 22 1 ck141 [] (37, [some (.inr (.inr M)), some (.inl x1), o2], [.inl x1], σ) rfl ?_ ?_
  · exact trivial
  · exact pe_fine 23 ck141 rfl rfl rfl trivial k
-- weightOf(I)I
def T142 : List (Nat × Instr × Nat) := [(0, .aload_n 0, 1), (1, .getfield 22, 3), (4, .iload_n 1, 1), (5, .iaload, 1), (6, .tableswitch 64 1 4 #[30, 37, 45, 54], 30), (36, .aload_n 0, 1), (37, .getfield 25, 3), (40, .iload_n 1, 1), (41, .iaload, 1), (42, .ireturn, 1), (43, .aload_n 0, 1), (44, .getfield 25, 3), (47, .iload_n 1, 1), (48, .iaload, 1), (49, .ineg, 1), (50, .ireturn, 1), (51, .aload_n 0, 1), (52, .getfield 25, 3), (55, .iload_n 1, 1), (56, .iaload, 1), (57, .iconst 2, 1), (58, .iadd, 1), (59, .ireturn, 1), (60, .aload_n 0, 1), (61, .getfield 25, 3), (64, .iload_n 1, 1), (65, .iaload, 1), (66, .iconst 2, 1), (67, .idiv, 1), (68, .ineg, 1), (69, .ireturn, 1), (70, .iconst 0, 1), (71, .ireturn, 1)]
theorem ck142 : pe_ctx 142 9 false (some .int) 2 T142 := ⟨rfl, rfl, rfl, rfl, by decide +kernel, by decide, by decide⟩
theorem b142_0 {d : Nat} {Φ : Option pe_V → pe_H → Prop} {σ : pe_H} {M : Nat} (hF : pm_F M σ) {x1 : Int} (w0 : pe_in x1 := by unfold pe_in; omega) (w1 : pe_in (pe_I σ (M + 5) x1) := by unfold pe_in; omega) (h0 : 0 ≤ x1 := by first | assumption | omega) (h1 : x1 < 8 := by first | assumption | omega) (k0 : (pe_I σ (M + 5) x1) = 1 → pe_X d 142 (36, [some (.inr (.inr M)), some (.inl x1)], [], σ) Φ) (k1 : (pe_I σ (M + 5) x1) = 2 → pe_X d 142 (43, [some (.inr (.inr M)), some (.inl x1)], [], σ) Φ) (k2 : (pe_I σ (M + 5) x1) = 3 → pe_X d 142 (51, [some (.inr (.inr M)), some (.inl x1)], [], σ) Φ) (k3 : (pe_I σ (M + 5) x1) = 4 → pe_X d 142 (60, [some (.inr (.inr M)), some (.inl x1)], [], σ) Φ) (kd : ¬ (pe_I σ (M + 5) x1) = 1 → ¬ (pe_I σ (M + 5) x1) = 2 → ¬ (pe_I σ (M + 5) x1) = 3 → ¬ (pe_I σ (M + 5) x1) = 4 → pe_X d 142 (70, [some (.inr (.inr M)), some (.inl x1)], [], σ) Φ) : pe_X d 142 (0, [some (.inr (.inr M)), some (.inl x1)], [], σ) Φ := by
  refine pe_blk 0 5 ck142 [pe_K σ M = 9, pe_K σ (pe_R σ M 5) = 10, 0 ≤ (pe_w x1), (pe_w x1) < pe_L σ (pe_R σ M 5)] ((((6 : Nat) : Int) + pe_sw 64 [(1, 30), (2, 37), (3, 45), (4, 54)] (pe_w (pe_I σ (pe_R σ M 5) (pe_w x1)))).toNat, [some (.inr (.inr M)), some (.inl x1)], [], σ) rfl ?_ ?_
  · first
    | (simp (disch := omega) only [pe_all, pe_wi w0, pe_wi w1, pm_K5 hF, pm_KM hF, pm_L5 hF, pm_R5 hF]; done)
    | (simp (disch := omega) only [pe_all, pe_wi w0, pe_wi w1, pm_K5 hF, pm_KM hF, pm_L5 hF, pm_R5 hF]; (repeat' apply And.intro) <;> first | assumption | omega | decide)
  · try simp (disch := omega) only [pe_wi w0, pe_wi w1, pm_K5 hF, pm_KM hF, pm_L5 hF, pm_R5 hF]
    by_cases q0 : (pe_I σ (M + 5) x1) = 1
    · have e : pe_sw 64 [(1, 30), (2, 37), (3, 45), (4, 54)] (pe_I σ (M + 5) x1) = 30 := by rw [q0]; rfl
      rw [e]; exact k0 q0
    by_cases q1 : (pe_I σ (M + 5) x1) = 2
    · have e : pe_sw 64 [(1, 30), (2, 37), (3, 45), (4, 54)] (pe_I σ (M + 5) x1) = 37 := by rw [q1]; rfl
      rw [e]; exact k1 q1
    by_cases q2 : (pe_I σ (M + 5) x1) = 3
    · have e : pe_sw 64 [(1, 30), (2, 37), (3, 45), (4, 54)] (pe_I σ (M + 5) x1) = 45 := by rw [q2]; rfl
      rw [e]; exact k2 q2
    by_cases q3 : (pe_I σ (M + 5) x1) = 4
    · have e : pe_sw 64 [(1, 30), (2, 37), (3, 45), (4, 54)] (pe_I σ (M + 5) x1) = 54 := by rw [q3]; rfl
      rw [e]; exact k3 q3
    have e : pe_sw 64 [(1, 30), (2, 37), (3, 45), (4, 54)] (pe_I σ (M + 5) x1) = 64 := by simp only [pe_sw, if_neg q0, if_neg q1, if_neg q2, if_neg q3]
    rw [e]; exact kd q0 q1 q2 q3
theorem b142_36 {d : Nat} {Φ : Option pe_V → pe_H → Prop} {σ : pe_H} {M : Nat} (hF : pm_F M σ) {x1 : Int} (w0 : pe_in x1 := by unfold pe_in; omega) (h0 : 0 ≤ x1 := by first | assumption | omega) (h1 : x1 < 8 := by first | assumption | omega) (k : Φ (some (.inl (pe_I σ (M + 6) x1))) σ) : pe_X d 142 (36, [some (.inr (.inr M)), some (.inl x1)], [], σ) Φ := by
  refine pe_blk 5 4 ck142 [pe_K σ M = 9, pe_K σ (pe_R σ M 6) = 10, 0 ≤ (pe_w x1), (pe_w x1) < pe_L σ (pe_R σ M 6)] (42, [some (.inr (.inr M)), some (.inl x1)], [.inl (pe_I σ (pe_R σ M 6) (pe_w x1))], σ) rfl ?_ ?_
  · first
    | (simp (disch := omega) only [pe_all, pe_wi w0, pm_K6 hF, pm_KM hF, pm_L6 hF, pm_R6 hF]; done)
    | (simp (disch := omega) only [pe_all, pe_wi w0, pm_K6 hF, pm_KM hF, pm_L6 hF, pm_R6 hF]; (repeat' apply And.intro) <;> first | assumption | omega | decide)
  · try simp (disch := omega) only [pe_wi w0, pm_K6 hF, pm_KM hF, pm_L6 hF, pm_R6 hF]
    exact pe_fine 9 ck142 rfl rfl rfl trivial k
theorem b142_43 {d : Nat} {Φ : Option pe_V → pe_H → Prop} {σ : pe_H} {M : Nat} (hF : pm_F M σ) {x1 : Int} (w0 : pe_in x1 := by unfold pe_in; omega) (h0 : 0 ≤ x1 := by first | assumption | omega) (h1 : x1 < 8 := by first | assumption | omega) (k : Φ (some (.inl (-(pe_I σ (M + 6) x1)))) σ) : pe_X d 142 (43, [some (.inr (.inr M)), some (.inl x1)], [], σ) Φ := by
  refine pe_blk 10 5 ck142 [pe_K σ M = 9, pe_K σ (pe_R σ M 6) = 10, 0 ≤ (pe_w x1), (pe_w x1) < pe_L σ (pe_R σ M 6)] (50, [some (.inr (.inr M)), some (.inl x1)], [.inl (-(pe_I σ (pe_R σ M 6) (pe_w x1)))], σ) rfl ?_ ?_
  · first
    | (simp (disch := omega) only [pe_all, pe_wi w0, pm_K6 hF, pm_KM hF, pm_L6 hF, pm_R6 hF]; done)
    | (simp (disch := omega) only [pe_all, pe_wi w0, pm_K6 hF, pm_KM hF, pm_L6 hF, pm_R6 hF]; (repeat' apply And.intro) <;> first | assumption | omega | decide)
  · try simp (disch := omega) only [pe_wi w0, pm_K6 hF, pm_KM hF, pm_L6 hF, pm_R6 hF]
    exact pe_fine 15 ck142 rfl rfl rfl trivial k
theorem b142_51 {d : Nat} {Φ : Option pe_V → pe_H → Prop} {σ : pe_H} {M : Nat} (hF : pm_F M σ) {x1 : Int} (w0 : pe_in x1 := by unfold pe_in; omega) (h0 : 0 ≤ x1 := by first | assumption | omega) (h1 : x1 < 8 := by first | assumption | omega) (k : Φ (some (.inl ((pe_I σ (M + 6) x1) + 2))) σ) : pe_X d 142 (51, [some (.inr (.inr M)), some (.inl x1)], [], σ) Φ := by
  refine pe_blk 16 6 ck142 [pe_K σ M = 9, pe_K σ (pe_R σ M 6) = 10, 0 ≤ (pe_w x1), (pe_w x1) < pe_L σ (pe_R σ M 6)] (59, [some (.inr (.inr M)), some (.inl x1)], [.inl ((pe_I σ (pe_R σ M 6) (pe_w x1)) + 2)], σ) rfl ?_ ?_
  · first
    | (simp (disch := omega) only [pe_all, pe_wi w0, pm_K6 hF, pm_KM hF, pm_L6 hF, pm_R6 hF]; done)
    | (simp (disch := omega) only [pe_all, pe_wi w0, pm_K6 hF, pm_KM hF, pm_L6 hF, pm_R6 hF]; (repeat' apply And.intro) <;> first | assumption | omega | decide)
  · try simp (disch := omega) only [pe_wi w0, pm_K6 hF, pm_KM hF, pm_L6 hF, pm_R6 hF]
    exact pe_fine 22 ck142 rfl rfl rfl trivial k
theorem b142_60 {d : Nat} {Φ : Option pe_V → pe_H → Prop} {σ : pe_H} {M : Nat} (hF : pm_F M σ) {x1 : Int} (w0 : pe_in x1 := by unfold pe_in; omega) (w1 : pe_in (pe_I σ (M + 6) x1) := by unfold pe_in; omega) (h0 : 0 ≤ x1 := by first | assumption | omega) (h1 : x1 < 8 := by first | assumption | omega) (h2 : ¬ 2 = 0 := by first | assumption | omega) (k : Φ (some (.inl (-(Int.tdiv (pe_I σ (M + 6) x1) 2)))) σ) : pe_X d 142 (60, [some (.inr (.inr M)), some (.inl x1)], [], σ) Φ := by
  refine pe_blk 23 7 ck142 [pe_K σ M = 9, pe_K σ (pe_R σ M 6) = 10, 0 ≤ (pe_w x1), (pe_w x1) < pe_L σ (pe_R σ M 6), ¬ (pe_w 2) = 0] (69, [some (.inr (.inr M)), some (.inl x1)], [.inl (-(Int.tdiv (pe_w (pe_I σ (pe_R σ M 6) (pe_w x1))) (pe_w 2)))], σ) rfl ?_ ?_
  · first
    | (simp (disch := omega) only [pe_all, pe_wi w0, pe_wi w1, pe_wi (x := 2) ⟨by decide, by decide⟩, pm_K6 hF, pm_KM hF, pm_L6 hF, pm_R6 hF]; done)
    | (simp (disch := omega) only [pe_all, pe_wi w0, pe_wi w1, pe_wi (x := 2) ⟨by decide, by decide⟩, pm_K6 hF, pm_KM hF, pm_L6 hF, pm_R6 hF]; (repeat' apply And.intro) <;> first | assumption | omega | decide)
  · try simp (disch := omega) only [pe_wi w0, pe_wi w1, pe_wi (x := 2) ⟨by decide, by decide⟩, pm_K6 hF, pm_KM hF, pm_L6 hF, pm_R6 hF]
    exact pe_fine 30 ck142 rfl rfl rfl trivial k
theorem b142_70 {d : Nat} {Φ : Option pe_V → pe_H → Prop} {σ : pe_H} {M : Nat} (hF : pm_F M σ) {o1 : Option pe_V}   (k : Φ (some (.inl 0)) σ) : pe_X d 142 (70, [some (.inr (.inr M)), o1], [], σ) Φ := by
  refine pe_blk 31 1 ck142 [] (71, [some (.inr (.inr M)), o1], [.inl 0], σ) rfl ?_ ?_
  · exact trivial
  · exact pe_fine 32 ck142 rfl rfl rfl trivial k
-- yieldOf(II)I
def T143 : List (Nat × Instr × Nat) := [(0, .aload_n 0, 1), (1, .getfield 31, 3), (4, .iload_n 1, 1), (5, .iaload, 1), (6, .iload_n 2, 1), (7, .iadd, 1), (8, .sipush 1000, 3), (11, .irem, 1), (12, .istore_n 3, 1), (13, .aload_n 0, 1), (14, .getfield 22, 3), (17, .iload_n 1, 1), (18, .iaload, 1), (19, .tableswitch 42 2 4 #[25, 29, 25], 25), (44, .iload_n 3, 1), (45, .iconst 2, 1), (46, .idiv, 1), (47, .ireturn, 1), (48, .iload_n 3, 1), (49, .aload_n 0, 1), (50, .getfield 25, 3), (53, .iload_n 1, 1), (54, .iaload, 1), (55, .iadd, 1), (56, .sipush 1000, 3), (59, .irem, 1), (60, .ireturn, 1), (61, .iload_n 3, 1), (62, .ireturn, 1)]
theorem ck143 : pe_ctx 143 9 false (some .int) 4 T143 := ⟨rfl, rfl, rfl, rfl, by decide +kernel, by decide, by decide⟩
theorem b143_0 {d : Nat} {Φ : Option pe_V → pe_H → Prop} {σ : pe_H} {M : Nat} (hF : pm_F M σ) {x1 : Int} {x2 : Int} {o3 : Option pe_V} (w0 : pe_in x1 := by unfold pe_in; omega) (w1 : pe_in ((pe_I σ (M + 8) x1) + x2) := by unfold pe_in; omega) (w2 : pe_in (pe_I σ (M + 5) x1) := by unfold pe_in; omega) (h0 : 0 ≤ x1 := by first | assumption | omega) (h1 : x1 < 8 := by first | assumption | omega) (h2 : ¬ 1000 = 0 := by first | assumption | omega) (k0 : (pe_I σ (M + 5) x1) = 2 → pe_X d 143 (44, [some (.inr (.inr M)), some (.inl x1), some (.inl x2), some (.inl (Int.tmod ((pe_I σ (M + 8) x1) + x2) 1000))], [], σ) Φ) (k1 : (pe_I σ (M + 5) x1) = 3 → pe_X d 143 (48, [some (.inr (.inr M)), some (.inl x1), some (.inl x2), some (.inl (Int.tmod ((pe_I σ (M + 8) x1) + x2) 1000))], [], σ) Φ) (k2 : (pe_I σ (M + 5) x1) = 4 → pe_X d 143 (44, [some (.inr (.inr M)), some (.inl x1), some (.inl x2), some (.inl (Int.tmod ((pe_I σ (M + 8) x1) + x2) 1000))], [], σ) Φ) (kd : ¬ (pe_I σ (M + 5) x1) = 2 → ¬ (pe_I σ (M + 5) x1) = 3 → ¬ (pe_I σ (M + 5) x1) = 4 → pe_X d 143 (61, [some (.inr (.inr M)), some (.inl x1), some (.inl x2), some (.inl (Int.tmod ((pe_I σ (M + 8) x1) + x2) 1000))], [], σ) Φ) : pe_X d 143 (0, [some (.inr (.inr M)), some (.inl x1), some (.inl x2), o3], [], σ) Φ := by
  refine pe_blk 0 14 ck143 [pe_K σ M = 9, pe_K σ (pe_R σ M 8) = 10, 0 ≤ (pe_w x1), (pe_w x1) < pe_L σ (pe_R σ M 8), ¬ (pe_w 1000) = 0, pe_K σ M = 9, pe_K σ (pe_R σ M 5) = 10, 0 ≤ (pe_w x1), (pe_w x1) < pe_L σ (pe_R σ M 5)] ((((19 : Nat) : Int) + pe_sw 42 [(2, 25), (3, 29), (4, 25)] (pe_w (pe_I σ (pe_R σ M 5) (pe_w x1)))).toNat, [some (.inr (.inr M)), some (.inl x1), some (.inl x2), some (.inl (Int.tmod (pe_w ((pe_I σ (pe_R σ M 8) (pe_w x1)) + x2)) (pe_w 1000)))], [], σ) rfl ?_ ?_
  · first
    | (simp (disch := omega) only [pe_all, pe_wi w0, pe_wi w1, pe_wi w2, pe_wi (x := 1000) ⟨by decide, by decide⟩, pm_K5 hF, pm_K8 hF, pm_KM hF, pm_L5 hF, pm_L8 hF, pm_R5 hF, pm_R8 hF]; done)
    | (simp (disch := omega) only [pe_all, pe_wi w0, pe_wi w1, pe_wi w2, pe_wi (x := 1000) ⟨by decide, by decide⟩, pm_K5 hF, pm_K8 hF, pm_KM hF, pm_L5 hF, pm_L8 hF, pm_R5 hF, pm_R8 hF]; (repeat' apply And.intro) <;> first | assumption | omega | decide)
  · try simp (disch := omega) only [pe_wi w0, pe_wi w1, pe_wi w2, pe_wi (x := 1000) ⟨by decide, by decide⟩, pm_K5 hF, pm_K8 hF, pm_KM hF, pm_L5 hF, pm_L8 hF, pm_R5 hF, pm_R8 hF]
    by_cases q0 : (pe_I σ (M + 5) x1) = 2
    · have e : pe_sw 42 [(2, 25), (3, 29), (4, 25)] (pe_I σ (M + 5) x1) = 25 := by rw [q0]; rfl
      rw [e]; exact k0 q0
    by_cases q1 : (pe_I σ (M + 5) x1) = 3
    · have e : pe_sw 42 [(2, 25), (3, 29), (4, 25)] (pe_I σ (M + 5) x1) = 29 := by rw [q1]; rfl
      rw [e]; exact k1 q1
    by_cases q2 : (pe_I σ (M + 5) x1) = 4
    · have e : pe_sw 42 [(2, 25), (3, 29), (4, 25)] (pe_I σ (M + 5) x1) = 25 := by rw [q2]; rfl
      rw [e]; exact k2 q2
    have e : pe_sw 42 [(2, 25), (3, 29), (4, 25)] (pe_I σ (M + 5) x1) = 42 := by simp only [pe_sw, if_neg q0, if_neg q1, if_neg q2]
    rw [e]; exact kd q0 q1 q2
theorem b143_44 {d : Nat} {Φ : Option pe_V → pe_H → Prop} {σ : pe_H} {M : Nat} (hF : pm_F M σ) {o1 : Option pe_V} {o2 : Option pe_V} {x3 : Int} (w0 : pe_in x3 := by unfold pe_in; omega) (h0 : ¬ 2 = 0 := by first | assumption | omega) (k : Φ (some (.inl (Int.tdiv x3 2))) σ) : pe_X d 143 (44, [some (.inr (.inr M)), o1, o2, some (.inl x3)], [], σ) Φ := by
  refine pe_blk 14 3 ck143 [¬ (pe_w 2) = 0] (47, [some (.inr (.inr M)), o1, o2, some (.inl x3)], [.inl (Int.tdiv (pe_w x3) (pe_w 2))], σ) rfl ?_ ?_
  · first
    | (simp (disch := omega) only [pe_all, pe_wi w0, pe_wi (x := 2) ⟨by decide, by decide⟩]; done)
    | (simp (disch := omega) only [pe_all, pe_wi w0, pe_wi (x := 2) ⟨by decide, by decide⟩]; (repeat' apply And.intro) <;> first | assumption | omega | decide)
  · try simp (disch := omega) only [pe_wi w0, pe_wi (x := 2) ⟨by decide, by decide⟩]
    exact pe_fine 17 ck143 rfl rfl rfl trivial k
theorem b143_48 {d : Nat} {Φ : Option pe_V → pe_H → Prop} {σ : pe_H} {M : Nat} (hF : pm_F M σ) {x1 : Int} {o2 : Option pe_V} {x3 : Int} (w0 : pe_in x1 := by unfold pe_in; omega) (w1 : pe_in (x3 + (pe_I σ (M + 6) x1)) := by unfold pe_in; omega) (h0 : 0 ≤ x1 := by first | assumption | omega) (h1 : x1 < 8 := by first | assumption | omega) (h2 : ¬ 1000 = 0 := by first | assumption | omega) (k : Φ (some (.inl (Int.tmod (x3 + (pe_I σ (M + 6) x1)) 1000))) σ) : pe_X d 143 (48, [some (.inr (.inr M)), some (.inl x1), o2, some (.inl x3)], [], σ) Φ := by
  refine pe_blk 18 8 ck143 [pe_K σ M = 9, pe_K σ (pe_R σ M 6) = 10, 0 ≤ (pe_w x1), (pe_w x1) < pe_L σ (pe_R σ M 6), ¬ (pe_w 1000) = 0] (60, [some (.inr (.inr M)), some (.inl x1), o2, some (.inl x3)], [.inl (Int.tmod (pe_w (x3 + (pe_I σ (pe_R σ M 6) (pe_w x1)))) (pe_w 1000))], σ) rfl ?_ ?_
  · first
    | (simp (disch := omega) only [pe_all, pe_wi w0, pe_wi w1, pe_wi (x := 1000) ⟨by decide, by decide⟩, pm_K6 hF, pm_KM hF, pm_L6 hF, pm_R6 hF]; done)
    | (simp (disch := omega) only [pe_all, pe_wi w0, pe_wi w1, pe_wi (x := 1000) ⟨by decide, by decide⟩, pm_K6 hF, pm_KM hF, pm_L6 hF, pm_R6 hF]; (repeat' apply And.intro) <;> first | assumption | omega | decide)
  · try simp (disch := omega) only [pe_wi w0, pe_wi w1, pe_wi (x := 1000) ⟨by decide, by decide⟩, pm_K6 hF, pm_KM hF, pm_L6 hF, pm_R6 hF]
    exact pe_fine 26 ck143 rfl rfl rfl trivial k
theorem b143_61 {d : Nat} {Φ : Option pe_V → pe_H → Prop} {σ : pe_H} {M : Nat} (hF : pm_F M σ) {o1 : Option pe_V} {o2 : Option pe_V} {x3 : Int}   (k : Φ (some (.inl x3)) σ) : pe_X d 143 (61, [some (.inr (.inr M)), o1, o2, some (.inl x3)], [], σ) Φ := by
  refine pe_blk 27 1 ck143 [] (62, [some (.inr (.inr M)), o1, o2, some (.inl x3)], [.inl x3], σ) rfl ?_ ?_
  · exact trivial
  · exact pe_fine 28 ck143 rfl rfl rfl trivial k
-- sentOf(II)I
def T144 : List (Nat × Instr × Nat) := [(0, .aload_n 0, 1), (1, .getfield 22, 3), (4, .iload_n 1, 1), (5, .iaload, 1), (6, .tableswitch 62 1 5 #[34, 62, 34, 62, 47], 34), (40, .iload_n 2, 1), (41, .aload_n 0, 1), (42, .getfield 25, 3), (45, .iload_n 1, 1), (46, .iaload, 1), (47, .iadd, 1), (48, .sipush 1000, 3), (51, .irem, 1), (52, .ireturn, 1), (53, .iload_n 2, 1), (54, .ifCond .ne 12, 3), (57, .aload_n 0, 1), (58, .getfield 31, 3), (61, .iload_n 1, 1), (62, .iaload, 1), (63, .goto 4, 3), (66, .iload_n 2, 1), (67, .ireturn, 1), (68, .iload_n 2, 1), (69, .ireturn, 1)]
theorem ck144 : pe_ctx 144 9 false (some .int) 3 T144 := ⟨rfl, rfl, rfl, rfl, by decide +kernel, by decide, by decide⟩
theorem b144_0 {d : Nat} {Φ : Option pe_V → pe_H → Prop} {σ : pe_H} {M : Nat} (hF : pm_F M σ) {x1 : Int} {x2 : Int} (w0 : pe_in x1 := by unfold pe_in; omega) (w1 : pe_in (pe_I σ (M + 5) x1) := by unfold pe_in; omega) (h0 : 0 ≤ x1 := by first | assumption | omega) (h1 : x1 < 8 := by first | assumption | omega) (k0 : (pe_I σ (M + 5) x1) = 1 → pe_X d 144 (40, [some (.inr (.inr M)), some (.inl x1), some (.inl x2)], [], σ) Φ) (k1 : (pe_I σ (M + 5) x1) = 2 → pe_X d 144 (68, [some (.inr (.inr M)), some (.inl x1), some (.inl x2)], [], σ) Φ) (k2 : (pe_I σ (M + 5) x1) = 3 → pe_X d 144 (40, [some (.inr (.inr M)), some (.inl x1), some (.inl x2)], [], σ) Φ) (k3 : (pe_I σ (M + 5) x1) = 4 → pe_X d 144 (68, [some (.inr (.inr M)), some (.inl x1), some (.inl x2)], [], σ) Φ) (k4 : (pe_I σ (M + 5) x1) = 5 → pe_X d 144 (53, [some (.inr (.inr M)), some (.inl x1), some (.inl x2)], [], σ) Φ) (kd : ¬ (pe_I σ (M + 5) x1) = 1 → ¬ (pe_I σ (M + 5) x1) = 2 → ¬ (pe_I σ (M + 5) x1) = 3 → ¬ (pe_I σ (M + 5) x1) = 4 → ¬ (pe_I σ (M + 5) x1) = 5 → pe_X d 144 (68, [some (.inr (.inr M)), some (.inl x1), some (.inl x2)], [], σ) Φ) : pe_X d 144 (0, [some (.inr (.inr M)), some (.inl x1), some (.inl x2)], [], σ) Φ := by
  refine pe_blk 0 5 ck144 [pe_K σ M = 9, pe_K σ (pe_R σ M 5) = 10, 0 ≤ (pe_w x1), (pe_w x1) < pe_L σ (pe_R σ M 5)] ((((6 : Nat) : Int) + pe_sw 62 [(1, 34), (2, 62), (3, 34), (4, 62), (5, 47)] (pe_w (pe_I σ (pe_R σ M 5) (pe_w x1)))).toNat, [some (.inr (.inr M)), some (.inl x1), some (.inl x2)], [], σ) rfl ?_ ?_
  · first
    | (simp (disch := omega) only [pe_all, pe_wi w0, pe_wi w1, pm_K5 hF, pm_KM hF, pm_L5 hF, pm_R5 hF]; done)
    | (simp (disch := omega) only [pe_all, pe_wi w0, pe_wi w1, pm_K5 hF, pm_KM hF, pm_L5 hF, pm_R5 hF]; (repeat' apply And.intro) <;> first | assumption | omega | decide)
  · try simp (disch := omega) only [pe_wi w0, pe_wi w1, pm_K5 hF, pm_KM hF, pm_L5 hF, pm_R5 hF]
    by_cases q0 : (pe_I σ (M + 5) x1) = 1
    · have e : pe_sw 62 [(1, 34), (2, 62), (3, 34), (4, 62), (5, 47)] (pe_I σ (M + 5) x1) = 34 := by rw [q0]; rfl
      rw [e]; exact k0 q0
    by_cases q1 : (pe_I σ (M + 5) x1) = 2
    · have e : pe_sw 62 [(1, 34), (2, 62), (3, 34), (4, 62), (5, 47)] (pe_I σ (M + 5) x1) = 62 := by rw [q1]; rfl
      rw [e]; exact k1 q1
    by_cases q2 : (pe_I σ (M + 5) x1) = 3
    · have e : pe_sw 62 [(1, 34), (2, 62), (3, 34), (4, 62), (5, 47)] (pe_I σ (M + 5) x1) = 34 := by rw [q2]; rfl
      rw [e]; exact k2 q2
    by_cases q3 : (pe_I σ (M + 5) x1) = 4
    · have e : pe_sw 62 [(1, 34), (2, 62), (3, 34), (4, 62), (5, 47)] (pe_I σ (M + 5) x1) = 62 := by rw [q3]; rfl
      rw [e]; exact k3 q3
    by_cases q4 : (pe_I σ (M + 5) x1) = 5
    · have e : pe_sw 62 [(1, 34), (2, 62), (3, 34), (4, 62), (5, 47)] (pe_I σ (M + 5) x1) = 47 := by rw [q4]; rfl
      rw [e]; exact k4 q4
    have e : pe_sw 62 [(1, 34), (2, 62), (3, 34), (4, 62), (5, 47)] (pe_I σ (M + 5) x1) = 62 := by simp only [pe_sw, if_neg q0, if_neg q1, if_neg q2, if_neg q3, if_neg q4]
    rw [e]; exact kd q0 q1 q2 q3 q4
theorem b144_40 {d : Nat} {Φ : Option pe_V → pe_H → Prop} {σ : pe_H} {M : Nat} (hF : pm_F M σ) {x1 : Int} {x2 : Int} (w0 : pe_in x1 := by unfold pe_in; omega) (w1 : pe_in (x2 + (pe_I σ (M + 6) x1)) := by unfold pe_in; omega) (h0 : 0 ≤ x1 := by first | assumption | omega) (h1 : x1 < 8 := by first | assumption | omega) (h2 : ¬ 1000 = 0 := by first | assumption | omega) (k : Φ (some (.inl (Int.tmod (x2 + (pe_I σ (M + 6) x1)) 1000))) σ) : pe_X d 144 (40, [some (.inr (.inr M)), some (.inl x1), some (.inl x2)], [], σ) Φ := by
  refine pe_blk 5 8 ck144 [pe_K σ M = 9, pe_K σ (pe_R σ M 6) = 10, 0 ≤ (pe_w x1), (pe_w x1) < pe_L σ (pe_R σ M 6), ¬ (pe_w 1000) = 0] (52, [some (.inr (.inr M)), some (.inl x1), some (.inl x2)], [.inl (Int.tmod (pe_w (x2 + (pe_I σ (pe_R σ M 6) (pe_w x1)))) (pe_w 1000))], σ) rfl ?_ ?_
  · first
    | (simp (disch := omega) only [pe_all, pe_wi w0, pe_wi w1, pe_wi (x := 1000) ⟨by decide, by decide⟩, pm_K6 hF, pm_KM hF, pm_L6 hF, pm_R6 hF]; done)
    | (simp (disch := omega) only [pe_all, pe_wi w0, pe_wi w1, pe_wi (x := 1000) ⟨by decide, by decide⟩, pm_K6 hF, pm_KM hF, pm_L6 hF, pm_R6 hF]; (repeat' apply And.intro) <;> first | assumption | omega | decide)
  · try simp (disch := omega) only [pe_wi w0, pe_wi w1, pe_wi (x := 1000) ⟨by decide, by decide⟩, pm_K6 hF, pm_KM hF, pm_L6 hF, pm_R6 hF]
    exact pe_fine 13 ck144 rfl rfl rfl trivial k
theorem b144_53 {d : Nat} {Φ : Option pe_V → pe_H → Prop} {σ : pe_H} {M : Nat} (hF : pm_F M σ) {x1 : Int} {x2 : Int} (w0 : pe_in x2 := by unfold pe_in; omega)  (k1 : ¬ x2 = 0 → pe_X d 144 (66, [some (.inr (.inr M)), some (.inl x1), some (.inl x2)], [], σ) Φ) (k2 : x2 = 0 → pe_X d 144 (57, [some (.inr (.inr M)), some (.inl x1), some (.inl x2)], [], σ) Φ) : pe_X d 144 (53, [some (.inr (.inr M)), some (.inl x1), some (.inl x2)], [], σ) Φ := by
  refine pe_blk 14 2 ck144 [] (cond (decide (¬ (pe_w x2) = 0)) 66 57, [some (.inr (.inr M)), some (.inl x1), some (.inl x2)], [], σ) rfl ?_ ?_
  · exact trivial
  · try simp (disch := omega) only [pe_wi w0]
    exact pe_two' k1 k2
theorem b144_57 {d : Nat} {Φ : Option pe_V → pe_H → Prop} {σ : pe_H} {M : Nat} (hF : pm_F M σ) {x1 : Int} {o2 : Option pe_V} (w0 : pe_in x1 := by unfold pe_in; omega) (h0 : 0 ≤ x1 := by first | assumption | omega) (h1 : x1 < 8 := by first | assumption | omega) (k : pe_X d 144 (67, [some (.inr (.inr M)), some (.inl x1), o2], [.inl (pe_I σ (M + 8) x1)], σ) Φ) : pe_X d 144 (57, [some (.inr (.inr M)), some (.inl x1), o2], [], σ) Φ := by
  refine pe_blk 16 5 ck144 [pe_K σ M = 9, pe_K σ (pe_R σ M 8) = 10, 0 ≤ (pe_w x1), (pe_w x1) < pe_L σ (pe_R σ M 8)] (67, [some (.inr (.inr M)), some (.inl x1), o2], [.inl (pe_I σ (pe_R σ M 8) (pe_w x1))], σ) rfl ?_ ?_
  · first
    | (simp (disch := omega) only [pe_all, pe_wi w0, pm_K8 hF, pm_KM hF, pm_L8 hF, pm_R8 hF]; done)
    | (simp (disch := omega) only [pe_all, pe_wi w0, pm_K8 hF, pm_KM hF, pm_L8 hF, pm_R8 hF]; (repeat' apply And.intro) <;> first | assumption | omega | decide)
  · try simp (disch := omega) only [pe_wi w0, pm_K8 hF, pm_KM hF, pm_L8 hF, pm_R8 hF]
    exact k
theorem b144_66 {d : Nat} {Φ : Option pe_V → pe_H → Prop} {σ : pe_H} {M : Nat} (hF : pm_F M σ) {o1 : Option pe_V} {x2 : Int}   (k : pe_X d 144 (67, [some (.inr (.inr M)), o1, some (.inl x2)], [.inl x2], σ) Φ) : pe_X d 144 (66, [some (.inr (.inr M)), o1, some (.inl x2)], [], σ) Φ := by
  refine pe_blk 21 1 ck144 [] (67, [some (.inr (.inr M)), o1, some (.inl x2)], [.inl x2], σ) rfl ?_ ?_
  · exact trivial
  · exact k
theorem b144_67 {d : Nat} {Φ : Option pe_V → pe_H → Prop} {σ : pe_H} {M : Nat} (hF : pm_F M σ) {o1 : Option pe_V} {o2 : Option pe_V} {s0 : Int}   (k : Φ (some (.inl s0)) σ) : pe_X d 144 (67, [some (.inr (.inr M)), o1, o2], [.inl s0], σ) Φ := by
  exact pe_fine 22 ck144 rfl rfl rfl trivial k
theorem b144_68 {d : Nat} {Φ : Option pe_V → pe_H → Prop} {σ : pe_H} {M : Nat} (hF : pm_F M σ) {o1 : Option pe_V} {x2 : Int}   (k : Φ (some (.inl x2)) σ) : pe_X d 144 (68, [some (.inr (.inr M)), o1, some (.inl x2)], [], σ) Φ := by
  refine pe_blk 23 1 ck144 [] (69, [some (.inr (.inr M)), o1, some (.inl x2)], [.inl x2], σ) rfl ?_ ?_
  · exact trivial
  · exact pe_fine 24 ck144 rfl rfl rfl trivial k
-- top(I)I
def T145 : List (Nat × Instr × Nat) := [(0, .bipush 6, 2), (2, .iload_n 1, 1), (3, .imul, 1), (4, .aload_n 0, 1), (5, .getfield 49, 3), (8, .iload_n 1, 1), (9, .iaload, 1), (10, .iadd, 1), (11, .iconst 1, 1), (12, .isub, 1), (13, .ireturn, 1)]
theorem ck145 : pe_ctx 145 9 false (some .int) 2 T145 := ⟨rfl, rfl, rfl, rfl, by decide +kernel, by decide, by decide⟩
theorem b145_0 {d : Nat} {Φ : Option pe_V → pe_H → Prop} {σ : pe_H} {M : Nat} (hF : pm_F M σ) {x1 : Int} (w0 : pe_in x1 := by unfold pe_in; omega) (h0 : 0 ≤ x1 := by first | assumption | omega) (h1 : x1 < 8 := by first | assumption | omega) (k : Φ (some (.inl (((6 * x1) + (pe_I σ (M + 14) x1)) - 1))) σ) : pe_X d 145 (0, [some (.inr (.inr M)), some (.inl x1)], [], σ) Φ := by
  refine pe_blk 0 10 ck145 [pe_K σ M = 9, pe_K σ (pe_R σ M 14) = 10, 0 ≤ (pe_w x1), (pe_w x1) < pe_L σ (pe_R σ M 14)] (13, [some (.inr (.inr M)), some (.inl x1)], [.inl (((6 * x1) + (pe_I σ (pe_R σ M 14) (pe_w x1))) - 1)], σ) rfl ?_ ?_
  · first
    | (simp (disch := omega) only [pe_all, pe_wi w0, pm_K14 hF, pm_KM hF, pm_L14 hF, pm_R14 hF]; done)
    | (simp (disch := omega) only [pe_all, pe_wi w0, pm_K14 hF, pm_KM hF, pm_L14 hF, pm_R14 hF]; (repeat' apply And.intro) <;> first | assumption | omega | decide)
  · try simp (disch := omega) only [pe_wi w0, pm_K14 hF, pm_KM hF, pm_L14 hF, pm_R14 hF]
    exact pe_fine 10 ck145 rfl rfl rfl trivial k
-- frameComes(II)V
def T146 : List (Nat × Instr × Nat) := [(0, .bipush 6, 2), (2, .iload_n 1, 1), (3, .imul, 1), (4, .aload_n 0, 1), (5, .getfield 49, 3), (8, .iload_n 1, 1), (9, .iaload, 1), (10, .iadd, 1), (11, .istore_n 3, 1), (12, .aload_n 0, 1), (13, .getfield 49, 3), (16, .iload_n 1, 1), (17, .dup2, 1), (18, .iaload, 1), (19, .iconst 1, 1), (20, .iadd, 1), (21, .iastore, 1), (22, .aload_n 0, 1), (23, .getfield 52, 3), (26, .iload_n 3, 1), (27, .iload_n 2, 1), (28, .iastore, 1), (29, .aload_n 0, 1), (30, .getfield 55, 3), (33, .iload_n 3, 1), (34, .aload_n 0, 1), (35, .getfield 7, 3), (38, .iload_n 2, 1), (39, .iaload, 1), (40, .iastore, 1), (41, .aload_n 0, 1), (42, .getfield 58, 3), (45, .iload_n 3, 1), (46, .iconst 0, 1), (47, .iastore, 1), (48, .aload_n 0, 1), (49, .getfield 61, 3), (52, .iload_n 3, 1), (53, .iconst 0, 1), (54, .iastore, 1), (55, .aload_n 0, 1), (56, .getfield 64, 3), (59, .iload_n 3, 1), (60, .iconst 0, 1), (61, .iastore, 1), (62, .aload_n 0, 1), (63, .getfield 67, 3), (66, .iload_n 3, 1), (67, .iconst 0, 1), (68, .iastore, 1), (69, .iconst 0, 1), (70, .istore 4, 2), (72, .iload 4, 2), (74, .bipush 16, 2), (76, .if_icmp .ge 57, 3), (79, .aload_n 0, 1), (80, .getfield 70, 3), (83, .bipush 16, 2), (85, .iload_n 3, 1), (86, .imul, 1), (87, .iload 4, 2), (89, .iadd, 1), (90, .aload_n 0, 1), (91, .getfield 13, 3), (94, .bipush 16, 2), (96, .iload_n 2, 1), (97, .imul, 1), (98, .iload 4, 2), (100, .iadd, 1), (101, .iaload, 1), (102, .iastore, 1), (103, .aload_n 0, 1), (104, .getfield 73, 3), (107, .bipush 16, 2), (109, .iload_n 3, 1), (110, .imul, 1), (111, .iload 4, 2), (113, .iadd, 1), (114, .aload_n 0, 1), (115, .getfield 16, 3), (118, .bipush 16, 2), (120, .iload_n 2, 1), (121, .imul, 1), (122, .iload 4, 2), (124, .iadd, 1), (125, .iaload, 1), (126, .iastore, 1), (127, .iinc 4 1, 3), (130, .goto (-58), 3), (133, .return_, 1)]
theorem ck146 : pe_ctx 146 9 false none 5 T146 := ⟨rfl, rfl, rfl, rfl, by decide +kernel, by decide, by decide⟩
theorem b146_0 {d : Nat} {Φ : Option pe_V → pe_H → Prop} {σ : pe_H} {M : Nat} (hF : pm_F M σ) {x1 : Int} {x2 : Int} {o3 : Option pe_V} {o4 : Option pe_V} (w0 : pe_in x1 := by unfold pe_in; omega) (w1 : pe_in ((6 * x1) + (pe_I σ (M + 14) x1)) := by unfold pe_in; omega) (h0 : 0 ≤ x1 := by first | assumption | omega) (h1 : x1 < 8 := by first | assumption | omega) (h2 : 0 ≤ ((6 * x1) + (pe_I σ (M + 14) x1)) := by first | assumption | omega) (h3 : ((6 * x1) + (pe_I σ (M + 14) x1)) < 48 := by first | assumption | omega) (k : pe_X d 146 (29, [some (.inr (.inr M)), some (.inl x1), some (.inl x2), some (.inl ((6 * x1) + (pe_I σ (M + 14) x1))), o4], [], pe_wI (pe_wI σ (M + 14) x1 ((pe_I σ (M + 14) x1) + 1)) (M + 15) ((6 * x1) + (pe_I σ (M + 14) x1)) x2) Φ) : pe_X d 146 (0, [some (.inr (.inr M)), some (.inl x1), some (.inl x2), o3, o4], [], σ) Φ := by
  have hM2 := pm_2 hF
  refine pe_blk 0 22 ck146 [pe_K σ M = 9, pe_K σ (pe_R σ M 14) = 10, 0 ≤ (pe_w x1), (pe_w x1) < pe_L σ (pe_R σ M 14), pe_K σ M = 9, pe_K σ (pe_R σ M 14) = 10, 0 ≤ (pe_w x1), (pe_w x1) < pe_L σ (pe_R σ M 14), pe_K σ (pe_R σ M 14) = 10, 0 ≤ (pe_w x1), (pe_w x1) < pe_L σ (pe_R σ M 14), 2 ≤ (pe_R σ M 14), pe_K σ M = 9, pe_K σ (pe_R σ M 15) = 10, 0 ≤ (pe_w ((6 * x1) + (pe_I σ (pe_R σ M 14) (pe_w x1)))), (pe_w ((6 * x1) + (pe_I σ (pe_R σ M 14) (pe_w x1)))) < pe_L σ (pe_R σ M 15), 2 ≤ (pe_R σ M 15)] (29, [some (.inr (.inr M)), some (.inl x1), some (.inl x2), some (.inl ((6 * x1) + (pe_I σ (pe_R σ M 14) (pe_w x1)))), o4], [], pe_wI (pe_wI σ (pe_R σ M 14) (pe_w x1) ((pe_I σ (pe_R σ M 14) (pe_w x1)) + 1)) (pe_R σ M 15) (pe_w ((6 * x1) + (pe_I σ (pe_R σ M 14) (pe_w x1)))) x2) rfl ?_ ?_
  · first
    | (simp (disch := omega) only [pe_all, pe_wi w0, pe_wi w1, pm_K14 hF, pm_K15 hF, pm_KM hF, pm_L14 hF, pm_L15 hF, pm_R14 hF, pm_R15 hF]; done)
    | (simp (disch := omega) only [pe_all, pe_wi w0, pe_wi w1, pm_K14 hF, pm_K15 hF, pm_KM hF, pm_L14 hF, pm_L15 hF, pm_R14 hF, pm_R15 hF]; (repeat' apply And.intro) <;> first | assumption | omega | decide)
  · try simp (disch := omega) only [pe_wi w0, pe_wi w1, pm_K14 hF, pm_K15 hF, pm_KM hF, pm_L14 hF, pm_L15 hF, pm_R14 hF, pm_R15 hF]
    exact k
theorem b146_29 {d : Nat} {Φ : Option pe_V → pe_H → Prop} {σ : pe_H} {M : Nat} (hF : pm_F M σ) {o1 : Option pe_V} {x2 : Int} {x3 : Int} {o4 : Option pe_V} (w0 : pe_in x2 := by unfold pe_in; omega) (w1 : pe_in x3 := by unfold pe_in; omega) (h0 : 0 ≤ x2 := by first | assumption | omega) (h1 : x2 < 5 := by first | assumption | omega) (h2 : 0 ≤ x3 := by first | assumption | omega) (h3 : x3 < 48 := by first | assumption | omega) (k : pe_X d 146 (62, [some (.inr (.inr M)), o1, some (.inl x2), some (.inl x3), o4], [], pe_wI (pe_wI (pe_wI (pe_wI σ (M + 16) x3 (pe_I σ (M + 1) x2)) (M + 17) x3 0) (M + 18) x3 0) (M + 19) x3 0) Φ) : pe_X d 146 (29, [some (.inr (.inr M)), o1, some (.inl x2), some (.inl x3), o4], [], σ) Φ := by
  have hM2 := pm_2 hF
  refine pe_blk 22 23 ck146 [pe_K σ M = 9, pe_K σ M = 9, pe_K σ (pe_R σ M 0) = 10, 0 ≤ (pe_w x2), (pe_w x2) < pe_L σ (pe_R σ M 0), pe_K σ (pe_R σ M 16) = 10, 0 ≤ (pe_w x3), (pe_w x3) < pe_L σ (pe_R σ M 16), 2 ≤ (pe_R σ M 16), pe_K σ M = 9, pe_K σ (pe_R σ M 17) = 10, 0 ≤ (pe_w x3), (pe_w x3) < pe_L σ (pe_R σ M 17), 2 ≤ (pe_R σ M 17), pe_K σ M = 9, pe_K σ (pe_R σ M 18) = 10, 0 ≤ (pe_w x3), (pe_w x3) < pe_L σ (pe_R σ M 18), 2 ≤ (pe_R σ M 18), pe_K σ M = 9, pe_K σ (pe_R σ M 19) = 10, 0 ≤ (pe_w x3), (pe_w x3) < pe_L σ (pe_R σ M 19), 2 ≤ (pe_R σ M 19)] (62, [some (.inr (.inr M)), o1, some (.inl x2), some (.inl x3), o4], [], pe_wI (pe_wI (pe_wI (pe_wI σ (pe_R σ M 16) (pe_w x3) (pe_I σ (pe_R σ M 0) (pe_w x2))) (pe_R σ M 17) (pe_w x3) 0) (pe_R σ M 18) (pe_w x3) 0) (pe_R σ M 19) (pe_w x3) 0) rfl ?_ ?_
  · first
    | (simp (disch := omega) only [pe_all, pe_wi w0, pe_wi w1, pm_K1 hF, pm_K16 hF, pm_K17 hF, pm_K18 hF, pm_K19 hF, pm_KM hF, pm_L1 hF, pm_L16 hF, pm_L17 hF, pm_L18 hF, pm_L19 hF, pm_R0 hF, pm_R16 hF, pm_R17 hF, pm_R18 hF, pm_R19 hF]; done)
    | (simp (disch := omega) only [pe_all, pe_wi w0, pe_wi w1, pm_K1 hF, pm_K16 hF, pm_K17 hF, pm_K18 hF, pm_K19 hF, pm_KM hF, pm_L1 hF, pm_L16 hF, pm_L17 hF, pm_L18 hF, pm_L19 hF, pm_R0 hF, pm_R16 hF, pm_R17 hF, pm_R18 hF, pm_R19 hF]; (repeat' apply And.intro) <;> first | assumption | omega | decide)
  · try simp (disch := omega) only [pe_wi w0, pe_wi w1, pm_K1 hF, pm_K16 hF, pm_K17 hF, pm_K18 hF, pm_K19 hF, pm_KM hF, pm_L1 hF, pm_L16 hF, pm_L17 hF, pm_L18 hF, pm_L19 hF, pm_R0 hF, pm_R16 hF, pm_R17 hF, pm_R18 hF, pm_R19 hF]
    exact k
set_option maxRecDepth 8000 in
theorem b146_62 {d : Nat} {Φ : Option pe_V → pe_H → Prop} {σ : pe_H} {M : Nat} (hF : pm_F M σ) {o1 : Option pe_V} {x2 : Int} {x3 : Int} {o4 : Option pe_V} (w0 : pe_in x3 := by unfold pe_in; omega) (h0 : 0 ≤ x3 := by first | assumption | omega) (h1 : x3 < 48 := by first | assumption | omega) (k : pe_X d 146 (72, [some (.inr (.inr M)), o1, some (.inl x2), some (.inl x3), some (.inl 0)], [], pe_wI σ (M + 20) x3 0) Φ) : pe_X d 146 (62, [some (.inr (.inr M)), o1, some (.inl x2), some (.inl x3), o4], [], σ) Φ := by
  have hM2 := pm_2 hF
  refine pe_blk 45 7 ck146 [pe_K σ M = 9, pe_K σ (pe_R σ M 20) = 10, 0 ≤ (pe_w x3), (pe_w x3) < pe_L σ (pe_R σ M 20), 2 ≤ (pe_R σ M 20)] (72, [some (.inr (.inr M)), o1, some (.inl x2), some (.inl x3), some (.inl 0)], [], pe_wI σ (pe_R σ M 20) (pe_w x3) 0) rfl ?_ ?_
  · first
    | (simp (disch := omega) only [pe_all, pe_wi w0, pm_K20 hF, pm_KM hF, pm_L20 hF, pm_R20 hF]; done)
    | (simp (disch := omega) only [pe_all, pe_wi w0, pm_K20 hF, pm_KM hF, pm_L20 hF, pm_R20 hF]; (repeat' apply And.intro) <;> first | assumption | omega | decide)
  · try simp (disch := omega) only [pe_wi w0, pm_K20 hF, pm_KM hF, pm_L20 hF, pm_R20 hF]
    exact k
set_option maxRecDepth 8000 in
theorem b146_72 {d : Nat} {Φ : Option pe_V → pe_H → Prop} {σ : pe_H} {M : Nat} (hF : pm_F M σ) {o1 : Option pe_V} {x2 : Int} {x3 : Int} {x4 : Int} (w0 : pe_in x4 := by unfold pe_in; omega)  (k1 : 16 ≤ x4 → pe_X d 146 (133, [some (.inr (.inr M)), o1, some (.inl x2), some (.inl x3), some (.inl x4)], [], σ) Φ) (k2 : ¬ (16 ≤ x4) → pe_X d 146 (79, [some (.inr (.inr M)), o1, some (.inl x2), some (.inl x3), some (.inl x4)], [], σ) Φ) : pe_X d 146 (72, [some (.inr (.inr M)), o1, some (.inl x2), some (.inl x3), some (.inl x4)], [], σ) Φ := by
  refine pe_blk 52 3 ck146 [] (cond (decide ((pe_w 16) ≤ (pe_w x4))) 133 79, [some (.inr (.inr M)), o1, some (.inl x2), some (.inl x3), some (.inl x4)], [], σ) rfl ?_ ?_
  · exact trivial
  · try simp (disch := omega) only [pe_wi w0, pe_wi (x := 16) ⟨by decide, by decide⟩]
    exact pe_two k1 k2
set_option maxRecDepth 8000 in
set_option maxHeartbeats 8000000 in
theorem b146_79 {d : Nat} {Φ : Option pe_V → pe_H → Prop} {σ : pe_H} {M : Nat} (hF : pm_F M σ) {o1 : Option pe_V} {x2 : Int} {x3 : Int} {x4 : Int} (w0 : pe_in ((16 * x2) + x4) := by unfold pe_in; omega) (w1 : pe_in ((16 * x3) + x4) := by unfold pe_in; omega) (h0 : 0 ≤ ((16 * x2) + x4) := by first | assumption | omega) (h1 : ((16 * x2) + x4) < 80 := by first | assumption | omega) (h2 : 0 ≤ ((16 * x3) + x4) := by first | assumption | omega) (h3 : ((16 * x3) + x4) < 768 := by first | assumption | omega) (k : pe_X d 146 (127, [some (.inr (.inr M)), o1, some (.inl x2), some (.inl x3), some (.inl x4)], [], pe_wI (pe_wI σ (M + 21) ((16 * x3) + x4) (pe_I σ (M + 2) ((16 * x2) + x4))) (M + 22) ((16 * x3) + x4) (pe_I σ (M + 3) ((16 * x2) + x4))) Φ) : pe_X d 146 (79, [some (.inr (.inr M)), o1, some (.inl x2), some (.inl x3), some (.inl x4)], [], σ) Φ := by
  have hM2 := pm_2 hF
  refine pe_blk 55 32 ck146 [pe_K σ M = 9, pe_K σ M = 9, pe_K σ (pe_R σ M 1) = 10, 0 ≤ (pe_w ((16 * x2) + x4)), (pe_w ((16 * x2) + x4)) < pe_L σ (pe_R σ M 1), pe_K σ (pe_R σ M 21) = 10, 0 ≤ (pe_w ((16 * x3) + x4)), (pe_w ((16 * x3) + x4)) < pe_L σ (pe_R σ M 21), 2 ≤ (pe_R σ M 21), pe_K σ M = 9, pe_K σ M = 9, pe_K σ (pe_R σ M 2) = 10, 0 ≤ (pe_w ((16 * x2) + x4)), (pe_w ((16 * x2) + x4)) < pe_L σ (pe_R σ M 2), pe_K σ (pe_R σ M 22) = 10, 0 ≤ (pe_w ((16 * x3) + x4)), (pe_w ((16 * x3) + x4)) < pe_L σ (pe_R σ M 22), 2 ≤ (pe_R σ M 22)] (127, [some (.inr (.inr M)), o1, some (.inl x2), some (.inl x3), some (.inl x4)], [], pe_wI (pe_wI σ (pe_R σ M 21) (pe_w ((16 * x3) + x4)) (pe_I σ (pe_R σ M 1) (pe_w ((16 * x2) + x4)))) (pe_R σ M 22) (pe_w ((16 * x3) + x4)) (pe_I (pe_wI σ (pe_R σ M 21) (pe_w ((16 * x3) + x4)) (pe_I σ (pe_R σ M 1) (pe_w ((16 * x2) + x4)))) (pe_R σ M 2) (pe_w ((16 * x2) + x4)))) rfl ?_ ?_
  · first
    | (simp (disch := omega) only [pe_all, pe_wi w0, pe_wi w1, pe_I_nej, pe_I_ner, pm_K2 hF, pm_K21 hF, pm_K22 hF, pm_K3 hF, pm_KM hF, pm_L2 hF, pm_L21 hF, pm_L22 hF, pm_L3 hF, pm_R1 hF, pm_R2 hF, pm_R21 hF, pm_R22 hF]; done)
    | (simp (disch := omega) only [pe_all, pe_wi w0, pe_wi w1, pe_I_nej, pe_I_ner, pm_K2 hF, pm_K21 hF, pm_K22 hF, pm_K3 hF, pm_KM hF, pm_L2 hF, pm_L21 hF, pm_L22 hF, pm_L3 hF, pm_R1 hF, pm_R2 hF, pm_R21 hF, pm_R22 hF]; (repeat' apply And.intro) <;> first | assumption | omega | decide)
  · try simp (disch := omega) only [pe_wi w0, pe_wi w1, pe_I_nej, pe_I_ner, pm_K2 hF, pm_K21 hF, pm_K22 hF, pm_K3 hF, pm_KM hF, pm_L2 hF, pm_L21 hF, pm_L22 hF, pm_L3 hF, pm_R1 hF, pm_R2 hF, pm_R21 hF, pm_R22 hF]
    exact k
set_option maxRecDepth 8000 in
theorem b146_127 {d : Nat} {Φ : Option pe_V → pe_H → Prop} {σ : pe_H} {M : Nat} (hF : pm_F M σ) {o1 : Option pe_V} {x2 : Int} {x3 : Int} {x4 : Int}   (k : pe_X d 146 (72, [some (.inr (.inr M)), o1, some (.inl x2), some (.inl x3), some (.inl (x4 + 1))], [], σ) Φ) : pe_X d 146 (127, [some (.inr (.inr M)), o1, some (.inl x2), some (.inl x3), some (.inl x4)], [], σ) Φ := by
  refine pe_blk 87 2 ck146 [] (72, [some (.inr (.inr M)), o1, some (.inl x2), some (.inl x3), some (.inl (x4 + 1))], [], σ) rfl ?_ ?_
  · exact trivial
  · exact k
set_option maxRecDepth 8000 in
theorem b146_133 {d : Nat} {Φ : Option pe_V → pe_H → Prop} {σ : pe_H} {M : Nat} (hF : pm_F M σ) {o1 : Option pe_V} {o2 : Option pe_V} {o3 : Option pe_V} {o4 : Option pe_V}   (k : Φ none σ) : pe_X d 146 (133, [some (.inr (.inr M)), o1, o2, o3, o4], [], σ) Φ := by
  exact pe_fine 89 ck146 rfl rfl rfl trivial k
-- finishOf(I)I
def T147 : List (Nat × Instr × Nat) := [(0, .iconst (-1), 1), (1, .istore_n 2, 1), (2, .aload_n 0, 1), (3, .getfield 55, 3), (6, .iload_n 1, 1), (7, .iaload, 1), (8, .iconst 1, 1), (9, .isub, 1), (10, .istore_n 3, 1), (11, .iload_n 3, 1), (12, .aload_n 0, 1), (13, .getfield 58, 3), (16, .iload_n 1, 1), (17, .iaload, 1), (18, .if_icmp .lt 33, 3), (21, .aload_n 0, 1), (22, .getfield 70, 3), (25, .bipush 16, 2), (27, .iload_n 1, 1), (28, .imul, 1), (29, .iload_n 3, 1), (30, .iadd, 1), (31, .iaload, 1), (32, .bipush 102, 2), (34, .if_icmp .ne 9, 3), (37, .iload_n 3, 1), (38, .iconst 1, 1), (39, .iadd, 1), (40, .goto 4, 3), (43, .iload_n 2, 1), (44, .istore_n 2, 1), (45, .iinc 3 (-1), 3), (48, .goto (-37), 3), (51, .aload_n 0, 1), (52, .getfield 64, 3), (55, .iload_n 1, 1), (56, .iaload, 1), (57, .iconst 1, 1), (58, .if_icmp .ne 7, 3), (61, .iconst (-1), 1), (62, .goto 4, 3), (65, .iload_n 2, 1), (66, .ireturn, 1)]
theorem ck147 : pe_ctx 147 9 false (some .int) 4 T147 := ⟨rfl, rfl, rfl, rfl, by decide +kernel, by decide, by decide⟩
theorem b147_0 {d : Nat} {Φ : Option pe_V → pe_H → Prop} {σ : pe_H} {M : Nat} (hF : pm_F M σ) {x1 : Int} {o2 : Option pe_V} {o3 : Option pe_V} (w0 : pe_in x1 := by unfold pe_in; omega) (h0 : 0 ≤ x1 := by first | assumption | omega) (h1 : x1 < 48 := by first | assumption | omega) (k : pe_X d 147 (11, [some (.inr (.inr M)), some (.inl x1), some (.inl (-1)), some (.inl ((pe_I σ (M + 16) x1) - 1))], [], σ) Φ) : pe_X d 147 (0, [some (.inr (.inr M)), some (.inl x1), o2, o3], [], σ) Φ := by
  refine pe_blk 0 9 ck147 [pe_K σ M = 9, pe_K σ (pe_R σ M 16) = 10, 0 ≤ (pe_w x1), (pe_w x1) < pe_L σ (pe_R σ M 16)] (11, [some (.inr (.inr M)), some (.inl x1), some (.inl (-1)), some (.inl ((pe_I σ (pe_R σ M 16) (pe_w x1)) - 1))], [], σ) rfl ?_ ?_
  · first
    | (simp (disch := omega) only [pe_all, pe_wi w0, pm_K16 hF, pm_KM hF, pm_L16 hF, pm_R16 hF]; done)
    | (simp (disch := omega) only [pe_all, pe_wi w0, pm_K16 hF, pm_KM hF, pm_L16 hF, pm_R16 hF]; (repeat' apply And.intro) <;> first | assumption | omega | decide)
  · try simp (disch := omega) only [pe_wi w0, pm_K16 hF, pm_KM hF, pm_L16 hF, pm_R16 hF]
    exact k
theorem b147_11 {d : Nat} {Φ : Option pe_V → pe_H → Prop} {σ : pe_H} {M : Nat} (hF : pm_F M σ) {x1 : Int} {x2 : Int} {x3 : Int} (w0 : pe_in x1 := by unfold pe_in; omega) (w1 : pe_in x3 := by unfold pe_in; omega) (w2 : pe_in (pe_I σ (M + 17) x1) := by unfold pe_in; omega) (h0 : 0 ≤ x1 := by first | assumption | omega) (h1 : x1 < 48 := by first | assumption | omega) (k1 : x3 < (pe_I σ (M + 17) x1) → pe_X d 147 (51, [some (.inr (.inr M)), some (.inl x1), some (.inl x2), some (.inl x3)], [], σ) Φ) (k2 : ¬ (x3 < (pe_I σ (M + 17) x1)) → pe_X d 147 (21, [some (.inr (.inr M)), some (.inl x1), some (.inl x2), some (.inl x3)], [], σ) Φ) : pe_X d 147 (11, [some (.inr (.inr M)), some (.inl x1), some (.inl x2), some (.inl x3)], [], σ) Φ := by
  refine pe_blk 9 6 ck147 [pe_K σ M = 9, pe_K σ (pe_R σ M 17) = 10, 0 ≤ (pe_w x1), (pe_w x1) < pe_L σ (pe_R σ M 17)] (cond (decide ((pe_w x3) < (pe_w (pe_I σ (pe_R σ M 17) (pe_w x1))))) 51 21, [some (.inr (.inr M)), some (.inl x1), some (.inl x2), some (.inl x3)], [], σ) rfl ?_ ?_
  · first
    | (simp (disch := omega) only [pe_all, pe_wi w0, pe_wi w1, pe_wi w2, pm_K17 hF, pm_KM hF, pm_L17 hF, pm_R17 hF]; done)
    | (simp (disch := omega) only [pe_all, pe_wi w0, pe_wi w1, pe_wi w2, pm_K17 hF, pm_KM hF, pm_L17 hF, pm_R17 hF]; (repeat' apply And.intro) <;> first | assumption | omega | decide)
  · try simp (disch := omega) only [pe_wi w0, pe_wi w1, pe_wi w2, pm_K17 hF, pm_KM hF, pm_L17 hF, pm_R17 hF]
    exact pe_two k1 k2
theorem b147_21 {d : Nat} {Φ : Option pe_V → pe_H → Prop} {σ : pe_H} {M : Nat} (hF : pm_F M σ) {x1 : Int} {x2 : Int} {x3 : Int} (w0 : pe_in ((16 * x1) + x3) := by unfold pe_in; omega) (w1 : pe_in (pe_I σ (M + 21) ((16 * x1) + x3)) := by unfold pe_in; omega) (h0 : 0 ≤ ((16 * x1) + x3) := by first | assumption | omega) (h1 : ((16 * x1) + x3) < 768 := by first | assumption | omega) (k1 : ¬ (pe_I σ (M + 21) ((16 * x1) + x3)) = 102 → pe_X d 147 (43, [some (.inr (.inr M)), some (.inl x1), some (.inl x2), some (.inl x3)], [], σ) Φ) (k2 : (pe_I σ (M + 21) ((16 * x1) + x3)) = 102 → pe_X d 147 (37, [some (.inr (.inr M)), some (.inl x1), some (.inl x2), some (.inl x3)], [], σ) Φ) : pe_X d 147 (21, [some (.inr (.inr M)), some (.inl x1), some (.inl x2), some (.inl x3)], [], σ) Φ := by
  refine pe_blk 15 10 ck147 [pe_K σ M = 9, pe_K σ (pe_R σ M 21) = 10, 0 ≤ (pe_w ((16 * x1) + x3)), (pe_w ((16 * x1) + x3)) < pe_L σ (pe_R σ M 21)] (cond (decide (¬ (pe_w (pe_I σ (pe_R σ M 21) (pe_w ((16 * x1) + x3)))) = (pe_w 102))) 43 37, [some (.inr (.inr M)), some (.inl x1), some (.inl x2), some (.inl x3)], [], σ) rfl ?_ ?_
  · first
    | (simp (disch := omega) only [pe_all, pe_wi w0, pe_wi w1, pe_wi (x := 102) ⟨by decide, by decide⟩, pm_K21 hF, pm_KM hF, pm_L21 hF, pm_R21 hF]; done)
    | (simp (disch := omega) only [pe_all, pe_wi w0, pe_wi w1, pe_wi (x := 102) ⟨by decide, by decide⟩, pm_K21 hF, pm_KM hF, pm_L21 hF, pm_R21 hF]; (repeat' apply And.intro) <;> first | assumption | omega | decide)
  · try simp (disch := omega) only [pe_wi w0, pe_wi w1, pe_wi (x := 102) ⟨by decide, by decide⟩, pm_K21 hF, pm_KM hF, pm_L21 hF, pm_R21 hF]
    exact pe_two' k1 k2
theorem b147_37 {d : Nat} {Φ : Option pe_V → pe_H → Prop} {σ : pe_H} {M : Nat} (hF : pm_F M σ) {x1 : Int} {o2 : Option pe_V} {x3 : Int}   (k : pe_X d 147 (44, [some (.inr (.inr M)), some (.inl x1), o2, some (.inl x3)], [.inl (x3 + 1)], σ) Φ) : pe_X d 147 (37, [some (.inr (.inr M)), some (.inl x1), o2, some (.inl x3)], [], σ) Φ := by
  refine pe_blk 25 4 ck147 [] (44, [some (.inr (.inr M)), some (.inl x1), o2, some (.inl x3)], [.inl (x3 + 1)], σ) rfl ?_ ?_
  · exact trivial
  · exact k
theorem b147_43 {d : Nat} {Φ : Option pe_V → pe_H → Prop} {σ : pe_H} {M : Nat} (hF : pm_F M σ) {x1 : Int} {x2 : Int} {x3 : Int}   (k : pe_X d 147 (44, [some (.inr (.inr M)), some (.inl x1), some (.inl x2), some (.inl x3)], [.inl x2], σ) Φ) : pe_X d 147 (43, [some (.inr (.inr M)), some (.inl x1), some (.inl x2), some (.inl x3)], [], σ) Φ := by
  refine pe_blk 29 1 ck147 [] (44, [some (.inr (.inr M)), some (.inl x1), some (.inl x2), some (.inl x3)], [.inl x2], σ) rfl ?_ ?_
  · exact trivial
  · exact k
theorem b147_44 {d : Nat} {Φ : Option pe_V → pe_H → Prop} {σ : pe_H} {M : Nat} (hF : pm_F M σ) {x1 : Int} {o2 : Option pe_V} {x3 : Int} {s0 : Int}   (k : pe_X d 147 (11, [some (.inr (.inr M)), some (.inl x1), some (.inl s0), some (.inl (x3 + (-1)))], [], σ) Φ) : pe_X d 147 (44, [some (.inr (.inr M)), some (.inl x1), o2, some (.inl x3)], [.inl s0], σ) Φ := by
  refine pe_blk 30 3 ck147 [] (11, [some (.inr (.inr M)), some (.inl x1), some (.inl s0), some (.inl (x3 + (-1)))], [], σ) rfl ?_ ?_
  · exact trivial
  · exact k
theorem b147_51 {d : Nat} {Φ : Option pe_V → pe_H → Prop} {σ : pe_H} {M : Nat} (hF : pm_F M σ) {x1 : Int} {x2 : Int} {o3 : Option pe_V} (w0 : pe_in x1 := by unfold pe_in; omega) (w1 : pe_in (pe_I σ (M + 19) x1) := by unfold pe_in; omega) (h0 : 0 ≤ x1 := by first | assumption | omega) (h1 : x1 < 48 := by first | assumption | omega) (k1 : ¬ (pe_I σ (M + 19) x1) = 1 → pe_X d 147 (65, [some (.inr (.inr M)), some (.inl x1), some (.inl x2), o3], [], σ) Φ) (k2 : (pe_I σ (M + 19) x1) = 1 → pe_X d 147 (61, [some (.inr (.inr M)), some (.inl x1), some (.inl x2), o3], [], σ) Φ) : pe_X d 147 (51, [some (.inr (.inr M)), some (.inl x1), some (.inl x2), o3], [], σ) Φ := by
  refine pe_blk 33 6 ck147 [pe_K σ M = 9, pe_K σ (pe_R σ M 19) = 10, 0 ≤ (pe_w x1), (pe_w x1) < pe_L σ (pe_R σ M 19)] (cond (decide (¬ (pe_w (pe_I σ (pe_R σ M 19) (pe_w x1))) = (pe_w 1))) 65 61, [some (.inr (.inr M)), some (.inl x1), some (.inl x2), o3], [], σ) rfl ?_ ?_
  · first
    | (simp (disch := omega) only [pe_all, pe_wi w0, pe_wi w1, pe_wi (x := 1) ⟨by decide, by decide⟩, pm_K19 hF, pm_KM hF, pm_L19 hF, pm_R19 hF]; done)
    | (simp (disch := omega) only [pe_all, pe_wi w0, pe_wi w1, pe_wi (x := 1) ⟨by decide, by decide⟩, pm_K19 hF, pm_KM hF, pm_L19 hF, pm_R19 hF]; (repeat' apply And.intro) <;> first | assumption | omega | decide)
  · try simp (disch := omega) only [pe_wi w0, pe_wi w1, pe_wi (x := 1) ⟨by decide, by decide⟩, pm_K19 hF, pm_KM hF, pm_L19 hF, pm_R19 hF]
    exact pe_two' k1 k2
theorem b147_61 {d : Nat} {Φ : Option pe_V → pe_H → Prop} {σ : pe_H} {M : Nat} (hF : pm_F M σ) {o1 : Option pe_V} {o2 : Option pe_V} {o3 : Option pe_V}   (k : pe_X d 147 (66, [some (.inr (.inr M)), o1, o2, o3], [.inl (-1)], σ) Φ) : pe_X d 147 (61, [some (.inr (.inr M)), o1, o2, o3], [], σ) Φ := by
  refine pe_blk 39 2 ck147 [] (66, [some (.inr (.inr M)), o1, o2, o3], [.inl (-1)], σ) rfl ?_ ?_
  · exact trivial
  · exact k
theorem b147_65 {d : Nat} {Φ : Option pe_V → pe_H → Prop} {σ : pe_H} {M : Nat} (hF : pm_F M σ) {o1 : Option pe_V} {x2 : Int} {o3 : Option pe_V}   (k : pe_X d 147 (66, [some (.inr (.inr M)), o1, some (.inl x2), o3], [.inl x2], σ) Φ) : pe_X d 147 (65, [some (.inr (.inr M)), o1, some (.inl x2), o3], [], σ) Φ := by
  refine pe_blk 41 1 ck147 [] (66, [some (.inr (.inr M)), o1, some (.inl x2), o3], [.inl x2], σ) rfl ?_ ?_
  · exact trivial
  · exact k
theorem b147_66 {d : Nat} {Φ : Option pe_V → pe_H → Prop} {σ : pe_H} {M : Nat} (hF : pm_F M σ) {o1 : Option pe_V} {o2 : Option pe_V} {o3 : Option pe_V} {s0 : Int}   (k : Φ (some (.inl s0)) σ) : pe_X d 147 (66, [some (.inr (.inr M)), o1, o2, o3], [.inl s0], σ) Φ := by
  exact pe_fine 42 ck147 rfl rfl rfl trivial k
-- faultComes(II)I
def T148 : List (Nat × Instr × Nat) := [(0, .aload_n 0, 1), (1, .getfield 76, 3), (4, .aload_n 0, 1), (5, .getfield 155, 3), (8, .iload_n 1, 1), (9, .iastore, 1), (10, .aload_n 0, 1), (11, .getfield 79, 3), (14, .aload_n 0, 1), (15, .getfield 155, 3), (18, .iload_n 2, 1), (19, .iastore, 1), (20, .aload_n 0, 1), (21, .dup, 1), (22, .getfield 155, 3), (25, .iconst 1, 1), (26, .iadd, 1), (27, .putfield 155, 3), (30, .aload_n 0, 1), (31, .getfield 155, 3), (34, .iconst 1, 1), (35, .isub, 1), (36, .ireturn, 1)]
theorem ck148 : pe_ctx 148 9 false (some .int) 3 T148 := ⟨rfl, rfl, rfl, rfl, by decide +kernel, by decide, by decide⟩
theorem b148_0 {d : Nat} {Φ : Option pe_V → pe_H → Prop} {σ : pe_H} {M : Nat} (hF : pm_F M σ) {x1 : Int} {x2 : Int} (w0 : pe_in (pe_I σ M 23) := by unfold pe_in; omega) (w1 : pe_in ((pe_I σ M 23)) := by unfold pe_in; omega) (h0 : 0 ≤ (pe_I σ M 23) := by first | assumption | omega) (h1 : (pe_I σ M 23) < 600 := by first | assumption | omega) (k : Φ (some (.inl (((pe_I σ M 23) + 1) - 1))) (pe_wI (pe_wI (pe_wI σ (M + 23) (pe_I σ M 23) x1) (M + 24) (pe_I σ M 23) x2) M 23 ((pe_I σ M 23) + 1))) : pe_X d 148 (0, [some (.inr (.inr M)), some (.inl x1), some (.inl x2)], [], σ) Φ := by
  have hM2 := pm_2 hF
  refine pe_blk 0 22 ck148 [pe_K σ M = 9, pe_K σ M = 9, pe_K σ (pe_R σ M 24) = 10, 0 ≤ (pe_w (pe_I σ M 23)), (pe_w (pe_I σ M 23)) < pe_L σ (pe_R σ M 24), 2 ≤ (pe_R σ M 24), pe_K σ M = 9, pe_K σ M = 9, pe_K σ (pe_R σ M 25) = 10, 0 ≤ (pe_w (pe_I (pe_wI σ (pe_R σ M 24) (pe_w (pe_I σ M 23)) x1) M 23)), (pe_w (pe_I (pe_wI σ (pe_R σ M 24) (pe_w (pe_I σ M 23)) x1) M 23)) < pe_L σ (pe_R σ M 25), 2 ≤ (pe_R σ M 25), pe_K σ M = 9, pe_K σ M = 9, pe_K σ M = 9] (36, [some (.inr (.inr M)), some (.inl x1), some (.inl x2)], [.inl ((pe_I (pe_wI (pe_wI (pe_wI σ (pe_R σ M 24) (pe_w (pe_I σ M 23)) x1) (pe_R σ M 25) (pe_w (pe_I (pe_wI σ (pe_R σ M 24) (pe_w (pe_I σ M 23)) x1) M 23)) x2) M 23 ((pe_I (pe_wI (pe_wI σ (pe_R σ M 24) (pe_w (pe_I σ M 23)) x1) (pe_R σ M 25) (pe_w (pe_I (pe_wI σ (pe_R σ M 24) (pe_w (pe_I σ M 23)) x1) M 23)) x2) M 23) + 1)) M 23) - 1)], pe_wI (pe_wI (pe_wI σ (pe_R σ M 24) (pe_w (pe_I σ M 23)) x1) (pe_R σ M 25) (pe_w (pe_I (pe_wI σ (pe_R σ M 24) (pe_w (pe_I σ M 23)) x1) M 23)) x2) M 23 ((pe_I (pe_wI (pe_wI σ (pe_R σ M 24) (pe_w (pe_I σ M 23)) x1) (pe_R σ M 25) (pe_w (pe_I (pe_wI σ (pe_R σ M 24) (pe_w (pe_I σ M 23)) x1) M 23)) x2) M 23) + 1)) rfl ?_ ?_
  · first
    | (simp (disch := omega) only [pe_all, pe_wi w0, pe_wi w1, pe_I_nej, pe_I_ner, pe_I_same, pm_K23 hF, pm_K24 hF, pm_KM hF, pm_L23 hF, pm_L24 hF, pm_R24 hF, pm_R25 hF]; done)
    | (simp (disch := omega) only [pe_all, pe_wi w0, pe_wi w1, pe_I_nej, pe_I_ner, pe_I_same, pm_K23 hF, pm_K24 hF, pm_KM hF, pm_L23 hF, pm_L24 hF, pm_R24 hF, pm_R25 hF]; (repeat' apply And.intro) <;> first | assumption | omega | decide)
  · try simp (disch := omega) only [pe_wi w0, pe_wi w1, pe_I_nej, pe_I_ner, pe_I_same, pm_K23 hF, pm_K24 hF, pm_KM hF, pm_L23 hF, pm_L24 hF, pm_R24 hF, pm_R25 hF]
    exact pe_fine 22 ck148 rfl rfl rfl trivial k
-- throwsIt(II)V
def T149 : List (Nat × Instr × Nat) := [(0, .aload_n 0, 1), (1, .getfield 49, 3), (4, .iload_n 1, 1), (5, .iaload, 1), (6, .ifCond .le 92, 3), (9, .aload_n 0, 1), (10, .iload_n 1, 1), (11, .invokevirtual 158, 3), (14, .istore_n 3, 1), (15, .aload_n 0, 1), (16, .iload_n 3, 1), (17, .invokevirtual 162, 3), (20, .istore 4, 2), (22, .iload 4, 2), (24, .ifCond .lt 28, 3), (27, .aload_n 0, 1), (28, .getfield 67, 3), (31, .iload_n 3, 1), (32, .iconst 2, 1), (33, .iload_n 2, 1), (34, .iadd, 1), (35, .iastore, 1), (36, .aload_n 0, 1), (37, .getfield 64, 3), (40, .iload_n 3, 1), (41, .iconst 1, 1), (42, .iastore, 1), (43, .aload_n 0, 1), (44, .getfield 58, 3), (47, .iload_n 3, 1), (48, .iload 4, 2), (50, .iastore, 1), (51, .return_, 1), (52, .aload_n 0, 1), (53, .getfield 67, 3), (56, .iload_n 3, 1), (57, .iaload, 1), (58, .iconst 2, 1), (59, .if_icmp .lt 26, 3), (62, .aload_n 0, 1), (63, .getfield 79, 3), (66, .iload_n 2, 1), (67, .iaload, 1), (68, .ifCond .ge 17, 3), (71, .aload_n 0, 1), (72, .getfield 79, 3), (75, .iload_n 2, 1), (76, .aload_n 0, 1), (77, .getfield 67, 3), (80, .iload_n 3, 1), (81, .iaload, 1), (82, .iconst 2, 1), (83, .isub, 1), (84, .iastore, 1), (85, .aload_n 0, 1), (86, .getfield 49, 3), (89, .iload_n 1, 1), (90, .dup2, 1), (91, .iaload, 1), (92, .iconst 1, 1), (93, .isub, 1), (94, .iastore, 1), (95, .goto (-95), 3), (98, .aload_n 0, 1), (99, .getfield 28, 3), (102, .iload_n 1, 1), (103, .bipush 7, 2), (105, .iastore, 1), (106, .aload_n 0, 1), (107, .getfield 46, 3), (110, .iload_n 1, 1), (111, .iload_n 2, 1), (112, .iastore, 1), (113, .return_, 1)]
theorem ck149 : pe_ctx 149 9 false none 5 T149 := ⟨rfl, rfl, rfl, rfl, by decide +kernel, by decide, by decide⟩
theorem b149_0 {d : Nat} {Φ : Option pe_V → pe_H → Prop} {σ : pe_H} {M : Nat} (hF : pm_F M σ) {x1 : Int} {x2 : Int} {o3 : Option pe_V} {o4 : Option pe_V} (w0 : pe_in x1 := by unfold pe_in; omega) (w1 : pe_in (pe_I σ (M + 14) x1) := by unfold pe_in; omega) (h0 : 0 ≤ x1 := by first | assumption | omega) (h1 : x1 < 8 := by first | assumption | omega) (k1 : (pe_I σ (M + 14) x1) ≤ 0 → pe_X d 149 (98, [some (.inr (.inr M)), some (.inl x1), some (.inl x2), o3, o4], [], σ) Φ) (k2 : ¬ ((pe_I σ (M + 14) x1) ≤ 0) → pe_X d 149 (9, [some (.inr (.inr M)), some (.inl x1), some (.inl x2), o3, o4], [], σ) Φ) : pe_X d 149 (0, [some (.inr (.inr M)), some (.inl x1), some (.inl x2), o3, o4], [], σ) Φ := by
  refine pe_blk 0 5 ck149 [pe_K σ M = 9, pe_K σ (pe_R σ M 14) = 10, 0 ≤ (pe_w x1), (pe_w x1) < pe_L σ (pe_R σ M 14)] (cond (decide ((pe_w (pe_I σ (pe_R σ M 14) (pe_w x1))) ≤ 0)) 98 9, [some (.inr (.inr M)), some (.inl x1), some (.inl x2), o3, o4], [], σ) rfl ?_ ?_
  · first
    | (simp (disch := omega) only [pe_all, pe_wi w0, pe_wi w1, pm_K14 hF, pm_KM hF, pm_L14 hF, pm_R14 hF]; done)
    | (simp (disch := omega) only [pe_all, pe_wi w0, pe_wi w1, pm_K14 hF, pm_KM hF, pm_L14 hF, pm_R14 hF]; (repeat' apply And.intro) <;> first | assumption | omega | decide)
  · try simp (disch := omega) only [pe_wi w0, pe_wi w1, pm_K14 hF, pm_KM hF, pm_L14 hF, pm_R14 hF]
    exact pe_two k1 k2
theorem b149_9 {d : Nat} {Φ : Option pe_V → pe_H → Prop} {σ : pe_H} {M : Nat} (hF : pm_F M σ) {x1 : Int} {x2 : Int} {o3 : Option pe_V} {o4 : Option pe_V}   (k : pe_M d 145 [.inr (.inr M), .inl x1] σ (fun r σ' => pe_X d 149 (14, [some (.inr (.inr M)), some (.inl x1), some (.inl x2), o3, o4], r.toList ++ [], σ') Φ)) : pe_X d 149 (9, [some (.inr (.inr M)), some (.inl x1), some (.inl x2), o3, o4], [], σ) Φ := by
  refine pe_blk 5 2 ck149 [] (11, [some (.inr (.inr M)), some (.inl x1), some (.inl x2), o3, o4], [.inl x1, .inr (.inr M)], σ) rfl ?_ ?_
  · exact trivial
  · try simp (disch := omega) only [pm_KM hF]
    exact pe_cal 7 ck149 rfl rfl rfl ⟨pm_KM hF, by decide⟩ k
theorem b149_14 {d : Nat} {Φ : Option pe_V → pe_H → Prop} {σ : pe_H} {M : Nat} (hF : pm_F M σ) {x1 : Int} {x2 : Int} {o3 : Option pe_V} {o4 : Option pe_V} {s0 : Int}   (k : pe_M d 147 [.inr (.inr M), .inl s0] σ (fun r σ' => pe_X d 149 (20, [some (.inr (.inr M)), some (.inl x1), some (.inl x2), some (.inl s0), o4], r.toList ++ [], σ') Φ)) : pe_X d 149 (14, [some (.inr (.inr M)), some (.inl x1), some (.inl x2), o3, o4], [.inl s0], σ) Φ := by
  refine pe_blk 8 3 ck149 [] (17, [some (.inr (.inr M)), some (.inl x1), some (.inl x2), some (.inl s0), o4], [.inl s0, .inr (.inr M)], σ) rfl ?_ ?_
  · exact trivial
  · try simp (disch := omega) only [pm_KM hF]
    exact pe_cal 11 ck149 rfl rfl rfl ⟨pm_KM hF, by decide⟩ k
theorem b149_20 {d : Nat} {Φ : Option pe_V → pe_H → Prop} {σ : pe_H} {M : Nat} (hF : pm_F M σ) {x1 : Int} {x2 : Int} {x3 : Int} {o4 : Option pe_V} {s0 : Int} (w0 : pe_in s0 := by unfold pe_in; omega)  (k1 : s0 < 0 → pe_X d 149 (52, [some (.inr (.inr M)), some (.inl x1), some (.inl x2), some (.inl x3), some (.inl s0)], [], σ) Φ) (k2 : ¬ (s0 < 0) → pe_X d 149 (27, [some (.inr (.inr M)), some (.inl x1), some (.inl x2), some (.inl x3), some (.inl s0)], [], σ) Φ) : pe_X d 149 (20, [some (.inr (.inr M)), some (.inl x1), some (.inl x2), some (.inl x3), o4], [.inl s0], σ) Φ := by
  refine pe_blk 12 3 ck149 [] (cond (decide ((pe_w s0) < 0)) 52 27, [some (.inr (.inr M)), some (.inl x1), some (.inl x2), some (.inl x3), some (.inl s0)], [], σ) rfl ?_ ?_
  · exact trivial
  · try simp (disch := omega) only [pe_wi w0]
    exact pe_two k1 k2
theorem b149_27 {d : Nat} {Φ : Option pe_V → pe_H → Prop} {σ : pe_H} {M : Nat} (hF : pm_F M σ) {o1 : Option pe_V} {x2 : Int} {x3 : Int} {x4 : Int} (w0 : pe_in x3 := by unfold pe_in; omega) (h0 : 0 ≤ x3 := by first | assumption | omega) (h1 : x3 < 48 := by first | assumption | omega) (k : Φ none (pe_wI (pe_wI (pe_wI σ (M + 20) x3 (2 + x2)) (M + 19) x3 1) (M + 17) x3 x4)) : pe_X d 149 (27, [some (.inr (.inr M)), o1, some (.inl x2), some (.inl x3), some (.inl x4)], [], σ) Φ := by
  have hM2 := pm_2 hF
  refine pe_blk 15 17 ck149 [pe_K σ M = 9, pe_K σ (pe_R σ M 20) = 10, 0 ≤ (pe_w x3), (pe_w x3) < pe_L σ (pe_R σ M 20), 2 ≤ (pe_R σ M 20), pe_K σ M = 9, pe_K σ (pe_R σ M 19) = 10, 0 ≤ (pe_w x3), (pe_w x3) < pe_L σ (pe_R σ M 19), 2 ≤ (pe_R σ M 19), pe_K σ M = 9, pe_K σ (pe_R σ M 17) = 10, 0 ≤ (pe_w x3), (pe_w x3) < pe_L σ (pe_R σ M 17), 2 ≤ (pe_R σ M 17)] (51, [some (.inr (.inr M)), o1, some (.inl x2), some (.inl x3), some (.inl x4)], [], pe_wI (pe_wI (pe_wI σ (pe_R σ M 20) (pe_w x3) (2 + x2)) (pe_R σ M 19) (pe_w x3) 1) (pe_R σ M 17) (pe_w x3) x4) rfl ?_ ?_
  · first
    | (simp (disch := omega) only [pe_all, pe_wi w0, pm_K17 hF, pm_K19 hF, pm_K20 hF, pm_KM hF, pm_L17 hF, pm_L19 hF, pm_L20 hF, pm_R17 hF, pm_R19 hF, pm_R20 hF]; done)
    | (simp (disch := omega) only [pe_all, pe_wi w0, pm_K17 hF, pm_K19 hF, pm_K20 hF, pm_KM hF, pm_L17 hF, pm_L19 hF, pm_L20 hF, pm_R17 hF, pm_R19 hF, pm_R20 hF]; (repeat' apply And.intro) <;> first | assumption | omega | decide)
  · try simp (disch := omega) only [pe_wi w0, pm_K17 hF, pm_K19 hF, pm_K20 hF, pm_KM hF, pm_L17 hF, pm_L19 hF, pm_L20 hF, pm_R17 hF, pm_R19 hF, pm_R20 hF]
    exact pe_fine 32 ck149 rfl rfl rfl trivial k
theorem b149_52 {d : Nat} {Φ : Option pe_V → pe_H → Prop} {σ : pe_H} {M : Nat} (hF : pm_F M σ) {x1 : Int} {x2 : Int} {x3 : Int} {o4 : Option pe_V} (w0 : pe_in x3 := by unfold pe_in; omega) (w1 : pe_in (pe_I σ (M + 20) x3) := by unfold pe_in; omega) (h0 : 0 ≤ x3 := by first | assumption | omega) (h1 : x3 < 48 := by first | assumption | omega) (k1 : (pe_I σ (M + 20) x3) < 2 → pe_X d 149 (85, [some (.inr (.inr M)), some (.inl x1), some (.inl x2), some (.inl x3), o4], [], σ) Φ) (k2 : ¬ ((pe_I σ (M + 20) x3) < 2) → pe_X d 149 (62, [some (.inr (.inr M)), some (.inl x1), some (.inl x2), some (.inl x3), o4], [], σ) Φ) : pe_X d 149 (52, [some (.inr (.inr M)), some (.inl x1), some (.inl x2), some (.inl x3), o4], [], σ) Φ := by
  refine pe_blk 33 6 ck149 [pe_K σ M = 9, pe_K σ (pe_R σ M 20) = 10, 0 ≤ (pe_w x3), (pe_w x3) < pe_L σ (pe_R σ M 20)] (cond (decide ((pe_w (pe_I σ (pe_R σ M 20) (pe_w x3))) < (pe_w 2))) 85 62, [some (.inr (.inr M)), some (.inl x1), some (.inl x2), some (.inl x3), o4], [], σ) rfl ?_ ?_
  · first
    | (simp (disch := omega) only [pe_all, pe_wi w0, pe_wi w1, pe_wi (x := 2) ⟨by decide, by decide⟩, pm_K20 hF, pm_KM hF, pm_L20 hF, pm_R20 hF]; done)
    | (simp (disch := omega) only [pe_all, pe_wi w0, pe_wi w1, pe_wi (x := 2) ⟨by decide, by decide⟩, pm_K20 hF, pm_KM hF, pm_L20 hF, pm_R20 hF]; (repeat' apply And.intro) <;> first | assumption | omega | decide)
  · try simp (disch := omega) only [pe_wi w0, pe_wi w1, pe_wi (x := 2) ⟨by decide, by decide⟩, pm_K20 hF, pm_KM hF, pm_L20 hF, pm_R20 hF]
    exact pe_two k1 k2
theorem b149_62 {d : Nat} {Φ : Option pe_V → pe_H → Prop} {σ : pe_H} {M : Nat} (hF : pm_F M σ) {x1 : Int} {x2 : Int} {x3 : Int} {o4 : Option pe_V} (w0 : pe_in x2 := by unfold pe_in; omega) (w1 : pe_in (pe_I σ (M + 24) x2) := by unfold pe_in; omega) (h0 : 0 ≤ x2 := by first | assumption | omega) (h1 : x2 < 600 := by first | assumption | omega) (k1 : 0 ≤ (pe_I σ (M + 24) x2) → pe_X d 149 (85, [some (.inr (.inr M)), some (.inl x1), some (.inl x2), some (.inl x3), o4], [], σ) Φ) (k2 : ¬ (0 ≤ (pe_I σ (M + 24) x2)) → pe_X d 149 (71, [some (.inr (.inr M)), some (.inl x1), some (.inl x2), some (.inl x3), o4], [], σ) Φ) : pe_X d 149 (62, [some (.inr (.inr M)), some (.inl x1), some (.inl x2), some (.inl x3), o4], [], σ) Φ := by
  refine pe_blk 39 5 ck149 [pe_K σ M = 9, pe_K σ (pe_R σ M 25) = 10, 0 ≤ (pe_w x2), (pe_w x2) < pe_L σ (pe_R σ M 25)] (cond (decide (0 ≤ (pe_w (pe_I σ (pe_R σ M 25) (pe_w x2))))) 85 71, [some (.inr (.inr M)), some (.inl x1), some (.inl x2), some (.inl x3), o4], [], σ) rfl ?_ ?_
  · first
    | (simp (disch := omega) only [pe_all, pe_wi w0, pe_wi w1, pm_K24 hF, pm_KM hF, pm_L24 hF, pm_R25 hF]; done)
    | (simp (disch := omega) only [pe_all, pe_wi w0, pe_wi w1, pm_K24 hF, pm_KM hF, pm_L24 hF, pm_R25 hF]; (repeat' apply And.intro) <;> first | assumption | omega | decide)
  · try simp (disch := omega) only [pe_wi w0, pe_wi w1, pm_K24 hF, pm_KM hF, pm_L24 hF, pm_R25 hF]
    exact pe_two k1 k2
set_option maxRecDepth 8000 in
theorem b149_71 {d : Nat} {Φ : Option pe_V → pe_H → Prop} {σ : pe_H} {M : Nat} (hF : pm_F M σ) {x1 : Int} {x2 : Int} {x3 : Int} {o4 : Option pe_V} (w0 : pe_in x3 := by unfold pe_in; omega) (w1 : pe_in x2 := by unfold pe_in; omega) (h0 : 0 ≤ x3 := by first | assumption | omega) (h1 : x3 < 48 := by first | assumption | omega) (h2 : 0 ≤ x2 := by first | assumption | omega) (h3 : x2 < 600 := by first | assumption | omega) (k : pe_X d 149 (85, [some (.inr (.inr M)), some (.inl x1), some (.inl x2), some (.inl x3), o4], [], pe_wI σ (M + 24) x2 ((pe_I σ (M + 20) x3) - 2)) Φ) : pe_X d 149 (71, [some (.inr (.inr M)), some (.inl x1), some (.inl x2), some (.inl x3), o4], [], σ) Φ := by
  have hM2 := pm_2 hF
  refine pe_blk 44 10 ck149 [pe_K σ M = 9, pe_K σ M = 9, pe_K σ (pe_R σ M 20) = 10, 0 ≤ (pe_w x3), (pe_w x3) < pe_L σ (pe_R σ M 20), pe_K σ (pe_R σ M 25) = 10, 0 ≤ (pe_w x2), (pe_w x2) < pe_L σ (pe_R σ M 25), 2 ≤ (pe_R σ M 25)] (85, [some (.inr (.inr M)), some (.inl x1), some (.inl x2), some (.inl x3), o4], [], pe_wI σ (pe_R σ M 25) (pe_w x2) ((pe_I σ (pe_R σ M 20) (pe_w x3)) - 2)) rfl ?_ ?_
  · first
    | (simp (disch := omega) only [pe_all, pe_wi w0, pe_wi w1, pm_K20 hF, pm_K24 hF, pm_KM hF, pm_L20 hF, pm_L24 hF, pm_R20 hF, pm_R25 hF]; done)
    | (simp (disch := omega) only [pe_all, pe_wi w0, pe_wi w1, pm_K20 hF, pm_K24 hF, pm_KM hF, pm_L20 hF, pm_L24 hF, pm_R20 hF, pm_R25 hF]; (repeat' apply And.intro) <;> first | assumption | omega | decide)
  · try simp (disch := omega) only [pe_wi w0, pe_wi w1, pm_K20 hF, pm_K24 hF, pm_KM hF, pm_L20 hF, pm_L24 hF, pm_R20 hF, pm_R25 hF]
    exact k
set_option maxRecDepth 8000 in
theorem b149_85 {d : Nat} {Φ : Option pe_V → pe_H → Prop} {σ : pe_H} {M : Nat} (hF : pm_F M σ) {x1 : Int} {x2 : Int} {o3 : Option pe_V} {o4 : Option pe_V} (w0 : pe_in x1 := by unfold pe_in; omega) (h0 : 0 ≤ x1 := by first | assumption | omega) (h1 : x1 < 8 := by first | assumption | omega) (k : pe_X d 149 (0, [some (.inr (.inr M)), some (.inl x1), some (.inl x2), o3, o4], [], pe_wI σ (M + 14) x1 ((pe_I σ (M + 14) x1) - 1)) Φ) : pe_X d 149 (85, [some (.inr (.inr M)), some (.inl x1), some (.inl x2), o3, o4], [], σ) Φ := by
  have hM2 := pm_2 hF
  refine pe_blk 54 9 ck149 [pe_K σ M = 9, pe_K σ (pe_R σ M 14) = 10, 0 ≤ (pe_w x1), (pe_w x1) < pe_L σ (pe_R σ M 14), pe_K σ (pe_R σ M 14) = 10, 0 ≤ (pe_w x1), (pe_w x1) < pe_L σ (pe_R σ M 14), 2 ≤ (pe_R σ M 14)] (0, [some (.inr (.inr M)), some (.inl x1), some (.inl x2), o3, o4], [], pe_wI σ (pe_R σ M 14) (pe_w x1) ((pe_I σ (pe_R σ M 14) (pe_w x1)) - 1)) rfl ?_ ?_
  · first
    | (simp (disch := omega) only [pe_all, pe_wi w0, pm_K14 hF, pm_KM hF, pm_L14 hF, pm_R14 hF]; done)
    | (simp (disch := omega) only [pe_all, pe_wi w0, pm_K14 hF, pm_KM hF, pm_L14 hF, pm_R14 hF]; (repeat' apply And.intro) <;> first | assumption | omega | decide)
  · try simp (disch := omega) only [pe_wi w0, pm_K14 hF, pm_KM hF, pm_L14 hF, pm_R14 hF]
    exact k
set_option maxRecDepth 8000 in
theorem b149_98 {d : Nat} {Φ : Option pe_V → pe_H → Prop} {σ : pe_H} {M : Nat} (hF : pm_F M σ) {x1 : Int} {x2 : Int} {o3 : Option pe_V} {o4 : Option pe_V} (w0 : pe_in x1 := by unfold pe_in; omega) (h0 : 0 ≤ x1 := by first | assumption | omega) (h1 : x1 < 8 := by first | assumption | omega) (k : Φ none (pe_wI (pe_wI σ (M + 7) x1 7) (M + 13) x1 x2)) : pe_X d 149 (98, [some (.inr (.inr M)), some (.inl x1), some (.inl x2), o3, o4], [], σ) Φ := by
  have hM2 := pm_2 hF
  refine pe_blk 63 10 ck149 [pe_K σ M = 9, pe_K σ (pe_R σ M 7) = 10, 0 ≤ (pe_w x1), (pe_w x1) < pe_L σ (pe_R σ M 7), 2 ≤ (pe_R σ M 7), pe_K σ M = 9, pe_K σ (pe_R σ M 13) = 10, 0 ≤ (pe_w x1), (pe_w x1) < pe_L σ (pe_R σ M 13), 2 ≤ (pe_R σ M 13)] (113, [some (.inr (.inr M)), some (.inl x1), some (.inl x2), o3, o4], [], pe_wI (pe_wI σ (pe_R σ M 7) (pe_w x1) 7) (pe_R σ M 13) (pe_w x1) x2) rfl ?_ ?_
  · first
    | (simp (disch := omega) only [pe_all, pe_wi w0, pm_K13 hF, pm_K7 hF, pm_KM hF, pm_L13 hF, pm_L7 hF, pm_R13 hF, pm_R7 hF]; done)
    | (simp (disch := omega) only [pe_all, pe_wi w0, pm_K13 hF, pm_K7 hF, pm_KM hF, pm_L13 hF, pm_L7 hF, pm_R13 hF, pm_R7 hF]; (repeat' apply And.intro) <;> first | assumption | omega | decide)
  · try simp (disch := omega) only [pe_wi w0, pm_K13 hF, pm_K7 hF, pm_KM hF, pm_L13 hF, pm_L7 hF, pm_R13 hF, pm_R7 hF]
    exact pe_fine 73 ck149 rfl rfl rfl trivial k
-- closesIt(I)V
def T150 : List (Nat × Instr × Nat) := [(0, .aload_n 0, 1), (1, .getfield 49, 3), (4, .iload_n 1, 1), (5, .iaload, 1), (6, .ifCond .le 90, 3), (9, .aload_n 0, 1), (10, .iload_n 1, 1), (11, .invokevirtual 158, 3), (14, .istore_n 2, 1), (15, .aload_n 0, 1), (16, .getfield 64, 3), (19, .iload_n 2, 1), (20, .iaload, 1), (21, .iconst 1, 1), (22, .if_icmp .ne 29, 3), (25, .aload_n 0, 1), (26, .getfield 67, 3), (29, .iload_n 2, 1), (30, .aload_n 0, 1), (31, .getfield 67, 3), (34, .iload_n 2, 1), (35, .iaload, 1), (36, .ifCond .ne 7, 3), (39, .iconst 1, 1), (40, .goto 9, 3), (43, .aload_n 0, 1), (44, .getfield 67, 3), (47, .iload_n 2, 1), (48, .iaload, 1), (49, .iastore, 1), (50, .return_, 1), (51, .aload_n 0, 1), (52, .iload_n 2, 1), (53, .invokevirtual 162, 3), (56, .istore_n 3, 1), (57, .iload_n 3, 1), (58, .ifCond .lt 25, 3), (61, .aload_n 0, 1), (62, .getfield 67, 3), (65, .iload_n 2, 1), (66, .iconst 1, 1), (67, .iastore, 1), (68, .aload_n 0, 1), (69, .getfield 64, 3), (72, .iload_n 2, 1), (73, .iconst 1, 1), (74, .iastore, 1), (75, .aload_n 0, 1), (76, .getfield 58, 3), (79, .iload_n 2, 1), (80, .iload_n 3, 1), (81, .iastore, 1), (82, .return_, 1), (83, .aload_n 0, 1), (84, .getfield 49, 3), (87, .iload_n 1, 1), (88, .dup2, 1), (89, .iaload, 1), (90, .iconst 1, 1), (91, .isub, 1), (92, .iastore, 1), (93, .goto (-93), 3), (96, .aload_n 0, 1), (97, .getfield 28, 3), (100, .iload_n 1, 1), (101, .bipush 8, 2), (103, .iastore, 1), (104, .return_, 1)]
theorem ck150 : pe_ctx 150 9 false none 4 T150 := ⟨rfl, rfl, rfl, rfl, by decide +kernel, by decide, by decide⟩
theorem b150_0 {d : Nat} {Φ : Option pe_V → pe_H → Prop} {σ : pe_H} {M : Nat} (hF : pm_F M σ) {x1 : Int} {o2 : Option pe_V} {o3 : Option pe_V} (w0 : pe_in x1 := by unfold pe_in; omega) (w1 : pe_in (pe_I σ (M + 14) x1) := by unfold pe_in; omega) (h0 : 0 ≤ x1 := by first | assumption | omega) (h1 : x1 < 8 := by first | assumption | omega) (k1 : (pe_I σ (M + 14) x1) ≤ 0 → pe_X d 150 (96, [some (.inr (.inr M)), some (.inl x1), o2, o3], [], σ) Φ) (k2 : ¬ ((pe_I σ (M + 14) x1) ≤ 0) → pe_X d 150 (9, [some (.inr (.inr M)), some (.inl x1), o2, o3], [], σ) Φ) : pe_X d 150 (0, [some (.inr (.inr M)), some (.inl x1), o2, o3], [], σ) Φ := by
  refine pe_blk 0 5 ck150 [pe_K σ M = 9, pe_K σ (pe_R σ M 14) = 10, 0 ≤ (pe_w x1), (pe_w x1) < pe_L σ (pe_R σ M 14)] (cond (decide ((pe_w (pe_I σ (pe_R σ M 14) (pe_w x1))) ≤ 0)) 96 9, [some (.inr (.inr M)), some (.inl x1), o2, o3], [], σ) rfl ?_ ?_
  · first
    | (simp (disch := omega) only [pe_all, pe_wi w0, pe_wi w1, pm_K14 hF, pm_KM hF, pm_L14 hF, pm_R14 hF]; done)
    | (simp (disch := omega) only [pe_all, pe_wi w0, pe_wi w1, pm_K14 hF, pm_KM hF, pm_L14 hF, pm_R14 hF]; (repeat' apply And.intro) <;> first | assumption | omega | decide)
  · try simp (disch := omega) only [pe_wi w0, pe_wi w1, pm_K14 hF, pm_KM hF, pm_L14 hF, pm_R14 hF]
    exact pe_two k1 k2
theorem b150_9 {d : Nat} {Φ : Option pe_V → pe_H → Prop} {σ : pe_H} {M : Nat} (hF : pm_F M σ) {x1 : Int} {o2 : Option pe_V} {o3 : Option pe_V}   (k : pe_M d 145 [.inr (.inr M), .inl x1] σ (fun r σ' => pe_X d 150 (14, [some (.inr (.inr M)), some (.inl x1), o2, o3], r.toList ++ [], σ') Φ)) : pe_X d 150 (9, [some (.inr (.inr M)), some (.inl x1), o2, o3], [], σ) Φ := by
  refine pe_blk 5 2 ck150 [] (11, [some (.inr (.inr M)), some (.inl x1), o2, o3], [.inl x1, .inr (.inr M)], σ) rfl ?_ ?_
  · exact trivial
  · try simp (disch := omega) only [pm_KM hF]
    exact pe_cal 7 ck150 rfl rfl rfl ⟨pm_KM hF, by decide⟩ k
theorem b150_14 {d : Nat} {Φ : Option pe_V → pe_H → Prop} {σ : pe_H} {M : Nat} (hF : pm_F M σ) {x1 : Int} {o2 : Option pe_V} {o3 : Option pe_V} {s0 : Int} (w0 : pe_in s0 := by unfold pe_in; omega) (w1 : pe_in (pe_I σ (M + 19) s0) := by unfold pe_in; omega) (h0 : 0 ≤ s0 := by first | assumption | omega) (h1 : s0 < 48 := by first | assumption | omega) (k1 : ¬ (pe_I σ (M + 19) s0) = 1 → pe_X d 150 (51, [some (.inr (.inr M)), some (.inl x1), some (.inl s0), o3], [], σ) Φ) (k2 : (pe_I σ (M + 19) s0) = 1 → pe_X d 150 (25, [some (.inr (.inr M)), some (.inl x1), some (.inl s0), o3], [], σ) Φ) : pe_X d 150 (14, [some (.inr (.inr M)), some (.inl x1), o2, o3], [.inl s0], σ) Φ := by
  refine pe_blk 8 7 ck150 [pe_K σ M = 9, pe_K σ (pe_R σ M 19) = 10, 0 ≤ (pe_w s0), (pe_w s0) < pe_L σ (pe_R σ M 19)] (cond (decide (¬ (pe_w (pe_I σ (pe_R σ M 19) (pe_w s0))) = (pe_w 1))) 51 25, [some (.inr (.inr M)), some (.inl x1), some (.inl s0), o3], [], σ) rfl ?_ ?_
  · first
    | (simp (disch := omega) only [pe_all, pe_wi w0, pe_wi w1, pe_wi (x := 1) ⟨by decide, by decide⟩, pm_K19 hF, pm_KM hF, pm_L19 hF, pm_R19 hF]; done)
    | (simp (disch := omega) only [pe_all, pe_wi w0, pe_wi w1, pe_wi (x := 1) ⟨by decide, by decide⟩, pm_K19 hF, pm_KM hF, pm_L19 hF, pm_R19 hF]; (repeat' apply And.intro) <;> first | assumption | omega | decide)
  · try simp (disch := omega) only [pe_wi w0, pe_wi w1, pe_wi (x := 1) ⟨by decide, by decide⟩, pm_K19 hF, pm_KM hF, pm_L19 hF, pm_R19 hF]
    exact pe_two' k1 k2
theorem b150_25 {d : Nat} {Φ : Option pe_V → pe_H → Prop} {σ : pe_H} {M : Nat} (hF : pm_F M σ) {o1 : Option pe_V} {x2 : Int} {o3 : Option pe_V} (w0 : pe_in x2 := by unfold pe_in; omega) (w1 : pe_in (pe_I σ (M + 20) x2) := by unfold pe_in; omega) (h0 : 0 ≤ x2 := by first | assumption | omega) (h1 : x2 < 48 := by first | assumption | omega) (k1 : ¬ (pe_I σ (M + 20) x2) = 0 → pe_X d 150 (43, [some (.inr (.inr M)), o1, some (.inl x2), o3], [.inl x2, .inr (.inr (M + 20))], σ) Φ) (k2 : (pe_I σ (M + 20) x2) = 0 → pe_X d 150 (39, [some (.inr (.inr M)), o1, some (.inl x2), o3], [.inl x2, .inr (.inr (M + 20))], σ) Φ) : pe_X d 150 (25, [some (.inr (.inr M)), o1, some (.inl x2), o3], [], σ) Φ := by
  refine pe_blk 15 8 ck150 [pe_K σ M = 9, pe_K σ M = 9, pe_K σ (pe_R σ M 20) = 10, 0 ≤ (pe_w x2), (pe_w x2) < pe_L σ (pe_R σ M 20)] (cond (decide (¬ (pe_w (pe_I σ (pe_R σ M 20) (pe_w x2))) = 0)) 43 39, [some (.inr (.inr M)), o1, some (.inl x2), o3], [.inl x2, .inr (.inr (pe_R σ M 20))], σ) rfl ?_ ?_
  · first
    | (simp (disch := omega) only [pe_all, pe_wi w0, pe_wi w1, pm_K20 hF, pm_KM hF, pm_L20 hF, pm_R20 hF]; done)
    | (simp (disch := omega) only [pe_all, pe_wi w0, pe_wi w1, pm_K20 hF, pm_KM hF, pm_L20 hF, pm_R20 hF]; (repeat' apply And.intro) <;> first | assumption | omega | decide)
  · try simp (disch := omega) only [pe_wi w0, pe_wi w1, pm_K20 hF, pm_KM hF, pm_L20 hF, pm_R20 hF]
    exact pe_two' k1 k2
theorem b150_39 {d : Nat} {Φ : Option pe_V → pe_H → Prop} {σ : pe_H} {M : Nat} (hF : pm_F M σ) {o1 : Option pe_V} {o2 : Option pe_V} {o3 : Option pe_V} {b0 : Nat} {s1 : Int}   (k : pe_X d 150 (49, [some (.inr (.inr M)), o1, o2, o3], [.inl 1, .inl s1, .inr (.inr b0)], σ) Φ) : pe_X d 150 (39, [some (.inr (.inr M)), o1, o2, o3], [.inl s1, .inr (.inr b0)], σ) Φ := by
  refine pe_blk 23 2 ck150 [] (49, [some (.inr (.inr M)), o1, o2, o3], [.inl 1, .inl s1, .inr (.inr b0)], σ) rfl ?_ ?_
  · exact trivial
  · exact k
theorem b150_43 {d : Nat} {Φ : Option pe_V → pe_H → Prop} {σ : pe_H} {M : Nat} (hF : pm_F M σ) {o1 : Option pe_V} {x2 : Int} {o3 : Option pe_V} {b0 : Nat} {s1 : Int} (w0 : pe_in x2 := by unfold pe_in; omega) (h0 : 0 ≤ x2 := by first | assumption | omega) (h1 : x2 < 48 := by first | assumption | omega) (k : pe_X d 150 (49, [some (.inr (.inr M)), o1, some (.inl x2), o3], [.inl (pe_I σ (M + 20) x2), .inl s1, .inr (.inr b0)], σ) Φ) : pe_X d 150 (43, [some (.inr (.inr M)), o1, some (.inl x2), o3], [.inl s1, .inr (.inr b0)], σ) Φ := by
  refine pe_blk 25 4 ck150 [pe_K σ M = 9, pe_K σ (pe_R σ M 20) = 10, 0 ≤ (pe_w x2), (pe_w x2) < pe_L σ (pe_R σ M 20)] (49, [some (.inr (.inr M)), o1, some (.inl x2), o3], [.inl (pe_I σ (pe_R σ M 20) (pe_w x2)), .inl s1, .inr (.inr b0)], σ) rfl ?_ ?_
  · first
    | (simp (disch := omega) only [pe_all, pe_wi w0, pm_K20 hF, pm_KM hF, pm_L20 hF, pm_R20 hF]; done)
    | (simp (disch := omega) only [pe_all, pe_wi w0, pm_K20 hF, pm_KM hF, pm_L20 hF, pm_R20 hF]; (repeat' apply And.intro) <;> first | assumption | omega | decide)
  · try simp (disch := omega) only [pe_wi w0, pm_K20 hF, pm_KM hF, pm_L20 hF, pm_R20 hF]
    exact k
theorem b150_49 {d : Nat} {Φ : Option pe_V → pe_H → Prop} {σ : pe_H} {M : Nat} (hF : pm_F M σ) {o1 : Option pe_V} {o2 : Option pe_V} {o3 : Option pe_V} {b0 : Nat} {s1 : Int} {s2 : Int} (w0 : pe_in s1 := by unfold pe_in; omega) (h0 : pe_K σ b0 = 10 := by first | assumption | omega) (h1 : 0 ≤ s1 := by first | assumption | omega) (h2 : s1 < pe_L σ b0 := by first | assumption | omega) (h3 : 2 ≤ b0 := by first | assumption | omega) (k : Φ none (pe_wI σ b0 s1 s2)) : pe_X d 150 (49, [some (.inr (.inr M)), o1, o2, o3], [.inl s2, .inl s1, .inr (.inr b0)], σ) Φ := by
  refine pe_blk 29 1 ck150 [pe_K σ b0 = 10, 0 ≤ (pe_w s1), (pe_w s1) < pe_L σ b0, 2 ≤ b0] (50, [some (.inr (.inr M)), o1, o2, o3], [], pe_wI σ b0 (pe_w s1) s2) rfl ?_ ?_
  · first
    | (simp (disch := omega) only [pe_all, pe_wi w0]; done)
    | (simp (disch := omega) only [pe_all, pe_wi w0]; (repeat' apply And.intro) <;> first | assumption | omega | decide)
  · try simp (disch := omega) only [pe_wi w0]
    exact pe_fine 30 ck150 rfl rfl rfl trivial k
theorem b150_51 {d : Nat} {Φ : Option pe_V → pe_H → Prop} {σ : pe_H} {M : Nat} (hF : pm_F M σ) {x1 : Int} {x2 : Int} {o3 : Option pe_V}   (k : pe_M d 147 [.inr (.inr M), .inl x2] σ (fun r σ' => pe_X d 150 (56, [some (.inr (.inr M)), some (.inl x1), some (.inl x2), o3], r.toList ++ [], σ') Φ)) : pe_X d 150 (51, [some (.inr (.inr M)), some (.inl x1), some (.inl x2), o3], [], σ) Φ := by
  refine pe_blk 31 2 ck150 [] (53, [some (.inr (.inr M)), some (.inl x1), some (.inl x2), o3], [.inl x2, .inr (.inr M)], σ) rfl ?_ ?_
  · exact trivial
  · try simp (disch := omega) only [pm_KM hF]
    exact pe_cal 33 ck150 rfl rfl rfl ⟨pm_KM hF, by decide⟩ k
theorem b150_56 {d : Nat} {Φ : Option pe_V → pe_H → Prop} {σ : pe_H} {M : Nat} (hF : pm_F M σ) {x1 : Int} {x2 : Int} {o3 : Option pe_V} {s0 : Int} (w0 : pe_in s0 := by unfold pe_in; omega)  (k1 : s0 < 0 → pe_X d 150 (83, [some (.inr (.inr M)), some (.inl x1), some (.inl x2), some (.inl s0)], [], σ) Φ) (k2 : ¬ (s0 < 0) → pe_X d 150 (61, [some (.inr (.inr M)), some (.inl x1), some (.inl x2), some (.inl s0)], [], σ) Φ) : pe_X d 150 (56, [some (.inr (.inr M)), some (.inl x1), some (.inl x2), o3], [.inl s0], σ) Φ := by
  refine pe_blk 34 3 ck150 [] (cond (decide ((pe_w s0) < 0)) 83 61, [some (.inr (.inr M)), some (.inl x1), some (.inl x2), some (.inl s0)], [], σ) rfl ?_ ?_
  · exact trivial
  · try simp (disch := omega) only [pe_wi w0]
    exact pe_two k1 k2
set_option maxRecDepth 8000 in
theorem b150_61 {d : Nat} {Φ : Option pe_V → pe_H → Prop} {σ : pe_H} {M : Nat} (hF : pm_F M σ) {o1 : Option pe_V} {x2 : Int} {x3 : Int} (w0 : pe_in x2 := by unfold pe_in; omega) (h0 : 0 ≤ x2 := by first | assumption | omega) (h1 : x2 < 48 := by first | assumption | omega) (k : Φ none (pe_wI (pe_wI (pe_wI σ (M + 20) x2 1) (M + 19) x2 1) (M + 17) x2 x3)) : pe_X d 150 (61, [some (.inr (.inr M)), o1, some (.inl x2), some (.inl x3)], [], σ) Φ := by
  have hM2 := pm_2 hF
  refine pe_blk 37 15 ck150 [pe_K σ M = 9, pe_K σ (pe_R σ M 20) = 10, 0 ≤ (pe_w x2), (pe_w x2) < pe_L σ (pe_R σ M 20), 2 ≤ (pe_R σ M 20), pe_K σ M = 9, pe_K σ (pe_R σ M 19) = 10, 0 ≤ (pe_w x2), (pe_w x2) < pe_L σ (pe_R σ M 19), 2 ≤ (pe_R σ M 19), pe_K σ M = 9, pe_K σ (pe_R σ M 17) = 10, 0 ≤ (pe_w x2), (pe_w x2) < pe_L σ (pe_R σ M 17), 2 ≤ (pe_R σ M 17)] (82, [some (.inr (.inr M)), o1, some (.inl x2), some (.inl x3)], [], pe_wI (pe_wI (pe_wI σ (pe_R σ M 20) (pe_w x2) 1) (pe_R σ M 19) (pe_w x2) 1) (pe_R σ M 17) (pe_w x2) x3) rfl ?_ ?_
  · first
    | (simp (disch := omega) only [pe_all, pe_wi w0, pm_K17 hF, pm_K19 hF, pm_K20 hF, pm_KM hF, pm_L17 hF, pm_L19 hF, pm_L20 hF, pm_R17 hF, pm_R19 hF, pm_R20 hF]; done)
    | (simp (disch := omega) only [pe_all, pe_wi w0, pm_K17 hF, pm_K19 hF, pm_K20 hF, pm_KM hF, pm_L17 hF, pm_L19 hF, pm_L20 hF, pm_R17 hF, pm_R19 hF, pm_R20 hF]; (repeat' apply And.intro) <;> first | assumption | omega | decide)
  · try simp (disch := omega) only [pe_wi w0, pm_K17 hF, pm_K19 hF, pm_K20 hF, pm_KM hF, pm_L17 hF, pm_L19 hF, pm_L20 hF, pm_R17 hF, pm_R19 hF, pm_R20 hF]
    exact pe_fine 52 ck150 rfl rfl rfl trivial k
set_option maxRecDepth 8000 in
theorem b150_83 {d : Nat} {Φ : Option pe_V → pe_H → Prop} {σ : pe_H} {M : Nat} (hF : pm_F M σ) {x1 : Int} {o2 : Option pe_V} {o3 : Option pe_V} (w0 : pe_in x1 := by unfold pe_in; omega) (h0 : 0 ≤ x1 := by first | assumption | omega) (h1 : x1 < 8 := by first | assumption | omega) (k : pe_X d 150 (0, [some (.inr (.inr M)), some (.inl x1), o2, o3], [], pe_wI σ (M + 14) x1 ((pe_I σ (M + 14) x1) - 1)) Φ) : pe_X d 150 (83, [some (.inr (.inr M)), some (.inl x1), o2, o3], [], σ) Φ := by
  have hM2 := pm_2 hF
  refine pe_blk 53 9 ck150 [pe_K σ M = 9, pe_K σ (pe_R σ M 14) = 10, 0 ≤ (pe_w x1), (pe_w x1) < pe_L σ (pe_R σ M 14), pe_K σ (pe_R σ M 14) = 10, 0 ≤ (pe_w x1), (pe_w x1) < pe_L σ (pe_R σ M 14), 2 ≤ (pe_R σ M 14)] (0, [some (.inr (.inr M)), some (.inl x1), o2, o3], [], pe_wI σ (pe_R σ M 14) (pe_w x1) ((pe_I σ (pe_R σ M 14) (pe_w x1)) - 1)) rfl ?_ ?_
  · first
    | (simp (disch := omega) only [pe_all, pe_wi w0, pm_K14 hF, pm_KM hF, pm_L14 hF, pm_R14 hF]; done)
    | (simp (disch := omega) only [pe_all, pe_wi w0, pm_K14 hF, pm_KM hF, pm_L14 hF, pm_R14 hF]; (repeat' apply And.intro) <;> first | assumption | omega | decide)
  · try simp (disch := omega) only [pe_wi w0, pm_K14 hF, pm_KM hF, pm_L14 hF, pm_R14 hF]
    exact k
set_option maxRecDepth 8000 in
theorem b150_96 {d : Nat} {Φ : Option pe_V → pe_H → Prop} {σ : pe_H} {M : Nat} (hF : pm_F M σ) {x1 : Int} {o2 : Option pe_V} {o3 : Option pe_V} (w0 : pe_in x1 := by unfold pe_in; omega) (h0 : 0 ≤ x1 := by first | assumption | omega) (h1 : x1 < 8 := by first | assumption | omega) (k : Φ none (pe_wI σ (M + 7) x1 8)) : pe_X d 150 (96, [some (.inr (.inr M)), some (.inl x1), o2, o3], [], σ) Φ := by
  have hM2 := pm_2 hF
  refine pe_blk 62 5 ck150 [pe_K σ M = 9, pe_K σ (pe_R σ M 7) = 10, 0 ≤ (pe_w x1), (pe_w x1) < pe_L σ (pe_R σ M 7), 2 ≤ (pe_R σ M 7)] (104, [some (.inr (.inr M)), some (.inl x1), o2, o3], [], pe_wI σ (pe_R σ M 7) (pe_w x1) 8) rfl ?_ ?_
  · first
    | (simp (disch := omega) only [pe_all, pe_wi w0, pm_K7 hF, pm_KM hF, pm_L7 hF, pm_R7 hF]; done)
    | (simp (disch := omega) only [pe_all, pe_wi w0, pm_K7 hF, pm_KM hF, pm_L7 hF, pm_R7 hF]; (repeat' apply And.intro) <;> first | assumption | omega | decide)
  · try simp (disch := omega) only [pe_wi w0, pm_K7 hF, pm_KM hF, pm_L7 hF, pm_R7 hF]
    exact pe_fine 67 ck150 rfl rfl rfl trivial k
-- frameEnds(I)V
def T151 : List (Nat × Instr × Nat) := [(0, .aload_n 0, 1), (1, .getfield 67, 3), (4, .aload_n 0, 1), (5, .iload_n 1, 1), (6, .invokevirtual 158, 3), (9, .iaload, 1), (10, .istore_n 2, 1), (11, .aload_n 0, 1), (12, .getfield 49, 3), (15, .iload_n 1, 1), (16, .dup2, 1), (17, .iaload, 1), (18, .iconst 1, 1), (19, .isub, 1), (20, .iastore, 1), (21, .iload_n 2, 1), (22, .iconst 2, 1), (23, .if_icmp .lt 14, 3), (26, .aload_n 0, 1), (27, .iload_n 1, 1), (28, .iload_n 2, 1), (29, .iconst 2, 1), (30, .isub, 1), (31, .invokevirtual 165, 3), (34, .goto 33, 3), (37, .iload_n 2, 1), (38, .iconst 1, 1), (39, .if_icmp .ne 11, 3), (42, .aload_n 0, 1), (43, .iload_n 1, 1), (44, .invokevirtual 169, 3), (47, .goto 20, 3), (50, .aload_n 0, 1), (51, .getfield 49, 3), (54, .iload_n 1, 1), (55, .iaload, 1), (56, .ifCond .ne 11, 3), (59, .aload_n 0, 1), (60, .getfield 28, 3), (63, .iload_n 1, 1), (64, .bipush 6, 2), (66, .iastore, 1), (67, .return_, 1)]
theorem ck151 : pe_ctx 151 9 false none 3 T151 := ⟨rfl, rfl, rfl, rfl, by decide +kernel, by decide, by decide⟩
theorem b151_0 {d : Nat} {Φ : Option pe_V → pe_H → Prop} {σ : pe_H} {M : Nat} (hF : pm_F M σ) {x1 : Int} {o2 : Option pe_V}   (k : pe_M d 145 [.inr (.inr M), .inl x1] σ (fun r σ' => pe_X d 151 (9, [some (.inr (.inr M)), some (.inl x1), o2], r.toList ++ [.inr (.inr (M + 20))], σ') Φ)) : pe_X d 151 (0, [some (.inr (.inr M)), some (.inl x1), o2], [], σ) Φ := by
  refine pe_blk 0 4 ck151 [pe_K σ M = 9] (6, [some (.inr (.inr M)), some (.inl x1), o2], [.inl x1, .inr (.inr M), .inr (.inr (pe_R σ M 20))], σ) rfl ?_ ?_
  · first
    | (simp (disch := omega) only [pe_all, pm_KM hF, pm_R20 hF]; done)
    | (simp (disch := omega) only [pe_all, pm_KM hF, pm_R20 hF]; (repeat' apply And.intro) <;> first | assumption | omega | decide)
  · try simp (disch := omega) only [pm_KM hF, pm_R20 hF]
    exact pe_cal 4 ck151 rfl rfl rfl ⟨pm_KM hF, by decide⟩ k
theorem b151_9 {d : Nat} {Φ : Option pe_V → pe_H → Prop} {σ : pe_H} {M : Nat} (hF : pm_F M σ) {x1 : Int} {o2 : Option pe_V} {b0 : Nat} {s1 : Int} (w0 : pe_in s1 := by unfold pe_in; omega) (w1 : pe_in x1 := by unfold pe_in; omega) (w2 : pe_in (pe_I σ b0 s1) := by unfold pe_in; omega) (h0 : pe_K σ b0 = 10 := by first | assumption | omega) (h1 : 0 ≤ s1 := by first | assumption | omega) (h2 : s1 < pe_L σ b0 := by first | assumption | omega) (h3 : 0 ≤ x1 := by first | assumption | omega) (h4 : x1 < 8 := by first | assumption | omega) (k1 : (pe_I σ b0 s1) < 2 → pe_X d 151 (37, [some (.inr (.inr M)), some (.inl x1), some (.inl (pe_I σ b0 s1))], [], pe_wI σ (M + 14) x1 ((pe_I σ (M + 14) x1) - 1)) Φ) (k2 : ¬ ((pe_I σ b0 s1) < 2) → pe_X d 151 (26, [some (.inr (.inr M)), some (.inl x1), some (.inl (pe_I σ b0 s1))], [], pe_wI σ (M + 14) x1 ((pe_I σ (M + 14) x1) - 1)) Φ) : pe_X d 151 (9, [some (.inr (.inr M)), some (.inl x1), o2], [.inl s1, .inr (.inr b0)], σ) Φ := by
  have hM2 := pm_2 hF
  refine pe_blk 5 13 ck151 [pe_K σ b0 = 10, 0 ≤ (pe_w s1), (pe_w s1) < pe_L σ b0, pe_K σ M = 9, pe_K σ (pe_R σ M 14) = 10, 0 ≤ (pe_w x1), (pe_w x1) < pe_L σ (pe_R σ M 14), pe_K σ (pe_R σ M 14) = 10, 0 ≤ (pe_w x1), (pe_w x1) < pe_L σ (pe_R σ M 14), 2 ≤ (pe_R σ M 14)] (cond (decide ((pe_w (pe_I σ b0 (pe_w s1))) < (pe_w 2))) 37 26, [some (.inr (.inr M)), some (.inl x1), some (.inl (pe_I σ b0 (pe_w s1)))], [], pe_wI σ (pe_R σ M 14) (pe_w x1) ((pe_I σ (pe_R σ M 14) (pe_w x1)) - 1)) rfl ?_ ?_
  · first
    | (simp (disch := omega) only [pe_all, pe_wi w0, pe_wi w1, pe_wi w2, pe_wi (x := 2) ⟨by decide, by decide⟩, pm_K14 hF, pm_KM hF, pm_L14 hF, pm_R14 hF]; done)
    | (simp (disch := omega) only [pe_all, pe_wi w0, pe_wi w1, pe_wi w2, pe_wi (x := 2) ⟨by decide, by decide⟩, pm_K14 hF, pm_KM hF, pm_L14 hF, pm_R14 hF]; (repeat' apply And.intro) <;> first | assumption | omega | decide)
  · try simp (disch := omega) only [pe_wi w0, pe_wi w1, pe_wi w2, pe_wi (x := 2) ⟨by decide, by decide⟩, pm_K14 hF, pm_KM hF, pm_L14 hF, pm_R14 hF]
    exact pe_two k1 k2
theorem b151_26 {d : Nat} {Φ : Option pe_V → pe_H → Prop} {σ : pe_H} {M : Nat} (hF : pm_F M σ) {x1 : Int} {x2 : Int}   (k : pe_M d 149 [.inr (.inr M), .inl x1, .inl (x2 - 2)] σ (fun r σ' => pe_X d 151 (34, [some (.inr (.inr M)), some (.inl x1), some (.inl x2)], r.toList ++ [], σ') Φ)) : pe_X d 151 (26, [some (.inr (.inr M)), some (.inl x1), some (.inl x2)], [], σ) Φ := by
  refine pe_blk 18 5 ck151 [] (31, [some (.inr (.inr M)), some (.inl x1), some (.inl x2)], [.inl (x2 - 2), .inl x1, .inr (.inr M)], σ) rfl ?_ ?_
  · exact trivial
  · try simp (disch := omega) only [pm_KM hF]
    exact pe_cal 23 ck151 rfl rfl rfl ⟨pm_KM hF, by decide⟩ k
theorem b151_34 {d : Nat} {Φ : Option pe_V → pe_H → Prop} {σ : pe_H} {M : Nat} (hF : pm_F M σ) {o1 : Option pe_V} {o2 : Option pe_V}   (k : pe_X d 151 (67, [some (.inr (.inr M)), o1, o2], [], σ) Φ) : pe_X d 151 (34, [some (.inr (.inr M)), o1, o2], [], σ) Φ := by
  refine pe_blk 24 1 ck151 [] (67, [some (.inr (.inr M)), o1, o2], [], σ) rfl ?_ ?_
  · exact trivial
  · exact k
theorem b151_37 {d : Nat} {Φ : Option pe_V → pe_H → Prop} {σ : pe_H} {M : Nat} (hF : pm_F M σ) {x1 : Int} {x2 : Int} (w0 : pe_in x2 := by unfold pe_in; omega)  (k1 : ¬ x2 = 1 → pe_X d 151 (50, [some (.inr (.inr M)), some (.inl x1), some (.inl x2)], [], σ) Φ) (k2 : x2 = 1 → pe_X d 151 (42, [some (.inr (.inr M)), some (.inl x1), some (.inl x2)], [], σ) Φ) : pe_X d 151 (37, [some (.inr (.inr M)), some (.inl x1), some (.inl x2)], [], σ) Φ := by
  refine pe_blk 25 3 ck151 [] (cond (decide (¬ (pe_w x2) = (pe_w 1))) 50 42, [some (.inr (.inr M)), some (.inl x1), some (.inl x2)], [], σ) rfl ?_ ?_
  · exact trivial
  · try simp (disch := omega) only [pe_wi w0, pe_wi (x := 1) ⟨by decide, by decide⟩]
    exact pe_two' k1 k2
theorem b151_42 {d : Nat} {Φ : Option pe_V → pe_H → Prop} {σ : pe_H} {M : Nat} (hF : pm_F M σ) {x1 : Int} {o2 : Option pe_V}   (k : pe_M d 150 [.inr (.inr M), .inl x1] σ (fun r σ' => pe_X d 151 (47, [some (.inr (.inr M)), some (.inl x1), o2], r.toList ++ [], σ') Φ)) : pe_X d 151 (42, [some (.inr (.inr M)), some (.inl x1), o2], [], σ) Φ := by
  refine pe_blk 28 2 ck151 [] (44, [some (.inr (.inr M)), some (.inl x1), o2], [.inl x1, .inr (.inr M)], σ) rfl ?_ ?_
  · exact trivial
  · try simp (disch := omega) only [pm_KM hF]
    exact pe_cal 30 ck151 rfl rfl rfl ⟨pm_KM hF, by decide⟩ k
theorem b151_47 {d : Nat} {Φ : Option pe_V → pe_H → Prop} {σ : pe_H} {M : Nat} (hF : pm_F M σ) {o1 : Option pe_V} {o2 : Option pe_V}   (k : pe_X d 151 (67, [some (.inr (.inr M)), o1, o2], [], σ) Φ) : pe_X d 151 (47, [some (.inr (.inr M)), o1, o2], [], σ) Φ := by
  refine pe_blk 31 1 ck151 [] (67, [some (.inr (.inr M)), o1, o2], [], σ) rfl ?_ ?_
  · exact trivial
  · exact k
theorem b151_50 {d : Nat} {Φ : Option pe_V → pe_H → Prop} {σ : pe_H} {M : Nat} (hF : pm_F M σ) {x1 : Int} {o2 : Option pe_V} (w0 : pe_in x1 := by unfold pe_in; omega) (w1 : pe_in (pe_I σ (M + 14) x1) := by unfold pe_in; omega) (h0 : 0 ≤ x1 := by first | assumption | omega) (h1 : x1 < 8 := by first | assumption | omega) (k1 : ¬ (pe_I σ (M + 14) x1) = 0 → pe_X d 151 (67, [some (.inr (.inr M)), some (.inl x1), o2], [], σ) Φ) (k2 : (pe_I σ (M + 14) x1) = 0 → pe_X d 151 (59, [some (.inr (.inr M)), some (.inl x1), o2], [], σ) Φ) : pe_X d 151 (50, [some (.inr (.inr M)), some (.inl x1), o2], [], σ) Φ := by
  refine pe_blk 32 5 ck151 [pe_K σ M = 9, pe_K σ (pe_R σ M 14) = 10, 0 ≤ (pe_w x1), (pe_w x1) < pe_L σ (pe_R σ M 14)] (cond (decide (¬ (pe_w (pe_I σ (pe_R σ M 14) (pe_w x1))) = 0)) 67 59, [some (.inr (.inr M)), some (.inl x1), o2], [], σ) rfl ?_ ?_
  · first
    | (simp (disch := omega) only [pe_all, pe_wi w0, pe_wi w1, pm_K14 hF, pm_KM hF, pm_L14 hF, pm_R14 hF]; done)
    | (simp (disch := omega) only [pe_all, pe_wi w0, pe_wi w1, pm_K14 hF, pm_KM hF, pm_L14 hF, pm_R14 hF]; (repeat' apply And.intro) <;> first | assumption | omega | decide)
  · try simp (disch := omega) only [pe_wi w0, pe_wi w1, pm_K14 hF, pm_KM hF, pm_L14 hF, pm_R14 hF]
    exact pe_two' k1 k2
theorem b151_59 {d : Nat} {Φ : Option pe_V → pe_H → Prop} {σ : pe_H} {M : Nat} (hF : pm_F M σ) {x1 : Int} {o2 : Option pe_V} (w0 : pe_in x1 := by unfold pe_in; omega) (h0 : 0 ≤ x1 := by first | assumption | omega) (h1 : x1 < 8 := by first | assumption | omega) (k : pe_X d 151 (67, [some (.inr (.inr M)), some (.inl x1), o2], [], pe_wI σ (M + 7) x1 6) Φ) : pe_X d 151 (59, [some (.inr (.inr M)), some (.inl x1), o2], [], σ) Φ := by
  have hM2 := pm_2 hF
  refine pe_blk 37 5 ck151 [pe_K σ M = 9, pe_K σ (pe_R σ M 7) = 10, 0 ≤ (pe_w x1), (pe_w x1) < pe_L σ (pe_R σ M 7), 2 ≤ (pe_R σ M 7)] (67, [some (.inr (.inr M)), some (.inl x1), o2], [], pe_wI σ (pe_R σ M 7) (pe_w x1) 6) rfl ?_ ?_
  · first
    | (simp (disch := omega) only [pe_all, pe_wi w0, pm_K7 hF, pm_KM hF, pm_L7 hF, pm_R7 hF]; done)
    | (simp (disch := omega) only [pe_all, pe_wi w0, pm_K7 hF, pm_KM hF, pm_L7 hF, pm_R7 hF]; (repeat' apply And.intro) <;> first | assumption | omega | decide)
  · try simp (disch := omega) only [pe_wi w0, pm_K7 hF, pm_KM hF, pm_L7 hF, pm_R7 hF]
    exact k
theorem b151_67 {d : Nat} {Φ : Option pe_V → pe_H → Prop} {σ : pe_H} {M : Nat} (hF : pm_F M σ) {o1 : Option pe_V} {o2 : Option pe_V}   (k : Φ none σ) : pe_X d 151 (67, [some (.inr (.inr M)), o1, o2], [], σ) Φ := by
  exact pe_fine 42 ck151 rfl rfl rfl trivial k
-- lineUp(III)V
def T152 : List (Nat × Instr × Nat) := [(0, .aload_n 0, 1), (1, .getfield 85, 3), (4, .bipush 8, 2), (6, .iload_n 1, 1), (7, .imul, 1), (8, .aload_n 0, 1), (9, .getfield 82, 3), (12, .iload_n 1, 1), (13, .iaload, 1), (14, .iadd, 1), (15, .iload_n 2, 1), (16, .iastore, 1), (17, .aload_n 0, 1), (18, .getfield 82, 3), (21, .iload_n 1, 1), (22, .dup2, 1), (23, .iaload, 1), (24, .iconst 1, 1), (25, .iadd, 1), (26, .iastore, 1), (27, .aload_n 0, 1), (28, .getfield 28, 3), (31, .iload_n 2, 1), (32, .iload_n 3, 1), (33, .iastore, 1), (34, .aload_n 0, 1), (35, .getfield 43, 3), (38, .iload_n 2, 1), (39, .iload_n 1, 1), (40, .iconst 3, 1), (41, .irem, 1), (42, .iastore, 1), (43, .return_, 1)]
theorem ck152 : pe_ctx 152 9 false none 4 T152 := ⟨rfl, rfl, rfl, rfl, by decide +kernel, by decide, by decide⟩
theorem b152_0 {d : Nat} {Φ : Option pe_V → pe_H → Prop} {σ : pe_H} {M : Nat} (hF : pm_F M σ) {x1 : Int} {x2 : Int} {x3 : Int} (w0 : pe_in x1 := by unfold pe_in; omega) (w1 : pe_in ((8 * x1) + (pe_I σ (M + 25) x1)) := by unfold pe_in; omega) (w2 : pe_in x2 := by unfold pe_in; omega) (h0 : 0 ≤ x1 := by first | assumption | omega) (h1 : x1 < 6 := by first | assumption | omega) (h2 : 0 ≤ ((8 * x1) + (pe_I σ (M + 25) x1)) := by first | assumption | omega) (h3 : ((8 * x1) + (pe_I σ (M + 25) x1)) < 48 := by first | assumption | omega) (h4 : 0 ≤ x2 := by first | assumption | omega) (h5 : x2 < 8 := by first | assumption | omega) (k : pe_X d 152 (34, [some (.inr (.inr M)), some (.inl x1), some (.inl x2), some (.inl x3)], [], pe_wI (pe_wI (pe_wI σ (M + 26) ((8 * x1) + (pe_I σ (M + 25) x1)) x2) (M + 25) x1 ((pe_I σ (M + 25) x1) + 1)) (M + 7) x2 x3) Φ) : pe_X d 152 (0, [some (.inr (.inr M)), some (.inl x1), some (.inl x2), some (.inl x3)], [], σ) Φ := by
  have hM2 := pm_2 hF
  refine pe_blk 0 25 ck152 [pe_K σ M = 9, pe_K σ M = 9, pe_K σ (pe_R σ M 26) = 10, 0 ≤ (pe_w x1), (pe_w x1) < pe_L σ (pe_R σ M 26), pe_K σ (pe_R σ M 27) = 10, 0 ≤ (pe_w ((8 * x1) + (pe_I σ (pe_R σ M 26) (pe_w x1)))), (pe_w ((8 * x1) + (pe_I σ (pe_R σ M 26) (pe_w x1)))) < pe_L σ (pe_R σ M 27), 2 ≤ (pe_R σ M 27), pe_K σ M = 9, pe_K σ (pe_R σ M 26) = 10, 0 ≤ (pe_w x1), (pe_w x1) < pe_L σ (pe_R σ M 26), pe_K σ (pe_R σ M 26) = 10, 0 ≤ (pe_w x1), (pe_w x1) < pe_L σ (pe_R σ M 26), 2 ≤ (pe_R σ M 26), pe_K σ M = 9, pe_K σ (pe_R σ M 7) = 10, 0 ≤ (pe_w x2), (pe_w x2) < pe_L σ (pe_R σ M 7), 2 ≤ (pe_R σ M 7)] (34, [some (.inr (.inr M)), some (.inl x1), some (.inl x2), some (.inl x3)], [], pe_wI (pe_wI (pe_wI σ (pe_R σ M 27) (pe_w ((8 * x1) + (pe_I σ (pe_R σ M 26) (pe_w x1)))) x2) (pe_R σ M 26) (pe_w x1) ((pe_I (pe_wI σ (pe_R σ M 27) (pe_w ((8 * x1) + (pe_I σ (pe_R σ M 26) (pe_w x1)))) x2) (pe_R σ M 26) (pe_w x1)) + 1)) (pe_R σ M 7) (pe_w x2) x3) rfl ?_ ?_
  · first
    | (simp (disch := omega) only [pe_all, pe_wi w0, pe_wi w1, pe_wi w2, pe_I_nej, pe_I_ner, pm_K25 hF, pm_K26 hF, pm_K7 hF, pm_KM hF, pm_L25 hF, pm_L26 hF, pm_L7 hF, pm_R26 hF, pm_R27 hF, pm_R7 hF]; done)
    | (simp (disch := omega) only [pe_all, pe_wi w0, pe_wi w1, pe_wi w2, pe_I_nej, pe_I_ner, pm_K25 hF, pm_K26 hF, pm_K7 hF, pm_KM hF, pm_L25 hF, pm_L26 hF, pm_L7 hF, pm_R26 hF, pm_R27 hF, pm_R7 hF]; (repeat' apply And.intro) <;> first | assumption | omega | decide)
  · try simp (disch := omega) only [pe_wi w0, pe_wi w1, pe_wi w2, pe_I_nej, pe_I_ner, pm_K25 hF, pm_K26 hF, pm_K7 hF, pm_KM hF, pm_L25 hF, pm_L26 hF, pm_L7 hF, pm_R26 hF, pm_R27 hF, pm_R7 hF]
    exact k
theorem b152_34 {d : Nat} {Φ : Option pe_V → pe_H → Prop} {σ : pe_H} {M : Nat} (hF : pm_F M σ) {x1 : Int} {x2 : Int} {o3 : Option pe_V} (w0 : pe_in x1 := by unfold pe_in; omega) (w1 : pe_in x2 := by unfold pe_in; omega) (h0 : ¬ 3 = 0 := by first | assumption | omega) (h1 : 0 ≤ x2 := by first | assumption | omega) (h2 : x2 < 8 := by first | assumption | omega) (k : Φ none (pe_wI σ (M + 12) x2 (Int.tmod x1 3))) : pe_X d 152 (34, [some (.inr (.inr M)), some (.inl x1), some (.inl x2), o3], [], σ) Φ := by
  have hM2 := pm_2 hF
  refine pe_blk 25 7 ck152 [pe_K σ M = 9, ¬ (pe_w 3) = 0, pe_K σ (pe_R σ M 12) = 10, 0 ≤ (pe_w x2), (pe_w x2) < pe_L σ (pe_R σ M 12), 2 ≤ (pe_R σ M 12)] (43, [some (.inr (.inr M)), some (.inl x1), some (.inl x2), o3], [], pe_wI σ (pe_R σ M 12) (pe_w x2) (Int.tmod (pe_w x1) (pe_w 3))) rfl ?_ ?_
  · first
    | (simp (disch := omega) only [pe_all, pe_wi w0, pe_wi w1, pe_wi (x := 3) ⟨by decide, by decide⟩, pm_K12 hF, pm_KM hF, pm_L12 hF, pm_R12 hF]; done)
    | (simp (disch := omega) only [pe_all, pe_wi w0, pe_wi w1, pe_wi (x := 3) ⟨by decide, by decide⟩, pm_K12 hF, pm_KM hF, pm_L12 hF, pm_R12 hF]; (repeat' apply And.intro) <;> first | assumption | omega | decide)
  · try simp (disch := omega) only [pe_wi w0, pe_wi w1, pe_wi (x := 3) ⟨by decide, by decide⟩, pm_K12 hF, pm_KM hF, pm_L12 hF, pm_R12 hF]
    exact pe_fine 32 ck152 rfl rfl rfl trivial k
-- firstOf(I)I
def T153 : List (Nat × Instr × Nat) := [(0, .aload_n 0, 1), (1, .getfield 85, 3), (4, .bipush 8, 2), (6, .iload_n 1, 1), (7, .imul, 1), (8, .iaload, 1), (9, .istore_n 2, 1), (10, .aload_n 0, 1), (11, .iload_n 1, 1), (12, .iload_n 2, 1), (13, .invokevirtual 173, 3), (16, .aload_n 0, 1), (17, .getfield 28, 3), (20, .iload_n 2, 1), (21, .iconst 1, 1), (22, .iastore, 1), (23, .iload_n 2, 1), (24, .ireturn, 1)]
theorem ck153 : pe_ctx 153 9 false (some .int) 3 T153 := ⟨rfl, rfl, rfl, rfl, by decide +kernel, by decide, by decide⟩
theorem b153_0 {d : Nat} {Φ : Option pe_V → pe_H → Prop} {σ : pe_H} {M : Nat} (hF : pm_F M σ) {x1 : Int} {o2 : Option pe_V} (w0 : pe_in (8 * x1) := by unfold pe_in; omega) (h0 : 0 ≤ (8 * x1) := by first | assumption | omega) (h1 : (8 * x1) < 48 := by first | assumption | omega) (k : pe_M d 154 [.inr (.inr M), .inl x1, .inl (pe_I σ (M + 26) (8 * x1))] σ (fun r σ' => pe_X d 153 (16, [some (.inr (.inr M)), some (.inl x1), some (.inl (pe_I σ (M + 26) (8 * x1)))], r.toList ++ [], σ') Φ)) : pe_X d 153 (0, [some (.inr (.inr M)), some (.inl x1), o2], [], σ) Φ := by
  refine pe_blk 0 10 ck153 [pe_K σ M = 9, pe_K σ (pe_R σ M 27) = 10, 0 ≤ (pe_w (8 * x1)), (pe_w (8 * x1)) < pe_L σ (pe_R σ M 27)] (13, [some (.inr (.inr M)), some (.inl x1), some (.inl (pe_I σ (pe_R σ M 27) (pe_w (8 * x1))))], [.inl (pe_I σ (pe_R σ M 27) (pe_w (8 * x1))), .inl x1, .inr (.inr M)], σ) rfl ?_ ?_
  · first
    | (simp (disch := omega) only [pe_all, pe_wi w0, pm_K26 hF, pm_KM hF, pm_L26 hF, pm_R27 hF]; done)
    | (simp (disch := omega) only [pe_all, pe_wi w0, pm_K26 hF, pm_KM hF, pm_L26 hF, pm_R27 hF]; (repeat' apply And.intro) <;> first | assumption | omega | decide)
  · try simp (disch := omega) only [pe_wi w0, pm_K26 hF, pm_KM hF, pm_L26 hF, pm_R27 hF]
    exact pe_cal 10 ck153 rfl rfl rfl ⟨pm_KM hF, by decide⟩ k
theorem b153_16 {d : Nat} {Φ : Option pe_V → pe_H → Prop} {σ : pe_H} {M : Nat} (hF : pm_F M σ) {o1 : Option pe_V} {x2 : Int} (w0 : pe_in x2 := by unfold pe_in; omega) (h0 : 0 ≤ x2 := by first | assumption | omega) (h1 : x2 < 8 := by first | assumption | omega) (k : Φ (some (.inl x2)) (pe_wI σ (M + 7) x2 1)) : pe_X d 153 (16, [some (.inr (.inr M)), o1, some (.inl x2)], [], σ) Φ := by
  have hM2 := pm_2 hF
  refine pe_blk 11 6 ck153 [pe_K σ M = 9, pe_K σ (pe_R σ M 7) = 10, 0 ≤ (pe_w x2), (pe_w x2) < pe_L σ (pe_R σ M 7), 2 ≤ (pe_R σ M 7)] (24, [some (.inr (.inr M)), o1, some (.inl x2)], [.inl x2], pe_wI σ (pe_R σ M 7) (pe_w x2) 1) rfl ?_ ?_
  · first
    | (simp (disch := omega) only [pe_all, pe_wi w0, pm_K7 hF, pm_KM hF, pm_L7 hF, pm_R7 hF]; done)
    | (simp (disch := omega) only [pe_all, pe_wi w0, pm_K7 hF, pm_KM hF, pm_L7 hF, pm_R7 hF]; (repeat' apply And.intro) <;> first | assumption | omega | decide)
  · try simp (disch := omega) only [pe_wi w0, pm_K7 hF, pm_KM hF, pm_L7 hF, pm_R7 hF]
    exact pe_fine 17 ck153 rfl rfl rfl trivial k
-- leaves(II)V
def T154 : List (Nat × Instr × Nat) := [(0, .iconst 0, 1), (1, .istore_n 3, 1), (2, .iconst 0, 1), (3, .istore 4, 2), (5, .iload 4, 2), (7, .aload_n 0, 1), (8, .getfield 82, 3), (11, .iload_n 1, 1), (12, .iaload, 1), (13, .if_icmp .ge 56, 3), (16, .aload_n 0, 1), (17, .getfield 85, 3), (20, .bipush 8, 2), (22, .iload_n 1, 1), (23, .imul, 1), (24, .iload_n 3, 1), (25, .iadd, 1), (26, .aload_n 0, 1), (27, .getfield 85, 3), (30, .bipush 8, 2), (32, .iload_n 1, 1), (33, .imul, 1), (34, .iload 4, 2), (36, .iadd, 1), (37, .iaload, 1), (38, .iastore, 1), (39, .iload_n 3, 1), (40, .aload_n 0, 1), (41, .getfield 85, 3), (44, .bipush 8, 2), (46, .iload_n 1, 1), (47, .imul, 1), (48, .iload 4, 2), (50, .iadd, 1), (51, .iaload, 1), (52, .iload_n 2, 1), (53, .if_icmp .ne 7, 3), (56, .iconst 0, 1), (57, .goto 4, 3), (60, .iconst 1, 1), (61, .iadd, 1), (62, .istore_n 3, 1), (63, .iinc 4 1, 3), (66, .goto (-61), 3), (69, .aload_n 0, 1), (70, .getfield 82, 3), (73, .iload_n 1, 1), (74, .iload_n 3, 1), (75, .iastore, 1), (76, .return_, 1)]
theorem ck154 : pe_ctx 154 9 false none 5 T154 := ⟨rfl, rfl, rfl, rfl, by decide +kernel, by decide, by decide⟩
theorem b154_0 {d : Nat} {Φ : Option pe_V → pe_H → Prop} {σ : pe_H} {M : Nat} (hF : pm_F M σ) {x1 : Int} {x2 : Int} {o3 : Option pe_V} {o4 : Option pe_V}   (k : pe_X d 154 (5, [some (.inr (.inr M)), some (.inl x1), some (.inl x2), some (.inl 0), some (.inl 0)], [], σ) Φ) : pe_X d 154 (0, [some (.inr (.inr M)), some (.inl x1), some (.inl x2), o3, o4], [], σ) Φ := by
  refine pe_blk 0 4 ck154 [] (5, [some (.inr (.inr M)), some (.inl x1), some (.inl x2), some (.inl 0), some (.inl 0)], [], σ) rfl ?_ ?_
  · exact trivial
  · exact k
theorem b154_5 {d : Nat} {Φ : Option pe_V → pe_H → Prop} {σ : pe_H} {M : Nat} (hF : pm_F M σ) {x1 : Int} {x2 : Int} {x3 : Int} {x4 : Int} (w0 : pe_in x1 := by unfold pe_in; omega) (w1 : pe_in x4 := by unfold pe_in; omega) (w2 : pe_in (pe_I σ (M + 25) x1) := by unfold pe_in; omega) (h0 : 0 ≤ x1 := by first | assumption | omega) (h1 : x1 < 6 := by first | assumption | omega) (k1 : (pe_I σ (M + 25) x1) ≤ x4 → pe_X d 154 (69, [some (.inr (.inr M)), some (.inl x1), some (.inl x2), some (.inl x3), some (.inl x4)], [], σ) Φ) (k2 : ¬ ((pe_I σ (M + 25) x1) ≤ x4) → pe_X d 154 (16, [some (.inr (.inr M)), some (.inl x1), some (.inl x2), some (.inl x3), some (.inl x4)], [], σ) Φ) : pe_X d 154 (5, [some (.inr (.inr M)), some (.inl x1), some (.inl x2), some (.inl x3), some (.inl x4)], [], σ) Φ := by
  refine pe_blk 4 6 ck154 [pe_K σ M = 9, pe_K σ (pe_R σ M 26) = 10, 0 ≤ (pe_w x1), (pe_w x1) < pe_L σ (pe_R σ M 26)] (cond (decide ((pe_w (pe_I σ (pe_R σ M 26) (pe_w x1))) ≤ (pe_w x4))) 69 16, [some (.inr (.inr M)), some (.inl x1), some (.inl x2), some (.inl x3), some (.inl x4)], [], σ) rfl ?_ ?_
  · first
    | (simp (disch := omega) only [pe_all, pe_wi w0, pe_wi w1, pe_wi w2, pm_K25 hF, pm_KM hF, pm_L25 hF, pm_R26 hF]; done)
    | (simp (disch := omega) only [pe_all, pe_wi w0, pe_wi w1, pe_wi w2, pm_K25 hF, pm_KM hF, pm_L25 hF, pm_R26 hF]; (repeat' apply And.intro) <;> first | assumption | omega | decide)
  · try simp (disch := omega) only [pe_wi w0, pe_wi w1, pe_wi w2, pm_K25 hF, pm_KM hF, pm_L25 hF, pm_R26 hF]
    exact pe_two k1 k2
set_option maxHeartbeats 8000000 in
theorem b154_16 {d : Nat} {Φ : Option pe_V → pe_H → Prop} {σ : pe_H} {M : Nat} (hF : pm_F M σ) {x1 : Int} {x2 : Int} {x3 : Int} {x4 : Int} (w0 : pe_in ((8 * x1) + x4) := by unfold pe_in; omega) (w1 : pe_in ((8 * x1) + x3) := by unfold pe_in; omega) (w2 : pe_in (pe_I (pe_wI σ (M + 26) ((8 * x1) + x3) (pe_I σ (M + 26) ((8 * x1) + x4))) (M + 26) ((8 * x1) + x4)) := by unfold pe_in; omega) (w3 : pe_in x2 := by unfold pe_in; omega) (h0 : 0 ≤ ((8 * x1) + x4) := by first | assumption | omega) (h1 : ((8 * x1) + x4) < 48 := by first | assumption | omega) (h2 : 0 ≤ ((8 * x1) + x3) := by first | assumption | omega) (h3 : ((8 * x1) + x3) < 48 := by first | assumption | omega) (k1 : ¬ (pe_I (pe_wI σ (M + 26) ((8 * x1) + x3) (pe_I σ (M + 26) ((8 * x1) + x4))) (M + 26) ((8 * x1) + x4)) = x2 → pe_X d 154 (60, [some (.inr (.inr M)), some (.inl x1), some (.inl x2), some (.inl x3), some (.inl x4)], [.inl x3], pe_wI σ (M + 26) ((8 * x1) + x3) (pe_I σ (M + 26) ((8 * x1) + x4))) Φ) (k2 : (pe_I (pe_wI σ (M + 26) ((8 * x1) + x3) (pe_I σ (M + 26) ((8 * x1) + x4))) (M + 26) ((8 * x1) + x4)) = x2 → pe_X d 154 (56, [some (.inr (.inr M)), some (.inl x1), some (.inl x2), some (.inl x3), some (.inl x4)], [.inl x3], pe_wI σ (M + 26) ((8 * x1) + x3) (pe_I σ (M + 26) ((8 * x1) + x4))) Φ) : pe_X d 154 (16, [some (.inr (.inr M)), some (.inl x1), some (.inl x2), some (.inl x3), some (.inl x4)], [], σ) Φ := by
  have hM2 := pm_2 hF
  refine pe_blk 10 27 ck154 [pe_K σ M = 9, pe_K σ M = 9, pe_K σ (pe_R σ M 27) = 10, 0 ≤ (pe_w ((8 * x1) + x4)), (pe_w ((8 * x1) + x4)) < pe_L σ (pe_R σ M 27), pe_K σ (pe_R σ M 27) = 10, 0 ≤ (pe_w ((8 * x1) + x3)), (pe_w ((8 * x1) + x3)) < pe_L σ (pe_R σ M 27), 2 ≤ (pe_R σ M 27), pe_K σ M = 9, pe_K σ (pe_R σ M 27) = 10, 0 ≤ (pe_w ((8 * x1) + x4)), (pe_w ((8 * x1) + x4)) < pe_L σ (pe_R σ M 27)] (cond (decide (¬ (pe_w (pe_I (pe_wI σ (pe_R σ M 27) (pe_w ((8 * x1) + x3)) (pe_I σ (pe_R σ M 27) (pe_w ((8 * x1) + x4)))) (pe_R σ M 27) (pe_w ((8 * x1) + x4)))) = (pe_w x2))) 60 56, [some (.inr (.inr M)), some (.inl x1), some (.inl x2), some (.inl x3), some (.inl x4)], [.inl x3], pe_wI σ (pe_R σ M 27) (pe_w ((8 * x1) + x3)) (pe_I σ (pe_R σ M 27) (pe_w ((8 * x1) + x4)))) rfl ?_ ?_
  · first
    | (simp (disch := omega) only [pe_all, pe_wi w0, pe_wi w1, pe_wi w2, pe_wi w3, pm_K26 hF, pm_KM hF, pm_L26 hF, pm_R27 hF]; done)
    | (simp (disch := omega) only [pe_all, pe_wi w0, pe_wi w1, pe_wi w2, pe_wi w3, pm_K26 hF, pm_KM hF, pm_L26 hF, pm_R27 hF]; (repeat' apply And.intro) <;> first | assumption | omega | decide)
  · try simp (disch := omega) only [pe_wi w0, pe_wi w1, pe_wi w2, pe_wi w3, pm_K26 hF, pm_KM hF, pm_L26 hF, pm_R27 hF]
    exact pe_two' k1 k2
theorem b154_56 {d : Nat} {Φ : Option pe_V → pe_H → Prop} {σ : pe_H} {M : Nat} (hF : pm_F M σ) {x1 : Int} {x2 : Int} {o3 : Option pe_V} {x4 : Int} {s0 : Int}   (k : pe_X d 154 (61, [some (.inr (.inr M)), some (.inl x1), some (.inl x2), o3, some (.inl x4)], [.inl 0, .inl s0], σ) Φ) : pe_X d 154 (56, [some (.inr (.inr M)), some (.inl x1), some (.inl x2), o3, some (.inl x4)], [.inl s0], σ) Φ := by
  refine pe_blk 37 2 ck154 [] (61, [some (.inr (.inr M)), some (.inl x1), some (.inl x2), o3, some (.inl x4)], [.inl 0, .inl s0], σ) rfl ?_ ?_
  · exact trivial
  · exact k
theorem b154_60 {d : Nat} {Φ : Option pe_V → pe_H → Prop} {σ : pe_H} {M : Nat} (hF : pm_F M σ) {x1 : Int} {x2 : Int} {o3 : Option pe_V} {x4 : Int} {s0 : Int}   (k : pe_X d 154 (61, [some (.inr (.inr M)), some (.inl x1), some (.inl x2), o3, some (.inl x4)], [.inl 1, .inl s0], σ) Φ) : pe_X d 154 (60, [some (.inr (.inr M)), some (.inl x1), some (.inl x2), o3, some (.inl x4)], [.inl s0], σ) Φ := by
  refine pe_blk 39 1 ck154 [] (61, [some (.inr (.inr M)), some (.inl x1), some (.inl x2), o3, some (.inl x4)], [.inl 1, .inl s0], σ) rfl ?_ ?_
  · exact trivial
  · exact k
theorem b154_61 {d : Nat} {Φ : Option pe_V → pe_H → Prop} {σ : pe_H} {M : Nat} (hF : pm_F M σ) {x1 : Int} {x2 : Int} {o3 : Option pe_V} {x4 : Int} {s0 : Int} {s1 : Int}   (k : pe_X d 154 (5, [some (.inr (.inr M)), some (.inl x1), some (.inl x2), some (.inl (s0 + s1)), some (.inl (x4 + 1))], [], σ) Φ) : pe_X d 154 (61, [some (.inr (.inr M)), some (.inl x1), some (.inl x2), o3, some (.inl x4)], [.inl s1, .inl s0], σ) Φ := by
  refine pe_blk 40 4 ck154 [] (5, [some (.inr (.inr M)), some (.inl x1), some (.inl x2), some (.inl (s0 + s1)), some (.inl (x4 + 1))], [], σ) rfl ?_ ?_
  · exact trivial
  · exact k
theorem b154_69 {d : Nat} {Φ : Option pe_V → pe_H → Prop} {σ : pe_H} {M : Nat} (hF : pm_F M σ) {x1 : Int} {o2 : Option pe_V} {x3 : Int} {o4 : Option pe_V} (w0 : pe_in x1 := by unfold pe_in; omega) (h0 : 0 ≤ x1 := by first | assumption | omega) (h1 : x1 < 6 := by first | assumption | omega) (k : Φ none (pe_wI σ (M + 25) x1 x3)) : pe_X d 154 (69, [some (.inr (.inr M)), some (.inl x1), o2, some (.inl x3), o4], [], σ) Φ := by
  have hM2 := pm_2 hF
  refine pe_blk 44 5 ck154 [pe_K σ M = 9, pe_K σ (pe_R σ M 26) = 10, 0 ≤ (pe_w x1), (pe_w x1) < pe_L σ (pe_R σ M 26), 2 ≤ (pe_R σ M 26)] (76, [some (.inr (.inr M)), some (.inl x1), o2, some (.inl x3), o4], [], pe_wI σ (pe_R σ M 26) (pe_w x1) x3) rfl ?_ ?_
  · first
    | (simp (disch := omega) only [pe_all, pe_wi w0, pm_K25 hF, pm_KM hF, pm_L25 hF, pm_R26 hF]; done)
    | (simp (disch := omega) only [pe_all, pe_wi w0, pm_K25 hF, pm_KM hF, pm_L25 hF, pm_R26 hF]; (repeat' apply And.intro) <;> first | assumption | omega | decide)
  · try simp (disch := omega) only [pe_wi w0, pm_K25 hF, pm_KM hF, pm_L25 hF, pm_R26 hF]
    exact pe_fine 49 ck154 rfl rfl rfl trivial k
-- sends(II)V
def T155 : List (Nat × Instr × Nat) := [(0, .iload_n 2, 1), (1, .iconst 2, 1), (2, .if_icmp .le 18, 3), (5, .aload_n 0, 1), (6, .iload_n 1, 1), (7, .aload_n 0, 1), (8, .bipush 6, 2), (10, .iconst (-1), 1), (11, .invokevirtual 176, 3), (14, .invokevirtual 165, 3), (17, .goto 42, 3), (20, .aload_n 0, 1), (21, .getfield 82, 3), (24, .iconst 3, 1), (25, .iload_n 2, 1), (26, .iadd, 1), (27, .iaload, 1), (28, .ifCond .le 24, 3), (31, .aload_n 0, 1), (32, .getfield 31, 3), (35, .aload_n 0, 1), (36, .iconst 3, 1), (37, .iload_n 2, 1), (38, .iadd, 1), (39, .invokevirtual 180, 3), (42, .aload_n 0, 1), (43, .getfield 31, 3), (46, .iload_n 1, 1), (47, .iaload, 1), (48, .iastore, 1), (49, .goto 10, 3), (52, .aload_n 0, 1), (53, .iload_n 2, 1), (54, .iload_n 1, 1), (55, .iconst 3, 1), (56, .invokevirtual 183, 3), (59, .return_, 1)]
theorem ck155 : pe_ctx 155 9 false none 3 T155 := ⟨rfl, rfl, rfl, rfl, by decide +kernel, by decide, by decide⟩
theorem b155_0 {d : Nat} {Φ : Option pe_V → pe_H → Prop} {σ : pe_H} {M : Nat} (hF : pm_F M σ) {x1 : Int} {x2 : Int} (w0 : pe_in x2 := by unfold pe_in; omega)  (k1 : x2 ≤ 2 → pe_X d 155 (20, [some (.inr (.inr M)), some (.inl x1), some (.inl x2)], [], σ) Φ) (k2 : ¬ (x2 ≤ 2) → pe_X d 155 (5, [some (.inr (.inr M)), some (.inl x1), some (.inl x2)], [], σ) Φ) : pe_X d 155 (0, [some (.inr (.inr M)), some (.inl x1), some (.inl x2)], [], σ) Φ := by
  refine pe_blk 0 3 ck155 [] (cond (decide ((pe_w x2) ≤ (pe_w 2))) 20 5, [some (.inr (.inr M)), some (.inl x1), some (.inl x2)], [], σ) rfl ?_ ?_
  · exact trivial
  · try simp (disch := omega) only [pe_wi w0, pe_wi (x := 2) ⟨by decide, by decide⟩]
    exact pe_two k1 k2
theorem b155_5 {d : Nat} {Φ : Option pe_V → pe_H → Prop} {σ : pe_H} {M : Nat} (hF : pm_F M σ) {x1 : Int} {o2 : Option pe_V}   (k : pe_M d 148 [.inr (.inr M), .inl 6, .inl (-1)] σ (fun r σ' => pe_X d 155 (14, [some (.inr (.inr M)), some (.inl x1), o2], r.toList ++ [.inl x1, .inr (.inr M)], σ') Φ)) : pe_X d 155 (5, [some (.inr (.inr M)), some (.inl x1), o2], [], σ) Φ := by
  refine pe_blk 3 5 ck155 [] (11, [some (.inr (.inr M)), some (.inl x1), o2], [.inl (-1), .inl 6, .inr (.inr M), .inl x1, .inr (.inr M)], σ) rfl ?_ ?_
  · exact trivial
  · try simp (disch := omega) only [pm_KM hF]
    exact pe_cal 8 ck155 rfl rfl rfl ⟨pm_KM hF, by decide⟩ k
theorem b155_14 {d : Nat} {Φ : Option pe_V → pe_H → Prop} {σ : pe_H} {M : Nat} (hF : pm_F M σ) {o1 : Option pe_V} {o2 : Option pe_V} {b0 : Nat} {s1 : Int} {s2 : Int}  (h0 : pe_K σ b0 = 9 := by first | assumption | omega) (k : pe_M d 149 [.inr (.inr b0), .inl s1, .inl s2] σ (fun r σ' => pe_X d 155 (17, [some (.inr (.inr M)), o1, o2], r.toList ++ [], σ') Φ)) : pe_X d 155 (14, [some (.inr (.inr M)), o1, o2], [.inl s2, .inl s1, .inr (.inr b0)], σ) Φ := by
  exact pe_cal 9 ck155 rfl rfl rfl ⟨by assumption, by decide⟩ k
theorem b155_17 {d : Nat} {Φ : Option pe_V → pe_H → Prop} {σ : pe_H} {M : Nat} (hF : pm_F M σ) {o1 : Option pe_V} {o2 : Option pe_V}   (k : pe_X d 155 (59, [some (.inr (.inr M)), o1, o2], [], σ) Φ) : pe_X d 155 (17, [some (.inr (.inr M)), o1, o2], [], σ) Φ := by
  refine pe_blk 10 1 ck155 [] (59, [some (.inr (.inr M)), o1, o2], [], σ) rfl ?_ ?_
  · exact trivial
  · exact k
theorem b155_20 {d : Nat} {Φ : Option pe_V → pe_H → Prop} {σ : pe_H} {M : Nat} (hF : pm_F M σ) {x1 : Int} {x2 : Int} (w0 : pe_in (3 + x2) := by unfold pe_in; omega) (w1 : pe_in (pe_I σ (M + 25) (3 + x2)) := by unfold pe_in; omega) (h0 : 0 ≤ (3 + x2) := by first | assumption | omega) (h1 : (3 + x2) < 6 := by first | assumption | omega) (k1 : (pe_I σ (M + 25) (3 + x2)) ≤ 0 → pe_X d 155 (52, [some (.inr (.inr M)), some (.inl x1), some (.inl x2)], [], σ) Φ) (k2 : ¬ ((pe_I σ (M + 25) (3 + x2)) ≤ 0) → pe_X d 155 (31, [some (.inr (.inr M)), some (.inl x1), some (.inl x2)], [], σ) Φ) : pe_X d 155 (20, [some (.inr (.inr M)), some (.inl x1), some (.inl x2)], [], σ) Φ := by
  refine pe_blk 11 7 ck155 [pe_K σ M = 9, pe_K σ (pe_R σ M 26) = 10, 0 ≤ (pe_w (3 + x2)), (pe_w (3 + x2)) < pe_L σ (pe_R σ M 26)] (cond (decide ((pe_w (pe_I σ (pe_R σ M 26) (pe_w (3 + x2)))) ≤ 0)) 52 31, [some (.inr (.inr M)), some (.inl x1), some (.inl x2)], [], σ) rfl ?_ ?_
  · first
    | (simp (disch := omega) only [pe_all, pe_wi w0, pe_wi w1, pm_K25 hF, pm_KM hF, pm_L25 hF, pm_R26 hF]; done)
    | (simp (disch := omega) only [pe_all, pe_wi w0, pe_wi w1, pm_K25 hF, pm_KM hF, pm_L25 hF, pm_R26 hF]; (repeat' apply And.intro) <;> first | assumption | omega | decide)
  · try simp (disch := omega) only [pe_wi w0, pe_wi w1, pm_K25 hF, pm_KM hF, pm_L25 hF, pm_R26 hF]
    exact pe_two k1 k2
theorem b155_31 {d : Nat} {Φ : Option pe_V → pe_H → Prop} {σ : pe_H} {M : Nat} (hF : pm_F M σ) {x1 : Int} {x2 : Int}   (k : pe_M d 153 [.inr (.inr M), .inl (3 + x2)] σ (fun r σ' => pe_X d 155 (42, [some (.inr (.inr M)), some (.inl x1), some (.inl x2)], r.toList ++ [.inr (.inr (M + 8))], σ') Φ)) : pe_X d 155 (31, [some (.inr (.inr M)), some (.inl x1), some (.inl x2)], [], σ) Φ := by
  refine pe_blk 18 6 ck155 [pe_K σ M = 9] (39, [some (.inr (.inr M)), some (.inl x1), some (.inl x2)], [.inl (3 + x2), .inr (.inr M), .inr (.inr (pe_R σ M 8))], σ) rfl ?_ ?_
  · first
    | (simp (disch := omega) only [pe_all, pm_KM hF, pm_R8 hF]; done)
    | (simp (disch := omega) only [pe_all, pm_KM hF, pm_R8 hF]; (repeat' apply And.intro) <;> first | assumption | omega | decide)
  · try simp (disch := omega) only [pm_KM hF, pm_R8 hF]
    exact pe_cal 24 ck155 rfl rfl rfl ⟨pm_KM hF, by decide⟩ k
theorem b155_42 {d : Nat} {Φ : Option pe_V → pe_H → Prop} {σ : pe_H} {M : Nat} (hF : pm_F M σ) {x1 : Int} {o2 : Option pe_V} {b0 : Nat} {s1 : Int} (w0 : pe_in x1 := by unfold pe_in; omega) (w1 : pe_in s1 := by unfold pe_in; omega) (h0 : 0 ≤ x1 := by first | assumption | omega) (h1 : x1 < 8 := by first | assumption | omega) (h2 : pe_K σ b0 = 10 := by first | assumption | omega) (h3 : 0 ≤ s1 := by first | assumption | omega) (h4 : s1 < pe_L σ b0 := by first | assumption | omega) (h5 : 2 ≤ b0 := by first | assumption | omega) (k : pe_X d 155 (59, [some (.inr (.inr M)), some (.inl x1), o2], [], pe_wI σ b0 s1 (pe_I σ (M + 8) x1)) Φ) : pe_X d 155 (42, [some (.inr (.inr M)), some (.inl x1), o2], [.inl s1, .inr (.inr b0)], σ) Φ := by
  refine pe_blk 25 6 ck155 [pe_K σ M = 9, pe_K σ (pe_R σ M 8) = 10, 0 ≤ (pe_w x1), (pe_w x1) < pe_L σ (pe_R σ M 8), pe_K σ b0 = 10, 0 ≤ (pe_w s1), (pe_w s1) < pe_L σ b0, 2 ≤ b0] (59, [some (.inr (.inr M)), some (.inl x1), o2], [], pe_wI σ b0 (pe_w s1) (pe_I σ (pe_R σ M 8) (pe_w x1))) rfl ?_ ?_
  · first
    | (simp (disch := omega) only [pe_all, pe_wi w0, pe_wi w1, pm_K8 hF, pm_KM hF, pm_L8 hF, pm_R8 hF]; done)
    | (simp (disch := omega) only [pe_all, pe_wi w0, pe_wi w1, pm_K8 hF, pm_KM hF, pm_L8 hF, pm_R8 hF]; (repeat' apply And.intro) <;> first | assumption | omega | decide)
  · try simp (disch := omega) only [pe_wi w0, pe_wi w1, pm_K8 hF, pm_KM hF, pm_L8 hF, pm_R8 hF]
    exact k
theorem b155_52 {d : Nat} {Φ : Option pe_V → pe_H → Prop} {σ : pe_H} {M : Nat} (hF : pm_F M σ) {x1 : Int} {x2 : Int}   (k : pe_M d 152 [.inr (.inr M), .inl x2, .inl x1, .inl 3] σ (fun r σ' => pe_X d 155 (59, [some (.inr (.inr M)), some (.inl x1), some (.inl x2)], r.toList ++ [], σ') Φ)) : pe_X d 155 (52, [some (.inr (.inr M)), some (.inl x1), some (.inl x2)], [], σ) Φ := by
  refine pe_blk 31 4 ck155 [] (56, [some (.inr (.inr M)), some (.inl x1), some (.inl x2)], [.inl 3, .inl x1, .inl x2, .inr (.inr M)], σ) rfl ?_ ?_
  · exact trivial
  · try simp (disch := omega) only [pm_KM hF]
    exact pe_cal 35 ck155 rfl rfl rfl ⟨pm_KM hF, by decide⟩ k
theorem b155_59 {d : Nat} {Φ : Option pe_V → pe_H → Prop} {σ : pe_H} {M : Nat} (hF : pm_F M σ) {o1 : Option pe_V} {o2 : Option pe_V}   (k : Φ none σ) : pe_X d 155 (59, [some (.inr (.inr M)), o1, o2], [], σ) Φ := by
  exact pe_fine 36 ck155 rfl rfl rfl trivial k
-- gets(II)V
def T156 : List (Nat × Instr × Nat) := [(0, .iload_n 2, 1), (1, .iconst 2, 1), (2, .if_icmp .le 18, 3), (5, .aload_n 0, 1), (6, .iload_n 1, 1), (7, .aload_n 0, 1), (8, .bipush 6, 2), (10, .iconst (-1), 1), (11, .invokevirtual 176, 3), (14, .invokevirtual 165, 3), (17, .goto 40, 3), (20, .aload_n 0, 1), (21, .getfield 82, 3), (24, .iload_n 2, 1), (25, .iaload, 1), (26, .ifCond .le 22, 3), (29, .aload_n 0, 1), (30, .getfield 31, 3), (33, .iload_n 1, 1), (34, .aload_n 0, 1), (35, .getfield 31, 3), (38, .aload_n 0, 1), (39, .iload_n 2, 1), (40, .invokevirtual 180, 3), (43, .iaload, 1), (44, .iastore, 1), (45, .goto 12, 3), (48, .aload_n 0, 1), (49, .iconst 3, 1), (50, .iload_n 2, 1), (51, .iadd, 1), (52, .iload_n 1, 1), (53, .iconst 4, 1), (54, .invokevirtual 183, 3), (57, .return_, 1)]
theorem ck156 : pe_ctx 156 9 false none 3 T156 := ⟨rfl, rfl, rfl, rfl, by decide +kernel, by decide, by decide⟩
theorem b156_0 {d : Nat} {Φ : Option pe_V → pe_H → Prop} {σ : pe_H} {M : Nat} (hF : pm_F M σ) {x1 : Int} {x2 : Int} (w0 : pe_in x2 := by unfold pe_in; omega)  (k1 : x2 ≤ 2 → pe_X d 156 (20, [some (.inr (.inr M)), some (.inl x1), some (.inl x2)], [], σ) Φ) (k2 : ¬ (x2 ≤ 2) → pe_X d 156 (5, [some (.inr (.inr M)), some (.inl x1), some (.inl x2)], [], σ) Φ) : pe_X d 156 (0, [some (.inr (.inr M)), some (.inl x1), some (.inl x2)], [], σ) Φ := by
  refine pe_blk 0 3 ck156 [] (cond (decide ((pe_w x2) ≤ (pe_w 2))) 20 5, [some (.inr (.inr M)), some (.inl x1), some (.inl x2)], [], σ) rfl ?_ ?_
  · exact trivial
  · try simp (disch := omega) only [pe_wi w0, pe_wi (x := 2) ⟨by decide, by decide⟩]
    exact pe_two k1 k2
theorem b156_5 {d : Nat} {Φ : Option pe_V → pe_H → Prop} {σ : pe_H} {M : Nat} (hF : pm_F M σ) {x1 : Int} {o2 : Option pe_V}   (k : pe_M d 148 [.inr (.inr M), .inl 6, .inl (-1)] σ (fun r σ' => pe_X d 156 (14, [some (.inr (.inr M)), some (.inl x1), o2], r.toList ++ [.inl x1, .inr (.inr M)], σ') Φ)) : pe_X d 156 (5, [some (.inr (.inr M)), some (.inl x1), o2], [], σ) Φ := by
  refine pe_blk 3 5 ck156 [] (11, [some (.inr (.inr M)), some (.inl x1), o2], [.inl (-1), .inl 6, .inr (.inr M), .inl x1, .inr (.inr M)], σ) rfl ?_ ?_
  · exact trivial
  · try simp (disch := omega) only [pm_KM hF]
    exact pe_cal 8 ck156 rfl rfl rfl ⟨pm_KM hF, by decide⟩ k
theorem b156_14 {d : Nat} {Φ : Option pe_V → pe_H → Prop} {σ : pe_H} {M : Nat} (hF : pm_F M σ) {o1 : Option pe_V} {o2 : Option pe_V} {b0 : Nat} {s1 : Int} {s2 : Int}  (h0 : pe_K σ b0 = 9 := by first | assumption | omega) (k : pe_M d 149 [.inr (.inr b0), .inl s1, .inl s2] σ (fun r σ' => pe_X d 156 (17, [some (.inr (.inr M)), o1, o2], r.toList ++ [], σ') Φ)) : pe_X d 156 (14, [some (.inr (.inr M)), o1, o2], [.inl s2, .inl s1, .inr (.inr b0)], σ) Φ := by
  exact pe_cal 9 ck156 rfl rfl rfl ⟨by assumption, by decide⟩ k
theorem b156_17 {d : Nat} {Φ : Option pe_V → pe_H → Prop} {σ : pe_H} {M : Nat} (hF : pm_F M σ) {o1 : Option pe_V} {o2 : Option pe_V}   (k : pe_X d 156 (57, [some (.inr (.inr M)), o1, o2], [], σ) Φ) : pe_X d 156 (17, [some (.inr (.inr M)), o1, o2], [], σ) Φ := by
  refine pe_blk 10 1 ck156 [] (57, [some (.inr (.inr M)), o1, o2], [], σ) rfl ?_ ?_
  · exact trivial
  · exact k
theorem b156_20 {d : Nat} {Φ : Option pe_V → pe_H → Prop} {σ : pe_H} {M : Nat} (hF : pm_F M σ) {x1 : Int} {x2 : Int} (w0 : pe_in x2 := by unfold pe_in; omega) (w1 : pe_in (pe_I σ (M + 25) x2) := by unfold pe_in; omega) (h0 : 0 ≤ x2 := by first | assumption | omega) (h1 : x2 < 6 := by first | assumption | omega) (k1 : (pe_I σ (M + 25) x2) ≤ 0 → pe_X d 156 (48, [some (.inr (.inr M)), some (.inl x1), some (.inl x2)], [], σ) Φ) (k2 : ¬ ((pe_I σ (M + 25) x2) ≤ 0) → pe_X d 156 (29, [some (.inr (.inr M)), some (.inl x1), some (.inl x2)], [], σ) Φ) : pe_X d 156 (20, [some (.inr (.inr M)), some (.inl x1), some (.inl x2)], [], σ) Φ := by
  refine pe_blk 11 5 ck156 [pe_K σ M = 9, pe_K σ (pe_R σ M 26) = 10, 0 ≤ (pe_w x2), (pe_w x2) < pe_L σ (pe_R σ M 26)] (cond (decide ((pe_w (pe_I σ (pe_R σ M 26) (pe_w x2))) ≤ 0)) 48 29, [some (.inr (.inr M)), some (.inl x1), some (.inl x2)], [], σ) rfl ?_ ?_
  · first
    | (simp (disch := omega) only [pe_all, pe_wi w0, pe_wi w1, pm_K25 hF, pm_KM hF, pm_L25 hF, pm_R26 hF]; done)
    | (simp (disch := omega) only [pe_all, pe_wi w0, pe_wi w1, pm_K25 hF, pm_KM hF, pm_L25 hF, pm_R26 hF]; (repeat' apply And.intro) <;> first | assumption | omega | decide)
  · try simp (disch := omega) only [pe_wi w0, pe_wi w1, pm_K25 hF, pm_KM hF, pm_L25 hF, pm_R26 hF]
    exact pe_two k1 k2
theorem b156_29 {d : Nat} {Φ : Option pe_V → pe_H → Prop} {σ : pe_H} {M : Nat} (hF : pm_F M σ) {x1 : Int} {x2 : Int}   (k : pe_M d 153 [.inr (.inr M), .inl x2] σ (fun r σ' => pe_X d 156 (43, [some (.inr (.inr M)), some (.inl x1), some (.inl x2)], r.toList ++ [.inr (.inr (M + 8)), .inl x1, .inr (.inr (M + 8))], σ') Φ)) : pe_X d 156 (29, [some (.inr (.inr M)), some (.inl x1), some (.inl x2)], [], σ) Φ := by
  refine pe_blk 16 7 ck156 [pe_K σ M = 9, pe_K σ M = 9] (40, [some (.inr (.inr M)), some (.inl x1), some (.inl x2)], [.inl x2, .inr (.inr M), .inr (.inr (pe_R σ M 8)), .inl x1, .inr (.inr (pe_R σ M 8))], σ) rfl ?_ ?_
  · first
    | (simp (disch := omega) only [pe_all, pm_KM hF, pm_R8 hF]; done)
    | (simp (disch := omega) only [pe_all, pm_KM hF, pm_R8 hF]; (repeat' apply And.intro) <;> first | assumption | omega | decide)
  · try simp (disch := omega) only [pm_KM hF, pm_R8 hF]
    exact pe_cal 23 ck156 rfl rfl rfl ⟨pm_KM hF, by decide⟩ k
theorem b156_43 {d : Nat} {Φ : Option pe_V → pe_H → Prop} {σ : pe_H} {M : Nat} (hF : pm_F M σ) {o1 : Option pe_V} {o2 : Option pe_V} {b0 : Nat} {s1 : Int} {b2 : Nat} {s3 : Int} (w0 : pe_in s3 := by unfold pe_in; omega) (w1 : pe_in s1 := by unfold pe_in; omega) (h0 : pe_K σ b2 = 10 := by first | assumption | omega) (h1 : 0 ≤ s3 := by first | assumption | omega) (h2 : s3 < pe_L σ b2 := by first | assumption | omega) (h3 : pe_K σ b0 = 10 := by first | assumption | omega) (h4 : 0 ≤ s1 := by first | assumption | omega) (h5 : s1 < pe_L σ b0 := by first | assumption | omega) (h6 : 2 ≤ b0 := by first | assumption | omega) (k : pe_X d 156 (57, [some (.inr (.inr M)), o1, o2], [], pe_wI σ b0 s1 (pe_I σ b2 s3)) Φ) : pe_X d 156 (43, [some (.inr (.inr M)), o1, o2], [.inl s3, .inr (.inr b2), .inl s1, .inr (.inr b0)], σ) Φ := by
  refine pe_blk 24 3 ck156 [pe_K σ b2 = 10, 0 ≤ (pe_w s3), (pe_w s3) < pe_L σ b2, pe_K σ b0 = 10, 0 ≤ (pe_w s1), (pe_w s1) < pe_L σ b0, 2 ≤ b0] (57, [some (.inr (.inr M)), o1, o2], [], pe_wI σ b0 (pe_w s1) (pe_I σ b2 (pe_w s3))) rfl ?_ ?_
  · first
    | (simp (disch := omega) only [pe_all, pe_wi w0, pe_wi w1]; done)
    | (simp (disch := omega) only [pe_all, pe_wi w0, pe_wi w1]; (repeat' apply And.intro) <;> first | assumption | omega | decide)
  · try simp (disch := omega) only [pe_wi w0, pe_wi w1]
    exact k
theorem b156_48 {d : Nat} {Φ : Option pe_V → pe_H → Prop} {σ : pe_H} {M : Nat} (hF : pm_F M σ) {x1 : Int} {x2 : Int}   (k : pe_M d 152 [.inr (.inr M), .inl (3 + x2), .inl x1, .inl 4] σ (fun r σ' => pe_X d 156 (57, [some (.inr (.inr M)), some (.inl x1), some (.inl x2)], r.toList ++ [], σ') Φ)) : pe_X d 156 (48, [some (.inr (.inr M)), some (.inl x1), some (.inl x2)], [], σ) Φ := by
  refine pe_blk 27 6 ck156 [] (54, [some (.inr (.inr M)), some (.inl x1), some (.inl x2)], [.inl 4, .inl x1, .inl (3 + x2), .inr (.inr M)], σ) rfl ?_ ?_
  · exact trivial
  · try simp (disch := omega) only [pm_KM hF]
    exact pe_cal 33 ck156 rfl rfl rfl ⟨pm_KM hF, by decide⟩ k
theorem b156_57 {d : Nat} {Φ : Option pe_V → pe_H → Prop} {σ : pe_H} {M : Nat} (hF : pm_F M σ) {o1 : Option pe_V} {o2 : Option pe_V}   (k : Φ none σ) : pe_X d 156 (57, [some (.inr (.inr M)), o1, o2], [], σ) Φ := by
  exact pe_fine 34 ck156 rfl rfl rfl trivial k
-- hasJoined(II)V
def T157 : List (Nat × Instr × Nat) := [(0, .aload_n 0, 1), (1, .getfield 28, 3), (4, .iload_n 2, 1), (5, .iaload, 1), (6, .bipush 6, 2), (8, .if_icmp .ne 18, 3), (11, .aload_n 0, 1), (12, .getfield 31, 3), (15, .iload_n 1, 1), (16, .aload_n 0, 1), (17, .getfield 31, 3), (20, .iload_n 2, 1), (21, .iaload, 1), (22, .iastore, 1), (23, .goto 45, 3), (26, .aload_n 0, 1), (27, .getfield 28, 3), (30, .iload_n 2, 1), (31, .iaload, 1), (32, .bipush 7, 2), (34, .if_icmp .ne 23, 3), (37, .aload_n 0, 1), (38, .iload_n 1, 1), (39, .aload_n 0, 1), (40, .bipush 8, 2), (42, .aload_n 0, 1), (43, .getfield 46, 3), (46, .iload_n 2, 1), (47, .iaload, 1), (48, .invokevirtual 176, 3), (51, .invokevirtual 165, 3), (54, .goto 14, 3), (57, .aload_n 0, 1), (58, .iload_n 1, 1), (59, .aload_n 0, 1), (60, .iconst 5, 1), (61, .iconst (-1), 1), (62, .invokevirtual 176, 3), (65, .invokevirtual 165, 3), (68, .return_, 1)]
theorem ck157 : pe_ctx 157 9 false none 3 T157 := ⟨rfl, rfl, rfl, rfl, by decide +kernel, by decide, by decide⟩
theorem b157_0 {d : Nat} {Φ : Option pe_V → pe_H → Prop} {σ : pe_H} {M : Nat} (hF : pm_F M σ) {x1 : Int} {x2 : Int} (w0 : pe_in x2 := by unfold pe_in; omega) (w1 : pe_in (pe_I σ (M + 7) x2) := by unfold pe_in; omega) (h0 : 0 ≤ x2 := by first | assumption | omega) (h1 : x2 < 8 := by first | assumption | omega) (k1 : ¬ (pe_I σ (M + 7) x2) = 6 → pe_X d 157 (26, [some (.inr (.inr M)), some (.inl x1), some (.inl x2)], [], σ) Φ) (k2 : (pe_I σ (M + 7) x2) = 6 → pe_X d 157 (11, [some (.inr (.inr M)), some (.inl x1), some (.inl x2)], [], σ) Φ) : pe_X d 157 (0, [some (.inr (.inr M)), some (.inl x1), some (.inl x2)], [], σ) Φ := by
  refine pe_blk 0 6 ck157 [pe_K σ M = 9, pe_K σ (pe_R σ M 7) = 10, 0 ≤ (pe_w x2), (pe_w x2) < pe_L σ (pe_R σ M 7)] (cond (decide (¬ (pe_w (pe_I σ (pe_R σ M 7) (pe_w x2))) = (pe_w 6))) 26 11, [some (.inr (.inr M)), some (.inl x1), some (.inl x2)], [], σ) rfl ?_ ?_
  · first
    | (simp (disch := omega) only [pe_all, pe_wi w0, pe_wi w1, pe_wi (x := 6) ⟨by decide, by decide⟩, pm_K7 hF, pm_KM hF, pm_L7 hF, pm_R7 hF]; done)
    | (simp (disch := omega) only [pe_all, pe_wi w0, pe_wi w1, pe_wi (x := 6) ⟨by decide, by decide⟩, pm_K7 hF, pm_KM hF, pm_L7 hF, pm_R7 hF]; (repeat' apply And.intro) <;> first | assumption | omega | decide)
  · try simp (disch := omega) only [pe_wi w0, pe_wi w1, pe_wi (x := 6) ⟨by decide, by decide⟩, pm_K7 hF, pm_KM hF, pm_L7 hF, pm_R7 hF]
    exact pe_two' k1 k2
theorem b157_11 {d : Nat} {Φ : Option pe_V → pe_H → Prop} {σ : pe_H} {M : Nat} (hF : pm_F M σ) {x1 : Int} {x2 : Int} (w0 : pe_in x2 := by unfold pe_in; omega) (w1 : pe_in x1 := by unfold pe_in; omega) (h0 : 0 ≤ x2 := by first | assumption | omega) (h1 : x2 < 8 := by first | assumption | omega) (h2 : 0 ≤ x1 := by first | assumption | omega) (h3 : x1 < 8 := by first | assumption | omega) (k : pe_X d 157 (68, [some (.inr (.inr M)), some (.inl x1), some (.inl x2)], [], pe_wI σ (M + 8) x1 (pe_I σ (M + 8) x2)) Φ) : pe_X d 157 (11, [some (.inr (.inr M)), some (.inl x1), some (.inl x2)], [], σ) Φ := by
  have hM2 := pm_2 hF
  refine pe_blk 6 9 ck157 [pe_K σ M = 9, pe_K σ M = 9, pe_K σ (pe_R σ M 8) = 10, 0 ≤ (pe_w x2), (pe_w x2) < pe_L σ (pe_R σ M 8), pe_K σ (pe_R σ M 8) = 10, 0 ≤ (pe_w x1), (pe_w x1) < pe_L σ (pe_R σ M 8), 2 ≤ (pe_R σ M 8)] (68, [some (.inr (.inr M)), some (.inl x1), some (.inl x2)], [], pe_wI σ (pe_R σ M 8) (pe_w x1) (pe_I σ (pe_R σ M 8) (pe_w x2))) rfl ?_ ?_
  · first
    | (simp (disch := omega) only [pe_all, pe_wi w0, pe_wi w1, pm_K8 hF, pm_KM hF, pm_L8 hF, pm_R8 hF]; done)
    | (simp (disch := omega) only [pe_all, pe_wi w0, pe_wi w1, pm_K8 hF, pm_KM hF, pm_L8 hF, pm_R8 hF]; (repeat' apply And.intro) <;> first | assumption | omega | decide)
  · try simp (disch := omega) only [pe_wi w0, pe_wi w1, pm_K8 hF, pm_KM hF, pm_L8 hF, pm_R8 hF]
    exact k
theorem b157_26 {d : Nat} {Φ : Option pe_V → pe_H → Prop} {σ : pe_H} {M : Nat} (hF : pm_F M σ) {x1 : Int} {x2 : Int} (w0 : pe_in x2 := by unfold pe_in; omega) (w1 : pe_in (pe_I σ (M + 7) x2) := by unfold pe_in; omega) (h0 : 0 ≤ x2 := by first | assumption | omega) (h1 : x2 < 8 := by first | assumption | omega) (k1 : ¬ (pe_I σ (M + 7) x2) = 7 → pe_X d 157 (57, [some (.inr (.inr M)), some (.inl x1), some (.inl x2)], [], σ) Φ) (k2 : (pe_I σ (M + 7) x2) = 7 → pe_X d 157 (37, [some (.inr (.inr M)), some (.inl x1), some (.inl x2)], [], σ) Φ) : pe_X d 157 (26, [some (.inr (.inr M)), some (.inl x1), some (.inl x2)], [], σ) Φ := by
  refine pe_blk 15 6 ck157 [pe_K σ M = 9, pe_K σ (pe_R σ M 7) = 10, 0 ≤ (pe_w x2), (pe_w x2) < pe_L σ (pe_R σ M 7)] (cond (decide (¬ (pe_w (pe_I σ (pe_R σ M 7) (pe_w x2))) = (pe_w 7))) 57 37, [some (.inr (.inr M)), some (.inl x1), some (.inl x2)], [], σ) rfl ?_ ?_
  · first
    | (simp (disch := omega) only [pe_all, pe_wi w0, pe_wi w1, pe_wi (x := 7) ⟨by decide, by decide⟩, pm_K7 hF, pm_KM hF, pm_L7 hF, pm_R7 hF]; done)
    | (simp (disch := omega) only [pe_all, pe_wi w0, pe_wi w1, pe_wi (x := 7) ⟨by decide, by decide⟩, pm_K7 hF, pm_KM hF, pm_L7 hF, pm_R7 hF]; (repeat' apply And.intro) <;> first | assumption | omega | decide)
  · try simp (disch := omega) only [pe_wi w0, pe_wi w1, pe_wi (x := 7) ⟨by decide, by decide⟩, pm_K7 hF, pm_KM hF, pm_L7 hF, pm_R7 hF]
    exact pe_two' k1 k2
theorem b157_37 {d : Nat} {Φ : Option pe_V → pe_H → Prop} {σ : pe_H} {M : Nat} (hF : pm_F M σ) {x1 : Int} {x2 : Int} (w0 : pe_in x2 := by unfold pe_in; omega) (h0 : 0 ≤ x2 := by first | assumption | omega) (h1 : x2 < 8 := by first | assumption | omega) (k : pe_M d 148 [.inr (.inr M), .inl 8, .inl (pe_I σ (M + 13) x2)] σ (fun r σ' => pe_X d 157 (51, [some (.inr (.inr M)), some (.inl x1), some (.inl x2)], r.toList ++ [.inl x1, .inr (.inr M)], σ') Φ)) : pe_X d 157 (37, [some (.inr (.inr M)), some (.inl x1), some (.inl x2)], [], σ) Φ := by
  refine pe_blk 21 8 ck157 [pe_K σ M = 9, pe_K σ (pe_R σ M 13) = 10, 0 ≤ (pe_w x2), (pe_w x2) < pe_L σ (pe_R σ M 13)] (48, [some (.inr (.inr M)), some (.inl x1), some (.inl x2)], [.inl (pe_I σ (pe_R σ M 13) (pe_w x2)), .inl 8, .inr (.inr M), .inl x1, .inr (.inr M)], σ) rfl ?_ ?_
  · first
    | (simp (disch := omega) only [pe_all, pe_wi w0, pm_K13 hF, pm_KM hF, pm_L13 hF, pm_R13 hF]; done)
    | (simp (disch := omega) only [pe_all, pe_wi w0, pm_K13 hF, pm_KM hF, pm_L13 hF, pm_R13 hF]; (repeat' apply And.intro) <;> first | assumption | omega | decide)
  · try simp (disch := omega) only [pe_wi w0, pm_K13 hF, pm_KM hF, pm_L13 hF, pm_R13 hF]
    exact pe_cal 29 ck157 rfl rfl rfl ⟨pm_KM hF, by decide⟩ k
theorem b157_51 {d : Nat} {Φ : Option pe_V → pe_H → Prop} {σ : pe_H} {M : Nat} (hF : pm_F M σ) {o1 : Option pe_V} {o2 : Option pe_V} {b0 : Nat} {s1 : Int} {s2 : Int}  (h0 : pe_K σ b0 = 9 := by first | assumption | omega) (k : pe_M d 149 [.inr (.inr b0), .inl s1, .inl s2] σ (fun r σ' => pe_X d 157 (54, [some (.inr (.inr M)), o1, o2], r.toList ++ [], σ') Φ)) : pe_X d 157 (51, [some (.inr (.inr M)), o1, o2], [.inl s2, .inl s1, .inr (.inr b0)], σ) Φ := by
  exact pe_cal 30 ck157 rfl rfl rfl ⟨by assumption, by decide⟩ k
theorem b157_54 {d : Nat} {Φ : Option pe_V → pe_H → Prop} {σ : pe_H} {M : Nat} (hF : pm_F M σ) {o1 : Option pe_V} {o2 : Option pe_V}   (k : pe_X d 157 (68, [some (.inr (.inr M)), o1, o2], [], σ) Φ) : pe_X d 157 (54, [some (.inr (.inr M)), o1, o2], [], σ) Φ := by
  refine pe_blk 31 1 ck157 [] (68, [some (.inr (.inr M)), o1, o2], [], σ) rfl ?_ ?_
  · exact trivial
  · exact k
theorem b157_57 {d : Nat} {Φ : Option pe_V → pe_H → Prop} {σ : pe_H} {M : Nat} (hF : pm_F M σ) {x1 : Int} {o2 : Option pe_V}   (k : pe_M d 148 [.inr (.inr M), .inl 5, .inl (-1)] σ (fun r σ' => pe_X d 157 (65, [some (.inr (.inr M)), some (.inl x1), o2], r.toList ++ [.inl x1, .inr (.inr M)], σ') Φ)) : pe_X d 157 (57, [some (.inr (.inr M)), some (.inl x1), o2], [], σ) Φ := by
  refine pe_blk 32 5 ck157 [] (62, [some (.inr (.inr M)), some (.inl x1), o2], [.inl (-1), .inl 5, .inr (.inr M), .inl x1, .inr (.inr M)], σ) rfl ?_ ?_
  · exact trivial
  · try simp (disch := omega) only [pm_KM hF]
    exact pe_cal 37 ck157 rfl rfl rfl ⟨pm_KM hF, by decide⟩ k
theorem b157_65 {d : Nat} {Φ : Option pe_V → pe_H → Prop} {σ : pe_H} {M : Nat} (hF : pm_F M σ) {o1 : Option pe_V} {o2 : Option pe_V} {b0 : Nat} {s1 : Int} {s2 : Int}  (h0 : pe_K σ b0 = 9 := by first | assumption | omega) (k : pe_M d 149 [.inr (.inr b0), .inl s1, .inl s2] σ (fun r σ' => pe_X d 157 (68, [some (.inr (.inr M)), o1, o2], r.toList ++ [], σ') Φ)) : pe_X d 157 (65, [some (.inr (.inr M)), o1, o2], [.inl s2, .inl s1, .inr (.inr b0)], σ) Φ := by
  exact pe_cal 38 ck157 rfl rfl rfl ⟨by assumption, by decide⟩ k
theorem b157_68 {d : Nat} {Φ : Option pe_V → pe_H → Prop} {σ : pe_H} {M : Nat} (hF : pm_F M σ) {o1 : Option pe_V} {o2 : Option pe_V}   (k : Φ none σ) : pe_X d 157 (68, [some (.inr (.inr M)), o1, o2], [], σ) Φ := by
  exact pe_fine 39 ck157 rfl rfl rfl trivial k
-- joins(II)V
def T158 : List (Nat × Instr × Nat) := [(0, .iload_n 2, 1), (1, .iload_n 1, 1), (2, .if_icmp .eq 11, 3), (5, .aload_n 0, 1), (6, .iload_n 2, 1), (7, .invokevirtual 187, 3), (10, .ifCond .ne 18, 3), (13, .aload_n 0, 1), (14, .iload_n 1, 1), (15, .aload_n 0, 1), (16, .bipush 6, 2), (18, .iconst (-1), 1), (19, .invokevirtual 176, 3), (22, .invokevirtual 165, 3), (25, .goto 34, 3), (28, .aload_n 0, 1), (29, .iload_n 2, 1), (30, .invokevirtual 151, 3), (33, .ifCond .eq 12, 3), (36, .aload_n 0, 1), (37, .iload_n 1, 1), (38, .iload_n 2, 1), (39, .invokevirtual 190, 3), (42, .goto 17, 3), (45, .aload_n 0, 1), (46, .getfield 28, 3), (49, .iload_n 1, 1), (50, .iconst 5, 1), (51, .iastore, 1), (52, .aload_n 0, 1), (53, .getfield 43, 3), (56, .iload_n 1, 1), (57, .iload_n 2, 1), (58, .iastore, 1), (59, .return_, 1)]
theorem ck158 : pe_ctx 158 9 false none 3 T158 := ⟨rfl, rfl, rfl, rfl, by decide +kernel, by decide, by decide⟩
theorem b158_0 {d : Nat} {Φ : Option pe_V → pe_H → Prop} {σ : pe_H} {M : Nat} (hF : pm_F M σ) {x1 : Int} {x2 : Int} (w0 : pe_in x2 := by unfold pe_in; omega) (w1 : pe_in x1 := by unfold pe_in; omega)  (k1 : x2 = x1 → pe_X d 158 (13, [some (.inr (.inr M)), some (.inl x1), some (.inl x2)], [], σ) Φ) (k2 : ¬ (x2 = x1) → pe_X d 158 (5, [some (.inr (.inr M)), some (.inl x1), some (.inl x2)], [], σ) Φ) : pe_X d 158 (0, [some (.inr (.inr M)), some (.inl x1), some (.inl x2)], [], σ) Φ := by
  refine pe_blk 0 3 ck158 [] (cond (decide ((pe_w x2) = (pe_w x1))) 13 5, [some (.inr (.inr M)), some (.inl x1), some (.inl x2)], [], σ) rfl ?_ ?_
  · exact trivial
  · try simp (disch := omega) only [pe_wi w0, pe_wi w1]
    exact pe_two k1 k2
theorem b158_5 {d : Nat} {Φ : Option pe_V → pe_H → Prop} {σ : pe_H} {M : Nat} (hF : pm_F M σ) {x1 : Int} {x2 : Int}   (k : pe_M d 138 [.inr (.inr M), .inl x2] σ (fun r σ' => pe_X d 158 (10, [some (.inr (.inr M)), some (.inl x1), some (.inl x2)], r.toList ++ [], σ') Φ)) : pe_X d 158 (5, [some (.inr (.inr M)), some (.inl x1), some (.inl x2)], [], σ) Φ := by
  refine pe_blk 3 2 ck158 [] (7, [some (.inr (.inr M)), some (.inl x1), some (.inl x2)], [.inl x2, .inr (.inr M)], σ) rfl ?_ ?_
  · exact trivial
  · try simp (disch := omega) only [pm_KM hF]
    exact pe_cal 5 ck158 rfl rfl rfl ⟨pm_KM hF, by decide⟩ k
theorem b158_10 {d : Nat} {Φ : Option pe_V → pe_H → Prop} {σ : pe_H} {M : Nat} (hF : pm_F M σ) {x1 : Int} {x2 : Int} {s0 : Int} (w0 : pe_in s0 := by unfold pe_in; omega)  (k1 : ¬ s0 = 0 → pe_X d 158 (28, [some (.inr (.inr M)), some (.inl x1), some (.inl x2)], [], σ) Φ) (k2 : s0 = 0 → pe_X d 158 (13, [some (.inr (.inr M)), some (.inl x1), some (.inl x2)], [], σ) Φ) : pe_X d 158 (10, [some (.inr (.inr M)), some (.inl x1), some (.inl x2)], [.inl s0], σ) Φ := by
  refine pe_blk 6 1 ck158 [] (cond (decide (¬ (pe_w s0) = 0)) 28 13, [some (.inr (.inr M)), some (.inl x1), some (.inl x2)], [], σ) rfl ?_ ?_
  · exact trivial
  · try simp (disch := omega) only [pe_wi w0]
    exact pe_two' k1 k2
theorem b158_13 {d : Nat} {Φ : Option pe_V → pe_H → Prop} {σ : pe_H} {M : Nat} (hF : pm_F M σ) {x1 : Int} {o2 : Option pe_V}   (k : pe_M d 148 [.inr (.inr M), .inl 6, .inl (-1)] σ (fun r σ' => pe_X d 158 (22, [some (.inr (.inr M)), some (.inl x1), o2], r.toList ++ [.inl x1, .inr (.inr M)], σ') Φ)) : pe_X d 158 (13, [some (.inr (.inr M)), some (.inl x1), o2], [], σ) Φ := by
  refine pe_blk 7 5 ck158 [] (19, [some (.inr (.inr M)), some (.inl x1), o2], [.inl (-1), .inl 6, .inr (.inr M), .inl x1, .inr (.inr M)], σ) rfl ?_ ?_
  · exact trivial
  · try simp (disch := omega) only [pm_KM hF]
    exact pe_cal 12 ck158 rfl rfl rfl ⟨pm_KM hF, by decide⟩ k
theorem b158_22 {d : Nat} {Φ : Option pe_V → pe_H → Prop} {σ : pe_H} {M : Nat} (hF : pm_F M σ) {o1 : Option pe_V} {o2 : Option pe_V} {b0 : Nat} {s1 : Int} {s2 : Int}  (h0 : pe_K σ b0 = 9 := by first | assumption | omega) (k : pe_M d 149 [.inr (.inr b0), .inl s1, .inl s2] σ (fun r σ' => pe_X d 158 (25, [some (.inr (.inr M)), o1, o2], r.toList ++ [], σ') Φ)) : pe_X d 158 (22, [some (.inr (.inr M)), o1, o2], [.inl s2, .inl s1, .inr (.inr b0)], σ) Φ := by
  exact pe_cal 13 ck158 rfl rfl rfl ⟨by assumption, by decide⟩ k
theorem b158_25 {d : Nat} {Φ : Option pe_V → pe_H → Prop} {σ : pe_H} {M : Nat} (hF : pm_F M σ) {o1 : Option pe_V} {o2 : Option pe_V}   (k : pe_X d 158 (59, [some (.inr (.inr M)), o1, o2], [], σ) Φ) : pe_X d 158 (25, [some (.inr (.inr M)), o1, o2], [], σ) Φ := by
  refine pe_blk 14 1 ck158 [] (59, [some (.inr (.inr M)), o1, o2], [], σ) rfl ?_ ?_
  · exact trivial
  · exact k
theorem b158_28 {d : Nat} {Φ : Option pe_V → pe_H → Prop} {σ : pe_H} {M : Nat} (hF : pm_F M σ) {x1 : Int} {x2 : Int}   (k : pe_M d 139 [.inr (.inr M), .inl x2] σ (fun r σ' => pe_X d 158 (33, [some (.inr (.inr M)), some (.inl x1), some (.inl x2)], r.toList ++ [], σ') Φ)) : pe_X d 158 (28, [some (.inr (.inr M)), some (.inl x1), some (.inl x2)], [], σ) Φ := by
  refine pe_blk 15 2 ck158 [] (30, [some (.inr (.inr M)), some (.inl x1), some (.inl x2)], [.inl x2, .inr (.inr M)], σ) rfl ?_ ?_
  · exact trivial
  · try simp (disch := omega) only [pm_KM hF]
    exact pe_cal 17 ck158 rfl rfl rfl ⟨pm_KM hF, by decide⟩ k
theorem b158_33 {d : Nat} {Φ : Option pe_V → pe_H → Prop} {σ : pe_H} {M : Nat} (hF : pm_F M σ) {x1 : Int} {x2 : Int} {s0 : Int} (w0 : pe_in s0 := by unfold pe_in; omega)  (k1 : s0 = 0 → pe_X d 158 (45, [some (.inr (.inr M)), some (.inl x1), some (.inl x2)], [], σ) Φ) (k2 : ¬ (s0 = 0) → pe_X d 158 (36, [some (.inr (.inr M)), some (.inl x1), some (.inl x2)], [], σ) Φ) : pe_X d 158 (33, [some (.inr (.inr M)), some (.inl x1), some (.inl x2)], [.inl s0], σ) Φ := by
  refine pe_blk 18 1 ck158 [] (cond (decide ((pe_w s0) = 0)) 45 36, [some (.inr (.inr M)), some (.inl x1), some (.inl x2)], [], σ) rfl ?_ ?_
  · exact trivial
  · try simp (disch := omega) only [pe_wi w0]
    exact pe_two k1 k2
theorem b158_36 {d : Nat} {Φ : Option pe_V → pe_H → Prop} {σ : pe_H} {M : Nat} (hF : pm_F M σ) {x1 : Int} {x2 : Int}   (k : pe_M d 157 [.inr (.inr M), .inl x1, .inl x2] σ (fun r σ' => pe_X d 158 (42, [some (.inr (.inr M)), some (.inl x1), some (.inl x2)], r.toList ++ [], σ') Φ)) : pe_X d 158 (36, [some (.inr (.inr M)), some (.inl x1), some (.inl x2)], [], σ) Φ := by
  refine pe_blk 19 3 ck158 [] (39, [some (.inr (.inr M)), some (.inl x1), some (.inl x2)], [.inl x2, .inl x1, .inr (.inr M)], σ) rfl ?_ ?_
  · exact trivial
  · try simp (disch := omega) only [pm_KM hF]
    exact pe_cal 22 ck158 rfl rfl rfl ⟨pm_KM hF, by decide⟩ k
theorem b158_42 {d : Nat} {Φ : Option pe_V → pe_H → Prop} {σ : pe_H} {M : Nat} (hF : pm_F M σ) {o1 : Option pe_V} {o2 : Option pe_V}   (k : pe_X d 158 (59, [some (.inr (.inr M)), o1, o2], [], σ) Φ) : pe_X d 158 (42, [some (.inr (.inr M)), o1, o2], [], σ) Φ := by
  refine pe_blk 23 1 ck158 [] (59, [some (.inr (.inr M)), o1, o2], [], σ) rfl ?_ ?_
  · exact trivial
  · exact k
theorem b158_45 {d : Nat} {Φ : Option pe_V → pe_H → Prop} {σ : pe_H} {M : Nat} (hF : pm_F M σ) {x1 : Int} {x2 : Int} (w0 : pe_in x1 := by unfold pe_in; omega) (h0 : 0 ≤ x1 := by first | assumption | omega) (h1 : x1 < 8 := by first | assumption | omega) (k : pe_X d 158 (59, [some (.inr (.inr M)), some (.inl x1), some (.inl x2)], [], pe_wI (pe_wI σ (M + 7) x1 5) (M + 12) x1 x2) Φ) : pe_X d 158 (45, [some (.inr (.inr M)), some (.inl x1), some (.inl x2)], [], σ) Φ := by
  have hM2 := pm_2 hF
  refine pe_blk 24 10 ck158 [pe_K σ M = 9, pe_K σ (pe_R σ M 7) = 10, 0 ≤ (pe_w x1), (pe_w x1) < pe_L σ (pe_R σ M 7), 2 ≤ (pe_R σ M 7), pe_K σ M = 9, pe_K σ (pe_R σ M 12) = 10, 0 ≤ (pe_w x1), (pe_w x1) < pe_L σ (pe_R σ M 12), 2 ≤ (pe_R σ M 12)] (59, [some (.inr (.inr M)), some (.inl x1), some (.inl x2)], [], pe_wI (pe_wI σ (pe_R σ M 7) (pe_w x1) 5) (pe_R σ M 12) (pe_w x1) x2) rfl ?_ ?_
  · first
    | (simp (disch := omega) only [pe_all, pe_wi w0, pm_K12 hF, pm_K7 hF, pm_KM hF, pm_L12 hF, pm_L7 hF, pm_R12 hF, pm_R7 hF]; done)
    | (simp (disch := omega) only [pe_all, pe_wi w0, pm_K12 hF, pm_K7 hF, pm_KM hF, pm_L12 hF, pm_L7 hF, pm_R12 hF, pm_R7 hF]; (repeat' apply And.intro) <;> first | assumption | omega | decide)
  · try simp (disch := omega) only [pe_wi w0, pm_K12 hF, pm_K7 hF, pm_KM hF, pm_L12 hF, pm_L7 hF, pm_R12 hF, pm_R7 hF]
    exact k
theorem b158_59 {d : Nat} {Φ : Option pe_V → pe_H → Prop} {σ : pe_H} {M : Nat} (hF : pm_F M σ) {o1 : Option pe_V} {o2 : Option pe_V}   (k : Φ none σ) : pe_X d 158 (59, [some (.inr (.inr M)), o1, o2], [], σ) Φ := by
  exact pe_fine 34 ck158 rfl rfl rfl trivial k
-- settle()V
def T159 : List (Nat × Instr × Nat) := [(0, .iconst 1, 1), (1, .istore_n 1, 1), (2, .iload_n 1, 1), (3, .ifCond .eq 67, 3), (6, .iconst 0, 1), (7, .istore_n 1, 1), (8, .iconst 0, 1), (9, .istore_n 2, 1), (10, .iload_n 2, 1), (11, .aload_n 0, 1), (12, .getfield 144, 3), (15, .if_icmp .ge 52, 3), (18, .aload_n 0, 1), (19, .getfield 28, 3), (22, .iload_n 2, 1), (23, .iaload, 1), (24, .iconst 5, 1), (25, .if_icmp .ne 36, 3), (28, .aload_n 0, 1), (29, .aload_n 0, 1), (30, .getfield 43, 3), (33, .iload_n 2, 1), (34, .iaload, 1), (35, .invokevirtual 151, 3), (38, .ifCond .eq 23, 3), (41, .aload_n 0, 1), (42, .getfield 28, 3), (45, .iload_n 2, 1), (46, .iconst 1, 1), (47, .iastore, 1), (48, .aload_n 0, 1), (49, .iload_n 2, 1), (50, .aload_n 0, 1), (51, .getfield 43, 3), (54, .iload_n 2, 1), (55, .iaload, 1), (56, .invokevirtual 190, 3), (59, .iconst 1, 1), (60, .istore_n 1, 1), (61, .iinc 2 1, 3), (64, .goto (-54), 3), (67, .goto (-65), 3), (70, .return_, 1)]
theorem ck159 : pe_ctx 159 9 false none 3 T159 := ⟨rfl, rfl, rfl, rfl, by decide +kernel, by decide, by decide⟩
theorem b159_0 {d : Nat} {Φ : Option pe_V → pe_H → Prop} {σ : pe_H} {M : Nat} (hF : pm_F M σ) {o1 : Option pe_V} {o2 : Option pe_V}   (k : pe_X d 159 (2, [some (.inr (.inr M)), some (.inl 1), o2], [], σ) Φ) : pe_X d 159 (0, [some (.inr (.inr M)), o1, o2], [], σ) Φ := by
  refine pe_blk 0 2 ck159 [] (2, [some (.inr (.inr M)), some (.inl 1), o2], [], σ) rfl ?_ ?_
  · exact trivial
  · exact k
theorem b159_2 {d : Nat} {Φ : Option pe_V → pe_H → Prop} {σ : pe_H} {M : Nat} (hF : pm_F M σ) {x1 : Int} {o2 : Option pe_V} (w0 : pe_in x1 := by unfold pe_in; omega)  (k1 : x1 = 0 → pe_X d 159 (70, [some (.inr (.inr M)), some (.inl x1), o2], [], σ) Φ) (k2 : ¬ (x1 = 0) → pe_X d 159 (6, [some (.inr (.inr M)), some (.inl x1), o2], [], σ) Φ) : pe_X d 159 (2, [some (.inr (.inr M)), some (.inl x1), o2], [], σ) Φ := by
  refine pe_blk 2 2 ck159 [] (cond (decide ((pe_w x1) = 0)) 70 6, [some (.inr (.inr M)), some (.inl x1), o2], [], σ) rfl ?_ ?_
  · exact trivial
  · try simp (disch := omega) only [pe_wi w0]
    exact pe_two k1 k2
theorem b159_6 {d : Nat} {Φ : Option pe_V → pe_H → Prop} {σ : pe_H} {M : Nat} (hF : pm_F M σ) {o1 : Option pe_V} {o2 : Option pe_V}   (k : pe_X d 159 (10, [some (.inr (.inr M)), some (.inl 0), some (.inl 0)], [], σ) Φ) : pe_X d 159 (6, [some (.inr (.inr M)), o1, o2], [], σ) Φ := by
  refine pe_blk 4 4 ck159 [] (10, [some (.inr (.inr M)), some (.inl 0), some (.inl 0)], [], σ) rfl ?_ ?_
  · exact trivial
  · exact k
theorem b159_10 {d : Nat} {Φ : Option pe_V → pe_H → Prop} {σ : pe_H} {M : Nat} (hF : pm_F M σ) {x1 : Int} {x2 : Int} (w0 : pe_in x2 := by unfold pe_in; omega) (w1 : pe_in (pe_I σ M 3) := by unfold pe_in; omega)  (k1 : (pe_I σ M 3) ≤ x2 → pe_X d 159 (67, [some (.inr (.inr M)), some (.inl x1), some (.inl x2)], [], σ) Φ) (k2 : ¬ ((pe_I σ M 3) ≤ x2) → pe_X d 159 (18, [some (.inr (.inr M)), some (.inl x1), some (.inl x2)], [], σ) Φ) : pe_X d 159 (10, [some (.inr (.inr M)), some (.inl x1), some (.inl x2)], [], σ) Φ := by
  refine pe_blk 8 4 ck159 [pe_K σ M = 9] (cond (decide ((pe_w (pe_I σ M 3)) ≤ (pe_w x2))) 67 18, [some (.inr (.inr M)), some (.inl x1), some (.inl x2)], [], σ) rfl ?_ ?_
  · first
    | (simp (disch := omega) only [pe_all, pe_wi w0, pe_wi w1, pm_KM hF]; done)
    | (simp (disch := omega) only [pe_all, pe_wi w0, pe_wi w1, pm_KM hF]; (repeat' apply And.intro) <;> first | assumption | omega | decide)
  · try simp (disch := omega) only [pe_wi w0, pe_wi w1, pm_KM hF]
    exact pe_two k1 k2
theorem b159_18 {d : Nat} {Φ : Option pe_V → pe_H → Prop} {σ : pe_H} {M : Nat} (hF : pm_F M σ) {x1 : Int} {x2 : Int} (w0 : pe_in x2 := by unfold pe_in; omega) (w1 : pe_in (pe_I σ (M + 7) x2) := by unfold pe_in; omega) (h0 : 0 ≤ x2 := by first | assumption | omega) (h1 : x2 < 8 := by first | assumption | omega) (k1 : ¬ (pe_I σ (M + 7) x2) = 5 → pe_X d 159 (61, [some (.inr (.inr M)), some (.inl x1), some (.inl x2)], [], σ) Φ) (k2 : (pe_I σ (M + 7) x2) = 5 → pe_X d 159 (28, [some (.inr (.inr M)), some (.inl x1), some (.inl x2)], [], σ) Φ) : pe_X d 159 (18, [some (.inr (.inr M)), some (.inl x1), some (.inl x2)], [], σ) Φ := by
  refine pe_blk 12 6 ck159 [pe_K σ M = 9, pe_K σ (pe_R σ M 7) = 10, 0 ≤ (pe_w x2), (pe_w x2) < pe_L σ (pe_R σ M 7)] (cond (decide (¬ (pe_w (pe_I σ (pe_R σ M 7) (pe_w x2))) = (pe_w 5))) 61 28, [some (.inr (.inr M)), some (.inl x1), some (.inl x2)], [], σ) rfl ?_ ?_
  · first
    | (simp (disch := omega) only [pe_all, pe_wi w0, pe_wi w1, pe_wi (x := 5) ⟨by decide, by decide⟩, pm_K7 hF, pm_KM hF, pm_L7 hF, pm_R7 hF]; done)
    | (simp (disch := omega) only [pe_all, pe_wi w0, pe_wi w1, pe_wi (x := 5) ⟨by decide, by decide⟩, pm_K7 hF, pm_KM hF, pm_L7 hF, pm_R7 hF]; (repeat' apply And.intro) <;> first | assumption | omega | decide)
  · try simp (disch := omega) only [pe_wi w0, pe_wi w1, pe_wi (x := 5) ⟨by decide, by decide⟩, pm_K7 hF, pm_KM hF, pm_L7 hF, pm_R7 hF]
    exact pe_two' k1 k2
theorem b159_28 {d : Nat} {Φ : Option pe_V → pe_H → Prop} {σ : pe_H} {M : Nat} (hF : pm_F M σ) {x1 : Int} {x2 : Int} (w0 : pe_in x2 := by unfold pe_in; omega) (h0 : 0 ≤ x2 := by first | assumption | omega) (h1 : x2 < 8 := by first | assumption | omega) (k : pe_M d 139 [.inr (.inr M), .inl (pe_I σ (M + 12) x2)] σ (fun r σ' => pe_X d 159 (38, [some (.inr (.inr M)), some (.inl x1), some (.inl x2)], r.toList ++ [], σ') Φ)) : pe_X d 159 (28, [some (.inr (.inr M)), some (.inl x1), some (.inl x2)], [], σ) Φ := by
  refine pe_blk 18 5 ck159 [pe_K σ M = 9, pe_K σ (pe_R σ M 12) = 10, 0 ≤ (pe_w x2), (pe_w x2) < pe_L σ (pe_R σ M 12)] (35, [some (.inr (.inr M)), some (.inl x1), some (.inl x2)], [.inl (pe_I σ (pe_R σ M 12) (pe_w x2)), .inr (.inr M)], σ) rfl ?_ ?_
  · first
    | (simp (disch := omega) only [pe_all, pe_wi w0, pm_K12 hF, pm_KM hF, pm_L12 hF, pm_R12 hF]; done)
    | (simp (disch := omega) only [pe_all, pe_wi w0, pm_K12 hF, pm_KM hF, pm_L12 hF, pm_R12 hF]; (repeat' apply And.intro) <;> first | assumption | omega | decide)
  · try simp (disch := omega) only [pe_wi w0, pm_K12 hF, pm_KM hF, pm_L12 hF, pm_R12 hF]
    exact pe_cal 23 ck159 rfl rfl rfl ⟨pm_KM hF, by decide⟩ k
theorem b159_38 {d : Nat} {Φ : Option pe_V → pe_H → Prop} {σ : pe_H} {M : Nat} (hF : pm_F M σ) {x1 : Int} {x2 : Int} {s0 : Int} (w0 : pe_in s0 := by unfold pe_in; omega)  (k1 : s0 = 0 → pe_X d 159 (61, [some (.inr (.inr M)), some (.inl x1), some (.inl x2)], [], σ) Φ) (k2 : ¬ (s0 = 0) → pe_X d 159 (41, [some (.inr (.inr M)), some (.inl x1), some (.inl x2)], [], σ) Φ) : pe_X d 159 (38, [some (.inr (.inr M)), some (.inl x1), some (.inl x2)], [.inl s0], σ) Φ := by
  refine pe_blk 24 1 ck159 [] (cond (decide ((pe_w s0) = 0)) 61 41, [some (.inr (.inr M)), some (.inl x1), some (.inl x2)], [], σ) rfl ?_ ?_
  · exact trivial
  · try simp (disch := omega) only [pe_wi w0]
    exact pe_two k1 k2
theorem b159_41 {d : Nat} {Φ : Option pe_V → pe_H → Prop} {σ : pe_H} {M : Nat} (hF : pm_F M σ) {o1 : Option pe_V} {x2 : Int} (w0 : pe_in x2 := by unfold pe_in; omega) (h0 : 0 ≤ x2 := by first | assumption | omega) (h1 : x2 < 8 := by first | assumption | omega) (k : pe_M d 157 [.inr (.inr M), .inl x2, .inl (pe_I σ (M + 12) x2)] (pe_wI σ (M + 7) x2 1) (fun r σ' => pe_X d 159 (59, [some (.inr (.inr M)), o1, some (.inl x2)], r.toList ++ [], σ') Φ)) : pe_X d 159 (41, [some (.inr (.inr M)), o1, some (.inl x2)], [], σ) Φ := by
  have hM2 := pm_2 hF
  refine pe_blk 25 11 ck159 [pe_K σ M = 9, pe_K σ (pe_R σ M 7) = 10, 0 ≤ (pe_w x2), (pe_w x2) < pe_L σ (pe_R σ M 7), 2 ≤ (pe_R σ M 7), pe_K σ M = 9, pe_K σ (pe_R σ M 12) = 10, 0 ≤ (pe_w x2), (pe_w x2) < pe_L σ (pe_R σ M 12)] (56, [some (.inr (.inr M)), o1, some (.inl x2)], [.inl (pe_I (pe_wI σ (pe_R σ M 7) (pe_w x2) 1) (pe_R σ M 12) (pe_w x2)), .inl x2, .inr (.inr M)], pe_wI σ (pe_R σ M 7) (pe_w x2) 1) rfl ?_ ?_
  · first
    | (simp (disch := omega) only [pe_all, pe_wi w0, pe_I_nej, pe_I_ner, pm_K12 hF, pm_K7 hF, pm_KM hF, pm_L12 hF, pm_L7 hF, pm_R12 hF, pm_R7 hF]; done)
    | (simp (disch := omega) only [pe_all, pe_wi w0, pe_I_nej, pe_I_ner, pm_K12 hF, pm_K7 hF, pm_KM hF, pm_L12 hF, pm_L7 hF, pm_R12 hF, pm_R7 hF]; (repeat' apply And.intro) <;> first | assumption | omega | decide)
  · try simp (disch := omega) only [pe_wi w0, pe_I_nej, pe_I_ner, pm_K12 hF, pm_K7 hF, pm_KM hF, pm_L12 hF, pm_L7 hF, pm_R12 hF, pm_R7 hF]
    exact pe_cal 36 ck159 rfl rfl rfl ⟨pm_KM hF, by decide⟩ k
theorem b159_59 {d : Nat} {Φ : Option pe_V → pe_H → Prop} {σ : pe_H} {M : Nat} (hF : pm_F M σ) {o1 : Option pe_V} {x2 : Int}   (k : pe_X d 159 (61, [some (.inr (.inr M)), some (.inl 1), some (.inl x2)], [], σ) Φ) : pe_X d 159 (59, [some (.inr (.inr M)), o1, some (.inl x2)], [], σ) Φ := by
  refine pe_blk 37 2 ck159 [] (61, [some (.inr (.inr M)), some (.inl 1), some (.inl x2)], [], σ) rfl ?_ ?_
  · exact trivial
  · exact k
theorem b159_61 {d : Nat} {Φ : Option pe_V → pe_H → Prop} {σ : pe_H} {M : Nat} (hF : pm_F M σ) {x1 : Int} {x2 : Int}   (k : pe_X d 159 (10, [some (.inr (.inr M)), some (.inl x1), some (.inl (x2 + 1))], [], σ) Φ) : pe_X d 159 (61, [some (.inr (.inr M)), some (.inl x1), some (.inl x2)], [], σ) Φ := by
  refine pe_blk 39 2 ck159 [] (10, [some (.inr (.inr M)), some (.inl x1), some (.inl (x2 + 1))], [], σ) rfl ?_ ?_
  · exact trivial
  · exact k
theorem b159_67 {d : Nat} {Φ : Option pe_V → pe_H → Prop} {σ : pe_H} {M : Nat} (hF : pm_F M σ) {x1 : Int} {o2 : Option pe_V}   (k : pe_X d 159 (2, [some (.inr (.inr M)), some (.inl x1), o2], [], σ) Φ) : pe_X d 159 (67, [some (.inr (.inr M)), some (.inl x1), o2], [], σ) Φ := by
  refine pe_blk 41 1 ck159 [] (2, [some (.inr (.inr M)), some (.inl x1), o2], [], σ) rfl ?_ ?_
  · exact trivial
  · exact k
theorem b159_70 {d : Nat} {Φ : Option pe_V → pe_H → Prop} {σ : pe_H} {M : Nat} (hF : pm_F M σ) {o1 : Option pe_V} {o2 : Option pe_V}   (k : Φ none σ) : pe_X d 159 (70, [some (.inr (.inr M)), o1, o2], [], σ) Φ := by
  exact pe_fine 42 ck159 rfl rfl rfl trivial k
-- isIdle(I)Z
def T160 : List (Nat × Instr × Nat) := [(0, .iload_n 0, 1), (1, .bipush 121, 2), (3, .if_icmp .eq 33, 3), (6, .iload_n 0, 1), (7, .bipush 115, 2), (9, .if_icmp .eq 27, 3), (12, .iload_n 0, 1), (13, .bipush 103, 2), (15, .if_icmp .eq 21, 3), (18, .iload_n 0, 1), (19, .bipush 106, 2), (21, .if_icmp .eq 15, 3), (24, .iload_n 0, 1), (25, .bipush 100, 2), (27, .if_icmp .eq 9, 3), (30, .iload_n 0, 1), (31, .bipush 114, 2), (33, .if_icmp .ne 7, 3), (36, .iconst 1, 1), (37, .goto 4, 3), (40, .iconst 0, 1), (41, .ireturn, 1)]
theorem ck160 : pe_ctx 160 9 false (some .boolean) 1 T160 := ⟨rfl, rfl, rfl, rfl, by decide +kernel, by decide, by decide⟩
theorem b160_0 {d : Nat} {Φ : Option pe_V → pe_H → Prop} {σ : pe_H} {M : Nat} (hF : pm_F M σ) {x0 : Int} (w0 : pe_in x0 := by unfold pe_in; omega)  (k1 : x0 = 121 → pe_X d 160 (36, [some (.inl x0)], [], σ) Φ) (k2 : ¬ (x0 = 121) → pe_X d 160 (6, [some (.inl x0)], [], σ) Φ) : pe_X d 160 (0, [some (.inl x0)], [], σ) Φ := by
  refine pe_blk 0 3 ck160 [] (cond (decide ((pe_w x0) = (pe_w 121))) 36 6, [some (.inl x0)], [], σ) rfl ?_ ?_
  · exact trivial
  · try simp (disch := omega) only [pe_wi w0, pe_wi (x := 121) ⟨by decide, by decide⟩]
    exact pe_two k1 k2
theorem b160_6 {d : Nat} {Φ : Option pe_V → pe_H → Prop} {σ : pe_H} {M : Nat} (hF : pm_F M σ) {x0 : Int} (w0 : pe_in x0 := by unfold pe_in; omega)  (k1 : x0 = 115 → pe_X d 160 (36, [some (.inl x0)], [], σ) Φ) (k2 : ¬ (x0 = 115) → pe_X d 160 (12, [some (.inl x0)], [], σ) Φ) : pe_X d 160 (6, [some (.inl x0)], [], σ) Φ := by
  refine pe_blk 3 3 ck160 [] (cond (decide ((pe_w x0) = (pe_w 115))) 36 12, [some (.inl x0)], [], σ) rfl ?_ ?_
  · exact trivial
  · try simp (disch := omega) only [pe_wi w0, pe_wi (x := 115) ⟨by decide, by decide⟩]
    exact pe_two k1 k2
theorem b160_12 {d : Nat} {Φ : Option pe_V → pe_H → Prop} {σ : pe_H} {M : Nat} (hF : pm_F M σ) {x0 : Int} (w0 : pe_in x0 := by unfold pe_in; omega)  (k1 : x0 = 103 → pe_X d 160 (36, [some (.inl x0)], [], σ) Φ) (k2 : ¬ (x0 = 103) → pe_X d 160 (18, [some (.inl x0)], [], σ) Φ) : pe_X d 160 (12, [some (.inl x0)], [], σ) Φ := by
  refine pe_blk 6 3 ck160 [] (cond (decide ((pe_w x0) = (pe_w 103))) 36 18, [some (.inl x0)], [], σ) rfl ?_ ?_
  · exact trivial
  · try simp (disch := omega) only [pe_wi w0, pe_wi (x := 103) ⟨by decide, by decide⟩]
    exact pe_two k1 k2
theorem b160_18 {d : Nat} {Φ : Option pe_V → pe_H → Prop} {σ : pe_H} {M : Nat} (hF : pm_F M σ) {x0 : Int} (w0 : pe_in x0 := by unfold pe_in; omega)  (k1 : x0 = 106 → pe_X d 160 (36, [some (.inl x0)], [], σ) Φ) (k2 : ¬ (x0 = 106) → pe_X d 160 (24, [some (.inl x0)], [], σ) Φ) : pe_X d 160 (18, [some (.inl x0)], [], σ) Φ := by
  refine pe_blk 9 3 ck160 [] (cond (decide ((pe_w x0) = (pe_w 106))) 36 24, [some (.inl x0)], [], σ) rfl ?_ ?_
  · exact trivial
  · try simp (disch := omega) only [pe_wi w0, pe_wi (x := 106) ⟨by decide, by decide⟩]
    exact pe_two k1 k2
theorem b160_24 {d : Nat} {Φ : Option pe_V → pe_H → Prop} {σ : pe_H} {M : Nat} (hF : pm_F M σ) {x0 : Int} (w0 : pe_in x0 := by unfold pe_in; omega)  (k1 : x0 = 100 → pe_X d 160 (36, [some (.inl x0)], [], σ) Φ) (k2 : ¬ (x0 = 100) → pe_X d 160 (30, [some (.inl x0)], [], σ) Φ) : pe_X d 160 (24, [some (.inl x0)], [], σ) Φ := by
  refine pe_blk 12 3 ck160 [] (cond (decide ((pe_w x0) = (pe_w 100))) 36 30, [some (.inl x0)], [], σ) rfl ?_ ?_
  · exact trivial
  · try simp (disch := omega) only [pe_wi w0, pe_wi (x := 100) ⟨by decide, by decide⟩]
    exact pe_two k1 k2
theorem b160_30 {d : Nat} {Φ : Option pe_V → pe_H → Prop} {σ : pe_H} {M : Nat} (hF : pm_F M σ) {x0 : Int} (w0 : pe_in x0 := by unfold pe_in; omega)  (k1 : ¬ x0 = 114 → pe_X d 160 (40, [some (.inl x0)], [], σ) Φ) (k2 : x0 = 114 → pe_X d 160 (36, [some (.inl x0)], [], σ) Φ) : pe_X d 160 (30, [some (.inl x0)], [], σ) Φ := by
  refine pe_blk 15 3 ck160 [] (cond (decide (¬ (pe_w x0) = (pe_w 114))) 40 36, [some (.inl x0)], [], σ) rfl ?_ ?_
  · exact trivial
  · try simp (disch := omega) only [pe_wi w0, pe_wi (x := 114) ⟨by decide, by decide⟩]
    exact pe_two' k1 k2
theorem b160_36 {d : Nat} {Φ : Option pe_V → pe_H → Prop} {σ : pe_H} {M : Nat} (hF : pm_F M σ) {o0 : Option pe_V}   (k : pe_X d 160 (41, [o0], [.inl 1], σ) Φ) : pe_X d 160 (36, [o0], [], σ) Φ := by
  refine pe_blk 18 2 ck160 [] (41, [o0], [.inl 1], σ) rfl ?_ ?_
  · exact trivial
  · exact k
theorem b160_40 {d : Nat} {Φ : Option pe_V → pe_H → Prop} {σ : pe_H} {M : Nat} (hF : pm_F M σ) {o0 : Option pe_V}   (k : pe_X d 160 (41, [o0], [.inl 0], σ) Φ) : pe_X d 160 (40, [o0], [], σ) Φ := by
  refine pe_blk 20 1 ck160 [] (41, [o0], [.inl 0], σ) rfl ?_ ?_
  · exact trivial
  · exact k
theorem b160_41 {d : Nat} {Φ : Option pe_V → pe_H → Prop} {σ : pe_H} {M : Nat} (hF : pm_F M σ) {o0 : Option pe_V} {s0 : Int}  (h0 : s0 = 0 ∨ s0 = 1 := by first | assumption | omega) (k : Φ (some (.inl s0)) σ) : pe_X d 160 (41, [o0], [.inl s0], σ) Φ := by
  exact pe_fine 21 ck160 rfl rfl rfl h0 k
-- deeper(II)V
def T161 : List (Nat × Instr × Nat) := [(0, .aload_n 0, 1), (1, .getfield 49, 3), (4, .iload_n 1, 1), (5, .iaload, 1), (6, .bipush 6, 2), (8, .if_icmp .eq 8, 3), (11, .iload_n 2, 1), (12, .iconst 4, 1), (13, .if_icmp .le 34, 3), (16, .aload_n 0, 1), (17, .iload_n 1, 1), (18, .aload_n 0, 1), (19, .aload_n 0, 1), (20, .getfield 49, 3), (23, .iload_n 1, 1), (24, .iaload, 1), (25, .bipush 6, 2), (27, .if_icmp .ne 8, 3), (30, .bipush 7, 2), (32, .goto 5, 3), (35, .bipush 6, 2), (37, .iconst (-1), 1), (38, .invokevirtual 176, 3), (41, .invokevirtual 165, 3), (44, .goto 9, 3), (47, .aload_n 0, 1), (48, .iload_n 1, 1), (49, .iload_n 2, 1), (50, .invokevirtual 193, 3), (53, .return_, 1)]
theorem ck161 : pe_ctx 161 9 false none 3 T161 := ⟨rfl, rfl, rfl, rfl, by decide +kernel, by decide, by decide⟩
theorem b161_0 {d : Nat} {Φ : Option pe_V → pe_H → Prop} {σ : pe_H} {M : Nat} (hF : pm_F M σ) {x1 : Int} {x2 : Int} (w0 : pe_in x1 := by unfold pe_in; omega) (w1 : pe_in (pe_I σ (M + 14) x1) := by unfold pe_in; omega) (h0 : 0 ≤ x1 := by first | assumption | omega) (h1 : x1 < 8 := by first | assumption | omega) (k1 : (pe_I σ (M + 14) x1) = 6 → pe_X d 161 (16, [some (.inr (.inr M)), some (.inl x1), some (.inl x2)], [], σ) Φ) (k2 : ¬ ((pe_I σ (M + 14) x1) = 6) → pe_X d 161 (11, [some (.inr (.inr M)), some (.inl x1), some (.inl x2)], [], σ) Φ) : pe_X d 161 (0, [some (.inr (.inr M)), some (.inl x1), some (.inl x2)], [], σ) Φ := by
  refine pe_blk 0 6 ck161 [pe_K σ M = 9, pe_K σ (pe_R σ M 14) = 10, 0 ≤ (pe_w x1), (pe_w x1) < pe_L σ (pe_R σ M 14)] (cond (decide ((pe_w (pe_I σ (pe_R σ M 14) (pe_w x1))) = (pe_w 6))) 16 11, [some (.inr (.inr M)), some (.inl x1), some (.inl x2)], [], σ) rfl ?_ ?_
  · first
    | (simp (disch := omega) only [pe_all, pe_wi w0, pe_wi w1, pe_wi (x := 6) ⟨by decide, by decide⟩, pm_K14 hF, pm_KM hF, pm_L14 hF, pm_R14 hF]; done)
    | (simp (disch := omega) only [pe_all, pe_wi w0, pe_wi w1, pe_wi (x := 6) ⟨by decide, by decide⟩, pm_K14 hF, pm_KM hF, pm_L14 hF, pm_R14 hF]; (repeat' apply And.intro) <;> first | assumption | omega | decide)
  · try simp (disch := omega) only [pe_wi w0, pe_wi w1, pe_wi (x := 6) ⟨by decide, by decide⟩, pm_K14 hF, pm_KM hF, pm_L14 hF, pm_R14 hF]
    exact pe_two k1 k2
theorem b161_11 {d : Nat} {Φ : Option pe_V → pe_H → Prop} {σ : pe_H} {M : Nat} (hF : pm_F M σ) {x1 : Int} {x2 : Int} (w0 : pe_in x2 := by unfold pe_in; omega)  (k1 : x2 ≤ 4 → pe_X d 161 (47, [some (.inr (.inr M)), some (.inl x1), some (.inl x2)], [], σ) Φ) (k2 : ¬ (x2 ≤ 4) → pe_X d 161 (16, [some (.inr (.inr M)), some (.inl x1), some (.inl x2)], [], σ) Φ) : pe_X d 161 (11, [some (.inr (.inr M)), some (.inl x1), some (.inl x2)], [], σ) Φ := by
  refine pe_blk 6 3 ck161 [] (cond (decide ((pe_w x2) ≤ (pe_w 4))) 47 16, [some (.inr (.inr M)), some (.inl x1), some (.inl x2)], [], σ) rfl ?_ ?_
  · exact trivial
  · try simp (disch := omega) only [pe_wi w0, pe_wi (x := 4) ⟨by decide, by decide⟩]
    exact pe_two k1 k2
theorem b161_16 {d : Nat} {Φ : Option pe_V → pe_H → Prop} {σ : pe_H} {M : Nat} (hF : pm_F M σ) {x1 : Int} {o2 : Option pe_V} (w0 : pe_in x1 := by unfold pe_in; omega) (w1 : pe_in (pe_I σ (M + 14) x1) := by unfold pe_in; omega) (h0 : 0 ≤ x1 := by first | assumption | omega) (h1 : x1 < 8 := by first | assumption | omega) (k1 : ¬ (pe_I σ (M + 14) x1) = 6 → pe_X d 161 (35, [some (.inr (.inr M)), some (.inl x1), o2], [.inr (.inr M), .inl x1, .inr (.inr M)], σ) Φ) (k2 : (pe_I σ (M + 14) x1) = 6 → pe_X d 161 (30, [some (.inr (.inr M)), some (.inl x1), o2], [.inr (.inr M), .inl x1, .inr (.inr M)], σ) Φ) : pe_X d 161 (16, [some (.inr (.inr M)), some (.inl x1), o2], [], σ) Φ := by
  refine pe_blk 9 9 ck161 [pe_K σ M = 9, pe_K σ (pe_R σ M 14) = 10, 0 ≤ (pe_w x1), (pe_w x1) < pe_L σ (pe_R σ M 14)] (cond (decide (¬ (pe_w (pe_I σ (pe_R σ M 14) (pe_w x1))) = (pe_w 6))) 35 30, [some (.inr (.inr M)), some (.inl x1), o2], [.inr (.inr M), .inl x1, .inr (.inr M)], σ) rfl ?_ ?_
  · first
    | (simp (disch := omega) only [pe_all, pe_wi w0, pe_wi w1, pe_wi (x := 6) ⟨by decide, by decide⟩, pm_K14 hF, pm_KM hF, pm_L14 hF, pm_R14 hF]; done)
    | (simp (disch := omega) only [pe_all, pe_wi w0, pe_wi w1, pe_wi (x := 6) ⟨by decide, by decide⟩, pm_K14 hF, pm_KM hF, pm_L14 hF, pm_R14 hF]; (repeat' apply And.intro) <;> first | assumption | omega | decide)
  · try simp (disch := omega) only [pe_wi w0, pe_wi w1, pe_wi (x := 6) ⟨by decide, by decide⟩, pm_K14 hF, pm_KM hF, pm_L14 hF, pm_R14 hF]
    exact pe_two' k1 k2
theorem b161_30 {d : Nat} {Φ : Option pe_V → pe_H → Prop} {σ : pe_H} {M : Nat} (hF : pm_F M σ) {o1 : Option pe_V} {o2 : Option pe_V} {b0 : Nat} {s1 : Int} {b2 : Nat}   (k : pe_X d 161 (37, [some (.inr (.inr M)), o1, o2], [.inl 7, .inr (.inr b2), .inl s1, .inr (.inr b0)], σ) Φ) : pe_X d 161 (30, [some (.inr (.inr M)), o1, o2], [.inr (.inr b2), .inl s1, .inr (.inr b0)], σ) Φ := by
  refine pe_blk 18 2 ck161 [] (37, [some (.inr (.inr M)), o1, o2], [.inl 7, .inr (.inr b2), .inl s1, .inr (.inr b0)], σ) rfl ?_ ?_
  · exact trivial
  · exact k
theorem b161_35 {d : Nat} {Φ : Option pe_V → pe_H → Prop} {σ : pe_H} {M : Nat} (hF : pm_F M σ) {o1 : Option pe_V} {o2 : Option pe_V} {b0 : Nat} {s1 : Int} {b2 : Nat}   (k : pe_X d 161 (37, [some (.inr (.inr M)), o1, o2], [.inl 6, .inr (.inr b2), .inl s1, .inr (.inr b0)], σ) Φ) : pe_X d 161 (35, [some (.inr (.inr M)), o1, o2], [.inr (.inr b2), .inl s1, .inr (.inr b0)], σ) Φ := by
  refine pe_blk 20 1 ck161 [] (37, [some (.inr (.inr M)), o1, o2], [.inl 6, .inr (.inr b2), .inl s1, .inr (.inr b0)], σ) rfl ?_ ?_
  · exact trivial
  · exact k
theorem b161_37 {d : Nat} {Φ : Option pe_V → pe_H → Prop} {σ : pe_H} {M : Nat} (hF : pm_F M σ) {o1 : Option pe_V} {o2 : Option pe_V} {b0 : Nat} {s1 : Int} {b2 : Nat} {s3 : Int}  (h0 : pe_K σ b2 = 9 := by first | assumption | omega) (k : pe_M d 148 [.inr (.inr b2), .inl s3, .inl (-1)] σ (fun r σ' => pe_X d 161 (41, [some (.inr (.inr M)), o1, o2], r.toList ++ [.inl s1, .inr (.inr b0)], σ') Φ)) : pe_X d 161 (37, [some (.inr (.inr M)), o1, o2], [.inl s3, .inr (.inr b2), .inl s1, .inr (.inr b0)], σ) Φ := by
  refine pe_blk 21 1 ck161 [] (38, [some (.inr (.inr M)), o1, o2], [.inl (-1), .inl s3, .inr (.inr b2), .inl s1, .inr (.inr b0)], σ) rfl ?_ ?_
  · exact trivial
  · exact pe_cal 22 ck161 rfl rfl rfl ⟨by assumption, by decide⟩ k
theorem b161_41 {d : Nat} {Φ : Option pe_V → pe_H → Prop} {σ : pe_H} {M : Nat} (hF : pm_F M σ) {o1 : Option pe_V} {o2 : Option pe_V} {b0 : Nat} {s1 : Int} {s2 : Int}  (h0 : pe_K σ b0 = 9 := by first | assumption | omega) (k : pe_M d 149 [.inr (.inr b0), .inl s1, .inl s2] σ (fun r σ' => pe_X d 161 (44, [some (.inr (.inr M)), o1, o2], r.toList ++ [], σ') Φ)) : pe_X d 161 (41, [some (.inr (.inr M)), o1, o2], [.inl s2, .inl s1, .inr (.inr b0)], σ) Φ := by
  exact pe_cal 23 ck161 rfl rfl rfl ⟨by assumption, by decide⟩ k
theorem b161_44 {d : Nat} {Φ : Option pe_V → pe_H → Prop} {σ : pe_H} {M : Nat} (hF : pm_F M σ) {o1 : Option pe_V} {o2 : Option pe_V}   (k : pe_X d 161 (53, [some (.inr (.inr M)), o1, o2], [], σ) Φ) : pe_X d 161 (44, [some (.inr (.inr M)), o1, o2], [], σ) Φ := by
  refine pe_blk 24 1 ck161 [] (53, [some (.inr (.inr M)), o1, o2], [], σ) rfl ?_ ?_
  · exact trivial
  · exact k
theorem b161_47 {d : Nat} {Φ : Option pe_V → pe_H → Prop} {σ : pe_H} {M : Nat} (hF : pm_F M σ) {x1 : Int} {x2 : Int}   (k : pe_M d 146 [.inr (.inr M), .inl x1, .inl x2] σ (fun r σ' => pe_X d 161 (53, [some (.inr (.inr M)), some (.inl x1), some (.inl x2)], r.toList ++ [], σ') Φ)) : pe_X d 161 (47, [some (.inr (.inr M)), some (.inl x1), some (.inl x2)], [], σ) Φ := by
  refine pe_blk 25 3 ck161 [] (50, [some (.inr (.inr M)), some (.inl x1), some (.inl x2)], [.inl x2, .inl x1, .inr (.inr M)], σ) rfl ?_ ?_
  · exact trivial
  · try simp (disch := omega) only [pm_KM hF]
    exact pe_cal 28 ck161 rfl rfl rfl ⟨pm_KM hF, by decide⟩ k
theorem b161_53 {d : Nat} {Φ : Option pe_V → pe_H → Prop} {σ : pe_H} {M : Nat} (hF : pm_F M σ) {o1 : Option pe_V} {o2 : Option pe_V}   (k : Φ none σ) : pe_X d 161 (53, [some (.inr (.inr M)), o1, o2], [], σ) Φ := by
  exact pe_fine 29 ck161 rfl rfl rfl trivial k
-- yields(II)V
def T162 : List (Nat × Instr × Nat) := [(0, .aload_n 0, 1), (1, .getfield 34, 3), (4, .iload_n 1, 1), (5, .aload_n 0, 1), (6, .iload_n 1, 1), (7, .iload_n 2, 1), (8, .invokevirtual 196, 3), (11, .iastore, 1), (12, .aload_n 0, 1), (13, .getfield 37, 3), (16, .iload_n 1, 1), (17, .aload_n 0, 1), (18, .getfield 37, 3), (21, .iload_n 1, 1), (22, .iaload, 1), (23, .iconst 1, 1), (24, .iadd, 1), (25, .sipush 999, 3), (28, .invokestatic 199, 3), (31, .iastore, 1), (32, .aload_n 0, 1), (33, .getfield 28, 3), (36, .iload_n 1, 1), (37, .iconst 2, 1), (38, .iastore, 1), (39, .aload_n 0, 1), (40, .dup, 1), (41, .getfield 202, 3), (44, .iconst 1, 1), (45, .iload_n 1, 1), (46, .ishl, 1), (47, .ior, 1), (48, .putfield 202, 3), (51, .return_, 1)]
theorem ck162 : pe_ctx 162 9 false none 3 T162 := ⟨rfl, rfl, rfl, rfl, by decide +kernel, by decide, by decide⟩
theorem b162_0 {d : Nat} {Φ : Option pe_V → pe_H → Prop} {σ : pe_H} {M : Nat} (hF : pm_F M σ) {x1 : Int} {x2 : Int}   (k : pe_M d 143 [.inr (.inr M), .inl x1, .inl x2] σ (fun r σ' => pe_X d 162 (11, [some (.inr (.inr M)), some (.inl x1), some (.inl x2)], r.toList ++ [.inl x1, .inr (.inr (M + 9))], σ') Φ)) : pe_X d 162 (0, [some (.inr (.inr M)), some (.inl x1), some (.inl x2)], [], σ) Φ := by
  refine pe_blk 0 6 ck162 [pe_K σ M = 9] (8, [some (.inr (.inr M)), some (.inl x1), some (.inl x2)], [.inl x2, .inl x1, .inr (.inr M), .inl x1, .inr (.inr (pe_R σ M 9))], σ) rfl ?_ ?_
  · first
    | (simp (disch := omega) only [pe_all, pm_KM hF, pm_R9 hF]; done)
    | (simp (disch := omega) only [pe_all, pm_KM hF, pm_R9 hF]; (repeat' apply And.intro) <;> first | assumption | omega | decide)
  · try simp (disch := omega) only [pm_KM hF, pm_R9 hF]
    exact pe_cal 6 ck162 rfl rfl rfl ⟨pm_KM hF, by decide⟩ k
theorem b162_11 {d : Nat} {Φ : Option pe_V → pe_H → Prop} {σ : pe_H} {M : Nat} (hF : pm_F M σ) {x1 : Int} {o2 : Option pe_V} {b0 : Nat} {s1 : Int} {s2 : Int} (w0 : pe_in s1 := by unfold pe_in; omega) (w1 : pe_in x1 := by unfold pe_in; omega) (h0 : pe_K σ b0 = 10 := by first | assumption | omega) (h1 : 0 ≤ s1 := by first | assumption | omega) (h2 : s1 < pe_L σ b0 := by first | assumption | omega) (h3 : 2 ≤ b0 := by first | assumption | omega) (h4 : 0 ≤ x1 := by first | assumption | omega) (h5 : x1 < 8 := by first | assumption | omega) (k : pe_M d 137 [.inl ((pe_I (pe_wI σ b0 s1 s2) (M + 10) x1) + 1), .inl 999] (pe_wI σ b0 s1 s2) (fun r σ' => pe_X d 162 (31, [some (.inr (.inr M)), some (.inl x1), o2], r.toList ++ [.inl x1, .inr (.inr (M + 10))], σ') Φ)) : pe_X d 162 (11, [some (.inr (.inr M)), some (.inl x1), o2], [.inl s2, .inl s1, .inr (.inr b0)], σ) Φ := by
  refine pe_blk 7 11 ck162 [pe_K σ b0 = 10, 0 ≤ (pe_w s1), (pe_w s1) < pe_L σ b0, 2 ≤ b0, pe_K σ M = 9, pe_K σ M = 9, pe_K σ (pe_R σ M 10) = 10, 0 ≤ (pe_w x1), (pe_w x1) < pe_L σ (pe_R σ M 10)] (28, [some (.inr (.inr M)), some (.inl x1), o2], [.inl 999, .inl ((pe_I (pe_wI σ b0 (pe_w s1) s2) (pe_R σ M 10) (pe_w x1)) + 1), .inl x1, .inr (.inr (pe_R σ M 10))], pe_wI σ b0 (pe_w s1) s2) rfl ?_ ?_
  · first
    | (simp (disch := omega) only [pe_all, pe_wi w0, pe_wi w1, pm_K10 hF, pm_KM hF, pm_L10 hF, pm_R10 hF]; done)
    | (simp (disch := omega) only [pe_all, pe_wi w0, pe_wi w1, pm_K10 hF, pm_KM hF, pm_L10 hF, pm_R10 hF]; (repeat' apply And.intro) <;> first | assumption | omega | decide)
  · try simp (disch := omega) only [pe_wi w0, pe_wi w1, pm_K10 hF, pm_KM hF, pm_L10 hF, pm_R10 hF]
    exact pe_cal 18 ck162 rfl rfl rfl trivial k
theorem b162_31 {d : Nat} {Φ : Option pe_V → pe_H → Prop} {σ : pe_H} {M : Nat} (hF : pm_F M σ) {x1 : Int} {o2 : Option pe_V} {b0 : Nat} {s1 : Int} {s2 : Int} (w0 : pe_in s1 := by unfold pe_in; omega) (w1 : pe_in x1 := by unfold pe_in; omega) (h0 : pe_K σ b0 = 10 := by first | assumption | omega) (h1 : 0 ≤ s1 := by first | assumption | omega) (h2 : s1 < pe_L σ b0 := by first | assumption | omega) (h3 : 2 ≤ b0 := by first | assumption | omega) (h4 : 0 ≤ x1 := by first | assumption | omega) (h5 : x1 < 8 := by first | assumption | omega) (k : Φ none (pe_wI (pe_wI (pe_wI σ b0 s1 s2) (M + 7) x1 2) M 30 (pe_or (pe_I (pe_wI σ b0 s1 s2) M 30) (pe_shl 1 x1)))) : pe_X d 162 (31, [some (.inr (.inr M)), some (.inl x1), o2], [.inl s2, .inl s1, .inr (.inr b0)], σ) Φ := by
  have hM2 := pm_2 hF
  refine pe_blk 19 14 ck162 [pe_K σ b0 = 10, 0 ≤ (pe_w s1), (pe_w s1) < pe_L σ b0, 2 ≤ b0, pe_K σ M = 9, pe_K σ (pe_R σ M 7) = 10, 0 ≤ (pe_w x1), (pe_w x1) < pe_L σ (pe_R σ M 7), 2 ≤ (pe_R σ M 7), pe_K σ M = 9, pe_K σ M = 9] (51, [some (.inr (.inr M)), some (.inl x1), o2], [], pe_wI (pe_wI (pe_wI σ b0 (pe_w s1) s2) (pe_R σ M 7) (pe_w x1) 2) M 30 (pe_or (pe_I (pe_wI (pe_wI σ b0 (pe_w s1) s2) (pe_R σ M 7) (pe_w x1) 2) M 30) (pe_shl 1 x1))) rfl ?_ ?_
  · first
    | (simp (disch := omega) only [pe_all, pe_wi w0, pe_wi w1, pe_I_nej, pe_I_ner, pm_K7 hF, pm_KM hF, pm_L7 hF, pm_R7 hF]; done)
    | (simp (disch := omega) only [pe_all, pe_wi w0, pe_wi w1, pe_I_nej, pe_I_ner, pm_K7 hF, pm_KM hF, pm_L7 hF, pm_R7 hF]; (repeat' apply And.intro) <;> first | assumption | omega | decide)
  · try simp (disch := omega) only [pe_wi w0, pe_wi w1, pe_I_nej, pe_I_ner, pm_K7 hF, pm_KM hF, pm_L7 hF, pm_R7 hF]
    exact pe_fine 33 ck162 rfl rfl rfl trivial k
-- doesPlain(IIII)V
def T163 : List (Nat × Instr × Nat) := [(0, .iload_n 3, 1), (1, .lookupswitch 124 #[(97, 43), (102, 114), (109, 65), (122, 87)], 43), (44, .aload_n 0, 1), (45, .getfield 31, 3), (48, .iload_n 1, 1), (49, .aload_n 0, 1), (50, .getfield 31, 3), (53, .iload_n 1, 1), (54, .iaload, 1), (55, .iload 4, 2), (57, .iadd, 1), (58, .sipush 1000, 3), (61, .irem, 1), (62, .iastore, 1), (63, .goto 74, 3), (66, .aload_n 0, 1), (67, .getfield 31, 3), (70, .iload_n 1, 1), (71, .aload_n 0, 1), (72, .getfield 31, 3), (75, .iload_n 1, 1), (76, .iaload, 1), (77, .iload 4, 2), (79, .imul, 1), (80, .sipush 1000, 3), (83, .irem, 1), (84, .iastore, 1), (85, .goto 52, 3), (88, .aload_n 0, 1), (89, .getfield 58, 3), (92, .iload_n 2, 1), (93, .dup2, 1), (94, .iaload, 1), (95, .aload_n 0, 1), (96, .getfield 31, 3), (99, .iload_n 1, 1), (100, .iaload, 1), (101, .ifCond .ne 8, 3), (104, .iload 4, 2), (106, .goto 4, 3), (109, .iconst 0, 1), (110, .iadd, 1), (111, .iastore, 1), (112, .goto 25, 3), (115, .aload_n 0, 1), (116, .getfield 64, 3), (119, .iload_n 2, 1), (120, .iconst 1, 1), (121, .iastore, 1), (122, .goto 15, 3), (125, .aload_n 0, 1), (126, .iload_n 1, 1), (127, .aload_n 0, 1), (128, .iload 4, 2), (130, .iconst (-1), 1), (131, .invokevirtual 176, 3), (134, .invokevirtual 165, 3), (137, .return_, 1)]
theorem ck163 : pe_ctx 163 9 false none 5 T163 := ⟨rfl, rfl, rfl, rfl, by decide +kernel, by decide, by decide⟩
theorem b163_0 {d : Nat} {Φ : Option pe_V → pe_H → Prop} {σ : pe_H} {M : Nat} (hF : pm_F M σ) {x1 : Int} {x2 : Int} {x3 : Int} {x4 : Int} (w0 : pe_in x3 := by unfold pe_in; omega)  (k0 : x3 = 97 → pe_X d 163 (44, [some (.inr (.inr M)), some (.inl x1), some (.inl x2), some (.inl x3), some (.inl x4)], [], σ) Φ) (k1 : x3 = 102 → pe_X d 163 (115, [some (.inr (.inr M)), some (.inl x1), some (.inl x2), some (.inl x3), some (.inl x4)], [], σ) Φ) (k2 : x3 = 109 → pe_X d 163 (66, [some (.inr (.inr M)), some (.inl x1), some (.inl x2), some (.inl x3), some (.inl x4)], [], σ) Φ) (k3 : x3 = 122 → pe_X d 163 (88, [some (.inr (.inr M)), some (.inl x1), some (.inl x2), some (.inl x3), some (.inl x4)], [], σ) Φ) (kd : ¬ x3 = 97 → ¬ x3 = 102 → ¬ x3 = 109 → ¬ x3 = 122 → pe_X d 163 (125, [some (.inr (.inr M)), some (.inl x1), some (.inl x2), some (.inl x3), some (.inl x4)], [], σ) Φ) : pe_X d 163 (0, [some (.inr (.inr M)), some (.inl x1), some (.inl x2), some (.inl x3), some (.inl x4)], [], σ) Φ := by
  refine pe_blk 0 2 ck163 [] ((((1 : Nat) : Int) + pe_sw 124 [(97, 43), (102, 114), (109, 65), (122, 87)] (pe_w x3)).toNat, [some (.inr (.inr M)), some (.inl x1), some (.inl x2), some (.inl x3), some (.inl x4)], [], σ) rfl ?_ ?_
  · exact trivial
  · try simp (disch := omega) only [pe_wi w0]
    by_cases q0 : x3 = 97
    · have e : pe_sw 124 [(97, 43), (102, 114), (109, 65), (122, 87)] x3 = 43 := by rw [q0]; rfl
      rw [e]; exact k0 q0
    by_cases q1 : x3 = 102
    · have e : pe_sw 124 [(97, 43), (102, 114), (109, 65), (122, 87)] x3 = 114 := by rw [q1]; rfl
      rw [e]; exact k1 q1
    by_cases q2 : x3 = 109
    · have e : pe_sw 124 [(97, 43), (102, 114), (109, 65), (122, 87)] x3 = 65 := by rw [q2]; rfl
      rw [e]; exact k2 q2
    by_cases q3 : x3 = 122
    · have e : pe_sw 124 [(97, 43), (102, 114), (109, 65), (122, 87)] x3 = 87 := by rw [q3]; rfl
      rw [e]; exact k3 q3
    have e : pe_sw 124 [(97, 43), (102, 114), (109, 65), (122, 87)] x3 = 124 := by simp only [pe_sw, if_neg q0, if_neg q1, if_neg q2, if_neg q3]
    rw [e]; exact kd q0 q1 q2 q3
theorem b163_44 {d : Nat} {Φ : Option pe_V → pe_H → Prop} {σ : pe_H} {M : Nat} (hF : pm_F M σ) {x1 : Int} {o2 : Option pe_V} {o3 : Option pe_V} {x4 : Int} (w0 : pe_in x1 := by unfold pe_in; omega) (w1 : pe_in ((pe_I σ (M + 8) x1) + x4) := by unfold pe_in; omega) (h0 : 0 ≤ x1 := by first | assumption | omega) (h1 : x1 < 8 := by first | assumption | omega) (h2 : ¬ 1000 = 0 := by first | assumption | omega) (k : pe_X d 163 (137, [some (.inr (.inr M)), some (.inl x1), o2, o3, some (.inl x4)], [], pe_wI σ (M + 8) x1 (Int.tmod ((pe_I σ (M + 8) x1) + x4) 1000)) Φ) : pe_X d 163 (44, [some (.inr (.inr M)), some (.inl x1), o2, o3, some (.inl x4)], [], σ) Φ := by
  have hM2 := pm_2 hF
  refine pe_blk 2 13 ck163 [pe_K σ M = 9, pe_K σ M = 9, pe_K σ (pe_R σ M 8) = 10, 0 ≤ (pe_w x1), (pe_w x1) < pe_L σ (pe_R σ M 8), ¬ (pe_w 1000) = 0, pe_K σ (pe_R σ M 8) = 10, 0 ≤ (pe_w x1), (pe_w x1) < pe_L σ (pe_R σ M 8), 2 ≤ (pe_R σ M 8)] (137, [some (.inr (.inr M)), some (.inl x1), o2, o3, some (.inl x4)], [], pe_wI σ (pe_R σ M 8) (pe_w x1) (Int.tmod (pe_w ((pe_I σ (pe_R σ M 8) (pe_w x1)) + x4)) (pe_w 1000))) rfl ?_ ?_
  · first
    | (simp (disch := omega) only [pe_all, pe_wi w0, pe_wi w1, pe_wi (x := 1000) ⟨by decide, by decide⟩, pm_K8 hF, pm_KM hF, pm_L8 hF, pm_R8 hF]; done)
    | (simp (disch := omega) only [pe_all, pe_wi w0, pe_wi w1, pe_wi (x := 1000) ⟨by decide, by decide⟩, pm_K8 hF, pm_KM hF, pm_L8 hF, pm_R8 hF]; (repeat' apply And.intro) <;> first | assumption | omega | decide)
  · try simp (disch := omega) only [pe_wi w0, pe_wi w1, pe_wi (x := 1000) ⟨by decide, by decide⟩, pm_K8 hF, pm_KM hF, pm_L8 hF, pm_R8 hF]
    exact k
theorem b163_66 {d : Nat} {Φ : Option pe_V → pe_H → Prop} {σ : pe_H} {M : Nat} (hF : pm_F M σ) {x1 : Int} {o2 : Option pe_V} {o3 : Option pe_V} {x4 : Int} (w0 : pe_in x1 := by unfold pe_in; omega) (w1 : pe_in ((pe_I σ (M + 8) x1) * x4) := by unfold pe_in; omega) (h0 : 0 ≤ x1 := by first | assumption | omega) (h1 : x1 < 8 := by first | assumption | omega) (h2 : ¬ 1000 = 0 := by first | assumption | omega) (k : pe_X d 163 (137, [some (.inr (.inr M)), some (.inl x1), o2, o3, some (.inl x4)], [], pe_wI σ (M + 8) x1 (Int.tmod ((pe_I σ (M + 8) x1) * x4) 1000)) Φ) : pe_X d 163 (66, [some (.inr (.inr M)), some (.inl x1), o2, o3, some (.inl x4)], [], σ) Φ := by
  have hM2 := pm_2 hF
  refine pe_blk 15 13 ck163 [pe_K σ M = 9, pe_K σ M = 9, pe_K σ (pe_R σ M 8) = 10, 0 ≤ (pe_w x1), (pe_w x1) < pe_L σ (pe_R σ M 8), ¬ (pe_w 1000) = 0, pe_K σ (pe_R σ M 8) = 10, 0 ≤ (pe_w x1), (pe_w x1) < pe_L σ (pe_R σ M 8), 2 ≤ (pe_R σ M 8)] (137, [some (.inr (.inr M)), some (.inl x1), o2, o3, some (.inl x4)], [], pe_wI σ (pe_R σ M 8) (pe_w x1) (Int.tmod (pe_w ((pe_I σ (pe_R σ M 8) (pe_w x1)) * x4)) (pe_w 1000))) rfl ?_ ?_
  · first
    | (simp (disch := omega) only [pe_all, pe_wi w0, pe_wi w1, pe_wi (x := 1000) ⟨by decide, by decide⟩, pm_K8 hF, pm_KM hF, pm_L8 hF, pm_R8 hF]; done)
    | (simp (disch := omega) only [pe_all, pe_wi w0, pe_wi w1, pe_wi (x := 1000) ⟨by decide, by decide⟩, pm_K8 hF, pm_KM hF, pm_L8 hF, pm_R8 hF]; (repeat' apply And.intro) <;> first | assumption | omega | decide)
  · try simp (disch := omega) only [pe_wi w0, pe_wi w1, pe_wi (x := 1000) ⟨by decide, by decide⟩, pm_K8 hF, pm_KM hF, pm_L8 hF, pm_R8 hF]
    exact k
theorem b163_88 {d : Nat} {Φ : Option pe_V → pe_H → Prop} {σ : pe_H} {M : Nat} (hF : pm_F M σ) {x1 : Int} {x2 : Int} {o3 : Option pe_V} {x4 : Int} (w0 : pe_in x2 := by unfold pe_in; omega) (w1 : pe_in x1 := by unfold pe_in; omega) (w2 : pe_in (pe_I σ (M + 8) x1) := by unfold pe_in; omega) (h0 : 0 ≤ x2 := by first | assumption | omega) (h1 : x2 < 48 := by first | assumption | omega) (h2 : 0 ≤ x1 := by first | assumption | omega) (h3 : x1 < 8 := by first | assumption | omega) (k1 : ¬ (pe_I σ (M + 8) x1) = 0 → pe_X d 163 (109, [some (.inr (.inr M)), some (.inl x1), some (.inl x2), o3, some (.inl x4)], [.inl (pe_I σ (M + 17) x2), .inl x2, .inr (.inr (M + 17))], σ) Φ) (k2 : (pe_I σ (M + 8) x1) = 0 → pe_X d 163 (104, [some (.inr (.inr M)), some (.inl x1), some (.inl x2), o3, some (.inl x4)], [.inl (pe_I σ (M + 17) x2), .inl x2, .inr (.inr (M + 17))], σ) Φ) : pe_X d 163 (88, [some (.inr (.inr M)), some (.inl x1), some (.inl x2), o3, some (.inl x4)], [], σ) Φ := by
  refine pe_blk 28 10 ck163 [pe_K σ M = 9, pe_K σ (pe_R σ M 17) = 10, 0 ≤ (pe_w x2), (pe_w x2) < pe_L σ (pe_R σ M 17), pe_K σ M = 9, pe_K σ (pe_R σ M 8) = 10, 0 ≤ (pe_w x1), (pe_w x1) < pe_L σ (pe_R σ M 8)] (cond (decide (¬ (pe_w (pe_I σ (pe_R σ M 8) (pe_w x1))) = 0)) 109 104, [some (.inr (.inr M)), some (.inl x1), some (.inl x2), o3, some (.inl x4)], [.inl (pe_I σ (pe_R σ M 17) (pe_w x2)), .inl x2, .inr (.inr (pe_R σ M 17))], σ) rfl ?_ ?_
  · first
    | (simp (disch := omega) only [pe_all, pe_wi w0, pe_wi w1, pe_wi w2, pm_K17 hF, pm_K8 hF, pm_KM hF, pm_L17 hF, pm_L8 hF, pm_R17 hF, pm_R8 hF]; done)
    | (simp (disch := omega) only [pe_all, pe_wi w0, pe_wi w1, pe_wi w2, pm_K17 hF, pm_K8 hF, pm_KM hF, pm_L17 hF, pm_L8 hF, pm_R17 hF, pm_R8 hF]; (repeat' apply And.intro) <;> first | assumption | omega | decide)
  · try simp (disch := omega) only [pe_wi w0, pe_wi w1, pe_wi w2, pm_K17 hF, pm_K8 hF, pm_KM hF, pm_L17 hF, pm_L8 hF, pm_R17 hF, pm_R8 hF]
    exact pe_two' k1 k2
theorem b163_104 {d : Nat} {Φ : Option pe_V → pe_H → Prop} {σ : pe_H} {M : Nat} (hF : pm_F M σ) {o1 : Option pe_V} {o2 : Option pe_V} {o3 : Option pe_V} {x4 : Int} {b0 : Nat} {s1 : Int} {s2 : Int}   (k : pe_X d 163 (110, [some (.inr (.inr M)), o1, o2, o3, some (.inl x4)], [.inl x4, .inl s2, .inl s1, .inr (.inr b0)], σ) Φ) : pe_X d 163 (104, [some (.inr (.inr M)), o1, o2, o3, some (.inl x4)], [.inl s2, .inl s1, .inr (.inr b0)], σ) Φ := by
  refine pe_blk 38 2 ck163 [] (110, [some (.inr (.inr M)), o1, o2, o3, some (.inl x4)], [.inl x4, .inl s2, .inl s1, .inr (.inr b0)], σ) rfl ?_ ?_
  · exact trivial
  · exact k
theorem b163_109 {d : Nat} {Φ : Option pe_V → pe_H → Prop} {σ : pe_H} {M : Nat} (hF : pm_F M σ) {o1 : Option pe_V} {o2 : Option pe_V} {o3 : Option pe_V} {o4 : Option pe_V} {b0 : Nat} {s1 : Int} {s2 : Int}   (k : pe_X d 163 (110, [some (.inr (.inr M)), o1, o2, o3, o4], [.inl 0, .inl s2, .inl s1, .inr (.inr b0)], σ) Φ) : pe_X d 163 (109, [some (.inr (.inr M)), o1, o2, o3, o4], [.inl s2, .inl s1, .inr (.inr b0)], σ) Φ := by
  refine pe_blk 40 1 ck163 [] (110, [some (.inr (.inr M)), o1, o2, o3, o4], [.inl 0, .inl s2, .inl s1, .inr (.inr b0)], σ) rfl ?_ ?_
  · exact trivial
  · exact k
theorem b163_110 {d : Nat} {Φ : Option pe_V → pe_H → Prop} {σ : pe_H} {M : Nat} (hF : pm_F M σ) {o1 : Option pe_V} {o2 : Option pe_V} {o3 : Option pe_V} {o4 : Option pe_V} {b0 : Nat} {s1 : Int} {s2 : Int} {s3 : Int} (w0 : pe_in s1 := by unfold pe_in; omega) (h0 : pe_K σ b0 = 10 := by first | assumption | omega) (h1 : 0 ≤ s1 := by first | assumption | omega) (h2 : s1 < pe_L σ b0 := by first | assumption | omega) (h3 : 2 ≤ b0 := by first | assumption | omega) (k : pe_X d 163 (137, [some (.inr (.inr M)), o1, o2, o3, o4], [], pe_wI σ b0 s1 (s2 + s3)) Φ) : pe_X d 163 (110, [some (.inr (.inr M)), o1, o2, o3, o4], [.inl s3, .inl s2, .inl s1, .inr (.inr b0)], σ) Φ := by
  refine pe_blk 41 3 ck163 [pe_K σ b0 = 10, 0 ≤ (pe_w s1), (pe_w s1) < pe_L σ b0, 2 ≤ b0] (137, [some (.inr (.inr M)), o1, o2, o3, o4], [], pe_wI σ b0 (pe_w s1) (s2 + s3)) rfl ?_ ?_
  · first
    | (simp (disch := omega) only [pe_all, pe_wi w0]; done)
    | (simp (disch := omega) only [pe_all, pe_wi w0]; (repeat' apply And.intro) <;> first | assumption | omega | decide)
  · try simp (disch := omega) only [pe_wi w0]
    exact k
theorem b163_115 {d : Nat} {Φ : Option pe_V → pe_H → Prop} {σ : pe_H} {M : Nat} (hF : pm_F M σ) {o1 : Option pe_V} {x2 : Int} {o3 : Option pe_V} {o4 : Option pe_V} (w0 : pe_in x2 := by unfold pe_in; omega) (h0 : 0 ≤ x2 := by first | assumption | omega) (h1 : x2 < 48 := by first | assumption | omega) (k : pe_X d 163 (137, [some (.inr (.inr M)), o1, some (.inl x2), o3, o4], [], pe_wI σ (M + 19) x2 1) Φ) : pe_X d 163 (115, [some (.inr (.inr M)), o1, some (.inl x2), o3, o4], [], σ) Φ := by
  have hM2 := pm_2 hF
  refine pe_blk 44 6 ck163 [pe_K σ M = 9, pe_K σ (pe_R σ M 19) = 10, 0 ≤ (pe_w x2), (pe_w x2) < pe_L σ (pe_R σ M 19), 2 ≤ (pe_R σ M 19)] (137, [some (.inr (.inr M)), o1, some (.inl x2), o3, o4], [], pe_wI σ (pe_R σ M 19) (pe_w x2) 1) rfl ?_ ?_
  · first
    | (simp (disch := omega) only [pe_all, pe_wi w0, pm_K19 hF, pm_KM hF, pm_L19 hF, pm_R19 hF]; done)
    | (simp (disch := omega) only [pe_all, pe_wi w0, pm_K19 hF, pm_KM hF, pm_L19 hF, pm_R19 hF]; (repeat' apply And.intro) <;> first | assumption | omega | decide)
  · try simp (disch := omega) only [pe_wi w0, pm_K19 hF, pm_KM hF, pm_L19 hF, pm_R19 hF]
    exact k
set_option maxRecDepth 8000 in
theorem b163_125 {d : Nat} {Φ : Option pe_V → pe_H → Prop} {σ : pe_H} {M : Nat} (hF : pm_F M σ) {x1 : Int} {o2 : Option pe_V} {o3 : Option pe_V} {x4 : Int}   (k : pe_M d 148 [.inr (.inr M), .inl x4, .inl (-1)] σ (fun r σ' => pe_X d 163 (134, [some (.inr (.inr M)), some (.inl x1), o2, o3, some (.inl x4)], r.toList ++ [.inl x1, .inr (.inr M)], σ') Φ)) : pe_X d 163 (125, [some (.inr (.inr M)), some (.inl x1), o2, o3, some (.inl x4)], [], σ) Φ := by
  refine pe_blk 50 5 ck163 [] (131, [some (.inr (.inr M)), some (.inl x1), o2, o3, some (.inl x4)], [.inl (-1), .inl x4, .inr (.inr M), .inl x1, .inr (.inr M)], σ) rfl ?_ ?_
  · exact trivial
  · try simp (disch := omega) only [pm_KM hF]
    exact pe_cal 55 ck163 rfl rfl rfl ⟨pm_KM hF, by decide⟩ k
set_option maxRecDepth 8000 in
theorem b163_134 {d : Nat} {Φ : Option pe_V → pe_H → Prop} {σ : pe_H} {M : Nat} (hF : pm_F M σ) {o1 : Option pe_V} {o2 : Option pe_V} {o3 : Option pe_V} {o4 : Option pe_V} {b0 : Nat} {s1 : Int} {s2 : Int}  (h0 : pe_K σ b0 = 9 := by first | assumption | omega) (k : pe_M d 149 [.inr (.inr b0), .inl s1, .inl s2] σ (fun r σ' => pe_X d 163 (137, [some (.inr (.inr M)), o1, o2, o3, o4], r.toList ++ [], σ') Φ)) : pe_X d 163 (134, [some (.inr (.inr M)), o1, o2, o3, o4], [.inl s2, .inl s1, .inr (.inr b0)], σ) Φ := by
  exact pe_cal 56 ck163 rfl rfl rfl ⟨by assumption, by decide⟩ k
set_option maxRecDepth 8000 in
theorem b163_137 {d : Nat} {Φ : Option pe_V → pe_H → Prop} {σ : pe_H} {M : Nat} (hF : pm_F M σ) {o1 : Option pe_V} {o2 : Option pe_V} {o3 : Option pe_V} {o4 : Option pe_V}   (k : Φ none σ) : pe_X d 163 (137, [some (.inr (.inr M)), o1, o2, o3, o4], [], σ) Φ := by
  exact pe_fine 57 ck163 rfl rfl rfl trivial k
-- doesOther(IIII)V
def T164 : List (Nat × Instr × Nat) := [(0, .iload_n 3, 1), (1, .lookupswitch 101 #[(100, 91), (103, 71), (106, 81), (115, 61), (121, 51)], 51), (52, .aload_n 0, 1), (53, .iload_n 1, 1), (54, .iload 4, 2), (56, .invokevirtual 205, 3), (59, .goto 80, 3), (62, .aload_n 0, 1), (63, .iload_n 1, 1), (64, .iload 4, 2), (66, .invokevirtual 208, 3), (69, .goto 70, 3), (72, .aload_n 0, 1), (73, .iload_n 1, 1), (74, .iload 4, 2), (76, .invokevirtual 211, 3), (79, .goto 60, 3), (82, .aload_n 0, 1), (83, .iload_n 1, 1), (84, .iload 4, 2), (86, .invokevirtual 214, 3), (89, .goto 50, 3), (92, .aload_n 0, 1), (93, .iload_n 1, 1), (94, .iload 4, 2), (96, .invokevirtual 217, 3), (99, .goto 40, 3), (102, .aload_n 0, 1), (103, .getfield 64, 3), (106, .iload_n 2, 1), (107, .iaload, 1), (108, .ifCond .ne 31, 3), (111, .aload_n 0, 1), (112, .getfield 61, 3), (115, .iload_n 2, 1), (116, .iaload, 1), (117, .iload 4, 2), (119, .if_icmp .ge 20, 3), (122, .aload_n 0, 1), (123, .getfield 61, 3), (126, .iload_n 2, 1), (127, .dup2, 1), (128, .iaload, 1), (129, .iconst 1, 1), (130, .iadd, 1), (131, .iastore, 1), (132, .aload_n 0, 1), (133, .getfield 58, 3), (136, .iload_n 2, 1), (137, .iconst 0, 1), (138, .iastore, 1), (139, .return_, 1)]
theorem ck164 : pe_ctx 164 9 false none 5 T164 := ⟨rfl, rfl, rfl, rfl, by decide +kernel, by decide, by decide⟩
theorem b164_0 {d : Nat} {Φ : Option pe_V → pe_H → Prop} {σ : pe_H} {M : Nat} (hF : pm_F M σ) {x1 : Int} {x2 : Int} {x3 : Int} {x4 : Int} (w0 : pe_in x3 := by unfold pe_in; omega)  (k0 : x3 = 100 → pe_X d 164 (92, [some (.inr (.inr M)), some (.inl x1), some (.inl x2), some (.inl x3), some (.inl x4)], [], σ) Φ) (k1 : x3 = 103 → pe_X d 164 (72, [some (.inr (.inr M)), some (.inl x1), some (.inl x2), some (.inl x3), some (.inl x4)], [], σ) Φ) (k2 : x3 = 106 → pe_X d 164 (82, [some (.inr (.inr M)), some (.inl x1), some (.inl x2), some (.inl x3), some (.inl x4)], [], σ) Φ) (k3 : x3 = 115 → pe_X d 164 (62, [some (.inr (.inr M)), some (.inl x1), some (.inl x2), some (.inl x3), some (.inl x4)], [], σ) Φ) (k4 : x3 = 121 → pe_X d 164 (52, [some (.inr (.inr M)), some (.inl x1), some (.inl x2), some (.inl x3), some (.inl x4)], [], σ) Φ) (kd : ¬ x3 = 100 → ¬ x3 = 103 → ¬ x3 = 106 → ¬ x3 = 115 → ¬ x3 = 121 → pe_X d 164 (102, [some (.inr (.inr M)), some (.inl x1), some (.inl x2), some (.inl x3), some (.inl x4)], [], σ) Φ) : pe_X d 164 (0, [some (.inr (.inr M)), some (.inl x1), some (.inl x2), some (.inl x3), some (.inl x4)], [], σ) Φ := by
  refine pe_blk 0 2 ck164 [] ((((1 : Nat) : Int) + pe_sw 101 [(100, 91), (103, 71), (106, 81), (115, 61), (121, 51)] (pe_w x3)).toNat, [some (.inr (.inr M)), some (.inl x1), some (.inl x2), some (.inl x3), some (.inl x4)], [], σ) rfl ?_ ?_
  · exact trivial
  · try simp (disch := omega) only [pe_wi w0]
    by_cases q0 : x3 = 100
    · have e : pe_sw 101 [(100, 91), (103, 71), (106, 81), (115, 61), (121, 51)] x3 = 91 := by rw [q0]; rfl
      rw [e]; exact k0 q0
    by_cases q1 : x3 = 103
    · have e : pe_sw 101 [(100, 91), (103, 71), (106, 81), (115, 61), (121, 51)] x3 = 71 := by rw [q1]; rfl
      rw [e]; exact k1 q1
    by_cases q2 : x3 = 106
    · have e : pe_sw 101 [(100, 91), (103, 71), (106, 81), (115, 61), (121, 51)] x3 = 81 := by rw [q2]; rfl
      rw [e]; exact k2 q2
    by_cases q3 : x3 = 115
    · have e : pe_sw 101 [(100, 91), (103, 71), (106, 81), (115, 61), (121, 51)] x3 = 61 := by rw [q3]; rfl
      rw [e]; exact k3 q3
    by_cases q4 : x3 = 121
    · have e : pe_sw 101 [(100, 91), (103, 71), (106, 81), (115, 61), (121, 51)] x3 = 51 := by rw [q4]; rfl
      rw [e]; exact k4 q4
    have e : pe_sw 101 [(100, 91), (103, 71), (106, 81), (115, 61), (121, 51)] x3 = 101 := by simp only [pe_sw, if_neg q0, if_neg q1, if_neg q2, if_neg q3, if_neg q4]
    rw [e]; exact kd q0 q1 q2 q3 q4
theorem b164_52 {d : Nat} {Φ : Option pe_V → pe_H → Prop} {σ : pe_H} {M : Nat} (hF : pm_F M σ) {x1 : Int} {o2 : Option pe_V} {o3 : Option pe_V} {x4 : Int}   (k : pe_M d 162 [.inr (.inr M), .inl x1, .inl x4] σ (fun r σ' => pe_X d 164 (59, [some (.inr (.inr M)), some (.inl x1), o2, o3, some (.inl x4)], r.toList ++ [], σ') Φ)) : pe_X d 164 (52, [some (.inr (.inr M)), some (.inl x1), o2, o3, some (.inl x4)], [], σ) Φ := by
  refine pe_blk 2 3 ck164 [] (56, [some (.inr (.inr M)), some (.inl x1), o2, o3, some (.inl x4)], [.inl x4, .inl x1, .inr (.inr M)], σ) rfl ?_ ?_
  · exact trivial
  · try simp (disch := omega) only [pm_KM hF]
    exact pe_cal 5 ck164 rfl rfl rfl ⟨pm_KM hF, by decide⟩ k
theorem b164_59 {d : Nat} {Φ : Option pe_V → pe_H → Prop} {σ : pe_H} {M : Nat} (hF : pm_F M σ) {o1 : Option pe_V} {o2 : Option pe_V} {o3 : Option pe_V} {o4 : Option pe_V}   (k : pe_X d 164 (139, [some (.inr (.inr M)), o1, o2, o3, o4], [], σ) Φ) : pe_X d 164 (59, [some (.inr (.inr M)), o1, o2, o3, o4], [], σ) Φ := by
  refine pe_blk 6 1 ck164 [] (139, [some (.inr (.inr M)), o1, o2, o3, o4], [], σ) rfl ?_ ?_
  · exact trivial
  · exact k
theorem b164_62 {d : Nat} {Φ : Option pe_V → pe_H → Prop} {σ : pe_H} {M : Nat} (hF : pm_F M σ) {x1 : Int} {o2 : Option pe_V} {o3 : Option pe_V} {x4 : Int}   (k : pe_M d 155 [.inr (.inr M), .inl x1, .inl x4] σ (fun r σ' => pe_X d 164 (69, [some (.inr (.inr M)), some (.inl x1), o2, o3, some (.inl x4)], r.toList ++ [], σ') Φ)) : pe_X d 164 (62, [some (.inr (.inr M)), some (.inl x1), o2, o3, some (.inl x4)], [], σ) Φ := by
  refine pe_blk 7 3 ck164 [] (66, [some (.inr (.inr M)), some (.inl x1), o2, o3, some (.inl x4)], [.inl x4, .inl x1, .inr (.inr M)], σ) rfl ?_ ?_
  · exact trivial
  · try simp (disch := omega) only [pm_KM hF]
    exact pe_cal 10 ck164 rfl rfl rfl ⟨pm_KM hF, by decide⟩ k
theorem b164_69 {d : Nat} {Φ : Option pe_V → pe_H → Prop} {σ : pe_H} {M : Nat} (hF : pm_F M σ) {o1 : Option pe_V} {o2 : Option pe_V} {o3 : Option pe_V} {o4 : Option pe_V}   (k : pe_X d 164 (139, [some (.inr (.inr M)), o1, o2, o3, o4], [], σ) Φ) : pe_X d 164 (69, [some (.inr (.inr M)), o1, o2, o3, o4], [], σ) Φ := by
  refine pe_blk 11 1 ck164 [] (139, [some (.inr (.inr M)), o1, o2, o3, o4], [], σ) rfl ?_ ?_
  · exact trivial
  · exact k
theorem b164_72 {d : Nat} {Φ : Option pe_V → pe_H → Prop} {σ : pe_H} {M : Nat} (hF : pm_F M σ) {x1 : Int} {o2 : Option pe_V} {o3 : Option pe_V} {x4 : Int}   (k : pe_M d 156 [.inr (.inr M), .inl x1, .inl x4] σ (fun r σ' => pe_X d 164 (79, [some (.inr (.inr M)), some (.inl x1), o2, o3, some (.inl x4)], r.toList ++ [], σ') Φ)) : pe_X d 164 (72, [some (.inr (.inr M)), some (.inl x1), o2, o3, some (.inl x4)], [], σ) Φ := by
  refine pe_blk 12 3 ck164 [] (76, [some (.inr (.inr M)), some (.inl x1), o2, o3, some (.inl x4)], [.inl x4, .inl x1, .inr (.inr M)], σ) rfl ?_ ?_
  · exact trivial
  · try simp (disch := omega) only [pm_KM hF]
    exact pe_cal 15 ck164 rfl rfl rfl ⟨pm_KM hF, by decide⟩ k
theorem b164_79 {d : Nat} {Φ : Option pe_V → pe_H → Prop} {σ : pe_H} {M : Nat} (hF : pm_F M σ) {o1 : Option pe_V} {o2 : Option pe_V} {o3 : Option pe_V} {o4 : Option pe_V}   (k : pe_X d 164 (139, [some (.inr (.inr M)), o1, o2, o3, o4], [], σ) Φ) : pe_X d 164 (79, [some (.inr (.inr M)), o1, o2, o3, o4], [], σ) Φ := by
  refine pe_blk 16 1 ck164 [] (139, [some (.inr (.inr M)), o1, o2, o3, o4], [], σ) rfl ?_ ?_
  · exact trivial
  · exact k
theorem b164_82 {d : Nat} {Φ : Option pe_V → pe_H → Prop} {σ : pe_H} {M : Nat} (hF : pm_F M σ) {x1 : Int} {o2 : Option pe_V} {o3 : Option pe_V} {x4 : Int}   (k : pe_M d 158 [.inr (.inr M), .inl x1, .inl x4] σ (fun r σ' => pe_X d 164 (89, [some (.inr (.inr M)), some (.inl x1), o2, o3, some (.inl x4)], r.toList ++ [], σ') Φ)) : pe_X d 164 (82, [some (.inr (.inr M)), some (.inl x1), o2, o3, some (.inl x4)], [], σ) Φ := by
  refine pe_blk 17 3 ck164 [] (86, [some (.inr (.inr M)), some (.inl x1), o2, o3, some (.inl x4)], [.inl x4, .inl x1, .inr (.inr M)], σ) rfl ?_ ?_
  · exact trivial
  · try simp (disch := omega) only [pm_KM hF]
    exact pe_cal 20 ck164 rfl rfl rfl ⟨pm_KM hF, by decide⟩ k
theorem b164_89 {d : Nat} {Φ : Option pe_V → pe_H → Prop} {σ : pe_H} {M : Nat} (hF : pm_F M σ) {o1 : Option pe_V} {o2 : Option pe_V} {o3 : Option pe_V} {o4 : Option pe_V}   (k : pe_X d 164 (139, [some (.inr (.inr M)), o1, o2, o3, o4], [], σ) Φ) : pe_X d 164 (89, [some (.inr (.inr M)), o1, o2, o3, o4], [], σ) Φ := by
  refine pe_blk 21 1 ck164 [] (139, [some (.inr (.inr M)), o1, o2, o3, o4], [], σ) rfl ?_ ?_
  · exact trivial
  · exact k
theorem b164_92 {d : Nat} {Φ : Option pe_V → pe_H → Prop} {σ : pe_H} {M : Nat} (hF : pm_F M σ) {x1 : Int} {o2 : Option pe_V} {o3 : Option pe_V} {x4 : Int}   (k : pe_M d 161 [.inr (.inr M), .inl x1, .inl x4] σ (fun r σ' => pe_X d 164 (99, [some (.inr (.inr M)), some (.inl x1), o2, o3, some (.inl x4)], r.toList ++ [], σ') Φ)) : pe_X d 164 (92, [some (.inr (.inr M)), some (.inl x1), o2, o3, some (.inl x4)], [], σ) Φ := by
  refine pe_blk 22 3 ck164 [] (96, [some (.inr (.inr M)), some (.inl x1), o2, o3, some (.inl x4)], [.inl x4, .inl x1, .inr (.inr M)], σ) rfl ?_ ?_
  · exact trivial
  · try simp (disch := omega) only [pm_KM hF]
    exact pe_cal 25 ck164 rfl rfl rfl ⟨pm_KM hF, by decide⟩ k
theorem b164_99 {d : Nat} {Φ : Option pe_V → pe_H → Prop} {σ : pe_H} {M : Nat} (hF : pm_F M σ) {o1 : Option pe_V} {o2 : Option pe_V} {o3 : Option pe_V} {o4 : Option pe_V}   (k : pe_X d 164 (139, [some (.inr (.inr M)), o1, o2, o3, o4], [], σ) Φ) : pe_X d 164 (99, [some (.inr (.inr M)), o1, o2, o3, o4], [], σ) Φ := by
  refine pe_blk 26 1 ck164 [] (139, [some (.inr (.inr M)), o1, o2, o3, o4], [], σ) rfl ?_ ?_
  · exact trivial
  · exact k
theorem b164_102 {d : Nat} {Φ : Option pe_V → pe_H → Prop} {σ : pe_H} {M : Nat} (hF : pm_F M σ) {o1 : Option pe_V} {x2 : Int} {o3 : Option pe_V} {x4 : Int} (w0 : pe_in x2 := by unfold pe_in; omega) (w1 : pe_in (pe_I σ (M + 19) x2) := by unfold pe_in; omega) (h0 : 0 ≤ x2 := by first | assumption | omega) (h1 : x2 < 48 := by first | assumption | omega) (k1 : ¬ (pe_I σ (M + 19) x2) = 0 → pe_X d 164 (139, [some (.inr (.inr M)), o1, some (.inl x2), o3, some (.inl x4)], [], σ) Φ) (k2 : (pe_I σ (M + 19) x2) = 0 → pe_X d 164 (111, [some (.inr (.inr M)), o1, some (.inl x2), o3, some (.inl x4)], [], σ) Φ) : pe_X d 164 (102, [some (.inr (.inr M)), o1, some (.inl x2), o3, some (.inl x4)], [], σ) Φ := by
  refine pe_blk 27 5 ck164 [pe_K σ M = 9, pe_K σ (pe_R σ M 19) = 10, 0 ≤ (pe_w x2), (pe_w x2) < pe_L σ (pe_R σ M 19)] (cond (decide (¬ (pe_w (pe_I σ (pe_R σ M 19) (pe_w x2))) = 0)) 139 111, [some (.inr (.inr M)), o1, some (.inl x2), o3, some (.inl x4)], [], σ) rfl ?_ ?_
  · first
    | (simp (disch := omega) only [pe_all, pe_wi w0, pe_wi w1, pm_K19 hF, pm_KM hF, pm_L19 hF, pm_R19 hF]; done)
    | (simp (disch := omega) only [pe_all, pe_wi w0, pe_wi w1, pm_K19 hF, pm_KM hF, pm_L19 hF, pm_R19 hF]; (repeat' apply And.intro) <;> first | assumption | omega | decide)
  · try simp (disch := omega) only [pe_wi w0, pe_wi w1, pm_K19 hF, pm_KM hF, pm_L19 hF, pm_R19 hF]
    exact pe_two' k1 k2
theorem b164_111 {d : Nat} {Φ : Option pe_V → pe_H → Prop} {σ : pe_H} {M : Nat} (hF : pm_F M σ) {o1 : Option pe_V} {x2 : Int} {o3 : Option pe_V} {x4 : Int} (w0 : pe_in x2 := by unfold pe_in; omega) (w1 : pe_in (pe_I σ (M + 18) x2) := by unfold pe_in; omega) (w2 : pe_in x4 := by unfold pe_in; omega) (h0 : 0 ≤ x2 := by first | assumption | omega) (h1 : x2 < 48 := by first | assumption | omega) (k1 : x4 ≤ (pe_I σ (M + 18) x2) → pe_X d 164 (139, [some (.inr (.inr M)), o1, some (.inl x2), o3, some (.inl x4)], [], σ) Φ) (k2 : ¬ (x4 ≤ (pe_I σ (M + 18) x2)) → pe_X d 164 (122, [some (.inr (.inr M)), o1, some (.inl x2), o3, some (.inl x4)], [], σ) Φ) : pe_X d 164 (111, [some (.inr (.inr M)), o1, some (.inl x2), o3, some (.inl x4)], [], σ) Φ := by
  refine pe_blk 32 6 ck164 [pe_K σ M = 9, pe_K σ (pe_R σ M 18) = 10, 0 ≤ (pe_w x2), (pe_w x2) < pe_L σ (pe_R σ M 18)] (cond (decide ((pe_w x4) ≤ (pe_w (pe_I σ (pe_R σ M 18) (pe_w x2))))) 139 122, [some (.inr (.inr M)), o1, some (.inl x2), o3, some (.inl x4)], [], σ) rfl ?_ ?_
  · first
    | (simp (disch := omega) only [pe_all, pe_wi w0, pe_wi w1, pe_wi w2, pm_K18 hF, pm_KM hF, pm_L18 hF, pm_R18 hF]; done)
    | (simp (disch := omega) only [pe_all, pe_wi w0, pe_wi w1, pe_wi w2, pm_K18 hF, pm_KM hF, pm_L18 hF, pm_R18 hF]; (repeat' apply And.intro) <;> first | assumption | omega | decide)
  · try simp (disch := omega) only [pe_wi w0, pe_wi w1, pe_wi w2, pm_K18 hF, pm_KM hF, pm_L18 hF, pm_R18 hF]
    exact pe_two k1 k2
set_option maxRecDepth 8000 in
theorem b164_122 {d : Nat} {Φ : Option pe_V → pe_H → Prop} {σ : pe_H} {M : Nat} (hF : pm_F M σ) {o1 : Option pe_V} {x2 : Int} {o3 : Option pe_V} {o4 : Option pe_V} (w0 : pe_in x2 := by unfold pe_in; omega) (h0 : 0 ≤ x2 := by first | assumption | omega) (h1 : x2 < 48 := by first | assumption | omega) (k : pe_X d 164 (139, [some (.inr (.inr M)), o1, some (.inl x2), o3, o4], [], pe_wI (pe_wI σ (M + 18) x2 ((pe_I σ (M + 18) x2) + 1)) (M + 17) x2 0) Φ) : pe_X d 164 (122, [some (.inr (.inr M)), o1, some (.inl x2), o3, o4], [], σ) Φ := by
  have hM2 := pm_2 hF
  refine pe_blk 38 13 ck164 [pe_K σ M = 9, pe_K σ (pe_R σ M 18) = 10, 0 ≤ (pe_w x2), (pe_w x2) < pe_L σ (pe_R σ M 18), pe_K σ (pe_R σ M 18) = 10, 0 ≤ (pe_w x2), (pe_w x2) < pe_L σ (pe_R σ M 18), 2 ≤ (pe_R σ M 18), pe_K σ M = 9, pe_K σ (pe_R σ M 17) = 10, 0 ≤ (pe_w x2), (pe_w x2) < pe_L σ (pe_R σ M 17), 2 ≤ (pe_R σ M 17)] (139, [some (.inr (.inr M)), o1, some (.inl x2), o3, o4], [], pe_wI (pe_wI σ (pe_R σ M 18) (pe_w x2) ((pe_I σ (pe_R σ M 18) (pe_w x2)) + 1)) (pe_R σ M 17) (pe_w x2) 0) rfl ?_ ?_
  · first
    | (simp (disch := omega) only [pe_all, pe_wi w0, pm_K17 hF, pm_K18 hF, pm_KM hF, pm_L17 hF, pm_L18 hF, pm_R17 hF, pm_R18 hF]; done)
    | (simp (disch := omega) only [pe_all, pe_wi w0, pm_K17 hF, pm_K18 hF, pm_KM hF, pm_L17 hF, pm_L18 hF, pm_R17 hF, pm_R18 hF]; (repeat' apply And.intro) <;> first | assumption | omega | decide)
  · try simp (disch := omega) only [pe_wi w0, pm_K17 hF, pm_K18 hF, pm_KM hF, pm_L17 hF, pm_L18 hF, pm_R17 hF, pm_R18 hF]
    exact k
set_option maxRecDepth 8000 in
theorem b164_139 {d : Nat} {Φ : Option pe_V → pe_H → Prop} {σ : pe_H} {M : Nat} (hF : pm_F M σ) {o1 : Option pe_V} {o2 : Option pe_V} {o3 : Option pe_V} {o4 : Option pe_V}   (k : Φ none σ) : pe_X d 164 (139, [some (.inr (.inr M)), o1, o2, o3, o4], [], σ) Φ := by
  exact pe_fine 51 ck164 rfl rfl rfl trivial k
-- stepOf(IZ)V
def T165 : List (Nat × Instr × Nat) := [(0, .aload_n 0, 1), (1, .iload_n 1, 1), (2, .invokevirtual 158, 3), (5, .istore_n 3, 1), (6, .aload_n 0, 1), (7, .getfield 58, 3), (10, .iload_n 3, 1), (11, .iaload, 1), (12, .aload_n 0, 1), (13, .getfield 55, 3), (16, .iload_n 3, 1), (17, .iaload, 1), (18, .if_icmp .lt 11, 3), (21, .aload_n 0, 1), (22, .iload_n 1, 1), (23, .invokevirtual 220, 3), (26, .goto 84, 3), (29, .aload_n 0, 1), (30, .getfield 70, 3), (33, .bipush 16, 2), (35, .iload_n 3, 1), (36, .imul, 1), (37, .aload_n 0, 1), (38, .getfield 58, 3), (41, .iload_n 3, 1), (42, .iaload, 1), (43, .iadd, 1), (44, .iaload, 1), (45, .istore 4, 2), (47, .aload_n 0, 1), (48, .getfield 73, 3), (51, .bipush 16, 2), (53, .iload_n 3, 1), (54, .imul, 1), (55, .aload_n 0, 1), (56, .getfield 58, 3), (59, .iload_n 3, 1), (60, .iaload, 1), (61, .iadd, 1), (62, .iaload, 1), (63, .istore 5, 2), (65, .aload_n 0, 1), (66, .getfield 58, 3), (69, .iload_n 3, 1), (70, .dup2, 1), (71, .iaload, 1), (72, .iconst 1, 1), (73, .iadd, 1), (74, .iastore, 1), (75, .iload 4, 2), (77, .invokestatic 223, 3), (80, .ifCond .ne 16, 3), (83, .aload_n 0, 1), (84, .iload_n 1, 1), (85, .iload_n 3, 1), (86, .iload 4, 2), (88, .iload 5, 2), (90, .invokevirtual 226, 3), (93, .goto 17, 3), (96, .iload_n 2, 1), (97, .ifCond .ne 13, 3), (100, .aload_n 0, 1), (101, .iload_n 1, 1), (102, .iload_n 3, 1), (103, .iload 4, 2), (105, .iload 5, 2), (107, .invokevirtual 230, 3), (110, .aload_n 0, 1), (111, .invokevirtual 233, 3), (114, .return_, 1)]
theorem ck165 : pe_ctx 165 9 false none 6 T165 := ⟨rfl, rfl, rfl, rfl, by decide +kernel, by decide, by decide⟩
theorem b165_0 {d : Nat} {Φ : Option pe_V → pe_H → Prop} {σ : pe_H} {M : Nat} (hF : pm_F M σ) {x1 : Int} {x2 : Int} {o3 : Option pe_V} {o4 : Option pe_V} {o5 : Option pe_V}   (k : pe_M d 145 [.inr (.inr M), .inl x1] σ (fun r σ' => pe_X d 165 (5, [some (.inr (.inr M)), some (.inl x1), some (.inl x2), o3, o4, o5], r.toList ++ [], σ') Φ)) : pe_X d 165 (0, [some (.inr (.inr M)), some (.inl x1), some (.inl x2), o3, o4, o5], [], σ) Φ := by
  refine pe_blk 0 2 ck165 [] (2, [some (.inr (.inr M)), some (.inl x1), some (.inl x2), o3, o4, o5], [.inl x1, .inr (.inr M)], σ) rfl ?_ ?_
  · exact trivial
  · try simp (disch := omega) only [pm_KM hF]
    exact pe_cal 2 ck165 rfl rfl rfl ⟨pm_KM hF, by decide⟩ k
theorem b165_5 {d : Nat} {Φ : Option pe_V → pe_H → Prop} {σ : pe_H} {M : Nat} (hF : pm_F M σ) {x1 : Int} {x2 : Int} {o3 : Option pe_V} {o4 : Option pe_V} {o5 : Option pe_V} {s0 : Int} (w0 : pe_in s0 := by unfold pe_in; omega) (w1 : pe_in (pe_I σ (M + 17) s0) := by unfold pe_in; omega) (w2 : pe_in (pe_I σ (M + 16) s0) := by unfold pe_in; omega) (h0 : 0 ≤ s0 := by first | assumption | omega) (h1 : s0 < 48 := by first | assumption | omega) (k1 : (pe_I σ (M + 17) s0) < (pe_I σ (M + 16) s0) → pe_X d 165 (29, [some (.inr (.inr M)), some (.inl x1), some (.inl x2), some (.inl s0), o4, o5], [], σ) Φ) (k2 : ¬ ((pe_I σ (M + 17) s0) < (pe_I σ (M + 16) s0)) → pe_X d 165 (21, [some (.inr (.inr M)), some (.inl x1), some (.inl x2), some (.inl s0), o4, o5], [], σ) Φ) : pe_X d 165 (5, [some (.inr (.inr M)), some (.inl x1), some (.inl x2), o3, o4, o5], [.inl s0], σ) Φ := by
  refine pe_blk 3 10 ck165 [pe_K σ M = 9, pe_K σ (pe_R σ M 17) = 10, 0 ≤ (pe_w s0), (pe_w s0) < pe_L σ (pe_R σ M 17), pe_K σ M = 9, pe_K σ (pe_R σ M 16) = 10, 0 ≤ (pe_w s0), (pe_w s0) < pe_L σ (pe_R σ M 16)] (cond (decide ((pe_w (pe_I σ (pe_R σ M 17) (pe_w s0))) < (pe_w (pe_I σ (pe_R σ M 16) (pe_w s0))))) 29 21, [some (.inr (.inr M)), some (.inl x1), some (.inl x2), some (.inl s0), o4, o5], [], σ) rfl ?_ ?_
  · first
    | (simp (disch := omega) only [pe_all, pe_wi w0, pe_wi w1, pe_wi w2, pm_K16 hF, pm_K17 hF, pm_KM hF, pm_L16 hF, pm_L17 hF, pm_R16 hF, pm_R17 hF]; done)
    | (simp (disch := omega) only [pe_all, pe_wi w0, pe_wi w1, pe_wi w2, pm_K16 hF, pm_K17 hF, pm_KM hF, pm_L16 hF, pm_L17 hF, pm_R16 hF, pm_R17 hF]; (repeat' apply And.intro) <;> first | assumption | omega | decide)
  · try simp (disch := omega) only [pe_wi w0, pe_wi w1, pe_wi w2, pm_K16 hF, pm_K17 hF, pm_KM hF, pm_L16 hF, pm_L17 hF, pm_R16 hF, pm_R17 hF]
    exact pe_two k1 k2
theorem b165_21 {d : Nat} {Φ : Option pe_V → pe_H → Prop} {σ : pe_H} {M : Nat} (hF : pm_F M σ) {x1 : Int} {o2 : Option pe_V} {o3 : Option pe_V} {o4 : Option pe_V} {o5 : Option pe_V}   (k : pe_M d 151 [.inr (.inr M), .inl x1] σ (fun r σ' => pe_X d 165 (26, [some (.inr (.inr M)), some (.inl x1), o2, o3, o4, o5], r.toList ++ [], σ') Φ)) : pe_X d 165 (21, [some (.inr (.inr M)), some (.inl x1), o2, o3, o4, o5], [], σ) Φ := by
  refine pe_blk 13 2 ck165 [] (23, [some (.inr (.inr M)), some (.inl x1), o2, o3, o4, o5], [.inl x1, .inr (.inr M)], σ) rfl ?_ ?_
  · exact trivial
  · try simp (disch := omega) only [pm_KM hF]
    exact pe_cal 15 ck165 rfl rfl rfl ⟨pm_KM hF, by decide⟩ k
theorem b165_26 {d : Nat} {Φ : Option pe_V → pe_H → Prop} {σ : pe_H} {M : Nat} (hF : pm_F M σ) {o1 : Option pe_V} {o2 : Option pe_V} {o3 : Option pe_V} {o4 : Option pe_V} {o5 : Option pe_V}   (k : pe_X d 165 (110, [some (.inr (.inr M)), o1, o2, o3, o4, o5], [], σ) Φ) : pe_X d 165 (26, [some (.inr (.inr M)), o1, o2, o3, o4, o5], [], σ) Φ := by
  refine pe_blk 16 1 ck165 [] (110, [some (.inr (.inr M)), o1, o2, o3, o4, o5], [], σ) rfl ?_ ?_
  · exact trivial
  · exact k
theorem b165_29 {d : Nat} {Φ : Option pe_V → pe_H → Prop} {σ : pe_H} {M : Nat} (hF : pm_F M σ) {x1 : Int} {x2 : Int} {x3 : Int} {o4 : Option pe_V} {o5 : Option pe_V} (w0 : pe_in x3 := by unfold pe_in; omega) (w1 : pe_in ((16 * x3) + (pe_I σ (M + 17) x3)) := by unfold pe_in; omega) (h0 : 0 ≤ x3 := by first | assumption | omega) (h1 : x3 < 48 := by first | assumption | omega) (h2 : 0 ≤ ((16 * x3) + (pe_I σ (M + 17) x3)) := by first | assumption | omega) (h3 : ((16 * x3) + (pe_I σ (M + 17) x3)) < 768 := by first | assumption | omega) (k : pe_X d 165 (65, [some (.inr (.inr M)), some (.inl x1), some (.inl x2), some (.inl x3), some (.inl (pe_I σ (M + 21) ((16 * x3) + (pe_I σ (M + 17) x3)))), some (.inl (pe_I σ (M + 22) ((16 * x3) + (pe_I σ (M + 17) x3))))], [], σ) Φ) : pe_X d 165 (29, [some (.inr (.inr M)), some (.inl x1), some (.inl x2), some (.inl x3), o4, o5], [], σ) Φ := by
  refine pe_blk 17 24 ck165 [pe_K σ M = 9, pe_K σ M = 9, pe_K σ (pe_R σ M 17) = 10, 0 ≤ (pe_w x3), (pe_w x3) < pe_L σ (pe_R σ M 17), pe_K σ (pe_R σ M 21) = 10, 0 ≤ (pe_w ((16 * x3) + (pe_I σ (pe_R σ M 17) (pe_w x3)))), (pe_w ((16 * x3) + (pe_I σ (pe_R σ M 17) (pe_w x3)))) < pe_L σ (pe_R σ M 21), pe_K σ M = 9, pe_K σ M = 9, pe_K σ (pe_R σ M 17) = 10, 0 ≤ (pe_w x3), (pe_w x3) < pe_L σ (pe_R σ M 17), pe_K σ (pe_R σ M 22) = 10, 0 ≤ (pe_w ((16 * x3) + (pe_I σ (pe_R σ M 17) (pe_w x3)))), (pe_w ((16 * x3) + (pe_I σ (pe_R σ M 17) (pe_w x3)))) < pe_L σ (pe_R σ M 22)] (65, [some (.inr (.inr M)), some (.inl x1), some (.inl x2), some (.inl x3), some (.inl (pe_I σ (pe_R σ M 21) (pe_w ((16 * x3) + (pe_I σ (pe_R σ M 17) (pe_w x3)))))), some (.inl (pe_I σ (pe_R σ M 22) (pe_w ((16 * x3) + (pe_I σ (pe_R σ M 17) (pe_w x3))))))], [], σ) rfl ?_ ?_
  · first
    | (simp (disch := omega) only [pe_all, pe_wi w0, pe_wi w1, pm_K17 hF, pm_K21 hF, pm_K22 hF, pm_KM hF, pm_L17 hF, pm_L21 hF, pm_L22 hF, pm_R17 hF, pm_R21 hF, pm_R22 hF]; done)
    | (simp (disch := omega) only [pe_all, pe_wi w0, pe_wi w1, pm_K17 hF, pm_K21 hF, pm_K22 hF, pm_KM hF, pm_L17 hF, pm_L21 hF, pm_L22 hF, pm_R17 hF, pm_R21 hF, pm_R22 hF]; (repeat' apply And.intro) <;> first | assumption | omega | decide)
  · try simp (disch := omega) only [pe_wi w0, pe_wi w1, pm_K17 hF, pm_K21 hF, pm_K22 hF, pm_KM hF, pm_L17 hF, pm_L21 hF, pm_L22 hF, pm_R17 hF, pm_R21 hF, pm_R22 hF]
    exact k
theorem b165_65 {d : Nat} {Φ : Option pe_V → pe_H → Prop} {σ : pe_H} {M : Nat} (hF : pm_F M σ) {x1 : Int} {x2 : Int} {x3 : Int} {x4 : Int} {x5 : Int} (w0 : pe_in x3 := by unfold pe_in; omega) (h0 : 0 ≤ x3 := by first | assumption | omega) (h1 : x3 < 48 := by first | assumption | omega) (k : pe_M d 160 [.inl x4] (pe_wI σ (M + 17) x3 ((pe_I σ (M + 17) x3) + 1)) (fun r σ' => pe_X d 165 (80, [some (.inr (.inr M)), some (.inl x1), some (.inl x2), some (.inl x3), some (.inl x4), some (.inl x5)], r.toList ++ [], σ') Φ)) : pe_X d 165 (65, [some (.inr (.inr M)), some (.inl x1), some (.inl x2), some (.inl x3), some (.inl x4), some (.inl x5)], [], σ) Φ := by
  have hM2 := pm_2 hF
  refine pe_blk 41 9 ck165 [pe_K σ M = 9, pe_K σ (pe_R σ M 17) = 10, 0 ≤ (pe_w x3), (pe_w x3) < pe_L σ (pe_R σ M 17), pe_K σ (pe_R σ M 17) = 10, 0 ≤ (pe_w x3), (pe_w x3) < pe_L σ (pe_R σ M 17), 2 ≤ (pe_R σ M 17)] (77, [some (.inr (.inr M)), some (.inl x1), some (.inl x2), some (.inl x3), some (.inl x4), some (.inl x5)], [.inl x4], pe_wI σ (pe_R σ M 17) (pe_w x3) ((pe_I σ (pe_R σ M 17) (pe_w x3)) + 1)) rfl ?_ ?_
  · first
    | (simp (disch := omega) only [pe_all, pe_wi w0, pm_K17 hF, pm_KM hF, pm_L17 hF, pm_R17 hF]; done)
    | (simp (disch := omega) only [pe_all, pe_wi w0, pm_K17 hF, pm_KM hF, pm_L17 hF, pm_R17 hF]; (repeat' apply And.intro) <;> first | assumption | omega | decide)
  · try simp (disch := omega) only [pe_wi w0, pm_K17 hF, pm_KM hF, pm_L17 hF, pm_R17 hF]
    exact pe_cal 50 ck165 rfl rfl rfl trivial k
set_option maxRecDepth 8000 in
theorem b165_80 {d : Nat} {Φ : Option pe_V → pe_H → Prop} {σ : pe_H} {M : Nat} (hF : pm_F M σ) {x1 : Int} {x2 : Int} {x3 : Int} {x4 : Int} {x5 : Int} {s0 : Int} (w0 : pe_in s0 := by unfold pe_in; omega)  (k1 : ¬ s0 = 0 → pe_X d 165 (96, [some (.inr (.inr M)), some (.inl x1), some (.inl x2), some (.inl x3), some (.inl x4), some (.inl x5)], [], σ) Φ) (k2 : s0 = 0 → pe_X d 165 (83, [some (.inr (.inr M)), some (.inl x1), some (.inl x2), some (.inl x3), some (.inl x4), some (.inl x5)], [], σ) Φ) : pe_X d 165 (80, [some (.inr (.inr M)), some (.inl x1), some (.inl x2), some (.inl x3), some (.inl x4), some (.inl x5)], [.inl s0], σ) Φ := by
  refine pe_blk 51 1 ck165 [] (cond (decide (¬ (pe_w s0) = 0)) 96 83, [some (.inr (.inr M)), some (.inl x1), some (.inl x2), some (.inl x3), some (.inl x4), some (.inl x5)], [], σ) rfl ?_ ?_
  · exact trivial
  · try simp (disch := omega) only [pe_wi w0]
    exact pe_two' k1 k2
set_option maxRecDepth 8000 in
theorem b165_83 {d : Nat} {Φ : Option pe_V → pe_H → Prop} {σ : pe_H} {M : Nat} (hF : pm_F M σ) {x1 : Int} {o2 : Option pe_V} {x3 : Int} {x4 : Int} {x5 : Int}   (k : pe_M d 163 [.inr (.inr M), .inl x1, .inl x3, .inl x4, .inl x5] σ (fun r σ' => pe_X d 165 (93, [some (.inr (.inr M)), some (.inl x1), o2, some (.inl x3), some (.inl x4), some (.inl x5)], r.toList ++ [], σ') Φ)) : pe_X d 165 (83, [some (.inr (.inr M)), some (.inl x1), o2, some (.inl x3), some (.inl x4), some (.inl x5)], [], σ) Φ := by
  refine pe_blk 52 5 ck165 [] (90, [some (.inr (.inr M)), some (.inl x1), o2, some (.inl x3), some (.inl x4), some (.inl x5)], [.inl x5, .inl x4, .inl x3, .inl x1, .inr (.inr M)], σ) rfl ?_ ?_
  · exact trivial
  · try simp (disch := omega) only [pm_KM hF]
    exact pe_cal 57 ck165 rfl rfl rfl ⟨pm_KM hF, by decide⟩ k
set_option maxRecDepth 8000 in
theorem b165_93 {d : Nat} {Φ : Option pe_V → pe_H → Prop} {σ : pe_H} {M : Nat} (hF : pm_F M σ) {o1 : Option pe_V} {o2 : Option pe_V} {o3 : Option pe_V} {o4 : Option pe_V} {o5 : Option pe_V}   (k : pe_X d 165 (110, [some (.inr (.inr M)), o1, o2, o3, o4, o5], [], σ) Φ) : pe_X d 165 (93, [some (.inr (.inr M)), o1, o2, o3, o4, o5], [], σ) Φ := by
  refine pe_blk 58 1 ck165 [] (110, [some (.inr (.inr M)), o1, o2, o3, o4, o5], [], σ) rfl ?_ ?_
  · exact trivial
  · exact k
set_option maxRecDepth 8000 in
theorem b165_96 {d : Nat} {Φ : Option pe_V → pe_H → Prop} {σ : pe_H} {M : Nat} (hF : pm_F M σ) {x1 : Int} {x2 : Int} {x3 : Int} {x4 : Int} {x5 : Int} (w0 : pe_in x2 := by unfold pe_in; omega)  (k1 : ¬ x2 = 0 → pe_X d 165 (110, [some (.inr (.inr M)), some (.inl x1), some (.inl x2), some (.inl x3), some (.inl x4), some (.inl x5)], [], σ) Φ) (k2 : x2 = 0 → pe_X d 165 (100, [some (.inr (.inr M)), some (.inl x1), some (.inl x2), some (.inl x3), some (.inl x4), some (.inl x5)], [], σ) Φ) : pe_X d 165 (96, [some (.inr (.inr M)), some (.inl x1), some (.inl x2), some (.inl x3), some (.inl x4), some (.inl x5)], [], σ) Φ := by
  refine pe_blk 59 2 ck165 [] (cond (decide (¬ (pe_w x2) = 0)) 110 100, [some (.inr (.inr M)), some (.inl x1), some (.inl x2), some (.inl x3), some (.inl x4), some (.inl x5)], [], σ) rfl ?_ ?_
  · exact trivial
  · try simp (disch := omega) only [pe_wi w0]
    exact pe_two' k1 k2
set_option maxRecDepth 8000 in
theorem b165_100 {d : Nat} {Φ : Option pe_V → pe_H → Prop} {σ : pe_H} {M : Nat} (hF : pm_F M σ) {x1 : Int} {o2 : Option pe_V} {x3 : Int} {x4 : Int} {x5 : Int}   (k : pe_M d 164 [.inr (.inr M), .inl x1, .inl x3, .inl x4, .inl x5] σ (fun r σ' => pe_X d 165 (110, [some (.inr (.inr M)), some (.inl x1), o2, some (.inl x3), some (.inl x4), some (.inl x5)], r.toList ++ [], σ') Φ)) : pe_X d 165 (100, [some (.inr (.inr M)), some (.inl x1), o2, some (.inl x3), some (.inl x4), some (.inl x5)], [], σ) Φ := by
  refine pe_blk 61 5 ck165 [] (107, [some (.inr (.inr M)), some (.inl x1), o2, some (.inl x3), some (.inl x4), some (.inl x5)], [.inl x5, .inl x4, .inl x3, .inl x1, .inr (.inr M)], σ) rfl ?_ ?_
  · exact trivial
  · try simp (disch := omega) only [pm_KM hF]
    exact pe_cal 66 ck165 rfl rfl rfl ⟨pm_KM hF, by decide⟩ k
set_option maxRecDepth 8000 in
theorem b165_110 {d : Nat} {Φ : Option pe_V → pe_H → Prop} {σ : pe_H} {M : Nat} (hF : pm_F M σ) {o1 : Option pe_V} {o2 : Option pe_V} {o3 : Option pe_V} {o4 : Option pe_V} {o5 : Option pe_V}   (k : pe_M d 159 [.inr (.inr M)] σ (fun r σ' => pe_X d 165 (114, [some (.inr (.inr M)), o1, o2, o3, o4, o5], r.toList ++ [], σ') Φ)) : pe_X d 165 (110, [some (.inr (.inr M)), o1, o2, o3, o4, o5], [], σ) Φ := by
  refine pe_blk 67 1 ck165 [] (111, [some (.inr (.inr M)), o1, o2, o3, o4, o5], [.inr (.inr M)], σ) rfl ?_ ?_
  · exact trivial
  · try simp (disch := omega) only [pm_KM hF]
    exact pe_cal 68 ck165 rfl rfl rfl ⟨pm_KM hF, by decide⟩ k
set_option maxRecDepth 8000 in
theorem b165_114 {d : Nat} {Φ : Option pe_V → pe_H → Prop} {σ : pe_H} {M : Nat} (hF : pm_F M σ) {o1 : Option pe_V} {o2 : Option pe_V} {o3 : Option pe_V} {o4 : Option pe_V} {o5 : Option pe_V}   (k : Φ none σ) : pe_X d 165 (114, [some (.inr (.inr M)), o1, o2, o3, o4, o5], [], σ) Φ := by
  exact pe_fine 69 ck165 rfl rfl rfl trivial k
-- sendTo(II)V
def T166 : List (Nat × Instr × Nat) := [(0, .aload_n 0, 1), (1, .getfield 31, 3), (4, .iload_n 1, 1), (5, .aload_n 0, 1), (6, .getfield 28, 3), (9, .iload_n 1, 1), (10, .iaload, 1), (11, .iconst 2, 1), (12, .if_icmp .ne 12, 3), (15, .aload_n 0, 1), (16, .iload_n 1, 1), (17, .iload_n 2, 1), (18, .invokevirtual 236, 3), (21, .goto 9, 3), (24, .aload_n 0, 1), (25, .getfield 31, 3), (28, .iload_n 1, 1), (29, .iaload, 1), (30, .iastore, 1), (31, .aload_n 0, 1), (32, .getfield 28, 3), (35, .iload_n 1, 1), (36, .iconst 1, 1), (37, .iastore, 1), (38, .iconst 0, 1), (39, .istore_n 3, 1), (40, .iload_n 3, 1), (41, .bipush 40, 2), (43, .if_icmp .ge 25, 3), (46, .aload_n 0, 1), (47, .getfield 28, 3), (50, .iload_n 1, 1), (51, .iaload, 1), (52, .iconst 1, 1), (53, .if_icmp .ne 15, 3), (56, .aload_n 0, 1), (57, .iload_n 1, 1), (58, .iconst 0, 1), (59, .invokevirtual 239, 3), (62, .iinc 3 1, 3), (65, .goto (-25), 3), (68, .return_, 1)]
theorem ck166 : pe_ctx 166 9 false none 4 T166 := ⟨rfl, rfl, rfl, rfl, by decide +kernel, by decide, by decide⟩
theorem b166_0 {d : Nat} {Φ : Option pe_V → pe_H → Prop} {σ : pe_H} {M : Nat} (hF : pm_F M σ) {x1 : Int} {x2 : Int} {o3 : Option pe_V} (w0 : pe_in x1 := by unfold pe_in; omega) (w1 : pe_in (pe_I σ (M + 7) x1) := by unfold pe_in; omega) (h0 : 0 ≤ x1 := by first | assumption | omega) (h1 : x1 < 8 := by first | assumption | omega) (k1 : ¬ (pe_I σ (M + 7) x1) = 2 → pe_X d 166 (24, [some (.inr (.inr M)), some (.inl x1), some (.inl x2), o3], [.inl x1, .inr (.inr (M + 8))], σ) Φ) (k2 : (pe_I σ (M + 7) x1) = 2 → pe_X d 166 (15, [some (.inr (.inr M)), some (.inl x1), some (.inl x2), o3], [.inl x1, .inr (.inr (M + 8))], σ) Φ) : pe_X d 166 (0, [some (.inr (.inr M)), some (.inl x1), some (.inl x2), o3], [], σ) Φ := by
  refine pe_blk 0 9 ck166 [pe_K σ M = 9, pe_K σ M = 9, pe_K σ (pe_R σ M 7) = 10, 0 ≤ (pe_w x1), (pe_w x1) < pe_L σ (pe_R σ M 7)] (cond (decide (¬ (pe_w (pe_I σ (pe_R σ M 7) (pe_w x1))) = (pe_w 2))) 24 15, [some (.inr (.inr M)), some (.inl x1), some (.inl x2), o3], [.inl x1, .inr (.inr (pe_R σ M 8))], σ) rfl ?_ ?_
  · first
    | (simp (disch := omega) only [pe_all, pe_wi w0, pe_wi w1, pe_wi (x := 2) ⟨by decide, by decide⟩, pm_K7 hF, pm_KM hF, pm_L7 hF, pm_R7 hF, pm_R8 hF]; done)
    | (simp (disch := omega) only [pe_all, pe_wi w0, pe_wi w1, pe_wi (x := 2) ⟨by decide, by decide⟩, pm_K7 hF, pm_KM hF, pm_L7 hF, pm_R7 hF, pm_R8 hF]; (repeat' apply And.intro) <;> first | assumption | omega | decide)
  · try simp (disch := omega) only [pe_wi w0, pe_wi w1, pe_wi (x := 2) ⟨by decide, by decide⟩, pm_K7 hF, pm_KM hF, pm_L7 hF, pm_R7 hF, pm_R8 hF]
    exact pe_two' k1 k2
theorem b166_15 {d : Nat} {Φ : Option pe_V → pe_H → Prop} {σ : pe_H} {M : Nat} (hF : pm_F M σ) {x1 : Int} {x2 : Int} {o3 : Option pe_V} {b0 : Nat} {s1 : Int}   (k : pe_M d 144 [.inr (.inr M), .inl x1, .inl x2] σ (fun r σ' => pe_X d 166 (21, [some (.inr (.inr M)), some (.inl x1), some (.inl x2), o3], r.toList ++ [.inl s1, .inr (.inr b0)], σ') Φ)) : pe_X d 166 (15, [some (.inr (.inr M)), some (.inl x1), some (.inl x2), o3], [.inl s1, .inr (.inr b0)], σ) Φ := by
  refine pe_blk 9 3 ck166 [] (18, [some (.inr (.inr M)), some (.inl x1), some (.inl x2), o3], [.inl x2, .inl x1, .inr (.inr M), .inl s1, .inr (.inr b0)], σ) rfl ?_ ?_
  · exact trivial
  · try simp (disch := omega) only [pm_KM hF]
    exact pe_cal 12 ck166 rfl rfl rfl ⟨pm_KM hF, by decide⟩ k
theorem b166_21 {d : Nat} {Φ : Option pe_V → pe_H → Prop} {σ : pe_H} {M : Nat} (hF : pm_F M σ) {x1 : Int} {o2 : Option pe_V} {o3 : Option pe_V} {b0 : Nat} {s1 : Int} {s2 : Int}   (k : pe_X d 166 (30, [some (.inr (.inr M)), some (.inl x1), o2, o3], [.inl s2, .inl s1, .inr (.inr b0)], σ) Φ) : pe_X d 166 (21, [some (.inr (.inr M)), some (.inl x1), o2, o3], [.inl s2, .inl s1, .inr (.inr b0)], σ) Φ := by
  refine pe_blk 13 1 ck166 [] (30, [some (.inr (.inr M)), some (.inl x1), o2, o3], [.inl s2, .inl s1, .inr (.inr b0)], σ) rfl ?_ ?_
  · exact trivial
  · exact k
theorem b166_24 {d : Nat} {Φ : Option pe_V → pe_H → Prop} {σ : pe_H} {M : Nat} (hF : pm_F M σ) {x1 : Int} {o2 : Option pe_V} {o3 : Option pe_V} {b0 : Nat} {s1 : Int} (w0 : pe_in x1 := by unfold pe_in; omega) (h0 : 0 ≤ x1 := by first | assumption | omega) (h1 : x1 < 8 := by first | assumption | omega) (k : pe_X d 166 (30, [some (.inr (.inr M)), some (.inl x1), o2, o3], [.inl (pe_I σ (M + 8) x1), .inl s1, .inr (.inr b0)], σ) Φ) : pe_X d 166 (24, [some (.inr (.inr M)), some (.inl x1), o2, o3], [.inl s1, .inr (.inr b0)], σ) Φ := by
  refine pe_blk 14 4 ck166 [pe_K σ M = 9, pe_K σ (pe_R σ M 8) = 10, 0 ≤ (pe_w x1), (pe_w x1) < pe_L σ (pe_R σ M 8)] (30, [some (.inr (.inr M)), some (.inl x1), o2, o3], [.inl (pe_I σ (pe_R σ M 8) (pe_w x1)), .inl s1, .inr (.inr b0)], σ) rfl ?_ ?_
  · first
    | (simp (disch := omega) only [pe_all, pe_wi w0, pm_K8 hF, pm_KM hF, pm_L8 hF, pm_R8 hF]; done)
    | (simp (disch := omega) only [pe_all, pe_wi w0, pm_K8 hF, pm_KM hF, pm_L8 hF, pm_R8 hF]; (repeat' apply And.intro) <;> first | assumption | omega | decide)
  · try simp (disch := omega) only [pe_wi w0, pm_K8 hF, pm_KM hF, pm_L8 hF, pm_R8 hF]
    exact k
theorem b166_30 {d : Nat} {Φ : Option pe_V → pe_H → Prop} {σ : pe_H} {M : Nat} (hF : pm_F M σ) {x1 : Int} {o2 : Option pe_V} {o3 : Option pe_V} {b0 : Nat} {s1 : Int} {s2 : Int} (w0 : pe_in s1 := by unfold pe_in; omega) (w1 : pe_in x1 := by unfold pe_in; omega) (h0 : pe_K σ b0 = 10 := by first | assumption | omega) (h1 : 0 ≤ s1 := by first | assumption | omega) (h2 : s1 < pe_L σ b0 := by first | assumption | omega) (h3 : 2 ≤ b0 := by first | assumption | omega) (h4 : 0 ≤ x1 := by first | assumption | omega) (h5 : x1 < 8 := by first | assumption | omega) (k : pe_X d 166 (40, [some (.inr (.inr M)), some (.inl x1), pe_nl o2, some (.inl 0)], [], pe_wI (pe_wI σ b0 s1 s2) (M + 7) x1 1) Φ) : pe_X d 166 (30, [some (.inr (.inr M)), some (.inl x1), o2, o3], [.inl s2, .inl s1, .inr (.inr b0)], σ) Φ := by
  have hM2 := pm_2 hF
  refine pe_blk 18 8 ck166 [pe_K σ b0 = 10, 0 ≤ (pe_w s1), (pe_w s1) < pe_L σ b0, 2 ≤ b0, pe_K σ M = 9, pe_K σ (pe_R σ M 7) = 10, 0 ≤ (pe_w x1), (pe_w x1) < pe_L σ (pe_R σ M 7), 2 ≤ (pe_R σ M 7)] (40, [some (.inr (.inr M)), some (.inl x1), pe_nl o2, some (.inl 0)], [], pe_wI (pe_wI σ b0 (pe_w s1) s2) (pe_R σ M 7) (pe_w x1) 1) rfl ?_ ?_
  · first
    | (simp (disch := omega) only [pe_all, pe_wi w0, pe_wi w1, pm_K7 hF, pm_KM hF, pm_L7 hF, pm_R7 hF]; done)
    | (simp (disch := omega) only [pe_all, pe_wi w0, pe_wi w1, pm_K7 hF, pm_KM hF, pm_L7 hF, pm_R7 hF]; (repeat' apply And.intro) <;> first | assumption | omega | decide)
  · try simp (disch := omega) only [pe_wi w0, pe_wi w1, pm_K7 hF, pm_KM hF, pm_L7 hF, pm_R7 hF]
    exact k
theorem b166_40 {d : Nat} {Φ : Option pe_V → pe_H → Prop} {σ : pe_H} {M : Nat} (hF : pm_F M σ) {x1 : Int} {o2 : Option pe_V} {x3 : Int} (w0 : pe_in x3 := by unfold pe_in; omega)  (k1 : 40 ≤ x3 → pe_X d 166 (68, [some (.inr (.inr M)), some (.inl x1), o2, some (.inl x3)], [], σ) Φ) (k2 : ¬ (40 ≤ x3) → pe_X d 166 (46, [some (.inr (.inr M)), some (.inl x1), o2, some (.inl x3)], [], σ) Φ) : pe_X d 166 (40, [some (.inr (.inr M)), some (.inl x1), o2, some (.inl x3)], [], σ) Φ := by
  refine pe_blk 26 3 ck166 [] (cond (decide ((pe_w 40) ≤ (pe_w x3))) 68 46, [some (.inr (.inr M)), some (.inl x1), o2, some (.inl x3)], [], σ) rfl ?_ ?_
  · exact trivial
  · try simp (disch := omega) only [pe_wi w0, pe_wi (x := 40) ⟨by decide, by decide⟩]
    exact pe_two k1 k2
theorem b166_46 {d : Nat} {Φ : Option pe_V → pe_H → Prop} {σ : pe_H} {M : Nat} (hF : pm_F M σ) {x1 : Int} {o2 : Option pe_V} {x3 : Int} (w0 : pe_in x1 := by unfold pe_in; omega) (w1 : pe_in (pe_I σ (M + 7) x1) := by unfold pe_in; omega) (h0 : 0 ≤ x1 := by first | assumption | omega) (h1 : x1 < 8 := by first | assumption | omega) (k1 : ¬ (pe_I σ (M + 7) x1) = 1 → pe_X d 166 (68, [some (.inr (.inr M)), some (.inl x1), o2, some (.inl x3)], [], σ) Φ) (k2 : (pe_I σ (M + 7) x1) = 1 → pe_X d 166 (56, [some (.inr (.inr M)), some (.inl x1), o2, some (.inl x3)], [], σ) Φ) : pe_X d 166 (46, [some (.inr (.inr M)), some (.inl x1), o2, some (.inl x3)], [], σ) Φ := by
  refine pe_blk 29 6 ck166 [pe_K σ M = 9, pe_K σ (pe_R σ M 7) = 10, 0 ≤ (pe_w x1), (pe_w x1) < pe_L σ (pe_R σ M 7)] (cond (decide (¬ (pe_w (pe_I σ (pe_R σ M 7) (pe_w x1))) = (pe_w 1))) 68 56, [some (.inr (.inr M)), some (.inl x1), o2, some (.inl x3)], [], σ) rfl ?_ ?_
  · first
    | (simp (disch := omega) only [pe_all, pe_wi w0, pe_wi w1, pe_wi (x := 1) ⟨by decide, by decide⟩, pm_K7 hF, pm_KM hF, pm_L7 hF, pm_R7 hF]; done)
    | (simp (disch := omega) only [pe_all, pe_wi w0, pe_wi w1, pe_wi (x := 1) ⟨by decide, by decide⟩, pm_K7 hF, pm_KM hF, pm_L7 hF, pm_R7 hF]; (repeat' apply And.intro) <;> first | assumption | omega | decide)
  · try simp (disch := omega) only [pe_wi w0, pe_wi w1, pe_wi (x := 1) ⟨by decide, by decide⟩, pm_K7 hF, pm_KM hF, pm_L7 hF, pm_R7 hF]
    exact pe_two' k1 k2
theorem b166_56 {d : Nat} {Φ : Option pe_V → pe_H → Prop} {σ : pe_H} {M : Nat} (hF : pm_F M σ) {x1 : Int} {o2 : Option pe_V} {x3 : Int}   (k : pe_M d 165 [.inr (.inr M), .inl x1, .inl 0] σ (fun r σ' => pe_X d 166 (62, [some (.inr (.inr M)), some (.inl x1), o2, some (.inl x3)], r.toList ++ [], σ') Φ)) : pe_X d 166 (56, [some (.inr (.inr M)), some (.inl x1), o2, some (.inl x3)], [], σ) Φ := by
  refine pe_blk 35 3 ck166 [] (59, [some (.inr (.inr M)), some (.inl x1), o2, some (.inl x3)], [.inl 0, .inl x1, .inr (.inr M)], σ) rfl ?_ ?_
  · exact trivial
  · try simp (disch := omega) only [pm_KM hF]
    exact pe_cal 38 ck166 rfl rfl rfl ⟨pm_KM hF, by decide⟩ k
theorem b166_62 {d : Nat} {Φ : Option pe_V → pe_H → Prop} {σ : pe_H} {M : Nat} (hF : pm_F M σ) {x1 : Int} {o2 : Option pe_V} {x3 : Int}   (k : pe_X d 166 (40, [some (.inr (.inr M)), some (.inl x1), pe_nl o2, some (.inl (x3 + 1))], [], σ) Φ) : pe_X d 166 (62, [some (.inr (.inr M)), some (.inl x1), o2, some (.inl x3)], [], σ) Φ := by
  refine pe_blk 39 2 ck166 [] (40, [some (.inr (.inr M)), some (.inl x1), pe_nl o2, some (.inl (x3 + 1))], [], σ) rfl ?_ ?_
  · exact trivial
  · exact k
theorem b166_68 {d : Nat} {Φ : Option pe_V → pe_H → Prop} {σ : pe_H} {M : Nat} (hF : pm_F M σ) {o1 : Option pe_V} {o2 : Option pe_V} {o3 : Option pe_V}   (k : Φ none σ) : pe_X d 166 (68, [some (.inr (.inr M)), o1, o2, o3], [], σ) Φ := by
  exact pe_fine 41 ck166 rfl rfl rfl trivial k
-- closing(I)V
def T167 : List (Nat × Instr × Nat) := [(0, .aload_n 0, 1), (1, .getfield 28, 3), (4, .iload_n 1, 1), (5, .iaload, 1), (6, .iconst 3, 1), (7, .if_icmp .eq 13, 3), (10, .aload_n 0, 1), (11, .getfield 28, 3), (14, .iload_n 1, 1), (15, .iaload, 1), (16, .iconst 4, 1), (17, .if_icmp .ne 30, 3), (20, .aload_n 0, 1), (21, .aload_n 0, 1), (22, .getfield 43, 3), (25, .iload_n 1, 1), (26, .iaload, 1), (27, .aload_n 0, 1), (28, .getfield 28, 3), (31, .iload_n 1, 1), (32, .iaload, 1), (33, .iconst 4, 1), (34, .if_icmp .ne 7, 3), (37, .iconst 3, 1), (38, .goto 4, 3), (41, .iconst 0, 1), (42, .iadd, 1), (43, .iload_n 1, 1), (44, .invokevirtual 173, 3), (47, .aload_n 0, 1), (48, .getfield 28, 3), (51, .iload_n 1, 1), (52, .iconst 1, 1), (53, .iastore, 1), (54, .aload_n 0, 1), (55, .iload_n 1, 1), (56, .invokevirtual 169, 3), (59, .aload_n 0, 1), (60, .iload_n 1, 1), (61, .invokevirtual 151, 3), (64, .ifCond .ne 12, 3), (67, .aload_n 0, 1), (68, .iload_n 1, 1), (69, .iconst 1, 1), (70, .invokevirtual 239, 3), (73, .goto (-14), 3), (76, .aload_n 0, 1), (77, .invokevirtual 233, 3), (80, .return_, 1)]
theorem ck167 : pe_ctx 167 9 false none 2 T167 := ⟨rfl, rfl, rfl, rfl, by decide +kernel, by decide, by decide⟩
theorem b167_0 {d : Nat} {Φ : Option pe_V → pe_H → Prop} {σ : pe_H} {M : Nat} (hF : pm_F M σ) {x1 : Int} (w0 : pe_in x1 := by unfold pe_in; omega) (w1 : pe_in (pe_I σ (M + 7) x1) := by unfold pe_in; omega) (h0 : 0 ≤ x1 := by first | assumption | omega) (h1 : x1 < 8 := by first | assumption | omega) (k1 : (pe_I σ (M + 7) x1) = 3 → pe_X d 167 (20, [some (.inr (.inr M)), some (.inl x1)], [], σ) Φ) (k2 : ¬ ((pe_I σ (M + 7) x1) = 3) → pe_X d 167 (10, [some (.inr (.inr M)), some (.inl x1)], [], σ) Φ) : pe_X d 167 (0, [some (.inr (.inr M)), some (.inl x1)], [], σ) Φ := by
  refine pe_blk 0 6 ck167 [pe_K σ M = 9, pe_K σ (pe_R σ M 7) = 10, 0 ≤ (pe_w x1), (pe_w x1) < pe_L σ (pe_R σ M 7)] (cond (decide ((pe_w (pe_I σ (pe_R σ M 7) (pe_w x1))) = (pe_w 3))) 20 10, [some (.inr (.inr M)), some (.inl x1)], [], σ) rfl ?_ ?_
  · first
    | (simp (disch := omega) only [pe_all, pe_wi w0, pe_wi w1, pe_wi (x := 3) ⟨by decide, by decide⟩, pm_K7 hF, pm_KM hF, pm_L7 hF, pm_R7 hF]; done)
    | (simp (disch := omega) only [pe_all, pe_wi w0, pe_wi w1, pe_wi (x := 3) ⟨by decide, by decide⟩, pm_K7 hF, pm_KM hF, pm_L7 hF, pm_R7 hF]; (repeat' apply And.intro) <;> first | assumption | omega | decide)
  · try simp (disch := omega) only [pe_wi w0, pe_wi w1, pe_wi (x := 3) ⟨by decide, by decide⟩, pm_K7 hF, pm_KM hF, pm_L7 hF, pm_R7 hF]
    exact pe_two k1 k2
theorem b167_10 {d : Nat} {Φ : Option pe_V → pe_H → Prop} {σ : pe_H} {M : Nat} (hF : pm_F M σ) {x1 : Int} (w0 : pe_in x1 := by unfold pe_in; omega) (w1 : pe_in (pe_I σ (M + 7) x1) := by unfold pe_in; omega) (h0 : 0 ≤ x1 := by first | assumption | omega) (h1 : x1 < 8 := by first | assumption | omega) (k1 : ¬ (pe_I σ (M + 7) x1) = 4 → pe_X d 167 (47, [some (.inr (.inr M)), some (.inl x1)], [], σ) Φ) (k2 : (pe_I σ (M + 7) x1) = 4 → pe_X d 167 (20, [some (.inr (.inr M)), some (.inl x1)], [], σ) Φ) : pe_X d 167 (10, [some (.inr (.inr M)), some (.inl x1)], [], σ) Φ := by
  refine pe_blk 6 6 ck167 [pe_K σ M = 9, pe_K σ (pe_R σ M 7) = 10, 0 ≤ (pe_w x1), (pe_w x1) < pe_L σ (pe_R σ M 7)] (cond (decide (¬ (pe_w (pe_I σ (pe_R σ M 7) (pe_w x1))) = (pe_w 4))) 47 20, [some (.inr (.inr M)), some (.inl x1)], [], σ) rfl ?_ ?_
  · first
    | (simp (disch := omega) only [pe_all, pe_wi w0, pe_wi w1, pe_wi (x := 4) ⟨by decide, by decide⟩, pm_K7 hF, pm_KM hF, pm_L7 hF, pm_R7 hF]; done)
    | (simp (disch := omega) only [pe_all, pe_wi w0, pe_wi w1, pe_wi (x := 4) ⟨by decide, by decide⟩, pm_K7 hF, pm_KM hF, pm_L7 hF, pm_R7 hF]; (repeat' apply And.intro) <;> first | assumption | omega | decide)
  · try simp (disch := omega) only [pe_wi w0, pe_wi w1, pe_wi (x := 4) ⟨by decide, by decide⟩, pm_K7 hF, pm_KM hF, pm_L7 hF, pm_R7 hF]
    exact pe_two' k1 k2
theorem b167_20 {d : Nat} {Φ : Option pe_V → pe_H → Prop} {σ : pe_H} {M : Nat} (hF : pm_F M σ) {x1 : Int} (w0 : pe_in x1 := by unfold pe_in; omega) (w1 : pe_in (pe_I σ (M + 7) x1) := by unfold pe_in; omega) (h0 : 0 ≤ x1 := by first | assumption | omega) (h1 : x1 < 8 := by first | assumption | omega) (k1 : ¬ (pe_I σ (M + 7) x1) = 4 → pe_X d 167 (41, [some (.inr (.inr M)), some (.inl x1)], [.inl (pe_I σ (M + 12) x1), .inr (.inr M)], σ) Φ) (k2 : (pe_I σ (M + 7) x1) = 4 → pe_X d 167 (37, [some (.inr (.inr M)), some (.inl x1)], [.inl (pe_I σ (M + 12) x1), .inr (.inr M)], σ) Φ) : pe_X d 167 (20, [some (.inr (.inr M)), some (.inl x1)], [], σ) Φ := by
  refine pe_blk 12 11 ck167 [pe_K σ M = 9, pe_K σ (pe_R σ M 12) = 10, 0 ≤ (pe_w x1), (pe_w x1) < pe_L σ (pe_R σ M 12), pe_K σ M = 9, pe_K σ (pe_R σ M 7) = 10, 0 ≤ (pe_w x1), (pe_w x1) < pe_L σ (pe_R σ M 7)] (cond (decide (¬ (pe_w (pe_I σ (pe_R σ M 7) (pe_w x1))) = (pe_w 4))) 41 37, [some (.inr (.inr M)), some (.inl x1)], [.inl (pe_I σ (pe_R σ M 12) (pe_w x1)), .inr (.inr M)], σ) rfl ?_ ?_
  · first
    | (simp (disch := omega) only [pe_all, pe_wi w0, pe_wi w1, pe_wi (x := 4) ⟨by decide, by decide⟩, pm_K12 hF, pm_K7 hF, pm_KM hF, pm_L12 hF, pm_L7 hF, pm_R12 hF, pm_R7 hF]; done)
    | (simp (disch := omega) only [pe_all, pe_wi w0, pe_wi w1, pe_wi (x := 4) ⟨by decide, by decide⟩, pm_K12 hF, pm_K7 hF, pm_KM hF, pm_L12 hF, pm_L7 hF, pm_R12 hF, pm_R7 hF]; (repeat' apply And.intro) <;> first | assumption | omega | decide)
  · try simp (disch := omega) only [pe_wi w0, pe_wi w1, pe_wi (x := 4) ⟨by decide, by decide⟩, pm_K12 hF, pm_K7 hF, pm_KM hF, pm_L12 hF, pm_L7 hF, pm_R12 hF, pm_R7 hF]
    exact pe_two' k1 k2
theorem b167_37 {d : Nat} {Φ : Option pe_V → pe_H → Prop} {σ : pe_H} {M : Nat} (hF : pm_F M σ) {x1 : Int} {b0 : Nat} {s1 : Int}   (k : pe_X d 167 (42, [some (.inr (.inr M)), some (.inl x1)], [.inl 3, .inl s1, .inr (.inr b0)], σ) Φ) : pe_X d 167 (37, [some (.inr (.inr M)), some (.inl x1)], [.inl s1, .inr (.inr b0)], σ) Φ := by
  refine pe_blk 23 2 ck167 [] (42, [some (.inr (.inr M)), some (.inl x1)], [.inl 3, .inl s1, .inr (.inr b0)], σ) rfl ?_ ?_
  · exact trivial
  · exact k
theorem b167_41 {d : Nat} {Φ : Option pe_V → pe_H → Prop} {σ : pe_H} {M : Nat} (hF : pm_F M σ) {x1 : Int} {b0 : Nat} {s1 : Int}   (k : pe_X d 167 (42, [some (.inr (.inr M)), some (.inl x1)], [.inl 0, .inl s1, .inr (.inr b0)], σ) Φ) : pe_X d 167 (41, [some (.inr (.inr M)), some (.inl x1)], [.inl s1, .inr (.inr b0)], σ) Φ := by
  refine pe_blk 25 1 ck167 [] (42, [some (.inr (.inr M)), some (.inl x1)], [.inl 0, .inl s1, .inr (.inr b0)], σ) rfl ?_ ?_
  · exact trivial
  · exact k
theorem b167_42 {d : Nat} {Φ : Option pe_V → pe_H → Prop} {σ : pe_H} {M : Nat} (hF : pm_F M σ) {x1 : Int} {b0 : Nat} {s1 : Int} {s2 : Int}  (h0 : pe_K σ b0 = 9 := by first | assumption | omega) (k : pe_M d 154 [.inr (.inr b0), .inl (s1 + s2), .inl x1] σ (fun r σ' => pe_X d 167 (47, [some (.inr (.inr M)), some (.inl x1)], r.toList ++ [], σ') Φ)) : pe_X d 167 (42, [some (.inr (.inr M)), some (.inl x1)], [.inl s2, .inl s1, .inr (.inr b0)], σ) Φ := by
  refine pe_blk 26 2 ck167 [] (44, [some (.inr (.inr M)), some (.inl x1)], [.inl x1, .inl (s1 + s2), .inr (.inr b0)], σ) rfl ?_ ?_
  · exact trivial
  · exact pe_cal 28 ck167 rfl rfl rfl ⟨by assumption, by decide⟩ k
theorem b167_47 {d : Nat} {Φ : Option pe_V → pe_H → Prop} {σ : pe_H} {M : Nat} (hF : pm_F M σ) {x1 : Int} (w0 : pe_in x1 := by unfold pe_in; omega) (h0 : 0 ≤ x1 := by first | assumption | omega) (h1 : x1 < 8 := by first | assumption | omega) (k : pe_M d 150 [.inr (.inr M), .inl x1] (pe_wI σ (M + 7) x1 1) (fun r σ' => pe_X d 167 (59, [some (.inr (.inr M)), some (.inl x1)], r.toList ++ [], σ') Φ)) : pe_X d 167 (47, [some (.inr (.inr M)), some (.inl x1)], [], σ) Φ := by
  have hM2 := pm_2 hF
  refine pe_blk 29 7 ck167 [pe_K σ M = 9, pe_K σ (pe_R σ M 7) = 10, 0 ≤ (pe_w x1), (pe_w x1) < pe_L σ (pe_R σ M 7), 2 ≤ (pe_R σ M 7)] (56, [some (.inr (.inr M)), some (.inl x1)], [.inl x1, .inr (.inr M)], pe_wI σ (pe_R σ M 7) (pe_w x1) 1) rfl ?_ ?_
  · first
    | (simp (disch := omega) only [pe_all, pe_wi w0, pm_K7 hF, pm_KM hF, pm_L7 hF, pm_R7 hF]; done)
    | (simp (disch := omega) only [pe_all, pe_wi w0, pm_K7 hF, pm_KM hF, pm_L7 hF, pm_R7 hF]; (repeat' apply And.intro) <;> first | assumption | omega | decide)
  · try simp (disch := omega) only [pe_wi w0, pm_K7 hF, pm_KM hF, pm_L7 hF, pm_R7 hF]
    exact pe_cal 36 ck167 rfl rfl rfl ⟨pm_KM hF, by decide⟩ k
theorem b167_59 {d : Nat} {Φ : Option pe_V → pe_H → Prop} {σ : pe_H} {M : Nat} (hF : pm_F M σ) {x1 : Int}   (k : pe_M d 139 [.inr (.inr M), .inl x1] σ (fun r σ' => pe_X d 167 (64, [some (.inr (.inr M)), some (.inl x1)], r.toList ++ [], σ') Φ)) : pe_X d 167 (59, [some (.inr (.inr M)), some (.inl x1)], [], σ) Φ := by
  refine pe_blk 37 2 ck167 [] (61, [some (.inr (.inr M)), some (.inl x1)], [.inl x1, .inr (.inr M)], σ) rfl ?_ ?_
  · exact trivial
  · try simp (disch := omega) only [pm_KM hF]
    exact pe_cal 39 ck167 rfl rfl rfl ⟨pm_KM hF, by decide⟩ k
theorem b167_64 {d : Nat} {Φ : Option pe_V → pe_H → Prop} {σ : pe_H} {M : Nat} (hF : pm_F M σ) {x1 : Int} {s0 : Int} (w0 : pe_in s0 := by unfold pe_in; omega)  (k1 : ¬ s0 = 0 → pe_X d 167 (76, [some (.inr (.inr M)), some (.inl x1)], [], σ) Φ) (k2 : s0 = 0 → pe_X d 167 (67, [some (.inr (.inr M)), some (.inl x1)], [], σ) Φ) : pe_X d 167 (64, [some (.inr (.inr M)), some (.inl x1)], [.inl s0], σ) Φ := by
  refine pe_blk 40 1 ck167 [] (cond (decide (¬ (pe_w s0) = 0)) 76 67, [some (.inr (.inr M)), some (.inl x1)], [], σ) rfl ?_ ?_
  · exact trivial
  · try simp (disch := omega) only [pe_wi w0]
    exact pe_two' k1 k2
theorem b167_67 {d : Nat} {Φ : Option pe_V → pe_H → Prop} {σ : pe_H} {M : Nat} (hF : pm_F M σ) {x1 : Int}   (k : pe_M d 165 [.inr (.inr M), .inl x1, .inl 1] σ (fun r σ' => pe_X d 167 (73, [some (.inr (.inr M)), some (.inl x1)], r.toList ++ [], σ') Φ)) : pe_X d 167 (67, [some (.inr (.inr M)), some (.inl x1)], [], σ) Φ := by
  refine pe_blk 41 3 ck167 [] (70, [some (.inr (.inr M)), some (.inl x1)], [.inl 1, .inl x1, .inr (.inr M)], σ) rfl ?_ ?_
  · exact trivial
  · try simp (disch := omega) only [pm_KM hF]
    exact pe_cal 44 ck167 rfl rfl rfl ⟨pm_KM hF, by decide⟩ k
theorem b167_73 {d : Nat} {Φ : Option pe_V → pe_H → Prop} {σ : pe_H} {M : Nat} (hF : pm_F M σ) {x1 : Int}   (k : pe_X d 167 (59, [some (.inr (.inr M)), some (.inl x1)], [], σ) Φ) : pe_X d 167 (73, [some (.inr (.inr M)), some (.inl x1)], [], σ) Φ := by
  refine pe_blk 45 1 ck167 [] (59, [some (.inr (.inr M)), some (.inl x1)], [], σ) rfl ?_ ?_
  · exact trivial
  · exact k
theorem b167_76 {d : Nat} {Φ : Option pe_V → pe_H → Prop} {σ : pe_H} {M : Nat} (hF : pm_F M σ) {o1 : Option pe_V}   (k : pe_M d 159 [.inr (.inr M)] σ (fun r σ' => pe_X d 167 (80, [some (.inr (.inr M)), o1], r.toList ++ [], σ') Φ)) : pe_X d 167 (76, [some (.inr (.inr M)), o1], [], σ) Φ := by
  refine pe_blk 46 1 ck167 [] (77, [some (.inr (.inr M)), o1], [.inr (.inr M)], σ) rfl ?_ ?_
  · exact trivial
  · try simp (disch := omega) only [pm_KM hF]
    exact pe_cal 47 ck167 rfl rfl rfl ⟨pm_KM hF, by decide⟩ k
theorem b167_80 {d : Nat} {Φ : Option pe_V → pe_H → Prop} {σ : pe_H} {M : Nat} (hF : pm_F M σ) {o1 : Option pe_V}   (k : Φ none σ) : pe_X d 167 (80, [some (.inr (.inr M)), o1], [], σ) Φ := by
  exact pe_fine 48 ck167 rfl rfl rfl trivial k
-- isAhead(II)Z
def T168 : List (Nat × Instr × Nat) := [(0, .aload_n 0, 1), (1, .getfield 40, 3), (4, .iload_n 1, 1), (5, .iaload, 1), (6, .aload_n 0, 1), (7, .iload_n 1, 1), (8, .invokevirtual 243, 3), (11, .iadd, 1), (12, .istore_n 3, 1), (13, .aload_n 0, 1), (14, .getfield 40, 3), (17, .iload_n 2, 1), (18, .iaload, 1), (19, .aload_n 0, 1), (20, .iload_n 2, 1), (21, .invokevirtual 243, 3), (24, .iadd, 1), (25, .istore 4, 2), (27, .iload_n 3, 1), (28, .iload 4, 2), (30, .if_icmp .gt 14, 3), (33, .iload_n 3, 1), (34, .iload 4, 2), (36, .if_icmp .ne 12, 3), (39, .iload_n 1, 1), (40, .iload_n 2, 1), (41, .if_icmp .ge 7, 3), (44, .iconst 1, 1), (45, .goto 4, 3), (48, .iconst 0, 1), (49, .ireturn, 1)]
theorem ck168 : pe_ctx 168 9 false (some .boolean) 5 T168 := ⟨rfl, rfl, rfl, rfl, by decide +kernel, by decide, by decide⟩
theorem b168_0 {d : Nat} {Φ : Option pe_V → pe_H → Prop} {σ : pe_H} {M : Nat} (hF : pm_F M σ) {x1 : Int} {x2 : Int} {o3 : Option pe_V} {o4 : Option pe_V} (w0 : pe_in x1 := by unfold pe_in; omega) (h0 : 0 ≤ x1 := by first | assumption | omega) (h1 : x1 < 8 := by first | assumption | omega) (k : pe_M d 142 [.inr (.inr M), .inl x1] σ (fun r σ' => pe_X d 168 (11, [some (.inr (.inr M)), some (.inl x1), some (.inl x2), o3, o4], r.toList ++ [.inl (pe_I σ (M + 11) x1)], σ') Φ)) : pe_X d 168 (0, [some (.inr (.inr M)), some (.inl x1), some (.inl x2), o3, o4], [], σ) Φ := by
  refine pe_blk 0 6 ck168 [pe_K σ M = 9, pe_K σ (pe_R σ M 11) = 10, 0 ≤ (pe_w x1), (pe_w x1) < pe_L σ (pe_R σ M 11)] (8, [some (.inr (.inr M)), some (.inl x1), some (.inl x2), o3, o4], [.inl x1, .inr (.inr M), .inl (pe_I σ (pe_R σ M 11) (pe_w x1))], σ) rfl ?_ ?_
  · first
    | (simp (disch := omega) only [pe_all, pe_wi w0, pm_K11 hF, pm_KM hF, pm_L11 hF, pm_R11 hF]; done)
    | (simp (disch := omega) only [pe_all, pe_wi w0, pm_K11 hF, pm_KM hF, pm_L11 hF, pm_R11 hF]; (repeat' apply And.intro) <;> first | assumption | omega | decide)
  · try simp (disch := omega) only [pe_wi w0, pm_K11 hF, pm_KM hF, pm_L11 hF, pm_R11 hF]
    exact pe_cal 6 ck168 rfl rfl rfl ⟨pm_KM hF, by decide⟩ k
theorem b168_11 {d : Nat} {Φ : Option pe_V → pe_H → Prop} {σ : pe_H} {M : Nat} (hF : pm_F M σ) {x1 : Int} {x2 : Int} {o3 : Option pe_V} {o4 : Option pe_V} {s0 : Int} {s1 : Int} (w0 : pe_in x2 := by unfold pe_in; omega) (h0 : 0 ≤ x2 := by first | assumption | omega) (h1 : x2 < 8 := by first | assumption | omega) (k : pe_M d 142 [.inr (.inr M), .inl x2] σ (fun r σ' => pe_X d 168 (24, [some (.inr (.inr M)), some (.inl x1), some (.inl x2), some (.inl (s0 + s1)), o4], r.toList ++ [.inl (pe_I σ (M + 11) x2)], σ') Φ)) : pe_X d 168 (11, [some (.inr (.inr M)), some (.inl x1), some (.inl x2), o3, o4], [.inl s1, .inl s0], σ) Φ := by
  refine pe_blk 7 8 ck168 [pe_K σ M = 9, pe_K σ (pe_R σ M 11) = 10, 0 ≤ (pe_w x2), (pe_w x2) < pe_L σ (pe_R σ M 11)] (21, [some (.inr (.inr M)), some (.inl x1), some (.inl x2), some (.inl (s0 + s1)), o4], [.inl x2, .inr (.inr M), .inl (pe_I σ (pe_R σ M 11) (pe_w x2))], σ) rfl ?_ ?_
  · first
    | (simp (disch := omega) only [pe_all, pe_wi w0, pm_K11 hF, pm_KM hF, pm_L11 hF, pm_R11 hF]; done)
    | (simp (disch := omega) only [pe_all, pe_wi w0, pm_K11 hF, pm_KM hF, pm_L11 hF, pm_R11 hF]; (repeat' apply And.intro) <;> first | assumption | omega | decide)
  · try simp (disch := omega) only [pe_wi w0, pm_K11 hF, pm_KM hF, pm_L11 hF, pm_R11 hF]
    exact pe_cal 15 ck168 rfl rfl rfl ⟨pm_KM hF, by decide⟩ k
theorem b168_24 {d : Nat} {Φ : Option pe_V → pe_H → Prop} {σ : pe_H} {M : Nat} (hF : pm_F M σ) {x1 : Int} {x2 : Int} {x3 : Int} {o4 : Option pe_V} {s0 : Int} {s1 : Int} (w0 : pe_in x3 := by unfold pe_in; omega) (w1 : pe_in (s0 + s1) := by unfold pe_in; omega)  (k1 : (s0 + s1) < x3 → pe_X d 168 (44, [some (.inr (.inr M)), some (.inl x1), some (.inl x2), some (.inl x3), some (.inl (s0 + s1))], [], σ) Φ) (k2 : ¬ ((s0 + s1) < x3) → pe_X d 168 (33, [some (.inr (.inr M)), some (.inl x1), some (.inl x2), some (.inl x3), some (.inl (s0 + s1))], [], σ) Φ) : pe_X d 168 (24, [some (.inr (.inr M)), some (.inl x1), some (.inl x2), some (.inl x3), o4], [.inl s1, .inl s0], σ) Φ := by
  refine pe_blk 16 5 ck168 [] (cond (decide ((pe_w (s0 + s1)) < (pe_w x3))) 44 33, [some (.inr (.inr M)), some (.inl x1), some (.inl x2), some (.inl x3), some (.inl (s0 + s1))], [], σ) rfl ?_ ?_
  · exact trivial
  · try simp (disch := omega) only [pe_wi w0, pe_wi w1]
    exact pe_two k1 k2
theorem b168_33 {d : Nat} {Φ : Option pe_V → pe_H → Prop} {σ : pe_H} {M : Nat} (hF : pm_F M σ) {x1 : Int} {x2 : Int} {x3 : Int} {x4 : Int} (w0 : pe_in x3 := by unfold pe_in; omega) (w1 : pe_in x4 := by unfold pe_in; omega)  (k1 : ¬ x3 = x4 → pe_X d 168 (48, [some (.inr (.inr M)), some (.inl x1), some (.inl x2), some (.inl x3), some (.inl x4)], [], σ) Φ) (k2 : x3 = x4 → pe_X d 168 (39, [some (.inr (.inr M)), some (.inl x1), some (.inl x2), some (.inl x3), some (.inl x4)], [], σ) Φ) : pe_X d 168 (33, [some (.inr (.inr M)), some (.inl x1), some (.inl x2), some (.inl x3), some (.inl x4)], [], σ) Φ := by
  refine pe_blk 21 3 ck168 [] (cond (decide (¬ (pe_w x3) = (pe_w x4))) 48 39, [some (.inr (.inr M)), some (.inl x1), some (.inl x2), some (.inl x3), some (.inl x4)], [], σ) rfl ?_ ?_
  · exact trivial
  · try simp (disch := omega) only [pe_wi w0, pe_wi w1]
    exact pe_two' k1 k2
theorem b168_39 {d : Nat} {Φ : Option pe_V → pe_H → Prop} {σ : pe_H} {M : Nat} (hF : pm_F M σ) {x1 : Int} {x2 : Int} {o3 : Option pe_V} {o4 : Option pe_V} (w0 : pe_in x1 := by unfold pe_in; omega) (w1 : pe_in x2 := by unfold pe_in; omega)  (k1 : x2 ≤ x1 → pe_X d 168 (48, [some (.inr (.inr M)), some (.inl x1), some (.inl x2), o3, o4], [], σ) Φ) (k2 : ¬ (x2 ≤ x1) → pe_X d 168 (44, [some (.inr (.inr M)), some (.inl x1), some (.inl x2), o3, o4], [], σ) Φ) : pe_X d 168 (39, [some (.inr (.inr M)), some (.inl x1), some (.inl x2), o3, o4], [], σ) Φ := by
  refine pe_blk 24 3 ck168 [] (cond (decide ((pe_w x2) ≤ (pe_w x1))) 48 44, [some (.inr (.inr M)), some (.inl x1), some (.inl x2), o3, o4], [], σ) rfl ?_ ?_
  · exact trivial
  · try simp (disch := omega) only [pe_wi w0, pe_wi w1]
    exact pe_two k1 k2
theorem b168_44 {d : Nat} {Φ : Option pe_V → pe_H → Prop} {σ : pe_H} {M : Nat} (hF : pm_F M σ) {o1 : Option pe_V} {o2 : Option pe_V} {o3 : Option pe_V} {o4 : Option pe_V}   (k : pe_X d 168 (49, [some (.inr (.inr M)), o1, o2, o3, o4], [.inl 1], σ) Φ) : pe_X d 168 (44, [some (.inr (.inr M)), o1, o2, o3, o4], [], σ) Φ := by
  refine pe_blk 27 2 ck168 [] (49, [some (.inr (.inr M)), o1, o2, o3, o4], [.inl 1], σ) rfl ?_ ?_
  · exact trivial
  · exact k
theorem b168_48 {d : Nat} {Φ : Option pe_V → pe_H → Prop} {σ : pe_H} {M : Nat} (hF : pm_F M σ) {o1 : Option pe_V} {o2 : Option pe_V} {o3 : Option pe_V} {o4 : Option pe_V}   (k : pe_X d 168 (49, [some (.inr (.inr M)), o1, o2, o3, o4], [.inl 0], σ) Φ) : pe_X d 168 (48, [some (.inr (.inr M)), o1, o2, o3, o4], [], σ) Φ := by
  refine pe_blk 29 1 ck168 [] (49, [some (.inr (.inr M)), o1, o2, o3, o4], [.inl 0], σ) rfl ?_ ?_
  · exact trivial
  · exact k
theorem b168_49 {d : Nat} {Φ : Option pe_V → pe_H → Prop} {σ : pe_H} {M : Nat} (hF : pm_F M σ) {o1 : Option pe_V} {o2 : Option pe_V} {o3 : Option pe_V} {o4 : Option pe_V} {s0 : Int}  (h0 : s0 = 0 ∨ s0 = 1 := by first | assumption | omega) (k : Φ (some (.inl s0)) σ) : pe_X d 168 (49, [some (.inr (.inr M)), o1, o2, o3, o4], [.inl s0], σ) Φ := by
  exact pe_fine 30 ck168 rfl rfl rfl h0 k
-- roundOn(Z)V
def T169 : List (Nat × Instr × Nat) := [(0, .iconst 0, 1), (1, .istore_n 2, 1), (2, .aload_n 0, 1), (3, .dup, 1), (4, .getfield 246, 3), (7, .iconst 1, 1), (8, .iadd, 1), (9, .putfield 246, 3), (12, .aload_n 0, 1), (13, .iconst 0, 1), (14, .putfield 202, 3), (17, .iconst 0, 1), (18, .istore_n 3, 1), (19, .iload_n 3, 1), (20, .aload_n 0, 1), (21, .getfield 144, 3), (24, .if_icmp .ge 27, 3), (27, .iload_n 2, 1), (28, .aload_n 0, 1), (29, .iload_n 3, 1), (30, .invokevirtual 249, 3), (33, .ifCond .eq 9, 3), (36, .iconst 1, 1), (37, .iload_n 3, 1), (38, .ishl, 1), (39, .goto 4, 3), (42, .iconst 0, 1), (43, .ior, 1), (44, .istore_n 2, 1), (45, .iinc 3 1, 3), (48, .goto (-29), 3), (51, .iconst 0, 1), (52, .istore_n 3, 1), (53, .iconst 0, 1), (54, .istore 4, 2), (56, .iload 4, 2), (58, .aload_n 0, 1), (59, .getfield 88, 3), (62, .if_icmp .ge 137, 3), (65, .iload_n 1, 1), (66, .ifCond .ne 133, 3), (69, .iload_n 2, 1), (70, .iload_n 3, 1), (71, .iconst (-1), 1), (72, .ixor, 1), (73, .iand, 1), (74, .ifCond .eq 125, 3), (77, .iconst (-1), 1), (78, .istore 5, 2), (80, .iconst 0, 1), (81, .istore 6, 2), (83, .iload 6, 2), (85, .aload_n 0, 1), (86, .getfield 144, 3), (89, .if_icmp .ge 47, 3), (92, .iload_n 2, 1), (93, .iload_n 3, 1), (94, .iconst (-1), 1), (95, .ixor, 1), (96, .iand, 1), (97, .iload 6, 2), (99, .invokestatic 252, 3), (102, .ifCond .eq 24, 3), (105, .iload 5, 2), (107, .ifCond .lt 14, 3), (110, .aload_n 0, 1), (111, .iload 6, 2), (113, .iload 5, 2), (115, .invokevirtual 256, 3), (118, .ifCond .eq 8, 3), (121, .iload 6, 2), (123, .goto 5, 3), (126, .iload 5, 2), (128, .istore 5, 2), (130, .iinc 6 1, 3), (133, .goto (-50), 3), (136, .iload_n 3, 1), (137, .iconst 1, 1), (138, .iload 5, 2), (140, .ishl, 1), (141, .ior, 1), (142, .istore_n 3, 1), (143, .aload_n 0, 1), (144, .getfield 31, 3), (147, .iload 5, 2), (149, .aload_n 0, 1), (150, .getfield 28, 3), (153, .iload 5, 2), (155, .iaload, 1), (156, .iconst 2, 1), (157, .if_icmp .ne 13, 3), (160, .aload_n 0, 1), (161, .iload 5, 2), (163, .iconst 0, 1), (164, .invokevirtual 236, 3), (167, .goto 10, 3), (170, .aload_n 0, 1), (171, .getfield 31, 3), (174, .iload 5, 2), (176, .iaload, 1), (177, .iastore, 1), (178, .aload_n 0, 1), (179, .getfield 28, 3), (182, .iload 5, 2), (184, .iconst 1, 1), (185, .iastore, 1), (186, .aload_n 0, 1), (187, .iload 5, 2), (189, .iconst 0, 1), (190, .invokevirtual 239, 3), (193, .iinc 4 1, 3), (196, .goto (-140), 3), (199, .iconst 0, 1), (200, .istore 4, 2), (202, .iload 4, 2), (204, .aload_n 0, 1), (205, .getfield 144, 3), (208, .if_icmp .ge 53, 3), (211, .iload_n 2, 1), (212, .iload 4, 2), (214, .invokestatic 252, 3), (217, .ifCond .eq 38, 3), (220, .aload_n 0, 1), (221, .getfield 40, 3), (224, .iload 4, 2), (226, .iload_n 3, 1), (227, .iload 4, 2), (229, .invokestatic 252, 3), (232, .ifCond .eq 7, 3), (235, .iconst 0, 1), (236, .goto 18, 3), (239, .aload_n 0, 1), (240, .getfield 40, 3), (243, .iload 4, 2), (245, .iaload, 1), (246, .iconst 1, 1), (247, .iadd, 1), (248, .sipush 999, 3), (251, .invokestatic 199, 3), (254, .iastore, 1), (255, .iinc 4 1, 3), (258, .goto (-56), 3), (261, .return_, 1)]
theorem ck169 : pe_ctx 169 9 false none 7 T169 := ⟨rfl, rfl, rfl, rfl, by decide +kernel, by decide, by decide⟩
theorem b169_0 {d : Nat} {Φ : Option pe_V → pe_H → Prop} {σ : pe_H} {M : Nat} (hF : pm_F M σ) {x1 : Int} {o2 : Option pe_V} {o3 : Option pe_V} {o4 : Option pe_V} {o5 : Option pe_V} {o6 : Option pe_V}   (k : pe_X d 169 (19, [some (.inr (.inr M)), some (.inl x1), some (.inl 0), some (.inl 0), o4, o5, o6], [], pe_wI (pe_wI σ M 29 ((pe_I σ M 29) + 1)) M 30 0) Φ) : pe_X d 169 (0, [some (.inr (.inr M)), some (.inl x1), o2, o3, o4, o5, o6], [], σ) Φ := by
  refine pe_blk 0 13 ck169 [pe_K σ M = 9, pe_K σ M = 9, pe_K σ M = 9] (19, [some (.inr (.inr M)), some (.inl x1), some (.inl 0), some (.inl 0), o4, o5, o6], [], pe_wI (pe_wI σ M 29 ((pe_I σ M 29) + 1)) M 30 0) rfl ?_ ?_
  · first
    | (simp (disch := omega) only [pe_all, pm_KM hF]; done)
    | (simp (disch := omega) only [pe_all, pm_KM hF]; (repeat' apply And.intro) <;> first | assumption | omega | decide)
  · try simp (disch := omega) only [pm_KM hF]
    exact k
theorem b169_19 {d : Nat} {Φ : Option pe_V → pe_H → Prop} {σ : pe_H} {M : Nat} (hF : pm_F M σ) {x1 : Int} {x2 : Int} {x3 : Int} {o4 : Option pe_V} {o5 : Option pe_V} {o6 : Option pe_V} (w0 : pe_in x3 := by unfold pe_in; omega) (w1 : pe_in (pe_I σ M 3) := by unfold pe_in; omega)  (k1 : (pe_I σ M 3) ≤ x3 → pe_X d 169 (51, [some (.inr (.inr M)), some (.inl x1), some (.inl x2), some (.inl x3), o4, o5, o6], [], σ) Φ) (k2 : ¬ ((pe_I σ M 3) ≤ x3) → pe_X d 169 (27, [some (.inr (.inr M)), some (.inl x1), some (.inl x2), some (.inl x3), o4, o5, o6], [], σ) Φ) : pe_X d 169 (19, [some (.inr (.inr M)), some (.inl x1), some (.inl x2), some (.inl x3), o4, o5, o6], [], σ) Φ := by
  refine pe_blk 13 4 ck169 [pe_K σ M = 9] (cond (decide ((pe_w (pe_I σ M 3)) ≤ (pe_w x3))) 51 27, [some (.inr (.inr M)), some (.inl x1), some (.inl x2), some (.inl x3), o4, o5, o6], [], σ) rfl ?_ ?_
  · first
    | (simp (disch := omega) only [pe_all, pe_wi w0, pe_wi w1, pm_KM hF]; done)
    | (simp (disch := omega) only [pe_all, pe_wi w0, pe_wi w1, pm_KM hF]; (repeat' apply And.intro) <;> first | assumption | omega | decide)
  · try simp (disch := omega) only [pe_wi w0, pe_wi w1, pm_KM hF]
    exact pe_two k1 k2
theorem b169_27 {d : Nat} {Φ : Option pe_V → pe_H → Prop} {σ : pe_H} {M : Nat} (hF : pm_F M σ) {x1 : Int} {x2 : Int} {x3 : Int} {o4 : Option pe_V} {o5 : Option pe_V} {o6 : Option pe_V}   (k : pe_M d 140 [.inr (.inr M), .inl x3] σ (fun r σ' => pe_X d 169 (33, [some (.inr (.inr M)), some (.inl x1), some (.inl x2), some (.inl x3), o4, o5, o6], r.toList ++ [.inl x2], σ') Φ)) : pe_X d 169 (27, [some (.inr (.inr M)), some (.inl x1), some (.inl x2), some (.inl x3), o4, o5, o6], [], σ) Φ := by
  refine pe_blk 17 3 ck169 [] (30, [some (.inr (.inr M)), some (.inl x1), some (.inl x2), some (.inl x3), o4, o5, o6], [.inl x3, .inr (.inr M), .inl x2], σ) rfl ?_ ?_
  · exact trivial
  · try simp (disch := omega) only [pm_KM hF]
    exact pe_cal 20 ck169 rfl rfl rfl ⟨pm_KM hF, by decide⟩ k
theorem b169_33 {d : Nat} {Φ : Option pe_V → pe_H → Prop} {σ : pe_H} {M : Nat} (hF : pm_F M σ) {x1 : Int} {o2 : Option pe_V} {x3 : Int} {o4 : Option pe_V} {o5 : Option pe_V} {o6 : Option pe_V} {s0 : Int} {s1 : Int} (w0 : pe_in s1 := by unfold pe_in; omega)  (k1 : s1 = 0 → pe_X d 169 (42, [some (.inr (.inr M)), some (.inl x1), o2, some (.inl x3), o4, o5, o6], [.inl s0], σ) Φ) (k2 : ¬ (s1 = 0) → pe_X d 169 (36, [some (.inr (.inr M)), some (.inl x1), o2, some (.inl x3), o4, o5, o6], [.inl s0], σ) Φ) : pe_X d 169 (33, [some (.inr (.inr M)), some (.inl x1), o2, some (.inl x3), o4, o5, o6], [.inl s1, .inl s0], σ) Φ := by
  refine pe_blk 21 1 ck169 [] (cond (decide ((pe_w s1) = 0)) 42 36, [some (.inr (.inr M)), some (.inl x1), o2, some (.inl x3), o4, o5, o6], [.inl s0], σ) rfl ?_ ?_
  · exact trivial
  · try simp (disch := omega) only [pe_wi w0]
    exact pe_two k1 k2
theorem b169_36 {d : Nat} {Φ : Option pe_V → pe_H → Prop} {σ : pe_H} {M : Nat} (hF : pm_F M σ) {x1 : Int} {o2 : Option pe_V} {x3 : Int} {o4 : Option pe_V} {o5 : Option pe_V} {o6 : Option pe_V} {s0 : Int}   (k : pe_X d 169 (43, [some (.inr (.inr M)), some (.inl x1), o2, some (.inl x3), o4, o5, o6], [.inl (pe_shl 1 x3), .inl s0], σ) Φ) : pe_X d 169 (36, [some (.inr (.inr M)), some (.inl x1), o2, some (.inl x3), o4, o5, o6], [.inl s0], σ) Φ := by
  refine pe_blk 22 4 ck169 [] (43, [some (.inr (.inr M)), some (.inl x1), o2, some (.inl x3), o4, o5, o6], [.inl (pe_shl 1 x3), .inl s0], σ) rfl ?_ ?_
  · exact trivial
  · exact k
theorem b169_42 {d : Nat} {Φ : Option pe_V → pe_H → Prop} {σ : pe_H} {M : Nat} (hF : pm_F M σ) {x1 : Int} {o2 : Option pe_V} {x3 : Int} {o4 : Option pe_V} {o5 : Option pe_V} {o6 : Option pe_V} {s0 : Int}   (k : pe_X d 169 (43, [some (.inr (.inr M)), some (.inl x1), o2, some (.inl x3), o4, o5, o6], [.inl 0, .inl s0], σ) Φ) : pe_X d 169 (42, [some (.inr (.inr M)), some (.inl x1), o2, some (.inl x3), o4, o5, o6], [.inl s0], σ) Φ := by
  refine pe_blk 26 1 ck169 [] (43, [some (.inr (.inr M)), some (.inl x1), o2, some (.inl x3), o4, o5, o6], [.inl 0, .inl s0], σ) rfl ?_ ?_
  · exact trivial
  · exact k
theorem b169_43 {d : Nat} {Φ : Option pe_V → pe_H → Prop} {σ : pe_H} {M : Nat} (hF : pm_F M σ) {x1 : Int} {o2 : Option pe_V} {x3 : Int} {o4 : Option pe_V} {o5 : Option pe_V} {o6 : Option pe_V} {s0 : Int} {s1 : Int}   (k : pe_X d 169 (19, [some (.inr (.inr M)), some (.inl x1), some (.inl (pe_or s0 s1)), some (.inl (x3 + 1)), o4, o5, o6], [], σ) Φ) : pe_X d 169 (43, [some (.inr (.inr M)), some (.inl x1), o2, some (.inl x3), o4, o5, o6], [.inl s1, .inl s0], σ) Φ := by
  refine pe_blk 27 4 ck169 [] (19, [some (.inr (.inr M)), some (.inl x1), some (.inl (pe_or s0 s1)), some (.inl (x3 + 1)), o4, o5, o6], [], σ) rfl ?_ ?_
  · exact trivial
  · exact k
theorem b169_51 {d : Nat} {Φ : Option pe_V → pe_H → Prop} {σ : pe_H} {M : Nat} (hF : pm_F M σ) {x1 : Int} {x2 : Int} {o3 : Option pe_V} {o4 : Option pe_V} {o5 : Option pe_V} {o6 : Option pe_V}   (k : pe_X d 169 (56, [some (.inr (.inr M)), some (.inl x1), some (.inl x2), some (.inl 0), some (.inl 0), o5, o6], [], σ) Φ) : pe_X d 169 (51, [some (.inr (.inr M)), some (.inl x1), some (.inl x2), o3, o4, o5, o6], [], σ) Φ := by
  refine pe_blk 31 4 ck169 [] (56, [some (.inr (.inr M)), some (.inl x1), some (.inl x2), some (.inl 0), some (.inl 0), o5, o6], [], σ) rfl ?_ ?_
  · exact trivial
  · exact k
theorem b169_56 {d : Nat} {Φ : Option pe_V → pe_H → Prop} {σ : pe_H} {M : Nat} (hF : pm_F M σ) {x1 : Int} {x2 : Int} {x3 : Int} {x4 : Int} {o5 : Option pe_V} {o6 : Option pe_V} (w0 : pe_in x4 := by unfold pe_in; omega) (w1 : pe_in (pe_I σ M 28) := by unfold pe_in; omega)  (k1 : (pe_I σ M 28) ≤ x4 → pe_X d 169 (199, [some (.inr (.inr M)), some (.inl x1), some (.inl x2), some (.inl x3), some (.inl x4), o5, o6], [], σ) Φ) (k2 : ¬ ((pe_I σ M 28) ≤ x4) → pe_X d 169 (65, [some (.inr (.inr M)), some (.inl x1), some (.inl x2), some (.inl x3), some (.inl x4), o5, o6], [], σ) Φ) : pe_X d 169 (56, [some (.inr (.inr M)), some (.inl x1), some (.inl x2), some (.inl x3), some (.inl x4), o5, o6], [], σ) Φ := by
  refine pe_blk 35 4 ck169 [pe_K σ M = 9] (cond (decide ((pe_w (pe_I σ M 28)) ≤ (pe_w x4))) 199 65, [some (.inr (.inr M)), some (.inl x1), some (.inl x2), some (.inl x3), some (.inl x4), o5, o6], [], σ) rfl ?_ ?_
  · first
    | (simp (disch := omega) only [pe_all, pe_wi w0, pe_wi w1, pm_KM hF]; done)
    | (simp (disch := omega) only [pe_all, pe_wi w0, pe_wi w1, pm_KM hF]; (repeat' apply And.intro) <;> first | assumption | omega | decide)
  · try simp (disch := omega) only [pe_wi w0, pe_wi w1, pm_KM hF]
    exact pe_two k1 k2
theorem b169_65 {d : Nat} {Φ : Option pe_V → pe_H → Prop} {σ : pe_H} {M : Nat} (hF : pm_F M σ) {x1 : Int} {x2 : Int} {x3 : Int} {x4 : Int} {o5 : Option pe_V} {o6 : Option pe_V} (w0 : pe_in x1 := by unfold pe_in; omega)  (k1 : ¬ x1 = 0 → pe_X d 169 (199, [some (.inr (.inr M)), some (.inl x1), some (.inl x2), some (.inl x3), some (.inl x4), o5, o6], [], σ) Φ) (k2 : x1 = 0 → pe_X d 169 (69, [some (.inr (.inr M)), some (.inl x1), some (.inl x2), some (.inl x3), some (.inl x4), o5, o6], [], σ) Φ) : pe_X d 169 (65, [some (.inr (.inr M)), some (.inl x1), some (.inl x2), some (.inl x3), some (.inl x4), o5, o6], [], σ) Φ := by
  refine pe_blk 39 2 ck169 [] (cond (decide (¬ (pe_w x1) = 0)) 199 69, [some (.inr (.inr M)), some (.inl x1), some (.inl x2), some (.inl x3), some (.inl x4), o5, o6], [], σ) rfl ?_ ?_
  · exact trivial
  · try simp (disch := omega) only [pe_wi w0]
    exact pe_two' k1 k2
theorem b169_69 {d : Nat} {Φ : Option pe_V → pe_H → Prop} {σ : pe_H} {M : Nat} (hF : pm_F M σ) {x1 : Int} {x2 : Int} {x3 : Int} {x4 : Int} {o5 : Option pe_V} {o6 : Option pe_V} (w0 : pe_in (pe_and x2 (pe_xor x3 ((-1)))) := by unfold pe_in; omega)  (k1 : (pe_and x2 (pe_xor x3 ((-1)))) = 0 → pe_X d 169 (199, [some (.inr (.inr M)), some (.inl x1), some (.inl x2), some (.inl x3), some (.inl x4), o5, o6], [], σ) Φ) (k2 : ¬ ((pe_and x2 (pe_xor x3 ((-1)))) = 0) → pe_X d 169 (77, [some (.inr (.inr M)), some (.inl x1), some (.inl x2), some (.inl x3), some (.inl x4), o5, o6], [], σ) Φ) : pe_X d 169 (69, [some (.inr (.inr M)), some (.inl x1), some (.inl x2), some (.inl x3), some (.inl x4), o5, o6], [], σ) Φ := by
  refine pe_blk 41 6 ck169 [] (cond (decide ((pe_w (pe_and x2 (pe_xor x3 ((-1))))) = 0)) 199 77, [some (.inr (.inr M)), some (.inl x1), some (.inl x2), some (.inl x3), some (.inl x4), o5, o6], [], σ) rfl ?_ ?_
  · exact trivial
  · try simp (disch := omega) only [pe_wi w0]
    exact pe_two k1 k2
set_option maxRecDepth 8000 in
theorem b169_77 {d : Nat} {Φ : Option pe_V → pe_H → Prop} {σ : pe_H} {M : Nat} (hF : pm_F M σ) {x1 : Int} {x2 : Int} {x3 : Int} {x4 : Int} {o5 : Option pe_V} {o6 : Option pe_V}   (k : pe_X d 169 (83, [some (.inr (.inr M)), some (.inl x1), some (.inl x2), some (.inl x3), some (.inl x4), some (.inl (-1)), some (.inl 0)], [], σ) Φ) : pe_X d 169 (77, [some (.inr (.inr M)), some (.inl x1), some (.inl x2), some (.inl x3), some (.inl x4), o5, o6], [], σ) Φ := by
  refine pe_blk 47 4 ck169 [] (83, [some (.inr (.inr M)), some (.inl x1), some (.inl x2), some (.inl x3), some (.inl x4), some (.inl (-1)), some (.inl 0)], [], σ) rfl ?_ ?_
  · exact trivial
  · exact k
set_option maxRecDepth 8000 in
theorem b169_83 {d : Nat} {Φ : Option pe_V → pe_H → Prop} {σ : pe_H} {M : Nat} (hF : pm_F M σ) {x1 : Int} {x2 : Int} {x3 : Int} {x4 : Int} {x5 : Int} {x6 : Int} (w0 : pe_in x6 := by unfold pe_in; omega) (w1 : pe_in (pe_I σ M 3) := by unfold pe_in; omega)  (k1 : (pe_I σ M 3) ≤ x6 → pe_X d 169 (136, [some (.inr (.inr M)), some (.inl x1), some (.inl x2), some (.inl x3), some (.inl x4), some (.inl x5), some (.inl x6)], [], σ) Φ) (k2 : ¬ ((pe_I σ M 3) ≤ x6) → pe_X d 169 (92, [some (.inr (.inr M)), some (.inl x1), some (.inl x2), some (.inl x3), some (.inl x4), some (.inl x5), some (.inl x6)], [], σ) Φ) : pe_X d 169 (83, [some (.inr (.inr M)), some (.inl x1), some (.inl x2), some (.inl x3), some (.inl x4), some (.inl x5), some (.inl x6)], [], σ) Φ := by
  refine pe_blk 51 4 ck169 [pe_K σ M = 9] (cond (decide ((pe_w (pe_I σ M 3)) ≤ (pe_w x6))) 136 92, [some (.inr (.inr M)), some (.inl x1), some (.inl x2), some (.inl x3), some (.inl x4), some (.inl x5), some (.inl x6)], [], σ) rfl ?_ ?_
  · first
    | (simp (disch := omega) only [pe_all, pe_wi w0, pe_wi w1, pm_KM hF]; done)
    | (simp (disch := omega) only [pe_all, pe_wi w0, pe_wi w1, pm_KM hF]; (repeat' apply And.intro) <;> first | assumption | omega | decide)
  · try simp (disch := omega) only [pe_wi w0, pe_wi w1, pm_KM hF]
    exact pe_two k1 k2
set_option maxRecDepth 8000 in
theorem b169_92 {d : Nat} {Φ : Option pe_V → pe_H → Prop} {σ : pe_H} {M : Nat} (hF : pm_F M σ) {x1 : Int} {x2 : Int} {x3 : Int} {x4 : Int} {x5 : Int} {x6 : Int}   (k : pe_M d 135 [.inl (pe_and x2 (pe_xor x3 ((-1)))), .inl x6] σ (fun r σ' => pe_X d 169 (102, [some (.inr (.inr M)), some (.inl x1), some (.inl x2), some (.inl x3), some (.inl x4), some (.inl x5), some (.inl x6)], r.toList ++ [], σ') Φ)) : pe_X d 169 (92, [some (.inr (.inr M)), some (.inl x1), some (.inl x2), some (.inl x3), some (.inl x4), some (.inl x5), some (.inl x6)], [], σ) Φ := by
  refine pe_blk 55 6 ck169 [] (99, [some (.inr (.inr M)), some (.inl x1), some (.inl x2), some (.inl x3), some (.inl x4), some (.inl x5), some (.inl x6)], [.inl x6, .inl (pe_and x2 (pe_xor x3 ((-1))))], σ) rfl ?_ ?_
  · exact trivial
  · exact pe_cal 61 ck169 rfl rfl rfl trivial k
set_option maxRecDepth 8000 in
theorem b169_102 {d : Nat} {Φ : Option pe_V → pe_H → Prop} {σ : pe_H} {M : Nat} (hF : pm_F M σ) {x1 : Int} {x2 : Int} {x3 : Int} {x4 : Int} {x5 : Int} {x6 : Int} {s0 : Int} (w0 : pe_in s0 := by unfold pe_in; omega)  (k1 : s0 = 0 → pe_X d 169 (126, [some (.inr (.inr M)), some (.inl x1), some (.inl x2), some (.inl x3), some (.inl x4), some (.inl x5), some (.inl x6)], [], σ) Φ) (k2 : ¬ (s0 = 0) → pe_X d 169 (105, [some (.inr (.inr M)), some (.inl x1), some (.inl x2), some (.inl x3), some (.inl x4), some (.inl x5), some (.inl x6)], [], σ) Φ) : pe_X d 169 (102, [some (.inr (.inr M)), some (.inl x1), some (.inl x2), some (.inl x3), some (.inl x4), some (.inl x5), some (.inl x6)], [.inl s0], σ) Φ := by
  refine pe_blk 62 1 ck169 [] (cond (decide ((pe_w s0) = 0)) 126 105, [some (.inr (.inr M)), some (.inl x1), some (.inl x2), some (.inl x3), some (.inl x4), some (.inl x5), some (.inl x6)], [], σ) rfl ?_ ?_
  · exact trivial
  · try simp (disch := omega) only [pe_wi w0]
    exact pe_two k1 k2
set_option maxRecDepth 8000 in
theorem b169_105 {d : Nat} {Φ : Option pe_V → pe_H → Prop} {σ : pe_H} {M : Nat} (hF : pm_F M σ) {x1 : Int} {x2 : Int} {x3 : Int} {x4 : Int} {x5 : Int} {x6 : Int} (w0 : pe_in x5 := by unfold pe_in; omega)  (k1 : x5 < 0 → pe_X d 169 (121, [some (.inr (.inr M)), some (.inl x1), some (.inl x2), some (.inl x3), some (.inl x4), some (.inl x5), some (.inl x6)], [], σ) Φ) (k2 : ¬ (x5 < 0) → pe_X d 169 (110, [some (.inr (.inr M)), some (.inl x1), some (.inl x2), some (.inl x3), some (.inl x4), some (.inl x5), some (.inl x6)], [], σ) Φ) : pe_X d 169 (105, [some (.inr (.inr M)), some (.inl x1), some (.inl x2), some (.inl x3), some (.inl x4), some (.inl x5), some (.inl x6)], [], σ) Φ := by
  refine pe_blk 63 2 ck169 [] (cond (decide ((pe_w x5) < 0)) 121 110, [some (.inr (.inr M)), some (.inl x1), some (.inl x2), some (.inl x3), some (.inl x4), some (.inl x5), some (.inl x6)], [], σ) rfl ?_ ?_
  · exact trivial
  · try simp (disch := omega) only [pe_wi w0]
    exact pe_two k1 k2
set_option maxRecDepth 8000 in
theorem b169_110 {d : Nat} {Φ : Option pe_V → pe_H → Prop} {σ : pe_H} {M : Nat} (hF : pm_F M σ) {x1 : Int} {x2 : Int} {x3 : Int} {x4 : Int} {x5 : Int} {x6 : Int}   (k : pe_M d 168 [.inr (.inr M), .inl x6, .inl x5] σ (fun r σ' => pe_X d 169 (118, [some (.inr (.inr M)), some (.inl x1), some (.inl x2), some (.inl x3), some (.inl x4), some (.inl x5), some (.inl x6)], r.toList ++ [], σ') Φ)) : pe_X d 169 (110, [some (.inr (.inr M)), some (.inl x1), some (.inl x2), some (.inl x3), some (.inl x4), some (.inl x5), some (.inl x6)], [], σ) Φ := by
  refine pe_blk 65 3 ck169 [] (115, [some (.inr (.inr M)), some (.inl x1), some (.inl x2), some (.inl x3), some (.inl x4), some (.inl x5), some (.inl x6)], [.inl x5, .inl x6, .inr (.inr M)], σ) rfl ?_ ?_
  · exact trivial
  · try simp (disch := omega) only [pm_KM hF]
    exact pe_cal 68 ck169 rfl rfl rfl ⟨pm_KM hF, by decide⟩ k
set_option maxRecDepth 8000 in
theorem b169_118 {d : Nat} {Φ : Option pe_V → pe_H → Prop} {σ : pe_H} {M : Nat} (hF : pm_F M σ) {x1 : Int} {x2 : Int} {x3 : Int} {x4 : Int} {x5 : Int} {x6 : Int} {s0 : Int} (w0 : pe_in s0 := by unfold pe_in; omega)  (k1 : s0 = 0 → pe_X d 169 (126, [some (.inr (.inr M)), some (.inl x1), some (.inl x2), some (.inl x3), some (.inl x4), some (.inl x5), some (.inl x6)], [], σ) Φ) (k2 : ¬ (s0 = 0) → pe_X d 169 (121, [some (.inr (.inr M)), some (.inl x1), some (.inl x2), some (.inl x3), some (.inl x4), some (.inl x5), some (.inl x6)], [], σ) Φ) : pe_X d 169 (118, [some (.inr (.inr M)), some (.inl x1), some (.inl x2), some (.inl x3), some (.inl x4), some (.inl x5), some (.inl x6)], [.inl s0], σ) Φ := by
  refine pe_blk 69 1 ck169 [] (cond (decide ((pe_w s0) = 0)) 126 121, [some (.inr (.inr M)), some (.inl x1), some (.inl x2), some (.inl x3), some (.inl x4), some (.inl x5), some (.inl x6)], [], σ) rfl ?_ ?_
  · exact trivial
  · try simp (disch := omega) only [pe_wi w0]
    exact pe_two k1 k2
set_option maxRecDepth 8000 in
theorem b169_121 {d : Nat} {Φ : Option pe_V → pe_H → Prop} {σ : pe_H} {M : Nat} (hF : pm_F M σ) {x1 : Int} {x2 : Int} {x3 : Int} {x4 : Int} {o5 : Option pe_V} {x6 : Int}   (k : pe_X d 169 (128, [some (.inr (.inr M)), some (.inl x1), some (.inl x2), some (.inl x3), some (.inl x4), o5, some (.inl x6)], [.inl x6], σ) Φ) : pe_X d 169 (121, [some (.inr (.inr M)), some (.inl x1), some (.inl x2), some (.inl x3), some (.inl x4), o5, some (.inl x6)], [], σ) Φ := by
  refine pe_blk 70 2 ck169 [] (128, [some (.inr (.inr M)), some (.inl x1), some (.inl x2), some (.inl x3), some (.inl x4), o5, some (.inl x6)], [.inl x6], σ) rfl ?_ ?_
  · exact trivial
  · exact k
set_option maxRecDepth 8000 in
theorem b169_126 {d : Nat} {Φ : Option pe_V → pe_H → Prop} {σ : pe_H} {M : Nat} (hF : pm_F M σ) {x1 : Int} {x2 : Int} {x3 : Int} {x4 : Int} {x5 : Int} {x6 : Int}   (k : pe_X d 169 (128, [some (.inr (.inr M)), some (.inl x1), some (.inl x2), some (.inl x3), some (.inl x4), some (.inl x5), some (.inl x6)], [.inl x5], σ) Φ) : pe_X d 169 (126, [some (.inr (.inr M)), some (.inl x1), some (.inl x2), some (.inl x3), some (.inl x4), some (.inl x5), some (.inl x6)], [], σ) Φ := by
  refine pe_blk 72 1 ck169 [] (128, [some (.inr (.inr M)), some (.inl x1), some (.inl x2), some (.inl x3), some (.inl x4), some (.inl x5), some (.inl x6)], [.inl x5], σ) rfl ?_ ?_
  · exact trivial
  · exact k
set_option maxRecDepth 8000 in
theorem b169_128 {d : Nat} {Φ : Option pe_V → pe_H → Prop} {σ : pe_H} {M : Nat} (hF : pm_F M σ) {x1 : Int} {x2 : Int} {x3 : Int} {x4 : Int} {o5 : Option pe_V} {x6 : Int} {s0 : Int}   (k : pe_X d 169 (83, [some (.inr (.inr M)), some (.inl x1), some (.inl x2), some (.inl x3), some (.inl x4), some (.inl s0), some (.inl (x6 + 1))], [], σ) Φ) : pe_X d 169 (128, [some (.inr (.inr M)), some (.inl x1), some (.inl x2), some (.inl x3), some (.inl x4), o5, some (.inl x6)], [.inl s0], σ) Φ := by
  refine pe_blk 73 3 ck169 [] (83, [some (.inr (.inr M)), some (.inl x1), some (.inl x2), some (.inl x3), some (.inl x4), some (.inl s0), some (.inl (x6 + 1))], [], σ) rfl ?_ ?_
  · exact trivial
  · exact k
set_option maxRecDepth 8000 in
theorem b169_136 {d : Nat} {Φ : Option pe_V → pe_H → Prop} {σ : pe_H} {M : Nat} (hF : pm_F M σ) {x1 : Int} {x2 : Int} {x3 : Int} {x4 : Int} {x5 : Int} {o6 : Option pe_V} (w0 : pe_in x5 := by unfold pe_in; omega) (w1 : pe_in (pe_I σ (M + 7) x5) := by unfold pe_in; omega) (h0 : 0 ≤ x5 := by first | assumption | omega) (h1 : x5 < 8 := by first | assumption | omega) (k1 : ¬ (pe_I σ (M + 7) x5) = 2 → pe_X d 169 (170, [some (.inr (.inr M)), some (.inl x1), some (.inl x2), some (.inl (pe_or x3 (pe_shl 1 x5))), some (.inl x4), some (.inl x5), o6], [.inl x5, .inr (.inr (M + 8))], σ) Φ) (k2 : (pe_I σ (M + 7) x5) = 2 → pe_X d 169 (160, [some (.inr (.inr M)), some (.inl x1), some (.inl x2), some (.inl (pe_or x3 (pe_shl 1 x5))), some (.inl x4), some (.inl x5), o6], [.inl x5, .inr (.inr (M + 8))], σ) Φ) : pe_X d 169 (136, [some (.inr (.inr M)), some (.inl x1), some (.inl x2), some (.inl x3), some (.inl x4), some (.inl x5), o6], [], σ) Φ := by
  refine pe_blk 76 15 ck169 [pe_K σ M = 9, pe_K σ M = 9, pe_K σ (pe_R σ M 7) = 10, 0 ≤ (pe_w x5), (pe_w x5) < pe_L σ (pe_R σ M 7)] (cond (decide (¬ (pe_w (pe_I σ (pe_R σ M 7) (pe_w x5))) = (pe_w 2))) 170 160, [some (.inr (.inr M)), some (.inl x1), some (.inl x2), some (.inl (pe_or x3 (pe_shl 1 x5))), some (.inl x4), some (.inl x5), o6], [.inl x5, .inr (.inr (pe_R σ M 8))], σ) rfl ?_ ?_
  · first
    | (simp (disch := omega) only [pe_all, pe_wi w0, pe_wi w1, pe_wi (x := 2) ⟨by decide, by decide⟩, pm_K7 hF, pm_KM hF, pm_L7 hF, pm_R7 hF, pm_R8 hF]; done)
    | (simp (disch := omega) only [pe_all, pe_wi w0, pe_wi w1, pe_wi (x := 2) ⟨by decide, by decide⟩, pm_K7 hF, pm_KM hF, pm_L7 hF, pm_R7 hF, pm_R8 hF]; (repeat' apply And.intro) <;> first | assumption | omega | decide)
  · try simp (disch := omega) only [pe_wi w0, pe_wi w1, pe_wi (x := 2) ⟨by decide, by decide⟩, pm_K7 hF, pm_KM hF, pm_L7 hF, pm_R7 hF, pm_R8 hF]
    exact pe_two' k1 k2
set_option maxRecDepth 8000 in
theorem b169_160 {d : Nat} {Φ : Option pe_V → pe_H → Prop} {σ : pe_H} {M : Nat} (hF : pm_F M σ) {x1 : Int} {x2 : Int} {x3 : Int} {x4 : Int} {x5 : Int} {o6 : Option pe_V} {b0 : Nat} {s1 : Int}   (k : pe_M d 144 [.inr (.inr M), .inl x5, .inl 0] σ (fun r σ' => pe_X d 169 (167, [some (.inr (.inr M)), some (.inl x1), some (.inl x2), some (.inl x3), some (.inl x4), some (.inl x5), o6], r.toList ++ [.inl s1, .inr (.inr b0)], σ') Φ)) : pe_X d 169 (160, [some (.inr (.inr M)), some (.inl x1), some (.inl x2), some (.inl x3), some (.inl x4), some (.inl x5), o6], [.inl s1, .inr (.inr b0)], σ) Φ := by
  refine pe_blk 91 3 ck169 [] (164, [some (.inr (.inr M)), some (.inl x1), some (.inl x2), some (.inl x3), some (.inl x4), some (.inl x5), o6], [.inl 0, .inl x5, .inr (.inr M), .inl s1, .inr (.inr b0)], σ) rfl ?_ ?_
  · exact trivial
  · try simp (disch := omega) only [pm_KM hF]
    exact pe_cal 94 ck169 rfl rfl rfl ⟨pm_KM hF, by decide⟩ k
set_option maxRecDepth 8000 in
theorem b169_167 {d : Nat} {Φ : Option pe_V → pe_H → Prop} {σ : pe_H} {M : Nat} (hF : pm_F M σ) {x1 : Int} {x2 : Int} {x3 : Int} {x4 : Int} {x5 : Int} {o6 : Option pe_V} {b0 : Nat} {s1 : Int} {s2 : Int}   (k : pe_X d 169 (177, [some (.inr (.inr M)), some (.inl x1), some (.inl x2), some (.inl x3), some (.inl x4), some (.inl x5), o6], [.inl s2, .inl s1, .inr (.inr b0)], σ) Φ) : pe_X d 169 (167, [some (.inr (.inr M)), some (.inl x1), some (.inl x2), some (.inl x3), some (.inl x4), some (.inl x5), o6], [.inl s2, .inl s1, .inr (.inr b0)], σ) Φ := by
  refine pe_blk 95 1 ck169 [] (177, [some (.inr (.inr M)), some (.inl x1), some (.inl x2), some (.inl x3), some (.inl x4), some (.inl x5), o6], [.inl s2, .inl s1, .inr (.inr b0)], σ) rfl ?_ ?_
  · exact trivial
  · exact k
set_option maxRecDepth 8000 in
theorem b169_170 {d : Nat} {Φ : Option pe_V → pe_H → Prop} {σ : pe_H} {M : Nat} (hF : pm_F M σ) {x1 : Int} {x2 : Int} {x3 : Int} {x4 : Int} {x5 : Int} {o6 : Option pe_V} {b0 : Nat} {s1 : Int} (w0 : pe_in x5 := by unfold pe_in; omega) (h0 : 0 ≤ x5 := by first | assumption | omega) (h1 : x5 < 8 := by first | assumption | omega) (k : pe_X d 169 (177, [some (.inr (.inr M)), some (.inl x1), some (.inl x2), some (.inl x3), some (.inl x4), some (.inl x5), o6], [.inl (pe_I σ (M + 8) x5), .inl s1, .inr (.inr b0)], σ) Φ) : pe_X d 169 (170, [some (.inr (.inr M)), some (.inl x1), some (.inl x2), some (.inl x3), some (.inl x4), some (.inl x5), o6], [.inl s1, .inr (.inr b0)], σ) Φ := by
  refine pe_blk 96 4 ck169 [pe_K σ M = 9, pe_K σ (pe_R σ M 8) = 10, 0 ≤ (pe_w x5), (pe_w x5) < pe_L σ (pe_R σ M 8)] (177, [some (.inr (.inr M)), some (.inl x1), some (.inl x2), some (.inl x3), some (.inl x4), some (.inl x5), o6], [.inl (pe_I σ (pe_R σ M 8) (pe_w x5)), .inl s1, .inr (.inr b0)], σ) rfl ?_ ?_
  · first
    | (simp (disch := omega) only [pe_all, pe_wi w0, pm_K8 hF, pm_KM hF, pm_L8 hF, pm_R8 hF]; done)
    | (simp (disch := omega) only [pe_all, pe_wi w0, pm_K8 hF, pm_KM hF, pm_L8 hF, pm_R8 hF]; (repeat' apply And.intro) <;> first | assumption | omega | decide)
  · try simp (disch := omega) only [pe_wi w0, pm_K8 hF, pm_KM hF, pm_L8 hF, pm_R8 hF]
    exact k
set_option maxRecDepth 8000 in
theorem b169_177 {d : Nat} {Φ : Option pe_V → pe_H → Prop} {σ : pe_H} {M : Nat} (hF : pm_F M σ) {x1 : Int} {x2 : Int} {x3 : Int} {x4 : Int} {x5 : Int} {o6 : Option pe_V} {b0 : Nat} {s1 : Int} {s2 : Int} (w0 : pe_in s1 := by unfold pe_in; omega) (w1 : pe_in x5 := by unfold pe_in; omega) (h0 : pe_K σ b0 = 10 := by first | assumption | omega) (h1 : 0 ≤ s1 := by first | assumption | omega) (h2 : s1 < pe_L σ b0 := by first | assumption | omega) (h3 : 2 ≤ b0 := by first | assumption | omega) (h4 : 0 ≤ x5 := by first | assumption | omega) (h5 : x5 < 8 := by first | assumption | omega) (k : pe_M d 165 [.inr (.inr M), .inl x5, .inl 0] (pe_wI (pe_wI σ b0 s1 s2) (M + 7) x5 1) (fun r σ' => pe_X d 169 (193, [some (.inr (.inr M)), some (.inl x1), some (.inl x2), some (.inl x3), some (.inl x4), some (.inl x5), o6], r.toList ++ [], σ') Φ)) : pe_X d 169 (177, [some (.inr (.inr M)), some (.inl x1), some (.inl x2), some (.inl x3), some (.inl x4), some (.inl x5), o6], [.inl s2, .inl s1, .inr (.inr b0)], σ) Φ := by
  have hM2 := pm_2 hF
  refine pe_blk 100 9 ck169 [pe_K σ b0 = 10, 0 ≤ (pe_w s1), (pe_w s1) < pe_L σ b0, 2 ≤ b0, pe_K σ M = 9, pe_K σ (pe_R σ M 7) = 10, 0 ≤ (pe_w x5), (pe_w x5) < pe_L σ (pe_R σ M 7), 2 ≤ (pe_R σ M 7)] (190, [some (.inr (.inr M)), some (.inl x1), some (.inl x2), some (.inl x3), some (.inl x4), some (.inl x5), o6], [.inl 0, .inl x5, .inr (.inr M)], pe_wI (pe_wI σ b0 (pe_w s1) s2) (pe_R σ M 7) (pe_w x5) 1) rfl ?_ ?_
  · first
    | (simp (disch := omega) only [pe_all, pe_wi w0, pe_wi w1, pm_K7 hF, pm_KM hF, pm_L7 hF, pm_R7 hF]; done)
    | (simp (disch := omega) only [pe_all, pe_wi w0, pe_wi w1, pm_K7 hF, pm_KM hF, pm_L7 hF, pm_R7 hF]; (repeat' apply And.intro) <;> first | assumption | omega | decide)
  · try simp (disch := omega) only [pe_wi w0, pe_wi w1, pm_K7 hF, pm_KM hF, pm_L7 hF, pm_R7 hF]
    exact pe_cal 109 ck169 rfl rfl rfl ⟨pm_KM hF, by decide⟩ k
set_option maxRecDepth 8000 in
theorem b169_193 {d : Nat} {Φ : Option pe_V → pe_H → Prop} {σ : pe_H} {M : Nat} (hF : pm_F M σ) {x1 : Int} {x2 : Int} {x3 : Int} {x4 : Int} {o5 : Option pe_V} {o6 : Option pe_V}   (k : pe_X d 169 (56, [some (.inr (.inr M)), some (.inl x1), some (.inl x2), some (.inl x3), some (.inl (x4 + 1)), o5, o6], [], σ) Φ) : pe_X d 169 (193, [some (.inr (.inr M)), some (.inl x1), some (.inl x2), some (.inl x3), some (.inl x4), o5, o6], [], σ) Φ := by
  refine pe_blk 110 2 ck169 [] (56, [some (.inr (.inr M)), some (.inl x1), some (.inl x2), some (.inl x3), some (.inl (x4 + 1)), o5, o6], [], σ) rfl ?_ ?_
  · exact trivial
  · exact k
set_option maxRecDepth 8000 in
theorem b169_199 {d : Nat} {Φ : Option pe_V → pe_H → Prop} {σ : pe_H} {M : Nat} (hF : pm_F M σ) {o1 : Option pe_V} {x2 : Int} {x3 : Int} {o4 : Option pe_V} {o5 : Option pe_V} {o6 : Option pe_V}   (k : pe_X d 169 (202, [some (.inr (.inr M)), o1, some (.inl x2), some (.inl x3), some (.inl 0), o5, o6], [], σ) Φ) : pe_X d 169 (199, [some (.inr (.inr M)), o1, some (.inl x2), some (.inl x3), o4, o5, o6], [], σ) Φ := by
  refine pe_blk 112 2 ck169 [] (202, [some (.inr (.inr M)), o1, some (.inl x2), some (.inl x3), some (.inl 0), o5, o6], [], σ) rfl ?_ ?_
  · exact trivial
  · exact k
set_option maxRecDepth 8000 in
theorem b169_202 {d : Nat} {Φ : Option pe_V → pe_H → Prop} {σ : pe_H} {M : Nat} (hF : pm_F M σ) {o1 : Option pe_V} {x2 : Int} {x3 : Int} {x4 : Int} {o5 : Option pe_V} {o6 : Option pe_V} (w0 : pe_in x4 := by unfold pe_in; omega) (w1 : pe_in (pe_I σ M 3) := by unfold pe_in; omega)  (k1 : (pe_I σ M 3) ≤ x4 → pe_X d 169 (261, [some (.inr (.inr M)), o1, some (.inl x2), some (.inl x3), some (.inl x4), o5, o6], [], σ) Φ) (k2 : ¬ ((pe_I σ M 3) ≤ x4) → pe_X d 169 (211, [some (.inr (.inr M)), o1, some (.inl x2), some (.inl x3), some (.inl x4), o5, o6], [], σ) Φ) : pe_X d 169 (202, [some (.inr (.inr M)), o1, some (.inl x2), some (.inl x3), some (.inl x4), o5, o6], [], σ) Φ := by
  refine pe_blk 114 4 ck169 [pe_K σ M = 9] (cond (decide ((pe_w (pe_I σ M 3)) ≤ (pe_w x4))) 261 211, [some (.inr (.inr M)), o1, some (.inl x2), some (.inl x3), some (.inl x4), o5, o6], [], σ) rfl ?_ ?_
  · first
    | (simp (disch := omega) only [pe_all, pe_wi w0, pe_wi w1, pm_KM hF]; done)
    | (simp (disch := omega) only [pe_all, pe_wi w0, pe_wi w1, pm_KM hF]; (repeat' apply And.intro) <;> first | assumption | omega | decide)
  · try simp (disch := omega) only [pe_wi w0, pe_wi w1, pm_KM hF]
    exact pe_two k1 k2
set_option maxRecDepth 8000 in
theorem b169_211 {d : Nat} {Φ : Option pe_V → pe_H → Prop} {σ : pe_H} {M : Nat} (hF : pm_F M σ) {o1 : Option pe_V} {x2 : Int} {x3 : Int} {x4 : Int} {o5 : Option pe_V} {o6 : Option pe_V}   (k : pe_M d 135 [.inl x2, .inl x4] σ (fun r σ' => pe_X d 169 (217, [some (.inr (.inr M)), o1, some (.inl x2), some (.inl x3), some (.inl x4), o5, o6], r.toList ++ [], σ') Φ)) : pe_X d 169 (211, [some (.inr (.inr M)), o1, some (.inl x2), some (.inl x3), some (.inl x4), o5, o6], [], σ) Φ := by
  refine pe_blk 118 2 ck169 [] (214, [some (.inr (.inr M)), o1, some (.inl x2), some (.inl x3), some (.inl x4), o5, o6], [.inl x4, .inl x2], σ) rfl ?_ ?_
  · exact trivial
  · exact pe_cal 120 ck169 rfl rfl rfl trivial k
set_option maxRecDepth 8000 in
theorem b169_217 {d : Nat} {Φ : Option pe_V → pe_H → Prop} {σ : pe_H} {M : Nat} (hF : pm_F M σ) {o1 : Option pe_V} {x2 : Int} {x3 : Int} {x4 : Int} {o5 : Option pe_V} {o6 : Option pe_V} {s0 : Int} (w0 : pe_in s0 := by unfold pe_in; omega)  (k1 : s0 = 0 → pe_X d 169 (255, [some (.inr (.inr M)), o1, some (.inl x2), some (.inl x3), some (.inl x4), o5, o6], [], σ) Φ) (k2 : ¬ (s0 = 0) → pe_X d 169 (220, [some (.inr (.inr M)), o1, some (.inl x2), some (.inl x3), some (.inl x4), o5, o6], [], σ) Φ) : pe_X d 169 (217, [some (.inr (.inr M)), o1, some (.inl x2), some (.inl x3), some (.inl x4), o5, o6], [.inl s0], σ) Φ := by
  refine pe_blk 121 1 ck169 [] (cond (decide ((pe_w s0) = 0)) 255 220, [some (.inr (.inr M)), o1, some (.inl x2), some (.inl x3), some (.inl x4), o5, o6], [], σ) rfl ?_ ?_
  · exact trivial
  · try simp (disch := omega) only [pe_wi w0]
    exact pe_two k1 k2
set_option maxRecDepth 8000 in
theorem b169_220 {d : Nat} {Φ : Option pe_V → pe_H → Prop} {σ : pe_H} {M : Nat} (hF : pm_F M σ) {o1 : Option pe_V} {x2 : Int} {x3 : Int} {x4 : Int} {o5 : Option pe_V} {o6 : Option pe_V}   (k : pe_M d 135 [.inl x3, .inl x4] σ (fun r σ' => pe_X d 169 (232, [some (.inr (.inr M)), o1, some (.inl x2), some (.inl x3), some (.inl x4), o5, o6], r.toList ++ [.inl x4, .inr (.inr (M + 11))], σ') Φ)) : pe_X d 169 (220, [some (.inr (.inr M)), o1, some (.inl x2), some (.inl x3), some (.inl x4), o5, o6], [], σ) Φ := by
  refine pe_blk 122 5 ck169 [pe_K σ M = 9] (229, [some (.inr (.inr M)), o1, some (.inl x2), some (.inl x3), some (.inl x4), o5, o6], [.inl x4, .inl x3, .inl x4, .inr (.inr (pe_R σ M 11))], σ) rfl ?_ ?_
  · first
    | (simp (disch := omega) only [pe_all, pm_KM hF, pm_R11 hF]; done)
    | (simp (disch := omega) only [pe_all, pm_KM hF, pm_R11 hF]; (repeat' apply And.intro) <;> first | assumption | omega | decide)
  · try simp (disch := omega) only [pm_KM hF, pm_R11 hF]
    exact pe_cal 127 ck169 rfl rfl rfl trivial k
set_option maxRecDepth 8000 in
theorem b169_232 {d : Nat} {Φ : Option pe_V → pe_H → Prop} {σ : pe_H} {M : Nat} (hF : pm_F M σ) {o1 : Option pe_V} {x2 : Int} {x3 : Int} {x4 : Int} {o5 : Option pe_V} {o6 : Option pe_V} {b0 : Nat} {s1 : Int} {s2 : Int} (w0 : pe_in s2 := by unfold pe_in; omega)  (k1 : s2 = 0 → pe_X d 169 (239, [some (.inr (.inr M)), o1, some (.inl x2), some (.inl x3), some (.inl x4), o5, o6], [.inl s1, .inr (.inr b0)], σ) Φ) (k2 : ¬ (s2 = 0) → pe_X d 169 (235, [some (.inr (.inr M)), o1, some (.inl x2), some (.inl x3), some (.inl x4), o5, o6], [.inl s1, .inr (.inr b0)], σ) Φ) : pe_X d 169 (232, [some (.inr (.inr M)), o1, some (.inl x2), some (.inl x3), some (.inl x4), o5, o6], [.inl s2, .inl s1, .inr (.inr b0)], σ) Φ := by
  refine pe_blk 128 1 ck169 [] (cond (decide ((pe_w s2) = 0)) 239 235, [some (.inr (.inr M)), o1, some (.inl x2), some (.inl x3), some (.inl x4), o5, o6], [.inl s1, .inr (.inr b0)], σ) rfl ?_ ?_
  · exact trivial
  · try simp (disch := omega) only [pe_wi w0]
    exact pe_two k1 k2
set_option maxRecDepth 8000 in
theorem b169_235 {d : Nat} {Φ : Option pe_V → pe_H → Prop} {σ : pe_H} {M : Nat} (hF : pm_F M σ) {o1 : Option pe_V} {x2 : Int} {x3 : Int} {x4 : Int} {o5 : Option pe_V} {o6 : Option pe_V} {b0 : Nat} {s1 : Int}   (k : pe_X d 169 (254, [some (.inr (.inr M)), o1, some (.inl x2), some (.inl x3), some (.inl x4), o5, o6], [.inl 0, .inl s1, .inr (.inr b0)], σ) Φ) : pe_X d 169 (235, [some (.inr (.inr M)), o1, some (.inl x2), some (.inl x3), some (.inl x4), o5, o6], [.inl s1, .inr (.inr b0)], σ) Φ := by
  refine pe_blk 129 2 ck169 [] (254, [some (.inr (.inr M)), o1, some (.inl x2), some (.inl x3), some (.inl x4), o5, o6], [.inl 0, .inl s1, .inr (.inr b0)], σ) rfl ?_ ?_
  · exact trivial
  · exact k
set_option maxRecDepth 8000 in
theorem b169_239 {d : Nat} {Φ : Option pe_V → pe_H → Prop} {σ : pe_H} {M : Nat} (hF : pm_F M σ) {o1 : Option pe_V} {x2 : Int} {x3 : Int} {x4 : Int} {o5 : Option pe_V} {o6 : Option pe_V} {b0 : Nat} {s1 : Int} (w0 : pe_in x4 := by unfold pe_in; omega) (h0 : 0 ≤ x4 := by first | assumption | omega) (h1 : x4 < 8 := by first | assumption | omega) (k : pe_M d 137 [.inl ((pe_I σ (M + 11) x4) + 1), .inl 999] σ (fun r σ' => pe_X d 169 (254, [some (.inr (.inr M)), o1, some (.inl x2), some (.inl x3), some (.inl x4), o5, o6], r.toList ++ [.inl s1, .inr (.inr b0)], σ') Φ)) : pe_X d 169 (239, [some (.inr (.inr M)), o1, some (.inl x2), some (.inl x3), some (.inl x4), o5, o6], [.inl s1, .inr (.inr b0)], σ) Φ := by
  refine pe_blk 131 7 ck169 [pe_K σ M = 9, pe_K σ (pe_R σ M 11) = 10, 0 ≤ (pe_w x4), (pe_w x4) < pe_L σ (pe_R σ M 11)] (251, [some (.inr (.inr M)), o1, some (.inl x2), some (.inl x3), some (.inl x4), o5, o6], [.inl 999, .inl ((pe_I σ (pe_R σ M 11) (pe_w x4)) + 1), .inl s1, .inr (.inr b0)], σ) rfl ?_ ?_
  · first
    | (simp (disch := omega) only [pe_all, pe_wi w0, pm_K11 hF, pm_KM hF, pm_L11 hF, pm_R11 hF]; done)
    | (simp (disch := omega) only [pe_all, pe_wi w0, pm_K11 hF, pm_KM hF, pm_L11 hF, pm_R11 hF]; (repeat' apply And.intro) <;> first | assumption | omega | decide)
  · try simp (disch := omega) only [pe_wi w0, pm_K11 hF, pm_KM hF, pm_L11 hF, pm_R11 hF]
    exact pe_cal 138 ck169 rfl rfl rfl trivial k
set_option maxRecDepth 8000 in
theorem b169_254 {d : Nat} {Φ : Option pe_V → pe_H → Prop} {σ : pe_H} {M : Nat} (hF : pm_F M σ) {o1 : Option pe_V} {x2 : Int} {x3 : Int} {x4 : Int} {o5 : Option pe_V} {o6 : Option pe_V} {b0 : Nat} {s1 : Int} {s2 : Int} (w0 : pe_in s1 := by unfold pe_in; omega) (h0 : pe_K σ b0 = 10 := by first | assumption | omega) (h1 : 0 ≤ s1 := by first | assumption | omega) (h2 : s1 < pe_L σ b0 := by first | assumption | omega) (h3 : 2 ≤ b0 := by first | assumption | omega) (k : pe_X d 169 (255, [some (.inr (.inr M)), o1, some (.inl x2), some (.inl x3), some (.inl x4), o5, o6], [], pe_wI σ b0 s1 s2) Φ) : pe_X d 169 (254, [some (.inr (.inr M)), o1, some (.inl x2), some (.inl x3), some (.inl x4), o5, o6], [.inl s2, .inl s1, .inr (.inr b0)], σ) Φ := by
  refine pe_blk 139 1 ck169 [pe_K σ b0 = 10, 0 ≤ (pe_w s1), (pe_w s1) < pe_L σ b0, 2 ≤ b0] (255, [some (.inr (.inr M)), o1, some (.inl x2), some (.inl x3), some (.inl x4), o5, o6], [], pe_wI σ b0 (pe_w s1) s2) rfl ?_ ?_
  · first
    | (simp (disch := omega) only [pe_all, pe_wi w0]; done)
    | (simp (disch := omega) only [pe_all, pe_wi w0]; (repeat' apply And.intro) <;> first | assumption | omega | decide)
  · try simp (disch := omega) only [pe_wi w0]
    exact k
set_option maxRecDepth 8000 in
theorem b169_255 {d : Nat} {Φ : Option pe_V → pe_H → Prop} {σ : pe_H} {M : Nat} (hF : pm_F M σ) {o1 : Option pe_V} {x2 : Int} {x3 : Int} {x4 : Int} {o5 : Option pe_V} {o6 : Option pe_V}   (k : pe_X d 169 (202, [some (.inr (.inr M)), o1, some (.inl x2), some (.inl x3), some (.inl (x4 + 1)), o5, o6], [], σ) Φ) : pe_X d 169 (255, [some (.inr (.inr M)), o1, some (.inl x2), some (.inl x3), some (.inl x4), o5, o6], [], σ) Φ := by
  refine pe_blk 140 2 ck169 [] (202, [some (.inr (.inr M)), o1, some (.inl x2), some (.inl x3), some (.inl (x4 + 1)), o5, o6], [], σ) rfl ?_ ?_
  · exact trivial
  · exact k
set_option maxRecDepth 8000 in
theorem b169_261 {d : Nat} {Φ : Option pe_V → pe_H → Prop} {σ : pe_H} {M : Nat} (hF : pm_F M σ) {o1 : Option pe_V} {o2 : Option pe_V} {o3 : Option pe_V} {o4 : Option pe_V} {o5 : Option pe_V} {o6 : Option pe_V}   (k : Φ none σ) : pe_X d 169 (261, [some (.inr (.inr M)), o1, o2, o3, o4, o5, o6], [], σ) Φ := by
  exact pe_fine 142 ck169 rfl rfl rfl trivial k
-- goRounds(I)V
def T170 : List (Nat × Instr × Nat) := [(0, .iconst 0, 1), (1, .istore_n 2, 1), (2, .iload_n 2, 1), (3, .iload_n 1, 1), (4, .if_icmp .ge 14, 3), (7, .aload_n 0, 1), (8, .iconst 0, 1), (9, .invokevirtual 259, 3), (12, .iinc 2 1, 3), (15, .goto (-13), 3), (18, .return_, 1)]
theorem ck170 : pe_ctx 170 9 false none 3 T170 := ⟨rfl, rfl, rfl, rfl, by decide +kernel, by decide, by decide⟩
theorem b170_0 {d : Nat} {Φ : Option pe_V → pe_H → Prop} {σ : pe_H} {M : Nat} (hF : pm_F M σ) {x1 : Int} {o2 : Option pe_V}   (k : pe_X d 170 (2, [some (.inr (.inr M)), some (.inl x1), some (.inl 0)], [], σ) Φ) : pe_X d 170 (0, [some (.inr (.inr M)), some (.inl x1), o2], [], σ) Φ := by
  refine pe_blk 0 2 ck170 [] (2, [some (.inr (.inr M)), some (.inl x1), some (.inl 0)], [], σ) rfl ?_ ?_
  · exact trivial
  · exact k
theorem b170_2 {d : Nat} {Φ : Option pe_V → pe_H → Prop} {σ : pe_H} {M : Nat} (hF : pm_F M σ) {x1 : Int} {x2 : Int} (w0 : pe_in x2 := by unfold pe_in; omega) (w1 : pe_in x1 := by unfold pe_in; omega)  (k1 : x1 ≤ x2 → pe_X d 170 (18, [some (.inr (.inr M)), some (.inl x1), some (.inl x2)], [], σ) Φ) (k2 : ¬ (x1 ≤ x2) → pe_X d 170 (7, [some (.inr (.inr M)), some (.inl x1), some (.inl x2)], [], σ) Φ) : pe_X d 170 (2, [some (.inr (.inr M)), some (.inl x1), some (.inl x2)], [], σ) Φ := by
  refine pe_blk 2 3 ck170 [] (cond (decide ((pe_w x1) ≤ (pe_w x2))) 18 7, [some (.inr (.inr M)), some (.inl x1), some (.inl x2)], [], σ) rfl ?_ ?_
  · exact trivial
  · try simp (disch := omega) only [pe_wi w0, pe_wi w1]
    exact pe_two k1 k2
theorem b170_7 {d : Nat} {Φ : Option pe_V → pe_H → Prop} {σ : pe_H} {M : Nat} (hF : pm_F M σ) {x1 : Int} {x2 : Int}   (k : pe_M d 169 [.inr (.inr M), .inl 0] σ (fun r σ' => pe_X d 170 (12, [some (.inr (.inr M)), some (.inl x1), some (.inl x2)], r.toList ++ [], σ') Φ)) : pe_X d 170 (7, [some (.inr (.inr M)), some (.inl x1), some (.inl x2)], [], σ) Φ := by
  refine pe_blk 5 2 ck170 [] (9, [some (.inr (.inr M)), some (.inl x1), some (.inl x2)], [.inl 0, .inr (.inr M)], σ) rfl ?_ ?_
  · exact trivial
  · try simp (disch := omega) only [pm_KM hF]
    exact pe_cal 7 ck170 rfl rfl rfl ⟨pm_KM hF, by decide⟩ k
theorem b170_12 {d : Nat} {Φ : Option pe_V → pe_H → Prop} {σ : pe_H} {M : Nat} (hF : pm_F M σ) {x1 : Int} {x2 : Int}   (k : pe_X d 170 (2, [some (.inr (.inr M)), some (.inl x1), some (.inl (x2 + 1))], [], σ) Φ) : pe_X d 170 (12, [some (.inr (.inr M)), some (.inl x1), some (.inl x2)], [], σ) Φ := by
  refine pe_blk 8 2 ck170 [] (2, [some (.inr (.inr M)), some (.inl x1), some (.inl (x2 + 1))], [], σ) rfl ?_ ?_
  · exact trivial
  · exact k
theorem b170_18 {d : Nat} {Φ : Option pe_V → pe_H → Prop} {σ : pe_H} {M : Nat} (hF : pm_F M σ) {o1 : Option pe_V} {o2 : Option pe_V}   (k : Φ none σ) : pe_X d 170 (18, [some (.inr (.inr M)), o1, o2], [], σ) Φ := by
  exact pe_fine 10 ck170 rfl rfl rfl trivial k
-- oneComes(III)Z
def T171 : List (Nat × Instr × Nat) := [(0, .iload_n 1, 1), (1, .i2l, 1), (2, .lconst 0, 1), (3, .ldc2_w 263, 3), (6, .invokestatic 147, 3), (9, .ifCond .eq 28, 3), (12, .iload_n 2, 1), (13, .i2l, 1), (14, .lconst 0, 1), (15, .ldc2_w 265, 3), (18, .invokestatic 147, 3), (21, .ifCond .eq 16, 3), (24, .aload_n 0, 1), (25, .getfield 144, 3), (28, .bipush 8, 2), (30, .if_icmp .ge 7, 3), (33, .iconst 1, 1), (34, .goto 4, 3), (37, .iconst 0, 1), (38, .istore 4, 2), (40, .iload 4, 2), (42, .ifCond .eq 116, 3), (45, .aload_n 0, 1), (46, .getfield 144, 3), (49, .istore 5, 2), (51, .aload_n 0, 1), (52, .dup, 1), (53, .getfield 144, 3), (56, .iconst 1, 1), (57, .iadd, 1), (58, .putfield 144, 3), (61, .aload_n 0, 1), (62, .getfield 19, 3), (65, .iload 5, 2), (67, .iload_n 1, 1), (68, .iastore, 1), (69, .aload_n 0, 1), (70, .getfield 22, 3), (73, .iload 5, 2), (75, .iload_n 2, 1), (76, .iastore, 1), (77, .aload_n 0, 1), (78, .getfield 25, 3), (81, .iload 5, 2), (83, .iload_n 3, 1), (84, .iastore, 1), (85, .aload_n 0, 1), (86, .getfield 28, 3), (89, .iload 5, 2), (91, .iconst 0, 1), (92, .iastore, 1), (93, .aload_n 0, 1), (94, .getfield 31, 3), (97, .iload 5, 2), (99, .iconst 0, 1), (100, .iastore, 1), (101, .aload_n 0, 1), (102, .getfield 34, 3), (105, .iload 5, 2), (107, .bipush (-4), 2), (109, .iastore, 1), (110, .aload_n 0, 1), (111, .getfield 37, 3), (114, .iload 5, 2), (116, .iconst 0, 1), (117, .iastore, 1), (118, .aload_n 0, 1), (119, .getfield 40, 3), (122, .iload 5, 2), (124, .iconst 0, 1), (125, .iastore, 1), (126, .aload_n 0, 1), (127, .getfield 43, 3), (130, .iload 5, 2), (132, .bipush (-4), 2), (134, .iastore, 1), (135, .aload_n 0, 1), (136, .getfield 46, 3), (139, .iload 5, 2), (141, .iconst (-1), 1), (142, .iastore, 1), (143, .aload_n 0, 1), (144, .getfield 49, 3), (147, .iload 5, 2), (149, .iconst 0, 1), (150, .iastore, 1), (151, .aload_n 0, 1), (152, .iload 5, 2), (154, .iload_n 1, 1), (155, .invokevirtual 193, 3), (158, .iload 4, 2), (160, .ireturn, 1)]
theorem ck171 : pe_ctx 171 9 false (some .boolean) 6 T171 := ⟨rfl, rfl, rfl, rfl, by decide +kernel, by decide, by decide⟩
theorem b171_0 {d : Nat} {Φ : Option pe_V → pe_H → Prop} {σ : pe_H} {M : Nat} (hF : pm_F M σ) {x1 : Int} {x2 : Int} {x3 : Int} {o4 : Option pe_V} {o5 : Option pe_V} (w0 : pe_in x1 := by unfold pe_in; omega)  (k : pe_M d 134 [.inr (.inl x1), .inr (.inl 0), .inr (.inl 4)] σ (fun r σ' => pe_X d 171 (9, [some (.inr (.inr M)), some (.inl x1), some (.inl x2), some (.inl x3), o4, o5], r.toList ++ [], σ') Φ)) : pe_X d 171 (0, [some (.inr (.inr M)), some (.inl x1), some (.inl x2), some (.inl x3), o4, o5], [], σ) Φ := by
  refine pe_blk 0 4 ck171 [] (6, [some (.inr (.inr M)), some (.inl x1), some (.inl x2), some (.inl x3), o4, o5], [.inr (.inl 4), .inr (.inl 0), .inr (.inl (pe_w x1))], σ) rfl ?_ ?_
  · exact trivial
  · try simp (disch := omega) only [pe_wi w0]
    exact pe_cal 4 ck171 rfl rfl rfl trivial k
theorem b171_9 {d : Nat} {Φ : Option pe_V → pe_H → Prop} {σ : pe_H} {M : Nat} (hF : pm_F M σ) {x1 : Int} {x2 : Int} {x3 : Int} {o4 : Option pe_V} {o5 : Option pe_V} {s0 : Int} (w0 : pe_in s0 := by unfold pe_in; omega)  (k1 : s0 = 0 → pe_X d 171 (37, [some (.inr (.inr M)), some (.inl x1), some (.inl x2), some (.inl x3), o4, o5], [], σ) Φ) (k2 : ¬ (s0 = 0) → pe_X d 171 (12, [some (.inr (.inr M)), some (.inl x1), some (.inl x2), some (.inl x3), o4, o5], [], σ) Φ) : pe_X d 171 (9, [some (.inr (.inr M)), some (.inl x1), some (.inl x2), some (.inl x3), o4, o5], [.inl s0], σ) Φ := by
  refine pe_blk 5 1 ck171 [] (cond (decide ((pe_w s0) = 0)) 37 12, [some (.inr (.inr M)), some (.inl x1), some (.inl x2), some (.inl x3), o4, o5], [], σ) rfl ?_ ?_
  · exact trivial
  · try simp (disch := omega) only [pe_wi w0]
    exact pe_two k1 k2
theorem b171_12 {d : Nat} {Φ : Option pe_V → pe_H → Prop} {σ : pe_H} {M : Nat} (hF : pm_F M σ) {x1 : Int} {x2 : Int} {x3 : Int} {o4 : Option pe_V} {o5 : Option pe_V} (w0 : pe_in x2 := by unfold pe_in; omega)  (k : pe_M d 134 [.inr (.inl x2), .inr (.inl 0), .inr (.inl 5)] σ (fun r σ' => pe_X d 171 (21, [some (.inr (.inr M)), some (.inl x1), some (.inl x2), some (.inl x3), o4, o5], r.toList ++ [], σ') Φ)) : pe_X d 171 (12, [some (.inr (.inr M)), some (.inl x1), some (.inl x2), some (.inl x3), o4, o5], [], σ) Φ := by
  refine pe_blk 6 4 ck171 [] (18, [some (.inr (.inr M)), some (.inl x1), some (.inl x2), some (.inl x3), o4, o5], [.inr (.inl 5), .inr (.inl 0), .inr (.inl (pe_w x2))], σ) rfl ?_ ?_
  · exact trivial
  · try simp (disch := omega) only [pe_wi w0]
    exact pe_cal 10 ck171 rfl rfl rfl trivial k
theorem b171_21 {d : Nat} {Φ : Option pe_V → pe_H → Prop} {σ : pe_H} {M : Nat} (hF : pm_F M σ) {x1 : Int} {x2 : Int} {x3 : Int} {o4 : Option pe_V} {o5 : Option pe_V} {s0 : Int} (w0 : pe_in s0 := by unfold pe_in; omega)  (k1 : s0 = 0 → pe_X d 171 (37, [some (.inr (.inr M)), some (.inl x1), some (.inl x2), some (.inl x3), o4, o5], [], σ) Φ) (k2 : ¬ (s0 = 0) → pe_X d 171 (24, [some (.inr (.inr M)), some (.inl x1), some (.inl x2), some (.inl x3), o4, o5], [], σ) Φ) : pe_X d 171 (21, [some (.inr (.inr M)), some (.inl x1), some (.inl x2), some (.inl x3), o4, o5], [.inl s0], σ) Φ := by
  refine pe_blk 11 1 ck171 [] (cond (decide ((pe_w s0) = 0)) 37 24, [some (.inr (.inr M)), some (.inl x1), some (.inl x2), some (.inl x3), o4, o5], [], σ) rfl ?_ ?_
  · exact trivial
  · try simp (disch := omega) only [pe_wi w0]
    exact pe_two k1 k2
theorem b171_24 {d : Nat} {Φ : Option pe_V → pe_H → Prop} {σ : pe_H} {M : Nat} (hF : pm_F M σ) {x1 : Int} {x2 : Int} {x3 : Int} {o4 : Option pe_V} {o5 : Option pe_V} (w0 : pe_in (pe_I σ M 3) := by unfold pe_in; omega)  (k1 : 8 ≤ (pe_I σ M 3) → pe_X d 171 (37, [some (.inr (.inr M)), some (.inl x1), some (.inl x2), some (.inl x3), o4, o5], [], σ) Φ) (k2 : ¬ (8 ≤ (pe_I σ M 3)) → pe_X d 171 (33, [some (.inr (.inr M)), some (.inl x1), some (.inl x2), some (.inl x3), o4, o5], [], σ) Φ) : pe_X d 171 (24, [some (.inr (.inr M)), some (.inl x1), some (.inl x2), some (.inl x3), o4, o5], [], σ) Φ := by
  refine pe_blk 12 4 ck171 [pe_K σ M = 9] (cond (decide ((pe_w 8) ≤ (pe_w (pe_I σ M 3)))) 37 33, [some (.inr (.inr M)), some (.inl x1), some (.inl x2), some (.inl x3), o4, o5], [], σ) rfl ?_ ?_
  · first
    | (simp (disch := omega) only [pe_all, pe_wi w0, pe_wi (x := 8) ⟨by decide, by decide⟩, pm_KM hF]; done)
    | (simp (disch := omega) only [pe_all, pe_wi w0, pe_wi (x := 8) ⟨by decide, by decide⟩, pm_KM hF]; (repeat' apply And.intro) <;> first | assumption | omega | decide)
  · try simp (disch := omega) only [pe_wi w0, pe_wi (x := 8) ⟨by decide, by decide⟩, pm_KM hF]
    exact pe_two k1 k2
theorem b171_33 {d : Nat} {Φ : Option pe_V → pe_H → Prop} {σ : pe_H} {M : Nat} (hF : pm_F M σ) {x1 : Int} {x2 : Int} {x3 : Int} {o4 : Option pe_V} {o5 : Option pe_V}   (k : pe_X d 171 (38, [some (.inr (.inr M)), some (.inl x1), some (.inl x2), some (.inl x3), o4, o5], [.inl 1], σ) Φ) : pe_X d 171 (33, [some (.inr (.inr M)), some (.inl x1), some (.inl x2), some (.inl x3), o4, o5], [], σ) Φ := by
  refine pe_blk 16 2 ck171 [] (38, [some (.inr (.inr M)), some (.inl x1), some (.inl x2), some (.inl x3), o4, o5], [.inl 1], σ) rfl ?_ ?_
  · exact trivial
  · exact k
theorem b171_37 {d : Nat} {Φ : Option pe_V → pe_H → Prop} {σ : pe_H} {M : Nat} (hF : pm_F M σ) {x1 : Int} {x2 : Int} {x3 : Int} {o4 : Option pe_V} {o5 : Option pe_V}   (k : pe_X d 171 (38, [some (.inr (.inr M)), some (.inl x1), some (.inl x2), some (.inl x3), o4, o5], [.inl 0], σ) Φ) : pe_X d 171 (37, [some (.inr (.inr M)), some (.inl x1), some (.inl x2), some (.inl x3), o4, o5], [], σ) Φ := by
  refine pe_blk 18 1 ck171 [] (38, [some (.inr (.inr M)), some (.inl x1), some (.inl x2), some (.inl x3), o4, o5], [.inl 0], σ) rfl ?_ ?_
  · exact trivial
  · exact k
theorem b171_38 {d : Nat} {Φ : Option pe_V → pe_H → Prop} {σ : pe_H} {M : Nat} (hF : pm_F M σ) {x1 : Int} {x2 : Int} {x3 : Int} {o4 : Option pe_V} {o5 : Option pe_V} {s0 : Int} (w0 : pe_in s0 := by unfold pe_in; omega)  (k1 : s0 = 0 → pe_X d 171 (158, [some (.inr (.inr M)), some (.inl x1), some (.inl x2), some (.inl x3), some (.inl s0), o5], [], σ) Φ) (k2 : ¬ (s0 = 0) → pe_X d 171 (45, [some (.inr (.inr M)), some (.inl x1), some (.inl x2), some (.inl x3), some (.inl s0), o5], [], σ) Φ) : pe_X d 171 (38, [some (.inr (.inr M)), some (.inl x1), some (.inl x2), some (.inl x3), o4, o5], [.inl s0], σ) Φ := by
  refine pe_blk 19 3 ck171 [] (cond (decide ((pe_w s0) = 0)) 158 45, [some (.inr (.inr M)), some (.inl x1), some (.inl x2), some (.inl x3), some (.inl s0), o5], [], σ) rfl ?_ ?_
  · exact trivial
  · try simp (disch := omega) only [pe_wi w0]
    exact pe_two k1 k2
theorem b171_45 {d : Nat} {Φ : Option pe_V → pe_H → Prop} {σ : pe_H} {M : Nat} (hF : pm_F M σ) {x1 : Int} {x2 : Int} {x3 : Int} {x4 : Int} {o5 : Option pe_V} (w0 : pe_in (pe_I σ M 3) := by unfold pe_in; omega) (h0 : 0 ≤ (pe_I σ M 3) := by first | assumption | omega) (h1 : (pe_I σ M 3) < 8 := by first | assumption | omega) (k : pe_X d 171 (85, [some (.inr (.inr M)), some (.inl x1), some (.inl x2), some (.inl x3), some (.inl x4), some (.inl (pe_I σ M 3))], [], pe_wI (pe_wI (pe_wI (pe_wI σ M 3 ((pe_I σ M 3) + 1)) (M + 4) (pe_I σ M 3) x1) (M + 5) (pe_I σ M 3) x2) (M + 6) (pe_I σ M 3) x3) Φ) : pe_X d 171 (45, [some (.inr (.inr M)), some (.inl x1), some (.inl x2), some (.inl x3), some (.inl x4), o5], [], σ) Φ := by
  have hM2 := pm_2 hF
  refine pe_blk 22 24 ck171 [pe_K σ M = 9, pe_K σ M = 9, pe_K σ M = 9, pe_K σ M = 9, pe_K σ (pe_R σ M 4) = 10, 0 ≤ (pe_w (pe_I σ M 3)), (pe_w (pe_I σ M 3)) < pe_L σ (pe_R σ M 4), 2 ≤ (pe_R σ M 4), pe_K σ M = 9, pe_K σ (pe_R σ M 5) = 10, 0 ≤ (pe_w (pe_I σ M 3)), (pe_w (pe_I σ M 3)) < pe_L σ (pe_R σ M 5), 2 ≤ (pe_R σ M 5), pe_K σ M = 9, pe_K σ (pe_R σ M 6) = 10, 0 ≤ (pe_w (pe_I σ M 3)), (pe_w (pe_I σ M 3)) < pe_L σ (pe_R σ M 6), 2 ≤ (pe_R σ M 6)] (85, [some (.inr (.inr M)), some (.inl x1), some (.inl x2), some (.inl x3), some (.inl x4), some (.inl (pe_I σ M 3))], [], pe_wI (pe_wI (pe_wI (pe_wI σ M 3 ((pe_I σ M 3) + 1)) (pe_R σ M 4) (pe_w (pe_I σ M 3)) x1) (pe_R σ M 5) (pe_w (pe_I σ M 3)) x2) (pe_R σ M 6) (pe_w (pe_I σ M 3)) x3) rfl ?_ ?_
  · first
    | (simp (disch := omega) only [pe_all, pe_wi w0, pm_K4 hF, pm_K5 hF, pm_K6 hF, pm_KM hF, pm_L4 hF, pm_L5 hF, pm_L6 hF, pm_R4 hF, pm_R5 hF, pm_R6 hF]; done)
    | (simp (disch := omega) only [pe_all, pe_wi w0, pm_K4 hF, pm_K5 hF, pm_K6 hF, pm_KM hF, pm_L4 hF, pm_L5 hF, pm_L6 hF, pm_R4 hF, pm_R5 hF, pm_R6 hF]; (repeat' apply And.intro) <;> first | assumption | omega | decide)
  · try simp (disch := omega) only [pe_wi w0, pm_K4 hF, pm_K5 hF, pm_K6 hF, pm_KM hF, pm_L4 hF, pm_L5 hF, pm_L6 hF, pm_R4 hF, pm_R5 hF, pm_R6 hF]
    exact k
set_option maxRecDepth 8000 in
theorem b171_85 {d : Nat} {Φ : Option pe_V → pe_H → Prop} {σ : pe_H} {M : Nat} (hF : pm_F M σ) {x1 : Int} {o2 : Option pe_V} {o3 : Option pe_V} {x4 : Int} {x5 : Int} (w0 : pe_in x5 := by unfold pe_in; omega) (h0 : 0 ≤ x5 := by first | assumption | omega) (h1 : x5 < 8 := by first | assumption | omega) (k : pe_X d 171 (126, [some (.inr (.inr M)), some (.inl x1), o2, o3, some (.inl x4), some (.inl x5)], [], pe_wI (pe_wI (pe_wI (pe_wI (pe_wI σ (M + 7) x5 0) (M + 8) x5 0) (M + 9) x5 ((-4))) (M + 10) x5 0) (M + 11) x5 0) Φ) : pe_X d 171 (85, [some (.inr (.inr M)), some (.inl x1), o2, o3, some (.inl x4), some (.inl x5)], [], σ) Φ := by
  have hM2 := pm_2 hF
  refine pe_blk 46 25 ck171 [pe_K σ M = 9, pe_K σ (pe_R σ M 7) = 10, 0 ≤ (pe_w x5), (pe_w x5) < pe_L σ (pe_R σ M 7), 2 ≤ (pe_R σ M 7), pe_K σ M = 9, pe_K σ (pe_R σ M 8) = 10, 0 ≤ (pe_w x5), (pe_w x5) < pe_L σ (pe_R σ M 8), 2 ≤ (pe_R σ M 8), pe_K σ M = 9, pe_K σ (pe_R σ M 9) = 10, 0 ≤ (pe_w x5), (pe_w x5) < pe_L σ (pe_R σ M 9), 2 ≤ (pe_R σ M 9), pe_K σ M = 9, pe_K σ (pe_R σ M 10) = 10, 0 ≤ (pe_w x5), (pe_w x5) < pe_L σ (pe_R σ M 10), 2 ≤ (pe_R σ M 10), pe_K σ M = 9, pe_K σ (pe_R σ M 11) = 10, 0 ≤ (pe_w x5), (pe_w x5) < pe_L σ (pe_R σ M 11), 2 ≤ (pe_R σ M 11)] (126, [some (.inr (.inr M)), some (.inl x1), o2, o3, some (.inl x4), some (.inl x5)], [], pe_wI (pe_wI (pe_wI (pe_wI (pe_wI σ (pe_R σ M 7) (pe_w x5) 0) (pe_R σ M 8) (pe_w x5) 0) (pe_R σ M 9) (pe_w x5) ((-4))) (pe_R σ M 10) (pe_w x5) 0) (pe_R σ M 11) (pe_w x5) 0) rfl ?_ ?_
  · first
    | (simp (disch := omega) only [pe_all, pe_wi w0, pm_K10 hF, pm_K11 hF, pm_K7 hF, pm_K8 hF, pm_K9 hF, pm_KM hF, pm_L10 hF, pm_L11 hF, pm_L7 hF, pm_L8 hF, pm_L9 hF, pm_R10 hF, pm_R11 hF, pm_R7 hF, pm_R8 hF, pm_R9 hF]; done)
    | (simp (disch := omega) only [pe_all, pe_wi w0, pm_K10 hF, pm_K11 hF, pm_K7 hF, pm_K8 hF, pm_K9 hF, pm_KM hF, pm_L10 hF, pm_L11 hF, pm_L7 hF, pm_L8 hF, pm_L9 hF, pm_R10 hF, pm_R11 hF, pm_R7 hF, pm_R8 hF, pm_R9 hF]; (repeat' apply And.intro) <;> first | assumption | omega | decide)
  · try simp (disch := omega) only [pe_wi w0, pm_K10 hF, pm_K11 hF, pm_K7 hF, pm_K8 hF, pm_K9 hF, pm_KM hF, pm_L10 hF, pm_L11 hF, pm_L7 hF, pm_L8 hF, pm_L9 hF, pm_R10 hF, pm_R11 hF, pm_R7 hF, pm_R8 hF, pm_R9 hF]
    exact k
set_option maxRecDepth 8000 in
theorem b171_126 {d : Nat} {Φ : Option pe_V → pe_H → Prop} {σ : pe_H} {M : Nat} (hF : pm_F M σ) {x1 : Int} {o2 : Option pe_V} {o3 : Option pe_V} {x4 : Int} {x5 : Int} (w0 : pe_in x5 := by unfold pe_in; omega) (h0 : 0 ≤ x5 := by first | assumption | omega) (h1 : x5 < 8 := by first | assumption | omega) (k : pe_M d 146 [.inr (.inr M), .inl x5, .inl x1] (pe_wI (pe_wI (pe_wI σ (M + 12) x5 ((-4))) (M + 13) x5 ((-1))) (M + 14) x5 0) (fun r σ' => pe_X d 171 (158, [some (.inr (.inr M)), some (.inl x1), o2, o3, some (.inl x4), some (.inl x5)], r.toList ++ [], σ') Φ)) : pe_X d 171 (126, [some (.inr (.inr M)), some (.inl x1), o2, o3, some (.inl x4), some (.inl x5)], [], σ) Φ := by
  have hM2 := pm_2 hF
  refine pe_blk 71 18 ck171 [pe_K σ M = 9, pe_K σ (pe_R σ M 12) = 10, 0 ≤ (pe_w x5), (pe_w x5) < pe_L σ (pe_R σ M 12), 2 ≤ (pe_R σ M 12), pe_K σ M = 9, pe_K σ (pe_R σ M 13) = 10, 0 ≤ (pe_w x5), (pe_w x5) < pe_L σ (pe_R σ M 13), 2 ≤ (pe_R σ M 13), pe_K σ M = 9, pe_K σ (pe_R σ M 14) = 10, 0 ≤ (pe_w x5), (pe_w x5) < pe_L σ (pe_R σ M 14), 2 ≤ (pe_R σ M 14)] (155, [some (.inr (.inr M)), some (.inl x1), o2, o3, some (.inl x4), some (.inl x5)], [.inl x1, .inl x5, .inr (.inr M)], pe_wI (pe_wI (pe_wI σ (pe_R σ M 12) (pe_w x5) ((-4))) (pe_R σ M 13) (pe_w x5) ((-1))) (pe_R σ M 14) (pe_w x5) 0) rfl ?_ ?_
  · first
    | (simp (disch := omega) only [pe_all, pe_wi w0, pm_K12 hF, pm_K13 hF, pm_K14 hF, pm_KM hF, pm_L12 hF, pm_L13 hF, pm_L14 hF, pm_R12 hF, pm_R13 hF, pm_R14 hF]; done)
    | (simp (disch := omega) only [pe_all, pe_wi w0, pm_K12 hF, pm_K13 hF, pm_K14 hF, pm_KM hF, pm_L12 hF, pm_L13 hF, pm_L14 hF, pm_R12 hF, pm_R13 hF, pm_R14 hF]; (repeat' apply And.intro) <;> first | assumption | omega | decide)
  · try simp (disch := omega) only [pe_wi w0, pm_K12 hF, pm_K13 hF, pm_K14 hF, pm_KM hF, pm_L12 hF, pm_L13 hF, pm_L14 hF, pm_R12 hF, pm_R13 hF, pm_R14 hF]
    exact pe_cal 89 ck171 rfl rfl rfl ⟨pm_KM hF, by decide⟩ k
set_option maxRecDepth 8000 in
theorem b171_158 {d : Nat} {Φ : Option pe_V → pe_H → Prop} {σ : pe_H} {M : Nat} (hF : pm_F M σ) {o1 : Option pe_V} {o2 : Option pe_V} {o3 : Option pe_V} {x4 : Int} {o5 : Option pe_V}  (h0 : x4 = 0 ∨ x4 = 1 := by first | assumption | omega) (k : Φ (some (.inl x4)) σ) : pe_X d 171 (158, [some (.inr (.inr M)), o1, o2, o3, some (.inl x4), o5], [], σ) Φ := by
  refine pe_blk 90 1 ck171 [] (160, [some (.inr (.inr M)), o1, o2, o3, some (.inl x4), o5], [.inl x4], σ) rfl ?_ ?_
  · exact trivial
  · exact pe_fine 91 ck171 rfl rfl rfl h0 k
-- here()I
def T172 : List (Nat × Instr × Nat) := [(0, .aload_n 0, 1), (1, .getfield 267, 3), (4, .aload_n 0, 1), (5, .getfield 104, 3), (8, .aload_n 0, 1), (9, .getfield 270, 3), (12, .iaload, 1), (13, .if_icmp .ge 24, 3), (16, .aload_n 0, 1), (17, .getfield 107, 3), (20, .bipush 100, 2), (22, .aload_n 0, 1), (23, .getfield 270, 3), (26, .imul, 1), (27, .aload_n 0, 1), (28, .getfield 267, 3), (31, .iadd, 1), (32, .laload, 1), (33, .l2i, 1), (34, .goto 6, 3), (37, .sipush (-999), 3), (40, .ireturn, 1)]
theorem ck172 : pe_ctx 172 9 false (some .int) 1 T172 := ⟨rfl, rfl, rfl, rfl, by decide +kernel, by decide, by decide⟩
theorem b172_0 {d : Nat} {Φ : Option pe_V → pe_H → Prop} {σ : pe_H} {M : Nat} (hF : pm_F M σ)  (w0 : pe_in (pe_I σ M 38) := by unfold pe_in; omega) (w1 : pe_in (pe_I σ M 39) := by unfold pe_in; omega) (w2 : pe_in (pe_I σ (M + 31) (pe_I σ M 38)) := by unfold pe_in; omega) (h0 : 0 ≤ (pe_I σ M 38) := by first | assumption | omega) (h1 : (pe_I σ M 38) < 8 := by first | assumption | omega) (k1 : (pe_I σ (M + 31) (pe_I σ M 38)) ≤ (pe_I σ M 39) → pe_X d 172 (37, [some (.inr (.inr M))], [], σ) Φ) (k2 : ¬ ((pe_I σ (M + 31) (pe_I σ M 38)) ≤ (pe_I σ M 39)) → pe_X d 172 (16, [some (.inr (.inr M))], [], σ) Φ) : pe_X d 172 (0, [some (.inr (.inr M))], [], σ) Φ := by
  refine pe_blk 0 8 ck172 [pe_K σ M = 9, pe_K σ M = 9, pe_K σ M = 9, pe_K σ (pe_R σ M 35) = 10, 0 ≤ (pe_w (pe_I σ M 38)), (pe_w (pe_I σ M 38)) < pe_L σ (pe_R σ M 35)] (cond (decide ((pe_w (pe_I σ (pe_R σ M 35) (pe_w (pe_I σ M 38)))) ≤ (pe_w (pe_I σ M 39)))) 37 16, [some (.inr (.inr M))], [], σ) rfl ?_ ?_
  · first
    | (simp (disch := omega) only [pe_all, pe_wi w0, pe_wi w1, pe_wi w2, pm_K31 hF, pm_KM hF, pm_L31 hF, pm_R35 hF]; done)
    | (simp (disch := omega) only [pe_all, pe_wi w0, pe_wi w1, pe_wi w2, pm_K31 hF, pm_KM hF, pm_L31 hF, pm_R35 hF]; (repeat' apply And.intro) <;> first | assumption | omega | decide)
  · try simp (disch := omega) only [pe_wi w0, pe_wi w1, pe_wi w2, pm_K31 hF, pm_KM hF, pm_L31 hF, pm_R35 hF]
    exact pe_two k1 k2
theorem b172_16 {d : Nat} {Φ : Option pe_V → pe_H → Prop} {σ : pe_H} {M : Nat} (hF : pm_F M σ)  (w0 : pe_in ((100 * (pe_I σ M 38)) + (pe_I σ M 39)) := by unfold pe_in; omega) (h0 : 0 ≤ ((100 * (pe_I σ M 38)) + (pe_I σ M 39)) := by first | assumption | omega) (h1 : ((100 * (pe_I σ M 38)) + (pe_I σ M 39)) < 800 := by first | assumption | omega) (k : pe_X d 172 (40, [some (.inr (.inr M))], [.inl (pe_I σ (M + 32) ((100 * (pe_I σ M 38)) + (pe_I σ M 39)))], σ) Φ) : pe_X d 172 (16, [some (.inr (.inr M))], [], σ) Φ := by
  refine pe_blk 8 12 ck172 [pe_K σ M = 9, pe_K σ M = 9, pe_K σ M = 9, pe_K σ (pe_R σ M 36) = 11, 0 ≤ (pe_w ((100 * (pe_I σ M 38)) + (pe_I σ M 39))), (pe_w ((100 * (pe_I σ M 38)) + (pe_I σ M 39))) < pe_L σ (pe_R σ M 36)] (40, [some (.inr (.inr M))], [.inl (pe_I σ (pe_R σ M 36) (pe_w ((100 * (pe_I σ M 38)) + (pe_I σ M 39))))], σ) rfl ?_ ?_
  · first
    | (simp (disch := omega) only [pe_all, pe_wi w0, pm_K32 hF, pm_KM hF, pm_L32 hF, pm_R36 hF]; done)
    | (simp (disch := omega) only [pe_all, pe_wi w0, pm_K32 hF, pm_KM hF, pm_L32 hF, pm_R36 hF]; (repeat' apply And.intro) <;> first | assumption | omega | decide)
  · try simp (disch := omega) only [pe_wi w0, pm_K32 hF, pm_KM hF, pm_L32 hF, pm_R36 hF]
    exact k
theorem b172_37 {d : Nat} {Φ : Option pe_V → pe_H → Prop} {σ : pe_H} {M : Nat} (hF : pm_F M σ)    (k : pe_X d 172 (40, [some (.inr (.inr M))], [.inl (-999)], σ) Φ) : pe_X d 172 (37, [some (.inr (.inr M))], [], σ) Φ := by
  refine pe_blk 20 1 ck172 [] (40, [some (.inr (.inr M))], [.inl (-999)], σ) rfl ?_ ?_
  · exact trivial
  · exact k
theorem b172_40 {d : Nat} {Φ : Option pe_V → pe_H → Prop} {σ : pe_H} {M : Nat} (hF : pm_F M σ) {s0 : Int}   (k : Φ (some (.inl s0)) σ) : pe_X d 172 (40, [some (.inr (.inr M))], [.inl s0], σ) Φ := by
  exact pe_fine 21 ck172 rfl rfl rfl trivial k
