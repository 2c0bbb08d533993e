/-! THE LAW, blocks: by program -/
-- StepMachinesLaw.some([III)I
def T146 : List (Nat × Instr × Nat) := [(0, .aload_n 0, 1), (1, .iload_n 1, 1), (2, .invokestatic 40, 3), (5, .ldc 44, 2), (7, .iand, 1), (8, .iload_n 2, 1), (9, .irem, 1), (10, .ireturn, 1)]
theorem ck146 : pe_ctx 146 21 false (some .int) 3 T146 := ⟨rfl, rfl, rfl, rfl, by decide +kernel, by decide, by decide⟩
theorem b146_0 {d : Nat} {Φ : Option pe_V → pe_H → Prop} {σ : pe_H} {a0 : Nat} {x1 : Int} {x2 : Int}    (k : pe_M d 145 [.inr (.inr a0), .inl x1] σ (fun r σ' => pe_X d 146 (5, [some (.inr (.inr a0)), some (.inl x1), some (.inl x2)], r.toList ++ [], σ') Φ)) : pe_X d 146 (0, [some (.inr (.inr a0)), some (.inl x1), some (.inl x2)], [], σ) Φ := by
  refine pe_blk 0 2 ck146 [] (2, [some (.inr (.inr a0)), some (.inl x1), some (.inl x2)], [.inl x1, .inr (.inr a0)], σ) rfl ?_ ?_
  · exact trivial
  · exact pe_cal 2 ck146 rfl rfl rfl trivial k
theorem b146_5 {d : Nat} {Φ : Option pe_V → pe_H → Prop} {σ : pe_H} {o0 : Option pe_V} {o1 : Option pe_V} {x2 : Int} {s0 : Int}  (w0 : pe_in x2 := by unfold pe_in; omega) (w1 : pe_in (pe_and s0 2147483647) := by unfold pe_in; omega) (h0 : ¬ x2 = 0 := by first | assumption | omega) (k : Φ (some (.inl (Int.tmod (pe_and s0 2147483647) x2))) σ) : pe_X d 146 (5, [o0, o1, some (.inl x2)], [.inl s0], σ) Φ := by
  refine pe_blk 3 4 ck146 [¬ (pe_w x2) = 0] (10, [o0, o1, some (.inl x2)], [.inl (Int.tmod (pe_w (pe_and s0 2147483647)) (pe_w x2))], σ) rfl ?_ ?_
  · first
    | (simp (disch := omega) only [pe_all, pe_wi w0, pe_wi w1]; done)
    | (simp (disch := omega) only [pe_all, pe_wi w0, pe_wi w1]; (repeat' apply And.intro) <;> first | assumption | omega | decide)
  · try simp (disch := omega) only [pe_wi w0, pe_wi w1]
    exact pe_fine 7 ck146 rfl rfl rfl trivial k
-- StepMachinesLaw.tell([II)I
def T147 : List (Nat × Instr × Nat) := [(0, .aload_n 0, 1), (1, .getfield 10, 3), (4, .bipush 7, 2), (6, .iconst 0, 1), (7, .iload_n 2, 1), (8, .invokevirtual 45, 3), (11, .ifCond .eq 7, 3), (14, .sipush (-7777), 3), (17, .ireturn, 1), (18, .iconst 0, 1), (19, .istore_n 3, 1), (20, .iload_n 3, 1), (21, .iload_n 2, 1), (22, .if_icmp .ge 29, 3), (25, .aload_n 0, 1), (26, .getfield 10, 3), (29, .bipush 7, 2), (31, .iload_n 3, 1), (32, .aload_n 1, 1), (33, .iload_n 3, 1), (34, .iaload, 1), (35, .invokevirtual 49, 3), (38, .ifCond .eq 7, 3), (41, .sipush (-7777), 3), (44, .ireturn, 1), (45, .iinc 3 1, 3), (48, .goto (-28), 3), (51, .aload_n 0, 1), (52, .getfield 10, 3), (55, .bipush 7, 2), (57, .invokevirtual 52, 3), (60, .ireturn, 1)]
theorem ck147 : pe_ctx 147 21 false (some .int) 4 T147 := ⟨rfl, rfl, rfl, rfl, by decide +kernel, by decide, by decide⟩
theorem b147_0 {d : Nat} {Φ : Option pe_V → pe_H → Prop} {σ : pe_H} {a1 : Nat} {x2 : Int} {o3 : Option pe_V} (hL : ll_L σ := by assumption)   (k : pe_M d 110 [.inr (.inr 4), .inl 7, .inl 0, .inl x2] σ (fun r σ' => pe_X d 147 (11, [some (.inr (.inr 3)), some (.inr (.inr a1)), some (.inl x2), o3], r.toList ++ [], σ') Φ)) : pe_X d 147 (0, [some (.inr (.inr 3)), some (.inr (.inr a1)), some (.inl x2), o3], [], σ) Φ := by
  refine pe_blk 0 5 ck147 [pe_K σ 3 = 21] (8, [some (.inr (.inr 3)), some (.inr (.inr a1)), some (.inl x2), o3], [.inl x2, .inl 0, .inl 7, .inr (.inr (pe_R σ 3 0))], σ) rfl ?_ ?_
  · first
    | (simp (disch := omega) only [pe_all, ll_e0 hL, ll_k3 hL, ll_k4 hL, pe_K_wI, pe_K_wR, pe_R_nej, pe_R_ner, pe_R_wI]; done)
    | (simp (disch := omega) only [pe_all, ll_e0 hL, ll_k3 hL, ll_k4 hL, pe_K_wI, pe_K_wR, pe_R_nej, pe_R_ner, pe_R_wI]; (repeat' apply And.intro) <;> first | assumption | omega | decide)
  · try simp (disch := omega) only [ll_e0 hL, ll_k3 hL, ll_k4 hL, pe_K_wI, pe_K_wR, pe_R_nej, pe_R_ner, pe_R_wI]
    have hrc : pe_K σ 4 = 8 := by first | assumption | (simp (disch := omega) only [ll_e0 hL, ll_k3 hL, ll_k4 hL, pe_K_wI, pe_K_wR, pe_R_nej, pe_R_ner, pe_R_wI]; done) | (simp (disch := omega) only [ll_e0 hL, ll_k3 hL, ll_k4 hL, pe_K_wI, pe_K_wR, pe_R_nej, pe_R_ner, pe_R_wI]; assumption)
    exact pe_cal 5 ck147 rfl rfl rfl ⟨hrc, by decide⟩ k
theorem b147_11 {d : Nat} {Φ : Option pe_V → pe_H → Prop} {σ : pe_H} {a1 : Nat} {x2 : Int} {o3 : Option pe_V} {s0 : Int} (hL : ll_L σ := by assumption) (w0 : pe_in s0 := by unfold pe_in; omega)  (k1 : s0 = 0 → pe_X d 147 (18, [some (.inr (.inr 3)), some (.inr (.inr a1)), some (.inl x2), o3], [], σ) Φ) (k2 : ¬ (s0 = 0) → pe_X d 147 (14, [some (.inr (.inr 3)), some (.inr (.inr a1)), some (.inl x2), o3], [], σ) Φ) : pe_X d 147 (11, [some (.inr (.inr 3)), some (.inr (.inr a1)), some (.inl x2), o3], [.inl s0], σ) Φ := by
  refine pe_blk 6 1 ck147 [] (cond (decide ((pe_w s0) = 0)) 18 14, [some (.inr (.inr 3)), some (.inr (.inr a1)), some (.inl x2), o3], [], σ) rfl ?_ ?_
  · exact trivial
  · try simp (disch := omega) only [pe_wi w0]
    exact pe_two k1 k2
theorem b147_14 {d : Nat} {Φ : Option pe_V → pe_H → Prop} {σ : pe_H} {o1 : Option pe_V} {o2 : Option pe_V} {o3 : Option pe_V} (hL : ll_L σ := by assumption)   (k : Φ (some (.inl (-7777))) σ) : pe_X d 147 (14, [some (.inr (.inr 3)), o1, o2, o3], [], σ) Φ := by
  refine pe_blk 7 1 ck147 [] (17, [some (.inr (.inr 3)), o1, o2, o3], [.inl (-7777)], σ) rfl ?_ ?_
  · exact trivial
  · exact pe_fine 8 ck147 rfl rfl rfl trivial k
theorem b147_18 {d : Nat} {Φ : Option pe_V → pe_H → Prop} {σ : pe_H} {a1 : Nat} {x2 : Int} {o3 : Option pe_V} (hL : ll_L σ := by assumption)   (k : pe_X d 147 (20, [some (.inr (.inr 3)), some (.inr (.inr a1)), some (.inl x2), some (.inl 0)], [], σ) Φ) : pe_X d 147 (18, [some (.inr (.inr 3)), some (.inr (.inr a1)), some (.inl x2), o3], [], σ) Φ := by
  refine pe_blk 9 2 ck147 [] (20, [some (.inr (.inr 3)), some (.inr (.inr a1)), some (.inl x2), some (.inl 0)], [], σ) rfl ?_ ?_
  · exact trivial
  · exact k
theorem b147_20 {d : Nat} {Φ : Option pe_V → pe_H → Prop} {σ : pe_H} {a1 : Nat} {x2 : Int} {x3 : Int} (hL : ll_L σ := by assumption) (w0 : pe_in x2 := by unfold pe_in; omega) (w1 : pe_in x3 := by unfold pe_in; omega)  (k1 : x2 ≤ x3 → pe_X d 147 (51, [some (.inr (.inr 3)), some (.inr (.inr a1)), some (.inl x2), some (.inl x3)], [], σ) Φ) (k2 : ¬ (x2 ≤ x3) → pe_X d 147 (25, [some (.inr (.inr 3)), some (.inr (.inr a1)), some (.inl x2), some (.inl x3)], [], σ) Φ) : pe_X d 147 (20, [some (.inr (.inr 3)), some (.inr (.inr a1)), some (.inl x2), some (.inl x3)], [], σ) Φ := by
  refine pe_blk 11 3 ck147 [] (cond (decide ((pe_w x2) ≤ (pe_w x3))) 51 25, [some (.inr (.inr 3)), some (.inr (.inr a1)), some (.inl x2), some (.inl x3)], [], σ) rfl ?_ ?_
  · exact trivial
  · try simp (disch := omega) only [pe_wi w0, pe_wi w1]
    exact pe_two k1 k2
theorem b147_25 {d : Nat} {Φ : Option pe_V → pe_H → Prop} {σ : pe_H} {a1 : Nat} {x2 : Int} {x3 : Int} (hL : ll_L σ := by assumption) (w0 : pe_in x3 := by unfold pe_in; omega) (h0 : pe_K σ a1 = 10 ∨ pe_K σ a1 = 25 := by first | assumption | omega) (h1 : 0 ≤ x3 := by first | assumption | omega) (h2 : x3 < pe_L σ a1 := by first | assumption | omega) (k : pe_M d 111 [.inr (.inr 4), .inl 7, .inl x3, .inl (pe_I σ a1 x3)] σ (fun r σ' => pe_X d 147 (38, [some (.inr (.inr 3)), some (.inr (.inr a1)), some (.inl x2), some (.inl x3)], r.toList ++ [], σ') Φ)) : pe_X d 147 (25, [some (.inr (.inr 3)), some (.inr (.inr a1)), some (.inl x2), some (.inl x3)], [], σ) Φ := by
  refine pe_blk 14 7 ck147 [pe_K σ 3 = 21, pe_K σ a1 = 10 ∨ pe_K σ a1 = 25, 0 ≤ (pe_w x3), (pe_w x3) < pe_L σ a1] (35, [some (.inr (.inr 3)), some (.inr (.inr a1)), some (.inl x2), some (.inl x3)], [.inl (pe_I σ a1 (pe_w x3)), .inl x3, .inl 7, .inr (.inr (pe_R σ 3 0))], σ) rfl ?_ ?_
  · first
    | (simp (disch := omega) only [pe_all, pe_wi w0, ll_e0 hL, ll_k3 hL, ll_k4 hL, pe_K_wI, pe_K_wR, pe_L_wI, pe_L_wR, pe_R_nej, pe_R_ner, pe_R_wI]; done)
    | (simp (disch := omega) only [pe_all, pe_wi w0, ll_e0 hL, ll_k3 hL, ll_k4 hL, pe_K_wI, pe_K_wR, pe_L_wI, pe_L_wR, pe_R_nej, pe_R_ner, pe_R_wI]; (repeat' apply And.intro) <;> first | assumption | omega | decide)
  · try simp (disch := omega) only [pe_wi w0, ll_e0 hL, ll_k3 hL, ll_k4 hL, pe_K_wI, pe_K_wR, pe_L_wI, pe_L_wR, pe_R_nej, pe_R_ner, pe_R_wI]
    have hrc : pe_K σ 4 = 8 := by first | assumption | (simp (disch := omega) only [pe_wi w0, ll_e0 hL, ll_k3 hL, ll_k4 hL, pe_K_wI, pe_K_wR, pe_L_wI, pe_L_wR, pe_R_nej, pe_R_ner, pe_R_wI]; done) | (simp (disch := omega) only [pe_wi w0, ll_e0 hL, ll_k3 hL, ll_k4 hL, pe_K_wI, pe_K_wR, pe_L_wI, pe_L_wR, pe_R_nej, pe_R_ner, pe_R_wI]; assumption)
    exact pe_cal 21 ck147 rfl rfl rfl ⟨hrc, by decide⟩ k
theorem b147_38 {d : Nat} {Φ : Option pe_V → pe_H → Prop} {σ : pe_H} {a1 : Nat} {x2 : Int} {x3 : Int} {s0 : Int} (hL : ll_L σ := by assumption) (w0 : pe_in s0 := by unfold pe_in; omega)  (k1 : s0 = 0 → pe_X d 147 (45, [some (.inr (.inr 3)), some (.inr (.inr a1)), some (.inl x2), some (.inl x3)], [], σ) Φ) (k2 : ¬ (s0 = 0) → pe_X d 147 (41, [some (.inr (.inr 3)), some (.inr (.inr a1)), some (.inl x2), some (.inl x3)], [], σ) Φ) : pe_X d 147 (38, [some (.inr (.inr 3)), some (.inr (.inr a1)), some (.inl x2), some (.inl x3)], [.inl s0], σ) Φ := by
  refine pe_blk 22 1 ck147 [] (cond (decide ((pe_w s0) = 0)) 45 41, [some (.inr (.inr 3)), some (.inr (.inr a1)), some (.inl x2), some (.inl x3)], [], σ) rfl ?_ ?_
  · exact trivial
  · try simp (disch := omega) only [pe_wi w0]
    exact pe_two k1 k2
theorem b147_41 {d : Nat} {Φ : Option pe_V → pe_H → Prop} {σ : pe_H} {o1 : Option pe_V} {o2 : Option pe_V} {o3 : Option pe_V} (hL : ll_L σ := by assumption)   (k : Φ (some (.inl (-7777))) σ) : pe_X d 147 (41, [some (.inr (.inr 3)), o1, o2, o3], [], σ) Φ := by
  refine pe_blk 23 1 ck147 [] (44, [some (.inr (.inr 3)), o1, o2, o3], [.inl (-7777)], σ) rfl ?_ ?_
  · exact trivial
  · exact pe_fine 24 ck147 rfl rfl rfl trivial k
theorem b147_45 {d : Nat} {Φ : Option pe_V → pe_H → Prop} {σ : pe_H} {a1 : Nat} {x2 : Int} {x3 : Int} (hL : ll_L σ := by assumption)   (k : pe_X d 147 (20, [some (.inr (.inr 3)), some (.inr (.inr a1)), some (.inl x2), some (.inl (x3 + 1))], [], σ) Φ) : pe_X d 147 (45, [some (.inr (.inr 3)), some (.inr (.inr a1)), some (.inl x2), some (.inl x3)], [], σ) Φ := by
  refine pe_blk 25 2 ck147 [] (20, [some (.inr (.inr 3)), some (.inr (.inr a1)), some (.inl x2), some (.inl (x3 + 1))], [], σ) rfl ?_ ?_
  · exact trivial
  · exact k
theorem b147_51 {d : Nat} {Φ : Option pe_V → pe_H → Prop} {σ : pe_H} {o1 : Option pe_V} {o2 : Option pe_V} {o3 : Option pe_V} (hL : ll_L σ := by assumption)   (k : pe_M d 80 [.inr (.inr 4), .inl 7] σ (fun r σ' => pe_X d 147 (60, [some (.inr (.inr 3)), o1, o2, o3], r.toList ++ [], σ') Φ)) : pe_X d 147 (51, [some (.inr (.inr 3)), o1, o2, o3], [], σ) Φ := by
  refine pe_blk 27 3 ck147 [pe_K σ 3 = 21] (57, [some (.inr (.inr 3)), o1, o2, o3], [.inl 7, .inr (.inr (pe_R σ 3 0))], σ) rfl ?_ ?_
  · first
    | (simp (disch := omega) only [pe_all, ll_e0 hL, ll_k3 hL, ll_k4 hL, pe_K_wI, pe_K_wR, pe_R_nej, pe_R_ner, pe_R_wI]; done)
    | (simp (disch := omega) only [pe_all, ll_e0 hL, ll_k3 hL, ll_k4 hL, pe_K_wI, pe_K_wR, pe_R_nej, pe_R_ner, pe_R_wI]; (repeat' apply And.intro) <;> first | assumption | omega | decide)
  · try simp (disch := omega) only [ll_e0 hL, ll_k3 hL, ll_k4 hL, pe_K_wI, pe_K_wR, pe_R_nej, pe_R_ner, pe_R_wI]
    have hrc : pe_K σ 4 = 8 := by first | assumption | (simp (disch := omega) only [ll_e0 hL, ll_k3 hL, ll_k4 hL, pe_K_wI, pe_K_wR, pe_R_nej, pe_R_ner, pe_R_wI]; done) | (simp (disch := omega) only [ll_e0 hL, ll_k3 hL, ll_k4 hL, pe_K_wI, pe_K_wR, pe_R_nej, pe_R_ner, pe_R_wI]; assumption)
    exact pe_cal 30 ck147 rfl rfl rfl ⟨hrc, by decide⟩ k
theorem b147_60 {d : Nat} {Φ : Option pe_V → pe_H → Prop} {σ : pe_H} {o1 : Option pe_V} {o2 : Option pe_V} {o3 : Option pe_V} {s0 : Int} (hL : ll_L σ := by assumption)   (k : Φ (some (.inl s0)) σ) : pe_X d 147 (60, [some (.inr (.inr 3)), o1, o2, o3], [.inl s0], σ) Φ := by
  exact pe_fine 31 ck147 rfl rfl rfl trivial k
-- StepMachinesLaw.bit(II)Z
def T148 : List (Nat × Instr × Nat) := [(0, .iload_n 0, 1), (1, .iload_n 1, 1), (2, .ishr, 1), (3, .iconst 1, 1), (4, .iand, 1), (5, .iconst 1, 1), (6, .if_icmp .ne 7, 3), (9, .iconst 1, 1), (10, .goto 4, 3), (13, .iconst 0, 1), (14, .ireturn, 1)]
theorem ck148 : pe_ctx 148 21 false (some .boolean) 2 T148 := ⟨rfl, rfl, rfl, rfl, by decide +kernel, by decide, by decide⟩
theorem b148_0 {d : Nat} {Φ : Option pe_V → pe_H → Prop} {σ : pe_H} {x0 : Int} {x1 : Int}  (w0 : pe_in (pe_and (pe_shr x0 x1) 1) := by unfold pe_in; omega)  (k1 : ¬ (pe_and (pe_shr x0 x1) 1) = 1 → pe_X d 148 (13, [some (.inl x0), some (.inl x1)], [], σ) Φ) (k2 : (pe_and (pe_shr x0 x1) 1) = 1 → pe_X d 148 (9, [some (.inl x0), some (.inl x1)], [], σ) Φ) : pe_X d 148 (0, [some (.inl x0), some (.inl x1)], [], σ) Φ := by
  refine pe_blk 0 7 ck148 [] (cond (decide (¬ (pe_w (pe_and (pe_shr x0 x1) 1)) = (pe_w 1))) 13 9, [some (.inl x0), some (.inl x1)], [], σ) rfl ?_ ?_
  · exact trivial
  · try simp (disch := omega) only [pe_wi w0, pe_wi (x := 1) ⟨by decide, by decide⟩]
    exact pe_two' k1 k2
theorem b148_9 {d : Nat} {Φ : Option pe_V → pe_H → Prop} {σ : pe_H} {o0 : Option pe_V} {o1 : Option pe_V}    (k : pe_X d 148 (14, [o0, o1], [.inl 1], σ) Φ) : pe_X d 148 (9, [o0, o1], [], σ) Φ := by
  refine pe_blk 7 2 ck148 [] (14, [o0, o1], [.inl 1], σ) rfl ?_ ?_
  · exact trivial
  · exact k
theorem b148_13 {d : Nat} {Φ : Option pe_V → pe_H → Prop} {σ : pe_H} {o0 : Option pe_V} {o1 : Option pe_V}    (k : pe_X d 148 (14, [o0, o1], [.inl 0], σ) Φ) : pe_X d 148 (13, [o0, o1], [], σ) Φ := by
  refine pe_blk 9 1 ck148 [] (14, [o0, o1], [.inl 0], σ) rfl ?_ ?_
  · exact trivial
  · exact k
theorem b148_14 {d : Nat} {Φ : Option pe_V → pe_H → Prop} {σ : pe_H} {o0 : Option pe_V} {o1 : Option pe_V} {s0 : Int}   (h0 : s0 = 0 ∨ s0 = 1 := by first | assumption | omega) (k : Φ (some (.inl s0)) σ) : pe_X d 148 (14, [o0, o1], [.inl s0], σ) Φ := by
  exact pe_fine 10 ck148 rfl rfl rfl h0 k
-- StepMachinesLaw.bits(I)I
def T149 : List (Nat × Instr × Nat) := [(0, .iconst 0, 1), (1, .istore_n 1, 1), (2, .iconst 0, 1), (3, .istore_n 2, 1), (4, .iload_n 2, 1), (5, .bipush 16, 2), (7, .if_icmp .ge 17, 3), (10, .iload_n 1, 1), (11, .iload_n 0, 1), (12, .iload_n 2, 1), (13, .ishr, 1), (14, .iconst 1, 1), (15, .iand, 1), (16, .iadd, 1), (17, .istore_n 1, 1), (18, .iinc 2 1, 3), (21, .goto (-17), 3), (24, .iload_n 1, 1), (25, .ireturn, 1)]
theorem ck149 : pe_ctx 149 21 false (some .int) 3 T149 := ⟨rfl, rfl, rfl, rfl, by decide +kernel, by decide, by decide⟩
theorem b149_0 {d : Nat} {Φ : Option pe_V → pe_H → Prop} {σ : pe_H} {x0 : Int} {o1 : Option pe_V} {o2 : Option pe_V}    (k : pe_X d 149 (4, [some (.inl x0), some (.inl 0), some (.inl 0)], [], σ) Φ) : pe_X d 149 (0, [some (.inl x0), o1, o2], [], σ) Φ := by
  refine pe_blk 0 4 ck149 [] (4, [some (.inl x0), some (.inl 0), some (.inl 0)], [], σ) rfl ?_ ?_
  · exact trivial
  · exact k
theorem b149_4 {d : Nat} {Φ : Option pe_V → pe_H → Prop} {σ : pe_H} {x0 : Int} {x1 : Int} {x2 : Int}  (w0 : pe_in x2 := by unfold pe_in; omega)  (k1 : 16 ≤ x2 → pe_X d 149 (24, [some (.inl x0), some (.inl x1), some (.inl x2)], [], σ) Φ) (k2 : ¬ (16 ≤ x2) → pe_X d 149 (10, [some (.inl x0), some (.inl x1), some (.inl x2)], [], σ) Φ) : pe_X d 149 (4, [some (.inl x0), some (.inl x1), some (.inl x2)], [], σ) Φ := by
  refine pe_blk 4 3 ck149 [] (cond (decide ((pe_w 16) ≤ (pe_w x2))) 24 10, [some (.inl x0), some (.inl x1), some (.inl x2)], [], σ) rfl ?_ ?_
  · exact trivial
  · try simp (disch := omega) only [pe_wi w0, pe_wi (x := 16) ⟨by decide, by decide⟩]
    exact pe_two k1 k2
theorem b149_10 {d : Nat} {Φ : Option pe_V → pe_H → Prop} {σ : pe_H} {x0 : Int} {x1 : Int} {x2 : Int}    (k : pe_X d 149 (4, [some (.inl x0), some (.inl (x1 + (pe_and (pe_shr x0 x2) 1))), some (.inl (x2 + 1))], [], σ) Φ) : pe_X d 149 (10, [some (.inl x0), some (.inl x1), some (.inl x2)], [], σ) Φ := by
  refine pe_blk 7 10 ck149 [] (4, [some (.inl x0), some (.inl (x1 + (pe_and (pe_shr x0 x2) 1))), some (.inl (x2 + 1))], [], σ) rfl ?_ ?_
  · exact trivial
  · exact k
theorem b149_24 {d : Nat} {Φ : Option pe_V → pe_H → Prop} {σ : pe_H} {o0 : Option pe_V} {x1 : Int} {o2 : Option pe_V}    (k : Φ (some (.inl x1)) σ) : pe_X d 149 (24, [o0, some (.inl x1), o2], [], σ) Φ := by
  refine pe_blk 17 1 ck149 [] (25, [o0, some (.inl x1), o2], [.inl x1], σ) rfl ?_ ?_
  · exact trivial
  · exact pe_fine 18 ck149 rfl rfl rfl trivial k
-- StepMachinesLaw.frame(I)LStepMachinesLaw$Frame;
def T150 : List (Nat × Instr × Nat) := [(0, .new 56, 3), (3, .dup, 1), (4, .iload_n 1, 1), (5, .aload_n 0, 1), (6, .getfield 18, 3), (9, .iload_n 1, 1), (10, .aaload, 1), (11, .aload_n 0, 1), (12, .getfield 22, 3), (15, .iload_n 1, 1), (16, .aaload, 1), (17, .invokespecial 58, 3), (20, .areturn, 1)]
theorem ck150 : pe_ctx 150 21 false (some (.object "StepMachinesLaw$Frame")) 2 T150 := ⟨rfl, rfl, rfl, rfl, by decide +kernel, by decide, by decide⟩
theorem b150_0 {d : Nat} {Φ : Option pe_V → pe_H → Prop} {σ : pe_H} {x1 : Int} (hL : ll_L σ := by assumption) (w0 : pe_in x1 := by unfold pe_in; omega) (h0 : 0 ≤ x1 := by first | assumption | omega) (h1 : x1 < 5 := by first | assumption | omega) (h2 : ¬ (pe_n σ) = 0 := by first | assumption | omega) (k : pe_M d 133 [.inr (.inr (pe_n σ)), .inl x1, .inr (.inr (pe_R σ 879 x1)), .inr (.inr (pe_R σ 885 x1))] (pe_new σ 19 0 8) (fun r σ' => pe_X d 150 (20, [some (.inr (.inr 3)), some (.inl x1)], r.toList ++ [.inr (.inr (pe_n σ))], σ') Φ)) : pe_X d 150 (0, [some (.inr (.inr 3)), some (.inl x1)], [], σ) Φ := by
  refine pe_blk 0 11 ck150 [pe_K (pe_new σ 19 0 8) 3 = 21, 22 ≤ pe_K (pe_new σ 19 0 8) (pe_R (pe_new σ 19 0 8) 3 1) ∧ pe_K (pe_new σ 19 0 8) (pe_R (pe_new σ 19 0 8) 3 1) < 25, 0 ≤ (pe_w x1), (pe_w x1) < pe_L (pe_new σ 19 0 8) (pe_R (pe_new σ 19 0 8) 3 1), pe_K (pe_new σ 19 0 8) 3 = 21, 22 ≤ pe_K (pe_new σ 19 0 8) (pe_R (pe_new σ 19 0 8) 3 2) ∧ pe_K (pe_new σ 19 0 8) (pe_R (pe_new σ 19 0 8) 3 2) < 25, 0 ≤ (pe_w x1), (pe_w x1) < pe_L (pe_new σ 19 0 8) (pe_R (pe_new σ 19 0 8) 3 2)] (17, [some (.inr (.inr 3)), some (.inl x1)], [.inr (.inr (pe_R (pe_new σ 19 0 8) (pe_R (pe_new σ 19 0 8) 3 2) (pe_w x1))), .inr (.inr (pe_R (pe_new σ 19 0 8) (pe_R (pe_new σ 19 0 8) 3 1) (pe_w x1))), .inl x1, .inr (.inr (pe_n σ)), .inr (.inr (pe_n σ))], pe_new σ 19 0 8) rfl ?_ ?_
  · first
    | (simp (disch := omega) only [pe_all, pe_wi w0, ll_e1 hL, ll_e2 hL, ll_k3 hL, ll_k879 hL, ll_k885 hL, ll_n879 hL, ll_n885 hL, ll_nI hL, ll_nK hL, ll_nN hL, ll_nR hL, pe_K_wI, pe_K_wR, pe_L_wI, pe_L_wR, pe_R_nej, pe_R_ner, pe_R_wI]; done)
    | (simp (disch := omega) only [pe_all, pe_wi w0, ll_e1 hL, ll_e2 hL, ll_k3 hL, ll_k879 hL, ll_k885 hL, ll_n879 hL, ll_n885 hL, ll_nI hL, ll_nK hL, ll_nN hL, ll_nR hL, pe_K_wI, pe_K_wR, pe_L_wI, pe_L_wR, pe_R_nej, pe_R_ner, pe_R_wI]; (repeat' apply And.intro) <;> first | assumption | omega | decide)
  · try simp (disch := omega) only [pe_wi w0, ll_e1 hL, ll_e2 hL, ll_k3 hL, ll_k879 hL, ll_k885 hL, ll_n879 hL, ll_n885 hL, ll_nI hL, ll_nK hL, ll_nN hL, ll_nR hL, pe_K_wI, pe_K_wR, pe_L_wI, pe_L_wR, pe_R_nej, pe_R_ner, pe_R_wI]
    exact pe_cal 11 ck150 rfl rfl rfl (show ¬ _ = 0 by assumption) k
theorem b150_20 {d : Nat} {Φ : Option pe_V → pe_H → Prop} {σ : pe_H} {o1 : Option pe_V} {b0 : Nat} (hL : ll_L σ := by assumption)   (k : Φ (some (.inr (.inr b0))) σ) : pe_X d 150 (20, [some (.inr (.inr 3)), o1], [.inr (.inr b0)], σ) Φ := by
  exact pe_fine 12 ck150 rfl rfl rfl trivial k
-- StepMachinesLaw.queue(II)V
def T151 : List (Nat × Instr × Nat) := [(0, .aload_n 0, 1), (1, .getfield 36, 3), (4, .iload_n 1, 1), (5, .aaload, 1), (6, .arraylength, 1), (7, .iconst 1, 1), (8, .iadd, 1), (9, .newarray .int, 2), (11, .astore_n 3, 1), (12, .aload_n 0, 1), (13, .getfield 36, 3), (16, .iload_n 1, 1), (17, .aaload, 1), (18, .iconst 0, 1), (19, .aload_n 3, 1), (20, .iconst 0, 1), (21, .aload_n 0, 1), (22, .getfield 36, 3), (25, .iload_n 1, 1), (26, .aaload, 1), (27, .arraylength, 1), (28, .invokestatic 61, 3), (31, .aload_n 3, 1), (32, .aload_n 0, 1), (33, .getfield 36, 3), (36, .iload_n 1, 1), (37, .aaload, 1), (38, .arraylength, 1), (39, .iload_n 2, 1), (40, .iastore, 1), (41, .aload_n 0, 1), (42, .getfield 36, 3), (45, .iload_n 1, 1), (46, .aload_n 3, 1), (47, .aastore, 1), (48, .aload_n 0, 1), (49, .getfield 31, 3), (52, .iload_n 2, 1), (53, .aaload, 1), (54, .iload_n 1, 1), (55, .iconst 3, 1), (56, .if_icmp .ge 7, 3), (59, .iconst 3, 1), (60, .goto 4, 3), (63, .iconst 4, 1), (64, .putfield 67, 3), (67, .aload_n 0, 1), (68, .getfield 31, 3), (71, .iload_n 2, 1), (72, .aaload, 1), (73, .iload_n 1, 1), (74, .iconst 3, 1), (75, .irem, 1), (76, .putfield 70, 3), (79, .return_, 1)]
theorem ck151 : pe_ctx 151 21 false none 4 T151 := ⟨rfl, rfl, rfl, rfl, by decide +kernel, by decide, by decide⟩
theorem b151_0 {d : Nat} {Φ : Option pe_V → pe_H → Prop} {σ : pe_H} {x1 : Int} {x2 : Int} {o3 : Option pe_V} (hL : ll_L σ := by assumption) (w0 : pe_in x1 := by unfold pe_in; omega) (w1 : pe_in ((pe_L σ (pe_R σ 892 x1)) + 1) := by unfold pe_in; omega) (h0 : 0 ≤ x1 := by first | assumption | omega) (h1 : x1 < 6 := by first | assumption | omega) (h2 : pe_K σ (pe_R σ 892 x1) = 10 ∨ (22 ≤ pe_K σ (pe_R σ 892 x1) ∧ pe_K σ (pe_R σ 892 x1) < 26) := by first | assumption | omega) (h3 : 0 ≤ ((pe_L σ (pe_R σ 892 x1)) + 1) := by first | assumption | omega) (h4 : ((pe_L σ (pe_R σ 892 x1)) + 1) ≤ 10000 := by first | assumption | omega) (k : pe_X d 151 (12, [some (.inr (.inr 3)), some (.inl x1), some (.inl x2), some (.inr (.inr (pe_n σ)))], [], pe_new σ 10 ((pe_L σ (pe_R σ 892 x1)) + 1) (((pe_L σ (pe_R σ 892 x1)) + 1 : Int).toNat)) Φ) : pe_X d 151 (0, [some (.inr (.inr 3)), some (.inl x1), some (.inl x2), o3], [], σ) Φ := by
  refine pe_blk 0 9 ck151 [pe_K σ 3 = 21, 22 ≤ pe_K σ (pe_R σ 3 7) ∧ pe_K σ (pe_R σ 3 7) < 25, 0 ≤ (pe_w x1), (pe_w x1) < pe_L σ (pe_R σ 3 7), pe_K σ (pe_R σ (pe_R σ 3 7) (pe_w x1)) = 10 ∨ (22 ≤ pe_K σ (pe_R σ (pe_R σ 3 7) (pe_w x1)) ∧ pe_K σ (pe_R σ (pe_R σ 3 7) (pe_w x1)) < 26), 0 ≤ (pe_w ((pe_L σ (pe_R σ (pe_R σ 3 7) (pe_w x1))) + 1)), (pe_w ((pe_L σ (pe_R σ (pe_R σ 3 7) (pe_w x1))) + 1)) ≤ 10000] (12, [some (.inr (.inr 3)), some (.inl x1), some (.inl x2), some (.inr (.inr (pe_n σ)))], [], pe_new σ 10 (pe_w ((pe_L σ (pe_R σ (pe_R σ 3 7) (pe_w x1))) + 1)) ((pe_w ((pe_L σ (pe_R σ (pe_R σ 3 7) (pe_w x1))) + 1)).toNat)) rfl ?_ ?_
  · first
    | (simp (disch := omega) only [pe_all, pe_wi w0, pe_wi w1, ll_e7 hL, ll_k3 hL, ll_k892 hL, ll_n892 hL, pe_K_wI, pe_K_wR, pe_L_wI, pe_L_wR, pe_R_nej, pe_R_ner, pe_R_wI]; done)
    | (simp (disch := omega) only [pe_all, pe_wi w0, pe_wi w1, ll_e7 hL, ll_k3 hL, ll_k892 hL, ll_n892 hL, pe_K_wI, pe_K_wR, pe_L_wI, pe_L_wR, pe_R_nej, pe_R_ner, pe_R_wI]; (repeat' apply And.intro) <;> first | assumption | omega | decide)
  · try simp (disch := omega) only [pe_wi w0, pe_wi w1, ll_e7 hL, ll_k3 hL, ll_k892 hL, ll_n892 hL, pe_K_wI, pe_K_wR, pe_L_wI, pe_L_wR, pe_R_nej, pe_R_ner, pe_R_wI]
    exact k
theorem b151_12 {d : Nat} {Φ : Option pe_V → pe_H → Prop} {σ : pe_H} {x1 : Int} {x2 : Int} {a3 : Nat} (hL : ll_L σ := by assumption) (w0 : pe_in x1 := by unfold pe_in; omega) (w1 : pe_in (pe_L σ (pe_R σ 892 x1)) := by unfold pe_in; omega) (h0 : 0 ≤ x1 := by first | assumption | omega) (h1 : x1 < 6 := by first | assumption | omega) (h2 : pe_K σ (pe_R σ 892 x1) = 10 ∨ (22 ≤ pe_K σ (pe_R σ 892 x1) ∧ pe_K σ (pe_R σ 892 x1) < 26) := by first | assumption | omega) (h3 : pe_K σ (pe_R σ 892 x1) = 10 := by first | assumption | omega) (h4 : pe_K σ a3 = 10 := by first | assumption | omega) (h5 : 2 ≤ a3 := by first | assumption | omega) (h6 : 0 ≤ (pe_L σ (pe_R σ 892 x1)) := by first | assumption | omega) (h7 : 0 + (pe_L σ (pe_R σ 892 x1)) ≤ pe_L σ (pe_R σ 892 x1) := by first | assumption | omega) (h8 : 0 + (pe_L σ (pe_R σ 892 x1)) ≤ pe_L σ a3 := by first | assumption | omega) (k : pe_X d 151 (31, [some (.inr (.inr 3)), some (.inl x1), some (.inl x2), some (.inr (.inr a3))], [], pe_cpy σ (pe_R σ 892 x1) 0 a3 0 (pe_L σ (pe_R σ 892 x1))) Φ) : pe_X d 151 (12, [some (.inr (.inr 3)), some (.inl x1), some (.inl x2), some (.inr (.inr a3))], [], σ) Φ := by
  refine pe_blk 9 13 ck151 [pe_K σ 3 = 21, 22 ≤ pe_K σ (pe_R σ 3 7) ∧ pe_K σ (pe_R σ 3 7) < 25, 0 ≤ (pe_w x1), (pe_w x1) < pe_L σ (pe_R σ 3 7), pe_K σ 3 = 21, 22 ≤ pe_K σ (pe_R σ 3 7) ∧ pe_K σ (pe_R σ 3 7) < 25, 0 ≤ (pe_w x1), (pe_w x1) < pe_L σ (pe_R σ 3 7), pe_K σ (pe_R σ (pe_R σ 3 7) (pe_w x1)) = 10 ∨ (22 ≤ pe_K σ (pe_R σ (pe_R σ 3 7) (pe_w x1)) ∧ pe_K σ (pe_R σ (pe_R σ 3 7) (pe_w x1)) < 26), pe_K σ (pe_R σ (pe_R σ 3 7) (pe_w x1)) = 10, pe_K σ a3 = 10, 2 ≤ a3, 0 ≤ (pe_w 0), 0 ≤ (pe_w 0), 0 ≤ (pe_w (pe_L σ (pe_R σ (pe_R σ 3 7) (pe_w x1)))), (pe_w 0) + (pe_w (pe_L σ (pe_R σ (pe_R σ 3 7) (pe_w x1)))) ≤ pe_L σ (pe_R σ (pe_R σ 3 7) (pe_w x1)), (pe_w 0) + (pe_w (pe_L σ (pe_R σ (pe_R σ 3 7) (pe_w x1)))) ≤ pe_L σ a3] (31, [some (.inr (.inr 3)), some (.inl x1), some (.inl x2), some (.inr (.inr a3))], [], pe_cpy σ (pe_R σ (pe_R σ 3 7) (pe_w x1)) (pe_w 0) a3 (pe_w 0) (pe_w (pe_L σ (pe_R σ (pe_R σ 3 7) (pe_w x1))))) rfl ?_ ?_
  · first
    | (simp (disch := omega) only [pe_all, pe_wi w0, pe_wi w1, pe_wi (x := 0) ⟨by decide, by decide⟩, ll_e7 hL, ll_k3 hL, ll_k892 hL, ll_n892 hL, pe_K_wI, pe_K_wR, pe_L_wI, pe_L_wR, pe_R_nej, pe_R_ner, pe_R_wI]; done)
    | (simp (disch := omega) only [pe_all, pe_wi w0, pe_wi w1, pe_wi (x := 0) ⟨by decide, by decide⟩, ll_e7 hL, ll_k3 hL, ll_k892 hL, ll_n892 hL, pe_K_wI, pe_K_wR, pe_L_wI, pe_L_wR, pe_R_nej, pe_R_ner, pe_R_wI]; (repeat' apply And.intro) <;> first | assumption | omega | decide)
  · try simp (disch := omega) only [pe_wi w0, pe_wi w1, pe_wi (x := 0) ⟨by decide, by decide⟩, ll_e7 hL, ll_k3 hL, ll_k892 hL, ll_n892 hL, pe_K_wI, pe_K_wR, pe_L_wI, pe_L_wR, pe_R_nej, pe_R_ner, pe_R_wI]
    exact k
theorem b151_31 {d : Nat} {Φ : Option pe_V → pe_H → Prop} {σ : pe_H} {x1 : Int} {x2 : Int} {a3 : Nat} (hL : ll_L σ := by assumption) (w0 : pe_in x1 := by unfold pe_in; omega) (w1 : pe_in (pe_L σ (pe_R σ 892 x1)) := by unfold pe_in; omega) (h0 : 0 ≤ x1 := by first | assumption | omega) (h1 : x1 < 6 := by first | assumption | omega) (h2 : pe_K σ (pe_R σ 892 x1) = 10 ∨ (22 ≤ pe_K σ (pe_R σ 892 x1) ∧ pe_K σ (pe_R σ 892 x1) < 26) := by first | assumption | omega) (h3 : pe_K σ a3 = 10 := by first | assumption | omega) (h4 : 0 ≤ (pe_L σ (pe_R σ 892 x1)) := by first | assumption | omega) (h5 : (pe_L σ (pe_R σ 892 x1)) < pe_L σ a3 := by first | assumption | omega) (h6 : 2 ≤ a3 := by first | assumption | omega) (k : pe_X d 151 (41, [some (.inr (.inr 3)), some (.inl x1), some (.inl x2), some (.inr (.inr a3))], [], pe_wI σ a3 (pe_L σ (pe_R σ 892 x1)) x2) Φ) : pe_X d 151 (31, [some (.inr (.inr 3)), some (.inl x1), some (.inl x2), some (.inr (.inr a3))], [], σ) Φ := by
  refine pe_blk 22 8 ck151 [pe_K σ 3 = 21, 22 ≤ pe_K σ (pe_R σ 3 7) ∧ pe_K σ (pe_R σ 3 7) < 25, 0 ≤ (pe_w x1), (pe_w x1) < pe_L σ (pe_R σ 3 7), pe_K σ (pe_R σ (pe_R σ 3 7) (pe_w x1)) = 10 ∨ (22 ≤ pe_K σ (pe_R σ (pe_R σ 3 7) (pe_w x1)) ∧ pe_K σ (pe_R σ (pe_R σ 3 7) (pe_w x1)) < 26), pe_K σ a3 = 10, 0 ≤ (pe_w (pe_L σ (pe_R σ (pe_R σ 3 7) (pe_w x1)))), (pe_w (pe_L σ (pe_R σ (pe_R σ 3 7) (pe_w x1)))) < pe_L σ a3, 2 ≤ a3] (41, [some (.inr (.inr 3)), some (.inl x1), some (.inl x2), some (.inr (.inr a3))], [], pe_wI σ a3 (pe_w (pe_L σ (pe_R σ (pe_R σ 3 7) (pe_w x1)))) x2) rfl ?_ ?_
  · first
    | (simp (disch := omega) only [pe_all, pe_wi w0, pe_wi w1, ll_e7 hL, ll_k3 hL, ll_k892 hL, ll_n892 hL, pe_K_wI, pe_K_wR, pe_L_wI, pe_L_wR, pe_R_nej, pe_R_ner, pe_R_wI]; done)
    | (simp (disch := omega) only [pe_all, pe_wi w0, pe_wi w1, ll_e7 hL, ll_k3 hL, ll_k892 hL, ll_n892 hL, pe_K_wI, pe_K_wR, pe_L_wI, pe_L_wR, pe_R_nej, pe_R_ner, pe_R_wI]; (repeat' apply And.intro) <;> first | assumption | omega | decide)
  · try simp (disch := omega) only [pe_wi w0, pe_wi w1, ll_e7 hL, ll_k3 hL, ll_k892 hL, ll_n892 hL, pe_K_wI, pe_K_wR, pe_L_wI, pe_L_wR, pe_R_nej, pe_R_ner, pe_R_wI]
    exact k
theorem b151_41 {d : Nat} {Φ : Option pe_V → pe_H → Prop} {σ : pe_H} {x1 : Int} {x2 : Int} {a3 : Nat} (hL : ll_L σ := by assumption) (w0 : pe_in x1 := by unfold pe_in; omega) (h0 : a3 = 0 ∨ (3 ≤ a3 ∧ pe_K σ a3 = 10) := by first | assumption | omega) (h1 : 0 ≤ x1 := by first | assumption | omega) (h2 : x1 < 6 := by first | assumption | omega) (k : pe_X d 151 (48, [some (.inr (.inr 3)), some (.inl x1), some (.inl x2), some (.inr (.inr a3))], [], pe_wR σ 892 x1 a3) Φ) : pe_X d 151 (41, [some (.inr (.inr 3)), some (.inl x1), some (.inl x2), some (.inr (.inr a3))], [], σ) Φ := by
  refine pe_blk 30 5 ck151 [pe_K σ 3 = 21, 22 ≤ pe_K σ (pe_R σ 3 7) ∧ pe_K σ (pe_R σ 3 7) < 25, a3 = 0 ∨ (3 ≤ a3 ∧ pe_K σ a3 = pe_ek (pe_K σ (pe_R σ 3 7))), 0 ≤ (pe_w x1), (pe_w x1) < pe_L σ (pe_R σ 3 7), 3 ≤ (pe_R σ 3 7)] (48, [some (.inr (.inr 3)), some (.inl x1), some (.inl x2), some (.inr (.inr a3))], [], pe_wR σ (pe_R σ 3 7) (pe_w x1) a3) rfl ?_ ?_
  · first
    | (simp (disch := omega) only [pe_all, pe_wi w0, ll_e7 hL, ll_ek23, ll_ek24, ll_k3 hL, ll_k892 hL, ll_n892 hL, pe_K_wI, pe_K_wR, pe_L_wI, pe_L_wR, pe_R_nej, pe_R_ner, pe_R_wI]; done)
    | (simp (disch := omega) only [pe_all, pe_wi w0, ll_e7 hL, ll_ek23, ll_ek24, ll_k3 hL, ll_k892 hL, ll_n892 hL, pe_K_wI, pe_K_wR, pe_L_wI, pe_L_wR, pe_R_nej, pe_R_ner, pe_R_wI]; (repeat' apply And.intro) <;> first | assumption | omega | decide)
  · try simp (disch := omega) only [pe_wi w0, ll_e7 hL, ll_ek23, ll_ek24, ll_k3 hL, ll_k892 hL, ll_n892 hL, pe_K_wI, pe_K_wR, pe_L_wI, pe_L_wR, pe_R_nej, pe_R_ner, pe_R_wI]
    exact k
theorem b151_48 {d : Nat} {Φ : Option pe_V → pe_H → Prop} {σ : pe_H} {x1 : Int} {x2 : Int} {o3 : Option pe_V} (hL : ll_L σ := by assumption) (w0 : pe_in x2 := by unfold pe_in; omega) (w1 : pe_in x1 := by unfold pe_in; omega) (h0 : 0 ≤ x2 := by first | assumption | omega) (h1 : x2 < 8 := by first | assumption | omega) (k1 : 3 ≤ x1 → pe_X d 151 (63, [some (.inr (.inr 3)), some (.inl x1), some (.inl x2), o3], [.inr (.inr (pe_R σ 891 x2))], σ) Φ) (k2 : ¬ (3 ≤ x1) → pe_X d 151 (59, [some (.inr (.inr 3)), some (.inl x1), some (.inl x2), o3], [.inr (.inr (pe_R σ 891 x2))], σ) Φ) : pe_X d 151 (48, [some (.inr (.inr 3)), some (.inl x1), some (.inl x2), o3], [], σ) Φ := by
  refine pe_blk 35 7 ck151 [pe_K σ 3 = 21, 22 ≤ pe_K σ (pe_R σ 3 6) ∧ pe_K σ (pe_R σ 3 6) < 25, 0 ≤ (pe_w x2), (pe_w x2) < pe_L σ (pe_R σ 3 6)] (cond (decide ((pe_w 3) ≤ (pe_w x1))) 63 59, [some (.inr (.inr 3)), some (.inl x1), some (.inl x2), o3], [.inr (.inr (pe_R σ (pe_R σ 3 6) (pe_w x2)))], σ) rfl ?_ ?_
  · first
    | (simp (disch := omega) only [pe_all, pe_wi w0, pe_wi w1, pe_wi (x := 3) ⟨by decide, by decide⟩, ll_e6 hL, ll_k3 hL, ll_k891 hL, ll_n891 hL, pe_K_wI, pe_K_wR, pe_L_wI, pe_L_wR, pe_R_nej, pe_R_ner, pe_R_wI]; done)
    | (simp (disch := omega) only [pe_all, pe_wi w0, pe_wi w1, pe_wi (x := 3) ⟨by decide, by decide⟩, ll_e6 hL, ll_k3 hL, ll_k891 hL, ll_n891 hL, pe_K_wI, pe_K_wR, pe_L_wI, pe_L_wR, pe_R_nej, pe_R_ner, pe_R_wI]; (repeat' apply And.intro) <;> first | assumption | omega | decide)
  · try simp (disch := omega) only [pe_wi w0, pe_wi w1, pe_wi (x := 3) ⟨by decide, by decide⟩, ll_e6 hL, ll_k3 hL, ll_k891 hL, ll_n891 hL, pe_K_wI, pe_K_wR, pe_L_wI, pe_L_wR, pe_R_nej, pe_R_ner, pe_R_wI]
    exact pe_two k1 k2
theorem b151_59 {d : Nat} {Φ : Option pe_V → pe_H → Prop} {σ : pe_H} {x1 : Int} {x2 : Int} {o3 : Option pe_V} {b0 : Nat} (hL : ll_L σ := by assumption)   (k : pe_X d 151 (64, [some (.inr (.inr 3)), some (.inl x1), some (.inl x2), o3], [.inl 3, .inr (.inr b0)], σ) Φ) : pe_X d 151 (59, [some (.inr (.inr 3)), some (.inl x1), some (.inl x2), o3], [.inr (.inr b0)], σ) Φ := by
  refine pe_blk 42 2 ck151 [] (64, [some (.inr (.inr 3)), some (.inl x1), some (.inl x2), o3], [.inl 3, .inr (.inr b0)], σ) rfl ?_ ?_
  · exact trivial
  · exact k
theorem b151_63 {d : Nat} {Φ : Option pe_V → pe_H → Prop} {σ : pe_H} {x1 : Int} {x2 : Int} {o3 : Option pe_V} {b0 : Nat} (hL : ll_L σ := by assumption)   (k : pe_X d 151 (64, [some (.inr (.inr 3)), some (.inl x1), some (.inl x2), o3], [.inl 4, .inr (.inr b0)], σ) Φ) : pe_X d 151 (63, [some (.inr (.inr 3)), some (.inl x1), some (.inl x2), o3], [.inr (.inr b0)], σ) Φ := by
  refine pe_blk 44 1 ck151 [] (64, [some (.inr (.inr 3)), some (.inl x1), some (.inl x2), o3], [.inl 4, .inr (.inr b0)], σ) rfl ?_ ?_
  · exact trivial
  · exact k
theorem b151_64 {d : Nat} {Φ : Option pe_V → pe_H → Prop} {σ : pe_H} {x1 : Int} {x2 : Int} {o3 : Option pe_V} {b0 : Nat} {s1 : Int} (hL : ll_L σ := by assumption)  (h0 : pe_K σ b0 = 20 := by first | assumption | omega) (k : pe_X d 151 (67, [some (.inr (.inr 3)), some (.inl x1), some (.inl x2), o3], [], pe_wI σ b0 3 s1) Φ) : pe_X d 151 (64, [some (.inr (.inr 3)), some (.inl x1), some (.inl x2), o3], [.inl s1, .inr (.inr b0)], σ) Φ := by
  refine pe_blk 45 1 ck151 [pe_K σ b0 = 20] (67, [some (.inr (.inr 3)), some (.inl x1), some (.inl x2), o3], [], pe_wI σ b0 3 s1) rfl ?_ ?_
  · first
    | (simp (disch := omega) only [pe_all, pe_K_wI, pe_K_wR]; done)
    | (simp (disch := omega) only [pe_all, pe_K_wI, pe_K_wR]; (repeat' apply And.intro) <;> first | assumption | omega | decide)
  · try simp (disch := omega) only [pe_K_wI, pe_K_wR]
    exact k
set_option maxRecDepth 8000 in
theorem b151_67 {d : Nat} {Φ : Option pe_V → pe_H → Prop} {σ : pe_H} {x1 : Int} {x2 : Int} {o3 : Option pe_V} (hL : ll_L σ := by assumption) (w0 : pe_in x2 := by unfold pe_in; omega) (w1 : pe_in x1 := by unfold pe_in; omega) (h0 : 0 ≤ x2 := by first | assumption | omega) (h1 : x2 < 8 := by first | assumption | omega) (h2 : ¬ 3 = 0 := by first | assumption | omega) (h3 : pe_K σ (pe_R σ 891 x2) = 20 := by first | assumption | omega) (k : pe_X d 151 (79, [some (.inr (.inr 3)), some (.inl x1), some (.inl x2), o3], [], pe_wI σ (pe_R σ 891 x2) 8 (Int.tmod x1 3)) Φ) : pe_X d 151 (67, [some (.inr (.inr 3)), some (.inl x1), some (.inl x2), o3], [], σ) Φ := by
  refine pe_blk 46 8 ck151 [pe_K σ 3 = 21, 22 ≤ pe_K σ (pe_R σ 3 6) ∧ pe_K σ (pe_R σ 3 6) < 25, 0 ≤ (pe_w x2), (pe_w x2) < pe_L σ (pe_R σ 3 6), ¬ (pe_w 3) = 0, pe_K σ (pe_R σ (pe_R σ 3 6) (pe_w x2)) = 20] (79, [some (.inr (.inr 3)), some (.inl x1), some (.inl x2), o3], [], pe_wI σ (pe_R σ (pe_R σ 3 6) (pe_w x2)) 8 (Int.tmod (pe_w x1) (pe_w 3))) rfl ?_ ?_
  · first
    | (simp (disch := omega) only [pe_all, pe_wi w0, pe_wi w1, pe_wi (x := 3) ⟨by decide, by decide⟩, ll_e6 hL, ll_k3 hL, ll_k891 hL, ll_n891 hL, pe_K_wI, pe_K_wR, pe_L_wI, pe_L_wR, pe_R_nej, pe_R_ner, pe_R_wI]; done)
    | (simp (disch := omega) only [pe_all, pe_wi w0, pe_wi w1, pe_wi (x := 3) ⟨by decide, by decide⟩, ll_e6 hL, ll_k3 hL, ll_k891 hL, ll_n891 hL, pe_K_wI, pe_K_wR, pe_L_wI, pe_L_wR, pe_R_nej, pe_R_ner, pe_R_wI]; (repeat' apply And.intro) <;> first | assumption | omega | decide)
  · try simp (disch := omega) only [pe_wi w0, pe_wi w1, pe_wi (x := 3) ⟨by decide, by decide⟩, ll_e6 hL, ll_k3 hL, ll_k891 hL, ll_n891 hL, pe_K_wI, pe_K_wR, pe_L_wI, pe_L_wR, pe_R_nej, pe_R_ner, pe_R_wI]
    exact k
set_option maxRecDepth 8000 in
theorem b151_79 {d : Nat} {Φ : Option pe_V → pe_H → Prop} {σ : pe_H} {o1 : Option pe_V} {o2 : Option pe_V} {o3 : Option pe_V} (hL : ll_L σ := by assumption)   (k : Φ none σ) : pe_X d 151 (79, [some (.inr (.inr 3)), o1, o2, o3], [], σ) Φ := by
  exact pe_fine 54 ck151 rfl rfl rfl trivial k
-- StepMachinesLaw.unqueue(I)V
def T152 : List (Nat × Instr × Nat) := [(0, .iconst 0, 1), (1, .istore_n 2, 1), (2, .iload_n 2, 1), (3, .bipush 6, 2), (5, .if_icmp .ge 104, 3), (8, .aload_n 0, 1), (9, .getfield 36, 3), (12, .iload_n 2, 1), (13, .aaload, 1), (14, .arraylength, 1), (15, .newarray .int, 2), (17, .astore_n 3, 1), (18, .iconst 0, 1), (19, .istore 4, 2), (21, .aload_n 0, 1), (22, .getfield 36, 3), (25, .iload_n 2, 1), (26, .aaload, 1), (27, .astore 5, 2), (29, .aload 5, 2), (31, .arraylength, 1), (32, .istore 6, 2), (34, .iconst 0, 1), (35, .istore 7, 2), (37, .iload 7, 2), (39, .iload 6, 2), (41, .if_icmp .ge 38, 3), (44, .aload 5, 2), (46, .iload 7, 2), (48, .iaload, 1), (49, .istore 8, 2), (51, .aload_n 3, 1), (52, .iload 4, 2), (54, .iload 8, 2), (56, .iastore, 1), (57, .iload 4, 2), (59, .iload 8, 2), (61, .iload_n 1, 1), (62, .if_icmp .ne 7, 3), (65, .iconst 0, 1), (66, .goto 4, 3), (69, .iconst 1, 1), (70, .iadd, 1), (71, .istore 4, 2), (73, .iinc 7 1, 3), (76, .goto (-39), 3), (79, .aload_n 0, 1), (80, .getfield 36, 3), (83, .iload_n 2, 1), (84, .iload 4, 2), (86, .newarray .int, 2), (88, .aastore, 1), (89, .aload_n 3, 1), (90, .iconst 0, 1), (91, .aload_n 0, 1), (92, .getfield 36, 3), (95, .iload_n 2, 1), (96, .aaload, 1), (97, .iconst 0, 1), (98, .iload 4, 2), (100, .invokestatic 61, 3), (103, .iinc 2 1, 3), (106, .goto (-104), 3), (109, .return_, 1)]
theorem ck152 : pe_ctx 152 21 false none 9 T152 := ⟨rfl, rfl, rfl, rfl, by decide +kernel, by decide, by decide⟩
theorem b152_0 {d : Nat} {Φ : Option pe_V → pe_H → Prop} {σ : pe_H} {x1 : Int} {o2 : Option pe_V} {o3 : Option pe_V} {o4 : Option pe_V} {o5 : Option pe_V} {o6 : Option pe_V} {o7 : Option pe_V} {o8 : Option pe_V} (hL : ll_L σ := by assumption)   (k : pe_X d 152 (2, [some (.inr (.inr 3)), some (.inl x1), some (.inl 0), o3, o4, o5, o6, o7, o8], [], σ) Φ) : pe_X d 152 (0, [some (.inr (.inr 3)), some (.inl x1), o2, o3, o4, o5, o6, o7, o8], [], σ) Φ := by
  refine pe_blk 0 2 ck152 [] (2, [some (.inr (.inr 3)), some (.inl x1), some (.inl 0), o3, o4, o5, o6, o7, o8], [], σ) rfl ?_ ?_
  · exact trivial
  · exact k
theorem b152_2 {d : Nat} {Φ : Option pe_V → pe_H → Prop} {σ : pe_H} {x1 : Int} {x2 : Int} {o3 : Option pe_V} {o4 : Option pe_V} {o5 : Option pe_V} {o6 : Option pe_V} {o7 : Option pe_V} {o8 : Option pe_V} (hL : ll_L σ := by assumption) (w0 : pe_in x2 := by unfold pe_in; omega)  (k1 : 6 ≤ x2 → pe_X d 152 (109, [some (.inr (.inr 3)), some (.inl x1), some (.inl x2), o3, o4, o5, o6, o7, o8], [], σ) Φ) (k2 : ¬ (6 ≤ x2) → pe_X d 152 (8, [some (.inr (.inr 3)), some (.inl x1), some (.inl x2), o3, o4, o5, o6, o7, o8], [], σ) Φ) : pe_X d 152 (2, [some (.inr (.inr 3)), some (.inl x1), some (.inl x2), o3, o4, o5, o6, o7, o8], [], σ) Φ := by
  refine pe_blk 2 3 ck152 [] (cond (decide ((pe_w 6) ≤ (pe_w x2))) 109 8, [some (.inr (.inr 3)), some (.inl x1), some (.inl x2), o3, o4, o5, o6, o7, o8], [], σ) rfl ?_ ?_
  · exact trivial
  · try simp (disch := omega) only [pe_wi w0, pe_wi (x := 6) ⟨by decide, by decide⟩]
    exact pe_two k1 k2
theorem b152_8 {d : Nat} {Φ : Option pe_V → pe_H → Prop} {σ : pe_H} {x1 : Int} {x2 : Int} {o3 : Option pe_V} {o4 : Option pe_V} {o5 : Option pe_V} {o6 : Option pe_V} {o7 : Option pe_V} {o8 : Option pe_V} (hL : ll_L σ := by assumption) (w0 : pe_in x2 := by unfold pe_in; omega) (w1 : pe_in (pe_L σ (pe_R σ 892 x2)) := by unfold pe_in; omega) (h0 : 0 ≤ x2 := by first | assumption | omega) (h1 : x2 < 6 := by first | assumption | omega) (h2 : pe_K σ (pe_R σ 892 x2) = 10 ∨ (22 ≤ pe_K σ (pe_R σ 892 x2) ∧ pe_K σ (pe_R σ 892 x2) < 26) := by first | assumption | omega) (h3 : 0 ≤ (pe_L σ (pe_R σ 892 x2)) := by first | assumption | omega) (h4 : (pe_L σ (pe_R σ 892 x2)) ≤ 10000 := by first | assumption | omega) (k : pe_X d 152 (18, [some (.inr (.inr 3)), some (.inl x1), some (.inl x2), some (.inr (.inr (pe_n σ))), o4, o5, o6, o7, o8], [], pe_new σ 10 (pe_L σ (pe_R σ 892 x2)) ((pe_L σ (pe_R σ 892 x2) : Int).toNat)) Φ) : pe_X d 152 (8, [some (.inr (.inr 3)), some (.inl x1), some (.inl x2), o3, o4, o5, o6, o7, o8], [], σ) Φ := by
  refine pe_blk 5 7 ck152 [pe_K σ 3 = 21, 22 ≤ pe_K σ (pe_R σ 3 7) ∧ pe_K σ (pe_R σ 3 7) < 25, 0 ≤ (pe_w x2), (pe_w x2) < pe_L σ (pe_R σ 3 7), pe_K σ (pe_R σ (pe_R σ 3 7) (pe_w x2)) = 10 ∨ (22 ≤ pe_K σ (pe_R σ (pe_R σ 3 7) (pe_w x2)) ∧ pe_K σ (pe_R σ (pe_R σ 3 7) (pe_w x2)) < 26), 0 ≤ (pe_w (pe_L σ (pe_R σ (pe_R σ 3 7) (pe_w x2)))), (pe_w (pe_L σ (pe_R σ (pe_R σ 3 7) (pe_w x2)))) ≤ 10000] (18, [some (.inr (.inr 3)), some (.inl x1), some (.inl x2), some (.inr (.inr (pe_n σ))), o4, o5, o6, o7, o8], [], pe_new σ 10 (pe_w (pe_L σ (pe_R σ (pe_R σ 3 7) (pe_w x2)))) ((pe_w (pe_L σ (pe_R σ (pe_R σ 3 7) (pe_w x2)))).toNat)) rfl ?_ ?_
  · first
    | (simp (disch := omega) only [pe_all, pe_wi w0, pe_wi w1, ll_e7 hL, ll_k3 hL, ll_k892 hL, ll_n892 hL, pe_K_wI, pe_K_wR, pe_L_wI, pe_L_wR, pe_R_nej, pe_R_ner, pe_R_wI]; done)
    | (simp (disch := omega) only [pe_all, pe_wi w0, pe_wi w1, ll_e7 hL, ll_k3 hL, ll_k892 hL, ll_n892 hL, pe_K_wI, pe_K_wR, pe_L_wI, pe_L_wR, pe_R_nej, pe_R_ner, pe_R_wI]; (repeat' apply And.intro) <;> first | assumption | omega | decide)
  · try simp (disch := omega) only [pe_wi w0, pe_wi w1, ll_e7 hL, ll_k3 hL, ll_k892 hL, ll_n892 hL, pe_K_wI, pe_K_wR, pe_L_wI, pe_L_wR, pe_R_nej, pe_R_ner, pe_R_wI]
    exact k
theorem b152_18 {d : Nat} {Φ : Option pe_V → pe_H → Prop} {σ : pe_H} {x1 : Int} {x2 : Int} {a3 : Nat} {o4 : Option pe_V} {o5 : Option pe_V} {o6 : Option pe_V} {o7 : Option pe_V} {o8 : Option pe_V} (hL : ll_L σ := by assumption) (w0 : pe_in x2 := by unfold pe_in; omega) (h0 : 0 ≤ x2 := by first | assumption | omega) (h1 : x2 < 6 := by first | assumption | omega) (k : pe_X d 152 (29, [some (.inr (.inr 3)), some (.inl x1), some (.inl x2), some (.inr (.inr a3)), some (.inl 0), some (.inr (.inr (pe_R σ 892 x2))), o6, o7, o8], [], σ) Φ) : pe_X d 152 (18, [some (.inr (.inr 3)), some (.inl x1), some (.inl x2), some (.inr (.inr a3)), o4, o5, o6, o7, o8], [], σ) Φ := by
  refine pe_blk 12 7 ck152 [pe_K σ 3 = 21, 22 ≤ pe_K σ (pe_R σ 3 7) ∧ pe_K σ (pe_R σ 3 7) < 25, 0 ≤ (pe_w x2), (pe_w x2) < pe_L σ (pe_R σ 3 7)] (29, [some (.inr (.inr 3)), some (.inl x1), some (.inl x2), some (.inr (.inr a3)), some (.inl 0), some (.inr (.inr (pe_R σ (pe_R σ 3 7) (pe_w x2)))), o6, o7, o8], [], σ) rfl ?_ ?_
  · first
    | (simp (disch := omega) only [pe_all, pe_wi w0, ll_e7 hL, ll_k3 hL, ll_k892 hL, ll_n892 hL, pe_K_wI, pe_K_wR, pe_L_wI, pe_L_wR, pe_R_nej, pe_R_ner, pe_R_wI]; done)
    | (simp (disch := omega) only [pe_all, pe_wi w0, ll_e7 hL, ll_k3 hL, ll_k892 hL, ll_n892 hL, pe_K_wI, pe_K_wR, pe_L_wI, pe_L_wR, pe_R_nej, pe_R_ner, pe_R_wI]; (repeat' apply And.intro) <;> first | assumption | omega | decide)
  · try simp (disch := omega) only [pe_wi w0, ll_e7 hL, ll_k3 hL, ll_k892 hL, ll_n892 hL, pe_K_wI, pe_K_wR, pe_L_wI, pe_L_wR, pe_R_nej, pe_R_ner, pe_R_wI]
    exact k
theorem b152_29 {d : Nat} {Φ : Option pe_V → pe_H → Prop} {σ : pe_H} {x1 : Int} {x2 : Int} {a3 : Nat} {x4 : Int} {a5 : Nat} {o6 : Option pe_V} {o7 : Option pe_V} {o8 : Option pe_V} (hL : ll_L σ := by assumption)  (h0 : pe_K σ a5 = 10 ∨ (22 ≤ pe_K σ a5 ∧ pe_K σ a5 < 26) := by first | assumption | omega) (k : pe_X d 152 (37, [some (.inr (.inr 3)), some (.inl x1), some (.inl x2), some (.inr (.inr a3)), some (.inl x4), some (.inr (.inr a5)), some (.inl (pe_L σ a5)), some (.inl 0), o8], [], σ) Φ) : pe_X d 152 (29, [some (.inr (.inr 3)), some (.inl x1), some (.inl x2), some (.inr (.inr a3)), some (.inl x4), some (.inr (.inr a5)), o6, o7, o8], [], σ) Φ := by
  refine pe_blk 19 5 ck152 [pe_K σ a5 = 10 ∨ (22 ≤ pe_K σ a5 ∧ pe_K σ a5 < 26)] (37, [some (.inr (.inr 3)), some (.inl x1), some (.inl x2), some (.inr (.inr a3)), some (.inl x4), some (.inr (.inr a5)), some (.inl (pe_L σ a5)), some (.inl 0), o8], [], σ) rfl ?_ ?_
  · first
    | (simp (disch := omega) only [pe_all, pe_K_wI, pe_K_wR, pe_L_wI, pe_L_wR]; done)
    | (simp (disch := omega) only [pe_all, pe_K_wI, pe_K_wR, pe_L_wI, pe_L_wR]; (repeat' apply And.intro) <;> first | assumption | omega | decide)
  · try simp (disch := omega) only [pe_K_wI, pe_K_wR, pe_L_wI, pe_L_wR]
    exact k
theorem b152_37 {d : Nat} {Φ : Option pe_V → pe_H → Prop} {σ : pe_H} {x1 : Int} {x2 : Int} {a3 : Nat} {x4 : Int} {a5 : Nat} {x6 : Int} {x7 : Int} {o8 : Option pe_V} (hL : ll_L σ := by assumption) (w0 : pe_in x6 := by unfold pe_in; omega) (w1 : pe_in x7 := by unfold pe_in; omega)  (k1 : x6 ≤ x7 → pe_X d 152 (79, [some (.inr (.inr 3)), some (.inl x1), some (.inl x2), some (.inr (.inr a3)), some (.inl x4), some (.inr (.inr a5)), some (.inl x6), some (.inl x7), o8], [], σ) Φ) (k2 : ¬ (x6 ≤ x7) → pe_X d 152 (44, [some (.inr (.inr 3)), some (.inl x1), some (.inl x2), some (.inr (.inr a3)), some (.inl x4), some (.inr (.inr a5)), some (.inl x6), some (.inl x7), o8], [], σ) Φ) : pe_X d 152 (37, [some (.inr (.inr 3)), some (.inl x1), some (.inl x2), some (.inr (.inr a3)), some (.inl x4), some (.inr (.inr a5)), some (.inl x6), some (.inl x7), o8], [], σ) Φ := by
  refine pe_blk 24 3 ck152 [] (cond (decide ((pe_w x6) ≤ (pe_w x7))) 79 44, [some (.inr (.inr 3)), some (.inl x1), some (.inl x2), some (.inr (.inr a3)), some (.inl x4), some (.inr (.inr a5)), some (.inl x6), some (.inl x7), o8], [], σ) rfl ?_ ?_
  · exact trivial
  · try simp (disch := omega) only [pe_wi w0, pe_wi w1]
    exact pe_two k1 k2
theorem b152_44 {d : Nat} {Φ : Option pe_V → pe_H → Prop} {σ : pe_H} {x1 : Int} {x2 : Int} {a3 : Nat} {x4 : Int} {a5 : Nat} {x6 : Int} {x7 : Int} {o8 : Option pe_V} (hL : ll_L σ := by assumption) (w0 : pe_in x7 := by unfold pe_in; omega) (w1 : pe_in x4 := by unfold pe_in; omega) (h0 : pe_K σ a5 = 10 ∨ pe_K σ a5 = 25 := by first | assumption | omega) (h1 : 0 ≤ x7 := by first | assumption | omega) (h2 : x7 < pe_L σ a5 := by first | assumption | omega) (h3 : pe_K σ a3 = 10 := by first | assumption | omega) (h4 : 0 ≤ x4 := by first | assumption | omega) (h5 : x4 < pe_L σ a3 := by first | assumption | omega) (h6 : 2 ≤ a3 := by first | assumption | omega) (k : pe_X d 152 (57, [some (.inr (.inr 3)), some (.inl x1), some (.inl x2), some (.inr (.inr a3)), some (.inl x4), some (.inr (.inr a5)), some (.inl x6), some (.inl x7), some (.inl (pe_I σ a5 x7))], [], pe_wI σ a3 x4 (pe_I σ a5 x7)) Φ) : pe_X d 152 (44, [some (.inr (.inr 3)), some (.inl x1), some (.inl x2), some (.inr (.inr a3)), some (.inl x4), some (.inr (.inr a5)), some (.inl x6), some (.inl x7), o8], [], σ) Φ := by
  refine pe_blk 27 8 ck152 [pe_K σ a5 = 10 ∨ pe_K σ a5 = 25, 0 ≤ (pe_w x7), (pe_w x7) < pe_L σ a5, pe_K σ a3 = 10, 0 ≤ (pe_w x4), (pe_w x4) < pe_L σ a3, 2 ≤ a3] (57, [some (.inr (.inr 3)), some (.inl x1), some (.inl x2), some (.inr (.inr a3)), some (.inl x4), some (.inr (.inr a5)), some (.inl x6), some (.inl x7), some (.inl (pe_I σ a5 (pe_w x7)))], [], pe_wI σ a3 (pe_w x4) (pe_I σ a5 (pe_w x7))) rfl ?_ ?_
  · first
    | (simp (disch := omega) only [pe_all, pe_wi w0, pe_wi w1, pe_K_wI, pe_K_wR, pe_L_wI, pe_L_wR]; done)
    | (simp (disch := omega) only [pe_all, pe_wi w0, pe_wi w1, pe_K_wI, pe_K_wR, pe_L_wI, pe_L_wR]; (repeat' apply And.intro) <;> first | assumption | omega | decide)
  · try simp (disch := omega) only [pe_wi w0, pe_wi w1, pe_K_wI, pe_K_wR, pe_L_wI, pe_L_wR]
    exact k
theorem b152_57 {d : Nat} {Φ : Option pe_V → pe_H → Prop} {σ : pe_H} {x1 : Int} {x2 : Int} {a3 : Nat} {x4 : Int} {a5 : Nat} {x6 : Int} {x7 : Int} {x8 : Int} (hL : ll_L σ := by assumption) (w0 : pe_in x1 := by unfold pe_in; omega) (w1 : pe_in x8 := by unfold pe_in; omega)  (k1 : ¬ x8 = x1 → pe_X d 152 (69, [some (.inr (.inr 3)), some (.inl x1), some (.inl x2), some (.inr (.inr a3)), some (.inl x4), some (.inr (.inr a5)), some (.inl x6), some (.inl x7), some (.inl x8)], [.inl x4], σ) Φ) (k2 : x8 = x1 → pe_X d 152 (65, [some (.inr (.inr 3)), some (.inl x1), some (.inl x2), some (.inr (.inr a3)), some (.inl x4), some (.inr (.inr a5)), some (.inl x6), some (.inl x7), some (.inl x8)], [.inl x4], σ) Φ) : pe_X d 152 (57, [some (.inr (.inr 3)), some (.inl x1), some (.inl x2), some (.inr (.inr a3)), some (.inl x4), some (.inr (.inr a5)), some (.inl x6), some (.inl x7), some (.inl x8)], [], σ) Φ := by
  refine pe_blk 35 4 ck152 [] (cond (decide (¬ (pe_w x8) = (pe_w x1))) 69 65, [some (.inr (.inr 3)), some (.inl x1), some (.inl x2), some (.inr (.inr a3)), some (.inl x4), some (.inr (.inr a5)), some (.inl x6), some (.inl x7), some (.inl x8)], [.inl x4], σ) rfl ?_ ?_
  · exact trivial
  · try simp (disch := omega) only [pe_wi w0, pe_wi w1]
    exact pe_two' k1 k2
theorem b152_65 {d : Nat} {Φ : Option pe_V → pe_H → Prop} {σ : pe_H} {x1 : Int} {x2 : Int} {a3 : Nat} {o4 : Option pe_V} {a5 : Nat} {x6 : Int} {x7 : Int} {o8 : Option pe_V} {s0 : Int} (hL : ll_L σ := by assumption)   (k : pe_X d 152 (70, [some (.inr (.inr 3)), some (.inl x1), some (.inl x2), some (.inr (.inr a3)), o4, some (.inr (.inr a5)), some (.inl x6), some (.inl x7), o8], [.inl 0, .inl s0], σ) Φ) : pe_X d 152 (65, [some (.inr (.inr 3)), some (.inl x1), some (.inl x2), some (.inr (.inr a3)), o4, some (.inr (.inr a5)), some (.inl x6), some (.inl x7), o8], [.inl s0], σ) Φ := by
  refine pe_blk 39 2 ck152 [] (70, [some (.inr (.inr 3)), some (.inl x1), some (.inl x2), some (.inr (.inr a3)), o4, some (.inr (.inr a5)), some (.inl x6), some (.inl x7), o8], [.inl 0, .inl s0], σ) rfl ?_ ?_
  · exact trivial
  · exact k
theorem b152_69 {d : Nat} {Φ : Option pe_V → pe_H → Prop} {σ : pe_H} {x1 : Int} {x2 : Int} {a3 : Nat} {o4 : Option pe_V} {a5 : Nat} {x6 : Int} {x7 : Int} {o8 : Option pe_V} {s0 : Int} (hL : ll_L σ := by assumption)   (k : pe_X d 152 (70, [some (.inr (.inr 3)), some (.inl x1), some (.inl x2), some (.inr (.inr a3)), o4, some (.inr (.inr a5)), some (.inl x6), some (.inl x7), o8], [.inl 1, .inl s0], σ) Φ) : pe_X d 152 (69, [some (.inr (.inr 3)), some (.inl x1), some (.inl x2), some (.inr (.inr a3)), o4, some (.inr (.inr a5)), some (.inl x6), some (.inl x7), o8], [.inl s0], σ) Φ := by
  refine pe_blk 41 1 ck152 [] (70, [some (.inr (.inr 3)), some (.inl x1), some (.inl x2), some (.inr (.inr a3)), o4, some (.inr (.inr a5)), some (.inl x6), some (.inl x7), o8], [.inl 1, .inl s0], σ) rfl ?_ ?_
  · exact trivial
  · exact k
theorem b152_70 {d : Nat} {Φ : Option pe_V → pe_H → Prop} {σ : pe_H} {x1 : Int} {x2 : Int} {a3 : Nat} {o4 : Option pe_V} {a5 : Nat} {x6 : Int} {x7 : Int} {o8 : Option pe_V} {s0 : Int} {s1 : Int} (hL : ll_L σ := by assumption)   (k : pe_X d 152 (37, [some (.inr (.inr 3)), some (.inl x1), some (.inl x2), some (.inr (.inr a3)), some (.inl (s0 + s1)), some (.inr (.inr a5)), some (.inl x6), some (.inl (x7 + 1)), o8], [], σ) Φ) : pe_X d 152 (70, [some (.inr (.inr 3)), some (.inl x1), some (.inl x2), some (.inr (.inr a3)), o4, some (.inr (.inr a5)), some (.inl x6), some (.inl x7), o8], [.inl s1, .inl s0], σ) Φ := by
  refine pe_blk 42 4 ck152 [] (37, [some (.inr (.inr 3)), some (.inl x1), some (.inl x2), some (.inr (.inr a3)), some (.inl (s0 + s1)), some (.inr (.inr a5)), some (.inl x6), some (.inl (x7 + 1)), o8], [], σ) rfl ?_ ?_
  · exact trivial
  · exact k
set_option maxRecDepth 8000 in
theorem b152_79 {d : Nat} {Φ : Option pe_V → pe_H → Prop} {σ : pe_H} {x1 : Int} {x2 : Int} {a3 : Nat} {x4 : Int} {o5 : Option pe_V} {o6 : Option pe_V} {o7 : Option pe_V} {o8 : Option pe_V} (hL : ll_L σ := by assumption) (w0 : pe_in x4 := by unfold pe_in; omega) (w1 : pe_in x2 := by unfold pe_in; omega) (h0 : 0 ≤ x4 := by first | assumption | omega) (h1 : x4 ≤ 10000 := by first | assumption | omega) (h2 : (pe_n σ) = 0 ∨ (3 ≤ (pe_n σ) ∧ pe_K (pe_new σ 10 x4 ((x4 : Int).toNat)) (pe_n σ) = 10) := by first | assumption | omega) (h3 : 0 ≤ x2 := by first | assumption | omega) (h4 : x2 < 6 := by first | assumption | omega) (k : pe_X d 152 (89, [some (.inr (.inr 3)), some (.inl x1), some (.inl x2), some (.inr (.inr a3)), some (.inl x4), o5, o6, o7, o8], [], pe_wR (pe_new σ 10 x4 ((x4 : Int).toNat)) 892 x2 (pe_n σ)) Φ) : pe_X d 152 (79, [some (.inr (.inr 3)), some (.inl x1), some (.inl x2), some (.inr (.inr a3)), some (.inl x4), o5, o6, o7, o8], [], σ) Φ := by
  refine pe_blk 46 6 ck152 [pe_K σ 3 = 21, 0 ≤ (pe_w x4), (pe_w x4) ≤ 10000, 22 ≤ pe_K (pe_new σ 10 (pe_w x4) ((pe_w x4).toNat)) (pe_R σ 3 7) ∧ pe_K (pe_new σ 10 (pe_w x4) ((pe_w x4).toNat)) (pe_R σ 3 7) < 25, (pe_n σ) = 0 ∨ (3 ≤ (pe_n σ) ∧ pe_K (pe_new σ 10 (pe_w x4) ((pe_w x4).toNat)) (pe_n σ) = pe_ek (pe_K (pe_new σ 10 (pe_w x4) ((pe_w x4).toNat)) (pe_R σ 3 7))), 0 ≤ (pe_w x2), (pe_w x2) < pe_L (pe_new σ 10 (pe_w x4) ((pe_w x4).toNat)) (pe_R σ 3 7), 3 ≤ (pe_R σ 3 7)] (89, [some (.inr (.inr 3)), some (.inl x1), some (.inl x2), some (.inr (.inr a3)), some (.inl x4), o5, o6, o7, o8], [], pe_wR (pe_new σ 10 (pe_w x4) ((pe_w x4).toNat)) (pe_R σ 3 7) (pe_w x2) (pe_n σ)) rfl ?_ ?_
  · first
    | (simp (disch := omega) only [pe_all, pe_wi w0, pe_wi w1, ll_e7 hL, ll_ek23, ll_ek24, ll_k3 hL, ll_k892 hL, ll_n892 hL, ll_nI hL, ll_nK hL, ll_nN hL, ll_nR hL, pe_K_wI, pe_K_wR, pe_L_wI, pe_L_wR, pe_R_nej, pe_R_ner, pe_R_wI]; done)
    | (simp (disch := omega) only [pe_all, pe_wi w0, pe_wi w1, ll_e7 hL, ll_ek23, ll_ek24, ll_k3 hL, ll_k892 hL, ll_n892 hL, ll_nI hL, ll_nK hL, ll_nN hL, ll_nR hL, pe_K_wI, pe_K_wR, pe_L_wI, pe_L_wR, pe_R_nej, pe_R_ner, pe_R_wI]; (repeat' apply And.intro) <;> first | assumption | omega | decide)
  · try simp (disch := omega) only [pe_wi w0, pe_wi w1, ll_e7 hL, ll_ek23, ll_ek24, ll_k3 hL, ll_k892 hL, ll_n892 hL, ll_nI hL, ll_nK hL, ll_nN hL, ll_nR hL, pe_K_wI, pe_K_wR, pe_L_wI, pe_L_wR, pe_R_nej, pe_R_ner, pe_R_wI]
    exact k
set_option maxRecDepth 8000 in
theorem b152_89 {d : Nat} {Φ : Option pe_V → pe_H → Prop} {σ : pe_H} {x1 : Int} {x2 : Int} {a3 : Nat} {x4 : Int} {o5 : Option pe_V} {o6 : Option pe_V} {o7 : Option pe_V} {o8 : Option pe_V} (hL : ll_L σ := by assumption) (w0 : pe_in x2 := by unfold pe_in; omega) (w1 : pe_in x4 := by unfold pe_in; omega) (h0 : 0 ≤ x2 := by first | assumption | omega) (h1 : x2 < 6 := by first | assumption | omega) (h2 : pe_K σ a3 = 10 := by first | assumption | omega) (h3 : pe_K σ (pe_R σ 892 x2) = 10 := by first | assumption | omega) (h4 : 2 ≤ (pe_R σ 892 x2) := by first | assumption | omega) (h5 : 0 ≤ x4 := by first | assumption | omega) (h6 : 0 + x4 ≤ pe_L σ a3 := by first | assumption | omega) (h7 : 0 + x4 ≤ pe_L σ (pe_R σ 892 x2) := by first | assumption | omega) (k : pe_X d 152 (103, [some (.inr (.inr 3)), some (.inl x1), some (.inl x2), some (.inr (.inr a3)), some (.inl x4), o5, o6, o7, o8], [], pe_cpy σ a3 0 (pe_R σ 892 x2) 0 x4) Φ) : pe_X d 152 (89, [some (.inr (.inr 3)), some (.inl x1), some (.inl x2), some (.inr (.inr a3)), some (.inl x4), o5, o6, o7, o8], [], σ) Φ := by
  refine pe_blk 52 9 ck152 [pe_K σ 3 = 21, 22 ≤ pe_K σ (pe_R σ 3 7) ∧ pe_K σ (pe_R σ 3 7) < 25, 0 ≤ (pe_w x2), (pe_w x2) < pe_L σ (pe_R σ 3 7), pe_K σ a3 = 10, pe_K σ (pe_R σ (pe_R σ 3 7) (pe_w x2)) = 10, 2 ≤ (pe_R σ (pe_R σ 3 7) (pe_w x2)), 0 ≤ (pe_w 0), 0 ≤ (pe_w 0), 0 ≤ (pe_w x4), (pe_w 0) + (pe_w x4) ≤ pe_L σ a3, (pe_w 0) + (pe_w x4) ≤ pe_L σ (pe_R σ (pe_R σ 3 7) (pe_w x2))] (103, [some (.inr (.inr 3)), some (.inl x1), some (.inl x2), some (.inr (.inr a3)), some (.inl x4), o5, o6, o7, o8], [], pe_cpy σ a3 (pe_w 0) (pe_R σ (pe_R σ 3 7) (pe_w x2)) (pe_w 0) (pe_w x4)) rfl ?_ ?_
  · first
    | (simp (disch := omega) only [pe_all, pe_wi w0, pe_wi w1, pe_wi (x := 0) ⟨by decide, by decide⟩, ll_e7 hL, ll_k3 hL, ll_k892 hL, ll_n892 hL, pe_K_wI, pe_K_wR, pe_L_wI, pe_L_wR, pe_R_nej, pe_R_ner, pe_R_wI]; done)
    | (simp (disch := omega) only [pe_all, pe_wi w0, pe_wi w1, pe_wi (x := 0) ⟨by decide, by decide⟩, ll_e7 hL, ll_k3 hL, ll_k892 hL, ll_n892 hL, pe_K_wI, pe_K_wR, pe_L_wI, pe_L_wR, pe_R_nej, pe_R_ner, pe_R_wI]; (repeat' apply And.intro) <;> first | assumption | omega | decide)
  · try simp (disch := omega) only [pe_wi w0, pe_wi w1, pe_wi (x := 0) ⟨by decide, by decide⟩, ll_e7 hL, ll_k3 hL, ll_k892 hL, ll_n892 hL, pe_K_wI, pe_K_wR, pe_L_wI, pe_L_wR, pe_R_nej, pe_R_ner, pe_R_wI]
    exact k
set_option maxRecDepth 8000 in
theorem b152_103 {d : Nat} {Φ : Option pe_V → pe_H → Prop} {σ : pe_H} {x1 : Int} {x2 : Int} {o3 : Option pe_V} {o4 : Option pe_V} {o5 : Option pe_V} {o6 : Option pe_V} {o7 : Option pe_V} {o8 : Option pe_V} (hL : ll_L σ := by assumption)   (k : pe_X d 152 (2, [some (.inr (.inr 3)), some (.inl x1), some (.inl (x2 + 1)), o3, o4, o5, o6, o7, o8], [], σ) Φ) : pe_X d 152 (103, [some (.inr (.inr 3)), some (.inl x1), some (.inl x2), o3, o4, o5, o6, o7, o8], [], σ) Φ := by
  refine pe_blk 61 2 ck152 [] (2, [some (.inr (.inr 3)), some (.inl x1), some (.inl (x2 + 1)), o3, o4, o5, o6, o7, o8], [], σ) rfl ?_ ?_
  · exact trivial
  · exact k
set_option maxRecDepth 8000 in
theorem b152_109 {d : Nat} {Φ : Option pe_V → pe_H → Prop} {σ : pe_H} {o1 : Option pe_V} {o2 : Option pe_V} {o3 : Option pe_V} {o4 : Option pe_V} {o5 : Option pe_V} {o6 : Option pe_V} {o7 : Option pe_V} {o8 : Option pe_V} (hL : ll_L σ := by assumption)   (k : Φ none σ) : pe_X d 152 (109, [some (.inr (.inr 3)), o1, o2, o3, o4, o5, o6, o7, o8], [], σ) Φ := by
  exact pe_fine 63 ck152 rfl rfl rfl trivial k
-- StepMachinesLaw.served(I)LStepMachinesLaw$One;
def T153 : List (Nat × Instr × Nat) := [(0, .aload_n 0, 1), (1, .getfield 31, 3), (4, .aload_n 0, 1), (5, .getfield 36, 3), (8, .iload_n 1, 1), (9, .aaload, 1), (10, .iconst 0, 1), (11, .iaload, 1), (12, .aaload, 1), (13, .astore_n 2, 1), (14, .aload_n 0, 1), (15, .aload_n 0, 1), (16, .getfield 36, 3), (19, .iload_n 1, 1), (20, .aaload, 1), (21, .iconst 0, 1), (22, .iaload, 1), (23, .invokevirtual 73, 3), (26, .aload_n 2, 1), (27, .iconst 1, 1), (28, .putfield 67, 3), (31, .aload_n 2, 1), (32, .areturn, 1)]
theorem ck153 : pe_ctx 153 21 false (some (.object "StepMachinesLaw$One")) 3 T153 := ⟨rfl, rfl, rfl, rfl, by decide +kernel, by decide, by decide⟩
theorem b153_0 {d : Nat} {Φ : Option pe_V → pe_H → Prop} {σ : pe_H} {x1 : Int} {o2 : Option pe_V} (hL : ll_L σ := by assumption) (w0 : pe_in x1 := by unfold pe_in; omega) (w1 : pe_in (pe_I σ (pe_R σ 892 x1) 0) := by unfold pe_in; omega) (h0 : 0 ≤ x1 := by first | assumption | omega) (h1 : x1 < 6 := by first | assumption | omega) (h2 : pe_K σ (pe_R σ 892 x1) = 10 ∨ pe_K σ (pe_R σ 892 x1) = 25 := by first | assumption | omega) (h3 : 0 < pe_L σ (pe_R σ 892 x1) := by first | assumption | omega) (h4 : 0 ≤ (pe_I σ (pe_R σ 892 x1) 0) := by first | assumption | omega) (h5 : (pe_I σ (pe_R σ 892 x1) 0) < 8 := by first | assumption | omega) (k : pe_X d 153 (14, [some (.inr (.inr 3)), some (.inl x1), some (.inr (.inr (pe_R σ 891 (pe_I σ (pe_R σ 892 x1) 0))))], [], σ) Φ) : pe_X d 153 (0, [some (.inr (.inr 3)), some (.inl x1), o2], [], σ) Φ := by
  refine pe_blk 0 10 ck153 [pe_K σ 3 = 21, pe_K σ 3 = 21, 22 ≤ pe_K σ (pe_R σ 3 7) ∧ pe_K σ (pe_R σ 3 7) < 25, 0 ≤ (pe_w x1), (pe_w x1) < pe_L σ (pe_R σ 3 7), pe_K σ (pe_R σ (pe_R σ 3 7) (pe_w x1)) = 10 ∨ pe_K σ (pe_R σ (pe_R σ 3 7) (pe_w x1)) = 25, 0 ≤ (pe_w 0), (pe_w 0) < pe_L σ (pe_R σ (pe_R σ 3 7) (pe_w x1)), 22 ≤ pe_K σ (pe_R σ 3 6) ∧ pe_K σ (pe_R σ 3 6) < 25, 0 ≤ (pe_w (pe_I σ (pe_R σ (pe_R σ 3 7) (pe_w x1)) (pe_w 0))), (pe_w (pe_I σ (pe_R σ (pe_R σ 3 7) (pe_w x1)) (pe_w 0))) < pe_L σ (pe_R σ 3 6)] (14, [some (.inr (.inr 3)), some (.inl x1), some (.inr (.inr (pe_R σ (pe_R σ 3 6) (pe_w (pe_I σ (pe_R σ (pe_R σ 3 7) (pe_w x1)) (pe_w 0))))))], [], σ) rfl ?_ ?_
  · first
    | (simp (disch := omega) only [pe_all, pe_wi w0, pe_wi w1, pe_wi (x := 0) ⟨by decide, by decide⟩, ll_e6 hL, ll_e7 hL, ll_k3 hL, ll_k891 hL, ll_k892 hL, ll_n891 hL, ll_n892 hL, pe_K_wI, pe_K_wR, pe_L_wI, pe_L_wR, pe_R_nej, pe_R_ner, pe_R_wI]; done)
    | (simp (disch := omega) only [pe_all, pe_wi w0, pe_wi w1, pe_wi (x := 0) ⟨by decide, by decide⟩, ll_e6 hL, ll_e7 hL, ll_k3 hL, ll_k891 hL, ll_k892 hL, ll_n891 hL, ll_n892 hL, pe_K_wI, pe_K_wR, pe_L_wI, pe_L_wR, pe_R_nej, pe_R_ner, pe_R_wI]; (repeat' apply And.intro) <;> first | assumption | omega | decide)
  · try simp (disch := omega) only [pe_wi w0, pe_wi w1, pe_wi (x := 0) ⟨by decide, by decide⟩, ll_e6 hL, ll_e7 hL, ll_k3 hL, ll_k891 hL, ll_k892 hL, ll_n891 hL, ll_n892 hL, pe_K_wI, pe_K_wR, pe_L_wI, pe_L_wR, pe_R_nej, pe_R_ner, pe_R_wI]
    exact k
theorem b153_14 {d : Nat} {Φ : Option pe_V → pe_H → Prop} {σ : pe_H} {x1 : Int} {a2 : Nat} (hL : ll_L σ := by assumption) (w0 : pe_in x1 := by unfold pe_in; omega) (h0 : 0 ≤ x1 := by first | assumption | omega) (h1 : x1 < 6 := by first | assumption | omega) (h2 : pe_K σ (pe_R σ 892 x1) = 10 ∨ pe_K σ (pe_R σ 892 x1) = 25 := by first | assumption | omega) (h3 : 0 < pe_L σ (pe_R σ 892 x1) := by first | assumption | omega) (k : pe_M d 152 [.inr (.inr 3), .inl (pe_I σ (pe_R σ 892 x1) 0)] σ (fun r σ' => pe_X d 153 (26, [some (.inr (.inr 3)), some (.inl x1), some (.inr (.inr a2))], r.toList ++ [], σ') Φ)) : pe_X d 153 (14, [some (.inr (.inr 3)), some (.inl x1), some (.inr (.inr a2))], [], σ) Φ := by
  refine pe_blk 10 7 ck153 [pe_K σ 3 = 21, 22 ≤ pe_K σ (pe_R σ 3 7) ∧ pe_K σ (pe_R σ 3 7) < 25, 0 ≤ (pe_w x1), (pe_w x1) < pe_L σ (pe_R σ 3 7), pe_K σ (pe_R σ (pe_R σ 3 7) (pe_w x1)) = 10 ∨ pe_K σ (pe_R σ (pe_R σ 3 7) (pe_w x1)) = 25, 0 ≤ (pe_w 0), (pe_w 0) < pe_L σ (pe_R σ (pe_R σ 3 7) (pe_w x1))] (23, [some (.inr (.inr 3)), some (.inl x1), some (.inr (.inr a2))], [.inl (pe_I σ (pe_R σ (pe_R σ 3 7) (pe_w x1)) (pe_w 0)), .inr (.inr 3)], σ) rfl ?_ ?_
  · first
    | (simp (disch := omega) only [pe_all, pe_wi w0, pe_wi (x := 0) ⟨by decide, by decide⟩, ll_e7 hL, ll_k3 hL, ll_k892 hL, ll_n892 hL, pe_K_wI, pe_K_wR, pe_L_wI, pe_L_wR, pe_R_nej, pe_R_ner, pe_R_wI]; done)
    | (simp (disch := omega) only [pe_all, pe_wi w0, pe_wi (x := 0) ⟨by decide, by decide⟩, ll_e7 hL, ll_k3 hL, ll_k892 hL, ll_n892 hL, pe_K_wI, pe_K_wR, pe_L_wI, pe_L_wR, pe_R_nej, pe_R_ner, pe_R_wI]; (repeat' apply And.intro) <;> first | assumption | omega | decide)
  · try simp (disch := omega) only [pe_wi w0, pe_wi (x := 0) ⟨by decide, by decide⟩, ll_e7 hL, ll_k3 hL, ll_k892 hL, ll_n892 hL, pe_K_wI, pe_K_wR, pe_L_wI, pe_L_wR, pe_R_nej, pe_R_ner, pe_R_wI]
    have hrc : pe_K σ 3 = 21 := by first | assumption | (simp (disch := omega) only [pe_wi w0, pe_wi (x := 0) ⟨by decide, by decide⟩, ll_e7 hL, ll_k3 hL, ll_k892 hL, ll_n892 hL, pe_K_wI, pe_K_wR, pe_L_wI, pe_L_wR, pe_R_nej, pe_R_ner, pe_R_wI]; done) | (simp (disch := omega) only [pe_wi w0, pe_wi (x := 0) ⟨by decide, by decide⟩, ll_e7 hL, ll_k3 hL, ll_k892 hL, ll_n892 hL, pe_K_wI, pe_K_wR, pe_L_wI, pe_L_wR, pe_R_nej, pe_R_ner, pe_R_wI]; assumption)
    exact pe_cal 17 ck153 rfl rfl rfl ⟨hrc, by decide⟩ k
theorem b153_26 {d : Nat} {Φ : Option pe_V → pe_H → Prop} {σ : pe_H} {o1 : Option pe_V} {a2 : Nat} (hL : ll_L σ := by assumption)  (h0 : pe_K σ a2 = 20 := by first | assumption | omega) (k : pe_X d 153 (31, [some (.inr (.inr 3)), o1, some (.inr (.inr a2))], [], pe_wI σ a2 3 1) Φ) : pe_X d 153 (26, [some (.inr (.inr 3)), o1, some (.inr (.inr a2))], [], σ) Φ := by
  refine pe_blk 18 3 ck153 [pe_K σ a2 = 20] (31, [some (.inr (.inr 3)), o1, some (.inr (.inr a2))], [], pe_wI σ a2 3 1) rfl ?_ ?_
  · first
    | (simp (disch := omega) only [pe_all, pe_K_wI, pe_K_wR]; done)
    | (simp (disch := omega) only [pe_all, pe_K_wI, pe_K_wR]; (repeat' apply And.intro) <;> first | assumption | omega | decide)
  · try simp (disch := omega) only [pe_K_wI, pe_K_wR]
    exact k
theorem b153_31 {d : Nat} {Φ : Option pe_V → pe_H → Prop} {σ : pe_H} {o1 : Option pe_V} {a2 : Nat} (hL : ll_L σ := by assumption)   (k : Φ (some (.inr (.inr a2))) σ) : pe_X d 153 (31, [some (.inr (.inr 3)), o1, some (.inr (.inr a2))], [], σ) Φ := by
  refine pe_blk 21 1 ck153 [] (32, [some (.inr (.inr 3)), o1, some (.inr (.inr a2))], [.inr (.inr a2)], σ) rfl ?_ ?_
  · exact trivial
  · exact pe_fine 22 ck153 rfl rfl rfl trivial k
-- StepMachinesLaw.joined(LStepMachinesLaw$One;LStepMachinesLaw$One;)V
def T154 : List (Nat × Instr × Nat) := [(0, .aload_n 1, 1), (1, .iconst 1, 1), (2, .putfield 67, 3), (5, .aload_n 2, 1), (6, .getfield 67, 3), (9, .bipush 6, 2), (11, .if_icmp .ne 14, 3), (14, .aload_n 1, 1), (15, .aload_n 2, 1), (16, .getfield 77, 3), (19, .putfield 77, 3), (22, .goto 41, 3), (25, .aload_n 1, 1), (26, .aload_n 2, 1), (27, .getfield 67, 3), (30, .bipush 7, 2), (32, .if_icmp .ne 19, 3), (35, .new 80, 3), (38, .dup, 1), (39, .bipush 8, 2), (41, .aload_n 2, 1), (42, .getfield 82, 3), (45, .invokespecial 86, 3), (48, .goto 12, 3), (51, .new 80, 3), (54, .dup, 1), (55, .iconst 5, 1), (56, .aconst_null, 1), (57, .invokespecial 86, 3), (60, .invokevirtual 89, 3), (63, .return_, 1)]
theorem ck154 : pe_ctx 154 21 false none 3 T154 := ⟨rfl, rfl, rfl, rfl, by decide +kernel, by decide, by decide⟩
theorem b154_0 {d : Nat} {Φ : Option pe_V → pe_H → Prop} {σ : pe_H} {a1 : Nat} {a2 : Nat} (hL : ll_L σ := by assumption)  (h0 : pe_K σ a1 = 20 := by first | assumption | omega) (k : pe_X d 154 (5, [some (.inr (.inr 3)), some (.inr (.inr a1)), some (.inr (.inr a2))], [], pe_wI σ a1 3 1) Φ) : pe_X d 154 (0, [some (.inr (.inr 3)), some (.inr (.inr a1)), some (.inr (.inr a2))], [], σ) Φ := by
  refine pe_blk 0 3 ck154 [pe_K σ a1 = 20] (5, [some (.inr (.inr 3)), some (.inr (.inr a1)), some (.inr (.inr a2))], [], pe_wI σ a1 3 1) rfl ?_ ?_
  · first
    | (simp (disch := omega) only [pe_all, pe_K_wI, pe_K_wR]; done)
    | (simp (disch := omega) only [pe_all, pe_K_wI, pe_K_wR]; (repeat' apply And.intro) <;> first | assumption | omega | decide)
  · try simp (disch := omega) only [pe_K_wI, pe_K_wR]
    exact k
theorem b154_5 {d : Nat} {Φ : Option pe_V → pe_H → Prop} {σ : pe_H} {a1 : Nat} {a2 : Nat} (hL : ll_L σ := by assumption) (w0 : pe_in (pe_I σ a2 3) := by unfold pe_in; omega) (h0 : pe_K σ a2 = 20 := by first | assumption | omega) (k1 : ¬ (pe_I σ a2 3) = 6 → pe_X d 154 (25, [some (.inr (.inr 3)), some (.inr (.inr a1)), some (.inr (.inr a2))], [], σ) Φ) (k2 : (pe_I σ a2 3) = 6 → pe_X d 154 (14, [some (.inr (.inr 3)), some (.inr (.inr a1)), some (.inr (.inr a2))], [], σ) Φ) : pe_X d 154 (5, [some (.inr (.inr 3)), some (.inr (.inr a1)), some (.inr (.inr a2))], [], σ) Φ := by
  refine pe_blk 3 4 ck154 [pe_K σ a2 = 20] (cond (decide (¬ (pe_w (pe_I σ a2 3)) = (pe_w 6))) 25 14, [some (.inr (.inr 3)), some (.inr (.inr a1)), some (.inr (.inr a2))], [], σ) rfl ?_ ?_
  · first
    | (simp (disch := omega) only [pe_all, pe_wi w0, pe_wi (x := 6) ⟨by decide, by decide⟩, pe_K_wI, pe_K_wR]; done)
    | (simp (disch := omega) only [pe_all, pe_wi w0, pe_wi (x := 6) ⟨by decide, by decide⟩, pe_K_wI, pe_K_wR]; (repeat' apply And.intro) <;> first | assumption | omega | decide)
  · try simp (disch := omega) only [pe_wi w0, pe_wi (x := 6) ⟨by decide, by decide⟩, pe_K_wI, pe_K_wR]
    exact pe_two' k1 k2
theorem b154_14 {d : Nat} {Φ : Option pe_V → pe_H → Prop} {σ : pe_H} {a1 : Nat} {a2 : Nat} (hL : ll_L σ := by assumption)  (h0 : pe_K σ a2 = 20 := by first | assumption | omega) (h1 : pe_K σ a1 = 20 := by first | assumption | omega) (k : pe_X d 154 (22, [some (.inr (.inr 3)), some (.inr (.inr a1)), some (.inr (.inr a2))], [], pe_wI σ a1 4 (pe_I σ a2 4)) Φ) : pe_X d 154 (14, [some (.inr (.inr 3)), some (.inr (.inr a1)), some (.inr (.inr a2))], [], σ) Φ := by
  refine pe_blk 7 4 ck154 [pe_K σ a2 = 20, pe_K σ a1 = 20] (22, [some (.inr (.inr 3)), some (.inr (.inr a1)), some (.inr (.inr a2))], [], pe_wI σ a1 4 (pe_I σ a2 4)) rfl ?_ ?_
  · first
    | (simp (disch := omega) only [pe_all, pe_K_wI, pe_K_wR]; done)
    | (simp (disch := omega) only [pe_all, pe_K_wI, pe_K_wR]; (repeat' apply And.intro) <;> first | assumption | omega | decide)
  · try simp (disch := omega) only [pe_K_wI, pe_K_wR]
    exact k
theorem b154_22 {d : Nat} {Φ : Option pe_V → pe_H → Prop} {σ : pe_H} {o1 : Option pe_V} {o2 : Option pe_V} (hL : ll_L σ := by assumption)   (k : pe_X d 154 (63, [some (.inr (.inr 3)), o1, o2], [], σ) Φ) : pe_X d 154 (22, [some (.inr (.inr 3)), o1, o2], [], σ) Φ := by
  refine pe_blk 11 1 ck154 [] (63, [some (.inr (.inr 3)), o1, o2], [], σ) rfl ?_ ?_
  · exact trivial
  · exact k
theorem b154_25 {d : Nat} {Φ : Option pe_V → pe_H → Prop} {σ : pe_H} {a1 : Nat} {a2 : Nat} (hL : ll_L σ := by assumption) (w0 : pe_in (pe_I σ a2 3) := by unfold pe_in; omega) (h0 : pe_K σ a2 = 20 := by first | assumption | omega) (k1 : ¬ (pe_I σ a2 3) = 7 → pe_X d 154 (51, [some (.inr (.inr 3)), some (.inr (.inr a1)), some (.inr (.inr a2))], [.inr (.inr a1)], σ) Φ) (k2 : (pe_I σ a2 3) = 7 → pe_X d 154 (35, [some (.inr (.inr 3)), some (.inr (.inr a1)), some (.inr (.inr a2))], [.inr (.inr a1)], σ) Φ) : pe_X d 154 (25, [some (.inr (.inr 3)), some (.inr (.inr a1)), some (.inr (.inr a2))], [], σ) Φ := by
  refine pe_blk 12 5 ck154 [pe_K σ a2 = 20] (cond (decide (¬ (pe_w (pe_I σ a2 3)) = (pe_w 7))) 51 35, [some (.inr (.inr 3)), some (.inr (.inr a1)), some (.inr (.inr a2))], [.inr (.inr a1)], σ) rfl ?_ ?_
  · first
    | (simp (disch := omega) only [pe_all, pe_wi w0, pe_wi (x := 7) ⟨by decide, by decide⟩, pe_K_wI, pe_K_wR]; done)
    | (simp (disch := omega) only [pe_all, pe_wi w0, pe_wi (x := 7) ⟨by decide, by decide⟩, pe_K_wI, pe_K_wR]; (repeat' apply And.intro) <;> first | assumption | omega | decide)
  · try simp (disch := omega) only [pe_wi w0, pe_wi (x := 7) ⟨by decide, by decide⟩, pe_K_wI, pe_K_wR]
    exact pe_two' k1 k2
theorem b154_35 {d : Nat} {Φ : Option pe_V → pe_H → Prop} {σ : pe_H} {o1 : Option pe_V} {a2 : Nat} {b0 : Nat} (hL : ll_L σ := by assumption)  (h0 : pe_K (pe_new σ 9 0 2) a2 = 20 := by first | assumption | omega) (h1 : ¬ (pe_n σ) = 0 := by first | assumption | omega) (k : pe_M d 132 [.inr (.inr (pe_n σ)), .inl 8, .inr (.inr (pe_R (pe_new σ 9 0 2) a2 9))] (pe_new σ 9 0 2) (fun r σ' => pe_X d 154 (48, [some (.inr (.inr 3)), o1, some (.inr (.inr a2))], r.toList ++ [.inr (.inr (pe_n σ)), .inr (.inr b0)], σ') Φ)) : pe_X d 154 (35, [some (.inr (.inr 3)), o1, some (.inr (.inr a2))], [.inr (.inr b0)], σ) Φ := by
  refine pe_blk 17 5 ck154 [pe_K (pe_new σ 9 0 2) a2 = 20] (45, [some (.inr (.inr 3)), o1, some (.inr (.inr a2))], [.inr (.inr (pe_R (pe_new σ 9 0 2) a2 9)), .inl 8, .inr (.inr (pe_n σ)), .inr (.inr (pe_n σ)), .inr (.inr b0)], pe_new σ 9 0 2) rfl ?_ ?_
  · first
    | (simp (disch := omega) only [pe_all, pe_K_wI, pe_K_wR]; done)
    | (simp (disch := omega) only [pe_all, pe_K_wI, pe_K_wR]; (repeat' apply And.intro) <;> first | assumption | omega | decide)
  · try simp (disch := omega) only [pe_K_wI, pe_K_wR]
    exact pe_cal 22 ck154 rfl rfl rfl (show ¬ _ = 0 by assumption) k
theorem b154_48 {d : Nat} {Φ : Option pe_V → pe_H → Prop} {σ : pe_H} {o1 : Option pe_V} {o2 : Option pe_V} {b0 : Nat} {b1 : Nat} (hL : ll_L σ := by assumption)   (k : pe_X d 154 (60, [some (.inr (.inr 3)), o1, o2], [.inr (.inr b1), .inr (.inr b0)], σ) Φ) : pe_X d 154 (48, [some (.inr (.inr 3)), o1, o2], [.inr (.inr b1), .inr (.inr b0)], σ) Φ := by
  refine pe_blk 23 1 ck154 [] (60, [some (.inr (.inr 3)), o1, o2], [.inr (.inr b1), .inr (.inr b0)], σ) rfl ?_ ?_
  · exact trivial
  · exact k
theorem b154_51 {d : Nat} {Φ : Option pe_V → pe_H → Prop} {σ : pe_H} {o1 : Option pe_V} {o2 : Option pe_V} {b0 : Nat} (hL : ll_L σ := by assumption)  (h0 : ¬ (pe_n σ) = 0 := by first | assumption | omega) (k : pe_M d 132 [.inr (.inr (pe_n σ)), .inl 5, .inr (.inr 0)] (pe_new σ 9 0 2) (fun r σ' => pe_X d 154 (60, [some (.inr (.inr 3)), o1, o2], r.toList ++ [.inr (.inr (pe_n σ)), .inr (.inr b0)], σ') Φ)) : pe_X d 154 (51, [some (.inr (.inr 3)), o1, o2], [.inr (.inr b0)], σ) Φ := by
  refine pe_blk 24 4 ck154 [] (57, [some (.inr (.inr 3)), o1, o2], [.inr (.inr 0), .inl 5, .inr (.inr (pe_n σ)), .inr (.inr (pe_n σ)), .inr (.inr b0)], pe_new σ 9 0 2) rfl ?_ ?_
  · exact trivial
  · exact pe_cal 28 ck154 rfl rfl rfl (show ¬ _ = 0 by assumption) k
theorem b154_60 {d : Nat} {Φ : Option pe_V → pe_H → Prop} {σ : pe_H} {o1 : Option pe_V} {o2 : Option pe_V} {b0 : Nat} {b1 : Nat} (hL : ll_L σ := by assumption)  (h0 : pe_K σ b0 = 20 := by first | assumption | omega) (k : pe_M d 139 [.inr (.inr b0), .inr (.inr b1)] σ (fun r σ' => pe_X d 154 (63, [some (.inr (.inr 3)), o1, o2], r.toList ++ [], σ') Φ)) : pe_X d 154 (60, [some (.inr (.inr 3)), o1, o2], [.inr (.inr b1), .inr (.inr b0)], σ) Φ := by
  have hrc : pe_K σ b0 = 20 := by first | assumption | (simp (disch := omega) only [pe_K_wI, pe_K_wR]; done) | (simp (disch := omega) only [pe_K_wI, pe_K_wR]; assumption)
  exact pe_cal 29 ck154 rfl rfl rfl ⟨hrc, by decide⟩ k
theorem b154_63 {d : Nat} {Φ : Option pe_V → pe_H → Prop} {σ : pe_H} {o1 : Option pe_V} {o2 : Option pe_V} (hL : ll_L σ := by assumption)   (k : Φ none σ) : pe_X d 154 (63, [some (.inr (.inr 3)), o1, o2], [], σ) Φ := by
  exact pe_fine 30 ck154 rfl rfl rfl trivial k
-- StepMachinesLaw.settle(I)V
def T155 : List (Nat × Instr × Nat) := [(0, .iconst 0, 1), (1, .istore_n 2, 1), (2, .iload_n 2, 1), (3, .aload_n 0, 1), (4, .getfield 93, 3), (7, .if_icmp .ge 69, 3), (10, .aload_n 0, 1), (11, .getfield 31, 3), (14, .iload_n 1, 1), (15, .aaload, 1), (16, .getfield 67, 3), (19, .iconst 5, 1), (20, .if_icmp .le 56, 3), (23, .aload_n 0, 1), (24, .getfield 31, 3), (27, .iload_n 2, 1), (28, .aaload, 1), (29, .getfield 67, 3), (32, .iconst 5, 1), (33, .if_icmp .ne 37, 3), (36, .aload_n 0, 1), (37, .getfield 31, 3), (40, .iload_n 2, 1), (41, .aaload, 1), (42, .getfield 70, 3), (45, .iload_n 1, 1), (46, .if_icmp .ne 24, 3), (49, .aload_n 0, 1), (50, .aload_n 0, 1), (51, .getfield 31, 3), (54, .iload_n 2, 1), (55, .aaload, 1), (56, .aload_n 0, 1), (57, .getfield 31, 3), (60, .iload_n 1, 1), (61, .aaload, 1), (62, .invokevirtual 96, 3), (65, .aload_n 0, 1), (66, .iload_n 2, 1), (67, .invokevirtual 100, 3), (70, .iinc 2 1, 3), (73, .goto (-71), 3), (76, .return_, 1)]
theorem ck155 : pe_ctx 155 21 false none 3 T155 := ⟨rfl, rfl, rfl, rfl, by decide +kernel, by decide, by decide⟩
theorem b155_0 {d : Nat} {Φ : Option pe_V → pe_H → Prop} {σ : pe_H} {x1 : Int} {o2 : Option pe_V} (hL : ll_L σ := by assumption)   (k : pe_X d 155 (2, [some (.inr (.inr 3)), some (.inl x1), some (.inl 0)], [], σ) Φ) : pe_X d 155 (0, [some (.inr (.inr 3)), some (.inl x1), o2], [], σ) Φ := by
  refine pe_blk 0 2 ck155 [] (2, [some (.inr (.inr 3)), some (.inl x1), some (.inl 0)], [], σ) rfl ?_ ?_
  · exact trivial
  · exact k
theorem b155_2 {d : Nat} {Φ : Option pe_V → pe_H → Prop} {σ : pe_H} {x1 : Int} {x2 : Int} (hL : ll_L σ := by assumption) (w0 : pe_in (pe_I σ 3 3) := by unfold pe_in; omega) (w1 : pe_in x2 := by unfold pe_in; omega)  (k1 : (pe_I σ 3 3) ≤ x2 → pe_X d 155 (76, [some (.inr (.inr 3)), some (.inl x1), some (.inl x2)], [], σ) Φ) (k2 : ¬ ((pe_I σ 3 3) ≤ x2) → pe_X d 155 (10, [some (.inr (.inr 3)), some (.inl x1), some (.inl x2)], [], σ) Φ) : pe_X d 155 (2, [some (.inr (.inr 3)), some (.inl x1), some (.inl x2)], [], σ) Φ := by
  refine pe_blk 2 4 ck155 [pe_K σ 3 = 21] (cond (decide ((pe_w (pe_I σ 3 3)) ≤ (pe_w x2))) 76 10, [some (.inr (.inr 3)), some (.inl x1), some (.inl x2)], [], σ) rfl ?_ ?_
  · first
    | (simp (disch := omega) only [pe_all, pe_wi w0, pe_wi w1, ll_k3 hL, pe_K_wI, pe_K_wR]; done)
    | (simp (disch := omega) only [pe_all, pe_wi w0, pe_wi w1, ll_k3 hL, pe_K_wI, pe_K_wR]; (repeat' apply And.intro) <;> first | assumption | omega | decide)
  · try simp (disch := omega) only [pe_wi w0, pe_wi w1, ll_k3 hL, pe_K_wI, pe_K_wR]
    exact pe_two k1 k2
theorem b155_10 {d : Nat} {Φ : Option pe_V → pe_H → Prop} {σ : pe_H} {x1 : Int} {x2 : Int} (hL : ll_L σ := by assumption) (w0 : pe_in x1 := by unfold pe_in; omega) (w1 : pe_in (pe_I σ (pe_R σ 891 x1) 3) := by unfold pe_in; omega) (h0 : 0 ≤ x1 := by first | assumption | omega) (h1 : x1 < 8 := by first | assumption | omega) (h2 : pe_K σ (pe_R σ 891 x1) = 20 := by first | assumption | omega) (k1 : (pe_I σ (pe_R σ 891 x1) 3) ≤ 5 → pe_X d 155 (76, [some (.inr (.inr 3)), some (.inl x1), some (.inl x2)], [], σ) Φ) (k2 : ¬ ((pe_I σ (pe_R σ 891 x1) 3) ≤ 5) → pe_X d 155 (23, [some (.inr (.inr 3)), some (.inl x1), some (.inl x2)], [], σ) Φ) : pe_X d 155 (10, [some (.inr (.inr 3)), some (.inl x1), some (.inl x2)], [], σ) Φ := by
  refine pe_blk 6 7 ck155 [pe_K σ 3 = 21, 22 ≤ pe_K σ (pe_R σ 3 6) ∧ pe_K σ (pe_R σ 3 6) < 25, 0 ≤ (pe_w x1), (pe_w x1) < pe_L σ (pe_R σ 3 6), pe_K σ (pe_R σ (pe_R σ 3 6) (pe_w x1)) = 20] (cond (decide ((pe_w (pe_I σ (pe_R σ (pe_R σ 3 6) (pe_w x1)) 3)) ≤ (pe_w 5))) 76 23, [some (.inr (.inr 3)), some (.inl x1), some (.inl x2)], [], σ) rfl ?_ ?_
  · first
    | (simp (disch := omega) only [pe_all, pe_wi w0, pe_wi w1, pe_wi (x := 5) ⟨by decide, by decide⟩, ll_e6 hL, ll_k3 hL, ll_k891 hL, ll_n891 hL, pe_K_wI, pe_K_wR, pe_L_wI, pe_L_wR, pe_R_nej, pe_R_ner, pe_R_wI]; done)
    | (simp (disch := omega) only [pe_all, pe_wi w0, pe_wi w1, pe_wi (x := 5) ⟨by decide, by decide⟩, ll_e6 hL, ll_k3 hL, ll_k891 hL, ll_n891 hL, pe_K_wI, pe_K_wR, pe_L_wI, pe_L_wR, pe_R_nej, pe_R_ner, pe_R_wI]; (repeat' apply And.intro) <;> first | assumption | omega | decide)
  · try simp (disch := omega) only [pe_wi w0, pe_wi w1, pe_wi (x := 5) ⟨by decide, by decide⟩, ll_e6 hL, ll_k3 hL, ll_k891 hL, ll_n891 hL, pe_K_wI, pe_K_wR, pe_L_wI, pe_L_wR, pe_R_nej, pe_R_ner, pe_R_wI]
    exact pe_two k1 k2
theorem b155_23 {d : Nat} {Φ : Option pe_V → pe_H → Prop} {σ : pe_H} {x1 : Int} {x2 : Int} (hL : ll_L σ := by assumption) (w0 : pe_in x2 := by unfold pe_in; omega) (w1 : pe_in (pe_I σ (pe_R σ 891 x2) 3) := by unfold pe_in; omega) (h0 : 0 ≤ x2 := by first | assumption | omega) (h1 : x2 < 8 := by first | assumption | omega) (h2 : pe_K σ (pe_R σ 891 x2) = 20 := by first | assumption | omega) (k1 : ¬ (pe_I σ (pe_R σ 891 x2) 3) = 5 → pe_X d 155 (70, [some (.inr (.inr 3)), some (.inl x1), some (.inl x2)], [], σ) Φ) (k2 : (pe_I σ (pe_R σ 891 x2) 3) = 5 → pe_X d 155 (36, [some (.inr (.inr 3)), some (.inl x1), some (.inl x2)], [], σ) Φ) : pe_X d 155 (23, [some (.inr (.inr 3)), some (.inl x1), some (.inl x2)], [], σ) Φ := by
  refine pe_blk 13 7 ck155 [pe_K σ 3 = 21, 22 ≤ pe_K σ (pe_R σ 3 6) ∧ pe_K σ (pe_R σ 3 6) < 25, 0 ≤ (pe_w x2), (pe_w x2) < pe_L σ (pe_R σ 3 6), pe_K σ (pe_R σ (pe_R σ 3 6) (pe_w x2)) = 20] (cond (decide (¬ (pe_w (pe_I σ (pe_R σ (pe_R σ 3 6) (pe_w x2)) 3)) = (pe_w 5))) 70 36, [some (.inr (.inr 3)), some (.inl x1), some (.inl x2)], [], σ) rfl ?_ ?_
  · first
    | (simp (disch := omega) only [pe_all, pe_wi w0, pe_wi w1, pe_wi (x := 5) ⟨by decide, by decide⟩, ll_e6 hL, ll_k3 hL, ll_k891 hL, ll_n891 hL, pe_K_wI, pe_K_wR, pe_L_wI, pe_L_wR, pe_R_nej, pe_R_ner, pe_R_wI]; done)
    | (simp (disch := omega) only [pe_all, pe_wi w0, pe_wi w1, pe_wi (x := 5) ⟨by decide, by decide⟩, ll_e6 hL, ll_k3 hL, ll_k891 hL, ll_n891 hL, pe_K_wI, pe_K_wR, pe_L_wI, pe_L_wR, pe_R_nej, pe_R_ner, pe_R_wI]; (repeat' apply And.intro) <;> first | assumption | omega | decide)
  · try simp (disch := omega) only [pe_wi w0, pe_wi w1, pe_wi (x := 5) ⟨by decide, by decide⟩, ll_e6 hL, ll_k3 hL, ll_k891 hL, ll_n891 hL, pe_K_wI, pe_K_wR, pe_L_wI, pe_L_wR, pe_R_nej, pe_R_ner, pe_R_wI]
    exact pe_two' k1 k2
theorem b155_36 {d : Nat} {Φ : Option pe_V → pe_H → Prop} {σ : pe_H} {x1 : Int} {x2 : Int} (hL : ll_L σ := by assumption) (w0 : pe_in x2 := by unfold pe_in; omega) (w1 : pe_in x1 := by unfold pe_in; omega) (w2 : pe_in (pe_I σ (pe_R σ 891 x2) 8) := by unfold pe_in; omega) (h0 : 0 ≤ x2 := by first | assumption | omega) (h1 : x2 < 8 := by first | assumption | omega) (h2 : pe_K σ (pe_R σ 891 x2) = 20 := by first | assumption | omega) (k1 : ¬ (pe_I σ (pe_R σ 891 x2) 8) = x1 → pe_X d 155 (70, [some (.inr (.inr 3)), some (.inl x1), some (.inl x2)], [], σ) Φ) (k2 : (pe_I σ (pe_R σ 891 x2) 8) = x1 → pe_X d 155 (49, [some (.inr (.inr 3)), some (.inl x1), some (.inl x2)], [], σ) Φ) : pe_X d 155 (36, [some (.inr (.inr 3)), some (.inl x1), some (.inl x2)], [], σ) Φ := by
  refine pe_blk 20 7 ck155 [pe_K σ 3 = 21, 22 ≤ pe_K σ (pe_R σ 3 6) ∧ pe_K σ (pe_R σ 3 6) < 25, 0 ≤ (pe_w x2), (pe_w x2) < pe_L σ (pe_R σ 3 6), pe_K σ (pe_R σ (pe_R σ 3 6) (pe_w x2)) = 20] (cond (decide (¬ (pe_w (pe_I σ (pe_R σ (pe_R σ 3 6) (pe_w x2)) 8)) = (pe_w x1))) 70 49, [some (.inr (.inr 3)), some (.inl x1), some (.inl x2)], [], σ) rfl ?_ ?_
  · first
    | (simp (disch := omega) only [pe_all, pe_wi w0, pe_wi w1, pe_wi w2, ll_e6 hL, ll_k3 hL, ll_k891 hL, ll_n891 hL, pe_K_wI, pe_K_wR, pe_L_wI, pe_L_wR, pe_R_nej, pe_R_ner, pe_R_wI]; done)
    | (simp (disch := omega) only [pe_all, pe_wi w0, pe_wi w1, pe_wi w2, ll_e6 hL, ll_k3 hL, ll_k891 hL, ll_n891 hL, pe_K_wI, pe_K_wR, pe_L_wI, pe_L_wR, pe_R_nej, pe_R_ner, pe_R_wI]; (repeat' apply And.intro) <;> first | assumption | omega | decide)
  · try simp (disch := omega) only [pe_wi w0, pe_wi w1, pe_wi w2, ll_e6 hL, ll_k3 hL, ll_k891 hL, ll_n891 hL, pe_K_wI, pe_K_wR, pe_L_wI, pe_L_wR, pe_R_nej, pe_R_ner, pe_R_wI]
    exact pe_two' k1 k2
theorem b155_49 {d : Nat} {Φ : Option pe_V → pe_H → Prop} {σ : pe_H} {x1 : Int} {x2 : Int} (hL : ll_L σ := by assumption) (w0 : pe_in x2 := by unfold pe_in; omega) (w1 : pe_in x1 := by unfold pe_in; omega) (h0 : 0 ≤ x2 := by first | assumption | omega) (h1 : x2 < 8 := by first | assumption | omega) (h2 : 0 ≤ x1 := by first | assumption | omega) (h3 : x1 < 8 := by first | assumption | omega) (k : pe_M d 154 [.inr (.inr 3), .inr (.inr (pe_R σ 891 x2)), .inr (.inr (pe_R σ 891 x1))] σ (fun r σ' => pe_X d 155 (65, [some (.inr (.inr 3)), some (.inl x1), some (.inl x2)], r.toList ++ [], σ') Φ)) : pe_X d 155 (49, [some (.inr (.inr 3)), some (.inl x1), some (.inl x2)], [], σ) Φ := by
  refine pe_blk 27 9 ck155 [pe_K σ 3 = 21, 22 ≤ pe_K σ (pe_R σ 3 6) ∧ pe_K σ (pe_R σ 3 6) < 25, 0 ≤ (pe_w x2), (pe_w x2) < pe_L σ (pe_R σ 3 6), pe_K σ 3 = 21, 22 ≤ pe_K σ (pe_R σ 3 6) ∧ pe_K σ (pe_R σ 3 6) < 25, 0 ≤ (pe_w x1), (pe_w x1) < pe_L σ (pe_R σ 3 6)] (62, [some (.inr (.inr 3)), some (.inl x1), some (.inl x2)], [.inr (.inr (pe_R σ (pe_R σ 3 6) (pe_w x1))), .inr (.inr (pe_R σ (pe_R σ 3 6) (pe_w x2))), .inr (.inr 3)], σ) rfl ?_ ?_
  · first
    | (simp (disch := omega) only [pe_all, pe_wi w0, pe_wi w1, ll_e6 hL, ll_k3 hL, ll_k891 hL, ll_n891 hL, pe_K_wI, pe_K_wR, pe_L_wI, pe_L_wR, pe_R_nej, pe_R_ner, pe_R_wI]; done)
    | (simp (disch := omega) only [pe_all, pe_wi w0, pe_wi w1, ll_e6 hL, ll_k3 hL, ll_k891 hL, ll_n891 hL, pe_K_wI, pe_K_wR, pe_L_wI, pe_L_wR, pe_R_nej, pe_R_ner, pe_R_wI]; (repeat' apply And.intro) <;> first | assumption | omega | decide)
  · try simp (disch := omega) only [pe_wi w0, pe_wi w1, ll_e6 hL, ll_k3 hL, ll_k891 hL, ll_n891 hL, pe_K_wI, pe_K_wR, pe_L_wI, pe_L_wR, pe_R_nej, pe_R_ner, pe_R_wI]
    have hrc : pe_K σ 3 = 21 := by first | assumption | (simp (disch := omega) only [pe_wi w0, pe_wi w1, ll_e6 hL, ll_k3 hL, ll_k891 hL, ll_n891 hL, pe_K_wI, pe_K_wR, pe_L_wI, pe_L_wR, pe_R_nej, pe_R_ner, pe_R_wI]; done) | (simp (disch := omega) only [pe_wi w0, pe_wi w1, ll_e6 hL, ll_k3 hL, ll_k891 hL, ll_n891 hL, pe_K_wI, pe_K_wR, pe_L_wI, pe_L_wR, pe_R_nej, pe_R_ner, pe_R_wI]; assumption)
    exact pe_cal 36 ck155 rfl rfl rfl ⟨hrc, by decide⟩ k
theorem b155_65 {d : Nat} {Φ : Option pe_V → pe_H → Prop} {σ : pe_H} {x1 : Int} {x2 : Int} (hL : ll_L σ := by assumption)   (k : pe_M d 155 [.inr (.inr 3), .inl x2] σ (fun r σ' => pe_X d 155 (70, [some (.inr (.inr 3)), some (.inl x1), some (.inl x2)], r.toList ++ [], σ') Φ)) : pe_X d 155 (65, [some (.inr (.inr 3)), some (.inl x1), some (.inl x2)], [], σ) Φ := by
  refine pe_blk 37 2 ck155 [] (67, [some (.inr (.inr 3)), some (.inl x1), some (.inl x2)], [.inl x2, .inr (.inr 3)], σ) rfl ?_ ?_
  · exact trivial
  · try simp (disch := omega) only [ll_k3 hL, pe_K_wI, pe_K_wR]
    have hrc : pe_K σ 3 = 21 := by first | assumption | (simp (disch := omega) only [ll_k3 hL, pe_K_wI, pe_K_wR]; done) | (simp (disch := omega) only [ll_k3 hL, pe_K_wI, pe_K_wR]; assumption)
    exact pe_cal 39 ck155 rfl rfl rfl ⟨hrc, by decide⟩ k
theorem b155_70 {d : Nat} {Φ : Option pe_V → pe_H → Prop} {σ : pe_H} {x1 : Int} {x2 : Int} (hL : ll_L σ := by assumption)   (k : pe_X d 155 (2, [some (.inr (.inr 3)), some (.inl x1), some (.inl (x2 + 1))], [], σ) Φ) : pe_X d 155 (70, [some (.inr (.inr 3)), some (.inl x1), some (.inl x2)], [], σ) Φ := by
  refine pe_blk 40 2 ck155 [] (2, [some (.inr (.inr 3)), some (.inl x1), some (.inl (x2 + 1))], [], σ) rfl ?_ ?_
  · exact trivial
  · exact k
theorem b155_76 {d : Nat} {Φ : Option pe_V → pe_H → Prop} {σ : pe_H} {o1 : Option pe_V} {o2 : Option pe_V} (hL : ll_L σ := by assumption)   (k : Φ none σ) : pe_X d 155 (76, [some (.inr (.inr 3)), o1, o2], [], σ) Φ := by
  exact pe_fine 42 ck155 rfl rfl rfl trivial k
-- StepMachinesLaw.blocked(III)V
def T156 : List (Nat × Instr × Nat) := [(0, .aload_n 0, 1), (1, .getfield 31, 3), (4, .iload_n 1, 1), (5, .aaload, 1), (6, .astore 4, 2), (8, .iload_n 2, 1), (9, .bipush 106, 2), (11, .if_icmp .ne 19, 3), (14, .iload_n 3, 1), (15, .iload_n 1, 1), (16, .if_icmp .eq 19, 3), (19, .iload_n 3, 1), (20, .aload_n 0, 1), (21, .getfield 93, 3), (24, .if_icmp .lt 29, 3), (27, .goto 8, 3), (30, .iload_n 3, 1), (31, .iconst 2, 1), (32, .if_icmp .le 21, 3), (35, .aload 4, 2), (37, .new 80, 3), (40, .dup, 1), (41, .bipush 6, 2), (43, .aconst_null, 1), (44, .invokespecial 86, 3), (47, .invokevirtual 89, 3), (50, .goto 144, 3), (53, .iload_n 2, 1), (54, .bipush 106, 2), (56, .if_icmp .ne 31, 3), (59, .aload_n 0, 1), (60, .getfield 31, 3), (63, .iload_n 3, 1), (64, .aaload, 1), (65, .getfield 67, 3), (68, .iconst 5, 1), (69, .if_icmp .le 18, 3), (72, .aload_n 0, 1), (73, .aload 4, 2), (75, .aload_n 0, 1), (76, .getfield 31, 3), (79, .iload_n 3, 1), (80, .aaload, 1), (81, .invokevirtual 96, 3), (84, .goto 110, 3), (87, .iload_n 2, 1), (88, .bipush 106, 2), (90, .if_icmp .ne 18, 3), (93, .aload 4, 2), (95, .iconst 5, 1), (96, .putfield 67, 3), (99, .aload 4, 2), (101, .iload_n 3, 1), (102, .putfield 70, 3), (105, .goto 89, 3), (108, .iload_n 2, 1), (109, .bipush 115, 2), (111, .if_icmp .ne 33, 3), (114, .aload_n 0, 1), (115, .getfield 36, 3), (118, .iconst 3, 1), (119, .iload_n 3, 1), (120, .iadd, 1), (121, .aaload, 1), (122, .arraylength, 1), (123, .ifCond .le 21, 3), (126, .aload_n 0, 1), (127, .iconst 3, 1), (128, .iload_n 3, 1), (129, .iadd, 1), (130, .invokevirtual 103, 3), (133, .aload 4, 2), (135, .getfield 77, 3), (138, .putfield 77, 3), (141, .goto 53, 3), (144, .iload_n 2, 1), (145, .bipush 103, 2), (147, .if_icmp .ne 29, 3), (150, .aload_n 0, 1), (151, .getfield 36, 3), (154, .iload_n 3, 1), (155, .aaload, 1), (156, .arraylength, 1), (157, .ifCond .le 19, 3), (160, .aload 4, 2), (162, .aload_n 0, 1), (163, .iload_n 3, 1), (164, .invokevirtual 103, 3), (167, .getfield 77, 3), (170, .putfield 77, 3), (173, .goto 21, 3), (176, .aload_n 0, 1), (177, .iload_n 2, 1), (178, .bipush 115, 2), (180, .if_icmp .ne 7, 3), (183, .iload_n 3, 1), (184, .goto 6, 3), (187, .iconst 3, 1), (188, .iload_n 3, 1), (189, .iadd, 1), (190, .iload_n 1, 1), (191, .invokevirtual 107, 3), (194, .return_, 1)]
theorem ck156 : pe_ctx 156 21 false none 5 T156 := ⟨rfl, rfl, rfl, rfl, by decide +kernel, by decide, by decide⟩
theorem b156_0 {d : Nat} {Φ : Option pe_V → pe_H → Prop} {σ : pe_H} {x1 : Int} {x2 : Int} {x3 : Int} {o4 : Option pe_V} (hL : ll_L σ := by assumption) (w0 : pe_in x1 := by unfold pe_in; omega) (h0 : 0 ≤ x1 := by first | assumption | omega) (h1 : x1 < 8 := by first | assumption | omega) (k : pe_X d 156 (8, [some (.inr (.inr 3)), some (.inl x1), some (.inl x2), some (.inl x3), some (.inr (.inr (pe_R σ 891 x1)))], [], σ) Φ) : pe_X d 156 (0, [some (.inr (.inr 3)), some (.inl x1), some (.inl x2), some (.inl x3), o4], [], σ) Φ := by
  refine pe_blk 0 5 ck156 [pe_K σ 3 = 21, 22 ≤ pe_K σ (pe_R σ 3 6) ∧ pe_K σ (pe_R σ 3 6) < 25, 0 ≤ (pe_w x1), (pe_w x1) < pe_L σ (pe_R σ 3 6)] (8, [some (.inr (.inr 3)), some (.inl x1), some (.inl x2), some (.inl x3), some (.inr (.inr (pe_R σ (pe_R σ 3 6) (pe_w x1))))], [], σ) rfl ?_ ?_
  · first
    | (simp (disch := omega) only [pe_all, pe_wi w0, ll_e6 hL, ll_k3 hL, ll_k891 hL, ll_n891 hL, pe_K_wI, pe_K_wR, pe_L_wI, pe_L_wR, pe_R_nej, pe_R_ner, pe_R_wI]; done)
    | (simp (disch := omega) only [pe_all, pe_wi w0, ll_e6 hL, ll_k3 hL, ll_k891 hL, ll_n891 hL, pe_K_wI, pe_K_wR, pe_L_wI, pe_L_wR, pe_R_nej, pe_R_ner, pe_R_wI]; (repeat' apply And.intro) <;> first | assumption | omega | decide)
  · try simp (disch := omega) only [pe_wi w0, ll_e6 hL, ll_k3 hL, ll_k891 hL, ll_n891 hL, pe_K_wI, pe_K_wR, pe_L_wI, pe_L_wR, pe_R_nej, pe_R_ner, pe_R_wI]
    exact k
theorem b156_8 {d : Nat} {Φ : Option pe_V → pe_H → Prop} {σ : pe_H} {x1 : Int} {x2 : Int} {x3 : Int} {a4 : Nat} (hL : ll_L σ := by assumption) (w0 : pe_in x2 := by unfold pe_in; omega)  (k1 : ¬ x2 = 106 → pe_X d 156 (30, [some (.inr (.inr 3)), some (.inl x1), some (.inl x2), some (.inl x3), some (.inr (.inr a4))], [], σ) Φ) (k2 : x2 = 106 → pe_X d 156 (14, [some (.inr (.inr 3)), some (.inl x1), some (.inl x2), some (.inl x3), some (.inr (.inr a4))], [], σ) Φ) : pe_X d 156 (8, [some (.inr (.inr 3)), some (.inl x1), some (.inl x2), some (.inl x3), some (.inr (.inr a4))], [], σ) Φ := by
  refine pe_blk 5 3 ck156 [] (cond (decide (¬ (pe_w x2) = (pe_w 106))) 30 14, [some (.inr (.inr 3)), some (.inl x1), some (.inl x2), some (.inl x3), some (.inr (.inr a4))], [], σ) rfl ?_ ?_
  · exact trivial
  · try simp (disch := omega) only [pe_wi w0, pe_wi (x := 106) ⟨by decide, by decide⟩]
    exact pe_two' k1 k2
theorem b156_14 {d : Nat} {Φ : Option pe_V → pe_H → Prop} {σ : pe_H} {x1 : Int} {x2 : Int} {x3 : Int} {a4 : Nat} (hL : ll_L σ := by assumption) (w0 : pe_in x1 := by unfold pe_in; omega) (w1 : pe_in x3 := by unfold pe_in; omega)  (k1 : x3 = x1 → pe_X d 156 (35, [some (.inr (.inr 3)), some (.inl x1), some (.inl x2), some (.inl x3), some (.inr (.inr a4))], [], σ) Φ) (k2 : ¬ (x3 = x1) → pe_X d 156 (19, [some (.inr (.inr 3)), some (.inl x1), some (.inl x2), some (.inl x3), some (.inr (.inr a4))], [], σ) Φ) : pe_X d 156 (14, [some (.inr (.inr 3)), some (.inl x1), some (.inl x2), some (.inl x3), some (.inr (.inr a4))], [], σ) Φ := by
  refine pe_blk 8 3 ck156 [] (cond (decide ((pe_w x3) = (pe_w x1))) 35 19, [some (.inr (.inr 3)), some (.inl x1), some (.inl x2), some (.inl x3), some (.inr (.inr a4))], [], σ) rfl ?_ ?_
  · exact trivial
  · try simp (disch := omega) only [pe_wi w0, pe_wi w1]
    exact pe_two k1 k2
theorem b156_19 {d : Nat} {Φ : Option pe_V → pe_H → Prop} {σ : pe_H} {x1 : Int} {x2 : Int} {x3 : Int} {a4 : Nat} (hL : ll_L σ := by assumption) (w0 : pe_in (pe_I σ 3 3) := by unfold pe_in; omega) (w1 : pe_in x3 := by unfold pe_in; omega)  (k1 : x3 < (pe_I σ 3 3) → pe_X d 156 (53, [some (.inr (.inr 3)), some (.inl x1), some (.inl x2), some (.inl x3), some (.inr (.inr a4))], [], σ) Φ) (k2 : ¬ (x3 < (pe_I σ 3 3)) → pe_X d 156 (27, [some (.inr (.inr 3)), some (.inl x1), some (.inl x2), some (.inl x3), some (.inr (.inr a4))], [], σ) Φ) : pe_X d 156 (19, [some (.inr (.inr 3)), some (.inl x1), some (.inl x2), some (.inl x3), some (.inr (.inr a4))], [], σ) Φ := by
  refine pe_blk 11 4 ck156 [pe_K σ 3 = 21] (cond (decide ((pe_w x3) < (pe_w (pe_I σ 3 3)))) 53 27, [some (.inr (.inr 3)), some (.inl x1), some (.inl x2), some (.inl x3), some (.inr (.inr a4))], [], σ) rfl ?_ ?_
  · first
    | (simp (disch := omega) only [pe_all, pe_wi w0, pe_wi w1, ll_k3 hL, pe_K_wI, pe_K_wR]; done)
    | (simp (disch := omega) only [pe_all, pe_wi w0, pe_wi w1, ll_k3 hL, pe_K_wI, pe_K_wR]; (repeat' apply And.intro) <;> first | assumption | omega | decide)
  · try simp (disch := omega) only [pe_wi w0, pe_wi w1, ll_k3 hL, pe_K_wI, pe_K_wR]
    exact pe_two k1 k2
theorem b156_27 {d : Nat} {Φ : Option pe_V → pe_H → Prop} {σ : pe_H} {o1 : Option pe_V} {o2 : Option pe_V} {o3 : Option pe_V} {a4 : Nat} (hL : ll_L σ := by assumption)   (k : pe_X d 156 (35, [some (.inr (.inr 3)), o1, o2, o3, some (.inr (.inr a4))], [], σ) Φ) : pe_X d 156 (27, [some (.inr (.inr 3)), o1, o2, o3, some (.inr (.inr a4))], [], σ) Φ := by
  refine pe_blk 15 1 ck156 [] (35, [some (.inr (.inr 3)), o1, o2, o3, some (.inr (.inr a4))], [], σ) rfl ?_ ?_
  · exact trivial
  · exact k
theorem b156_30 {d : Nat} {Φ : Option pe_V → pe_H → Prop} {σ : pe_H} {x1 : Int} {x2 : Int} {x3 : Int} {a4 : Nat} (hL : ll_L σ := by assumption) (w0 : pe_in x3 := by unfold pe_in; omega)  (k1 : x3 ≤ 2 → pe_X d 156 (53, [some (.inr (.inr 3)), some (.inl x1), some (.inl x2), some (.inl x3), some (.inr (.inr a4))], [], σ) Φ) (k2 : ¬ (x3 ≤ 2) → pe_X d 156 (35, [some (.inr (.inr 3)), some (.inl x1), some (.inl x2), some (.inl x3), some (.inr (.inr a4))], [], σ) Φ) : pe_X d 156 (30, [some (.inr (.inr 3)), some (.inl x1), some (.inl x2), some (.inl x3), some (.inr (.inr a4))], [], σ) Φ := by
  refine pe_blk 16 3 ck156 [] (cond (decide ((pe_w x3) ≤ (pe_w 2))) 53 35, [some (.inr (.inr 3)), some (.inl x1), some (.inl x2), some (.inl x3), some (.inr (.inr a4))], [], σ) rfl ?_ ?_
  · exact trivial
  · try simp (disch := omega) only [pe_wi w0, pe_wi (x := 2) ⟨by decide, by decide⟩]
    exact pe_two k1 k2
theorem b156_35 {d : Nat} {Φ : Option pe_V → pe_H → Prop} {σ : pe_H} {o1 : Option pe_V} {o2 : Option pe_V} {o3 : Option pe_V} {a4 : Nat} (hL : ll_L σ := by assumption)  (h0 : ¬ (pe_n σ) = 0 := by first | assumption | omega) (k : pe_M d 132 [.inr (.inr (pe_n σ)), .inl 6, .inr (.inr 0)] (pe_new σ 9 0 2) (fun r σ' => pe_X d 156 (47, [some (.inr (.inr 3)), o1, o2, o3, some (.inr (.inr a4))], r.toList ++ [.inr (.inr (pe_n σ)), .inr (.inr a4)], σ') Φ)) : pe_X d 156 (35, [some (.inr (.inr 3)), o1, o2, o3, some (.inr (.inr a4))], [], σ) Φ := by
  refine pe_blk 19 5 ck156 [] (44, [some (.inr (.inr 3)), o1, o2, o3, some (.inr (.inr a4))], [.inr (.inr 0), .inl 6, .inr (.inr (pe_n σ)), .inr (.inr (pe_n σ)), .inr (.inr a4)], pe_new σ 9 0 2) rfl ?_ ?_
  · exact trivial
  · exact pe_cal 24 ck156 rfl rfl rfl (show ¬ _ = 0 by assumption) k
theorem b156_47 {d : Nat} {Φ : Option pe_V → pe_H → Prop} {σ : pe_H} {o1 : Option pe_V} {o2 : Option pe_V} {o3 : Option pe_V} {o4 : Option pe_V} {b0 : Nat} {b1 : Nat} (hL : ll_L σ := by assumption)  (h0 : pe_K σ b0 = 20 := by first | assumption | omega) (k : pe_M d 139 [.inr (.inr b0), .inr (.inr b1)] σ (fun r σ' => pe_X d 156 (50, [some (.inr (.inr 3)), o1, o2, o3, o4], r.toList ++ [], σ') Φ)) : pe_X d 156 (47, [some (.inr (.inr 3)), o1, o2, o3, o4], [.inr (.inr b1), .inr (.inr b0)], σ) Φ := by
  have hrc : pe_K σ b0 = 20 := by first | assumption | (simp (disch := omega) only [pe_K_wI, pe_K_wR]; done) | (simp (disch := omega) only [pe_K_wI, pe_K_wR]; assumption)
  exact pe_cal 25 ck156 rfl rfl rfl ⟨hrc, by decide⟩ k
theorem b156_50 {d : Nat} {Φ : Option pe_V → pe_H → Prop} {σ : pe_H} {o1 : Option pe_V} {o2 : Option pe_V} {o3 : Option pe_V} {o4 : Option pe_V} (hL : ll_L σ := by assumption)   (k : pe_X d 156 (194, [some (.inr (.inr 3)), o1, o2, o3, o4], [], σ) Φ) : pe_X d 156 (50, [some (.inr (.inr 3)), o1, o2, o3, o4], [], σ) Φ := by
  refine pe_blk 26 1 ck156 [] (194, [some (.inr (.inr 3)), o1, o2, o3, o4], [], σ) rfl ?_ ?_
  · exact trivial
  · exact k
theorem b156_53 {d : Nat} {Φ : Option pe_V → pe_H → Prop} {σ : pe_H} {x1 : Int} {x2 : Int} {x3 : Int} {a4 : Nat} (hL : ll_L σ := by assumption) (w0 : pe_in x2 := by unfold pe_in; omega)  (k1 : ¬ x2 = 106 → pe_X d 156 (87, [some (.inr (.inr 3)), some (.inl x1), some (.inl x2), some (.inl x3), some (.inr (.inr a4))], [], σ) Φ) (k2 : x2 = 106 → pe_X d 156 (59, [some (.inr (.inr 3)), some (.inl x1), some (.inl x2), some (.inl x3), some (.inr (.inr a4))], [], σ) Φ) : pe_X d 156 (53, [some (.inr (.inr 3)), some (.inl x1), some (.inl x2), some (.inl x3), some (.inr (.inr a4))], [], σ) Φ := by
  refine pe_blk 27 3 ck156 [] (cond (decide (¬ (pe_w x2) = (pe_w 106))) 87 59, [some (.inr (.inr 3)), some (.inl x1), some (.inl x2), some (.inl x3), some (.inr (.inr a4))], [], σ) rfl ?_ ?_
  · exact trivial
  · try simp (disch := omega) only [pe_wi w0, pe_wi (x := 106) ⟨by decide, by decide⟩]
    exact pe_two' k1 k2
theorem b156_59 {d : Nat} {Φ : Option pe_V → pe_H → Prop} {σ : pe_H} {x1 : Int} {x2 : Int} {x3 : Int} {a4 : Nat} (hL : ll_L σ := by assumption) (w0 : pe_in x3 := by unfold pe_in; omega) (w1 : pe_in (pe_I σ (pe_R σ 891 x3) 3) := by unfold pe_in; omega) (h0 : 0 ≤ x3 := by first | assumption | omega) (h1 : x3 < 8 := by first | assumption | omega) (h2 : pe_K σ (pe_R σ 891 x3) = 20 := by first | assumption | omega) (k1 : (pe_I σ (pe_R σ 891 x3) 3) ≤ 5 → pe_X d 156 (87, [some (.inr (.inr 3)), some (.inl x1), some (.inl x2), some (.inl x3), some (.inr (.inr a4))], [], σ) Φ) (k2 : ¬ ((pe_I σ (pe_R σ 891 x3) 3) ≤ 5) → pe_X d 156 (72, [some (.inr (.inr 3)), some (.inl x1), some (.inl x2), some (.inl x3), some (.inr (.inr a4))], [], σ) Φ) : pe_X d 156 (59, [some (.inr (.inr 3)), some (.inl x1), some (.inl x2), some (.inl x3), some (.inr (.inr a4))], [], σ) Φ := by
  refine pe_blk 30 7 ck156 [pe_K σ 3 = 21, 22 ≤ pe_K σ (pe_R σ 3 6) ∧ pe_K σ (pe_R σ 3 6) < 25, 0 ≤ (pe_w x3), (pe_w x3) < pe_L σ (pe_R σ 3 6), pe_K σ (pe_R σ (pe_R σ 3 6) (pe_w x3)) = 20] (cond (decide ((pe_w (pe_I σ (pe_R σ (pe_R σ 3 6) (pe_w x3)) 3)) ≤ (pe_w 5))) 87 72, [some (.inr (.inr 3)), some (.inl x1), some (.inl x2), some (.inl x3), some (.inr (.inr a4))], [], σ) rfl ?_ ?_
  · first
    | (simp (disch := omega) only [pe_all, pe_wi w0, pe_wi w1, pe_wi (x := 5) ⟨by decide, by decide⟩, ll_e6 hL, ll_k3 hL, ll_k891 hL, ll_n891 hL, pe_K_wI, pe_K_wR, pe_L_wI, pe_L_wR, pe_R_nej, pe_R_ner, pe_R_wI]; done)
    | (simp (disch := omega) only [pe_all, pe_wi w0, pe_wi w1, pe_wi (x := 5) ⟨by decide, by decide⟩, ll_e6 hL, ll_k3 hL, ll_k891 hL, ll_n891 hL, pe_K_wI, pe_K_wR, pe_L_wI, pe_L_wR, pe_R_nej, pe_R_ner, pe_R_wI]; (repeat' apply And.intro) <;> first | assumption | omega | decide)
  · try simp (disch := omega) only [pe_wi w0, pe_wi w1, pe_wi (x := 5) ⟨by decide, by decide⟩, ll_e6 hL, ll_k3 hL, ll_k891 hL, ll_n891 hL, pe_K_wI, pe_K_wR, pe_L_wI, pe_L_wR, pe_R_nej, pe_R_ner, pe_R_wI]
    exact pe_two k1 k2
theorem b156_72 {d : Nat} {Φ : Option pe_V → pe_H → Prop} {σ : pe_H} {o1 : Option pe_V} {o2 : Option pe_V} {x3 : Int} {a4 : Nat} (hL : ll_L σ := by assumption) (w0 : pe_in x3 := by unfold pe_in; omega) (h0 : 0 ≤ x3 := by first | assumption | omega) (h1 : x3 < 8 := by first | assumption | omega) (k : pe_M d 154 [.inr (.inr 3), .inr (.inr a4), .inr (.inr (pe_R σ 891 x3))] σ (fun r σ' => pe_X d 156 (84, [some (.inr (.inr 3)), o1, o2, some (.inl x3), some (.inr (.inr a4))], r.toList ++ [], σ') Φ)) : pe_X d 156 (72, [some (.inr (.inr 3)), o1, o2, some (.inl x3), some (.inr (.inr a4))], [], σ) Φ := by
  refine pe_blk 37 6 ck156 [pe_K σ 3 = 21, 22 ≤ pe_K σ (pe_R σ 3 6) ∧ pe_K σ (pe_R σ 3 6) < 25, 0 ≤ (pe_w x3), (pe_w x3) < pe_L σ (pe_R σ 3 6)] (81, [some (.inr (.inr 3)), o1, o2, some (.inl x3), some (.inr (.inr a4))], [.inr (.inr (pe_R σ (pe_R σ 3 6) (pe_w x3))), .inr (.inr a4), .inr (.inr 3)], σ) rfl ?_ ?_
  · first
    | (simp (disch := omega) only [pe_all, pe_wi w0, ll_e6 hL, ll_k3 hL, ll_k891 hL, ll_n891 hL, pe_K_wI, pe_K_wR, pe_L_wI, pe_L_wR, pe_R_nej, pe_R_ner, pe_R_wI]; done)
    | (simp (disch := omega) only [pe_all, pe_wi w0, ll_e6 hL, ll_k3 hL, ll_k891 hL, ll_n891 hL, pe_K_wI, pe_K_wR, pe_L_wI, pe_L_wR, pe_R_nej, pe_R_ner, pe_R_wI]; (repeat' apply And.intro) <;> first | assumption | omega | decide)
  · try simp (disch := omega) only [pe_wi w0, ll_e6 hL, ll_k3 hL, ll_k891 hL, ll_n891 hL, pe_K_wI, pe_K_wR, pe_L_wI, pe_L_wR, pe_R_nej, pe_R_ner, pe_R_wI]
    have hrc : pe_K σ 3 = 21 := by first | assumption | (simp (disch := omega) only [pe_wi w0, ll_e6 hL, ll_k3 hL, ll_k891 hL, ll_n891 hL, pe_K_wI, pe_K_wR, pe_L_wI, pe_L_wR, pe_R_nej, pe_R_ner, pe_R_wI]; done) | (simp (disch := omega) only [pe_wi w0, ll_e6 hL, ll_k3 hL, ll_k891 hL, ll_n891 hL, pe_K_wI, pe_K_wR, pe_L_wI, pe_L_wR, pe_R_nej, pe_R_ner, pe_R_wI]; assumption)
    exact pe_cal 43 ck156 rfl rfl rfl ⟨hrc, by decide⟩ k
theorem b156_84 {d : Nat} {Φ : Option pe_V → pe_H → Prop} {σ : pe_H} {o1 : Option pe_V} {o2 : Option pe_V} {o3 : Option pe_V} {o4 : Option pe_V} (hL : ll_L σ := by assumption)   (k : pe_X d 156 (194, [some (.inr (.inr 3)), o1, o2, o3, o4], [], σ) Φ) : pe_X d 156 (84, [some (.inr (.inr 3)), o1, o2, o3, o4], [], σ) Φ := by
  refine pe_blk 44 1 ck156 [] (194, [some (.inr (.inr 3)), o1, o2, o3, o4], [], σ) rfl ?_ ?_
  · exact trivial
  · exact k
theorem b156_87 {d : Nat} {Φ : Option pe_V → pe_H → Prop} {σ : pe_H} {x1 : Int} {x2 : Int} {x3 : Int} {a4 : Nat} (hL : ll_L σ := by assumption) (w0 : pe_in x2 := by unfold pe_in; omega)  (k1 : ¬ x2 = 106 → pe_X d 156 (108, [some (.inr (.inr 3)), some (.inl x1), some (.inl x2), some (.inl x3), some (.inr (.inr a4))], [], σ) Φ) (k2 : x2 = 106 → pe_X d 156 (93, [some (.inr (.inr 3)), some (.inl x1), some (.inl x2), some (.inl x3), some (.inr (.inr a4))], [], σ) Φ) : pe_X d 156 (87, [some (.inr (.inr 3)), some (.inl x1), some (.inl x2), some (.inl x3), some (.inr (.inr a4))], [], σ) Φ := by
  refine pe_blk 45 3 ck156 [] (cond (decide (¬ (pe_w x2) = (pe_w 106))) 108 93, [some (.inr (.inr 3)), some (.inl x1), some (.inl x2), some (.inl x3), some (.inr (.inr a4))], [], σ) rfl ?_ ?_
  · exact trivial
  · try simp (disch := omega) only [pe_wi w0, pe_wi (x := 106) ⟨by decide, by decide⟩]
    exact pe_two' k1 k2
set_option maxRecDepth 8000 in
theorem b156_93 {d : Nat} {Φ : Option pe_V → pe_H → Prop} {σ : pe_H} {o1 : Option pe_V} {o2 : Option pe_V} {x3 : Int} {a4 : Nat} (hL : ll_L σ := by assumption)  (h0 : pe_K σ a4 = 20 := by first | assumption | omega) (k : pe_X d 156 (99, [some (.inr (.inr 3)), o1, o2, some (.inl x3), some (.inr (.inr a4))], [], pe_wI σ a4 3 5) Φ) : pe_X d 156 (93, [some (.inr (.inr 3)), o1, o2, some (.inl x3), some (.inr (.inr a4))], [], σ) Φ := by
  refine pe_blk 48 3 ck156 [pe_K σ a4 = 20] (99, [some (.inr (.inr 3)), o1, o2, some (.inl x3), some (.inr (.inr a4))], [], pe_wI σ a4 3 5) rfl ?_ ?_
  · first
    | (simp (disch := omega) only [pe_all, pe_K_wI, pe_K_wR]; done)
    | (simp (disch := omega) only [pe_all, pe_K_wI, pe_K_wR]; (repeat' apply And.intro) <;> first | assumption | omega | decide)
  · try simp (disch := omega) only [pe_K_wI, pe_K_wR]
    exact k
set_option maxRecDepth 8000 in
theorem b156_99 {d : Nat} {Φ : Option pe_V → pe_H → Prop} {σ : pe_H} {o1 : Option pe_V} {o2 : Option pe_V} {x3 : Int} {a4 : Nat} (hL : ll_L σ := by assumption)  (h0 : pe_K σ a4 = 20 := by first | assumption | omega) (k : pe_X d 156 (105, [some (.inr (.inr 3)), o1, o2, some (.inl x3), some (.inr (.inr a4))], [], pe_wI σ a4 8 x3) Φ) : pe_X d 156 (99, [some (.inr (.inr 3)), o1, o2, some (.inl x3), some (.inr (.inr a4))], [], σ) Φ := by
  refine pe_blk 51 3 ck156 [pe_K σ a4 = 20] (105, [some (.inr (.inr 3)), o1, o2, some (.inl x3), some (.inr (.inr a4))], [], pe_wI σ a4 8 x3) rfl ?_ ?_
  · first
    | (simp (disch := omega) only [pe_all, pe_K_wI, pe_K_wR]; done)
    | (simp (disch := omega) only [pe_all, pe_K_wI, pe_K_wR]; (repeat' apply And.intro) <;> first | assumption | omega | decide)
  · try simp (disch := omega) only [pe_K_wI, pe_K_wR]
    exact k
set_option maxRecDepth 8000 in
theorem b156_105 {d : Nat} {Φ : Option pe_V → pe_H → Prop} {σ : pe_H} {o1 : Option pe_V} {o2 : Option pe_V} {o3 : Option pe_V} {o4 : Option pe_V} (hL : ll_L σ := by assumption)   (k : pe_X d 156 (194, [some (.inr (.inr 3)), o1, o2, o3, o4], [], σ) Φ) : pe_X d 156 (105, [some (.inr (.inr 3)), o1, o2, o3, o4], [], σ) Φ := by
  refine pe_blk 54 1 ck156 [] (194, [some (.inr (.inr 3)), o1, o2, o3, o4], [], σ) rfl ?_ ?_
  · exact trivial
  · exact k
set_option maxRecDepth 8000 in
theorem b156_108 {d : Nat} {Φ : Option pe_V → pe_H → Prop} {σ : pe_H} {x1 : Int} {x2 : Int} {x3 : Int} {a4 : Nat} (hL : ll_L σ := by assumption) (w0 : pe_in x2 := by unfold pe_in; omega)  (k1 : ¬ x2 = 115 → pe_X d 156 (144, [some (.inr (.inr 3)), some (.inl x1), some (.inl x2), some (.inl x3), some (.inr (.inr a4))], [], σ) Φ) (k2 : x2 = 115 → pe_X d 156 (114, [some (.inr (.inr 3)), some (.inl x1), some (.inl x2), some (.inl x3), some (.inr (.inr a4))], [], σ) Φ) : pe_X d 156 (108, [some (.inr (.inr 3)), some (.inl x1), some (.inl x2), some (.inl x3), some (.inr (.inr a4))], [], σ) Φ := by
  refine pe_blk 55 3 ck156 [] (cond (decide (¬ (pe_w x2) = (pe_w 115))) 144 114, [some (.inr (.inr 3)), some (.inl x1), some (.inl x2), some (.inl x3), some (.inr (.inr a4))], [], σ) rfl ?_ ?_
  · exact trivial
  · try simp (disch := omega) only [pe_wi w0, pe_wi (x := 115) ⟨by decide, by decide⟩]
    exact pe_two' k1 k2
set_option maxRecDepth 8000 in
theorem b156_114 {d : Nat} {Φ : Option pe_V → pe_H → Prop} {σ : pe_H} {x1 : Int} {x2 : Int} {x3 : Int} {a4 : Nat} (hL : ll_L σ := by assumption) (w0 : pe_in (3 + x3) := by unfold pe_in; omega) (w1 : pe_in (pe_L σ (pe_R σ 892 (3 + x3))) := by unfold pe_in; omega) (h0 : 0 ≤ (3 + x3) := by first | assumption | omega) (h1 : (3 + x3) < 6 := by first | assumption | omega) (h2 : pe_K σ (pe_R σ 892 (3 + x3)) = 10 ∨ (22 ≤ pe_K σ (pe_R σ 892 (3 + x3)) ∧ pe_K σ (pe_R σ 892 (3 + x3)) < 26) := by first | assumption | omega) (k1 : (pe_L σ (pe_R σ 892 (3 + x3))) ≤ 0 → pe_X d 156 (144, [some (.inr (.inr 3)), some (.inl x1), some (.inl x2), some (.inl x3), some (.inr (.inr a4))], [], σ) Φ) (k2 : ¬ ((pe_L σ (pe_R σ 892 (3 + x3))) ≤ 0) → pe_X d 156 (126, [some (.inr (.inr 3)), some (.inl x1), some (.inl x2), some (.inl x3), some (.inr (.inr a4))], [], σ) Φ) : pe_X d 156 (114, [some (.inr (.inr 3)), some (.inl x1), some (.inl x2), some (.inl x3), some (.inr (.inr a4))], [], σ) Φ := by
  refine pe_blk 58 8 ck156 [pe_K σ 3 = 21, 22 ≤ pe_K σ (pe_R σ 3 7) ∧ pe_K σ (pe_R σ 3 7) < 25, 0 ≤ (pe_w (3 + x3)), (pe_w (3 + x3)) < pe_L σ (pe_R σ 3 7), pe_K σ (pe_R σ (pe_R σ 3 7) (pe_w (3 + x3))) = 10 ∨ (22 ≤ pe_K σ (pe_R σ (pe_R σ 3 7) (pe_w (3 + x3))) ∧ pe_K σ (pe_R σ (pe_R σ 3 7) (pe_w (3 + x3))) < 26)] (cond (decide ((pe_w (pe_L σ (pe_R σ (pe_R σ 3 7) (pe_w (3 + x3))))) ≤ 0)) 144 126, [some (.inr (.inr 3)), some (.inl x1), some (.inl x2), some (.inl x3), some (.inr (.inr a4))], [], σ) rfl ?_ ?_
  · first
    | (simp (disch := omega) only [pe_all, pe_wi w0, pe_wi w1, ll_e7 hL, ll_k3 hL, ll_k892 hL, ll_n892 hL, pe_K_wI, pe_K_wR, pe_L_wI, pe_L_wR, pe_R_nej, pe_R_ner, pe_R_wI]; done)
    | (simp (disch := omega) only [pe_all, pe_wi w0, pe_wi w1, ll_e7 hL, ll_k3 hL, ll_k892 hL, ll_n892 hL, pe_K_wI, pe_K_wR, pe_L_wI, pe_L_wR, pe_R_nej, pe_R_ner, pe_R_wI]; (repeat' apply And.intro) <;> first | assumption | omega | decide)
  · try simp (disch := omega) only [pe_wi w0, pe_wi w1, ll_e7 hL, ll_k3 hL, ll_k892 hL, ll_n892 hL, pe_K_wI, pe_K_wR, pe_L_wI, pe_L_wR, pe_R_nej, pe_R_ner, pe_R_wI]
    exact pe_two k1 k2
set_option maxRecDepth 8000 in
theorem b156_126 {d : Nat} {Φ : Option pe_V → pe_H → Prop} {σ : pe_H} {o1 : Option pe_V} {o2 : Option pe_V} {x3 : Int} {a4 : Nat} (hL : ll_L σ := by assumption)   (k : pe_M d 153 [.inr (.inr 3), .inl (3 + x3)] σ (fun r σ' => pe_X d 156 (133, [some (.inr (.inr 3)), o1, o2, some (.inl x3), some (.inr (.inr a4))], r.toList ++ [], σ') Φ)) : pe_X d 156 (126, [some (.inr (.inr 3)), o1, o2, some (.inl x3), some (.inr (.inr a4))], [], σ) Φ := by
  refine pe_blk 66 4 ck156 [] (130, [some (.inr (.inr 3)), o1, o2, some (.inl x3), some (.inr (.inr a4))], [.inl (3 + x3), .inr (.inr 3)], σ) rfl ?_ ?_
  · exact trivial
  · try simp (disch := omega) only [ll_k3 hL, pe_K_wI, pe_K_wR]
    have hrc : pe_K σ 3 = 21 := by first | assumption | (simp (disch := omega) only [ll_k3 hL, pe_K_wI, pe_K_wR]; done) | (simp (disch := omega) only [ll_k3 hL, pe_K_wI, pe_K_wR]; assumption)
    exact pe_cal 70 ck156 rfl rfl rfl ⟨hrc, by decide⟩ k
set_option maxRecDepth 8000 in
theorem b156_133 {d : Nat} {Φ : Option pe_V → pe_H → Prop} {σ : pe_H} {o1 : Option pe_V} {o2 : Option pe_V} {o3 : Option pe_V} {a4 : Nat} {b0 : Nat} (hL : ll_L σ := by assumption)  (h0 : pe_K σ a4 = 20 := by first | assumption | omega) (h1 : pe_K σ b0 = 20 := by first | assumption | omega) (k : pe_X d 156 (141, [some (.inr (.inr 3)), o1, o2, o3, some (.inr (.inr a4))], [], pe_wI σ b0 4 (pe_I σ a4 4)) Φ) : pe_X d 156 (133, [some (.inr (.inr 3)), o1, o2, o3, some (.inr (.inr a4))], [.inr (.inr b0)], σ) Φ := by
  refine pe_blk 71 3 ck156 [pe_K σ a4 = 20, pe_K σ b0 = 20] (141, [some (.inr (.inr 3)), o1, o2, o3, some (.inr (.inr a4))], [], pe_wI σ b0 4 (pe_I σ a4 4)) rfl ?_ ?_
  · first
    | (simp (disch := omega) only [pe_all, pe_K_wI, pe_K_wR]; done)
    | (simp (disch := omega) only [pe_all, pe_K_wI, pe_K_wR]; (repeat' apply And.intro) <;> first | assumption | omega | decide)
  · try simp (disch := omega) only [pe_K_wI, pe_K_wR]
    exact k
set_option maxRecDepth 8000 in
theorem b156_141 {d : Nat} {Φ : Option pe_V → pe_H → Prop} {σ : pe_H} {o1 : Option pe_V} {o2 : Option pe_V} {o3 : Option pe_V} {o4 : Option pe_V} (hL : ll_L σ := by assumption)   (k : pe_X d 156 (194, [some (.inr (.inr 3)), o1, o2, o3, o4], [], σ) Φ) : pe_X d 156 (141, [some (.inr (.inr 3)), o1, o2, o3, o4], [], σ) Φ := by
  refine pe_blk 74 1 ck156 [] (194, [some (.inr (.inr 3)), o1, o2, o3, o4], [], σ) rfl ?_ ?_
  · exact trivial
  · exact k
set_option maxRecDepth 8000 in
theorem b156_144 {d : Nat} {Φ : Option pe_V → pe_H → Prop} {σ : pe_H} {x1 : Int} {x2 : Int} {x3 : Int} {a4 : Nat} (hL : ll_L σ := by assumption) (w0 : pe_in x2 := by unfold pe_in; omega)  (k1 : ¬ x2 = 103 → pe_X d 156 (176, [some (.inr (.inr 3)), some (.inl x1), some (.inl x2), some (.inl x3), some (.inr (.inr a4))], [], σ) Φ) (k2 : x2 = 103 → pe_X d 156 (150, [some (.inr (.inr 3)), some (.inl x1), some (.inl x2), some (.inl x3), some (.inr (.inr a4))], [], σ) Φ) : pe_X d 156 (144, [some (.inr (.inr 3)), some (.inl x1), some (.inl x2), some (.inl x3), some (.inr (.inr a4))], [], σ) Φ := by
  refine pe_blk 75 3 ck156 [] (cond (decide (¬ (pe_w x2) = (pe_w 103))) 176 150, [some (.inr (.inr 3)), some (.inl x1), some (.inl x2), some (.inl x3), some (.inr (.inr a4))], [], σ) rfl ?_ ?_
  · exact trivial
  · try simp (disch := omega) only [pe_wi w0, pe_wi (x := 103) ⟨by decide, by decide⟩]
    exact pe_two' k1 k2
set_option maxRecDepth 8000 in
theorem b156_150 {d : Nat} {Φ : Option pe_V → pe_H → Prop} {σ : pe_H} {x1 : Int} {x2 : Int} {x3 : Int} {a4 : Nat} (hL : ll_L σ := by assumption) (w0 : pe_in x3 := by unfold pe_in; omega) (w1 : pe_in (pe_L σ (pe_R σ 892 x3)) := by unfold pe_in; omega) (h0 : 0 ≤ x3 := by first | assumption | omega) (h1 : x3 < 6 := by first | assumption | omega) (h2 : pe_K σ (pe_R σ 892 x3) = 10 ∨ (22 ≤ pe_K σ (pe_R σ 892 x3) ∧ pe_K σ (pe_R σ 892 x3) < 26) := by first | assumption | omega) (k1 : (pe_L σ (pe_R σ 892 x3)) ≤ 0 → pe_X d 156 (176, [some (.inr (.inr 3)), some (.inl x1), some (.inl x2), some (.inl x3), some (.inr (.inr a4))], [], σ) Φ) (k2 : ¬ ((pe_L σ (pe_R σ 892 x3)) ≤ 0) → pe_X d 156 (160, [some (.inr (.inr 3)), some (.inl x1), some (.inl x2), some (.inl x3), some (.inr (.inr a4))], [], σ) Φ) : pe_X d 156 (150, [some (.inr (.inr 3)), some (.inl x1), some (.inl x2), some (.inl x3), some (.inr (.inr a4))], [], σ) Φ := by
  refine pe_blk 78 6 ck156 [pe_K σ 3 = 21, 22 ≤ pe_K σ (pe_R σ 3 7) ∧ pe_K σ (pe_R σ 3 7) < 25, 0 ≤ (pe_w x3), (pe_w x3) < pe_L σ (pe_R σ 3 7), pe_K σ (pe_R σ (pe_R σ 3 7) (pe_w x3)) = 10 ∨ (22 ≤ pe_K σ (pe_R σ (pe_R σ 3 7) (pe_w x3)) ∧ pe_K σ (pe_R σ (pe_R σ 3 7) (pe_w x3)) < 26)] (cond (decide ((pe_w (pe_L σ (pe_R σ (pe_R σ 3 7) (pe_w x3)))) ≤ 0)) 176 160, [some (.inr (.inr 3)), some (.inl x1), some (.inl x2), some (.inl x3), some (.inr (.inr a4))], [], σ) rfl ?_ ?_
  · first
    | (simp (disch := omega) only [pe_all, pe_wi w0, pe_wi w1, ll_e7 hL, ll_k3 hL, ll_k892 hL, ll_n892 hL, pe_K_wI, pe_K_wR, pe_L_wI, pe_L_wR, pe_R_nej, pe_R_ner, pe_R_wI]; done)
    | (simp (disch := omega) only [pe_all, pe_wi w0, pe_wi w1, ll_e7 hL, ll_k3 hL, ll_k892 hL, ll_n892 hL, pe_K_wI, pe_K_wR, pe_L_wI, pe_L_wR, pe_R_nej, pe_R_ner, pe_R_wI]; (repeat' apply And.intro) <;> first | assumption | omega | decide)
  · try simp (disch := omega) only [pe_wi w0, pe_wi w1, ll_e7 hL, ll_k3 hL, ll_k892 hL, ll_n892 hL, pe_K_wI, pe_K_wR, pe_L_wI, pe_L_wR, pe_R_nej, pe_R_ner, pe_R_wI]
    exact pe_two k1 k2
set_option maxRecDepth 8000 in
theorem b156_160 {d : Nat} {Φ : Option pe_V → pe_H → Prop} {σ : pe_H} {o1 : Option pe_V} {o2 : Option pe_V} {x3 : Int} {a4 : Nat} (hL : ll_L σ := by assumption)   (k : pe_M d 153 [.inr (.inr 3), .inl x3] σ (fun r σ' => pe_X d 156 (167, [some (.inr (.inr 3)), o1, o2, some (.inl x3), some (.inr (.inr a4))], r.toList ++ [.inr (.inr a4)], σ') Φ)) : pe_X d 156 (160, [some (.inr (.inr 3)), o1, o2, some (.inl x3), some (.inr (.inr a4))], [], σ) Φ := by
  refine pe_blk 84 3 ck156 [] (164, [some (.inr (.inr 3)), o1, o2, some (.inl x3), some (.inr (.inr a4))], [.inl x3, .inr (.inr 3), .inr (.inr a4)], σ) rfl ?_ ?_
  · exact trivial
  · try simp (disch := omega) only [ll_k3 hL, pe_K_wI, pe_K_wR]
    have hrc : pe_K σ 3 = 21 := by first | assumption | (simp (disch := omega) only [ll_k3 hL, pe_K_wI, pe_K_wR]; done) | (simp (disch := omega) only [ll_k3 hL, pe_K_wI, pe_K_wR]; assumption)
    exact pe_cal 87 ck156 rfl rfl rfl ⟨hrc, by decide⟩ k
set_option maxRecDepth 8000 in
theorem b156_167 {d : Nat} {Φ : Option pe_V → pe_H → Prop} {σ : pe_H} {o1 : Option pe_V} {o2 : Option pe_V} {o3 : Option pe_V} {o4 : Option pe_V} {b0 : Nat} {b1 : Nat} (hL : ll_L σ := by assumption)  (h0 : pe_K σ b1 = 20 := by first | assumption | omega) (h1 : pe_K σ b0 = 20 := by first | assumption | omega) (k : pe_X d 156 (173, [some (.inr (.inr 3)), o1, o2, o3, o4], [], pe_wI σ b0 4 (pe_I σ b1 4)) Φ) : pe_X d 156 (167, [some (.inr (.inr 3)), o1, o2, o3, o4], [.inr (.inr b1), .inr (.inr b0)], σ) Φ := by
  refine pe_blk 88 2 ck156 [pe_K σ b1 = 20, pe_K σ b0 = 20] (173, [some (.inr (.inr 3)), o1, o2, o3, o4], [], pe_wI σ b0 4 (pe_I σ b1 4)) rfl ?_ ?_
  · first
    | (simp (disch := omega) only [pe_all, pe_K_wI, pe_K_wR]; done)
    | (simp (disch := omega) only [pe_all, pe_K_wI, pe_K_wR]; (repeat' apply And.intro) <;> first | assumption | omega | decide)
  · try simp (disch := omega) only [pe_K_wI, pe_K_wR]
    exact k
set_option maxRecDepth 8000 in
theorem b156_173 {d : Nat} {Φ : Option pe_V → pe_H → Prop} {σ : pe_H} {o1 : Option pe_V} {o2 : Option pe_V} {o3 : Option pe_V} {o4 : Option pe_V} (hL : ll_L σ := by assumption)   (k : pe_X d 156 (194, [some (.inr (.inr 3)), o1, o2, o3, o4], [], σ) Φ) : pe_X d 156 (173, [some (.inr (.inr 3)), o1, o2, o3, o4], [], σ) Φ := by
  refine pe_blk 90 1 ck156 [] (194, [some (.inr (.inr 3)), o1, o2, o3, o4], [], σ) rfl ?_ ?_
  · exact trivial
  · exact k
set_option maxRecDepth 8000 in
theorem b156_176 {d : Nat} {Φ : Option pe_V → pe_H → Prop} {σ : pe_H} {x1 : Int} {x2 : Int} {x3 : Int} {o4 : Option pe_V} (hL : ll_L σ := by assumption) (w0 : pe_in x2 := by unfold pe_in; omega)  (k1 : ¬ x2 = 115 → pe_X d 156 (187, [some (.inr (.inr 3)), some (.inl x1), some (.inl x2), some (.inl x3), o4], [.inr (.inr 3)], σ) Φ) (k2 : x2 = 115 → pe_X d 156 (183, [some (.inr (.inr 3)), some (.inl x1), some (.inl x2), some (.inl x3), o4], [.inr (.inr 3)], σ) Φ) : pe_X d 156 (176, [some (.inr (.inr 3)), some (.inl x1), some (.inl x2), some (.inl x3), o4], [], σ) Φ := by
  refine pe_blk 91 4 ck156 [] (cond (decide (¬ (pe_w x2) = (pe_w 115))) 187 183, [some (.inr (.inr 3)), some (.inl x1), some (.inl x2), some (.inl x3), o4], [.inr (.inr 3)], σ) rfl ?_ ?_
  · exact trivial
  · try simp (disch := omega) only [pe_wi w0, pe_wi (x := 115) ⟨by decide, by decide⟩]
    exact pe_two' k1 k2
set_option maxRecDepth 8000 in
theorem b156_183 {d : Nat} {Φ : Option pe_V → pe_H → Prop} {σ : pe_H} {x1 : Int} {o2 : Option pe_V} {x3 : Int} {o4 : Option pe_V} (hL : ll_L σ := by assumption)   (k : pe_X d 156 (190, [some (.inr (.inr 3)), some (.inl x1), o2, some (.inl x3), o4], [.inl x3, .inr (.inr 3)], σ) Φ) : pe_X d 156 (183, [some (.inr (.inr 3)), some (.inl x1), o2, some (.inl x3), o4], [.inr (.inr 3)], σ) Φ := by
  refine pe_blk 95 2 ck156 [] (190, [some (.inr (.inr 3)), some (.inl x1), o2, some (.inl x3), o4], [.inl x3, .inr (.inr 3)], σ) rfl ?_ ?_
  · exact trivial
  · exact k
set_option maxRecDepth 8000 in
theorem b156_187 {d : Nat} {Φ : Option pe_V → pe_H → Prop} {σ : pe_H} {x1 : Int} {o2 : Option pe_V} {x3 : Int} {o4 : Option pe_V} (hL : ll_L σ := by assumption)   (k : pe_X d 156 (190, [some (.inr (.inr 3)), some (.inl x1), o2, some (.inl x3), o4], [.inl (3 + x3), .inr (.inr 3)], σ) Φ) : pe_X d 156 (187, [some (.inr (.inr 3)), some (.inl x1), o2, some (.inl x3), o4], [.inr (.inr 3)], σ) Φ := by
  refine pe_blk 97 3 ck156 [] (190, [some (.inr (.inr 3)), some (.inl x1), o2, some (.inl x3), o4], [.inl (3 + x3), .inr (.inr 3)], σ) rfl ?_ ?_
  · exact trivial
  · exact k
set_option maxRecDepth 8000 in
theorem b156_190 {d : Nat} {Φ : Option pe_V → pe_H → Prop} {σ : pe_H} {x1 : Int} {o2 : Option pe_V} {o3 : Option pe_V} {o4 : Option pe_V} {s1 : Int} (hL : ll_L σ := by assumption)   (k : pe_M d 151 [.inr (.inr 3), .inl s1, .inl x1] σ (fun r σ' => pe_X d 156 (194, [some (.inr (.inr 3)), some (.inl x1), o2, o3, o4], r.toList ++ [], σ') Φ)) : pe_X d 156 (190, [some (.inr (.inr 3)), some (.inl x1), o2, o3, o4], [.inl s1, .inr (.inr 3)], σ) Φ := by
  refine pe_blk 100 1 ck156 [] (191, [some (.inr (.inr 3)), some (.inl x1), o2, o3, o4], [.inl x1, .inl s1, .inr (.inr 3)], σ) rfl ?_ ?_
  · exact trivial
  · try simp (disch := omega) only [ll_k3 hL, pe_K_wI, pe_K_wR]
    have hrc : pe_K σ 3 = 21 := by first | assumption | (simp (disch := omega) only [ll_k3 hL, pe_K_wI, pe_K_wR]; done) | (simp (disch := omega) only [ll_k3 hL, pe_K_wI, pe_K_wR]; assumption)
    exact pe_cal 101 ck156 rfl rfl rfl ⟨hrc, by decide⟩ k
set_option maxRecDepth 8000 in
theorem b156_194 {d : Nat} {Φ : Option pe_V → pe_H → Prop} {σ : pe_H} {o1 : Option pe_V} {o2 : Option pe_V} {o3 : Option pe_V} {o4 : Option pe_V} (hL : ll_L σ := by assumption)   (k : Φ none σ) : pe_X d 156 (194, [some (.inr (.inr 3)), o1, o2, o3, o4], [], σ) Φ := by
  exact pe_fine 102 ck156 rfl rfl rfl trivial k
