/-! THE CLASS, blocks 3: by program -/
-- StepMachines.stuck(I)I
def T93 : List (Nat × Instr × Nat) := [(0, .iload_n 1, 1), (1, .ifCond .lt 8, 3), (4, .iload_n 1, 1), (5, .iconst 1, 1), (6, .if_icmp .le 5, 3), (9, .iconst (-1), 1), (10, .ireturn, 1), (11, .aload_n 0, 1), (12, .invokevirtual 66, 3), (15, .astore_n 2, 1), (16, .iconst 0, 1), (17, .istore_n 3, 1), (18, .iload_n 3, 1), (19, .bipush 60, 2), (21, .if_icmp .gt 41, 3), (24, .aload_n 2, 1), (25, .invokevirtual 226, 3), (28, .ifCond .ne 23, 3), (31, .iload_n 1, 1), (32, .ifCond .ne 7, 3), (35, .iload_n 3, 1), (36, .goto 14, 3), (39, .aload_n 2, 1), (40, .invokevirtual 229, 3), (43, .aload_n 2, 1), (44, .invokevirtual 215, 3), (47, .iconst (-1), 1), (48, .ixor, 1), (49, .iand, 1), (50, .ireturn, 1), (51, .aload_n 2, 1), (52, .invokevirtual 212, 3), (55, .pop, 1), (56, .iinc 3 1, 3), (59, .goto (-41), 3), (62, .bipush (-4), 2), (64, .ireturn, 1)]
theorem ck93 : pe_ctx 93 8 false (some .int) 4 T93 := ⟨rfl, rfl, rfl, rfl, by decide +kernel, by decide, by decide⟩
theorem b93_0 {d : Nat} {Φ : Option pe_V → pe_H → Prop} {σ : pe_H} {a0 : Nat} {x1 : Int} {o2 : Option pe_V} {o3 : Option pe_V} (f_a0 : pk_Fs a0 σ := by assumption) (w0 : pe_in x1 := by unfold pe_in; omega)  (k1 : x1 < 0 → pe_X d 93 (9, [some (.inr (.inr a0)), some (.inl x1), o2, o3], [], σ) Φ) (k2 : ¬ (x1 < 0) → pe_X d 93 (4, [some (.inr (.inr a0)), some (.inl x1), o2, o3], [], σ) Φ) : pe_X d 93 (0, [some (.inr (.inr a0)), some (.inl x1), o2, o3], [], σ) Φ := by
  refine pe_blk 0 2 ck93 [] (cond (decide ((pe_w x1) < 0)) 9 4, [some (.inr (.inr a0)), some (.inl x1), o2, o3], [], σ) rfl ?_ ?_
  · exact trivial
  · try simp (disch := omega) only [pe_wi w0]
    exact pe_two k1 k2
theorem b93_4 {d : Nat} {Φ : Option pe_V → pe_H → Prop} {σ : pe_H} {a0 : Nat} {x1 : Int} {o2 : Option pe_V} {o3 : Option pe_V} (f_a0 : pk_Fs a0 σ := by assumption) (w0 : pe_in x1 := by unfold pe_in; omega)  (k1 : x1 ≤ 1 → pe_X d 93 (11, [some (.inr (.inr a0)), some (.inl x1), o2, o3], [], σ) Φ) (k2 : ¬ (x1 ≤ 1) → pe_X d 93 (9, [some (.inr (.inr a0)), some (.inl x1), o2, o3], [], σ) Φ) : pe_X d 93 (4, [some (.inr (.inr a0)), some (.inl x1), o2, o3], [], σ) Φ := by
  refine pe_blk 2 3 ck93 [] (cond (decide ((pe_w x1) ≤ (pe_w 1))) 11 9, [some (.inr (.inr a0)), some (.inl x1), o2, o3], [], σ) rfl ?_ ?_
  · exact trivial
  · try simp (disch := omega) only [pe_wi w0, pe_wi (x := 1) ⟨by decide, by decide⟩]
    exact pe_two k1 k2
theorem b93_9 {d : Nat} {Φ : Option pe_V → pe_H → Prop} {σ : pe_H} {o0 : Option pe_V} {o1 : Option pe_V} {o2 : Option pe_V} {o3 : Option pe_V}    (k : Φ (some (.inl (-1))) σ) : pe_X d 93 (9, [o0, o1, o2, o3], [], σ) Φ := by
  refine pe_blk 5 1 ck93 [] (10, [o0, o1, o2, o3], [.inl (-1)], σ) rfl ?_ ?_
  · exact trivial
  · exact pe_fine 6 ck93 rfl rfl rfl trivial k
theorem b93_11 {d : Nat} {Φ : Option pe_V → pe_H → Prop} {σ : pe_H} {a0 : Nat} {x1 : Int} {o2 : Option pe_V} {o3 : Option pe_V} (f_a0 : pk_Fs a0 σ := by assumption)   (k : pe_M d 122 [.inr (.inr a0)] σ (fun r σ' => pe_X d 93 (15, [some (.inr (.inr a0)), some (.inl x1), o2, o3], r.toList ++ [], σ') Φ)) : pe_X d 93 (11, [some (.inr (.inr a0)), some (.inl x1), o2, o3], [], σ) Φ := by
  refine pe_blk 7 1 ck93 [] (12, [some (.inr (.inr a0)), some (.inl x1), o2, o3], [.inr (.inr a0)], σ) rfl ?_ ?_
  · exact trivial
  · try simp (disch := omega) only [pe_K_wI, pe_K_wR, pk_sK f_a0]
    have hrc : pe_K σ a0 = 8 := by first | assumption | (simp (disch := omega) only [pe_K_wI, pe_K_wR, pk_sK f_a0]; done) | (simp (disch := omega) only [pe_K_wI, pe_K_wR, pk_sK f_a0]; assumption)
    exact pe_cal 8 ck93 rfl rfl rfl ⟨hrc, by decide⟩ k
theorem b93_15 {d : Nat} {Φ : Option pe_V → pe_H → Prop} {σ : pe_H} {o0 : Option pe_V} {x1 : Int} {o2 : Option pe_V} {o3 : Option pe_V} {b0 : Nat} (f_b0 : pk_Fm b0 σ := by assumption)   (k : pe_X d 93 (18, [o0, some (.inl x1), some (.inr (.inr b0)), some (.inl 0)], [], σ) Φ) : pe_X d 93 (15, [o0, some (.inl x1), o2, o3], [.inr (.inr b0)], σ) Φ := by
  refine pe_blk 9 3 ck93 [] (18, [o0, some (.inl x1), some (.inr (.inr b0)), some (.inl 0)], [], σ) rfl ?_ ?_
  · exact trivial
  · exact k
theorem b93_18 {d : Nat} {Φ : Option pe_V → pe_H → Prop} {σ : pe_H} {o0 : Option pe_V} {x1 : Int} {a2 : Nat} {x3 : Int} (f_a2 : pk_Fm a2 σ := by assumption) (w0 : pe_in x3 := by unfold pe_in; omega)  (k1 : 60 < x3 → pe_X d 93 (62, [o0, some (.inl x1), some (.inr (.inr a2)), some (.inl x3)], [], σ) Φ) (k2 : ¬ (60 < x3) → pe_X d 93 (24, [o0, some (.inl x1), some (.inr (.inr a2)), some (.inl x3)], [], σ) Φ) : pe_X d 93 (18, [o0, some (.inl x1), some (.inr (.inr a2)), some (.inl x3)], [], σ) Φ := by
  refine pe_blk 12 3 ck93 [] (cond (decide ((pe_w 60) < (pe_w x3))) 62 24, [o0, some (.inl x1), some (.inr (.inr a2)), some (.inl x3)], [], σ) rfl ?_ ?_
  · exact trivial
  · try simp (disch := omega) only [pe_wi w0, pe_wi (x := 60) ⟨by decide, by decide⟩]
    exact pe_two k1 k2
theorem b93_24 {d : Nat} {Φ : Option pe_V → pe_H → Prop} {σ : pe_H} {o0 : Option pe_V} {x1 : Int} {a2 : Nat} {x3 : Int} (f_a2 : pk_Fm a2 σ := by assumption)   (k : pe_M d 19 [.inr (.inr a2)] σ (fun r σ' => pe_X d 93 (28, [o0, some (.inl x1), some (.inr (.inr a2)), some (.inl x3)], r.toList ++ [], σ') Φ)) : pe_X d 93 (24, [o0, some (.inl x1), some (.inr (.inr a2)), some (.inl x3)], [], σ) Φ := by
  refine pe_blk 15 1 ck93 [] (25, [o0, some (.inl x1), some (.inr (.inr a2)), some (.inl x3)], [.inr (.inr a2)], σ) rfl ?_ ?_
  · exact trivial
  · try simp (disch := omega) only [pe_K_wI, pe_K_wR, pk_mK f_a2]
    have hrc : pe_K σ a2 = 2 := by first | assumption | (simp (disch := omega) only [pe_K_wI, pe_K_wR, pk_mK f_a2]; done) | (simp (disch := omega) only [pe_K_wI, pe_K_wR, pk_mK f_a2]; assumption)
    exact pe_cal 16 ck93 rfl rfl rfl ⟨hrc, by decide⟩ k
theorem b93_28 {d : Nat} {Φ : Option pe_V → pe_H → Prop} {σ : pe_H} {o0 : Option pe_V} {x1 : Int} {a2 : Nat} {x3 : Int} {s0 : Int} (f_a2 : pk_Fm a2 σ := by assumption) (w0 : pe_in s0 := by unfold pe_in; omega)  (k1 : ¬ s0 = 0 → pe_X d 93 (51, [o0, some (.inl x1), some (.inr (.inr a2)), some (.inl x3)], [], σ) Φ) (k2 : s0 = 0 → pe_X d 93 (31, [o0, some (.inl x1), some (.inr (.inr a2)), some (.inl x3)], [], σ) Φ) : pe_X d 93 (28, [o0, some (.inl x1), some (.inr (.inr a2)), some (.inl x3)], [.inl s0], σ) Φ := by
  refine pe_blk 17 1 ck93 [] (cond (decide (¬ (pe_w s0) = 0)) 51 31, [o0, some (.inl x1), some (.inr (.inr a2)), some (.inl x3)], [], σ) rfl ?_ ?_
  · exact trivial
  · try simp (disch := omega) only [pe_wi w0]
    exact pe_two' k1 k2
theorem b93_31 {d : Nat} {Φ : Option pe_V → pe_H → Prop} {σ : pe_H} {o0 : Option pe_V} {x1 : Int} {a2 : Nat} {x3 : Int} (f_a2 : pk_Fm a2 σ := by assumption) (w0 : pe_in x1 := by unfold pe_in; omega)  (k1 : ¬ x1 = 0 → pe_X d 93 (39, [o0, some (.inl x1), some (.inr (.inr a2)), some (.inl x3)], [], σ) Φ) (k2 : x1 = 0 → pe_X d 93 (35, [o0, some (.inl x1), some (.inr (.inr a2)), some (.inl x3)], [], σ) Φ) : pe_X d 93 (31, [o0, some (.inl x1), some (.inr (.inr a2)), some (.inl x3)], [], σ) Φ := by
  refine pe_blk 18 2 ck93 [] (cond (decide (¬ (pe_w x1) = 0)) 39 35, [o0, some (.inl x1), some (.inr (.inr a2)), some (.inl x3)], [], σ) rfl ?_ ?_
  · exact trivial
  · try simp (disch := omega) only [pe_wi w0]
    exact pe_two' k1 k2
theorem b93_35 {d : Nat} {Φ : Option pe_V → pe_H → Prop} {σ : pe_H} {o0 : Option pe_V} {o1 : Option pe_V} {o2 : Option pe_V} {x3 : Int}    (k : pe_X d 93 (50, [o0, o1, o2, some (.inl x3)], [.inl x3], σ) Φ) : pe_X d 93 (35, [o0, o1, o2, some (.inl x3)], [], σ) Φ := by
  refine pe_blk 20 2 ck93 [] (50, [o0, o1, o2, some (.inl x3)], [.inl x3], σ) rfl ?_ ?_
  · exact trivial
  · exact k
theorem b93_39 {d : Nat} {Φ : Option pe_V → pe_H → Prop} {σ : pe_H} {o0 : Option pe_V} {o1 : Option pe_V} {a2 : Nat} {o3 : Option pe_V} (f_a2 : pk_Fm a2 σ := by assumption)   (k : pe_M d 16 [.inr (.inr a2)] σ (fun r σ' => pe_X d 93 (43, [o0, o1, some (.inr (.inr a2)), o3], r.toList ++ [], σ') Φ)) : pe_X d 93 (39, [o0, o1, some (.inr (.inr a2)), o3], [], σ) Φ := by
  refine pe_blk 22 1 ck93 [] (40, [o0, o1, some (.inr (.inr a2)), o3], [.inr (.inr a2)], σ) rfl ?_ ?_
  · exact trivial
  · try simp (disch := omega) only [pe_K_wI, pe_K_wR, pk_mK f_a2]
    have hrc : pe_K σ a2 = 2 := by first | assumption | (simp (disch := omega) only [pe_K_wI, pe_K_wR, pk_mK f_a2]; done) | (simp (disch := omega) only [pe_K_wI, pe_K_wR, pk_mK f_a2]; assumption)
    exact pe_cal 23 ck93 rfl rfl rfl ⟨hrc, by decide⟩ k
theorem b93_43 {d : Nat} {Φ : Option pe_V → pe_H → Prop} {σ : pe_H} {o0 : Option pe_V} {o1 : Option pe_V} {a2 : Nat} {o3 : Option pe_V} {s0 : Int} (f_a2 : pk_Fm a2 σ := by assumption)   (k : pe_M d 17 [.inr (.inr a2)] σ (fun r σ' => pe_X d 93 (47, [o0, o1, some (.inr (.inr a2)), o3], r.toList ++ [.inl s0], σ') Φ)) : pe_X d 93 (43, [o0, o1, some (.inr (.inr a2)), o3], [.inl s0], σ) Φ := by
  refine pe_blk 24 1 ck93 [] (44, [o0, o1, some (.inr (.inr a2)), o3], [.inr (.inr a2), .inl s0], σ) rfl ?_ ?_
  · exact trivial
  · try simp (disch := omega) only [pe_K_wI, pe_K_wR, pk_mK f_a2]
    have hrc : pe_K σ a2 = 2 := by first | assumption | (simp (disch := omega) only [pe_K_wI, pe_K_wR, pk_mK f_a2]; done) | (simp (disch := omega) only [pe_K_wI, pe_K_wR, pk_mK f_a2]; assumption)
    exact pe_cal 25 ck93 rfl rfl rfl ⟨hrc, by decide⟩ k
theorem b93_47 {d : Nat} {Φ : Option pe_V → pe_H → Prop} {σ : pe_H} {o0 : Option pe_V} {o1 : Option pe_V} {o2 : Option pe_V} {o3 : Option pe_V} {s0 : Int} {s1 : Int}    (k : pe_X d 93 (50, [o0, o1, o2, o3], [.inl (pe_and s0 (pe_xor s1 (-1)))], σ) Φ) : pe_X d 93 (47, [o0, o1, o2, o3], [.inl s1, .inl s0], σ) Φ := by
  refine pe_blk 26 3 ck93 [] (50, [o0, o1, o2, o3], [.inl (pe_and s0 (pe_xor s1 (-1)))], σ) rfl ?_ ?_
  · exact trivial
  · exact k
theorem b93_50 {d : Nat} {Φ : Option pe_V → pe_H → Prop} {σ : pe_H} {o0 : Option pe_V} {o1 : Option pe_V} {o2 : Option pe_V} {o3 : Option pe_V} {s0 : Int}    (k : Φ (some (.inl s0)) σ) : pe_X d 93 (50, [o0, o1, o2, o3], [.inl s0], σ) Φ := by
  exact pe_fine 29 ck93 rfl rfl rfl trivial k
theorem b93_51 {d : Nat} {Φ : Option pe_V → pe_H → Prop} {σ : pe_H} {o0 : Option pe_V} {x1 : Int} {a2 : Nat} {x3 : Int} (f_a2 : pk_Fm a2 σ := by assumption)   (k : pe_M d 28 [.inr (.inr a2)] σ (fun r σ' => pe_X d 93 (55, [o0, some (.inl x1), some (.inr (.inr a2)), some (.inl x3)], r.toList ++ [], σ') Φ)) : pe_X d 93 (51, [o0, some (.inl x1), some (.inr (.inr a2)), some (.inl x3)], [], σ) Φ := by
  refine pe_blk 30 1 ck93 [] (52, [o0, some (.inl x1), some (.inr (.inr a2)), some (.inl x3)], [.inr (.inr a2)], σ) rfl ?_ ?_
  · exact trivial
  · try simp (disch := omega) only [pe_K_wI, pe_K_wR, pk_mK f_a2]
    have hrc : pe_K σ a2 = 2 := by first | assumption | (simp (disch := omega) only [pe_K_wI, pe_K_wR, pk_mK f_a2]; done) | (simp (disch := omega) only [pe_K_wI, pe_K_wR, pk_mK f_a2]; assumption)
    exact pe_cal 31 ck93 rfl rfl rfl ⟨hrc, by decide⟩ k
theorem b93_55 {d : Nat} {Φ : Option pe_V → pe_H → Prop} {σ : pe_H} {o0 : Option pe_V} {x1 : Int} {a2 : Nat} {x3 : Int} {s0 : Int} (f_a2 : pk_Fm a2 σ := by assumption)   (k : pe_X d 93 (18, [o0, some (.inl x1), some (.inr (.inr a2)), some (.inl (x3 + 1))], [], σ) Φ) : pe_X d 93 (55, [o0, some (.inl x1), some (.inr (.inr a2)), some (.inl x3)], [.inl s0], σ) Φ := by
  refine pe_blk 32 3 ck93 [] (18, [o0, some (.inl x1), some (.inr (.inr a2)), some (.inl (x3 + 1))], [], σ) rfl ?_ ?_
  · exact trivial
  · exact k
theorem b93_62 {d : Nat} {Φ : Option pe_V → pe_H → Prop} {σ : pe_H} {o0 : Option pe_V} {o1 : Option pe_V} {o2 : Option pe_V} {o3 : Option pe_V}    (k : Φ (some (.inl (-4))) σ) : pe_X d 93 (62, [o0, o1, o2, o3], [], σ) Φ := by
  refine pe_blk 35 1 ck93 [] (64, [o0, o1, o2, o3], [.inl (-4)], σ) rfl ?_ ?_
  · exact trivial
  · exact pe_fine 36 ck93 rfl rfl rfl trivial k
-- StepMachines.leastWidth(I)I
def T94 : List (Nat × Instr × Nat) := [(0, .iload_n 1, 1), (1, .ifCond .lt 9, 3), (4, .iload_n 1, 1), (5, .bipush 60, 2), (7, .if_icmp .le 5, 3), (10, .iconst (-1), 1), (11, .ireturn, 1), (12, .iconst 1, 1), (13, .istore_n 2, 1), (14, .iload_n 2, 1), (15, .bipush 8, 2), (17, .if_icmp .gt 37, 3), (20, .aload_n 0, 1), (21, .invokevirtual 66, 3), (24, .astore_n 3, 1), (25, .aload_n 3, 1), (26, .iload_n 2, 1), (27, .putfield 206, 3), (30, .aload_n 3, 1), (31, .iload_n 1, 1), (32, .invokevirtual 223, 3), (35, .aload_n 3, 1), (36, .invokevirtual 215, 3), (39, .aload_n 3, 1), (40, .invokevirtual 229, 3), (43, .if_icmp .ne 5, 3), (46, .iload_n 2, 1), (47, .ireturn, 1), (48, .iinc 2 1, 3), (51, .goto (-37), 3), (54, .bipush (-4), 2), (56, .ireturn, 1)]
theorem ck94 : pe_ctx 94 8 false (some .int) 4 T94 := ⟨rfl, rfl, rfl, rfl, by decide +kernel, by decide, by decide⟩
theorem b94_0 {d : Nat} {Φ : Option pe_V → pe_H → Prop} {σ : pe_H} {a0 : Nat} {x1 : Int} {o2 : Option pe_V} {o3 : Option pe_V} (f_a0 : pk_Fs a0 σ := by assumption) (w0 : pe_in x1 := by unfold pe_in; omega)  (k1 : x1 < 0 → pe_X d 94 (10, [some (.inr (.inr a0)), some (.inl x1), o2, o3], [], σ) Φ) (k2 : ¬ (x1 < 0) → pe_X d 94 (4, [some (.inr (.inr a0)), some (.inl x1), o2, o3], [], σ) Φ) : pe_X d 94 (0, [some (.inr (.inr a0)), some (.inl x1), o2, o3], [], σ) Φ := by
  refine pe_blk 0 2 ck94 [] (cond (decide ((pe_w x1) < 0)) 10 4, [some (.inr (.inr a0)), some (.inl x1), o2, o3], [], σ) rfl ?_ ?_
  · exact trivial
  · try simp (disch := omega) only [pe_wi w0]
    exact pe_two k1 k2
theorem b94_4 {d : Nat} {Φ : Option pe_V → pe_H → Prop} {σ : pe_H} {a0 : Nat} {x1 : Int} {o2 : Option pe_V} {o3 : Option pe_V} (f_a0 : pk_Fs a0 σ := by assumption) (w0 : pe_in x1 := by unfold pe_in; omega)  (k1 : x1 ≤ 60 → pe_X d 94 (12, [some (.inr (.inr a0)), some (.inl x1), o2, o3], [], σ) Φ) (k2 : ¬ (x1 ≤ 60) → pe_X d 94 (10, [some (.inr (.inr a0)), some (.inl x1), o2, o3], [], σ) Φ) : pe_X d 94 (4, [some (.inr (.inr a0)), some (.inl x1), o2, o3], [], σ) Φ := by
  refine pe_blk 2 3 ck94 [] (cond (decide ((pe_w x1) ≤ (pe_w 60))) 12 10, [some (.inr (.inr a0)), some (.inl x1), o2, o3], [], σ) rfl ?_ ?_
  · exact trivial
  · try simp (disch := omega) only [pe_wi w0, pe_wi (x := 60) ⟨by decide, by decide⟩]
    exact pe_two k1 k2
theorem b94_10 {d : Nat} {Φ : Option pe_V → pe_H → Prop} {σ : pe_H} {o0 : Option pe_V} {o1 : Option pe_V} {o2 : Option pe_V} {o3 : Option pe_V}    (k : Φ (some (.inl (-1))) σ) : pe_X d 94 (10, [o0, o1, o2, o3], [], σ) Φ := by
  refine pe_blk 5 1 ck94 [] (11, [o0, o1, o2, o3], [.inl (-1)], σ) rfl ?_ ?_
  · exact trivial
  · exact pe_fine 6 ck94 rfl rfl rfl trivial k
theorem b94_12 {d : Nat} {Φ : Option pe_V → pe_H → Prop} {σ : pe_H} {a0 : Nat} {x1 : Int} {o2 : Option pe_V} {o3 : Option pe_V} (f_a0 : pk_Fs a0 σ := by assumption)   (k : pe_X d 94 (14, [some (.inr (.inr a0)), some (.inl x1), some (.inl 1), o3], [], σ) Φ) : pe_X d 94 (12, [some (.inr (.inr a0)), some (.inl x1), o2, o3], [], σ) Φ := by
  refine pe_blk 7 2 ck94 [] (14, [some (.inr (.inr a0)), some (.inl x1), some (.inl 1), o3], [], σ) rfl ?_ ?_
  · exact trivial
  · exact k
theorem b94_14 {d : Nat} {Φ : Option pe_V → pe_H → Prop} {σ : pe_H} {a0 : Nat} {x1 : Int} {x2 : Int} {o3 : Option pe_V} (f_a0 : pk_Fs a0 σ := by assumption) (w0 : pe_in x2 := by unfold pe_in; omega)  (k1 : 8 < x2 → pe_X d 94 (54, [some (.inr (.inr a0)), some (.inl x1), some (.inl x2), o3], [], σ) Φ) (k2 : ¬ (8 < x2) → pe_X d 94 (20, [some (.inr (.inr a0)), some (.inl x1), some (.inl x2), o3], [], σ) Φ) : pe_X d 94 (14, [some (.inr (.inr a0)), some (.inl x1), some (.inl x2), o3], [], σ) Φ := by
  refine pe_blk 9 3 ck94 [] (cond (decide ((pe_w 8) < (pe_w x2))) 54 20, [some (.inr (.inr a0)), some (.inl x1), some (.inl x2), o3], [], σ) rfl ?_ ?_
  · exact trivial
  · try simp (disch := omega) only [pe_wi w0, pe_wi (x := 8) ⟨by decide, by decide⟩]
    exact pe_two k1 k2
theorem b94_20 {d : Nat} {Φ : Option pe_V → pe_H → Prop} {σ : pe_H} {a0 : Nat} {x1 : Int} {x2 : Int} {o3 : Option pe_V} (f_a0 : pk_Fs a0 σ := by assumption)   (k : pe_M d 122 [.inr (.inr a0)] σ (fun r σ' => pe_X d 94 (24, [some (.inr (.inr a0)), some (.inl x1), some (.inl x2), o3], r.toList ++ [], σ') Φ)) : pe_X d 94 (20, [some (.inr (.inr a0)), some (.inl x1), some (.inl x2), o3], [], σ) Φ := by
  refine pe_blk 12 1 ck94 [] (21, [some (.inr (.inr a0)), some (.inl x1), some (.inl x2), o3], [.inr (.inr a0)], σ) rfl ?_ ?_
  · exact trivial
  · try simp (disch := omega) only [pe_K_wI, pe_K_wR, pk_sK f_a0]
    have hrc : pe_K σ a0 = 8 := by first | assumption | (simp (disch := omega) only [pe_K_wI, pe_K_wR, pk_sK f_a0]; done) | (simp (disch := omega) only [pe_K_wI, pe_K_wR, pk_sK f_a0]; assumption)
    exact pe_cal 13 ck94 rfl rfl rfl ⟨hrc, by decide⟩ k
theorem b94_24 {d : Nat} {Φ : Option pe_V → pe_H → Prop} {σ : pe_H} {a0 : Nat} {x1 : Int} {x2 : Int} {o3 : Option pe_V} {b0 : Nat} (f_a0 : pk_Fs a0 σ := by assumption) (f_b0 : pk_Fm b0 σ := by assumption)   (k : pe_M d 27 [.inr (.inr b0), .inl x1] (pe_wI σ b0 5 x2) (fun r σ' => pe_X d 94 (35, [some (.inr (.inr a0)), some (.inl x1), some (.inl x2), some (.inr (.inr b0))], r.toList ++ [], σ') Φ)) : pe_X d 94 (24, [some (.inr (.inr a0)), some (.inl x1), some (.inl x2), o3], [.inr (.inr b0)], σ) Φ := by
  refine pe_blk 14 6 ck94 [pe_K σ b0 = 2] (32, [some (.inr (.inr a0)), some (.inl x1), some (.inl x2), some (.inr (.inr b0))], [.inl x1, .inr (.inr b0)], pe_wI σ b0 5 x2) rfl ?_ ?_
  · first
    | (simp (disch := omega) only [pe_all, pe_K_wI, pe_K_wR, pk_mK f_b0]; done)
    | (simp (disch := omega) only [pe_all, pe_K_wI, pe_K_wR, pk_mK f_b0]; (repeat' apply And.intro) <;> first | assumption | omega | decide)
  · try simp (disch := omega) only [pe_K_wI, pe_K_wR, pk_mK f_b0]
    have hrc : pe_K (pe_wI σ b0 5 x2) b0 = 2 := by first | assumption | (simp (disch := omega) only [pe_K_wI, pe_K_wR, pk_mK f_b0]; done) | (simp (disch := omega) only [pe_K_wI, pe_K_wR, pk_mK f_b0]; assumption)
    exact pe_cal 20 ck94 rfl rfl rfl ⟨hrc, by decide⟩ k
theorem b94_35 {d : Nat} {Φ : Option pe_V → pe_H → Prop} {σ : pe_H} {a0 : Nat} {x1 : Int} {x2 : Int} {a3 : Nat} (f_a0 : pk_Fs a0 σ := by assumption) (f_a3 : pk_Fm a3 σ := by assumption)   (k : pe_M d 17 [.inr (.inr a3)] σ (fun r σ' => pe_X d 94 (39, [some (.inr (.inr a0)), some (.inl x1), some (.inl x2), some (.inr (.inr a3))], r.toList ++ [], σ') Φ)) : pe_X d 94 (35, [some (.inr (.inr a0)), some (.inl x1), some (.inl x2), some (.inr (.inr a3))], [], σ) Φ := by
  refine pe_blk 21 1 ck94 [] (36, [some (.inr (.inr a0)), some (.inl x1), some (.inl x2), some (.inr (.inr a3))], [.inr (.inr a3)], σ) rfl ?_ ?_
  · exact trivial
  · try simp (disch := omega) only [pe_K_wI, pe_K_wR, pk_mK f_a3]
    have hrc : pe_K σ a3 = 2 := by first | assumption | (simp (disch := omega) only [pe_K_wI, pe_K_wR, pk_mK f_a3]; done) | (simp (disch := omega) only [pe_K_wI, pe_K_wR, pk_mK f_a3]; assumption)
    exact pe_cal 22 ck94 rfl rfl rfl ⟨hrc, by decide⟩ k
theorem b94_39 {d : Nat} {Φ : Option pe_V → pe_H → Prop} {σ : pe_H} {a0 : Nat} {x1 : Int} {x2 : Int} {a3 : Nat} {s0 : Int} (f_a0 : pk_Fs a0 σ := by assumption) (f_a3 : pk_Fm a3 σ := by assumption)   (k : pe_M d 16 [.inr (.inr a3)] σ (fun r σ' => pe_X d 94 (43, [some (.inr (.inr a0)), some (.inl x1), some (.inl x2), some (.inr (.inr a3))], r.toList ++ [.inl s0], σ') Φ)) : pe_X d 94 (39, [some (.inr (.inr a0)), some (.inl x1), some (.inl x2), some (.inr (.inr a3))], [.inl s0], σ) Φ := by
  refine pe_blk 23 1 ck94 [] (40, [some (.inr (.inr a0)), some (.inl x1), some (.inl x2), some (.inr (.inr a3))], [.inr (.inr a3), .inl s0], σ) rfl ?_ ?_
  · exact trivial
  · try simp (disch := omega) only [pe_K_wI, pe_K_wR, pk_mK f_a3]
    have hrc : pe_K σ a3 = 2 := by first | assumption | (simp (disch := omega) only [pe_K_wI, pe_K_wR, pk_mK f_a3]; done) | (simp (disch := omega) only [pe_K_wI, pe_K_wR, pk_mK f_a3]; assumption)
    exact pe_cal 24 ck94 rfl rfl rfl ⟨hrc, by decide⟩ k
theorem b94_43 {d : Nat} {Φ : Option pe_V → pe_H → Prop} {σ : pe_H} {a0 : Nat} {x1 : Int} {x2 : Int} {o3 : Option pe_V} {s0 : Int} {s1 : Int} (f_a0 : pk_Fs a0 σ := by assumption) (w0 : pe_in s1 := by unfold pe_in; omega) (w1 : pe_in s0 := by unfold pe_in; omega)  (k1 : ¬ s0 = s1 → pe_X d 94 (48, [some (.inr (.inr a0)), some (.inl x1), some (.inl x2), o3], [], σ) Φ) (k2 : s0 = s1 → pe_X d 94 (46, [some (.inr (.inr a0)), some (.inl x1), some (.inl x2), o3], [], σ) Φ) : pe_X d 94 (43, [some (.inr (.inr a0)), some (.inl x1), some (.inl x2), o3], [.inl s1, .inl s0], σ) Φ := by
  refine pe_blk 25 1 ck94 [] (cond (decide (¬ (pe_w s0) = (pe_w s1))) 48 46, [some (.inr (.inr a0)), some (.inl x1), some (.inl x2), o3], [], σ) rfl ?_ ?_
  · exact trivial
  · try simp (disch := omega) only [pe_wi w0, pe_wi w1]
    exact pe_two' k1 k2
theorem b94_46 {d : Nat} {Φ : Option pe_V → pe_H → Prop} {σ : pe_H} {o0 : Option pe_V} {o1 : Option pe_V} {x2 : Int} {o3 : Option pe_V}    (k : Φ (some (.inl x2)) σ) : pe_X d 94 (46, [o0, o1, some (.inl x2), o3], [], σ) Φ := by
  refine pe_blk 26 1 ck94 [] (47, [o0, o1, some (.inl x2), o3], [.inl x2], σ) rfl ?_ ?_
  · exact trivial
  · exact pe_fine 27 ck94 rfl rfl rfl trivial k
theorem b94_48 {d : Nat} {Φ : Option pe_V → pe_H → Prop} {σ : pe_H} {a0 : Nat} {x1 : Int} {x2 : Int} {o3 : Option pe_V} (f_a0 : pk_Fs a0 σ := by assumption)   (k : pe_X d 94 (14, [some (.inr (.inr a0)), some (.inl x1), some (.inl (x2 + 1)), o3], [], σ) Φ) : pe_X d 94 (48, [some (.inr (.inr a0)), some (.inl x1), some (.inl x2), o3], [], σ) Φ := by
  refine pe_blk 28 2 ck94 [] (14, [some (.inr (.inr a0)), some (.inl x1), some (.inl (x2 + 1)), o3], [], σ) rfl ?_ ?_
  · exact trivial
  · exact k
theorem b94_54 {d : Nat} {Φ : Option pe_V → pe_H → Prop} {σ : pe_H} {o0 : Option pe_V} {o1 : Option pe_V} {o2 : Option pe_V} {o3 : Option pe_V}    (k : Φ (some (.inl (-4))) σ) : pe_X d 94 (54, [o0, o1, o2, o3], [], σ) Φ := by
  refine pe_blk 30 1 ck94 [] (56, [o0, o1, o2, o3], [.inl (-4)], σ) rfl ?_ ?_
  · exact trivial
  · exact pe_fine 31 ck94 rfl rfl rfl trivial k
-- StepMachines.closeBest(I)I
-- StepMachines.sendBest(II)I
def T96 : List (Nat × Instr × Nat) := [(0, .aload_n 0, 1), (1, .iload_n 1, 1), (2, .invokevirtual 107, 3), (5, .ifCond .eq 12, 3), (8, .iload_n 2, 1), (9, .ifCond .lt 8, 3), (12, .iload_n 2, 1), (13, .iconst 1, 1), (14, .if_icmp .le 5, 3), (17, .iconst (-1), 1), (18, .ireturn, 1), (19, .aload_n 0, 1), (20, .getfield 10, 3), (23, .getfield 110, 3), (26, .iload_n 1, 1), (27, .aaload, 1), (28, .invokevirtual 189, 3), (31, .ifCond .ne 6, 3), (34, .bipush (-3), 2), (36, .ireturn, 1), (37, .iconst 0, 1), (38, .istore_n 3, 1), (39, .bipush (-4), 2), (41, .istore 4, 2), (43, .iconst 0, 1), (44, .istore 5, 2), (46, .iload 5, 2), (48, .bipush 20, 2), (50, .if_icmp .gt 53, 3), (53, .aload_n 0, 1), (54, .invokevirtual 66, 3), (57, .astore 6, 2), (59, .aload 6, 2), (61, .iload_n 1, 1), (62, .iload 5, 2), (64, .invokevirtual 193, 3), (67, .aload 6, 2), (69, .getfield 110, 3), (72, .iload_n 1, 1), (73, .aaload, 1), (74, .getfield 240, 3), (77, .iload 4, 2), (79, .if_icmp .le 18, 3), (82, .aload 6, 2), (84, .getfield 110, 3), (87, .iload_n 1, 1), (88, .aaload, 1), (89, .getfield 240, 3), (92, .istore 4, 2), (94, .iload 5, 2), (96, .istore_n 3, 1), (97, .iinc 5 1, 3), (100, .goto (-54), 3), (103, .iload_n 2, 1), (104, .ifCond .ne 7, 3), (107, .iload_n 3, 1), (108, .goto 5, 3), (111, .iload 4, 2), (113, .ireturn, 1)]
theorem ck96 : pe_ctx 96 8 false (some .int) 7 T96 := ⟨rfl, rfl, rfl, rfl, by decide +kernel, by decide, by decide⟩
theorem b96_0 {d : Nat} {Φ : Option pe_V → pe_H → Prop} {σ : pe_H} {a0 : Nat} {x1 : Int} {x2 : Int} {o3 : Option pe_V} {o4 : Option pe_V} {o5 : Option pe_V} {o6 : Option pe_V} (f_a0 : pk_Fs a0 σ := by assumption)   (k : pe_M d 117 [.inr (.inr a0), .inl x1] σ (fun r σ' => pe_X d 96 (5, [some (.inr (.inr a0)), some (.inl x1), some (.inl x2), o3, o4, o5, o6], r.toList ++ [], σ') Φ)) : pe_X d 96 (0, [some (.inr (.inr a0)), some (.inl x1), some (.inl x2), o3, o4, o5, o6], [], σ) Φ := by
  refine pe_blk 0 2 ck96 [] (2, [some (.inr (.inr a0)), some (.inl x1), some (.inl x2), o3, o4, o5, o6], [.inl x1, .inr (.inr a0)], σ) rfl ?_ ?_
  · exact trivial
  · try simp (disch := omega) only [pe_K_wI, pe_K_wR, pk_sK f_a0]
    have hrc : pe_K σ a0 = 8 := by first | assumption | (simp (disch := omega) only [pe_K_wI, pe_K_wR, pk_sK f_a0]; done) | (simp (disch := omega) only [pe_K_wI, pe_K_wR, pk_sK f_a0]; assumption)
    exact pe_cal 2 ck96 rfl rfl rfl ⟨hrc, by decide⟩ k
theorem b96_5 {d : Nat} {Φ : Option pe_V → pe_H → Prop} {σ : pe_H} {a0 : Nat} {x1 : Int} {x2 : Int} {o3 : Option pe_V} {o4 : Option pe_V} {o5 : Option pe_V} {o6 : Option pe_V} {s0 : Int} (f_a0 : pk_Fs a0 σ := by assumption) (w0 : pe_in s0 := by unfold pe_in; omega)  (k1 : s0 = 0 → pe_X d 96 (17, [some (.inr (.inr a0)), some (.inl x1), some (.inl x2), o3, o4, o5, o6], [], σ) Φ) (k2 : ¬ (s0 = 0) → pe_X d 96 (8, [some (.inr (.inr a0)), some (.inl x1), some (.inl x2), o3, o4, o5, o6], [], σ) Φ) : pe_X d 96 (5, [some (.inr (.inr a0)), some (.inl x1), some (.inl x2), o3, o4, o5, o6], [.inl s0], σ) Φ := by
  refine pe_blk 3 1 ck96 [] (cond (decide ((pe_w s0) = 0)) 17 8, [some (.inr (.inr a0)), some (.inl x1), some (.inl x2), o3, o4, o5, o6], [], σ) rfl ?_ ?_
  · exact trivial
  · try simp (disch := omega) only [pe_wi w0]
    exact pe_two k1 k2
theorem b96_8 {d : Nat} {Φ : Option pe_V → pe_H → Prop} {σ : pe_H} {a0 : Nat} {x1 : Int} {x2 : Int} {o3 : Option pe_V} {o4 : Option pe_V} {o5 : Option pe_V} {o6 : Option pe_V} (f_a0 : pk_Fs a0 σ := by assumption) (w0 : pe_in x2 := by unfold pe_in; omega)  (k1 : x2 < 0 → pe_X d 96 (17, [some (.inr (.inr a0)), some (.inl x1), some (.inl x2), o3, o4, o5, o6], [], σ) Φ) (k2 : ¬ (x2 < 0) → pe_X d 96 (12, [some (.inr (.inr a0)), some (.inl x1), some (.inl x2), o3, o4, o5, o6], [], σ) Φ) : pe_X d 96 (8, [some (.inr (.inr a0)), some (.inl x1), some (.inl x2), o3, o4, o5, o6], [], σ) Φ := by
  refine pe_blk 4 2 ck96 [] (cond (decide ((pe_w x2) < 0)) 17 12, [some (.inr (.inr a0)), some (.inl x1), some (.inl x2), o3, o4, o5, o6], [], σ) rfl ?_ ?_
  · exact trivial
  · try simp (disch := omega) only [pe_wi w0]
    exact pe_two k1 k2
theorem b96_12 {d : Nat} {Φ : Option pe_V → pe_H → Prop} {σ : pe_H} {a0 : Nat} {x1 : Int} {x2 : Int} {o3 : Option pe_V} {o4 : Option pe_V} {o5 : Option pe_V} {o6 : Option pe_V} (f_a0 : pk_Fs a0 σ := by assumption) (w0 : pe_in x2 := by unfold pe_in; omega)  (k1 : x2 ≤ 1 → pe_X d 96 (19, [some (.inr (.inr a0)), some (.inl x1), some (.inl x2), o3, o4, o5, o6], [], σ) Φ) (k2 : ¬ (x2 ≤ 1) → pe_X d 96 (17, [some (.inr (.inr a0)), some (.inl x1), some (.inl x2), o3, o4, o5, o6], [], σ) Φ) : pe_X d 96 (12, [some (.inr (.inr a0)), some (.inl x1), some (.inl x2), o3, o4, o5, o6], [], σ) Φ := by
  refine pe_blk 6 3 ck96 [] (cond (decide ((pe_w x2) ≤ (pe_w 1))) 19 17, [some (.inr (.inr a0)), some (.inl x1), some (.inl x2), o3, o4, o5, o6], [], σ) rfl ?_ ?_
  · exact trivial
  · try simp (disch := omega) only [pe_wi w0, pe_wi (x := 1) ⟨by decide, by decide⟩]
    exact pe_two k1 k2
theorem b96_17 {d : Nat} {Φ : Option pe_V → pe_H → Prop} {σ : pe_H} {o0 : Option pe_V} {o1 : Option pe_V} {o2 : Option pe_V} {o3 : Option pe_V} {o4 : Option pe_V} {o5 : Option pe_V} {o6 : Option pe_V}    (k : Φ (some (.inl (-1))) σ) : pe_X d 96 (17, [o0, o1, o2, o3, o4, o5, o6], [], σ) Φ := by
  refine pe_blk 9 1 ck96 [] (18, [o0, o1, o2, o3, o4, o5, o6], [.inl (-1)], σ) rfl ?_ ?_
  · exact trivial
  · exact pe_fine 10 ck96 rfl rfl rfl trivial k
theorem b96_19 {d : Nat} {Φ : Option pe_V → pe_H → Prop} {σ : pe_H} {a0 : Nat} {x1 : Int} {x2 : Int} {o3 : Option pe_V} {o4 : Option pe_V} {o5 : Option pe_V} {o6 : Option pe_V} (f_a0 : pk_Fs a0 σ := by assumption) (w0 : pe_in x1 := by unfold pe_in; omega) (h0 : 0 ≤ x1 := by first | assumption | omega) (h1 : x1 < 8 := by first | assumption | omega) (k : pe_M d 4 [.inr (.inr (pk_c (a0 + 1) x1))] σ (fun r σ' => pe_X d 96 (31, [some (.inr (.inr a0)), some (.inl x1), some (.inl x2), o3, o4, o5, o6], r.toList ++ [], σ') Φ)) : pe_X d 96 (19, [some (.inr (.inr a0)), some (.inl x1), some (.inl x2), o3, o4, o5, o6], [], σ) Φ := by
  refine pe_blk 11 5 ck96 [pe_K σ a0 = 8, pe_K σ (pe_R σ a0 0) = 2, 12 ≤ pe_K σ (pe_R σ (pe_R σ a0 0) 1) ∧ pe_K σ (pe_R σ (pe_R σ a0 0) 1) < 19, 0 ≤ (pe_w x1), (pe_w x1) < pe_L σ (pe_R σ (pe_R σ a0 0) 1)] (28, [some (.inr (.inr a0)), some (.inl x1), some (.inl x2), o3, o4, o5, o6], [.inr (.inr (pe_R σ (pe_R σ (pe_R σ a0 0) 1) (pe_w x1)))], σ) rfl ?_ ?_
  · first
    | (simp (disch := omega) only [pe_all, pe_wi w0, pe_K_wI, pe_K_wR, pe_L_wI, pe_L_wR, pe_R_nej, pe_R_ner, pe_R_wI, pk_mE2 (pk_sM0 f_a0) (i := x1) (by omega) (by omega), pk_mK (pk_sM0 f_a0), pk_mK2 (pk_sM0 f_a0), pk_mL2 (pk_sM0 f_a0), pk_mR2 (pk_sM0 f_a0), pk_oK (pk_mO (pk_sM0 f_a0) (i := x1) (by omega) (by omega)), pk_sK f_a0, pk_sR0 f_a0]; done)
    | (simp (disch := omega) only [pe_all, pe_wi w0, pe_K_wI, pe_K_wR, pe_L_wI, pe_L_wR, pe_R_nej, pe_R_ner, pe_R_wI, pk_mE2 (pk_sM0 f_a0) (i := x1) (by omega) (by omega), pk_mK (pk_sM0 f_a0), pk_mK2 (pk_sM0 f_a0), pk_mL2 (pk_sM0 f_a0), pk_mR2 (pk_sM0 f_a0), pk_oK (pk_mO (pk_sM0 f_a0) (i := x1) (by omega) (by omega)), pk_sK f_a0, pk_sR0 f_a0]; (repeat' apply And.intro) <;> first | assumption | omega | decide)
  · try simp (disch := omega) only [pe_wi w0, pe_K_wI, pe_K_wR, pe_L_wI, pe_L_wR, pe_R_nej, pe_R_ner, pe_R_wI, pk_mE2 (pk_sM0 f_a0) (i := x1) (by omega) (by omega), pk_mK (pk_sM0 f_a0), pk_mK2 (pk_sM0 f_a0), pk_mL2 (pk_sM0 f_a0), pk_mR2 (pk_sM0 f_a0), pk_oK (pk_mO (pk_sM0 f_a0) (i := x1) (by omega) (by omega)), pk_sK f_a0, pk_sR0 f_a0]
    have hrc : pe_K σ (pk_c (a0 + 1) x1) = 0 := by first | assumption | (simp (disch := omega) only [pe_wi w0, pe_K_wI, pe_K_wR, pe_L_wI, pe_L_wR, pe_R_nej, pe_R_ner, pe_R_wI, pk_mE2 (pk_sM0 f_a0) (i := x1) (by omega) (by omega), pk_mK (pk_sM0 f_a0), pk_mK2 (pk_sM0 f_a0), pk_mL2 (pk_sM0 f_a0), pk_mR2 (pk_sM0 f_a0), pk_oK (pk_mO (pk_sM0 f_a0) (i := x1) (by omega) (by omega)), pk_sK f_a0, pk_sR0 f_a0]; done) | (simp (disch := omega) only [pe_wi w0, pe_K_wI, pe_K_wR, pe_L_wI, pe_L_wR, pe_R_nej, pe_R_ner, pe_R_wI, pk_mE2 (pk_sM0 f_a0) (i := x1) (by omega) (by omega), pk_mK (pk_sM0 f_a0), pk_mK2 (pk_sM0 f_a0), pk_mL2 (pk_sM0 f_a0), pk_mR2 (pk_sM0 f_a0), pk_oK (pk_mO (pk_sM0 f_a0) (i := x1) (by omega) (by omega)), pk_sK f_a0, pk_sR0 f_a0]; assumption)
    exact pe_cal 16 ck96 rfl rfl rfl ⟨hrc, by decide⟩ k
theorem b96_31 {d : Nat} {Φ : Option pe_V → pe_H → Prop} {σ : pe_H} {a0 : Nat} {x1 : Int} {x2 : Int} {o3 : Option pe_V} {o4 : Option pe_V} {o5 : Option pe_V} {o6 : Option pe_V} {s0 : Int} (f_a0 : pk_Fs a0 σ := by assumption) (w0 : pe_in s0 := by unfold pe_in; omega)  (k1 : ¬ s0 = 0 → pe_X d 96 (37, [some (.inr (.inr a0)), some (.inl x1), some (.inl x2), o3, o4, o5, o6], [], σ) Φ) (k2 : s0 = 0 → pe_X d 96 (34, [some (.inr (.inr a0)), some (.inl x1), some (.inl x2), o3, o4, o5, o6], [], σ) Φ) : pe_X d 96 (31, [some (.inr (.inr a0)), some (.inl x1), some (.inl x2), o3, o4, o5, o6], [.inl s0], σ) Φ := by
  refine pe_blk 17 1 ck96 [] (cond (decide (¬ (pe_w s0) = 0)) 37 34, [some (.inr (.inr a0)), some (.inl x1), some (.inl x2), o3, o4, o5, o6], [], σ) rfl ?_ ?_
  · exact trivial
  · try simp (disch := omega) only [pe_wi w0]
    exact pe_two' k1 k2
theorem b96_34 {d : Nat} {Φ : Option pe_V → pe_H → Prop} {σ : pe_H} {o0 : Option pe_V} {o1 : Option pe_V} {o2 : Option pe_V} {o3 : Option pe_V} {o4 : Option pe_V} {o5 : Option pe_V} {o6 : Option pe_V}    (k : Φ (some (.inl (-3))) σ) : pe_X d 96 (34, [o0, o1, o2, o3, o4, o5, o6], [], σ) Φ := by
  refine pe_blk 18 1 ck96 [] (36, [o0, o1, o2, o3, o4, o5, o6], [.inl (-3)], σ) rfl ?_ ?_
  · exact trivial
  · exact pe_fine 19 ck96 rfl rfl rfl trivial k
theorem b96_37 {d : Nat} {Φ : Option pe_V → pe_H → Prop} {σ : pe_H} {a0 : Nat} {x1 : Int} {x2 : Int} {o3 : Option pe_V} {o4 : Option pe_V} {o5 : Option pe_V} {o6 : Option pe_V} (f_a0 : pk_Fs a0 σ := by assumption)   (k : pe_X d 96 (46, [some (.inr (.inr a0)), some (.inl x1), some (.inl x2), some (.inl 0), some (.inl (-4)), some (.inl 0), o6], [], σ) Φ) : pe_X d 96 (37, [some (.inr (.inr a0)), some (.inl x1), some (.inl x2), o3, o4, o5, o6], [], σ) Φ := by
  refine pe_blk 20 6 ck96 [] (46, [some (.inr (.inr a0)), some (.inl x1), some (.inl x2), some (.inl 0), some (.inl (-4)), some (.inl 0), o6], [], σ) rfl ?_ ?_
  · exact trivial
  · exact k
theorem b96_46 {d : Nat} {Φ : Option pe_V → pe_H → Prop} {σ : pe_H} {a0 : Nat} {x1 : Int} {x2 : Int} {x3 : Int} {x4 : Int} {x5 : Int} {o6 : Option pe_V} (f_a0 : pk_Fs a0 σ := by assumption) (w0 : pe_in x5 := by unfold pe_in; omega)  (k1 : 20 < x5 → pe_X d 96 (103, [some (.inr (.inr a0)), some (.inl x1), some (.inl x2), some (.inl x3), some (.inl x4), some (.inl x5), o6], [], σ) Φ) (k2 : ¬ (20 < x5) → pe_X d 96 (53, [some (.inr (.inr a0)), some (.inl x1), some (.inl x2), some (.inl x3), some (.inl x4), some (.inl x5), o6], [], σ) Φ) : pe_X d 96 (46, [some (.inr (.inr a0)), some (.inl x1), some (.inl x2), some (.inl x3), some (.inl x4), some (.inl x5), o6], [], σ) Φ := by
  refine pe_blk 26 3 ck96 [] (cond (decide ((pe_w 20) < (pe_w x5))) 103 53, [some (.inr (.inr a0)), some (.inl x1), some (.inl x2), some (.inl x3), some (.inl x4), some (.inl x5), o6], [], σ) rfl ?_ ?_
  · exact trivial
  · try simp (disch := omega) only [pe_wi w0, pe_wi (x := 20) ⟨by decide, by decide⟩]
    exact pe_two k1 k2
theorem b96_53 {d : Nat} {Φ : Option pe_V → pe_H → Prop} {σ : pe_H} {a0 : Nat} {x1 : Int} {x2 : Int} {x3 : Int} {x4 : Int} {x5 : Int} {o6 : Option pe_V} (f_a0 : pk_Fs a0 σ := by assumption)   (k : pe_M d 122 [.inr (.inr a0)] σ (fun r σ' => pe_X d 96 (57, [some (.inr (.inr a0)), some (.inl x1), some (.inl x2), some (.inl x3), some (.inl x4), some (.inl x5), o6], r.toList ++ [], σ') Φ)) : pe_X d 96 (53, [some (.inr (.inr a0)), some (.inl x1), some (.inl x2), some (.inl x3), some (.inl x4), some (.inl x5), o6], [], σ) Φ := by
  refine pe_blk 29 1 ck96 [] (54, [some (.inr (.inr a0)), some (.inl x1), some (.inl x2), some (.inl x3), some (.inl x4), some (.inl x5), o6], [.inr (.inr a0)], σ) rfl ?_ ?_
  · exact trivial
  · try simp (disch := omega) only [pe_K_wI, pe_K_wR, pk_sK f_a0]
    have hrc : pe_K σ a0 = 8 := by first | assumption | (simp (disch := omega) only [pe_K_wI, pe_K_wR, pk_sK f_a0]; done) | (simp (disch := omega) only [pe_K_wI, pe_K_wR, pk_sK f_a0]; assumption)
    exact pe_cal 30 ck96 rfl rfl rfl ⟨hrc, by decide⟩ k
theorem b96_57 {d : Nat} {Φ : Option pe_V → pe_H → Prop} {σ : pe_H} {a0 : Nat} {x1 : Int} {x2 : Int} {x3 : Int} {x4 : Int} {x5 : Int} {o6 : Option pe_V} {b0 : Nat} (f_a0 : pk_Fs a0 σ := by assumption) (f_b0 : pk_Fm b0 σ := by assumption)   (k : pe_M d 25 [.inr (.inr b0), .inl x1, .inl x5] σ (fun r σ' => pe_X d 96 (67, [some (.inr (.inr a0)), some (.inl x1), some (.inl x2), some (.inl x3), some (.inl x4), some (.inl x5), some (.inr (.inr b0))], r.toList ++ [], σ') Φ)) : pe_X d 96 (57, [some (.inr (.inr a0)), some (.inl x1), some (.inl x2), some (.inl x3), some (.inl x4), some (.inl x5), o6], [.inr (.inr b0)], σ) Φ := by
  refine pe_blk 31 4 ck96 [] (64, [some (.inr (.inr a0)), some (.inl x1), some (.inl x2), some (.inl x3), some (.inl x4), some (.inl x5), some (.inr (.inr b0))], [.inl x5, .inl x1, .inr (.inr b0)], σ) rfl ?_ ?_
  · exact trivial
  · try simp (disch := omega) only [pe_K_wI, pe_K_wR, pk_mK f_b0]
    have hrc : pe_K σ b0 = 2 := by first | assumption | (simp (disch := omega) only [pe_K_wI, pe_K_wR, pk_mK f_b0]; done) | (simp (disch := omega) only [pe_K_wI, pe_K_wR, pk_mK f_b0]; assumption)
    exact pe_cal 35 ck96 rfl rfl rfl ⟨hrc, by decide⟩ k
theorem b96_67 {d : Nat} {Φ : Option pe_V → pe_H → Prop} {σ : pe_H} {a0 : Nat} {x1 : Int} {x2 : Int} {x3 : Int} {x4 : Int} {x5 : Int} {a6 : Nat} (f_a0 : pk_Fs a0 σ := by assumption) (f_a6 : pk_Fm a6 σ := by assumption) (w0 : pe_in x1 := by unfold pe_in; omega) (w1 : pe_in x4 := by unfold pe_in; omega) (w2 : pe_in (pe_I σ (pk_c a6 x1) 4) := by unfold pe_in; omega) (h0 : 0 ≤ x1 := by first | assumption | omega) (h1 : x1 < 8 := by first | assumption | omega) (k1 : (pe_I σ (pk_c a6 x1) 4) ≤ x4 → pe_X d 96 (97, [some (.inr (.inr a0)), some (.inl x1), some (.inl x2), some (.inl x3), some (.inl x4), some (.inl x5), some (.inr (.inr a6))], [], σ) Φ) (k2 : ¬ ((pe_I σ (pk_c a6 x1) 4) ≤ x4) → pe_X d 96 (82, [some (.inr (.inr a0)), some (.inl x1), some (.inl x2), some (.inl x3), some (.inl x4), some (.inl x5), some (.inr (.inr a6))], [], σ) Φ) : pe_X d 96 (67, [some (.inr (.inr a0)), some (.inl x1), some (.inl x2), some (.inl x3), some (.inl x4), some (.inl x5), some (.inr (.inr a6))], [], σ) Φ := by
  refine pe_blk 36 7 ck96 [pe_K σ a6 = 2, 12 ≤ pe_K σ (pe_R σ a6 1) ∧ pe_K σ (pe_R σ a6 1) < 19, 0 ≤ (pe_w x1), (pe_w x1) < pe_L σ (pe_R σ a6 1), pe_K σ (pe_R σ (pe_R σ a6 1) (pe_w x1)) = 0] (cond (decide ((pe_w (pe_I σ (pe_R σ (pe_R σ a6 1) (pe_w x1)) 4)) ≤ (pe_w x4))) 97 82, [some (.inr (.inr a0)), some (.inl x1), some (.inl x2), some (.inl x3), some (.inl x4), some (.inl x5), some (.inr (.inr a6))], [], σ) rfl ?_ ?_
  · first
    | (simp (disch := omega) only [pe_all, pe_wi w0, pe_wi w1, pe_wi w2, pe_K_wI, pe_K_wR, pe_L_wI, pe_L_wR, pe_R_nej, pe_R_ner, pe_R_wI, pk_mE2 f_a6 (i := x1) (by omega) (by omega), pk_mK f_a6, pk_mK2 f_a6, pk_mL2 f_a6, pk_mR2 f_a6, pk_oK (pk_mO f_a6 (i := x1) (by omega) (by omega))]; done)
    | (simp (disch := omega) only [pe_all, pe_wi w0, pe_wi w1, pe_wi w2, pe_K_wI, pe_K_wR, pe_L_wI, pe_L_wR, pe_R_nej, pe_R_ner, pe_R_wI, pk_mE2 f_a6 (i := x1) (by omega) (by omega), pk_mK f_a6, pk_mK2 f_a6, pk_mL2 f_a6, pk_mR2 f_a6, pk_oK (pk_mO f_a6 (i := x1) (by omega) (by omega))]; (repeat' apply And.intro) <;> first | assumption | omega | decide)
  · try simp (disch := omega) only [pe_wi w0, pe_wi w1, pe_wi w2, pe_K_wI, pe_K_wR, pe_L_wI, pe_L_wR, pe_R_nej, pe_R_ner, pe_R_wI, pk_mE2 f_a6 (i := x1) (by omega) (by omega), pk_mK f_a6, pk_mK2 f_a6, pk_mL2 f_a6, pk_mR2 f_a6, pk_oK (pk_mO f_a6 (i := x1) (by omega) (by omega))]
    exact pe_two k1 k2
set_option maxRecDepth 8000 in
theorem b96_82 {d : Nat} {Φ : Option pe_V → pe_H → Prop} {σ : pe_H} {a0 : Nat} {x1 : Int} {x2 : Int} {o3 : Option pe_V} {o4 : Option pe_V} {x5 : Int} {a6 : Nat} (f_a0 : pk_Fs a0 σ := by assumption) (f_a6 : pk_Fm a6 σ := by assumption) (w0 : pe_in x1 := by unfold pe_in; omega) (h0 : 0 ≤ x1 := by first | assumption | omega) (h1 : x1 < 8 := by first | assumption | omega) (k : pe_X d 96 (97, [some (.inr (.inr a0)), some (.inl x1), some (.inl x2), some (.inl x5), some (.inl (pe_I σ (pk_c a6 x1) 4)), some (.inl x5), some (.inr (.inr a6))], [], σ) Φ) : pe_X d 96 (82, [some (.inr (.inr a0)), some (.inl x1), some (.inl x2), o3, o4, some (.inl x5), some (.inr (.inr a6))], [], σ) Φ := by
  refine pe_blk 43 8 ck96 [pe_K σ a6 = 2, 12 ≤ pe_K σ (pe_R σ a6 1) ∧ pe_K σ (pe_R σ a6 1) < 19, 0 ≤ (pe_w x1), (pe_w x1) < pe_L σ (pe_R σ a6 1), pe_K σ (pe_R σ (pe_R σ a6 1) (pe_w x1)) = 0] (97, [some (.inr (.inr a0)), some (.inl x1), some (.inl x2), some (.inl x5), some (.inl (pe_I σ (pe_R σ (pe_R σ a6 1) (pe_w x1)) 4)), some (.inl x5), some (.inr (.inr a6))], [], σ) rfl ?_ ?_
  · first
    | (simp (disch := omega) only [pe_all, pe_wi w0, pe_K_wI, pe_K_wR, pe_L_wI, pe_L_wR, pe_R_nej, pe_R_ner, pe_R_wI, pk_mE2 f_a6 (i := x1) (by omega) (by omega), pk_mK f_a6, pk_mK2 f_a6, pk_mL2 f_a6, pk_mR2 f_a6, pk_oK (pk_mO f_a6 (i := x1) (by omega) (by omega))]; done)
    | (simp (disch := omega) only [pe_all, pe_wi w0, pe_K_wI, pe_K_wR, pe_L_wI, pe_L_wR, pe_R_nej, pe_R_ner, pe_R_wI, pk_mE2 f_a6 (i := x1) (by omega) (by omega), pk_mK f_a6, pk_mK2 f_a6, pk_mL2 f_a6, pk_mR2 f_a6, pk_oK (pk_mO f_a6 (i := x1) (by omega) (by omega))]; (repeat' apply And.intro) <;> first | assumption | omega | decide)
  · try simp (disch := omega) only [pe_wi w0, pe_K_wI, pe_K_wR, pe_L_wI, pe_L_wR, pe_R_nej, pe_R_ner, pe_R_wI, pk_mE2 f_a6 (i := x1) (by omega) (by omega), pk_mK f_a6, pk_mK2 f_a6, pk_mL2 f_a6, pk_mR2 f_a6, pk_oK (pk_mO f_a6 (i := x1) (by omega) (by omega))]
    exact k
set_option maxRecDepth 8000 in
theorem b96_97 {d : Nat} {Φ : Option pe_V → pe_H → Prop} {σ : pe_H} {a0 : Nat} {x1 : Int} {x2 : Int} {x3 : Int} {x4 : Int} {x5 : Int} {o6 : Option pe_V} (f_a0 : pk_Fs a0 σ := by assumption)   (k : pe_X d 96 (46, [some (.inr (.inr a0)), some (.inl x1), some (.inl x2), some (.inl x3), some (.inl x4), some (.inl (x5 + 1)), o6], [], σ) Φ) : pe_X d 96 (97, [some (.inr (.inr a0)), some (.inl x1), some (.inl x2), some (.inl x3), some (.inl x4), some (.inl x5), o6], [], σ) Φ := by
  refine pe_blk 51 2 ck96 [] (46, [some (.inr (.inr a0)), some (.inl x1), some (.inl x2), some (.inl x3), some (.inl x4), some (.inl (x5 + 1)), o6], [], σ) rfl ?_ ?_
  · exact trivial
  · exact k
set_option maxRecDepth 8000 in
theorem b96_103 {d : Nat} {Φ : Option pe_V → pe_H → Prop} {σ : pe_H} {o0 : Option pe_V} {o1 : Option pe_V} {x2 : Int} {x3 : Int} {x4 : Int} {o5 : Option pe_V} {o6 : Option pe_V}  (w0 : pe_in x2 := by unfold pe_in; omega)  (k1 : ¬ x2 = 0 → pe_X d 96 (111, [o0, o1, some (.inl x2), some (.inl x3), some (.inl x4), o5, o6], [], σ) Φ) (k2 : x2 = 0 → pe_X d 96 (107, [o0, o1, some (.inl x2), some (.inl x3), some (.inl x4), o5, o6], [], σ) Φ) : pe_X d 96 (103, [o0, o1, some (.inl x2), some (.inl x3), some (.inl x4), o5, o6], [], σ) Φ := by
  refine pe_blk 53 2 ck96 [] (cond (decide (¬ (pe_w x2) = 0)) 111 107, [o0, o1, some (.inl x2), some (.inl x3), some (.inl x4), o5, o6], [], σ) rfl ?_ ?_
  · exact trivial
  · try simp (disch := omega) only [pe_wi w0]
    exact pe_two' k1 k2
set_option maxRecDepth 8000 in
theorem b96_107 {d : Nat} {Φ : Option pe_V → pe_H → Prop} {σ : pe_H} {o0 : Option pe_V} {o1 : Option pe_V} {o2 : Option pe_V} {x3 : Int} {o4 : Option pe_V} {o5 : Option pe_V} {o6 : Option pe_V}    (k : pe_X d 96 (113, [o0, o1, o2, some (.inl x3), o4, o5, o6], [.inl x3], σ) Φ) : pe_X d 96 (107, [o0, o1, o2, some (.inl x3), o4, o5, o6], [], σ) Φ := by
  refine pe_blk 55 2 ck96 [] (113, [o0, o1, o2, some (.inl x3), o4, o5, o6], [.inl x3], σ) rfl ?_ ?_
  · exact trivial
  · exact k
set_option maxRecDepth 8000 in
theorem b96_111 {d : Nat} {Φ : Option pe_V → pe_H → Prop} {σ : pe_H} {o0 : Option pe_V} {o1 : Option pe_V} {o2 : Option pe_V} {o3 : Option pe_V} {x4 : Int} {o5 : Option pe_V} {o6 : Option pe_V}    (k : pe_X d 96 (113, [o0, o1, o2, o3, some (.inl x4), o5, o6], [.inl x4], σ) Φ) : pe_X d 96 (111, [o0, o1, o2, o3, some (.inl x4), o5, o6], [], σ) Φ := by
  refine pe_blk 57 1 ck96 [] (113, [o0, o1, o2, o3, some (.inl x4), o5, o6], [.inl x4], σ) rfl ?_ ?_
  · exact trivial
  · exact k
set_option maxRecDepth 8000 in
theorem b96_113 {d : Nat} {Φ : Option pe_V → pe_H → Prop} {σ : pe_H} {o0 : Option pe_V} {o1 : Option pe_V} {o2 : Option pe_V} {o3 : Option pe_V} {o4 : Option pe_V} {o5 : Option pe_V} {o6 : Option pe_V} {s0 : Int}    (k : Φ (some (.inl s0)) σ) : pe_X d 96 (113, [o0, o1, o2, o3, o4, o5, o6], [.inl s0], σ) Φ := by
  exact pe_fine 58 ck96 rfl rfl rfl trivial k
-- StepMachines.firstOut()I
-- StepMachines.whatProgram(I)I
-- StepMachines.alike(III)I
-- StepMachines.two(III)I
-- StepMachines.lost(IIII)J
-- StepMachines.share(I)J
-- StepMachines.forged(I)I
-- StepMachines.judge(I)I
-- StepMachines.lots(III)I
-- StepMachines.image()I
def T106 : List (Nat × Instr × Nat) := [(0, .aload_n 0, 1), (1, .getfield 16, 3), (4, .aload_n 0, 1), (5, .getfield 10, 3), (8, .invokevirtual 77, 3), (11, .aload_n 0, 1), (12, .iconst 1, 1), (13, .putfield 42, 3), (16, .aload_n 0, 1), (17, .getfield 10, 3), (20, .getfield 209, 3), (23, .ireturn, 1)]
theorem ck106 : pe_ctx 106 8 false (some .int) 1 T106 := ⟨rfl, rfl, rfl, rfl, by decide +kernel, by decide, by decide⟩
theorem b106_0 {d : Nat} {Φ : Option pe_V → pe_H → Prop} {σ : pe_H} {a0 : Nat} (f_a0 : pk_Fs a0 σ := by assumption)   (k : pe_M d 15 [.inr (.inr (a0 + 88)), .inr (.inr (a0 + 1))] σ (fun r σ' => pe_X d 106 (11, [some (.inr (.inr a0))], r.toList ++ [], σ') Φ)) : pe_X d 106 (0, [some (.inr (.inr a0))], [], σ) Φ := by
  refine pe_blk 0 4 ck106 [pe_K σ a0 = 8, pe_K σ a0 = 8] (8, [some (.inr (.inr a0))], [.inr (.inr (pe_R σ a0 0)), .inr (.inr (pe_R σ a0 1))], σ) rfl ?_ ?_
  · first
    | (simp (disch := omega) only [pe_all, pe_K_wI, pe_K_wR, pe_R_nej, pe_R_ner, pe_R_wI, pk_mK (pk_sM1 f_a0), pk_sK f_a0, pk_sR0 f_a0, pk_sR1 f_a0]; done)
    | (simp (disch := omega) only [pe_all, pe_K_wI, pe_K_wR, pe_R_nej, pe_R_ner, pe_R_wI, pk_mK (pk_sM1 f_a0), pk_sK f_a0, pk_sR0 f_a0, pk_sR1 f_a0]; (repeat' apply And.intro) <;> first | assumption | omega | decide)
  · try simp (disch := omega) only [pe_K_wI, pe_K_wR, pe_R_nej, pe_R_ner, pe_R_wI, pk_mK (pk_sM1 f_a0), pk_sK f_a0, pk_sR0 f_a0, pk_sR1 f_a0]
    have hrc : pe_K σ (a0 + 88) = 2 := by first | assumption | (simp (disch := omega) only [pe_K_wI, pe_K_wR, pe_R_nej, pe_R_ner, pe_R_wI, pk_mK (pk_sM1 f_a0), pk_sK f_a0, pk_sR0 f_a0, pk_sR1 f_a0]; done) | (simp (disch := omega) only [pe_K_wI, pe_K_wR, pe_R_nej, pe_R_ner, pe_R_wI, pk_mK (pk_sM1 f_a0), pk_sK f_a0, pk_sR0 f_a0, pk_sR1 f_a0]; assumption)
    exact pe_cal 4 ck106 rfl rfl rfl ⟨hrc, by decide⟩ k
theorem b106_11 {d : Nat} {Φ : Option pe_V → pe_H → Prop} {σ : pe_H} {a0 : Nat} (f_a0 : pk_Fs a0 σ := by assumption)   (k : Φ (some (.inl (pe_I σ (a0 + 1) 6))) (pe_wI σ a0 6 1)) : pe_X d 106 (11, [some (.inr (.inr a0))], [], σ) Φ := by
  refine pe_blk 5 6 ck106 [pe_K σ a0 = 8, 1 = 0 ∨ 1 = 1, pe_K (pe_wI σ a0 6 1) a0 = 8, pe_K (pe_wI σ a0 6 1) (pe_R (pe_wI σ a0 6 1) a0 0) = 2] (23, [some (.inr (.inr a0))], [.inl (pe_I (pe_wI σ a0 6 1) (pe_R (pe_wI σ a0 6 1) a0 0) 6)], pe_wI σ a0 6 1) rfl ?_ ?_
  · first
    | (simp (disch := omega) only [pe_all, pe_I_ner, pe_K_wI, pe_K_wR, pe_R_nej, pe_R_ner, pe_R_wI, pk_mK (pk_sM0 f_a0), pk_sK f_a0, pk_sR0 f_a0]; done)
    | (simp (disch := omega) only [pe_all, pe_I_ner, pe_K_wI, pe_K_wR, pe_R_nej, pe_R_ner, pe_R_wI, pk_mK (pk_sM0 f_a0), pk_sK f_a0, pk_sR0 f_a0]; (repeat' apply And.intro) <;> first | assumption | omega | decide)
  · try simp (disch := omega) only [pe_I_ner, pe_K_wI, pe_K_wR, pe_R_nej, pe_R_ner, pe_R_wI, pk_mK (pk_sM0 f_a0), pk_sK f_a0, pk_sR0 f_a0]
    exact pe_fine 11 ck106 rfl rfl rfl trivial k
-- StepMachines.restore()I
def T107 : List (Nat × Instr × Nat) := [(0, .aload_n 0, 1), (1, .getfield 42, 3), (4, .ifCond .ne 6, 3), (7, .bipush (-3), 2), (9, .ireturn, 1), (10, .aload_n 0, 1), (11, .getfield 10, 3), (14, .aload_n 0, 1), (15, .getfield 16, 3), (18, .invokevirtual 77, 3), (21, .aload_n 0, 1), (22, .getfield 10, 3), (25, .getfield 209, 3), (28, .ireturn, 1)]
theorem ck107 : pe_ctx 107 8 false (some .int) 1 T107 := ⟨rfl, rfl, rfl, rfl, by decide +kernel, by decide, by decide⟩
theorem b107_0 {d : Nat} {Φ : Option pe_V → pe_H → Prop} {σ : pe_H} {a0 : Nat} (f_a0 : pk_Fs a0 σ := by assumption) (w0 : pe_in (pe_I σ a0 6) := by unfold pe_in; omega)  (k1 : ¬ (pe_I σ a0 6) = 0 → pe_X d 107 (10, [some (.inr (.inr a0))], [], σ) Φ) (k2 : (pe_I σ a0 6) = 0 → pe_X d 107 (7, [some (.inr (.inr a0))], [], σ) Φ) : pe_X d 107 (0, [some (.inr (.inr a0))], [], σ) Φ := by
  refine pe_blk 0 3 ck107 [pe_K σ a0 = 8] (cond (decide (¬ (pe_w (pe_I σ a0 6)) = 0)) 10 7, [some (.inr (.inr a0))], [], σ) rfl ?_ ?_
  · first
    | (simp (disch := omega) only [pe_all, pe_wi w0, pe_K_wI, pe_K_wR, pk_sK f_a0]; done)
    | (simp (disch := omega) only [pe_all, pe_wi w0, pe_K_wI, pe_K_wR, pk_sK f_a0]; (repeat' apply And.intro) <;> first | assumption | omega | decide)
  · try simp (disch := omega) only [pe_wi w0, pe_K_wI, pe_K_wR, pk_sK f_a0]
    exact pe_two' k1 k2
theorem b107_7 {d : Nat} {Φ : Option pe_V → pe_H → Prop} {σ : pe_H} {o0 : Option pe_V}    (k : Φ (some (.inl (-3))) σ) : pe_X d 107 (7, [o0], [], σ) Φ := by
  refine pe_blk 3 1 ck107 [] (9, [o0], [.inl (-3)], σ) rfl ?_ ?_
  · exact trivial
  · exact pe_fine 4 ck107 rfl rfl rfl trivial k
theorem b107_10 {d : Nat} {Φ : Option pe_V → pe_H → Prop} {σ : pe_H} {a0 : Nat} (f_a0 : pk_Fs a0 σ := by assumption)   (k : pe_M d 15 [.inr (.inr (a0 + 1)), .inr (.inr (a0 + 88))] σ (fun r σ' => pe_X d 107 (21, [some (.inr (.inr a0))], r.toList ++ [], σ') Φ)) : pe_X d 107 (10, [some (.inr (.inr a0))], [], σ) Φ := by
  refine pe_blk 5 4 ck107 [pe_K σ a0 = 8, pe_K σ a0 = 8] (18, [some (.inr (.inr a0))], [.inr (.inr (pe_R σ a0 1)), .inr (.inr (pe_R σ a0 0))], σ) rfl ?_ ?_
  · first
    | (simp (disch := omega) only [pe_all, pe_K_wI, pe_K_wR, pe_R_nej, pe_R_ner, pe_R_wI, pk_mK (pk_sM0 f_a0), pk_sK f_a0, pk_sR0 f_a0, pk_sR1 f_a0]; done)
    | (simp (disch := omega) only [pe_all, pe_K_wI, pe_K_wR, pe_R_nej, pe_R_ner, pe_R_wI, pk_mK (pk_sM0 f_a0), pk_sK f_a0, pk_sR0 f_a0, pk_sR1 f_a0]; (repeat' apply And.intro) <;> first | assumption | omega | decide)
  · try simp (disch := omega) only [pe_K_wI, pe_K_wR, pe_R_nej, pe_R_ner, pe_R_wI, pk_mK (pk_sM0 f_a0), pk_sK f_a0, pk_sR0 f_a0, pk_sR1 f_a0]
    have hrc : pe_K σ (a0 + 1) = 2 := by first | assumption | (simp (disch := omega) only [pe_K_wI, pe_K_wR, pe_R_nej, pe_R_ner, pe_R_wI, pk_mK (pk_sM0 f_a0), pk_sK f_a0, pk_sR0 f_a0, pk_sR1 f_a0]; done) | (simp (disch := omega) only [pe_K_wI, pe_K_wR, pe_R_nej, pe_R_ner, pe_R_wI, pk_mK (pk_sM0 f_a0), pk_sK f_a0, pk_sR0 f_a0, pk_sR1 f_a0]; assumption)
    exact pe_cal 9 ck107 rfl rfl rfl ⟨hrc, by decide⟩ k
theorem b107_21 {d : Nat} {Φ : Option pe_V → pe_H → Prop} {σ : pe_H} {a0 : Nat} (f_a0 : pk_Fs a0 σ := by assumption)   (k : Φ (some (.inl (pe_I σ (a0 + 1) 6))) σ) : pe_X d 107 (21, [some (.inr (.inr a0))], [], σ) Φ := by
  refine pe_blk 10 3 ck107 [pe_K σ a0 = 8, pe_K σ (pe_R σ a0 0) = 2] (28, [some (.inr (.inr a0))], [.inl (pe_I σ (pe_R σ a0 0) 6)], σ) rfl ?_ ?_
  · first
    | (simp (disch := omega) only [pe_all, pe_K_wI, pe_K_wR, pe_R_nej, pe_R_ner, pe_R_wI, pk_mK (pk_sM0 f_a0), pk_sK f_a0, pk_sR0 f_a0]; done)
    | (simp (disch := omega) only [pe_all, pe_K_wI, pe_K_wR, pe_R_nej, pe_R_ner, pe_R_wI, pk_mK (pk_sM0 f_a0), pk_sK f_a0, pk_sR0 f_a0]; (repeat' apply And.intro) <;> first | assumption | omega | decide)
  · try simp (disch := omega) only [pe_K_wI, pe_K_wR, pe_R_nej, pe_R_ner, pe_R_wI, pk_mK (pk_sM0 f_a0), pk_sK f_a0, pk_sR0 f_a0]
    exact pe_fine 13 ck107 rfl rfl rfl trivial k
-- StepMachines.count(I)I
def T108 : List (Nat × Instr × Nat) := [(0, .iload_n 1, 1), (1, .tableswitch 107 0 5 #[39, 47, 55, 63, 71, 99], 39), (40, .aload_n 0, 1), (41, .getfield 10, 3), (44, .getfield 235, 3), (47, .ireturn, 1), (48, .aload_n 0, 1), (49, .getfield 10, 3), (52, .getfield 209, 3), (55, .ireturn, 1), (56, .aload_n 0, 1), (57, .getfield 10, 3), (60, .getfield 206, 3), (63, .ireturn, 1), (64, .aload_n 0, 1), (65, .getfield 10, 3), (68, .invokevirtual 215, 3), (71, .ireturn, 1), (72, .aload_n 0, 1), (73, .getfield 10, 3), (76, .invokevirtual 229, 3), (79, .aload_n 0, 1), (80, .getfield 10, 3), (83, .invokevirtual 215, 3), (86, .iconst (-1), 1), (87, .ixor, 1), (88, .iand, 1), (89, .aload_n 0, 1), (90, .getfield 10, 3), (93, .invokevirtual 226, 3), (96, .iconst (-1), 1), (97, .ixor, 1), (98, .iand, 1), (99, .ireturn, 1), (100, .aload_n 0, 1), (101, .getfield 10, 3), (104, .invokevirtual 283, 3), (107, .ireturn, 1), (108, .iconst (-1), 1), (109, .ireturn, 1)]
theorem ck108 : pe_ctx 108 8 false (some .int) 2 T108 := ⟨rfl, rfl, rfl, rfl, by decide +kernel, by decide, by decide⟩
theorem b108_0 {d : Nat} {Φ : Option pe_V → pe_H → Prop} {σ : pe_H} {a0 : Nat} {x1 : Int} (f_a0 : pk_Fs a0 σ := by assumption) (w0 : pe_in x1 := by unfold pe_in; omega)  (k0 : x1 = 0 → pe_X d 108 (40, [some (.inr (.inr a0)), some (.inl x1)], [], σ) Φ) (k1 : x1 = 1 → pe_X d 108 (48, [some (.inr (.inr a0)), some (.inl x1)], [], σ) Φ) (k2 : x1 = 2 → pe_X d 108 (56, [some (.inr (.inr a0)), some (.inl x1)], [], σ) Φ) (k3 : x1 = 3 → pe_X d 108 (64, [some (.inr (.inr a0)), some (.inl x1)], [], σ) Φ) (k4 : x1 = 4 → pe_X d 108 (72, [some (.inr (.inr a0)), some (.inl x1)], [], σ) Φ) (k5 : x1 = 5 → pe_X d 108 (100, [some (.inr (.inr a0)), some (.inl x1)], [], σ) Φ) (kd : ¬ x1 = 0 → ¬ x1 = 1 → ¬ x1 = 2 → ¬ x1 = 3 → ¬ x1 = 4 → ¬ x1 = 5 → pe_X d 108 (108, [some (.inr (.inr a0)), some (.inl x1)], [], σ) Φ) : pe_X d 108 (0, [some (.inr (.inr a0)), some (.inl x1)], [], σ) Φ := by
  refine pe_blk 0 2 ck108 [] ((((1 : Nat) : Int) + pe_sw 107 [(0, 39), (1, 47), (2, 55), (3, 63), (4, 71), (5, 99)] (pe_w x1)).toNat, [some (.inr (.inr a0)), some (.inl x1)], [], σ) rfl ?_ ?_
  · exact trivial
  · try simp (disch := omega) only [pe_wi w0]
    by_cases q0 : x1 = 0
    · have e : pe_sw 107 [(0, 39), (1, 47), (2, 55), (3, 63), (4, 71), (5, 99)] x1 = 39 := by rw [q0]; rfl
      rw [e]; exact k0 q0
    by_cases q1 : x1 = 1
    · have e : pe_sw 107 [(0, 39), (1, 47), (2, 55), (3, 63), (4, 71), (5, 99)] x1 = 47 := by rw [q1]; rfl
      rw [e]; exact k1 q1
    by_cases q2 : x1 = 2
    · have e : pe_sw 107 [(0, 39), (1, 47), (2, 55), (3, 63), (4, 71), (5, 99)] x1 = 55 := by rw [q2]; rfl
      rw [e]; exact k2 q2
    by_cases q3 : x1 = 3
    · have e : pe_sw 107 [(0, 39), (1, 47), (2, 55), (3, 63), (4, 71), (5, 99)] x1 = 63 := by rw [q3]; rfl
      rw [e]; exact k3 q3
    by_cases q4 : x1 = 4
    · have e : pe_sw 107 [(0, 39), (1, 47), (2, 55), (3, 63), (4, 71), (5, 99)] x1 = 71 := by rw [q4]; rfl
      rw [e]; exact k4 q4
    by_cases q5 : x1 = 5
    · have e : pe_sw 107 [(0, 39), (1, 47), (2, 55), (3, 63), (4, 71), (5, 99)] x1 = 99 := by rw [q5]; rfl
      rw [e]; exact k5 q5
    have e : pe_sw 107 [(0, 39), (1, 47), (2, 55), (3, 63), (4, 71), (5, 99)] x1 = 107 := by simp only [pe_sw, if_neg q0, if_neg q1, if_neg q2, if_neg q3, if_neg q4, if_neg q5]
    rw [e]; exact kd q0 q1 q2 q3 q4 q5
theorem b108_40 {d : Nat} {Φ : Option pe_V → pe_H → Prop} {σ : pe_H} {a0 : Nat} {o1 : Option pe_V} (f_a0 : pk_Fs a0 σ := by assumption)   (k : Φ (some (.inl (pe_I σ (a0 + 1) 4))) σ) : pe_X d 108 (40, [some (.inr (.inr a0)), o1], [], σ) Φ := by
  refine pe_blk 2 3 ck108 [pe_K σ a0 = 8, pe_K σ (pe_R σ a0 0) = 2] (47, [some (.inr (.inr a0)), o1], [.inl (pe_I σ (pe_R σ a0 0) 4)], σ) rfl ?_ ?_
  · first
    | (simp (disch := omega) only [pe_all, pe_K_wI, pe_K_wR, pe_R_nej, pe_R_ner, pe_R_wI, pk_mK (pk_sM0 f_a0), pk_sK f_a0, pk_sR0 f_a0]; done)
    | (simp (disch := omega) only [pe_all, pe_K_wI, pe_K_wR, pe_R_nej, pe_R_ner, pe_R_wI, pk_mK (pk_sM0 f_a0), pk_sK f_a0, pk_sR0 f_a0]; (repeat' apply And.intro) <;> first | assumption | omega | decide)
  · try simp (disch := omega) only [pe_K_wI, pe_K_wR, pe_R_nej, pe_R_ner, pe_R_wI, pk_mK (pk_sM0 f_a0), pk_sK f_a0, pk_sR0 f_a0]
    exact pe_fine 5 ck108 rfl rfl rfl trivial k
theorem b108_48 {d : Nat} {Φ : Option pe_V → pe_H → Prop} {σ : pe_H} {a0 : Nat} {o1 : Option pe_V} (f_a0 : pk_Fs a0 σ := by assumption)   (k : Φ (some (.inl (pe_I σ (a0 + 1) 6))) σ) : pe_X d 108 (48, [some (.inr (.inr a0)), o1], [], σ) Φ := by
  refine pe_blk 6 3 ck108 [pe_K σ a0 = 8, pe_K σ (pe_R σ a0 0) = 2] (55, [some (.inr (.inr a0)), o1], [.inl (pe_I σ (pe_R σ a0 0) 6)], σ) rfl ?_ ?_
  · first
    | (simp (disch := omega) only [pe_all, pe_K_wI, pe_K_wR, pe_R_nej, pe_R_ner, pe_R_wI, pk_mK (pk_sM0 f_a0), pk_sK f_a0, pk_sR0 f_a0]; done)
    | (simp (disch := omega) only [pe_all, pe_K_wI, pe_K_wR, pe_R_nej, pe_R_ner, pe_R_wI, pk_mK (pk_sM0 f_a0), pk_sK f_a0, pk_sR0 f_a0]; (repeat' apply And.intro) <;> first | assumption | omega | decide)
  · try simp (disch := omega) only [pe_K_wI, pe_K_wR, pe_R_nej, pe_R_ner, pe_R_wI, pk_mK (pk_sM0 f_a0), pk_sK f_a0, pk_sR0 f_a0]
    exact pe_fine 9 ck108 rfl rfl rfl trivial k
theorem b108_56 {d : Nat} {Φ : Option pe_V → pe_H → Prop} {σ : pe_H} {a0 : Nat} {o1 : Option pe_V} (f_a0 : pk_Fs a0 σ := by assumption)   (k : Φ (some (.inl (pe_I σ (a0 + 1) 5))) σ) : pe_X d 108 (56, [some (.inr (.inr a0)), o1], [], σ) Φ := by
  refine pe_blk 10 3 ck108 [pe_K σ a0 = 8, pe_K σ (pe_R σ a0 0) = 2] (63, [some (.inr (.inr a0)), o1], [.inl (pe_I σ (pe_R σ a0 0) 5)], σ) rfl ?_ ?_
  · first
    | (simp (disch := omega) only [pe_all, pe_K_wI, pe_K_wR, pe_R_nej, pe_R_ner, pe_R_wI, pk_mK (pk_sM0 f_a0), pk_sK f_a0, pk_sR0 f_a0]; done)
    | (simp (disch := omega) only [pe_all, pe_K_wI, pe_K_wR, pe_R_nej, pe_R_ner, pe_R_wI, pk_mK (pk_sM0 f_a0), pk_sK f_a0, pk_sR0 f_a0]; (repeat' apply And.intro) <;> first | assumption | omega | decide)
  · try simp (disch := omega) only [pe_K_wI, pe_K_wR, pe_R_nej, pe_R_ner, pe_R_wI, pk_mK (pk_sM0 f_a0), pk_sK f_a0, pk_sR0 f_a0]
    exact pe_fine 13 ck108 rfl rfl rfl trivial k
theorem b108_64 {d : Nat} {Φ : Option pe_V → pe_H → Prop} {σ : pe_H} {a0 : Nat} {o1 : Option pe_V} (f_a0 : pk_Fs a0 σ := by assumption)   (k : pe_M d 17 [.inr (.inr (a0 + 1))] σ (fun r σ' => pe_X d 108 (71, [some (.inr (.inr a0)), o1], r.toList ++ [], σ') Φ)) : pe_X d 108 (64, [some (.inr (.inr a0)), o1], [], σ) Φ := by
  refine pe_blk 14 2 ck108 [pe_K σ a0 = 8] (68, [some (.inr (.inr a0)), o1], [.inr (.inr (pe_R σ a0 0))], σ) rfl ?_ ?_
  · first
    | (simp (disch := omega) only [pe_all, pe_K_wI, pe_K_wR, pe_R_nej, pe_R_ner, pe_R_wI, pk_mK (pk_sM0 f_a0), pk_sK f_a0, pk_sR0 f_a0]; done)
    | (simp (disch := omega) only [pe_all, pe_K_wI, pe_K_wR, pe_R_nej, pe_R_ner, pe_R_wI, pk_mK (pk_sM0 f_a0), pk_sK f_a0, pk_sR0 f_a0]; (repeat' apply And.intro) <;> first | assumption | omega | decide)
  · try simp (disch := omega) only [pe_K_wI, pe_K_wR, pe_R_nej, pe_R_ner, pe_R_wI, pk_mK (pk_sM0 f_a0), pk_sK f_a0, pk_sR0 f_a0]
    have hrc : pe_K σ (a0 + 1) = 2 := by first | assumption | (simp (disch := omega) only [pe_K_wI, pe_K_wR, pe_R_nej, pe_R_ner, pe_R_wI, pk_mK (pk_sM0 f_a0), pk_sK f_a0, pk_sR0 f_a0]; done) | (simp (disch := omega) only [pe_K_wI, pe_K_wR, pe_R_nej, pe_R_ner, pe_R_wI, pk_mK (pk_sM0 f_a0), pk_sK f_a0, pk_sR0 f_a0]; assumption)
    exact pe_cal 16 ck108 rfl rfl rfl ⟨hrc, by decide⟩ k
theorem b108_71 {d : Nat} {Φ : Option pe_V → pe_H → Prop} {σ : pe_H} {o0 : Option pe_V} {o1 : Option pe_V} {s0 : Int}    (k : Φ (some (.inl s0)) σ) : pe_X d 108 (71, [o0, o1], [.inl s0], σ) Φ := by
  exact pe_fine 17 ck108 rfl rfl rfl trivial k
theorem b108_72 {d : Nat} {Φ : Option pe_V → pe_H → Prop} {σ : pe_H} {a0 : Nat} {o1 : Option pe_V} (f_a0 : pk_Fs a0 σ := by assumption)   (k : pe_M d 16 [.inr (.inr (a0 + 1))] σ (fun r σ' => pe_X d 108 (79, [some (.inr (.inr a0)), o1], r.toList ++ [], σ') Φ)) : pe_X d 108 (72, [some (.inr (.inr a0)), o1], [], σ) Φ := by
  refine pe_blk 18 2 ck108 [pe_K σ a0 = 8] (76, [some (.inr (.inr a0)), o1], [.inr (.inr (pe_R σ a0 0))], σ) rfl ?_ ?_
  · first
    | (simp (disch := omega) only [pe_all, pe_K_wI, pe_K_wR, pe_R_nej, pe_R_ner, pe_R_wI, pk_mK (pk_sM0 f_a0), pk_sK f_a0, pk_sR0 f_a0]; done)
    | (simp (disch := omega) only [pe_all, pe_K_wI, pe_K_wR, pe_R_nej, pe_R_ner, pe_R_wI, pk_mK (pk_sM0 f_a0), pk_sK f_a0, pk_sR0 f_a0]; (repeat' apply And.intro) <;> first | assumption | omega | decide)
  · try simp (disch := omega) only [pe_K_wI, pe_K_wR, pe_R_nej, pe_R_ner, pe_R_wI, pk_mK (pk_sM0 f_a0), pk_sK f_a0, pk_sR0 f_a0]
    have hrc : pe_K σ (a0 + 1) = 2 := by first | assumption | (simp (disch := omega) only [pe_K_wI, pe_K_wR, pe_R_nej, pe_R_ner, pe_R_wI, pk_mK (pk_sM0 f_a0), pk_sK f_a0, pk_sR0 f_a0]; done) | (simp (disch := omega) only [pe_K_wI, pe_K_wR, pe_R_nej, pe_R_ner, pe_R_wI, pk_mK (pk_sM0 f_a0), pk_sK f_a0, pk_sR0 f_a0]; assumption)
    exact pe_cal 20 ck108 rfl rfl rfl ⟨hrc, by decide⟩ k
theorem b108_79 {d : Nat} {Φ : Option pe_V → pe_H → Prop} {σ : pe_H} {a0 : Nat} {o1 : Option pe_V} {s0 : Int} (f_a0 : pk_Fs a0 σ := by assumption)   (k : pe_M d 17 [.inr (.inr (a0 + 1))] σ (fun r σ' => pe_X d 108 (86, [some (.inr (.inr a0)), o1], r.toList ++ [.inl s0], σ') Φ)) : pe_X d 108 (79, [some (.inr (.inr a0)), o1], [.inl s0], σ) Φ := by
  refine pe_blk 21 2 ck108 [pe_K σ a0 = 8] (83, [some (.inr (.inr a0)), o1], [.inr (.inr (pe_R σ a0 0)), .inl s0], σ) rfl ?_ ?_
  · first
    | (simp (disch := omega) only [pe_all, pe_K_wI, pe_K_wR, pe_R_nej, pe_R_ner, pe_R_wI, pk_mK (pk_sM0 f_a0), pk_sK f_a0, pk_sR0 f_a0]; done)
    | (simp (disch := omega) only [pe_all, pe_K_wI, pe_K_wR, pe_R_nej, pe_R_ner, pe_R_wI, pk_mK (pk_sM0 f_a0), pk_sK f_a0, pk_sR0 f_a0]; (repeat' apply And.intro) <;> first | assumption | omega | decide)
  · try simp (disch := omega) only [pe_K_wI, pe_K_wR, pe_R_nej, pe_R_ner, pe_R_wI, pk_mK (pk_sM0 f_a0), pk_sK f_a0, pk_sR0 f_a0]
    have hrc : pe_K σ (a0 + 1) = 2 := by first | assumption | (simp (disch := omega) only [pe_K_wI, pe_K_wR, pe_R_nej, pe_R_ner, pe_R_wI, pk_mK (pk_sM0 f_a0), pk_sK f_a0, pk_sR0 f_a0]; done) | (simp (disch := omega) only [pe_K_wI, pe_K_wR, pe_R_nej, pe_R_ner, pe_R_wI, pk_mK (pk_sM0 f_a0), pk_sK f_a0, pk_sR0 f_a0]; assumption)
    exact pe_cal 23 ck108 rfl rfl rfl ⟨hrc, by decide⟩ k
theorem b108_86 {d : Nat} {Φ : Option pe_V → pe_H → Prop} {σ : pe_H} {a0 : Nat} {o1 : Option pe_V} {s0 : Int} {s1 : Int} (f_a0 : pk_Fs a0 σ := by assumption)   (k : pe_M d 19 [.inr (.inr (a0 + 1))] σ (fun r σ' => pe_X d 108 (96, [some (.inr (.inr a0)), o1], r.toList ++ [.inl (pe_and s0 (pe_xor s1 (-1)))], σ') Φ)) : pe_X d 108 (86, [some (.inr (.inr a0)), o1], [.inl s1, .inl s0], σ) Φ := by
  refine pe_blk 24 5 ck108 [pe_K σ a0 = 8] (93, [some (.inr (.inr a0)), o1], [.inr (.inr (pe_R σ a0 0)), .inl (pe_and s0 (pe_xor s1 (-1)))], σ) rfl ?_ ?_
  · first
    | (simp (disch := omega) only [pe_all, pe_K_wI, pe_K_wR, pe_R_nej, pe_R_ner, pe_R_wI, pk_mK (pk_sM0 f_a0), pk_sK f_a0, pk_sR0 f_a0]; done)
    | (simp (disch := omega) only [pe_all, pe_K_wI, pe_K_wR, pe_R_nej, pe_R_ner, pe_R_wI, pk_mK (pk_sM0 f_a0), pk_sK f_a0, pk_sR0 f_a0]; (repeat' apply And.intro) <;> first | assumption | omega | decide)
  · try simp (disch := omega) only [pe_K_wI, pe_K_wR, pe_R_nej, pe_R_ner, pe_R_wI, pk_mK (pk_sM0 f_a0), pk_sK f_a0, pk_sR0 f_a0]
    have hrc : pe_K σ (a0 + 1) = 2 := by first | assumption | (simp (disch := omega) only [pe_K_wI, pe_K_wR, pe_R_nej, pe_R_ner, pe_R_wI, pk_mK (pk_sM0 f_a0), pk_sK f_a0, pk_sR0 f_a0]; done) | (simp (disch := omega) only [pe_K_wI, pe_K_wR, pe_R_nej, pe_R_ner, pe_R_wI, pk_mK (pk_sM0 f_a0), pk_sK f_a0, pk_sR0 f_a0]; assumption)
    exact pe_cal 29 ck108 rfl rfl rfl ⟨hrc, by decide⟩ k
theorem b108_96 {d : Nat} {Φ : Option pe_V → pe_H → Prop} {σ : pe_H} {o0 : Option pe_V} {o1 : Option pe_V} {s0 : Int} {s1 : Int}    (k : Φ (some (.inl (pe_and s0 (pe_xor s1 (-1))))) σ) : pe_X d 108 (96, [o0, o1], [.inl s1, .inl s0], σ) Φ := by
  refine pe_blk 30 3 ck108 [] (99, [o0, o1], [.inl (pe_and s0 (pe_xor s1 (-1)))], σ) rfl ?_ ?_
  · exact trivial
  · exact pe_fine 33 ck108 rfl rfl rfl trivial k
theorem b108_100 {d : Nat} {Φ : Option pe_V → pe_H → Prop} {σ : pe_H} {a0 : Nat} {o1 : Option pe_V} (f_a0 : pk_Fs a0 σ := by assumption)   (k : pe_M d 20 [.inr (.inr (a0 + 1))] σ (fun r σ' => pe_X d 108 (107, [some (.inr (.inr a0)), o1], r.toList ++ [], σ') Φ)) : pe_X d 108 (100, [some (.inr (.inr a0)), o1], [], σ) Φ := by
  refine pe_blk 34 2 ck108 [pe_K σ a0 = 8] (104, [some (.inr (.inr a0)), o1], [.inr (.inr (pe_R σ a0 0))], σ) rfl ?_ ?_
  · first
    | (simp (disch := omega) only [pe_all, pe_K_wI, pe_K_wR, pe_R_nej, pe_R_ner, pe_R_wI, pk_mK (pk_sM0 f_a0), pk_sK f_a0, pk_sR0 f_a0]; done)
    | (simp (disch := omega) only [pe_all, pe_K_wI, pe_K_wR, pe_R_nej, pe_R_ner, pe_R_wI, pk_mK (pk_sM0 f_a0), pk_sK f_a0, pk_sR0 f_a0]; (repeat' apply And.intro) <;> first | assumption | omega | decide)
  · try simp (disch := omega) only [pe_K_wI, pe_K_wR, pe_R_nej, pe_R_ner, pe_R_wI, pk_mK (pk_sM0 f_a0), pk_sK f_a0, pk_sR0 f_a0]
    have hrc : pe_K σ (a0 + 1) = 2 := by first | assumption | (simp (disch := omega) only [pe_K_wI, pe_K_wR, pe_R_nej, pe_R_ner, pe_R_wI, pk_mK (pk_sM0 f_a0), pk_sK f_a0, pk_sR0 f_a0]; done) | (simp (disch := omega) only [pe_K_wI, pe_K_wR, pe_R_nej, pe_R_ner, pe_R_wI, pk_mK (pk_sM0 f_a0), pk_sK f_a0, pk_sR0 f_a0]; assumption)
    exact pe_cal 36 ck108 rfl rfl rfl ⟨hrc, by decide⟩ k
theorem b108_107 {d : Nat} {Φ : Option pe_V → pe_H → Prop} {σ : pe_H} {o0 : Option pe_V} {o1 : Option pe_V} {s0 : Int}    (k : Φ (some (.inl s0)) σ) : pe_X d 108 (107, [o0, o1], [.inl s0], σ) Φ := by
  exact pe_fine 37 ck108 rfl rfl rfl trivial k
theorem b108_108 {d : Nat} {Φ : Option pe_V → pe_H → Prop} {σ : pe_H} {o0 : Option pe_V} {o1 : Option pe_V}    (k : Φ (some (.inl (-1))) σ) : pe_X d 108 (108, [o0, o1], [], σ) Φ := by
  refine pe_blk 38 1 ck108 [] (109, [o0, o1], [.inl (-1)], σ) rfl ?_ ?_
  · exact trivial
  · exact pe_fine 39 ck108 rfl rfl rfl trivial k
-- StepMachines.keep(IIII)I
def T109 : List (Nat × Instr × Nat) := [(0, .iload_n 1, 1), (1, .invokestatic 286, 3), (4, .ifCond .eq 12, 3), (7, .iload_n 2, 1), (8, .ifCond .lt 8, 3), (11, .iload_n 2, 1), (12, .iconst 1, 1), (13, .if_icmp .le 5, 3), (16, .iconst (-1), 1), (17, .ireturn, 1), (18, .iload_n 2, 1), (19, .iconst 1, 1), (20, .if_icmp .ne 26, 3), (23, .iload_n 3, 1), (24, .ifCond .lt 20, 3), (27, .iload_n 3, 1), (28, .iconst 5, 1), (29, .if_icmp .gt 15, 3), (32, .iload 4, 2), (34, .ifCond .lt 10, 3), (37, .iload 4, 2), (39, .bipush 9, 2), (41, .if_icmp .le 5, 3), (44, .iconst (-1), 1), (45, .ireturn, 1), (46, .aload_n 0, 1), (47, .getfield 31, 3), (50, .iload_n 1, 1), (51, .aconst_null, 1), (52, .aastore, 1), (53, .aload_n 0, 1), (54, .getfield 25, 3), (57, .iload_n 1, 1), (58, .iload_n 2, 1), (59, .iconst 1, 1), (60, .if_icmp .ne 16, 3), (63, .new 23, 3), (66, .dup, 1), (67, .iload_n 3, 1), (68, .iload 4, 2), (70, .invokespecial 35, 3), (73, .goto 4, 3), (76, .aconst_null, 1), (77, .aastore, 1), (78, .iconst 0, 1), (79, .ireturn, 1)]
theorem ck109 : pe_ctx 109 8 false (some .int) 5 T109 := ⟨rfl, rfl, rfl, rfl, by decide +kernel, by decide, by decide⟩
theorem b109_0 {d : Nat} {Φ : Option pe_V → pe_H → Prop} {σ : pe_H} {a0 : Nat} {x1 : Int} {x2 : Int} {x3 : Int} {x4 : Int} (f_a0 : pk_Fs a0 σ := by assumption)   (k : pe_M d 115 [.inl x1] σ (fun r σ' => pe_X d 109 (4, [some (.inr (.inr a0)), some (.inl x1), some (.inl x2), some (.inl x3), some (.inl x4)], r.toList ++ [], σ') Φ)) : pe_X d 109 (0, [some (.inr (.inr a0)), some (.inl x1), some (.inl x2), some (.inl x3), some (.inl x4)], [], σ) Φ := by
  refine pe_blk 0 1 ck109 [] (1, [some (.inr (.inr a0)), some (.inl x1), some (.inl x2), some (.inl x3), some (.inl x4)], [.inl x1], σ) rfl ?_ ?_
  · exact trivial
  · exact pe_cal 1 ck109 rfl rfl rfl trivial k
theorem b109_4 {d : Nat} {Φ : Option pe_V → pe_H → Prop} {σ : pe_H} {a0 : Nat} {x1 : Int} {x2 : Int} {x3 : Int} {x4 : Int} {s0 : Int} (f_a0 : pk_Fs a0 σ := by assumption) (w0 : pe_in s0 := by unfold pe_in; omega)  (k1 : s0 = 0 → pe_X d 109 (16, [some (.inr (.inr a0)), some (.inl x1), some (.inl x2), some (.inl x3), some (.inl x4)], [], σ) Φ) (k2 : ¬ (s0 = 0) → pe_X d 109 (7, [some (.inr (.inr a0)), some (.inl x1), some (.inl x2), some (.inl x3), some (.inl x4)], [], σ) Φ) : pe_X d 109 (4, [some (.inr (.inr a0)), some (.inl x1), some (.inl x2), some (.inl x3), some (.inl x4)], [.inl s0], σ) Φ := by
  refine pe_blk 2 1 ck109 [] (cond (decide ((pe_w s0) = 0)) 16 7, [some (.inr (.inr a0)), some (.inl x1), some (.inl x2), some (.inl x3), some (.inl x4)], [], σ) rfl ?_ ?_
  · exact trivial
  · try simp (disch := omega) only [pe_wi w0]
    exact pe_two k1 k2
theorem b109_7 {d : Nat} {Φ : Option pe_V → pe_H → Prop} {σ : pe_H} {a0 : Nat} {x1 : Int} {x2 : Int} {x3 : Int} {x4 : Int} (f_a0 : pk_Fs a0 σ := by assumption) (w0 : pe_in x2 := by unfold pe_in; omega)  (k1 : x2 < 0 → pe_X d 109 (16, [some (.inr (.inr a0)), some (.inl x1), some (.inl x2), some (.inl x3), some (.inl x4)], [], σ) Φ) (k2 : ¬ (x2 < 0) → pe_X d 109 (11, [some (.inr (.inr a0)), some (.inl x1), some (.inl x2), some (.inl x3), some (.inl x4)], [], σ) Φ) : pe_X d 109 (7, [some (.inr (.inr a0)), some (.inl x1), some (.inl x2), some (.inl x3), some (.inl x4)], [], σ) Φ := by
  refine pe_blk 3 2 ck109 [] (cond (decide ((pe_w x2) < 0)) 16 11, [some (.inr (.inr a0)), some (.inl x1), some (.inl x2), some (.inl x3), some (.inl x4)], [], σ) rfl ?_ ?_
  · exact trivial
  · try simp (disch := omega) only [pe_wi w0]
    exact pe_two k1 k2
theorem b109_11 {d : Nat} {Φ : Option pe_V → pe_H → Prop} {σ : pe_H} {a0 : Nat} {x1 : Int} {x2 : Int} {x3 : Int} {x4 : Int} (f_a0 : pk_Fs a0 σ := by assumption) (w0 : pe_in x2 := by unfold pe_in; omega)  (k1 : x2 ≤ 1 → pe_X d 109 (18, [some (.inr (.inr a0)), some (.inl x1), some (.inl x2), some (.inl x3), some (.inl x4)], [], σ) Φ) (k2 : ¬ (x2 ≤ 1) → pe_X d 109 (16, [some (.inr (.inr a0)), some (.inl x1), some (.inl x2), some (.inl x3), some (.inl x4)], [], σ) Φ) : pe_X d 109 (11, [some (.inr (.inr a0)), some (.inl x1), some (.inl x2), some (.inl x3), some (.inl x4)], [], σ) Φ := by
  refine pe_blk 5 3 ck109 [] (cond (decide ((pe_w x2) ≤ (pe_w 1))) 18 16, [some (.inr (.inr a0)), some (.inl x1), some (.inl x2), some (.inl x3), some (.inl x4)], [], σ) rfl ?_ ?_
  · exact trivial
  · try simp (disch := omega) only [pe_wi w0, pe_wi (x := 1) ⟨by decide, by decide⟩]
    exact pe_two k1 k2
theorem b109_16 {d : Nat} {Φ : Option pe_V → pe_H → Prop} {σ : pe_H} {o0 : Option pe_V} {o1 : Option pe_V} {o2 : Option pe_V} {o3 : Option pe_V} {o4 : Option pe_V}    (k : Φ (some (.inl (-1))) σ) : pe_X d 109 (16, [o0, o1, o2, o3, o4], [], σ) Φ := by
  refine pe_blk 8 1 ck109 [] (17, [o0, o1, o2, o3, o4], [.inl (-1)], σ) rfl ?_ ?_
  · exact trivial
  · exact pe_fine 9 ck109 rfl rfl rfl trivial k
theorem b109_18 {d : Nat} {Φ : Option pe_V → pe_H → Prop} {σ : pe_H} {a0 : Nat} {x1 : Int} {x2 : Int} {x3 : Int} {x4 : Int} (f_a0 : pk_Fs a0 σ := by assumption) (w0 : pe_in x2 := by unfold pe_in; omega)  (k1 : ¬ x2 = 1 → pe_X d 109 (46, [some (.inr (.inr a0)), some (.inl x1), some (.inl x2), some (.inl x3), some (.inl x4)], [], σ) Φ) (k2 : x2 = 1 → pe_X d 109 (23, [some (.inr (.inr a0)), some (.inl x1), some (.inl x2), some (.inl x3), some (.inl x4)], [], σ) Φ) : pe_X d 109 (18, [some (.inr (.inr a0)), some (.inl x1), some (.inl x2), some (.inl x3), some (.inl x4)], [], σ) Φ := by
  refine pe_blk 10 3 ck109 [] (cond (decide (¬ (pe_w x2) = (pe_w 1))) 46 23, [some (.inr (.inr a0)), some (.inl x1), some (.inl x2), some (.inl x3), some (.inl x4)], [], σ) rfl ?_ ?_
  · exact trivial
  · try simp (disch := omega) only [pe_wi w0, pe_wi (x := 1) ⟨by decide, by decide⟩]
    exact pe_two' k1 k2
theorem b109_23 {d : Nat} {Φ : Option pe_V → pe_H → Prop} {σ : pe_H} {a0 : Nat} {x1 : Int} {x2 : Int} {x3 : Int} {x4 : Int} (f_a0 : pk_Fs a0 σ := by assumption) (w0 : pe_in x3 := by unfold pe_in; omega)  (k1 : x3 < 0 → pe_X d 109 (44, [some (.inr (.inr a0)), some (.inl x1), some (.inl x2), some (.inl x3), some (.inl x4)], [], σ) Φ) (k2 : ¬ (x3 < 0) → pe_X d 109 (27, [some (.inr (.inr a0)), some (.inl x1), some (.inl x2), some (.inl x3), some (.inl x4)], [], σ) Φ) : pe_X d 109 (23, [some (.inr (.inr a0)), some (.inl x1), some (.inl x2), some (.inl x3), some (.inl x4)], [], σ) Φ := by
  refine pe_blk 13 2 ck109 [] (cond (decide ((pe_w x3) < 0)) 44 27, [some (.inr (.inr a0)), some (.inl x1), some (.inl x2), some (.inl x3), some (.inl x4)], [], σ) rfl ?_ ?_
  · exact trivial
  · try simp (disch := omega) only [pe_wi w0]
    exact pe_two k1 k2
theorem b109_27 {d : Nat} {Φ : Option pe_V → pe_H → Prop} {σ : pe_H} {a0 : Nat} {x1 : Int} {x2 : Int} {x3 : Int} {x4 : Int} (f_a0 : pk_Fs a0 σ := by assumption) (w0 : pe_in x3 := by unfold pe_in; omega)  (k1 : 5 < x3 → pe_X d 109 (44, [some (.inr (.inr a0)), some (.inl x1), some (.inl x2), some (.inl x3), some (.inl x4)], [], σ) Φ) (k2 : ¬ (5 < x3) → pe_X d 109 (32, [some (.inr (.inr a0)), some (.inl x1), some (.inl x2), some (.inl x3), some (.inl x4)], [], σ) Φ) : pe_X d 109 (27, [some (.inr (.inr a0)), some (.inl x1), some (.inl x2), some (.inl x3), some (.inl x4)], [], σ) Φ := by
  refine pe_blk 15 3 ck109 [] (cond (decide ((pe_w 5) < (pe_w x3))) 44 32, [some (.inr (.inr a0)), some (.inl x1), some (.inl x2), some (.inl x3), some (.inl x4)], [], σ) rfl ?_ ?_
  · exact trivial
  · try simp (disch := omega) only [pe_wi w0, pe_wi (x := 5) ⟨by decide, by decide⟩]
    exact pe_two k1 k2
theorem b109_32 {d : Nat} {Φ : Option pe_V → pe_H → Prop} {σ : pe_H} {a0 : Nat} {x1 : Int} {x2 : Int} {x3 : Int} {x4 : Int} (f_a0 : pk_Fs a0 σ := by assumption) (w0 : pe_in x4 := by unfold pe_in; omega)  (k1 : x4 < 0 → pe_X d 109 (44, [some (.inr (.inr a0)), some (.inl x1), some (.inl x2), some (.inl x3), some (.inl x4)], [], σ) Φ) (k2 : ¬ (x4 < 0) → pe_X d 109 (37, [some (.inr (.inr a0)), some (.inl x1), some (.inl x2), some (.inl x3), some (.inl x4)], [], σ) Φ) : pe_X d 109 (32, [some (.inr (.inr a0)), some (.inl x1), some (.inl x2), some (.inl x3), some (.inl x4)], [], σ) Φ := by
  refine pe_blk 18 2 ck109 [] (cond (decide ((pe_w x4) < 0)) 44 37, [some (.inr (.inr a0)), some (.inl x1), some (.inl x2), some (.inl x3), some (.inl x4)], [], σ) rfl ?_ ?_
  · exact trivial
  · try simp (disch := omega) only [pe_wi w0]
    exact pe_two k1 k2
theorem b109_37 {d : Nat} {Φ : Option pe_V → pe_H → Prop} {σ : pe_H} {a0 : Nat} {x1 : Int} {x2 : Int} {x3 : Int} {x4 : Int} (f_a0 : pk_Fs a0 σ := by assumption) (w0 : pe_in x4 := by unfold pe_in; omega)  (k1 : x4 ≤ 9 → pe_X d 109 (46, [some (.inr (.inr a0)), some (.inl x1), some (.inl x2), some (.inl x3), some (.inl x4)], [], σ) Φ) (k2 : ¬ (x4 ≤ 9) → pe_X d 109 (44, [some (.inr (.inr a0)), some (.inl x1), some (.inl x2), some (.inl x3), some (.inl x4)], [], σ) Φ) : pe_X d 109 (37, [some (.inr (.inr a0)), some (.inl x1), some (.inl x2), some (.inl x3), some (.inl x4)], [], σ) Φ := by
  refine pe_blk 20 3 ck109 [] (cond (decide ((pe_w x4) ≤ (pe_w 9))) 46 44, [some (.inr (.inr a0)), some (.inl x1), some (.inl x2), some (.inl x3), some (.inl x4)], [], σ) rfl ?_ ?_
  · exact trivial
  · try simp (disch := omega) only [pe_wi w0, pe_wi (x := 9) ⟨by decide, by decide⟩]
    exact pe_two k1 k2
theorem b109_44 {d : Nat} {Φ : Option pe_V → pe_H → Prop} {σ : pe_H} {o0 : Option pe_V} {o1 : Option pe_V} {o2 : Option pe_V} {o3 : Option pe_V} {o4 : Option pe_V}    (k : Φ (some (.inl (-1))) σ) : pe_X d 109 (44, [o0, o1, o2, o3, o4], [], σ) Φ := by
  refine pe_blk 23 1 ck109 [] (45, [o0, o1, o2, o3, o4], [.inl (-1)], σ) rfl ?_ ?_
  · exact trivial
  · exact pe_fine 24 ck109 rfl rfl rfl trivial k
theorem b109_46 {d : Nat} {Φ : Option pe_V → pe_H → Prop} {σ : pe_H} {a0 : Nat} {x1 : Int} {x2 : Int} {x3 : Int} {x4 : Int} (f_a0 : pk_Fs a0 σ := by assumption) (w0 : pe_in x1 := by unfold pe_in; omega) (w1 : pe_in x2 := by unfold pe_in; omega) (h0 : 0 ≤ x1 := by first | assumption | omega) (h1 : x1 < 8 := by first | assumption | omega) (k1 : ¬ x2 = 1 → pe_X d 109 (76, [some (.inr (.inr a0)), some (.inl x1), some (.inl x2), some (.inl x3), some (.inl x4)], [.inl x1, .inr (.inr (a0 + 176))], pe_wR σ (a0 + 177) x1 0) Φ) (k2 : x2 = 1 → pe_X d 109 (63, [some (.inr (.inr a0)), some (.inl x1), some (.inl x2), some (.inl x3), some (.inl x4)], [.inl x1, .inr (.inr (a0 + 176))], pe_wR σ (a0 + 177) x1 0) Φ) : pe_X d 109 (46, [some (.inr (.inr a0)), some (.inl x1), some (.inl x2), some (.inl x3), some (.inl x4)], [], σ) Φ := by
  have hX0 := pk_s2 f_a0
  refine pe_blk 25 11 ck109 [pe_K σ a0 = 8, 12 ≤ pe_K σ (pe_R σ a0 4) ∧ pe_K σ (pe_R σ a0 4) < 19, 0 = 0 ∨ pe_K σ (pe_R σ a0 4) = pe_ak (pe_K σ 0), 0 ≤ (pe_w x1), (pe_w x1) < pe_L σ (pe_R σ a0 4), 2 ≤ (pe_R σ a0 4), pe_K (pe_wR σ (pe_R σ a0 4) (pe_w x1) 0) a0 = 8] (cond (decide (¬ (pe_w x2) = (pe_w 1))) 76 63, [some (.inr (.inr a0)), some (.inl x1), some (.inl x2), some (.inl x3), some (.inl x4)], [.inl x1, .inr (.inr (pe_R (pe_wR σ (pe_R σ a0 4) (pe_w x1) 0) a0 3))], pe_wR σ (pe_R σ a0 4) (pe_w x1) 0) rfl ?_ ?_
  · first
    | (simp (disch := omega) only [pe_all, pe_wi w0, pe_wi w1, pe_wi (x := 1) ⟨by decide, by decide⟩, pe_K_wI, pe_K_wR, pe_L_wI, pe_L_wR, pe_R_nej, pe_R_ner, pe_R_wI, pk_sK f_a0, pk_sK4 f_a0, pk_sL4 f_a0, pk_sR3 f_a0, pk_sR4 f_a0, true_or]; done)
    | (simp (disch := omega) only [pe_all, pe_wi w0, pe_wi w1, pe_wi (x := 1) ⟨by decide, by decide⟩, pe_K_wI, pe_K_wR, pe_L_wI, pe_L_wR, pe_R_nej, pe_R_ner, pe_R_wI, pk_sK f_a0, pk_sK4 f_a0, pk_sL4 f_a0, pk_sR3 f_a0, pk_sR4 f_a0, true_or]; (repeat' apply And.intro) <;> first | assumption | omega | decide)
  · try simp (disch := omega) only [pe_wi w0, pe_wi w1, pe_wi (x := 1) ⟨by decide, by decide⟩, pe_K_wI, pe_K_wR, pe_L_wI, pe_L_wR, pe_R_nej, pe_R_ner, pe_R_wI, pk_sK f_a0, pk_sK4 f_a0, pk_sL4 f_a0, pk_sR3 f_a0, pk_sR4 f_a0, true_or]
    exact pe_two' k1 k2
theorem b109_63 {d : Nat} {Φ : Option pe_V → pe_H → Prop} {σ : pe_H} {o0 : Option pe_V} {o1 : Option pe_V} {o2 : Option pe_V} {x3 : Int} {x4 : Int} {b0 : Nat} {s1 : Int}   (h0 : ¬ (pe_n σ) = 0 := by first | assumption | omega) (k : pe_M d 41 [.inr (.inr (pe_n σ)), .inl x3, .inl x4] (pe_new σ 3 0 2) (fun r σ' => pe_X d 109 (73, [o0, o1, o2, some (.inl x3), some (.inl x4)], r.toList ++ [.inr (.inr (pe_n σ)), .inl s1, .inr (.inr b0)], σ') Φ)) : pe_X d 109 (63, [o0, o1, o2, some (.inl x3), some (.inl x4)], [.inl s1, .inr (.inr b0)], σ) Φ := by
  refine pe_blk 36 4 ck109 [] (70, [o0, o1, o2, some (.inl x3), some (.inl x4)], [.inl x4, .inl x3, .inr (.inr (pe_n σ)), .inr (.inr (pe_n σ)), .inl s1, .inr (.inr b0)], pe_new σ 3 0 2) rfl ?_ ?_
  · exact trivial
  · exact pe_cal 40 ck109 rfl rfl rfl (show ¬ _ = 0 by assumption) k
theorem b109_73 {d : Nat} {Φ : Option pe_V → pe_H → Prop} {σ : pe_H} {o0 : Option pe_V} {o1 : Option pe_V} {o2 : Option pe_V} {o3 : Option pe_V} {o4 : Option pe_V} {b0 : Nat} {s1 : Int} {b2 : Nat}    (k : pe_X d 109 (77, [o0, o1, o2, o3, o4], [.inr (.inr b2), .inl s1, .inr (.inr b0)], σ) Φ) : pe_X d 109 (73, [o0, o1, o2, o3, o4], [.inr (.inr b2), .inl s1, .inr (.inr b0)], σ) Φ := by
  refine pe_blk 41 1 ck109 [] (77, [o0, o1, o2, o3, o4], [.inr (.inr b2), .inl s1, .inr (.inr b0)], σ) rfl ?_ ?_
  · exact trivial
  · exact k
theorem b109_76 {d : Nat} {Φ : Option pe_V → pe_H → Prop} {σ : pe_H} {o0 : Option pe_V} {o1 : Option pe_V} {o2 : Option pe_V} {o3 : Option pe_V} {o4 : Option pe_V} {b0 : Nat} {s1 : Int}    (k : pe_X d 109 (77, [o0, o1, o2, o3, o4], [.inr (.inr 0), .inl s1, .inr (.inr b0)], σ) Φ) : pe_X d 109 (76, [o0, o1, o2, o3, o4], [.inl s1, .inr (.inr b0)], σ) Φ := by
  refine pe_blk 42 1 ck109 [] (77, [o0, o1, o2, o3, o4], [.inr (.inr 0), .inl s1, .inr (.inr b0)], σ) rfl ?_ ?_
  · exact trivial
  · exact k
theorem b109_77 {d : Nat} {Φ : Option pe_V → pe_H → Prop} {σ : pe_H} {o0 : Option pe_V} {o1 : Option pe_V} {o2 : Option pe_V} {o3 : Option pe_V} {o4 : Option pe_V} {b0 : Nat} {s1 : Int} {b2 : Nat}  (w0 : pe_in s1 := by unfold pe_in; omega) (h0 : 12 ≤ pe_K σ b0 ∧ pe_K σ b0 < 19 := by first | assumption | omega) (h1 : b2 = 0 ∨ pe_K σ b0 = pe_ak (pe_K σ b2) := by first | assumption | omega) (h2 : 0 ≤ s1 := by first | assumption | omega) (h3 : s1 < pe_L σ b0 := by first | assumption | omega) (h4 : 2 ≤ b0 := by first | assumption | omega) (k : Φ (some (.inl 0)) (pe_wR σ b0 s1 b2)) : pe_X d 109 (77, [o0, o1, o2, o3, o4], [.inr (.inr b2), .inl s1, .inr (.inr b0)], σ) Φ := by
  refine pe_blk 43 2 ck109 [12 ≤ pe_K σ b0 ∧ pe_K σ b0 < 19, b2 = 0 ∨ pe_K σ b0 = pe_ak (pe_K σ b2), 0 ≤ (pe_w s1), (pe_w s1) < pe_L σ b0, 2 ≤ b0] (79, [o0, o1, o2, o3, o4], [.inl 0], pe_wR σ b0 (pe_w s1) b2) rfl ?_ ?_
  · first
    | (simp (disch := omega) only [pe_all, pe_wi w0, pe_K_wI, pe_K_wR, pe_L_wI, pe_L_wR]; done)
    | (simp (disch := omega) only [pe_all, pe_wi w0, pe_K_wI, pe_K_wR, pe_L_wI, pe_L_wR]; (repeat' apply And.intro) <;> first | assumption | omega | decide)
  · try simp (disch := omega) only [pe_wi w0, pe_K_wI, pe_K_wR, pe_L_wI, pe_L_wR]
    exact pe_fine 45 ck109 rfl rfl rfl trivial k
-- StepMachines.row(III)I
def T110 : List (Nat × Instr × Nat) := [(0, .iload_n 1, 1), (1, .invokestatic 286, 3), (4, .ifCond .eq 18, 3), (7, .iload_n 2, 1), (8, .ifCond .lt 14, 3), (11, .iload_n 2, 1), (12, .iconst 2, 1), (13, .if_icmp .gt 9, 3), (16, .iload_n 3, 1), (17, .bipush 100, 2), (19, .if_icmp .le 5, 3), (22, .iconst (-1), 1), (23, .ireturn, 1), (24, .iload_n 3, 1), (25, .ifCond .ge 6, 3), (28, .bipush (-14), 2), (30, .ireturn, 1), (31, .aload_n 0, 1), (32, .getfield 25, 3), (35, .iload_n 1, 1), (36, .aconst_null, 1), (37, .aastore, 1), (38, .aload_n 0, 1), (39, .getfield 31, 3), (42, .iload_n 1, 1), (43, .new 29, 3), (46, .dup, 1), (47, .iload_n 2, 1), (48, .iload_n 3, 1), (49, .invokespecial 289, 3), (52, .aastore, 1), (53, .iconst 0, 1), (54, .ireturn, 1)]
theorem ck110 : pe_ctx 110 8 false (some .int) 4 T110 := ⟨rfl, rfl, rfl, rfl, by decide +kernel, by decide, by decide⟩
theorem b110_0 {d : Nat} {Φ : Option pe_V → pe_H → Prop} {σ : pe_H} {a0 : Nat} {x1 : Int} {x2 : Int} {x3 : Int} (f_a0 : pk_Fs a0 σ := by assumption)   (k : pe_M d 115 [.inl x1] σ (fun r σ' => pe_X d 110 (4, [some (.inr (.inr a0)), some (.inl x1), some (.inl x2), some (.inl x3)], r.toList ++ [], σ') Φ)) : pe_X d 110 (0, [some (.inr (.inr a0)), some (.inl x1), some (.inl x2), some (.inl x3)], [], σ) Φ := by
  refine pe_blk 0 1 ck110 [] (1, [some (.inr (.inr a0)), some (.inl x1), some (.inl x2), some (.inl x3)], [.inl x1], σ) rfl ?_ ?_
  · exact trivial
  · exact pe_cal 1 ck110 rfl rfl rfl trivial k
theorem b110_4 {d : Nat} {Φ : Option pe_V → pe_H → Prop} {σ : pe_H} {a0 : Nat} {x1 : Int} {x2 : Int} {x3 : Int} {s0 : Int} (f_a0 : pk_Fs a0 σ := by assumption) (w0 : pe_in s0 := by unfold pe_in; omega)  (k1 : s0 = 0 → pe_X d 110 (22, [some (.inr (.inr a0)), some (.inl x1), some (.inl x2), some (.inl x3)], [], σ) Φ) (k2 : ¬ (s0 = 0) → pe_X d 110 (7, [some (.inr (.inr a0)), some (.inl x1), some (.inl x2), some (.inl x3)], [], σ) Φ) : pe_X d 110 (4, [some (.inr (.inr a0)), some (.inl x1), some (.inl x2), some (.inl x3)], [.inl s0], σ) Φ := by
  refine pe_blk 2 1 ck110 [] (cond (decide ((pe_w s0) = 0)) 22 7, [some (.inr (.inr a0)), some (.inl x1), some (.inl x2), some (.inl x3)], [], σ) rfl ?_ ?_
  · exact trivial
  · try simp (disch := omega) only [pe_wi w0]
    exact pe_two k1 k2
theorem b110_7 {d : Nat} {Φ : Option pe_V → pe_H → Prop} {σ : pe_H} {a0 : Nat} {x1 : Int} {x2 : Int} {x3 : Int} (f_a0 : pk_Fs a0 σ := by assumption) (w0 : pe_in x2 := by unfold pe_in; omega)  (k1 : x2 < 0 → pe_X d 110 (22, [some (.inr (.inr a0)), some (.inl x1), some (.inl x2), some (.inl x3)], [], σ) Φ) (k2 : ¬ (x2 < 0) → pe_X d 110 (11, [some (.inr (.inr a0)), some (.inl x1), some (.inl x2), some (.inl x3)], [], σ) Φ) : pe_X d 110 (7, [some (.inr (.inr a0)), some (.inl x1), some (.inl x2), some (.inl x3)], [], σ) Φ := by
  refine pe_blk 3 2 ck110 [] (cond (decide ((pe_w x2) < 0)) 22 11, [some (.inr (.inr a0)), some (.inl x1), some (.inl x2), some (.inl x3)], [], σ) rfl ?_ ?_
  · exact trivial
  · try simp (disch := omega) only [pe_wi w0]
    exact pe_two k1 k2
theorem b110_11 {d : Nat} {Φ : Option pe_V → pe_H → Prop} {σ : pe_H} {a0 : Nat} {x1 : Int} {x2 : Int} {x3 : Int} (f_a0 : pk_Fs a0 σ := by assumption) (w0 : pe_in x2 := by unfold pe_in; omega)  (k1 : 2 < x2 → pe_X d 110 (22, [some (.inr (.inr a0)), some (.inl x1), some (.inl x2), some (.inl x3)], [], σ) Φ) (k2 : ¬ (2 < x2) → pe_X d 110 (16, [some (.inr (.inr a0)), some (.inl x1), some (.inl x2), some (.inl x3)], [], σ) Φ) : pe_X d 110 (11, [some (.inr (.inr a0)), some (.inl x1), some (.inl x2), some (.inl x3)], [], σ) Φ := by
  refine pe_blk 5 3 ck110 [] (cond (decide ((pe_w 2) < (pe_w x2))) 22 16, [some (.inr (.inr a0)), some (.inl x1), some (.inl x2), some (.inl x3)], [], σ) rfl ?_ ?_
  · exact trivial
  · try simp (disch := omega) only [pe_wi w0, pe_wi (x := 2) ⟨by decide, by decide⟩]
    exact pe_two k1 k2
theorem b110_16 {d : Nat} {Φ : Option pe_V → pe_H → Prop} {σ : pe_H} {a0 : Nat} {x1 : Int} {x2 : Int} {x3 : Int} (f_a0 : pk_Fs a0 σ := by assumption) (w0 : pe_in x3 := by unfold pe_in; omega)  (k1 : x3 ≤ 100 → pe_X d 110 (24, [some (.inr (.inr a0)), some (.inl x1), some (.inl x2), some (.inl x3)], [], σ) Φ) (k2 : ¬ (x3 ≤ 100) → pe_X d 110 (22, [some (.inr (.inr a0)), some (.inl x1), some (.inl x2), some (.inl x3)], [], σ) Φ) : pe_X d 110 (16, [some (.inr (.inr a0)), some (.inl x1), some (.inl x2), some (.inl x3)], [], σ) Φ := by
  refine pe_blk 8 3 ck110 [] (cond (decide ((pe_w x3) ≤ (pe_w 100))) 24 22, [some (.inr (.inr a0)), some (.inl x1), some (.inl x2), some (.inl x3)], [], σ) rfl ?_ ?_
  · exact trivial
  · try simp (disch := omega) only [pe_wi w0, pe_wi (x := 100) ⟨by decide, by decide⟩]
    exact pe_two k1 k2
theorem b110_22 {d : Nat} {Φ : Option pe_V → pe_H → Prop} {σ : pe_H} {o0 : Option pe_V} {o1 : Option pe_V} {o2 : Option pe_V} {o3 : Option pe_V}    (k : Φ (some (.inl (-1))) σ) : pe_X d 110 (22, [o0, o1, o2, o3], [], σ) Φ := by
  refine pe_blk 11 1 ck110 [] (23, [o0, o1, o2, o3], [.inl (-1)], σ) rfl ?_ ?_
  · exact trivial
  · exact pe_fine 12 ck110 rfl rfl rfl trivial k
theorem b110_24 {d : Nat} {Φ : Option pe_V → pe_H → Prop} {σ : pe_H} {a0 : Nat} {x1 : Int} {x2 : Int} {x3 : Int} (f_a0 : pk_Fs a0 σ := by assumption) (w0 : pe_in x3 := by unfold pe_in; omega)  (k1 : 0 ≤ x3 → pe_X d 110 (31, [some (.inr (.inr a0)), some (.inl x1), some (.inl x2), some (.inl x3)], [], σ) Φ) (k2 : ¬ (0 ≤ x3) → pe_X d 110 (28, [some (.inr (.inr a0)), some (.inl x1), some (.inl x2), some (.inl x3)], [], σ) Φ) : pe_X d 110 (24, [some (.inr (.inr a0)), some (.inl x1), some (.inl x2), some (.inl x3)], [], σ) Φ := by
  refine pe_blk 13 2 ck110 [] (cond (decide (0 ≤ (pe_w x3))) 31 28, [some (.inr (.inr a0)), some (.inl x1), some (.inl x2), some (.inl x3)], [], σ) rfl ?_ ?_
  · exact trivial
  · try simp (disch := omega) only [pe_wi w0]
    exact pe_two k1 k2
theorem b110_28 {d : Nat} {Φ : Option pe_V → pe_H → Prop} {σ : pe_H} {o0 : Option pe_V} {o1 : Option pe_V} {o2 : Option pe_V} {o3 : Option pe_V}    (k : Φ (some (.inl (-14))) σ) : pe_X d 110 (28, [o0, o1, o2, o3], [], σ) Φ := by
  refine pe_blk 15 1 ck110 [] (30, [o0, o1, o2, o3], [.inl (-14)], σ) rfl ?_ ?_
  · exact trivial
  · exact pe_fine 16 ck110 rfl rfl rfl trivial k
theorem b110_31 {d : Nat} {Φ : Option pe_V → pe_H → Prop} {σ : pe_H} {a0 : Nat} {x1 : Int} {x2 : Int} {x3 : Int} (f_a0 : pk_Fs a0 σ := by assumption) (w0 : pe_in x1 := by unfold pe_in; omega) (h0 : 0 ≤ x1 := by first | assumption | omega) (h1 : x1 < 8 := by first | assumption | omega) (h2 : ¬ (pe_n (pe_wR σ (a0 + 176) x1 0)) = 0 := by first | assumption | omega) (k : pe_M d 56 [.inr (.inr (pe_n (pe_wR σ (a0 + 176) x1 0))), .inl x2, .inl x3] (pe_new (pe_wR σ (a0 + 176) x1 0) 6 0 2) (fun r σ' => pe_X d 110 (52, [some (.inr (.inr a0)), some (.inl x1), some (.inl x2), some (.inl x3)], r.toList ++ [.inr (.inr (pe_n (pe_wR σ (a0 + 176) x1 0))), .inl x1, .inr (.inr (a0 + 177))], σ') Φ)) : pe_X d 110 (31, [some (.inr (.inr a0)), some (.inl x1), some (.inl x2), some (.inl x3)], [], σ) Φ := by
  have hX0 := pk_s2 f_a0
  refine pe_blk 17 12 ck110 [pe_K σ a0 = 8, 12 ≤ pe_K σ (pe_R σ a0 3) ∧ pe_K σ (pe_R σ a0 3) < 19, 0 = 0 ∨ pe_K σ (pe_R σ a0 3) = pe_ak (pe_K σ 0), 0 ≤ (pe_w x1), (pe_w x1) < pe_L σ (pe_R σ a0 3), 2 ≤ (pe_R σ a0 3), pe_K (pe_wR σ (pe_R σ a0 3) (pe_w x1) 0) a0 = 8] (49, [some (.inr (.inr a0)), some (.inl x1), some (.inl x2), some (.inl x3)], [.inl x3, .inl x2, .inr (.inr (pe_n (pe_wR σ (pe_R σ a0 3) (pe_w x1) 0))), .inr (.inr (pe_n (pe_wR σ (pe_R σ a0 3) (pe_w x1) 0))), .inl x1, .inr (.inr (pe_R (pe_wR σ (pe_R σ a0 3) (pe_w x1) 0) a0 4))], pe_new (pe_wR σ (pe_R σ a0 3) (pe_w x1) 0) 6 0 2) rfl ?_ ?_
  · first
    | (simp (disch := omega) only [pe_all, pe_wi w0, pe_K_wI, pe_K_wR, pe_L_wI, pe_L_wR, pe_R_nej, pe_R_ner, pe_R_wI, pk_sK f_a0, pk_sK3 f_a0, pk_sL3 f_a0, pk_sR3 f_a0, pk_sR4 f_a0, true_or]; done)
    | (simp (disch := omega) only [pe_all, pe_wi w0, pe_K_wI, pe_K_wR, pe_L_wI, pe_L_wR, pe_R_nej, pe_R_ner, pe_R_wI, pk_sK f_a0, pk_sK3 f_a0, pk_sL3 f_a0, pk_sR3 f_a0, pk_sR4 f_a0, true_or]; (repeat' apply And.intro) <;> first | assumption | omega | decide)
  · try simp (disch := omega) only [pe_wi w0, pe_K_wI, pe_K_wR, pe_L_wI, pe_L_wR, pe_R_nej, pe_R_ner, pe_R_wI, pk_sK f_a0, pk_sK3 f_a0, pk_sL3 f_a0, pk_sR3 f_a0, pk_sR4 f_a0, true_or]
    exact pe_cal 29 ck110 rfl rfl rfl (show ¬ _ = 0 by assumption) k
theorem b110_52 {d : Nat} {Φ : Option pe_V → pe_H → Prop} {σ : pe_H} {o0 : Option pe_V} {o1 : Option pe_V} {o2 : Option pe_V} {o3 : Option pe_V} {b0 : Nat} {s1 : Int} {b2 : Nat}  (w0 : pe_in s1 := by unfold pe_in; omega) (h0 : 12 ≤ pe_K σ b0 ∧ pe_K σ b0 < 19 := by first | assumption | omega) (h1 : b2 = 0 ∨ pe_K σ b0 = pe_ak (pe_K σ b2) := by first | assumption | omega) (h2 : 0 ≤ s1 := by first | assumption | omega) (h3 : s1 < pe_L σ b0 := by first | assumption | omega) (h4 : 2 ≤ b0 := by first | assumption | omega) (k : Φ (some (.inl 0)) (pe_wR σ b0 s1 b2)) : pe_X d 110 (52, [o0, o1, o2, o3], [.inr (.inr b2), .inl s1, .inr (.inr b0)], σ) Φ := by
  refine pe_blk 30 2 ck110 [12 ≤ pe_K σ b0 ∧ pe_K σ b0 < 19, b2 = 0 ∨ pe_K σ b0 = pe_ak (pe_K σ b2), 0 ≤ (pe_w s1), (pe_w s1) < pe_L σ b0, 2 ≤ b0] (54, [o0, o1, o2, o3], [.inl 0], pe_wR σ b0 (pe_w s1) b2) rfl ?_ ?_
  · first
    | (simp (disch := omega) only [pe_all, pe_wi w0, pe_K_wI, pe_K_wR, pe_L_wI, pe_L_wR]; done)
    | (simp (disch := omega) only [pe_all, pe_wi w0, pe_K_wI, pe_K_wR, pe_L_wI, pe_L_wR]; (repeat' apply And.intro) <;> first | assumption | omega | decide)
  · try simp (disch := omega) only [pe_wi w0, pe_K_wI, pe_K_wR, pe_L_wI, pe_L_wR]
    exact pe_fine 32 ck110 rfl rfl rfl trivial k
-- StepMachines.put(III)I
def T111 : List (Nat × Instr × Nat) := [(0, .aload_n 0, 1), (1, .iload_n 1, 1), (2, .invokevirtual 50, 3), (5, .istore 4, 2), (7, .iload 4, 2), (9, .ifCond .eq 6, 3), (12, .iload 4, 2), (14, .ireturn, 1), (15, .aload_n 0, 1), (16, .getfield 31, 3), (19, .iload_n 1, 1), (20, .aaload, 1), (21, .iload_n 2, 1), (22, .invokevirtual 290, 3), (25, .ifCond .ne 6, 3), (28, .bipush (-13), 2), (30, .ireturn, 1), (31, .aload_n 0, 1), (32, .getfield 31, 3), (35, .iload_n 1, 1), (36, .aaload, 1), (37, .iload_n 2, 1), (38, .iload_n 3, 1), (39, .invokevirtual 293, 3), (42, .iconst 0, 1), (43, .ireturn, 1)]
theorem ck111 : pe_ctx 111 8 false (some .int) 5 T111 := ⟨rfl, rfl, rfl, rfl, by decide +kernel, by decide, by decide⟩
theorem b111_0 {d : Nat} {Φ : Option pe_V → pe_H → Prop} {σ : pe_H} {a0 : Nat} {x1 : Int} {x2 : Int} {x3 : Int} {o4 : Option pe_V} (f_a0 : pk_Fs a0 σ := by assumption)   (k : pe_M d 119 [.inr (.inr a0), .inl x1] σ (fun r σ' => pe_X d 111 (5, [some (.inr (.inr a0)), some (.inl x1), some (.inl x2), some (.inl x3), o4], r.toList ++ [], σ') Φ)) : pe_X d 111 (0, [some (.inr (.inr a0)), some (.inl x1), some (.inl x2), some (.inl x3), o4], [], σ) Φ := by
  refine pe_blk 0 2 ck111 [] (2, [some (.inr (.inr a0)), some (.inl x1), some (.inl x2), some (.inl x3), o4], [.inl x1, .inr (.inr a0)], σ) rfl ?_ ?_
  · exact trivial
  · try simp (disch := omega) only [pe_K_wI, pe_K_wR, pk_sK f_a0]
    have hrc : pe_K σ a0 = 8 := by first | assumption | (simp (disch := omega) only [pe_K_wI, pe_K_wR, pk_sK f_a0]; done) | (simp (disch := omega) only [pe_K_wI, pe_K_wR, pk_sK f_a0]; assumption)
    exact pe_cal 2 ck111 rfl rfl rfl ⟨hrc, by decide⟩ k
theorem b111_5 {d : Nat} {Φ : Option pe_V → pe_H → Prop} {σ : pe_H} {a0 : Nat} {x1 : Int} {x2 : Int} {x3 : Int} {o4 : Option pe_V} {s0 : Int} (f_a0 : pk_Fs a0 σ := by assumption) (w0 : pe_in s0 := by unfold pe_in; omega)  (k1 : s0 = 0 → pe_X d 111 (15, [some (.inr (.inr a0)), some (.inl x1), some (.inl x2), some (.inl x3), some (.inl s0)], [], σ) Φ) (k2 : ¬ (s0 = 0) → pe_X d 111 (12, [some (.inr (.inr a0)), some (.inl x1), some (.inl x2), some (.inl x3), some (.inl s0)], [], σ) Φ) : pe_X d 111 (5, [some (.inr (.inr a0)), some (.inl x1), some (.inl x2), some (.inl x3), o4], [.inl s0], σ) Φ := by
  refine pe_blk 3 3 ck111 [] (cond (decide ((pe_w s0) = 0)) 15 12, [some (.inr (.inr a0)), some (.inl x1), some (.inl x2), some (.inl x3), some (.inl s0)], [], σ) rfl ?_ ?_
  · exact trivial
  · try simp (disch := omega) only [pe_wi w0]
    exact pe_two k1 k2
theorem b111_12 {d : Nat} {Φ : Option pe_V → pe_H → Prop} {σ : pe_H} {o0 : Option pe_V} {o1 : Option pe_V} {o2 : Option pe_V} {o3 : Option pe_V} {x4 : Int}    (k : Φ (some (.inl x4)) σ) : pe_X d 111 (12, [o0, o1, o2, o3, some (.inl x4)], [], σ) Φ := by
  refine pe_blk 6 1 ck111 [] (14, [o0, o1, o2, o3, some (.inl x4)], [.inl x4], σ) rfl ?_ ?_
  · exact trivial
  · exact pe_fine 7 ck111 rfl rfl rfl trivial k
theorem b111_15 {d : Nat} {Φ : Option pe_V → pe_H → Prop} {σ : pe_H} {a0 : Nat} {x1 : Int} {x2 : Int} {x3 : Int} {o4 : Option pe_V} (f_a0 : pk_Fs a0 σ := by assumption) (w0 : pe_in x1 := by unfold pe_in; omega) (h0 : 0 ≤ x1 := by first | assumption | omega) (h1 : x1 < 8 := by first | assumption | omega) (h2 : pe_K σ (pe_R σ (a0 + 177) x1) = 6 := by first | assumption | omega) (k : pe_M d 58 [.inr (.inr (pe_R σ (a0 + 177) x1)), .inl x2] σ (fun r σ' => pe_X d 111 (25, [some (.inr (.inr a0)), some (.inl x1), some (.inl x2), some (.inl x3), o4], r.toList ++ [], σ') Φ)) : pe_X d 111 (15, [some (.inr (.inr a0)), some (.inl x1), some (.inl x2), some (.inl x3), o4], [], σ) Φ := by
  refine pe_blk 8 5 ck111 [pe_K σ a0 = 8, 12 ≤ pe_K σ (pe_R σ a0 4) ∧ pe_K σ (pe_R σ a0 4) < 19, 0 ≤ (pe_w x1), (pe_w x1) < pe_L σ (pe_R σ a0 4)] (22, [some (.inr (.inr a0)), some (.inl x1), some (.inl x2), some (.inl x3), o4], [.inl x2, .inr (.inr (pe_R σ (pe_R σ a0 4) (pe_w x1)))], σ) rfl ?_ ?_
  · first
    | (simp (disch := omega) only [pe_all, pe_wi w0, pe_K_wI, pe_K_wR, pe_L_wI, pe_L_wR, pe_R_nej, pe_R_ner, pe_R_wI, pk_sK f_a0, pk_sK4 f_a0, pk_sL4 f_a0, pk_sR4 f_a0]; done)
    | (simp (disch := omega) only [pe_all, pe_wi w0, pe_K_wI, pe_K_wR, pe_L_wI, pe_L_wR, pe_R_nej, pe_R_ner, pe_R_wI, pk_sK f_a0, pk_sK4 f_a0, pk_sL4 f_a0, pk_sR4 f_a0]; (repeat' apply And.intro) <;> first | assumption | omega | decide)
  · try simp (disch := omega) only [pe_wi w0, pe_K_wI, pe_K_wR, pe_L_wI, pe_L_wR, pe_R_nej, pe_R_ner, pe_R_wI, pk_sK f_a0, pk_sK4 f_a0, pk_sL4 f_a0, pk_sR4 f_a0]
    have hrc : pe_K σ (pe_R σ (a0 + 177) x1) = 6 := by first | assumption | (simp (disch := omega) only [pe_wi w0, pe_K_wI, pe_K_wR, pe_L_wI, pe_L_wR, pe_R_nej, pe_R_ner, pe_R_wI, pk_sK f_a0, pk_sK4 f_a0, pk_sL4 f_a0, pk_sR4 f_a0]; done) | (simp (disch := omega) only [pe_wi w0, pe_K_wI, pe_K_wR, pe_L_wI, pe_L_wR, pe_R_nej, pe_R_ner, pe_R_wI, pk_sK f_a0, pk_sK4 f_a0, pk_sL4 f_a0, pk_sR4 f_a0]; assumption)
    exact pe_cal 13 ck111 rfl rfl rfl ⟨hrc, by decide⟩ k
theorem b111_25 {d : Nat} {Φ : Option pe_V → pe_H → Prop} {σ : pe_H} {a0 : Nat} {x1 : Int} {x2 : Int} {x3 : Int} {o4 : Option pe_V} {s0 : Int} (f_a0 : pk_Fs a0 σ := by assumption) (w0 : pe_in s0 := by unfold pe_in; omega)  (k1 : ¬ s0 = 0 → pe_X d 111 (31, [some (.inr (.inr a0)), some (.inl x1), some (.inl x2), some (.inl x3), o4], [], σ) Φ) (k2 : s0 = 0 → pe_X d 111 (28, [some (.inr (.inr a0)), some (.inl x1), some (.inl x2), some (.inl x3), o4], [], σ) Φ) : pe_X d 111 (25, [some (.inr (.inr a0)), some (.inl x1), some (.inl x2), some (.inl x3), o4], [.inl s0], σ) Φ := by
  refine pe_blk 14 1 ck111 [] (cond (decide (¬ (pe_w s0) = 0)) 31 28, [some (.inr (.inr a0)), some (.inl x1), some (.inl x2), some (.inl x3), o4], [], σ) rfl ?_ ?_
  · exact trivial
  · try simp (disch := omega) only [pe_wi w0]
    exact pe_two' k1 k2
theorem b111_28 {d : Nat} {Φ : Option pe_V → pe_H → Prop} {σ : pe_H} {o0 : Option pe_V} {o1 : Option pe_V} {o2 : Option pe_V} {o3 : Option pe_V} {o4 : Option pe_V}    (k : Φ (some (.inl (-13))) σ) : pe_X d 111 (28, [o0, o1, o2, o3, o4], [], σ) Φ := by
  refine pe_blk 15 1 ck111 [] (30, [o0, o1, o2, o3, o4], [.inl (-13)], σ) rfl ?_ ?_
  · exact trivial
  · exact pe_fine 16 ck111 rfl rfl rfl trivial k
theorem b111_31 {d : Nat} {Φ : Option pe_V → pe_H → Prop} {σ : pe_H} {a0 : Nat} {x1 : Int} {x2 : Int} {x3 : Int} {o4 : Option pe_V} (f_a0 : pk_Fs a0 σ := by assumption) (w0 : pe_in x1 := by unfold pe_in; omega) (h0 : 0 ≤ x1 := by first | assumption | omega) (h1 : x1 < 8 := by first | assumption | omega) (h2 : pe_K σ (pe_R σ (a0 + 177) x1) = 6 := by first | assumption | omega) (k : pe_M d 61 [.inr (.inr (pe_R σ (a0 + 177) x1)), .inl x2, .inl x3] σ (fun r σ' => pe_X d 111 (42, [some (.inr (.inr a0)), some (.inl x1), some (.inl x2), some (.inl x3), o4], r.toList ++ [], σ') Φ)) : pe_X d 111 (31, [some (.inr (.inr a0)), some (.inl x1), some (.inl x2), some (.inl x3), o4], [], σ) Φ := by
  refine pe_blk 17 6 ck111 [pe_K σ a0 = 8, 12 ≤ pe_K σ (pe_R σ a0 4) ∧ pe_K σ (pe_R σ a0 4) < 19, 0 ≤ (pe_w x1), (pe_w x1) < pe_L σ (pe_R σ a0 4)] (39, [some (.inr (.inr a0)), some (.inl x1), some (.inl x2), some (.inl x3), o4], [.inl x3, .inl x2, .inr (.inr (pe_R σ (pe_R σ a0 4) (pe_w x1)))], σ) rfl ?_ ?_
  · first
    | (simp (disch := omega) only [pe_all, pe_wi w0, pe_K_wI, pe_K_wR, pe_L_wI, pe_L_wR, pe_R_nej, pe_R_ner, pe_R_wI, pk_sK f_a0, pk_sK4 f_a0, pk_sL4 f_a0, pk_sR4 f_a0]; done)
    | (simp (disch := omega) only [pe_all, pe_wi w0, pe_K_wI, pe_K_wR, pe_L_wI, pe_L_wR, pe_R_nej, pe_R_ner, pe_R_wI, pk_sK f_a0, pk_sK4 f_a0, pk_sL4 f_a0, pk_sR4 f_a0]; (repeat' apply And.intro) <;> first | assumption | omega | decide)
  · try simp (disch := omega) only [pe_wi w0, pe_K_wI, pe_K_wR, pe_L_wI, pe_L_wR, pe_R_nej, pe_R_ner, pe_R_wI, pk_sK f_a0, pk_sK4 f_a0, pk_sL4 f_a0, pk_sR4 f_a0]
    have hrc : pe_K σ (pe_R σ (a0 + 177) x1) = 6 := by first | assumption | (simp (disch := omega) only [pe_wi w0, pe_K_wI, pe_K_wR, pe_L_wI, pe_L_wR, pe_R_nej, pe_R_ner, pe_R_wI, pk_sK f_a0, pk_sK4 f_a0, pk_sL4 f_a0, pk_sR4 f_a0]; done) | (simp (disch := omega) only [pe_wi w0, pe_K_wI, pe_K_wR, pe_L_wI, pe_L_wR, pe_R_nej, pe_R_ner, pe_R_wI, pk_sK f_a0, pk_sK4 f_a0, pk_sL4 f_a0, pk_sR4 f_a0]; assumption)
    exact pe_cal 23 ck111 rfl rfl rfl ⟨hrc, by decide⟩ k
theorem b111_42 {d : Nat} {Φ : Option pe_V → pe_H → Prop} {σ : pe_H} {o0 : Option pe_V} {o1 : Option pe_V} {o2 : Option pe_V} {o3 : Option pe_V} {o4 : Option pe_V}    (k : Φ (some (.inl 0)) σ) : pe_X d 111 (42, [o0, o1, o2, o3, o4], [], σ) Φ := by
  refine pe_blk 24 1 ck111 [] (43, [o0, o1, o2, o3, o4], [.inl 0], σ) rfl ?_ ?_
  · exact trivial
  · exact pe_fine 25 ck111 rfl rfl rfl trivial k
-- ('StepMachines', 'element', '(II)J'): (17, (7, '.athrow', 1), "Exception('op .athrow')")
-- StepMachines.copy(IIIII)I
-- StepMachines.cost(I)I
-- StepMachines.isShelf(I)Z
def T115 : List (Nat × Instr × Nat) := [(0, .iload_n 0, 1), (1, .ifCond .lt 13, 3), (4, .iload_n 0, 1), (5, .bipush 8, 2), (7, .if_icmp .ge 7, 3), (10, .iconst 1, 1), (11, .goto 4, 3), (14, .iconst 0, 1), (15, .ireturn, 1)]
theorem ck115 : pe_ctx 115 8 false (some .boolean) 1 T115 := ⟨rfl, rfl, rfl, rfl, by decide +kernel, by decide, by decide⟩
theorem b115_0 {d : Nat} {Φ : Option pe_V → pe_H → Prop} {σ : pe_H} {x0 : Int}  (w0 : pe_in x0 := by unfold pe_in; omega)  (k1 : x0 < 0 → pe_X d 115 (14, [some (.inl x0)], [], σ) Φ) (k2 : ¬ (x0 < 0) → pe_X d 115 (4, [some (.inl x0)], [], σ) Φ) : pe_X d 115 (0, [some (.inl x0)], [], σ) Φ := by
  refine pe_blk 0 2 ck115 [] (cond (decide ((pe_w x0) < 0)) 14 4, [some (.inl x0)], [], σ) rfl ?_ ?_
  · exact trivial
  · try simp (disch := omega) only [pe_wi w0]
    exact pe_two k1 k2
theorem b115_4 {d : Nat} {Φ : Option pe_V → pe_H → Prop} {σ : pe_H} {x0 : Int}  (w0 : pe_in x0 := by unfold pe_in; omega)  (k1 : 8 ≤ x0 → pe_X d 115 (14, [some (.inl x0)], [], σ) Φ) (k2 : ¬ (8 ≤ x0) → pe_X d 115 (10, [some (.inl x0)], [], σ) Φ) : pe_X d 115 (4, [some (.inl x0)], [], σ) Φ := by
  refine pe_blk 2 3 ck115 [] (cond (decide ((pe_w 8) ≤ (pe_w x0))) 14 10, [some (.inl x0)], [], σ) rfl ?_ ?_
  · exact trivial
  · try simp (disch := omega) only [pe_wi w0, pe_wi (x := 8) ⟨by decide, by decide⟩]
    exact pe_two k1 k2
theorem b115_10 {d : Nat} {Φ : Option pe_V → pe_H → Prop} {σ : pe_H} {o0 : Option pe_V}    (k : pe_X d 115 (15, [o0], [.inl 1], σ) Φ) : pe_X d 115 (10, [o0], [], σ) Φ := by
  refine pe_blk 5 2 ck115 [] (15, [o0], [.inl 1], σ) rfl ?_ ?_
  · exact trivial
  · exact k
theorem b115_14 {d : Nat} {Φ : Option pe_V → pe_H → Prop} {σ : pe_H} {o0 : Option pe_V}    (k : pe_X d 115 (15, [o0], [.inl 0], σ) Φ) : pe_X d 115 (14, [o0], [], σ) Φ := by
  refine pe_blk 7 1 ck115 [] (15, [o0], [.inl 0], σ) rfl ?_ ?_
  · exact trivial
  · exact k
theorem b115_15 {d : Nat} {Φ : Option pe_V → pe_H → Prop} {σ : pe_H} {o0 : Option pe_V} {s0 : Int}   (h0 : s0 = 0 ∨ s0 = 1 := by first | assumption | omega) (k : Φ (some (.inl s0)) σ) : pe_X d 115 (15, [o0], [.inl s0], σ) Φ := by
  exact pe_fine 8 ck115 rfl rfl rfl h0 k
-- StepMachines.isProgram(I)Z
def T116 : List (Nat × Instr × Nat) := [(0, .iload_n 0, 1), (1, .ifCond .lt 12, 3), (4, .iload_n 0, 1), (5, .iconst 5, 1), (6, .if_icmp .ge 7, 3), (9, .iconst 1, 1), (10, .goto 4, 3), (13, .iconst 0, 1), (14, .ireturn, 1)]
theorem ck116 : pe_ctx 116 8 false (some .boolean) 1 T116 := ⟨rfl, rfl, rfl, rfl, by decide +kernel, by decide, by decide⟩
theorem b116_0 {d : Nat} {Φ : Option pe_V → pe_H → Prop} {σ : pe_H} {x0 : Int}  (w0 : pe_in x0 := by unfold pe_in; omega)  (k1 : x0 < 0 → pe_X d 116 (13, [some (.inl x0)], [], σ) Φ) (k2 : ¬ (x0 < 0) → pe_X d 116 (4, [some (.inl x0)], [], σ) Φ) : pe_X d 116 (0, [some (.inl x0)], [], σ) Φ := by
  refine pe_blk 0 2 ck116 [] (cond (decide ((pe_w x0) < 0)) 13 4, [some (.inl x0)], [], σ) rfl ?_ ?_
  · exact trivial
  · try simp (disch := omega) only [pe_wi w0]
    exact pe_two k1 k2
theorem b116_4 {d : Nat} {Φ : Option pe_V → pe_H → Prop} {σ : pe_H} {x0 : Int}  (w0 : pe_in x0 := by unfold pe_in; omega)  (k1 : 5 ≤ x0 → pe_X d 116 (13, [some (.inl x0)], [], σ) Φ) (k2 : ¬ (5 ≤ x0) → pe_X d 116 (9, [some (.inl x0)], [], σ) Φ) : pe_X d 116 (4, [some (.inl x0)], [], σ) Φ := by
  refine pe_blk 2 3 ck116 [] (cond (decide ((pe_w 5) ≤ (pe_w x0))) 13 9, [some (.inl x0)], [], σ) rfl ?_ ?_
  · exact trivial
  · try simp (disch := omega) only [pe_wi w0, pe_wi (x := 5) ⟨by decide, by decide⟩]
    exact pe_two k1 k2
theorem b116_9 {d : Nat} {Φ : Option pe_V → pe_H → Prop} {σ : pe_H} {o0 : Option pe_V}    (k : pe_X d 116 (14, [o0], [.inl 1], σ) Φ) : pe_X d 116 (9, [o0], [], σ) Φ := by
  refine pe_blk 5 2 ck116 [] (14, [o0], [.inl 1], σ) rfl ?_ ?_
  · exact trivial
  · exact k
theorem b116_13 {d : Nat} {Φ : Option pe_V → pe_H → Prop} {σ : pe_H} {o0 : Option pe_V}    (k : pe_X d 116 (14, [o0], [.inl 0], σ) Φ) : pe_X d 116 (13, [o0], [], σ) Φ := by
  refine pe_blk 7 1 ck116 [] (14, [o0], [.inl 0], σ) rfl ?_ ?_
  · exact trivial
  · exact k
theorem b116_14 {d : Nat} {Φ : Option pe_V → pe_H → Prop} {σ : pe_H} {o0 : Option pe_V} {s0 : Int}   (h0 : s0 = 0 ∨ s0 = 1 := by first | assumption | omega) (k : Φ (some (.inl s0)) σ) : pe_X d 116 (14, [o0], [.inl s0], σ) Φ := by
  exact pe_fine 8 ck116 rfl rfl rfl h0 k
-- StepMachines.isCoroutine(I)Z
def T117 : List (Nat × Instr × Nat) := [(0, .iload_n 1, 1), (1, .ifCond .lt 18, 3), (4, .iload_n 1, 1), (5, .aload_n 0, 1), (6, .getfield 10, 3), (9, .getfield 235, 3), (12, .if_icmp .ge 7, 3), (15, .iconst 1, 1), (16, .goto 4, 3), (19, .iconst 0, 1), (20, .ireturn, 1)]
theorem ck117 : pe_ctx 117 8 false (some .boolean) 2 T117 := ⟨rfl, rfl, rfl, rfl, by decide +kernel, by decide, by decide⟩
theorem b117_0 {d : Nat} {Φ : Option pe_V → pe_H → Prop} {σ : pe_H} {a0 : Nat} {x1 : Int} (f_a0 : pk_Fs a0 σ := by assumption) (w0 : pe_in x1 := by unfold pe_in; omega)  (k1 : x1 < 0 → pe_X d 117 (19, [some (.inr (.inr a0)), some (.inl x1)], [], σ) Φ) (k2 : ¬ (x1 < 0) → pe_X d 117 (4, [some (.inr (.inr a0)), some (.inl x1)], [], σ) Φ) : pe_X d 117 (0, [some (.inr (.inr a0)), some (.inl x1)], [], σ) Φ := by
  refine pe_blk 0 2 ck117 [] (cond (decide ((pe_w x1) < 0)) 19 4, [some (.inr (.inr a0)), some (.inl x1)], [], σ) rfl ?_ ?_
  · exact trivial
  · try simp (disch := omega) only [pe_wi w0]
    exact pe_two k1 k2
theorem b117_4 {d : Nat} {Φ : Option pe_V → pe_H → Prop} {σ : pe_H} {a0 : Nat} {x1 : Int} (f_a0 : pk_Fs a0 σ := by assumption) (w0 : pe_in (pe_I σ (a0 + 1) 4) := by unfold pe_in; omega) (w1 : pe_in x1 := by unfold pe_in; omega)  (k1 : (pe_I σ (a0 + 1) 4) ≤ x1 → pe_X d 117 (19, [some (.inr (.inr a0)), some (.inl x1)], [], σ) Φ) (k2 : ¬ ((pe_I σ (a0 + 1) 4) ≤ x1) → pe_X d 117 (15, [some (.inr (.inr a0)), some (.inl x1)], [], σ) Φ) : pe_X d 117 (4, [some (.inr (.inr a0)), some (.inl x1)], [], σ) Φ := by
  refine pe_blk 2 5 ck117 [pe_K σ a0 = 8, pe_K σ (pe_R σ a0 0) = 2] (cond (decide ((pe_w (pe_I σ (pe_R σ a0 0) 4)) ≤ (pe_w x1))) 19 15, [some (.inr (.inr a0)), some (.inl x1)], [], σ) rfl ?_ ?_
  · first
    | (simp (disch := omega) only [pe_all, pe_wi w0, pe_wi w1, pe_K_wI, pe_K_wR, pe_R_nej, pe_R_ner, pe_R_wI, pk_mK (pk_sM0 f_a0), pk_sK f_a0, pk_sR0 f_a0]; done)
    | (simp (disch := omega) only [pe_all, pe_wi w0, pe_wi w1, pe_K_wI, pe_K_wR, pe_R_nej, pe_R_ner, pe_R_wI, pk_mK (pk_sM0 f_a0), pk_sK f_a0, pk_sR0 f_a0]; (repeat' apply And.intro) <;> first | assumption | omega | decide)
  · try simp (disch := omega) only [pe_wi w0, pe_wi w1, pe_K_wI, pe_K_wR, pe_R_nej, pe_R_ner, pe_R_wI, pk_mK (pk_sM0 f_a0), pk_sK f_a0, pk_sR0 f_a0]
    exact pe_two k1 k2
theorem b117_15 {d : Nat} {Φ : Option pe_V → pe_H → Prop} {σ : pe_H} {o0 : Option pe_V} {o1 : Option pe_V}    (k : pe_X d 117 (20, [o0, o1], [.inl 1], σ) Φ) : pe_X d 117 (15, [o0, o1], [], σ) Φ := by
  refine pe_blk 7 2 ck117 [] (20, [o0, o1], [.inl 1], σ) rfl ?_ ?_
  · exact trivial
  · exact k
theorem b117_19 {d : Nat} {Φ : Option pe_V → pe_H → Prop} {σ : pe_H} {o0 : Option pe_V} {o1 : Option pe_V}    (k : pe_X d 117 (20, [o0, o1], [.inl 0], σ) Φ) : pe_X d 117 (19, [o0, o1], [], σ) Φ := by
  refine pe_blk 9 1 ck117 [] (20, [o0, o1], [.inl 0], σ) rfl ?_ ?_
  · exact trivial
  · exact k
theorem b117_20 {d : Nat} {Φ : Option pe_V → pe_H → Prop} {σ : pe_H} {o0 : Option pe_V} {o1 : Option pe_V} {s0 : Int}   (h0 : s0 = 0 ∨ s0 = 1 := by first | assumption | omega) (k : Φ (some (.inl s0)) σ) : pe_X d 117 (20, [o0, o1], [.inl s0], σ) Φ := by
  exact pe_fine 10 ck117 rfl rfl rfl h0 k
-- StepMachines.holdsNothing(I)Z
-- StepMachines.refusalOfRow(I)I
def T119 : List (Nat × Instr × Nat) := [(0, .iload_n 1, 1), (1, .invokestatic 286, 3), (4, .ifCond .ne 5, 3), (7, .iconst (-1), 1), (8, .ireturn, 1), (9, .aload_n 0, 1), (10, .getfield 31, 3), (13, .iload_n 1, 1), (14, .aaload, 1), (15, .ifnull 5, 3), (18, .iconst 0, 1), (19, .ireturn, 1), (20, .aload_n 0, 1), (21, .getfield 25, 3), (24, .iload_n 1, 1), (25, .aaload, 1), (26, .ifnonnull 8, 3), (29, .bipush (-11), 2), (31, .goto 5, 3), (34, .bipush (-12), 2), (36, .ireturn, 1)]
theorem ck119 : pe_ctx 119 8 false (some .int) 2 T119 := ⟨rfl, rfl, rfl, rfl, by decide +kernel, by decide, by decide⟩
theorem b119_0 {d : Nat} {Φ : Option pe_V → pe_H → Prop} {σ : pe_H} {a0 : Nat} {x1 : Int} (f_a0 : pk_Fs a0 σ := by assumption)   (k : pe_M d 115 [.inl x1] σ (fun r σ' => pe_X d 119 (4, [some (.inr (.inr a0)), some (.inl x1)], r.toList ++ [], σ') Φ)) : pe_X d 119 (0, [some (.inr (.inr a0)), some (.inl x1)], [], σ) Φ := by
  refine pe_blk 0 1 ck119 [] (1, [some (.inr (.inr a0)), some (.inl x1)], [.inl x1], σ) rfl ?_ ?_
  · exact trivial
  · exact pe_cal 1 ck119 rfl rfl rfl trivial k
theorem b119_4 {d : Nat} {Φ : Option pe_V → pe_H → Prop} {σ : pe_H} {a0 : Nat} {x1 : Int} {s0 : Int} (f_a0 : pk_Fs a0 σ := by assumption) (w0 : pe_in s0 := by unfold pe_in; omega)  (k1 : ¬ s0 = 0 → pe_X d 119 (9, [some (.inr (.inr a0)), some (.inl x1)], [], σ) Φ) (k2 : s0 = 0 → pe_X d 119 (7, [some (.inr (.inr a0)), some (.inl x1)], [], σ) Φ) : pe_X d 119 (4, [some (.inr (.inr a0)), some (.inl x1)], [.inl s0], σ) Φ := by
  refine pe_blk 2 1 ck119 [] (cond (decide (¬ (pe_w s0) = 0)) 9 7, [some (.inr (.inr a0)), some (.inl x1)], [], σ) rfl ?_ ?_
  · exact trivial
  · try simp (disch := omega) only [pe_wi w0]
    exact pe_two' k1 k2
theorem b119_7 {d : Nat} {Φ : Option pe_V → pe_H → Prop} {σ : pe_H} {o0 : Option pe_V} {o1 : Option pe_V}    (k : Φ (some (.inl (-1))) σ) : pe_X d 119 (7, [o0, o1], [], σ) Φ := by
  refine pe_blk 3 1 ck119 [] (8, [o0, o1], [.inl (-1)], σ) rfl ?_ ?_
  · exact trivial
  · exact pe_fine 4 ck119 rfl rfl rfl trivial k
theorem b119_9 {d : Nat} {Φ : Option pe_V → pe_H → Prop} {σ : pe_H} {a0 : Nat} {x1 : Int} (f_a0 : pk_Fs a0 σ := by assumption) (w0 : pe_in x1 := by unfold pe_in; omega) (h0 : 0 ≤ x1 := by first | assumption | omega) (h1 : x1 < 8 := by first | assumption | omega) (k1 : (pe_R σ (a0 + 177) x1) = 0 → pe_X d 119 (20, [some (.inr (.inr a0)), some (.inl x1)], [], σ) Φ) (k2 : ¬ ((pe_R σ (a0 + 177) x1) = 0) → pe_X d 119 (18, [some (.inr (.inr a0)), some (.inl x1)], [], σ) Φ) : pe_X d 119 (9, [some (.inr (.inr a0)), some (.inl x1)], [], σ) Φ := by
  refine pe_blk 5 5 ck119 [pe_K σ a0 = 8, 12 ≤ pe_K σ (pe_R σ a0 4) ∧ pe_K σ (pe_R σ a0 4) < 19, 0 ≤ (pe_w x1), (pe_w x1) < pe_L σ (pe_R σ a0 4)] (cond (decide ((pe_R σ (pe_R σ a0 4) (pe_w x1)) = 0)) 20 18, [some (.inr (.inr a0)), some (.inl x1)], [], σ) rfl ?_ ?_
  · first
    | (simp (disch := omega) only [pe_all, pe_wi w0, pe_K_wI, pe_K_wR, pe_L_wI, pe_L_wR, pe_R_nej, pe_R_ner, pe_R_wI, pk_sK f_a0, pk_sK4 f_a0, pk_sL4 f_a0, pk_sR4 f_a0]; done)
    | (simp (disch := omega) only [pe_all, pe_wi w0, pe_K_wI, pe_K_wR, pe_L_wI, pe_L_wR, pe_R_nej, pe_R_ner, pe_R_wI, pk_sK f_a0, pk_sK4 f_a0, pk_sL4 f_a0, pk_sR4 f_a0]; (repeat' apply And.intro) <;> first | assumption | omega | decide)
  · try simp (disch := omega) only [pe_wi w0, pe_K_wI, pe_K_wR, pe_L_wI, pe_L_wR, pe_R_nej, pe_R_ner, pe_R_wI, pk_sK f_a0, pk_sK4 f_a0, pk_sL4 f_a0, pk_sR4 f_a0]
    exact pe_two k1 k2
theorem b119_18 {d : Nat} {Φ : Option pe_V → pe_H → Prop} {σ : pe_H} {o0 : Option pe_V} {o1 : Option pe_V}    (k : Φ (some (.inl 0)) σ) : pe_X d 119 (18, [o0, o1], [], σ) Φ := by
  refine pe_blk 10 1 ck119 [] (19, [o0, o1], [.inl 0], σ) rfl ?_ ?_
  · exact trivial
  · exact pe_fine 11 ck119 rfl rfl rfl trivial k
theorem b119_20 {d : Nat} {Φ : Option pe_V → pe_H → Prop} {σ : pe_H} {a0 : Nat} {x1 : Int} (f_a0 : pk_Fs a0 σ := by assumption) (w0 : pe_in x1 := by unfold pe_in; omega) (h0 : 0 ≤ x1 := by first | assumption | omega) (h1 : x1 < 8 := by first | assumption | omega) (k1 : ¬ (pe_R σ (a0 + 176) x1) = 0 → pe_X d 119 (34, [some (.inr (.inr a0)), some (.inl x1)], [], σ) Φ) (k2 : (pe_R σ (a0 + 176) x1) = 0 → pe_X d 119 (29, [some (.inr (.inr a0)), some (.inl x1)], [], σ) Φ) : pe_X d 119 (20, [some (.inr (.inr a0)), some (.inl x1)], [], σ) Φ := by
  refine pe_blk 12 5 ck119 [pe_K σ a0 = 8, 12 ≤ pe_K σ (pe_R σ a0 3) ∧ pe_K σ (pe_R σ a0 3) < 19, 0 ≤ (pe_w x1), (pe_w x1) < pe_L σ (pe_R σ a0 3)] (cond (decide (¬ (pe_R σ (pe_R σ a0 3) (pe_w x1)) = 0)) 34 29, [some (.inr (.inr a0)), some (.inl x1)], [], σ) rfl ?_ ?_
  · first
    | (simp (disch := omega) only [pe_all, pe_wi w0, pe_K_wI, pe_K_wR, pe_L_wI, pe_L_wR, pe_R_nej, pe_R_ner, pe_R_wI, pk_sK f_a0, pk_sK3 f_a0, pk_sL3 f_a0, pk_sR3 f_a0]; done)
    | (simp (disch := omega) only [pe_all, pe_wi w0, pe_K_wI, pe_K_wR, pe_L_wI, pe_L_wR, pe_R_nej, pe_R_ner, pe_R_wI, pk_sK f_a0, pk_sK3 f_a0, pk_sL3 f_a0, pk_sR3 f_a0]; (repeat' apply And.intro) <;> first | assumption | omega | decide)
  · try simp (disch := omega) only [pe_wi w0, pe_K_wI, pe_K_wR, pe_L_wI, pe_L_wR, pe_R_nej, pe_R_ner, pe_R_wI, pk_sK f_a0, pk_sK3 f_a0, pk_sL3 f_a0, pk_sR3 f_a0]
    exact pe_two' k1 k2
theorem b119_29 {d : Nat} {Φ : Option pe_V → pe_H → Prop} {σ : pe_H} {o0 : Option pe_V} {o1 : Option pe_V}    (k : pe_X d 119 (36, [o0, o1], [.inl (-11)], σ) Φ) : pe_X d 119 (29, [o0, o1], [], σ) Φ := by
  refine pe_blk 17 2 ck119 [] (36, [o0, o1], [.inl (-11)], σ) rfl ?_ ?_
  · exact trivial
  · exact k
theorem b119_34 {d : Nat} {Φ : Option pe_V → pe_H → Prop} {σ : pe_H} {o0 : Option pe_V} {o1 : Option pe_V}    (k : pe_X d 119 (36, [o0, o1], [.inl (-12)], σ) Φ) : pe_X d 119 (34, [o0, o1], [], σ) Φ := by
  refine pe_blk 19 1 ck119 [] (36, [o0, o1], [.inl (-12)], σ) rfl ?_ ?_
  · exact trivial
  · exact k
theorem b119_36 {d : Nat} {Φ : Option pe_V → pe_H → Prop} {σ : pe_H} {o0 : Option pe_V} {o1 : Option pe_V} {s0 : Int}    (k : Φ (some (.inl s0)) σ) : pe_X d 119 (36, [o0, o1], [.inl s0], σ) Φ := by
  exact pe_fine 20 ck119 rfl rfl rfl trivial k
-- StepMachines.refusalOfManner(I)I
def T120 : List (Nat × Instr × Nat) := [(0, .iload_n 1, 1), (1, .invokestatic 286, 3), (4, .ifCond .ne 5, 3), (7, .iconst (-1), 1), (8, .ireturn, 1), (9, .aload_n 0, 1), (10, .getfield 25, 3), (13, .iload_n 1, 1), (14, .aaload, 1), (15, .ifnull 5, 3), (18, .iconst 0, 1), (19, .ireturn, 1), (20, .aload_n 0, 1), (21, .getfield 31, 3), (24, .iload_n 1, 1), (25, .aaload, 1), (26, .ifnonnull 8, 3), (29, .bipush (-11), 2), (31, .goto 5, 3), (34, .bipush (-12), 2), (36, .ireturn, 1)]
theorem ck120 : pe_ctx 120 8 false (some .int) 2 T120 := ⟨rfl, rfl, rfl, rfl, by decide +kernel, by decide, by decide⟩
theorem b120_0 {d : Nat} {Φ : Option pe_V → pe_H → Prop} {σ : pe_H} {a0 : Nat} {x1 : Int} (f_a0 : pk_Fs a0 σ := by assumption)   (k : pe_M d 115 [.inl x1] σ (fun r σ' => pe_X d 120 (4, [some (.inr (.inr a0)), some (.inl x1)], r.toList ++ [], σ') Φ)) : pe_X d 120 (0, [some (.inr (.inr a0)), some (.inl x1)], [], σ) Φ := by
  refine pe_blk 0 1 ck120 [] (1, [some (.inr (.inr a0)), some (.inl x1)], [.inl x1], σ) rfl ?_ ?_
  · exact trivial
  · exact pe_cal 1 ck120 rfl rfl rfl trivial k
theorem b120_4 {d : Nat} {Φ : Option pe_V → pe_H → Prop} {σ : pe_H} {a0 : Nat} {x1 : Int} {s0 : Int} (f_a0 : pk_Fs a0 σ := by assumption) (w0 : pe_in s0 := by unfold pe_in; omega)  (k1 : ¬ s0 = 0 → pe_X d 120 (9, [some (.inr (.inr a0)), some (.inl x1)], [], σ) Φ) (k2 : s0 = 0 → pe_X d 120 (7, [some (.inr (.inr a0)), some (.inl x1)], [], σ) Φ) : pe_X d 120 (4, [some (.inr (.inr a0)), some (.inl x1)], [.inl s0], σ) Φ := by
  refine pe_blk 2 1 ck120 [] (cond (decide (¬ (pe_w s0) = 0)) 9 7, [some (.inr (.inr a0)), some (.inl x1)], [], σ) rfl ?_ ?_
  · exact trivial
  · try simp (disch := omega) only [pe_wi w0]
    exact pe_two' k1 k2
theorem b120_7 {d : Nat} {Φ : Option pe_V → pe_H → Prop} {σ : pe_H} {o0 : Option pe_V} {o1 : Option pe_V}    (k : Φ (some (.inl (-1))) σ) : pe_X d 120 (7, [o0, o1], [], σ) Φ := by
  refine pe_blk 3 1 ck120 [] (8, [o0, o1], [.inl (-1)], σ) rfl ?_ ?_
  · exact trivial
  · exact pe_fine 4 ck120 rfl rfl rfl trivial k
theorem b120_9 {d : Nat} {Φ : Option pe_V → pe_H → Prop} {σ : pe_H} {a0 : Nat} {x1 : Int} (f_a0 : pk_Fs a0 σ := by assumption) (w0 : pe_in x1 := by unfold pe_in; omega) (h0 : 0 ≤ x1 := by first | assumption | omega) (h1 : x1 < 8 := by first | assumption | omega) (k1 : (pe_R σ (a0 + 176) x1) = 0 → pe_X d 120 (20, [some (.inr (.inr a0)), some (.inl x1)], [], σ) Φ) (k2 : ¬ ((pe_R σ (a0 + 176) x1) = 0) → pe_X d 120 (18, [some (.inr (.inr a0)), some (.inl x1)], [], σ) Φ) : pe_X d 120 (9, [some (.inr (.inr a0)), some (.inl x1)], [], σ) Φ := by
  refine pe_blk 5 5 ck120 [pe_K σ a0 = 8, 12 ≤ pe_K σ (pe_R σ a0 3) ∧ pe_K σ (pe_R σ a0 3) < 19, 0 ≤ (pe_w x1), (pe_w x1) < pe_L σ (pe_R σ a0 3)] (cond (decide ((pe_R σ (pe_R σ a0 3) (pe_w x1)) = 0)) 20 18, [some (.inr (.inr a0)), some (.inl x1)], [], σ) rfl ?_ ?_
  · first
    | (simp (disch := omega) only [pe_all, pe_wi w0, pe_K_wI, pe_K_wR, pe_L_wI, pe_L_wR, pe_R_nej, pe_R_ner, pe_R_wI, pk_sK f_a0, pk_sK3 f_a0, pk_sL3 f_a0, pk_sR3 f_a0]; done)
    | (simp (disch := omega) only [pe_all, pe_wi w0, pe_K_wI, pe_K_wR, pe_L_wI, pe_L_wR, pe_R_nej, pe_R_ner, pe_R_wI, pk_sK f_a0, pk_sK3 f_a0, pk_sL3 f_a0, pk_sR3 f_a0]; (repeat' apply And.intro) <;> first | assumption | omega | decide)
  · try simp (disch := omega) only [pe_wi w0, pe_K_wI, pe_K_wR, pe_L_wI, pe_L_wR, pe_R_nej, pe_R_ner, pe_R_wI, pk_sK f_a0, pk_sK3 f_a0, pk_sL3 f_a0, pk_sR3 f_a0]
    exact pe_two k1 k2
theorem b120_18 {d : Nat} {Φ : Option pe_V → pe_H → Prop} {σ : pe_H} {o0 : Option pe_V} {o1 : Option pe_V}    (k : Φ (some (.inl 0)) σ) : pe_X d 120 (18, [o0, o1], [], σ) Φ := by
  refine pe_blk 10 1 ck120 [] (19, [o0, o1], [.inl 0], σ) rfl ?_ ?_
  · exact trivial
  · exact pe_fine 11 ck120 rfl rfl rfl trivial k
theorem b120_20 {d : Nat} {Φ : Option pe_V → pe_H → Prop} {σ : pe_H} {a0 : Nat} {x1 : Int} (f_a0 : pk_Fs a0 σ := by assumption) (w0 : pe_in x1 := by unfold pe_in; omega) (h0 : 0 ≤ x1 := by first | assumption | omega) (h1 : x1 < 8 := by first | assumption | omega) (k1 : ¬ (pe_R σ (a0 + 177) x1) = 0 → pe_X d 120 (34, [some (.inr (.inr a0)), some (.inl x1)], [], σ) Φ) (k2 : (pe_R σ (a0 + 177) x1) = 0 → pe_X d 120 (29, [some (.inr (.inr a0)), some (.inl x1)], [], σ) Φ) : pe_X d 120 (20, [some (.inr (.inr a0)), some (.inl x1)], [], σ) Φ := by
  refine pe_blk 12 5 ck120 [pe_K σ a0 = 8, 12 ≤ pe_K σ (pe_R σ a0 4) ∧ pe_K σ (pe_R σ a0 4) < 19, 0 ≤ (pe_w x1), (pe_w x1) < pe_L σ (pe_R σ a0 4)] (cond (decide (¬ (pe_R σ (pe_R σ a0 4) (pe_w x1)) = 0)) 34 29, [some (.inr (.inr a0)), some (.inl x1)], [], σ) rfl ?_ ?_
  · first
    | (simp (disch := omega) only [pe_all, pe_wi w0, pe_K_wI, pe_K_wR, pe_L_wI, pe_L_wR, pe_R_nej, pe_R_ner, pe_R_wI, pk_sK f_a0, pk_sK4 f_a0, pk_sL4 f_a0, pk_sR4 f_a0]; done)
    | (simp (disch := omega) only [pe_all, pe_wi w0, pe_K_wI, pe_K_wR, pe_L_wI, pe_L_wR, pe_R_nej, pe_R_ner, pe_R_wI, pk_sK f_a0, pk_sK4 f_a0, pk_sL4 f_a0, pk_sR4 f_a0]; (repeat' apply And.intro) <;> first | assumption | omega | decide)
  · try simp (disch := omega) only [pe_wi w0, pe_K_wI, pe_K_wR, pe_L_wI, pe_L_wR, pe_R_nej, pe_R_ner, pe_R_wI, pk_sK f_a0, pk_sK4 f_a0, pk_sL4 f_a0, pk_sR4 f_a0]
    exact pe_two' k1 k2
theorem b120_29 {d : Nat} {Φ : Option pe_V → pe_H → Prop} {σ : pe_H} {o0 : Option pe_V} {o1 : Option pe_V}    (k : pe_X d 120 (36, [o0, o1], [.inl (-11)], σ) Φ) : pe_X d 120 (29, [o0, o1], [], σ) Φ := by
  refine pe_blk 17 2 ck120 [] (36, [o0, o1], [.inl (-11)], σ) rfl ?_ ?_
  · exact trivial
  · exact k
theorem b120_34 {d : Nat} {Φ : Option pe_V → pe_H → Prop} {σ : pe_H} {o0 : Option pe_V} {o1 : Option pe_V}    (k : pe_X d 120 (36, [o0, o1], [.inl (-12)], σ) Φ) : pe_X d 120 (34, [o0, o1], [], σ) Φ := by
  refine pe_blk 19 1 ck120 [] (36, [o0, o1], [.inl (-12)], σ) rfl ?_ ?_
  · exact trivial
  · exact k
theorem b120_36 {d : Nat} {Φ : Option pe_V → pe_H → Prop} {σ : pe_H} {o0 : Option pe_V} {o1 : Option pe_V} {s0 : Int}    (k : Φ (some (.inl s0)) σ) : pe_X d 120 (36, [o0, o1], [.inl s0], σ) Φ := by
  exact pe_fine 20 ck120 rfl rfl rfl trivial k
-- StepMachines.heldTold(I)I
def T121 : List (Nat × Instr × Nat) := [(0, .iload_n 1, 1), (1, .bipush (-2), 2), (3, .if_icmp .ne 5, 3), (6, .iconst 0, 1), (7, .ireturn, 1), (8, .iload_n 1, 1), (9, .iconst (-1), 1), (10, .if_icmp .ne 7, 3), (13, .iconst 1, 1), (14, .goto 14, 3), (17, .bipush 10, 2), (19, .aload_n 0, 1), (20, .getfield 10, 3), (23, .iload_n 1, 1), (24, .invokevirtual 170, 3), (27, .iadd, 1), (28, .ireturn, 1)]
theorem ck121 : pe_ctx 121 8 false (some .int) 2 T121 := ⟨rfl, rfl, rfl, rfl, by decide +kernel, by decide, by decide⟩
theorem b121_0 {d : Nat} {Φ : Option pe_V → pe_H → Prop} {σ : pe_H} {a0 : Nat} {x1 : Int} (f_a0 : pk_Fs a0 σ := by assumption) (w0 : pe_in x1 := by unfold pe_in; omega)  (k1 : ¬ x1 = (-2) → pe_X d 121 (8, [some (.inr (.inr a0)), some (.inl x1)], [], σ) Φ) (k2 : x1 = (-2) → pe_X d 121 (6, [some (.inr (.inr a0)), some (.inl x1)], [], σ) Φ) : pe_X d 121 (0, [some (.inr (.inr a0)), some (.inl x1)], [], σ) Φ := by
  refine pe_blk 0 3 ck121 [] (cond (decide (¬ (pe_w x1) = (pe_w (-2)))) 8 6, [some (.inr (.inr a0)), some (.inl x1)], [], σ) rfl ?_ ?_
  · exact trivial
  · try simp (disch := omega) only [pe_wi w0, pe_wi (x := (-2)) ⟨by decide, by decide⟩]
    exact pe_two' k1 k2
theorem b121_6 {d : Nat} {Φ : Option pe_V → pe_H → Prop} {σ : pe_H} {o0 : Option pe_V} {o1 : Option pe_V}    (k : Φ (some (.inl 0)) σ) : pe_X d 121 (6, [o0, o1], [], σ) Φ := by
  refine pe_blk 3 1 ck121 [] (7, [o0, o1], [.inl 0], σ) rfl ?_ ?_
  · exact trivial
  · exact pe_fine 4 ck121 rfl rfl rfl trivial k
theorem b121_8 {d : Nat} {Φ : Option pe_V → pe_H → Prop} {σ : pe_H} {a0 : Nat} {x1 : Int} (f_a0 : pk_Fs a0 σ := by assumption) (w0 : pe_in x1 := by unfold pe_in; omega)  (k1 : ¬ x1 = (-1) → pe_X d 121 (17, [some (.inr (.inr a0)), some (.inl x1)], [], σ) Φ) (k2 : x1 = (-1) → pe_X d 121 (13, [some (.inr (.inr a0)), some (.inl x1)], [], σ) Φ) : pe_X d 121 (8, [some (.inr (.inr a0)), some (.inl x1)], [], σ) Φ := by
  refine pe_blk 5 3 ck121 [] (cond (decide (¬ (pe_w x1) = (pe_w (-1)))) 17 13, [some (.inr (.inr a0)), some (.inl x1)], [], σ) rfl ?_ ?_
  · exact trivial
  · try simp (disch := omega) only [pe_wi w0, pe_wi (x := (-1)) ⟨by decide, by decide⟩]
    exact pe_two' k1 k2
theorem b121_13 {d : Nat} {Φ : Option pe_V → pe_H → Prop} {σ : pe_H} {o0 : Option pe_V} {o1 : Option pe_V}    (k : pe_X d 121 (28, [o0, o1], [.inl 1], σ) Φ) : pe_X d 121 (13, [o0, o1], [], σ) Φ := by
  refine pe_blk 8 2 ck121 [] (28, [o0, o1], [.inl 1], σ) rfl ?_ ?_
  · exact trivial
  · exact k
theorem b121_17 {d : Nat} {Φ : Option pe_V → pe_H → Prop} {σ : pe_H} {a0 : Nat} {x1 : Int} (f_a0 : pk_Fs a0 σ := by assumption)   (k : pe_M d 21 [.inr (.inr (a0 + 1)), .inl x1] σ (fun r σ' => pe_X d 121 (27, [some (.inr (.inr a0)), some (.inl x1)], r.toList ++ [.inl 10], σ') Φ)) : pe_X d 121 (17, [some (.inr (.inr a0)), some (.inl x1)], [], σ) Φ := by
  refine pe_blk 10 4 ck121 [pe_K σ a0 = 8] (24, [some (.inr (.inr a0)), some (.inl x1)], [.inl x1, .inr (.inr (pe_R σ a0 0)), .inl 10], σ) rfl ?_ ?_
  · first
    | (simp (disch := omega) only [pe_all, pe_K_wI, pe_K_wR, pe_R_nej, pe_R_ner, pe_R_wI, pk_mK (pk_sM0 f_a0), pk_sK f_a0, pk_sR0 f_a0]; done)
    | (simp (disch := omega) only [pe_all, pe_K_wI, pe_K_wR, pe_R_nej, pe_R_ner, pe_R_wI, pk_mK (pk_sM0 f_a0), pk_sK f_a0, pk_sR0 f_a0]; (repeat' apply And.intro) <;> first | assumption | omega | decide)
  · try simp (disch := omega) only [pe_K_wI, pe_K_wR, pe_R_nej, pe_R_ner, pe_R_wI, pk_mK (pk_sM0 f_a0), pk_sK f_a0, pk_sR0 f_a0]
    have hrc : pe_K σ (a0 + 1) = 2 := by first | assumption | (simp (disch := omega) only [pe_K_wI, pe_K_wR, pe_R_nej, pe_R_ner, pe_R_wI, pk_mK (pk_sM0 f_a0), pk_sK f_a0, pk_sR0 f_a0]; done) | (simp (disch := omega) only [pe_K_wI, pe_K_wR, pe_R_nej, pe_R_ner, pe_R_wI, pk_mK (pk_sM0 f_a0), pk_sK f_a0, pk_sR0 f_a0]; assumption)
    exact pe_cal 14 ck121 rfl rfl rfl ⟨hrc, by decide⟩ k
theorem b121_27 {d : Nat} {Φ : Option pe_V → pe_H → Prop} {σ : pe_H} {o0 : Option pe_V} {o1 : Option pe_V} {s0 : Int} {s1 : Int}    (k : pe_X d 121 (28, [o0, o1], [.inl (s0 + s1)], σ) Φ) : pe_X d 121 (27, [o0, o1], [.inl s1, .inl s0], σ) Φ := by
  refine pe_blk 15 1 ck121 [] (28, [o0, o1], [.inl (s0 + s1)], σ) rfl ?_ ?_
  · exact trivial
  · exact k
theorem b121_28 {d : Nat} {Φ : Option pe_V → pe_H → Prop} {σ : pe_H} {o0 : Option pe_V} {o1 : Option pe_V} {s0 : Int}    (k : Φ (some (.inl s0)) σ) : pe_X d 121 (28, [o0, o1], [.inl s0], σ) Φ := by
  exact pe_fine 16 ck121 rfl rfl rfl trivial k
-- StepMachines.mindOfNow()LStepMachines$Machine;
def T122 : List (Nat × Instr × Nat) := [(0, .aload_n 0, 1), (1, .getfield 19, 3), (4, .iconst 0, 1), (5, .aaload, 1), (6, .aload_n 0, 1), (7, .getfield 10, 3), (10, .invokevirtual 77, 3), (13, .aload_n 0, 1), (14, .getfield 19, 3), (17, .iconst 0, 1), (18, .aaload, 1), (19, .areturn, 1)]
theorem ck122 : pe_ctx 122 8 false (some (.object "StepMachines$Machine")) 1 T122 := ⟨rfl, rfl, rfl, rfl, by decide +kernel, by decide, by decide⟩
theorem b122_0 {d : Nat} {Φ : Option pe_V → pe_H → Prop} {σ : pe_H} {a0 : Nat} (f_a0 : pk_Fs a0 σ := by assumption)   (k : pe_M d 15 [.inr (.inr (pk_m a0 0)), .inr (.inr (a0 + 1))] σ (fun r σ' => pe_X d 122 (13, [some (.inr (.inr a0))], r.toList ++ [], σ') Φ)) : pe_X d 122 (0, [some (.inr (.inr a0))], [], σ) Φ := by
  refine pe_blk 0 6 ck122 [pe_K σ a0 = 8, 12 ≤ pe_K σ (pe_R σ a0 2) ∧ pe_K σ (pe_R σ a0 2) < 19, 0 ≤ (pe_w 0), (pe_w 0) < pe_L σ (pe_R σ a0 2), pe_K σ a0 = 8] (10, [some (.inr (.inr a0))], [.inr (.inr (pe_R σ a0 0)), .inr (.inr (pe_R σ (pe_R σ a0 2) (pe_w 0)))], σ) rfl ?_ ?_
  · first
    | (simp (disch := omega) only [pe_all, pe_wi (x := 0) ⟨by decide, by decide⟩, pe_K_wI, pe_K_wR, pe_L_wI, pe_L_wR, pe_R_nej, pe_R_ner, pe_R_wI, pk_mK (pk_sMi f_a0 (i := 0) (by omega) (by omega)), pk_sE f_a0 (i := 0) (by omega) (by omega), pk_sK f_a0, pk_sK2 f_a0, pk_sL2 f_a0, pk_sR0 f_a0, pk_sR2 f_a0]; done)
    | (simp (disch := omega) only [pe_all, pe_wi (x := 0) ⟨by decide, by decide⟩, pe_K_wI, pe_K_wR, pe_L_wI, pe_L_wR, pe_R_nej, pe_R_ner, pe_R_wI, pk_mK (pk_sMi f_a0 (i := 0) (by omega) (by omega)), pk_sE f_a0 (i := 0) (by omega) (by omega), pk_sK f_a0, pk_sK2 f_a0, pk_sL2 f_a0, pk_sR0 f_a0, pk_sR2 f_a0]; (repeat' apply And.intro) <;> first | assumption | omega | decide)
  · try simp (disch := omega) only [pe_wi (x := 0) ⟨by decide, by decide⟩, pe_K_wI, pe_K_wR, pe_L_wI, pe_L_wR, pe_R_nej, pe_R_ner, pe_R_wI, pk_mK (pk_sMi f_a0 (i := 0) (by omega) (by omega)), pk_sE f_a0 (i := 0) (by omega) (by omega), pk_sK f_a0, pk_sK2 f_a0, pk_sL2 f_a0, pk_sR0 f_a0, pk_sR2 f_a0]
    have hrc : pe_K σ (pk_m a0 0) = 2 := by first | assumption | (simp (disch := omega) only [pe_wi (x := 0) ⟨by decide, by decide⟩, pe_K_wI, pe_K_wR, pe_L_wI, pe_L_wR, pe_R_nej, pe_R_ner, pe_R_wI, pk_mK (pk_sMi f_a0 (i := 0) (by omega) (by omega)), pk_sE f_a0 (i := 0) (by omega) (by omega), pk_sK f_a0, pk_sK2 f_a0, pk_sL2 f_a0, pk_sR0 f_a0, pk_sR2 f_a0]; done) | (simp (disch := omega) only [pe_wi (x := 0) ⟨by decide, by decide⟩, pe_K_wI, pe_K_wR, pe_L_wI, pe_L_wR, pe_R_nej, pe_R_ner, pe_R_wI, pk_mK (pk_sMi f_a0 (i := 0) (by omega) (by omega)), pk_sE f_a0 (i := 0) (by omega) (by omega), pk_sK f_a0, pk_sK2 f_a0, pk_sL2 f_a0, pk_sR0 f_a0, pk_sR2 f_a0]; assumption)
    exact pe_cal 6 ck122 rfl rfl rfl ⟨hrc, by decide⟩ k
theorem b122_13 {d : Nat} {Φ : Option pe_V → pe_H → Prop} {σ : pe_H} {a0 : Nat} (f_a0 : pk_Fs a0 σ := by assumption)   (k : Φ (some (.inr (.inr (pk_m a0 0)))) σ) : pe_X d 122 (13, [some (.inr (.inr a0))], [], σ) Φ := by
  refine pe_blk 7 4 ck122 [pe_K σ a0 = 8, 12 ≤ pe_K σ (pe_R σ a0 2) ∧ pe_K σ (pe_R σ a0 2) < 19, 0 ≤ (pe_w 0), (pe_w 0) < pe_L σ (pe_R σ a0 2)] (19, [some (.inr (.inr a0))], [.inr (.inr (pe_R σ (pe_R σ a0 2) (pe_w 0)))], σ) rfl ?_ ?_
  · first
    | (simp (disch := omega) only [pe_all, pe_wi (x := 0) ⟨by decide, by decide⟩, pe_K_wI, pe_K_wR, pe_L_wI, pe_L_wR, pe_R_nej, pe_R_ner, pe_R_wI, pk_sE f_a0 (i := 0) (by omega) (by omega), pk_sK f_a0, pk_sK2 f_a0, pk_sL2 f_a0, pk_sR2 f_a0]; done)
    | (simp (disch := omega) only [pe_all, pe_wi (x := 0) ⟨by decide, by decide⟩, pe_K_wI, pe_K_wR, pe_L_wI, pe_L_wR, pe_R_nej, pe_R_ner, pe_R_wI, pk_sE f_a0 (i := 0) (by omega) (by omega), pk_sK f_a0, pk_sK2 f_a0, pk_sL2 f_a0, pk_sR2 f_a0]; (repeat' apply And.intro) <;> first | assumption | omega | decide)
  · try simp (disch := omega) only [pe_wi (x := 0) ⟨by decide, by decide⟩, pe_K_wI, pe_K_wR, pe_L_wI, pe_L_wR, pe_R_nej, pe_R_ner, pe_R_wI, pk_sE f_a0 (i := 0) (by omega) (by omega), pk_sK f_a0, pk_sK2 f_a0, pk_sL2 f_a0, pk_sR2 f_a0]
    exact pe_fine 11 ck122 rfl rfl rfl trivial k
-- StepMachines.othersDone(II)I
-- StepMachines.yieldsAll(ILStepMachines$Row;)Z
-- StepMachines.closeIf(LStepMachines$Machine;II)V
-- StepMachines.gain(LStepMachines$Coroutine;LStepMachines$Coroutine;I)I
-- StepMachines.waysEnded([LStepMachines$Machine;IIII)J
-- StepMachines.power(II)J
-- StepMachines.inLeastTerms(JJI)J
-- StepMachines.runByLot(LStepMachines$Machine;)V
-- StepMachines.draw(I)I

