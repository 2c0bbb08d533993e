/-! THE CLASS, blocks 3: by program -/
-- StepMachines.stuck(I)I
def T93 : List (Nat × Instr × Nat) := [(0, .iload_n 1, 1), (1, .ifCond .lt 8, 3), (4, .iload_n 1, 1), (5, .iconst 1, 1), (6, .if_icmp .le 5, 3), (9, .iconst (-1), 1), (10, .ireturn, 1), (11, .aload_n 0, 1), (12, .invokevirtual 66, 3), (15, .astore_n 2, 1), (16, .iconst 0, 1), (17, .istore_n 3, 1), (18, .iload_n 3, 1), (19, .bipush 60, 2), (21, .if_icmp .gt 41, 3), (24, .aload_n 2, 1), (25, .invokevirtual 226, 3), (28, .ifCond .ne 23, 3), (31, .iload_n 1, 1), (32, .ifCond .ne 7, 3), (35, .iload_n 3, 1), (36, .goto 14, 3), (39, .aload_n 2, 1), (40, .invokevirtual 229, 3), (43, .aload_n 2, 1), (44, .invokevirtual 215, 3), (47, .iconst (-1), 1), (48, .ixor, 1), (49, .iand, 1), (50, .ireturn, 1), (51, .aload_n 2, 1), (52, .invokevirtual 212, 3), (55, .pop, 1), (56, .iinc 3 1, 3), (59, .goto (-41), 3), (62, .bipush (-4), 2), (64, .ireturn, 1)]
theorem ck93 : pe_ctx 93 8 false (some .int) 4 T93 := ⟨rfl, rfl, rfl, rfl, by decide +kernel, by decide, by decide⟩
theorem b93_0 {d : Nat} {Φ : Option pe_V → pe_H → Prop} {σ : pe_H} {a0 : Nat} {x1 : Int} {o2 : Option pe_V} {o3 : Option pe_V} (f_a0 : pk_Fs a0 σ := by assumption) (w0 : pe_in x1 := by unfold pe_in; omega)  (k1 : x1 < 0 → pe_X d 93 (9, [some (.inr (.inr a0)), some (.inl x1), o2, o3], [], σ) Φ) (k2 : ¬ (x1 < 0) → pe_X d 93 (4, [some (.inr (.inr a0)), some (.inl x1), o2, o3], [], σ) Φ) : pe_X d 93 (0, [some (.inr (.inr a0)), some (.inl x1), o2, o3], [], σ) Φ := by
  refine pe_blk 0 2 ck93 [] (cond (decide ((pe_w x1) < 0)) 9 4, [some (.inr (.inr a0)), some (.inl x1), o2, o3], [], σ) rfl ?_ ?_
  · exact trivial
  · try simp (disch := omega) only [pe_wi w0]
    exact pe_two k1 k2
theorem b93_4 {d : Nat} {Φ : Option pe_V → pe_H → Prop} {σ : pe_H} {a0 : Nat} {x1 : Int} {o2 : Option pe_V} {o3 : Option pe_V} (f_a0 : pk_Fs a0 σ := by assumption) (w0 : pe_in x1 := by unfold pe_in; omega)  (k1 : x1 ≤ 1 → pe_X d 93 (11, [some (.inr (.inr a0)), some (.inl x1), o2, o3], [], σ) Φ) (k2 : ¬ (x1 ≤ 1) → pe_X d 93 (9, [some (.inr (.inr a0)), some (.inl x1), o2, o3], [], σ) Φ) : pe_X d 93 (4, [some (.inr (.inr a0)), some (.inl x1), o2, o3], [], σ) Φ := by
  refine pe_blk 2 3 ck93 [] (cond (decide ((pe_w x1) ≤ (pe_w 1))) 11 9, [some (.inr (.inr a0)), some (.inl x1), o2, o3], [], σ) rfl ?_ ?_
  · exact trivial
  · try simp (disch := omega) only [pe_wi w0, pe_wi (x := 1) ⟨by decide, by decide⟩]
    exact pe_two k1 k2
theorem b93_9 {d : Nat} {Φ : Option pe_V → pe_H → Prop} {σ : pe_H} {o0 : Option pe_V} {o1 : Option pe_V} {o2 : Option pe_V} {o3 : Option pe_V}    (k : Φ (some (.inl (-1))) σ) : pe_X d 93 (9, [o0, o1, o2, o3], [], σ) Φ := by
  refine pe_blk 5 1 ck93 [] (10, [o0, o1, o2, o3], [.inl (-1)], σ) rfl ?_ ?_
  · exact trivial
  · exact pe_fine 6 ck93 rfl rfl rfl trivial k
theorem b93_11 {d : Nat} {Φ : Option pe_V → pe_H → Prop} {σ : pe_H} {a0 : Nat} {x1 : Int} {o2 : Option pe_V} {o3 : Option pe_V} (f_a0 : pk_Fs a0 σ := by assumption)   (k : pe_M d 122 [.inr (.inr a0)] σ (fun r σ' => pe_X d 93 (15, [some (.inr (.inr a0)), some (.inl x1), o2, o3], r.toList ++ [], σ') Φ)) : pe_X d 93 (11, [some (.inr (.inr a0)), some (.inl x1), o2, o3], [], σ) Φ := by
  refine pe_blk 7 1 ck93 [] (12, [some (.inr (.inr a0)), some (.inl x1), o2, o3], [.inr (.inr a0)], σ) rfl ?_ ?_
  · exact trivial
  · try simp (disch := omega) only [pe_K_wI, pe_K_wR, pk_sK f_a0]
    have hrc : pe_K σ a0 = 8 := by first | assumption | (simp (disch := omega) only [pe_K_wI, pe_K_wR, pk_sK f_a0]; done) | (simp (disch := omega) only [pe_K_wI, pe_K_wR, pk_sK f_a0]; assumption)
    exact pe_cal 8 ck93 rfl rfl rfl ⟨hrc, by decide⟩ k
theorem b93_15 {d : Nat} {Φ : Option pe_V → pe_H → Prop} {σ : pe_H} {o0 : Option pe_V} {x1 : Int} {o2 : Option pe_V} {o3 : Option pe_V} {b0 : Nat} (f_b0 : pk_Fm b0 σ := by assumption)   (k : pe_X d 93 (18, [o0, some (.inl x1), some (.inr (.inr b0)), some (.inl 0)], [], σ) Φ) : pe_X d 93 (15, [o0, some (.inl x1), o2, o3], [.inr (.inr b0)], σ) Φ := by
  refine pe_blk 9 3 ck93 [] (18, [o0, some (.inl x1), some (.inr (.inr b0)), some (.inl 0)], [], σ) rfl ?_ ?_
  · exact trivial
  · exact k
theorem b93_18 {d : Nat} {Φ : Option pe_V → pe_H → Prop} {σ : pe_H} {o0 : Option pe_V} {x1 : Int} {a2 : Nat} {x3 : Int} (f_a2 : pk_Fm a2 σ := by assumption) (w0 : pe_in x3 := by unfold pe_in; omega)  (k1 : 60 < x3 → pe_X d 93 (62, [o0, some (.inl x1), some (.inr (.inr a2)), some (.inl x3)], [], σ) Φ) (k2 : ¬ (60 < x3) → pe_X d 93 (24, [o0, some (.inl x1), some (.inr (.inr a2)), some (.inl x3)], [], σ) Φ) : pe_X d 93 (18, [o0, some (.inl x1), some (.inr (.inr a2)), some (.inl x3)], [], σ) Φ := by
  refine pe_blk 12 3 ck93 [] (cond (decide ((pe_w 60) < (pe_w x3))) 62 24, [o0, some (.inl x1), some (.inr (.inr a2)), some (.inl x3)], [], σ) rfl ?_ ?_
  · exact trivial
  · try simp (disch := omega) only [pe_wi w0, pe_wi (x := 60) ⟨by decide, by decide⟩]
    exact pe_two k1 k2
theorem b93_24 {d : Nat} {Φ : Option pe_V → pe_H → Prop} {σ : pe_H} {o0 : Option pe_V} {x1 : Int} {a2 : Nat} {x3 : Int} (f_a2 : pk_Fm a2 σ := by assumption)   (k : pe_M d 19 [.inr (.inr a2)] σ (fun r σ' => pe_X d 93 (28, [o0, some (.inl x1), some (.inr (.inr a2)), some (.inl x3)], r.toList ++ [], σ') Φ)) : pe_X d 93 (24, [o0, some (.inl x1), some (.inr (.inr a2)), some (.inl x3)], [], σ) Φ := by
  refine pe_blk 15 1 ck93 [] (25, [o0, some (.inl x1), some (.inr (.inr a2)), some (.inl x3)], [.inr (.inr a2)], σ) rfl ?_ ?_
  · exact trivial
  · try simp (disch := omega) only [pe_K_wI, pe_K_wR, pk_mK f_a2]
    have hrc : pe_K σ a2 = 2 := by first | assumption | (simp (disch := omega) only [pe_K_wI, pe_K_wR, pk_mK f_a2]; done) | (simp (disch := omega) only [pe_K_wI, pe_K_wR, pk_mK f_a2]; assumption)
    exact pe_cal 16 ck93 rfl rfl rfl ⟨hrc, by decide⟩ k
theorem b93_28 {d : Nat} {Φ : Option pe_V → pe_H → Prop} {σ : pe_H} {o0 : Option pe_V} {x1 : Int} {a2 : Nat} {x3 : Int} {s0 : Int} (f_a2 : pk_Fm a2 σ := by assumption) (w0 : pe_in s0 := by unfold pe_in; omega)  (k1 : ¬ s0 = 0 → pe_X d 93 (51, [o0, some (.inl x1), some (.inr (.inr a2)), some (.inl x3)], [], σ) Φ) (k2 : s0 = 0 → pe_X d 93 (31, [o0, some (.inl x1), some (.inr (.inr a2)), some (.inl x3)], [], σ) Φ) : pe_X d 93 (28, [o0, some (.inl x1), some (.inr (.inr a2)), some (.inl x3)], [.inl s0], σ) Φ := by
  refine pe_blk 17 1 ck93 [] (cond (decide (¬ (pe_w s0) = 0)) 51 31, [o0, some (.inl x1), some (.inr (.inr a2)), some (.inl x3)], [], σ) rfl ?_ ?_
  · exact trivial
  · try simp (disch := omega) only [pe_wi w0]
    exact pe_two' k1 k2
theorem b93_31 {d : Nat} {Φ : Option pe_V → pe_H → Prop} {σ : pe_H} {o0 : Option pe_V} {x1 : Int} {a2 : Nat} {x3 : Int} (f_a2 : pk_Fm a2 σ := by assumption) (w0 : pe_in x1 := by unfold pe_in; omega)  (k1 : ¬ x1 = 0 → pe_X d 93 (39, [o0, some (.inl x1), some (.inr (.inr a2)), some (.inl x3)], [], σ) Φ) (k2 : x1 = 0 → pe_X d 93 (35, [o0, some (.inl x1), some (.inr (.inr a2)), some (.inl x3)], [], σ) Φ) : pe_X d 93 (31, [o0, some (.inl x1), some (.inr (.inr a2)), some (.inl x3)], [], σ) Φ := by
  refine pe_blk 18 2 ck93 [] (cond (decide (¬ (pe_w x1) = 0)) 39 35, [o0, some (.inl x1), some (.inr (.inr a2)), some (.inl x3)], [], σ) rfl ?_ ?_
  · exact trivial
  · try simp (disch := omega) only [pe_wi w0]
    exact pe_two' k1 k2
theorem b93_35 {d : Nat} {Φ : Option pe_V → pe_H → Prop} {σ : pe_H} {o0 : Option pe_V} {o1 : Option pe_V} {o2 : Option pe_V} {x3 : Int}    (k : pe_X d 93 (50, [o0, o1, o2, some (.inl x3)], [.inl x3], σ) Φ) : pe_X d 93 (35, [o0, o1, o2, some (.inl x3)], [], σ) Φ := by
  refine pe_blk 20 2 ck93 [] (50, [o0, o1, o2, some (.inl x3)], [.inl x3], σ) rfl ?_ ?_
  · exact trivial
  · exact k
theorem b93_39 {d : Nat} {Φ : Option pe_V → pe_H → Prop} {σ : pe_H} {o0 : Option pe_V} {o1 : Option pe_V} {a2 : Nat} {o3 : Option pe_V} (f_a2 : pk_Fm a2 σ := by assumption)   (k : pe_M d 16 [.inr (.inr a2)] σ (fun r σ' => pe_X d 93 (43, [o0, o1, some (.inr (.inr a2)), o3], r.toList ++ [], σ') Φ)) : pe_X d 93 (39, [o0, o1, some (.inr (.inr a2)), o3], [], σ) Φ := by
  refine pe_blk 22 1 ck93 [] (40, [o0, o1, some (.inr (.inr a2)), o3], [.inr (.inr a2)], σ) rfl ?_ ?_
  · exact trivial
  · try simp (disch := omega) only [pe_K_wI, pe_K_wR, pk_mK f_a2]
    have hrc : pe_K σ a2 = 2 := by first | assumption | (simp (disch := omega) only [pe_K_wI, pe_K_wR, pk_mK f_a2]; done) | (simp (disch := omega) only [pe_K_wI, pe_K_wR, pk_mK f_a2]; assumption)
    exact pe_cal 23 ck93 rfl rfl rfl ⟨hrc, by decide⟩ k
theorem b93_43 {d : Nat} {Φ : Option pe_V → pe_H → Prop} {σ : pe_H} {o0 : Option pe_V} {o1 : Option pe_V} {a2 : Nat} {o3 : Option pe_V} {s0 : Int} (f_a2 : pk_Fm a2 σ := by assumption)   (k : pe_M d 17 [.inr (.inr a2)] σ (fun r σ' => pe_X d 93 (47, [o0, o1, some (.inr (.inr a2)), o3], r.toList ++ [.inl s0], σ') Φ)) : pe_X d 93 (43, [o0, o1, some (.inr (.inr a2)), o3], [.inl s0], σ) Φ := by
  refine pe_blk 24 1 ck93 [] (44, [o0, o1, some (.inr (.inr a2)), o3], [.inr (.inr a2), .inl s0], σ) rfl ?_ ?_
  · exact trivial
  · try simp (disch := omega) only [pe_K_wI, pe_K_wR, pk_mK f_a2]
    have hrc : pe_K σ a2 = 2 := by first | assumption | (simp (disch := omega) only [pe_K_wI, pe_K_wR, pk_mK f_a2]; done) | (simp (disch := omega) only [pe_K_wI, pe_K_wR, pk_mK f_a2]; assumption)
    exact pe_cal 25 ck93 rfl rfl rfl ⟨hrc, by decide⟩ k
theorem b93_47 {d : Nat} {Φ : Option pe_V → pe_H → Prop} {σ : pe_H} {o0 : Option pe_V} {o1 : Option pe_V} {o2 : Option pe_V} {o3 : Option pe_V} {s0 : Int} {s1 : Int}    (k : pe_X d 93 (50, [o0, o1, o2, o3], [.inl (pe_and s0 (pe_xor s1 (-1)))], σ) Φ) : pe_X d 93 (47, [o0, o1, o2, o3], [.inl s1, .inl s0], σ) Φ := by
  refine pe_blk 26 3 ck93 [] (50, [o0, o1, o2, o3], [.inl (pe_and s0 (pe_xor s1 (-1)))], σ) rfl ?_ ?_
  · exact trivial
  · exact k
theorem b93_50 {d : Nat} {Φ : Option pe_V → pe_H → Prop} {σ : pe_H} {o0 : Option pe_V} {o1 : Option pe_V} {o2 : Option pe_V} {o3 : Option pe_V} {s0 : Int}    (k : Φ (some (.inl s0)) σ) : pe_X d 93 (50, [o0, o1, o2, o3], [.inl s0], σ) Φ := by
  exact pe_fine 29 ck93 rfl rfl rfl trivial k
theorem b93_51 {d : Nat} {Φ : Option pe_V → pe_H → Prop} {σ : pe_H} {o0 : Option pe_V} {x1 : Int} {a2 : Nat} {x3 : Int} (f_a2 : pk_Fm a2 σ := by assumption)   (k : pe_M d 28 [.inr (.inr a2)] σ (fun r σ' => pe_X d 93 (55, [o0, some (.inl x1), some (.inr (.inr a2)), some (.inl x3)], r.toList ++ [], σ') Φ)) : pe_X d 93 (51, [o0, some (.inl x1), some (.inr (.inr a2)), some (.inl x3)], [], σ) Φ := by
  refine pe_blk 30 1 ck93 [] (52, [o0, some (.inl x1), some (.inr (.inr a2)), some (.inl x3)], [.inr (.inr a2)], σ) rfl ?_ ?_
  · exact trivial
  · try simp (disch := omega) only [pe_K_wI, pe_K_wR, pk_mK f_a2]
    have hrc : pe_K σ a2 = 2 := by first | assumption | (simp (disch := omega) only [pe_K_wI, pe_K_wR, pk_mK f_a2]; done) | (simp (disch := omega) only [pe_K_wI, pe_K_wR, pk_mK f_a2]; assumption)
    exact pe_cal 31 ck93 rfl rfl rfl ⟨hrc, by decide⟩ k
theorem b93_55 {d : Nat} {Φ : Option pe_V → pe_H → Prop} {σ : pe_H} {o0 : Option pe_V} {x1 : Int} {a2 : Nat} {x3 : Int} {s0 : Int} (f_a2 : pk_Fm a2 σ := by assumption)   (k : pe_X d 93 (18, [o0, some (.inl x1), some (.inr (.inr a2)), some (.inl (x3 + 1))], [], σ) Φ) : pe_X d 93 (55, [o0, some (.inl x1), some (.inr (.inr a2)), some (.inl x3)], [.inl s0], σ) Φ := by
  refine pe_blk 32 3 ck93 [] (18, [o0, some (.inl x1), some (.inr (.inr a2)), some (.inl (x3 + 1))], [], σ) rfl ?_ ?_
  · exact trivial
  · exact k
theorem b93_62 {d : Nat} {Φ : Option pe_V → pe_H → Prop} {σ : pe_H} {o0 : Option pe_V} {o1 : Option pe_V} {o2 : Option pe_V} {o3 : Option pe_V}    (k : Φ (some (.inl (-4))) σ) : pe_X d 93 (62, [o0, o1, o2, o3], [], σ) Φ := by
  refine pe_blk 35 1 ck93 [] (64, [o0, o1, o2, o3], [.inl (-4)], σ) rfl ?_ ?_
  · exact trivial
  · exact pe_fine 36 ck93 rfl rfl rfl trivial k
-- StepMachines.leastWidth(I)I
def T94 : List (Nat × Instr × Nat) := [(0, .iload_n 1, 1), (1, .ifCond .lt 9, 3), (4, .iload_n 1, 1), (5, .bipush 60, 2), (7, .if_icmp .le 5, 3), (10, .iconst (-1), 1), (11, .ireturn, 1), (12, .iconst 1, 1), (13, .istore_n 2, 1), (14, .iload_n 2, 1), (15, .bipush 8, 2), (17, .if_icmp .gt 37, 3), (20, .aload_n 0, 1), (21, .invokevirtual 66, 3), (24, .astore_n 3, 1), (25, .aload_n 3, 1), (26, .iload_n 2, 1), (27, .putfield 206, 3), (30, .aload_n 3, 1), (31, .iload_n 1, 1), (32, .invokevirtual 223, 3), (35, .aload_n 3, 1), (36, .invokevirtual 215, 3), (39, .aload_n 3, 1), (40, .invokevirtual 229, 3), (43, .if_icmp .ne 5, 3), (46, .iload_n 2, 1), (47, .ireturn, 1), (48, .iinc 2 1, 3), (51, .goto (-37), 3), (54, .bipush (-4), 2), (56, .ireturn, 1)]
theorem ck94 : pe_ctx 94 8 false (some .int) 4 T94 := ⟨rfl, rfl, rfl, rfl, by decide +kernel, by decide, by decide⟩
theorem b94_0 {d : Nat} {Φ : Option pe_V → pe_H → Prop} {σ : pe_H} {a0 : Nat} {x1 : Int} {o2 : Option pe_V} {o3 : Option pe_V} (f_a0 : pk_Fs a0 σ := by assumption) (w0 : pe_in x1 := by unfold pe_in; omega)  (k1 : x1 < 0 → pe_X d 94 (10, [some (.inr (.inr a0)), some (.inl x1), o2, o3], [], σ) Φ) (k2 : ¬ (x1 < 0) → pe_X d 94 (4, [some (.inr (.inr a0)), some (.inl x1), o2, o3], [], σ) Φ) : pe_X d 94 (0, [some (.inr (.inr a0)), some (.inl x1), o2, o3], [], σ) Φ := by
  refine pe_blk 0 2 ck94 [] (cond (decide ((pe_w x1) < 0)) 10 4, [some (.inr (.inr a0)), some (.inl x1), o2, o3], [], σ) rfl ?_ ?_
  · exact trivial
  · try simp (disch := omega) only [pe_wi w0]
    exact pe_two k1 k2
theorem b94_4 {d : Nat} {Φ : Option pe_V → pe_H → Prop} {σ : pe_H} {a0 : Nat} {x1 : Int} {o2 : Option pe_V} {o3 : Option pe_V} (f_a0 : pk_Fs a0 σ := by assumption) (w0 : pe_in x1 := by unfold pe_in; omega)  (k1 : x1 ≤ 60 → pe_X d 94 (12, [some (.inr (.inr a0)), some (.inl x1), o2, o3], [], σ) Φ) (k2 : ¬ (x1 ≤ 60) → pe_X d 94 (10, [some (.inr (.inr a0)), some (.inl x1), o2, o3], [], σ) Φ) : pe_X d 94 (4, [some (.inr (.inr a0)), some (.inl x1), o2, o3], [], σ) Φ := by
  refine pe_blk 2 3 ck94 [] (cond (decide ((pe_w x1) ≤ (pe_w 60))) 12 10, [some (.inr (.inr a0)), some (.inl x1), o2, o3], [], σ) rfl ?_ ?_
  · exact trivial
  · try simp (disch := omega) only [pe_wi w0, pe_wi (x := 60) ⟨by decide, by decide⟩]
    exact pe_two k1 k2
theorem b94_10 {d : Nat} {Φ : Option pe_V → pe_H → Prop} {σ : pe_H} {o0 : Option pe_V} {o1 : Option pe_V} {o2 : Option pe_V} {o3 : Option pe_V}    (k : Φ (some (.inl (-1))) σ) : pe_X d 94 (10, [o0, o1, o2, o3], [], σ) Φ := by
  refine pe_blk 5 1 ck94 [] (11, [o0, o1, o2, o3], [.inl (-1)], σ) rfl ?_ ?_
  · exact trivial
  · exact pe_fine 6 ck94 rfl rfl rfl trivial k
theorem b94_12 {d : Nat} {Φ : Option pe_V → pe_H → Prop} {σ : pe_H} {a0 : Nat} {x1 : Int} {o2 : Option pe_V} {o3 : Option pe_V} (f_a0 : pk_Fs a0 σ := by assumption)   (k : pe_X d 94 (14, [some (.inr (.inr a0)), some (.inl x1), some (.inl 1), o3], [], σ) Φ) : pe_X d 94 (12, [some (.inr (.inr a0)), some (.inl x1), o2, o3], [], σ) Φ := by
  refine pe_blk 7 2 ck94 [] (14, [some (.inr (.inr a0)), some (.inl x1), some (.inl 1), o3], [], σ) rfl ?_ ?_
  · exact trivial
  · exact k
theorem b94_14 {d : Nat} {Φ : Option pe_V → pe_H → Prop} {σ : pe_H} {a0 : Nat} {x1 : Int} {x2 : Int} {o3 : Option pe_V} (f_a0 : pk_Fs a0 σ := by assumption) (w0 : pe_in x2 := by unfold pe_in; omega)  (k1 : 8 < x2 → pe_X d 94 (54, [some (.inr (.inr a0)), some (.inl x1), some (.inl x2), o3], [], σ) Φ) (k2 : ¬ (8 < x2) → pe_X d 94 (20, [some (.inr (.inr a0)), some (.inl x1), some (.inl x2), o3], [], σ) Φ) : pe_X d 94 (14, [some (.inr (.inr a0)), some (.inl x1), some (.inl x2), o3], [], σ) Φ := by
  refine pe_blk 9 3 ck94 [] (cond (decide ((pe_w 8) < (pe_w x2))) 54 20, [some (.inr (.inr a0)), some (.inl x1), some (.inl x2), o3], [], σ) rfl ?_ ?_
  · exact trivial
  · try simp (disch := omega) only [pe_wi w0, pe_wi (x := 8) ⟨by decide, by decide⟩]
    exact pe_two k1 k2
theorem b94_20 {d : Nat} {Φ : Option pe_V → pe_H → Prop} {σ : pe_H} {a0 : Nat} {x1 : Int} {x2 : Int} {o3 : Option pe_V} (f_a0 : pk_Fs a0 σ := by assumption)   (k : pe_M d 122 [.inr (.inr a0)] σ (fun r σ' => pe_X d 94 (24, [some (.inr (.inr a0)), some (.inl x1), some (.inl x2), o3], r.toList ++ [], σ') Φ)) : pe_X d 94 (20, [some (.inr (.inr a0)), some (.inl x1), some (.inl x2), o3], [], σ) Φ := by
  refine pe_blk 12 1 ck94 [] (21, [some (.inr (.inr a0)), some (.inl x1), some (.inl x2), o3], [.inr (.inr a0)], σ) rfl ?_ ?_
  · exact trivial
  · try simp (disch := omega) only [pe_K_wI, pe_K_wR, pk_sK f_a0]
    have hrc : pe_K σ a0 = 8 := by first | assumption | (simp (disch := omega) only [pe_K_wI, pe_K_wR, pk_sK f_a0]; done) | (simp (disch := omega) only [pe_K_wI, pe_K_wR, pk_sK f_a0]; assumption)
    exact pe_cal 13 ck94 rfl rfl rfl ⟨hrc, by decide⟩ k
theorem b94_24 {d : Nat} {Φ : Option pe_V → pe_H → Prop} {σ : pe_H} {a0 : Nat} {x1 : Int} {x2 : Int} {o3 : Option pe_V} {b0 : Nat} (f_a0 : pk_Fs a0 σ := by assumption) (f_b0 : pk_Fm b0 σ := by assumption)   (k : pe_M d 27 [.inr (.inr b0), .inl x1] (pe_wI σ b0 5 x2) (fun r σ' => pe_X d 94 (35, [some (.inr (.inr a0)), some (.inl x1), some (.inl x2), some (.inr (.inr b0))], r.toList ++ [], σ') Φ)) : pe_X d 94 (24, [some (.inr (.inr a0)), some (.inl x1), some (.inl x2), o3], [.inr (.inr b0)], σ) Φ := by
  refine pe_blk 14 6 ck94 [pe_K σ b0 = 2] (32, [some (.inr (.inr a0)), some (.inl x1), some (.inl x2), some (.inr (.inr b0))], [.inl x1, .inr (.inr b0)], pe_wI σ b0 5 x2) rfl ?_ ?_
  · first
    | (simp (disch := omega) only [pe_all, pe_K_wI, pe_K_wR, pk_mK f_b0]; done)
    | (simp (disch := omega) only [pe_all, pe_K_wI, pe_K_wR, pk_mK f_b0]; (repeat' apply And.intro) <;> first | assumption | omega | decide)
  · try simp (disch := omega) only [pe_K_wI, pe_K_wR, pk_mK f_b0]
    have hrc : pe_K (pe_wI σ b0 5 x2) b0 = 2 := by first | assumption | (simp (disch := omega) only [pe_K_wI, pe_K_wR, pk_mK f_b0]; done) | (simp (disch := omega) only [pe_K_wI, pe_K_wR, pk_mK f_b0]; assumption)
    exact pe_cal 20 ck94 rfl rfl rfl ⟨hrc, by decide⟩ k
theorem b94_35 {d : Nat} {Φ : Option pe_V → pe_H → Prop} {σ : pe_H} {a0 : Nat} {x1 : Int} {x2 : Int} {a3 : Nat} (f_a0 : pk_Fs a0 σ := by assumption) (f_a3 : pk_Fm a3 σ := by assumption)   (k : pe_M d 17 [.inr (.inr a3)] σ (fun r σ' => pe_X d 94 (39, [some (.inr (.inr a0)), some (.inl x1), some (.inl x2), some (.inr (.inr a3))], r.toList ++ [], σ') Φ)) : pe_X d 94 (35, [some (.inr (.inr a0)), some (.inl x1), some (.inl x2), some (.inr (.inr a3))], [], σ) Φ := by
  refine pe_blk 21 1 ck94 [] (36, [some (.inr (.inr a0)), some (.inl x1), some (.inl x2), some (.inr (.inr a3))], [.inr (.inr a3)], σ) rfl ?_ ?_
  · exact trivial
  · try simp (disch := omega) only [pe_K_wI, pe_K_wR, pk_mK f_a3]
    have hrc : pe_K σ a3 = 2 := by first | assumption | (simp (disch := omega) only [pe_K_wI, pe_K_wR, pk_mK f_a3]; done) | (simp (disch := omega) only [pe_K_wI, pe_K_wR, pk_mK f_a3]; assumption)
    exact pe_cal 22 ck94 rfl rfl rfl ⟨hrc, by decide⟩ k
theorem b94_39 {d : Nat} {Φ : Option pe_V → pe_H → Prop} {σ : pe_H} {a0 : Nat} {x1 : Int} {x2 : Int} {a3 : Nat} {s0 : Int} (f_a0 : pk_Fs a0 σ := by assumption) (f_a3 : pk_Fm a3 σ := by assumption)   (k : pe_M d 16 [.inr (.inr a3)] σ (fun r σ' => pe_X d 94 (43, [some (.inr (.inr a0)), some (.inl x1), some (.inl x2), some (.inr (.inr a3))], r.toList ++ [.inl s0], σ') Φ)) : pe_X d 94 (39, [some (.inr (.inr a0)), some (.inl x1), some (.inl x2), some (.inr (.inr a3))], [.inl s0], σ) Φ := by
  refine pe_blk 23 1 ck94 [] (40, [some (.inr (.inr a0)), some (.inl x1), some (.inl x2), some (.inr (.inr a3))], [.inr (.inr a3), .inl s0], σ) rfl ?_ ?_
  · exact trivial
  · try simp (disch := omega) only [pe_K_wI, pe_K_wR, pk_mK f_a3]
    have hrc : pe_K σ a3 = 2 := by first | assumption | (simp (disch := omega) only [pe_K_wI, pe_K_wR, pk_mK f_a3]; done) | (simp (disch := omega) only [pe_K_wI, pe_K_wR, pk_mK f_a3]; assumption)
    exact pe_cal 24 ck94 rfl rfl rfl ⟨hrc, by decide⟩ k
theorem b94_43 {d : Nat} {Φ : Option pe_V → pe_H → Prop} {σ : pe_H} {a0 : Nat} {x1 : Int} {x2 : Int} {o3 : Option pe_V} {s0 : Int} {s1 : Int} (f_a0 : pk_Fs a0 σ := by assumption) (w0 : pe_in s1 := by unfold pe_in; omega) (w1 : pe_in s0 := by unfold pe_in; omega)  (k1 : ¬ s0 = s1 → pe_X d 94 (48, [some (.inr (.inr a0)), some (.inl x1), some (.inl x2), o3], [], σ) Φ) (k2 : s0 = s1 → pe_X d 94 (46, [some (.inr (.inr a0)), some (.inl x1), some (.inl x2), o3], [], σ) Φ) : pe_X d 94 (43, [some (.inr (.inr a0)), some (.inl x1), some (.inl x2), o3], [.inl s1, .inl s0], σ) Φ := by
  refine pe_blk 25 1 ck94 [] (cond (decide (¬ (pe_w s0) = (pe_w s1))) 48 46, [some (.inr (.inr a0)), some (.inl x1), some (.inl x2), o3], [], σ) rfl ?_ ?_
  · exact trivial
  · try simp (disch := omega) only [pe_wi w0, pe_wi w1]
    exact pe_two' k1 k2
theorem b94_46 {d : Nat} {Φ : Option pe_V → pe_H → Prop} {σ : pe_H} {o0 : Option pe_V} {o1 : Option pe_V} {x2 : Int} {o3 : Option pe_V}    (k : Φ (some (.inl x2)) σ) : pe_X d 94 (46, [o0, o1, some (.inl x2), o3], [], σ) Φ := by
  refine pe_blk 26 1 ck94 [] (47, [o0, o1, some (.inl x2), o3], [.inl x2], σ) rfl ?_ ?_
  · exact trivial
  · exact pe_fine 27 ck94 rfl rfl rfl trivial k
theorem b94_48 {d : Nat} {Φ : Option pe_V → pe_H → Prop} {σ : pe_H} {a0 : Nat} {x1 : Int} {x2 : Int} {o3 : Option pe_V} (f_a0 : pk_Fs a0 σ := by assumption)   (k : pe_X d 94 (14, [some (.inr (.inr a0)), some (.inl x1), some (.inl (x2 + 1)), o3], [], σ) Φ) : pe_X d 94 (48, [some (.inr (.inr a0)), some (.inl x1), some (.inl x2), o3], [], σ) Φ := by
  refine pe_blk 28 2 ck94 [] (14, [some (.inr (.inr a0)), some (.inl x1), some (.inl (x2 + 1)), o3], [], σ) rfl ?_ ?_
  · exact trivial
  · exact k
theorem b94_54 {d : Nat} {Φ : Option pe_V → pe_H → Prop} {σ : pe_H} {o0 : Option pe_V} {o1 : Option pe_V} {o2 : Option pe_V} {o3 : Option pe_V}    (k : Φ (some (.inl (-4))) σ) : pe_X d 94 (54, [o0, o1, o2, o3], [], σ) Φ := by
  refine pe_blk 30 1 ck94 [] (56, [o0, o1, o2, o3], [.inl (-4)], σ) rfl ?_ ?_
  · exact trivial
  · exact pe_fine 31 ck94 rfl rfl rfl trivial k
-- StepMachines.closeBest(I)I
def T95 : List (Nat × Instr × Nat) := [(0, .iload_n 1, 1), (1, .ifCond .lt 9, 3), (4, .iload_n 1, 1), (5, .bipush 40, 2), (7, .if_icmp .le 5, 3), (10, .iconst (-1), 1), (11, .ireturn, 1), (12, .aload_n 0, 1), (13, .invokevirtual 66, 3), (16, .astore_n 2, 1), (17, .aload_n 2, 1), (18, .iload_n 1, 1), (19, .invokevirtual 223, 3), (22, .aload_n 2, 1), (23, .invokevirtual 232, 3), (26, .istore_n 3, 1), (27, .bipush (-4), 2), (29, .istore 4, 2), (31, .iconst (-1), 1), (32, .istore 5, 2), (34, .iconst 0, 1), (35, .istore 6, 2), (37, .iload 6, 2), (39, .aload_n 0, 1), (40, .getfield 10, 3), (43, .getfield 235, 3), (46, .if_icmp .ge 65, 3), (49, .aload_n 0, 1), (50, .getfield 10, 3), (53, .getfield 110, 3), (56, .iload 6, 2), (58, .aaload, 1), (59, .invokevirtual 199, 3), (62, .ifCond .ne 43, 3), (65, .aload_n 0, 1), (66, .iload 6, 2), (68, .iload_n 1, 1), (69, .invokevirtual 236, 3), (72, .istore 7, 2), (74, .iload 7, 2), (76, .iload_n 3, 1), (77, .iconst 1, 1), (78, .iload 6, 2), (80, .ishl, 1), (81, .iconst (-1), 1), (82, .ixor, 1), (83, .iand, 1), (84, .invokestatic 218, 3), (87, .if_icmp .le 18, 3), (90, .iload 7, 2), (92, .iload 5, 2), (94, .if_icmp .le 11, 3), (97, .iload 7, 2), (99, .istore 5, 2), (101, .iload 6, 2), (103, .istore 4, 2), (105, .iinc 6 1, 3), (108, .goto (-71), 3), (111, .iload 4, 2), (113, .ireturn, 1)]
theorem ck95 : pe_ctx 95 8 false (some .int) 8 T95 := ⟨rfl, rfl, rfl, rfl, by decide +kernel, by decide, by decide⟩
theorem b95_0 {d : Nat} {Φ : Option pe_V → pe_H → Prop} {σ : pe_H} {a0 : Nat} {x1 : Int} {o2 : Option pe_V} {o3 : Option pe_V} {o4 : Option pe_V} {o5 : Option pe_V} {o6 : Option pe_V} {o7 : Option pe_V} (f_a0 : pk_Fs a0 σ := by assumption) (w0 : pe_in x1 := by unfold pe_in; omega)  (k1 : x1 < 0 → pe_X d 95 (10, [some (.inr (.inr a0)), some (.inl x1), o2, o3, o4, o5, o6, o7], [], σ) Φ) (k2 : ¬ (x1 < 0) → pe_X d 95 (4, [some (.inr (.inr a0)), some (.inl x1), o2, o3, o4, o5, o6, o7], [], σ) Φ) : pe_X d 95 (0, [some (.inr (.inr a0)), some (.inl x1), o2, o3, o4, o5, o6, o7], [], σ) Φ := by
  refine pe_blk 0 2 ck95 [] (cond (decide ((pe_w x1) < 0)) 10 4, [some (.inr (.inr a0)), some (.inl x1), o2, o3, o4, o5, o6, o7], [], σ) rfl ?_ ?_
  · exact trivial
  · try simp (disch := omega) only [pe_wi w0]
    exact pe_two k1 k2
theorem b95_4 {d : Nat} {Φ : Option pe_V → pe_H → Prop} {σ : pe_H} {a0 : Nat} {x1 : Int} {o2 : Option pe_V} {o3 : Option pe_V} {o4 : Option pe_V} {o5 : Option pe_V} {o6 : Option pe_V} {o7 : Option pe_V} (f_a0 : pk_Fs a0 σ := by assumption) (w0 : pe_in x1 := by unfold pe_in; omega)  (k1 : x1 ≤ 40 → pe_X d 95 (12, [some (.inr (.inr a0)), some (.inl x1), o2, o3, o4, o5, o6, o7], [], σ) Φ) (k2 : ¬ (x1 ≤ 40) → pe_X d 95 (10, [some (.inr (.inr a0)), some (.inl x1), o2, o3, o4, o5, o6, o7], [], σ) Φ) : pe_X d 95 (4, [some (.inr (.inr a0)), some (.inl x1), o2, o3, o4, o5, o6, o7], [], σ) Φ := by
  refine pe_blk 2 3 ck95 [] (cond (decide ((pe_w x1) ≤ (pe_w 40))) 12 10, [some (.inr (.inr a0)), some (.inl x1), o2, o3, o4, o5, o6, o7], [], σ) rfl ?_ ?_
  · exact trivial
  · try simp (disch := omega) only [pe_wi w0, pe_wi (x := 40) ⟨by decide, by decide⟩]
    exact pe_two k1 k2
theorem b95_10 {d : Nat} {Φ : Option pe_V → pe_H → Prop} {σ : pe_H} {o0 : Option pe_V} {o1 : Option pe_V} {o2 : Option pe_V} {o3 : Option pe_V} {o4 : Option pe_V} {o5 : Option pe_V} {o6 : Option pe_V} {o7 : Option pe_V}    (k : Φ (some (.inl (-1))) σ) : pe_X d 95 (10, [o0, o1, o2, o3, o4, o5, o6, o7], [], σ) Φ := by
  refine pe_blk 5 1 ck95 [] (11, [o0, o1, o2, o3, o4, o5, o6, o7], [.inl (-1)], σ) rfl ?_ ?_
  · exact trivial
  · exact pe_fine 6 ck95 rfl rfl rfl trivial k
theorem b95_12 {d : Nat} {Φ : Option pe_V → pe_H → Prop} {σ : pe_H} {a0 : Nat} {x1 : Int} {o2 : Option pe_V} {o3 : Option pe_V} {o4 : Option pe_V} {o5 : Option pe_V} {o6 : Option pe_V} {o7 : Option pe_V} (f_a0 : pk_Fs a0 σ := by assumption)   (k : pe_M d 122 [.inr (.inr a0)] σ (fun r σ' => pe_X d 95 (16, [some (.inr (.inr a0)), some (.inl x1), o2, o3, o4, o5, o6, o7], r.toList ++ [], σ') Φ)) : pe_X d 95 (12, [some (.inr (.inr a0)), some (.inl x1), o2, o3, o4, o5, o6, o7], [], σ) Φ := by
  refine pe_blk 7 1 ck95 [] (13, [some (.inr (.inr a0)), some (.inl x1), o2, o3, o4, o5, o6, o7], [.inr (.inr a0)], σ) rfl ?_ ?_
  · exact trivial
  · try simp (disch := omega) only [pe_K_wI, pe_K_wR, pk_sK f_a0]
    have hrc : pe_K σ a0 = 8 := by first | assumption | (simp (disch := omega) only [pe_K_wI, pe_K_wR, pk_sK f_a0]; done) | (simp (disch := omega) only [pe_K_wI, pe_K_wR, pk_sK f_a0]; assumption)
    exact pe_cal 8 ck95 rfl rfl rfl ⟨hrc, by decide⟩ k
theorem b95_16 {d : Nat} {Φ : Option pe_V → pe_H → Prop} {σ : pe_H} {a0 : Nat} {x1 : Int} {o2 : Option pe_V} {o3 : Option pe_V} {o4 : Option pe_V} {o5 : Option pe_V} {o6 : Option pe_V} {o7 : Option pe_V} {b0 : Nat} (f_a0 : pk_Fs a0 σ := by assumption) (f_b0 : pk_Fm b0 σ := by assumption)   (k : pe_M d 27 [.inr (.inr b0), .inl x1] σ (fun r σ' => pe_X d 95 (22, [some (.inr (.inr a0)), some (.inl x1), some (.inr (.inr b0)), o3, o4, o5, o6, o7], r.toList ++ [], σ') Φ)) : pe_X d 95 (16, [some (.inr (.inr a0)), some (.inl x1), o2, o3, o4, o5, o6, o7], [.inr (.inr b0)], σ) Φ := by
  refine pe_blk 9 3 ck95 [] (19, [some (.inr (.inr a0)), some (.inl x1), some (.inr (.inr b0)), o3, o4, o5, o6, o7], [.inl x1, .inr (.inr b0)], σ) rfl ?_ ?_
  · exact trivial
  · try simp (disch := omega) only [pe_K_wI, pe_K_wR, pk_mK f_b0]
    have hrc : pe_K σ b0 = 2 := by first | assumption | (simp (disch := omega) only [pe_K_wI, pe_K_wR, pk_mK f_b0]; done) | (simp (disch := omega) only [pe_K_wI, pe_K_wR, pk_mK f_b0]; assumption)
    exact pe_cal 12 ck95 rfl rfl rfl ⟨hrc, by decide⟩ k
theorem b95_22 {d : Nat} {Φ : Option pe_V → pe_H → Prop} {σ : pe_H} {a0 : Nat} {x1 : Int} {a2 : Nat} {o3 : Option pe_V} {o4 : Option pe_V} {o5 : Option pe_V} {o6 : Option pe_V} {o7 : Option pe_V} (f_a0 : pk_Fs a0 σ := by assumption) (f_a2 : pk_Fm a2 σ := by assumption)   (k : pe_M d 18 [.inr (.inr a2)] σ (fun r σ' => pe_X d 95 (26, [some (.inr (.inr a0)), some (.inl x1), some (.inr (.inr a2)), o3, o4, o5, o6, o7], r.toList ++ [], σ') Φ)) : pe_X d 95 (22, [some (.inr (.inr a0)), some (.inl x1), some (.inr (.inr a2)), o3, o4, o5, o6, o7], [], σ) Φ := by
  refine pe_blk 13 1 ck95 [] (23, [some (.inr (.inr a0)), some (.inl x1), some (.inr (.inr a2)), o3, o4, o5, o6, o7], [.inr (.inr a2)], σ) rfl ?_ ?_
  · exact trivial
  · try simp (disch := omega) only [pe_K_wI, pe_K_wR, pk_mK f_a2]
    have hrc : pe_K σ a2 = 2 := by first | assumption | (simp (disch := omega) only [pe_K_wI, pe_K_wR, pk_mK f_a2]; done) | (simp (disch := omega) only [pe_K_wI, pe_K_wR, pk_mK f_a2]; assumption)
    exact pe_cal 14 ck95 rfl rfl rfl ⟨hrc, by decide⟩ k
theorem b95_26 {d : Nat} {Φ : Option pe_V → pe_H → Prop} {σ : pe_H} {a0 : Nat} {x1 : Int} {o2 : Option pe_V} {o3 : Option pe_V} {o4 : Option pe_V} {o5 : Option pe_V} {o6 : Option pe_V} {o7 : Option pe_V} {s0 : Int} (f_a0 : pk_Fs a0 σ := by assumption)   (k : pe_X d 95 (37, [some (.inr (.inr a0)), some (.inl x1), pe_nl o2, some (.inl s0), some (.inl (-4)), some (.inl (-1)), some (.inl 0), o7], [], σ) Φ) : pe_X d 95 (26, [some (.inr (.inr a0)), some (.inl x1), o2, o3, o4, o5, o6, o7], [.inl s0], σ) Φ := by
  refine pe_blk 15 7 ck95 [] (37, [some (.inr (.inr a0)), some (.inl x1), pe_nl o2, some (.inl s0), some (.inl (-4)), some (.inl (-1)), some (.inl 0), o7], [], σ) rfl ?_ ?_
  · exact trivial
  · exact k
theorem b95_37 {d : Nat} {Φ : Option pe_V → pe_H → Prop} {σ : pe_H} {a0 : Nat} {x1 : Int} {o2 : Option pe_V} {x3 : Int} {x4 : Int} {x5 : Int} {x6 : Int} {o7 : Option pe_V} (f_a0 : pk_Fs a0 σ := by assumption) (w0 : pe_in (pe_I σ (a0 + 1) 4) := by unfold pe_in; omega) (w1 : pe_in x6 := by unfold pe_in; omega)  (k1 : (pe_I σ (a0 + 1) 4) ≤ x6 → pe_X d 95 (111, [some (.inr (.inr a0)), some (.inl x1), o2, some (.inl x3), some (.inl x4), some (.inl x5), some (.inl x6), o7], [], σ) Φ) (k2 : ¬ ((pe_I σ (a0 + 1) 4) ≤ x6) → pe_X d 95 (49, [some (.inr (.inr a0)), some (.inl x1), o2, some (.inl x3), some (.inl x4), some (.inl x5), some (.inl x6), o7], [], σ) Φ) : pe_X d 95 (37, [some (.inr (.inr a0)), some (.inl x1), o2, some (.inl x3), some (.inl x4), some (.inl x5), some (.inl x6), o7], [], σ) Φ := by
  refine pe_blk 22 5 ck95 [pe_K σ a0 = 8, pe_K σ (pe_R σ a0 0) = 2] (cond (decide ((pe_w (pe_I σ (pe_R σ a0 0) 4)) ≤ (pe_w x6))) 111 49, [some (.inr (.inr a0)), some (.inl x1), o2, some (.inl x3), some (.inl x4), some (.inl x5), some (.inl x6), o7], [], σ) rfl ?_ ?_
  · first
    | (simp (disch := omega) only [pe_all, pe_wi w0, pe_wi w1, pe_K_wI, pe_K_wR, pe_R_nej, pe_R_ner, pe_R_wI, pk_mK (pk_sM0 f_a0), pk_sK f_a0, pk_sR0 f_a0]; done)
    | (simp (disch := omega) only [pe_all, pe_wi w0, pe_wi w1, pe_K_wI, pe_K_wR, pe_R_nej, pe_R_ner, pe_R_wI, pk_mK (pk_sM0 f_a0), pk_sK f_a0, pk_sR0 f_a0]; (repeat' apply And.intro) <;> first | assumption | omega | decide)
  · try simp (disch := omega) only [pe_wi w0, pe_wi w1, pe_K_wI, pe_K_wR, pe_R_nej, pe_R_ner, pe_R_wI, pk_mK (pk_sM0 f_a0), pk_sK f_a0, pk_sR0 f_a0]
    exact pe_two k1 k2
theorem b95_49 {d : Nat} {Φ : Option pe_V → pe_H → Prop} {σ : pe_H} {a0 : Nat} {x1 : Int} {o2 : Option pe_V} {x3 : Int} {x4 : Int} {x5 : Int} {x6 : Int} {o7 : Option pe_V} (f_a0 : pk_Fs a0 σ := by assumption) (w0 : pe_in x6 := by unfold pe_in; omega) (h0 : 0 ≤ x6 := by first | assumption | omega) (h1 : x6 < 8 := by first | assumption | omega) (k : pe_M d 3 [.inr (.inr (pk_c (a0 + 1) x6))] σ (fun r σ' => pe_X d 95 (62, [some (.inr (.inr a0)), some (.inl x1), o2, some (.inl x3), some (.inl x4), some (.inl x5), some (.inl x6), o7], r.toList ++ [], σ') Φ)) : pe_X d 95 (49, [some (.inr (.inr a0)), some (.inl x1), o2, some (.inl x3), some (.inl x4), some (.inl x5), some (.inl x6), o7], [], σ) Φ := by
  refine pe_blk 27 5 ck95 [pe_K σ a0 = 8, pe_K σ (pe_R σ a0 0) = 2, 12 ≤ pe_K σ (pe_R σ (pe_R σ a0 0) 1) ∧ pe_K σ (pe_R σ (pe_R σ a0 0) 1) < 19, 0 ≤ (pe_w x6), (pe_w x6) < pe_L σ (pe_R σ (pe_R σ a0 0) 1)] (59, [some (.inr (.inr a0)), some (.inl x1), o2, some (.inl x3), some (.inl x4), some (.inl x5), some (.inl x6), o7], [.inr (.inr (pe_R σ (pe_R σ (pe_R σ a0 0) 1) (pe_w x6)))], σ) rfl ?_ ?_
  · first
    | (simp (disch := omega) only [pe_all, pe_wi w0, pe_K_wI, pe_K_wR, pe_L_wI, pe_L_wR, pe_R_nej, pe_R_ner, pe_R_wI, pk_mE2 (pk_sM0 f_a0) (i := x6) (by omega) (by omega), pk_mK (pk_sM0 f_a0), pk_mK2 (pk_sM0 f_a0), pk_mL2 (pk_sM0 f_a0), pk_mR2 (pk_sM0 f_a0), pk_oK (pk_mO (pk_sM0 f_a0) (i := x6) (by omega) (by omega)), pk_sK f_a0, pk_sR0 f_a0]; done)
    | (simp (disch := omega) only [pe_all, pe_wi w0, pe_K_wI, pe_K_wR, pe_L_wI, pe_L_wR, pe_R_nej, pe_R_ner, pe_R_wI, pk_mE2 (pk_sM0 f_a0) (i := x6) (by omega) (by omega), pk_mK (pk_sM0 f_a0), pk_mK2 (pk_sM0 f_a0), pk_mL2 (pk_sM0 f_a0), pk_mR2 (pk_sM0 f_a0), pk_oK (pk_mO (pk_sM0 f_a0) (i := x6) (by omega) (by omega)), pk_sK f_a0, pk_sR0 f_a0]; (repeat' apply And.intro) <;> first | assumption | omega | decide)
  · try simp (disch := omega) only [pe_wi w0, pe_K_wI, pe_K_wR, pe_L_wI, pe_L_wR, pe_R_nej, pe_R_ner, pe_R_wI, pk_mE2 (pk_sM0 f_a0) (i := x6) (by omega) (by omega), pk_mK (pk_sM0 f_a0), pk_mK2 (pk_sM0 f_a0), pk_mL2 (pk_sM0 f_a0), pk_mR2 (pk_sM0 f_a0), pk_oK (pk_mO (pk_sM0 f_a0) (i := x6) (by omega) (by omega)), pk_sK f_a0, pk_sR0 f_a0]
    have hrc : pe_K σ (pk_c (a0 + 1) x6) = 0 := by first | assumption | (simp (disch := omega) only [pe_wi w0, pe_K_wI, pe_K_wR, pe_L_wI, pe_L_wR, pe_R_nej, pe_R_ner, pe_R_wI, pk_mE2 (pk_sM0 f_a0) (i := x6) (by omega) (by omega), pk_mK (pk_sM0 f_a0), pk_mK2 (pk_sM0 f_a0), pk_mL2 (pk_sM0 f_a0), pk_mR2 (pk_sM0 f_a0), pk_oK (pk_mO (pk_sM0 f_a0) (i := x6) (by omega) (by omega)), pk_sK f_a0, pk_sR0 f_a0]; done) | (simp (disch := omega) only [pe_wi w0, pe_K_wI, pe_K_wR, pe_L_wI, pe_L_wR, pe_R_nej, pe_R_ner, pe_R_wI, pk_mE2 (pk_sM0 f_a0) (i := x6) (by omega) (by omega), pk_mK (pk_sM0 f_a0), pk_mK2 (pk_sM0 f_a0), pk_mL2 (pk_sM0 f_a0), pk_mR2 (pk_sM0 f_a0), pk_oK (pk_mO (pk_sM0 f_a0) (i := x6) (by omega) (by omega)), pk_sK f_a0, pk_sR0 f_a0]; assumption)
    exact pe_cal 32 ck95 rfl rfl rfl ⟨hrc, by decide⟩ k
theorem b95_62 {d : Nat} {Φ : Option pe_V → pe_H → Prop} {σ : pe_H} {a0 : Nat} {x1 : Int} {o2 : Option pe_V} {x3 : Int} {x4 : Int} {x5 : Int} {x6 : Int} {o7 : Option pe_V} {s0 : Int} (f_a0 : pk_Fs a0 σ := by assumption) (w0 : pe_in s0 := by unfold pe_in; omega)  (k1 : ¬ s0 = 0 → pe_X d 95 (105, [some (.inr (.inr a0)), some (.inl x1), o2, some (.inl x3), some (.inl x4), some (.inl x5), some (.inl x6), o7], [], σ) Φ) (k2 : s0 = 0 → pe_X d 95 (65, [some (.inr (.inr a0)), some (.inl x1), o2, some (.inl x3), some (.inl x4), some (.inl x5), some (.inl x6), o7], [], σ) Φ) : pe_X d 95 (62, [some (.inr (.inr a0)), some (.inl x1), o2, some (.inl x3), some (.inl x4), some (.inl x5), some (.inl x6), o7], [.inl s0], σ) Φ := by
  refine pe_blk 33 1 ck95 [] (cond (decide (¬ (pe_w s0) = 0)) 105 65, [some (.inr (.inr a0)), some (.inl x1), o2, some (.inl x3), some (.inl x4), some (.inl x5), some (.inl x6), o7], [], σ) rfl ?_ ?_
  · exact trivial
  · try simp (disch := omega) only [pe_wi w0]
    exact pe_two' k1 k2
theorem b95_65 {d : Nat} {Φ : Option pe_V → pe_H → Prop} {σ : pe_H} {a0 : Nat} {x1 : Int} {o2 : Option pe_V} {x3 : Int} {x4 : Int} {x5 : Int} {x6 : Int} {o7 : Option pe_V} (f_a0 : pk_Fs a0 σ := by assumption)   (k : pe_M d 123 [.inr (.inr a0), .inl x6, .inl x1] σ (fun r σ' => pe_X d 95 (72, [some (.inr (.inr a0)), some (.inl x1), o2, some (.inl x3), some (.inl x4), some (.inl x5), some (.inl x6), o7], r.toList ++ [], σ') Φ)) : pe_X d 95 (65, [some (.inr (.inr a0)), some (.inl x1), o2, some (.inl x3), some (.inl x4), some (.inl x5), some (.inl x6), o7], [], σ) Φ := by
  refine pe_blk 34 3 ck95 [] (69, [some (.inr (.inr a0)), some (.inl x1), o2, some (.inl x3), some (.inl x4), some (.inl x5), some (.inl x6), o7], [.inl x1, .inl x6, .inr (.inr a0)], σ) rfl ?_ ?_
  · exact trivial
  · try simp (disch := omega) only [pe_K_wI, pe_K_wR, pk_sK f_a0]
    have hrc : pe_K σ a0 = 8 := by first | assumption | (simp (disch := omega) only [pe_K_wI, pe_K_wR, pk_sK f_a0]; done) | (simp (disch := omega) only [pe_K_wI, pe_K_wR, pk_sK f_a0]; assumption)
    exact pe_cal 37 ck95 rfl rfl rfl ⟨hrc, by decide⟩ k
theorem b95_72 {d : Nat} {Φ : Option pe_V → pe_H → Prop} {σ : pe_H} {a0 : Nat} {x1 : Int} {o2 : Option pe_V} {x3 : Int} {x4 : Int} {x5 : Int} {x6 : Int} {o7 : Option pe_V} {s0 : Int} (f_a0 : pk_Fs a0 σ := by assumption)   (k : pe_M d 245 [.inl (pe_and x3 (pe_xor (pe_shl 1 x6) (-1)))] σ (fun r σ' => pe_X d 95 (87, [some (.inr (.inr a0)), some (.inl x1), o2, some (.inl x3), some (.inl x4), some (.inl x5), some (.inl x6), some (.inl s0)], r.toList ++ [.inl s0], σ') Φ)) : pe_X d 95 (72, [some (.inr (.inr a0)), some (.inl x1), o2, some (.inl x3), some (.inl x4), some (.inl x5), some (.inl x6), o7], [.inl s0], σ) Φ := by
  refine pe_blk 38 9 ck95 [] (84, [some (.inr (.inr a0)), some (.inl x1), o2, some (.inl x3), some (.inl x4), some (.inl x5), some (.inl x6), some (.inl s0)], [.inl (pe_and x3 (pe_xor (pe_shl 1 x6) (-1))), .inl s0], σ) rfl ?_ ?_
  · exact trivial
  · exact pe_cal 47 ck95 rfl rfl rfl trivial k
theorem b95_87 {d : Nat} {Φ : Option pe_V → pe_H → Prop} {σ : pe_H} {a0 : Nat} {x1 : Int} {o2 : Option pe_V} {x3 : Int} {x4 : Int} {x5 : Int} {x6 : Int} {x7 : Int} {s0 : Int} {s1 : Int} (f_a0 : pk_Fs a0 σ := by assumption) (w0 : pe_in s1 := by unfold pe_in; omega) (w1 : pe_in s0 := by unfold pe_in; omega)  (k1 : s0 ≤ s1 → pe_X d 95 (105, [some (.inr (.inr a0)), some (.inl x1), o2, some (.inl x3), some (.inl x4), some (.inl x5), some (.inl x6), some (.inl x7)], [], σ) Φ) (k2 : ¬ (s0 ≤ s1) → pe_X d 95 (90, [some (.inr (.inr a0)), some (.inl x1), o2, some (.inl x3), some (.inl x4), some (.inl x5), some (.inl x6), some (.inl x7)], [], σ) Φ) : pe_X d 95 (87, [some (.inr (.inr a0)), some (.inl x1), o2, some (.inl x3), some (.inl x4), some (.inl x5), some (.inl x6), some (.inl x7)], [.inl s1, .inl s0], σ) Φ := by
  refine pe_blk 48 1 ck95 [] (cond (decide ((pe_w s0) ≤ (pe_w s1))) 105 90, [some (.inr (.inr a0)), some (.inl x1), o2, some (.inl x3), some (.inl x4), some (.inl x5), some (.inl x6), some (.inl x7)], [], σ) rfl ?_ ?_
  · exact trivial
  · try simp (disch := omega) only [pe_wi w0, pe_wi w1]
    exact pe_two k1 k2
set_option maxRecDepth 8000 in
theorem b95_90 {d : Nat} {Φ : Option pe_V → pe_H → Prop} {σ : pe_H} {a0 : Nat} {x1 : Int} {o2 : Option pe_V} {x3 : Int} {x4 : Int} {x5 : Int} {x6 : Int} {x7 : Int} (f_a0 : pk_Fs a0 σ := by assumption) (w0 : pe_in x5 := by unfold pe_in; omega) (w1 : pe_in x7 := by unfold pe_in; omega)  (k1 : x7 ≤ x5 → pe_X d 95 (105, [some (.inr (.inr a0)), some (.inl x1), o2, some (.inl x3), some (.inl x4), some (.inl x5), some (.inl x6), some (.inl x7)], [], σ) Φ) (k2 : ¬ (x7 ≤ x5) → pe_X d 95 (97, [some (.inr (.inr a0)), some (.inl x1), o2, some (.inl x3), some (.inl x4), some (.inl x5), some (.inl x6), some (.inl x7)], [], σ) Φ) : pe_X d 95 (90, [some (.inr (.inr a0)), some (.inl x1), o2, some (.inl x3), some (.inl x4), some (.inl x5), some (.inl x6), some (.inl x7)], [], σ) Φ := by
  refine pe_blk 49 3 ck95 [] (cond (decide ((pe_w x7) ≤ (pe_w x5))) 105 97, [some (.inr (.inr a0)), some (.inl x1), o2, some (.inl x3), some (.inl x4), some (.inl x5), some (.inl x6), some (.inl x7)], [], σ) rfl ?_ ?_
  · exact trivial
  · try simp (disch := omega) only [pe_wi w0, pe_wi w1]
    exact pe_two k1 k2
set_option maxRecDepth 8000 in
theorem b95_97 {d : Nat} {Φ : Option pe_V → pe_H → Prop} {σ : pe_H} {a0 : Nat} {x1 : Int} {o2 : Option pe_V} {x3 : Int} {o4 : Option pe_V} {o5 : Option pe_V} {x6 : Int} {x7 : Int} (f_a0 : pk_Fs a0 σ := by assumption)   (k : pe_X d 95 (105, [some (.inr (.inr a0)), some (.inl x1), o2, some (.inl x3), some (.inl x6), some (.inl x7), some (.inl x6), some (.inl x7)], [], σ) Φ) : pe_X d 95 (97, [some (.inr (.inr a0)), some (.inl x1), o2, some (.inl x3), o4, o5, some (.inl x6), some (.inl x7)], [], σ) Φ := by
  refine pe_blk 52 4 ck95 [] (105, [some (.inr (.inr a0)), some (.inl x1), o2, some (.inl x3), some (.inl x6), some (.inl x7), some (.inl x6), some (.inl x7)], [], σ) rfl ?_ ?_
  · exact trivial
  · exact k
set_option maxRecDepth 8000 in
theorem b95_105 {d : Nat} {Φ : Option pe_V → pe_H → Prop} {σ : pe_H} {a0 : Nat} {x1 : Int} {o2 : Option pe_V} {x3 : Int} {x4 : Int} {x5 : Int} {x6 : Int} {o7 : Option pe_V} (f_a0 : pk_Fs a0 σ := by assumption)   (k : pe_X d 95 (37, [some (.inr (.inr a0)), some (.inl x1), o2, some (.inl x3), some (.inl x4), some (.inl x5), some (.inl (x6 + 1)), o7], [], σ) Φ) : pe_X d 95 (105, [some (.inr (.inr a0)), some (.inl x1), o2, some (.inl x3), some (.inl x4), some (.inl x5), some (.inl x6), o7], [], σ) Φ := by
  refine pe_blk 56 2 ck95 [] (37, [some (.inr (.inr a0)), some (.inl x1), o2, some (.inl x3), some (.inl x4), some (.inl x5), some (.inl (x6 + 1)), o7], [], σ) rfl ?_ ?_
  · exact trivial
  · exact k
set_option maxRecDepth 8000 in
theorem b95_111 {d : Nat} {Φ : Option pe_V → pe_H → Prop} {σ : pe_H} {o0 : Option pe_V} {o1 : Option pe_V} {o2 : Option pe_V} {o3 : Option pe_V} {x4 : Int} {o5 : Option pe_V} {o6 : Option pe_V} {o7 : Option pe_V}    (k : Φ (some (.inl x4)) σ) : pe_X d 95 (111, [o0, o1, o2, o3, some (.inl x4), o5, o6, o7], [], σ) Φ := by
  refine pe_blk 58 1 ck95 [] (113, [o0, o1, o2, o3, some (.inl x4), o5, o6, o7], [.inl x4], σ) rfl ?_ ?_
  · exact trivial
  · exact pe_fine 59 ck95 rfl rfl rfl trivial k
-- StepMachines.sendBest(II)I
def T96 : List (Nat × Instr × Nat) := [(0, .aload_n 0, 1), (1, .iload_n 1, 1), (2, .invokevirtual 107, 3), (5, .ifCond .eq 12, 3), (8, .iload_n 2, 1), (9, .ifCond .lt 8, 3), (12, .iload_n 2, 1), (13, .iconst 1, 1), (14, .if_icmp .le 5, 3), (17, .iconst (-1), 1), (18, .ireturn, 1), (19, .aload_n 0, 1), (20, .getfield 10, 3), (23, .getfield 110, 3), (26, .iload_n 1, 1), (27, .aaload, 1), (28, .invokevirtual 189, 3), (31, .ifCond .ne 6, 3), (34, .bipush (-3), 2), (36, .ireturn, 1), (37, .iconst 0, 1), (38, .istore_n 3, 1), (39, .bipush (-4), 2), (41, .istore 4, 2), (43, .iconst 0, 1), (44, .istore 5, 2), (46, .iload 5, 2), (48, .bipush 20, 2), (50, .if_icmp .gt 53, 3), (53, .aload_n 0, 1), (54, .invokevirtual 66, 3), (57, .astore 6, 2), (59, .aload 6, 2), (61, .iload_n 1, 1), (62, .iload 5, 2), (64, .invokevirtual 193, 3), (67, .aload 6, 2), (69, .getfield 110, 3), (72, .iload_n 1, 1), (73, .aaload, 1), (74, .getfield 240, 3), (77, .iload 4, 2), (79, .if_icmp .le 18, 3), (82, .aload 6, 2), (84, .getfield 110, 3), (87, .iload_n 1, 1), (88, .aaload, 1), (89, .getfield 240, 3), (92, .istore 4, 2), (94, .iload 5, 2), (96, .istore_n 3, 1), (97, .iinc 5 1, 3), (100, .goto (-54), 3), (103, .iload_n 2, 1), (104, .ifCond .ne 7, 3), (107, .iload_n 3, 1), (108, .goto 5, 3), (111, .iload 4, 2), (113, .ireturn, 1)]
theorem ck96 : pe_ctx 96 8 false (some .int) 7 T96 := ⟨rfl, rfl, rfl, rfl, by decide +kernel, by decide, by decide⟩
theorem b96_0 {d : Nat} {Φ : Option pe_V → pe_H → Prop} {σ : pe_H} {a0 : Nat} {x1 : Int} {x2 : Int} {o3 : Option pe_V} {o4 : Option pe_V} {o5 : Option pe_V} {o6 : Option pe_V} (f_a0 : pk_Fs a0 σ := by assumption)   (k : pe_M d 117 [.inr (.inr a0), .inl x1] σ (fun r σ' => pe_X d 96 (5, [some (.inr (.inr a0)), some (.inl x1), some (.inl x2), o3, o4, o5, o6], r.toList ++ [], σ') Φ)) : pe_X d 96 (0, [some (.inr (.inr a0)), some (.inl x1), some (.inl x2), o3, o4, o5, o6], [], σ) Φ := by
  refine pe_blk 0 2 ck96 [] (2, [some (.inr (.inr a0)), some (.inl x1), some (.inl x2), o3, o4, o5, o6], [.inl x1, .inr (.inr a0)], σ) rfl ?_ ?_
  · exact trivial
  · try simp (disch := omega) only [pe_K_wI, pe_K_wR, pk_sK f_a0]
    have hrc : pe_K σ a0 = 8 := by first | assumption | (simp (disch := omega) only [pe_K_wI, pe_K_wR, pk_sK f_a0]; done) | (simp (disch := omega) only [pe_K_wI, pe_K_wR, pk_sK f_a0]; assumption)
    exact pe_cal 2 ck96 rfl rfl rfl ⟨hrc, by decide⟩ k
theorem b96_5 {d : Nat} {Φ : Option pe_V → pe_H → Prop} {σ : pe_H} {a0 : Nat} {x1 : Int} {x2 : Int} {o3 : Option pe_V} {o4 : Option pe_V} {o5 : Option pe_V} {o6 : Option pe_V} {s0 : Int} (f_a0 : pk_Fs a0 σ := by assumption) (w0 : pe_in s0 := by unfold pe_in; omega)  (k1 : s0 = 0 → pe_X d 96 (17, [some (.inr (.inr a0)), some (.inl x1), some (.inl x2), o3, o4, o5, o6], [], σ) Φ) (k2 : ¬ (s0 = 0) → pe_X d 96 (8, [some (.inr (.inr a0)), some (.inl x1), some (.inl x2), o3, o4, o5, o6], [], σ) Φ) : pe_X d 96 (5, [some (.inr (.inr a0)), some (.inl x1), some (.inl x2), o3, o4, o5, o6], [.inl s0], σ) Φ := by
  refine pe_blk 3 1 ck96 [] (cond (decide ((pe_w s0) = 0)) 17 8, [some (.inr (.inr a0)), some (.inl x1), some (.inl x2), o3, o4, o5, o6], [], σ) rfl ?_ ?_
  · exact trivial
  · try simp (disch := omega) only [pe_wi w0]
    exact pe_two k1 k2
theorem b96_8 {d : Nat} {Φ : Option pe_V → pe_H → Prop} {σ : pe_H} {a0 : Nat} {x1 : Int} {x2 : Int} {o3 : Option pe_V} {o4 : Option pe_V} {o5 : Option pe_V} {o6 : Option pe_V} (f_a0 : pk_Fs a0 σ := by assumption) (w0 : pe_in x2 := by unfold pe_in; omega)  (k1 : x2 < 0 → pe_X d 96 (17, [some (.inr (.inr a0)), some (.inl x1), some (.inl x2), o3, o4, o5, o6], [], σ) Φ) (k2 : ¬ (x2 < 0) → pe_X d 96 (12, [some (.inr (.inr a0)), some (.inl x1), some (.inl x2), o3, o4, o5, o6], [], σ) Φ) : pe_X d 96 (8, [some (.inr (.inr a0)), some (.inl x1), some (.inl x2), o3, o4, o5, o6], [], σ) Φ := by
  refine pe_blk 4 2 ck96 [] (cond (decide ((pe_w x2) < 0)) 17 12, [some (.inr (.inr a0)), some (.inl x1), some (.inl x2), o3, o4, o5, o6], [], σ) rfl ?_ ?_
  · exact trivial
  · try simp (disch := omega) only [pe_wi w0]
    exact pe_two k1 k2
theorem b96_12 {d : Nat} {Φ : Option pe_V → pe_H → Prop} {σ : pe_H} {a0 : Nat} {x1 : Int} {x2 : Int} {o3 : Option pe_V} {o4 : Option pe_V} {o5 : Option pe_V} {o6 : Option pe_V} (f_a0 : pk_Fs a0 σ := by assumption) (w0 : pe_in x2 := by unfold pe_in; omega)  (k1 : x2 ≤ 1 → pe_X d 96 (19, [some (.inr (.inr a0)), some (.inl x1), some (.inl x2), o3, o4, o5, o6], [], σ) Φ) (k2 : ¬ (x2 ≤ 1) → pe_X d 96 (17, [some (.inr (.inr a0)), some (.inl x1), some (.inl x2), o3, o4, o5, o6], [], σ) Φ) : pe_X d 96 (12, [some (.inr (.inr a0)), some (.inl x1), some (.inl x2), o3, o4, o5, o6], [], σ) Φ := by
  refine pe_blk 6 3 ck96 [] (cond (decide ((pe_w x2) ≤ (pe_w 1))) 19 17, [some (.inr (.inr a0)), some (.inl x1), some (.inl x2), o3, o4, o5, o6], [], σ) rfl ?_ ?_
  · exact trivial
  · try simp (disch := omega) only [pe_wi w0, pe_wi (x := 1) ⟨by decide, by decide⟩]
    exact pe_two k1 k2
theorem b96_17 {d : Nat} {Φ : Option pe_V → pe_H → Prop} {σ : pe_H} {o0 : Option pe_V} {o1 : Option pe_V} {o2 : Option pe_V} {o3 : Option pe_V} {o4 : Option pe_V} {o5 : Option pe_V} {o6 : Option pe_V}    (k : Φ (some (.inl (-1))) σ) : pe_X d 96 (17, [o0, o1, o2, o3, o4, o5, o6], [], σ) Φ := by
  refine pe_blk 9 1 ck96 [] (18, [o0, o1, o2, o3, o4, o5, o6], [.inl (-1)], σ) rfl ?_ ?_
  · exact trivial
  · exact pe_fine 10 ck96 rfl rfl rfl trivial k
theorem b96_19 {d : Nat} {Φ : Option pe_V → pe_H → Prop} {σ : pe_H} {a0 : Nat} {x1 : Int} {x2 : Int} {o3 : Option pe_V} {o4 : Option pe_V} {o5 : Option pe_V} {o6 : Option pe_V} (f_a0 : pk_Fs a0 σ := by assumption) (w0 : pe_in x1 := by unfold pe_in; omega) (h0 : 0 ≤ x1 := by first | assumption | omega) (h1 : x1 < 8 := by first | assumption | omega) (k : pe_M d 4 [.inr (.inr (pk_c (a0 + 1) x1))] σ (fun r σ' => pe_X d 96 (31, [some (.inr (.inr a0)), some (.inl x1), some (.inl x2), o3, o4, o5, o6], r.toList ++ [], σ') Φ)) : pe_X d 96 (19, [some (.inr (.inr a0)), some (.inl x1), some (.inl x2), o3, o4, o5, o6], [], σ) Φ := by
  refine pe_blk 11 5 ck96 [pe_K σ a0 = 8, pe_K σ (pe_R σ a0 0) = 2, 12 ≤ pe_K σ (pe_R σ (pe_R σ a0 0) 1) ∧ pe_K σ (pe_R σ (pe_R σ a0 0) 1) < 19, 0 ≤ (pe_w x1), (pe_w x1) < pe_L σ (pe_R σ (pe_R σ a0 0) 1)] (28, [some (.inr (.inr a0)), some (.inl x1), some (.inl x2), o3, o4, o5, o6], [.inr (.inr (pe_R σ (pe_R σ (pe_R σ a0 0) 1) (pe_w x1)))], σ) rfl ?_ ?_
  · first
    | (simp (disch := omega) only [pe_all, pe_wi w0, pe_K_wI, pe_K_wR, pe_L_wI, pe_L_wR, pe_R_nej, pe_R_ner, pe_R_wI, pk_mE2 (pk_sM0 f_a0) (i := x1) (by omega) (by omega), pk_mK (pk_sM0 f_a0), pk_mK2 (pk_sM0 f_a0), pk_mL2 (pk_sM0 f_a0), pk_mR2 (pk_sM0 f_a0), pk_oK (pk_mO (pk_sM0 f_a0) (i := x1) (by omega) (by omega)), pk_sK f_a0, pk_sR0 f_a0]; done)
    | (simp (disch := omega) only [pe_all, pe_wi w0, pe_K_wI, pe_K_wR, pe_L_wI, pe_L_wR, pe_R_nej, pe_R_ner, pe_R_wI, pk_mE2 (pk_sM0 f_a0) (i := x1) (by omega) (by omega), pk_mK (pk_sM0 f_a0), pk_mK2 (pk_sM0 f_a0), pk_mL2 (pk_sM0 f_a0), pk_mR2 (pk_sM0 f_a0), pk_oK (pk_mO (pk_sM0 f_a0) (i := x1) (by omega) (by omega)), pk_sK f_a0, pk_sR0 f_a0]; (repeat' apply And.intro) <;> first | assumption | omega | decide)
  · try simp (disch := omega) only [pe_wi w0, pe_K_wI, pe_K_wR, pe_L_wI, pe_L_wR, pe_R_nej, pe_R_ner, pe_R_wI, pk_mE2 (pk_sM0 f_a0) (i := x1) (by omega) (by omega), pk_mK (pk_sM0 f_a0), pk_mK2 (pk_sM0 f_a0), pk_mL2 (pk_sM0 f_a0), pk_mR2 (pk_sM0 f_a0), pk_oK (pk_mO (pk_sM0 f_a0) (i := x1) (by omega) (by omega)), pk_sK f_a0, pk_sR0 f_a0]
    have hrc : pe_K σ (pk_c (a0 + 1) x1) = 0 := by first | assumption | (simp (disch := omega) only [pe_wi w0, pe_K_wI, pe_K_wR, pe_L_wI, pe_L_wR, pe_R_nej, pe_R_ner, pe_R_wI, pk_mE2 (pk_sM0 f_a0) (i := x1) (by omega) (by omega), pk_mK (pk_sM0 f_a0), pk_mK2 (pk_sM0 f_a0), pk_mL2 (pk_sM0 f_a0), pk_mR2 (pk_sM0 f_a0), pk_oK (pk_mO (pk_sM0 f_a0) (i := x1) (by omega) (by omega)), pk_sK f_a0, pk_sR0 f_a0]; done) | (simp (disch := omega) only [pe_wi w0, pe_K_wI, pe_K_wR, pe_L_wI, pe_L_wR, pe_R_nej, pe_R_ner, pe_R_wI, pk_mE2 (pk_sM0 f_a0) (i := x1) (by omega) (by omega), pk_mK (pk_sM0 f_a0), pk_mK2 (pk_sM0 f_a0), pk_mL2 (pk_sM0 f_a0), pk_mR2 (pk_sM0 f_a0), pk_oK (pk_mO (pk_sM0 f_a0) (i := x1) (by omega) (by omega)), pk_sK f_a0, pk_sR0 f_a0]; assumption)
    exact pe_cal 16 ck96 rfl rfl rfl ⟨hrc, by decide⟩ k
theorem b96_31 {d : Nat} {Φ : Option pe_V → pe_H → Prop} {σ : pe_H} {a0 : Nat} {x1 : Int} {x2 : Int} {o3 : Option pe_V} {o4 : Option pe_V} {o5 : Option pe_V} {o6 : Option pe_V} {s0 : Int} (f_a0 : pk_Fs a0 σ := by assumption) (w0 : pe_in s0 := by unfold pe_in; omega)  (k1 : ¬ s0 = 0 → pe_X d 96 (37, [some (.inr (.inr a0)), some (.inl x1), some (.inl x2), o3, o4, o5, o6], [], σ) Φ) (k2 : s0 = 0 → pe_X d 96 (34, [some (.inr (.inr a0)), some (.inl x1), some (.inl x2), o3, o4, o5, o6], [], σ) Φ) : pe_X d 96 (31, [some (.inr (.inr a0)), some (.inl x1), some (.inl x2), o3, o4, o5, o6], [.inl s0], σ) Φ := by
  refine pe_blk 17 1 ck96 [] (cond (decide (¬ (pe_w s0) = 0)) 37 34, [some (.inr (.inr a0)), some (.inl x1), some (.inl x2), o3, o4, o5, o6], [], σ) rfl ?_ ?_
  · exact trivial
  · try simp (disch := omega) only [pe_wi w0]
    exact pe_two' k1 k2
theorem b96_34 {d : Nat} {Φ : Option pe_V → pe_H → Prop} {σ : pe_H} {o0 : Option pe_V} {o1 : Option pe_V} {o2 : Option pe_V} {o3 : Option pe_V} {o4 : Option pe_V} {o5 : Option pe_V} {o6 : Option pe_V}    (k : Φ (some (.inl (-3))) σ) : pe_X d 96 (34, [o0, o1, o2, o3, o4, o5, o6], [], σ) Φ := by
  refine pe_blk 18 1 ck96 [] (36, [o0, o1, o2, o3, o4, o5, o6], [.inl (-3)], σ) rfl ?_ ?_
  · exact trivial
  · exact pe_fine 19 ck96 rfl rfl rfl trivial k
theorem b96_37 {d : Nat} {Φ : Option pe_V → pe_H → Prop} {σ : pe_H} {a0 : Nat} {x1 : Int} {x2 : Int} {o3 : Option pe_V} {o4 : Option pe_V} {o5 : Option pe_V} {o6 : Option pe_V} (f_a0 : pk_Fs a0 σ := by assumption)   (k : pe_X d 96 (46, [some (.inr (.inr a0)), some (.inl x1), some (.inl x2), some (.inl 0), some (.inl (-4)), some (.inl 0), o6], [], σ) Φ) : pe_X d 96 (37, [some (.inr (.inr a0)), some (.inl x1), some (.inl x2), o3, o4, o5, o6], [], σ) Φ := by
  refine pe_blk 20 6 ck96 [] (46, [some (.inr (.inr a0)), some (.inl x1), some (.inl x2), some (.inl 0), some (.inl (-4)), some (.inl 0), o6], [], σ) rfl ?_ ?_
  · exact trivial
  · exact k
theorem b96_46 {d : Nat} {Φ : Option pe_V → pe_H → Prop} {σ : pe_H} {a0 : Nat} {x1 : Int} {x2 : Int} {x3 : Int} {x4 : Int} {x5 : Int} {o6 : Option pe_V} (f_a0 : pk_Fs a0 σ := by assumption) (w0 : pe_in x5 := by unfold pe_in; omega)  (k1 : 20 < x5 → pe_X d 96 (103, [some (.inr (.inr a0)), some (.inl x1), some (.inl x2), some (.inl x3), some (.inl x4), some (.inl x5), o6], [], σ) Φ) (k2 : ¬ (20 < x5) → pe_X d 96 (53, [some (.inr (.inr a0)), some (.inl x1), some (.inl x2), some (.inl x3), some (.inl x4), some (.inl x5), o6], [], σ) Φ) : pe_X d 96 (46, [some (.inr (.inr a0)), some (.inl x1), some (.inl x2), some (.inl x3), some (.inl x4), some (.inl x5), o6], [], σ) Φ := by
  refine pe_blk 26 3 ck96 [] (cond (decide ((pe_w 20) < (pe_w x5))) 103 53, [some (.inr (.inr a0)), some (.inl x1), some (.inl x2), some (.inl x3), some (.inl x4), some (.inl x5), o6], [], σ) rfl ?_ ?_
  · exact trivial
  · try simp (disch := omega) only [pe_wi w0, pe_wi (x := 20) ⟨by decide, by decide⟩]
    exact pe_two k1 k2
theorem b96_53 {d : Nat} {Φ : Option pe_V → pe_H → Prop} {σ : pe_H} {a0 : Nat} {x1 : Int} {x2 : Int} {x3 : Int} {x4 : Int} {x5 : Int} {o6 : Option pe_V} (f_a0 : pk_Fs a0 σ := by assumption)   (k : pe_M d 122 [.inr (.inr a0)] σ (fun r σ' => pe_X d 96 (57, [some (.inr (.inr a0)), some (.inl x1), some (.inl x2), some (.inl x3), some (.inl x4), some (.inl x5), o6], r.toList ++ [], σ') Φ)) : pe_X d 96 (53, [some (.inr (.inr a0)), some (.inl x1), some (.inl x2), some (.inl x3), some (.inl x4), some (.inl x5), o6], [], σ) Φ := by
  refine pe_blk 29 1 ck96 [] (54, [some (.inr (.inr a0)), some (.inl x1), some (.inl x2), some (.inl x3), some (.inl x4), some (.inl x5), o6], [.inr (.inr a0)], σ) rfl ?_ ?_
  · exact trivial
  · try simp (disch := omega) only [pe_K_wI, pe_K_wR, pk_sK f_a0]
    have hrc : pe_K σ a0 = 8 := by first | assumption | (simp (disch := omega) only [pe_K_wI, pe_K_wR, pk_sK f_a0]; done) | (simp (disch := omega) only [pe_K_wI, pe_K_wR, pk_sK f_a0]; assumption)
    exact pe_cal 30 ck96 rfl rfl rfl ⟨hrc, by decide⟩ k
theorem b96_57 {d : Nat} {Φ : Option pe_V → pe_H → Prop} {σ : pe_H} {a0 : Nat} {x1 : Int} {x2 : Int} {x3 : Int} {x4 : Int} {x5 : Int} {o6 : Option pe_V} {b0 : Nat} (f_a0 : pk_Fs a0 σ := by assumption) (f_b0 : pk_Fm b0 σ := by assumption)   (k : pe_M d 25 [.inr (.inr b0), .inl x1, .inl x5] σ (fun r σ' => pe_X d 96 (67, [some (.inr (.inr a0)), some (.inl x1), some (.inl x2), some (.inl x3), some (.inl x4), some (.inl x5), some (.inr (.inr b0))], r.toList ++ [], σ') Φ)) : pe_X d 96 (57, [some (.inr (.inr a0)), some (.inl x1), some (.inl x2), some (.inl x3), some (.inl x4), some (.inl x5), o6], [.inr (.inr b0)], σ) Φ := by
  refine pe_blk 31 4 ck96 [] (64, [some (.inr (.inr a0)), some (.inl x1), some (.inl x2), some (.inl x3), some (.inl x4), some (.inl x5), some (.inr (.inr b0))], [.inl x5, .inl x1, .inr (.inr b0)], σ) rfl ?_ ?_
  · exact trivial
  · try simp (disch := omega) only [pe_K_wI, pe_K_wR, pk_mK f_b0]
    have hrc : pe_K σ b0 = 2 := by first | assumption | (simp (disch := omega) only [pe_K_wI, pe_K_wR, pk_mK f_b0]; done) | (simp (disch := omega) only [pe_K_wI, pe_K_wR, pk_mK f_b0]; assumption)
    exact pe_cal 35 ck96 rfl rfl rfl ⟨hrc, by decide⟩ k
theorem b96_67 {d : Nat} {Φ : Option pe_V → pe_H → Prop} {σ : pe_H} {a0 : Nat} {x1 : Int} {x2 : Int} {x3 : Int} {x4 : Int} {x5 : Int} {a6 : Nat} (f_a0 : pk_Fs a0 σ := by assumption) (f_a6 : pk_Fm a6 σ := by assumption) (w0 : pe_in x1 := by unfold pe_in; omega) (w1 : pe_in x4 := by unfold pe_in; omega) (w2 : pe_in (pe_I σ (pk_c a6 x1) 4) := by unfold pe_in; omega) (h0 : 0 ≤ x1 := by first | assumption | omega) (h1 : x1 < 8 := by first | assumption | omega) (k1 : (pe_I σ (pk_c a6 x1) 4) ≤ x4 → pe_X d 96 (97, [some (.inr (.inr a0)), some (.inl x1), some (.inl x2), some (.inl x3), some (.inl x4), some (.inl x5), some (.inr (.inr a6))], [], σ) Φ) (k2 : ¬ ((pe_I σ (pk_c a6 x1) 4) ≤ x4) → pe_X d 96 (82, [some (.inr (.inr a0)), some (.inl x1), some (.inl x2), some (.inl x3), some (.inl x4), some (.inl x5), some (.inr (.inr a6))], [], σ) Φ) : pe_X d 96 (67, [some (.inr (.inr a0)), some (.inl x1), some (.inl x2), some (.inl x3), some (.inl x4), some (.inl x5), some (.inr (.inr a6))], [], σ) Φ := by
  refine pe_blk 36 7 ck96 [pe_K σ a6 = 2, 12 ≤ pe_K σ (pe_R σ a6 1) ∧ pe_K σ (pe_R σ a6 1) < 19, 0 ≤ (pe_w x1), (pe_w x1) < pe_L σ (pe_R σ a6 1), pe_K σ (pe_R σ (pe_R σ a6 1) (pe_w x1)) = 0] (cond (decide ((pe_w (pe_I σ (pe_R σ (pe_R σ a6 1) (pe_w x1)) 4)) ≤ (pe_w x4))) 97 82, [some (.inr (.inr a0)), some (.inl x1), some (.inl x2), some (.inl x3), some (.inl x4), some (.inl x5), some (.inr (.inr a6))], [], σ) rfl ?_ ?_
  · first
    | (simp (disch := omega) only [pe_all, pe_wi w0, pe_wi w1, pe_wi w2, pe_K_wI, pe_K_wR, pe_L_wI, pe_L_wR, pe_R_nej, pe_R_ner, pe_R_wI, pk_mE2 f_a6 (i := x1) (by omega) (by omega), pk_mK f_a6, pk_mK2 f_a6, pk_mL2 f_a6, pk_mR2 f_a6, pk_oK (pk_mO f_a6 (i := x1) (by omega) (by omega))]; done)
    | (simp (disch := omega) only [pe_all, pe_wi w0, pe_wi w1, pe_wi w2, pe_K_wI, pe_K_wR, pe_L_wI, pe_L_wR, pe_R_nej, pe_R_ner, pe_R_wI, pk_mE2 f_a6 (i := x1) (by omega) (by omega), pk_mK f_a6, pk_mK2 f_a6, pk_mL2 f_a6, pk_mR2 f_a6, pk_oK (pk_mO f_a6 (i := x1) (by omega) (by omega))]; (repeat' apply And.intro) <;> first | assumption | omega | decide)
  · try simp (disch := omega) only [pe_wi w0, pe_wi w1, pe_wi w2, pe_K_wI, pe_K_wR, pe_L_wI, pe_L_wR, pe_R_nej, pe_R_ner, pe_R_wI, pk_mE2 f_a6 (i := x1) (by omega) (by omega), pk_mK f_a6, pk_mK2 f_a6, pk_mL2 f_a6, pk_mR2 f_a6, pk_oK (pk_mO f_a6 (i := x1) (by omega) (by omega))]
    exact pe_two k1 k2
set_option maxRecDepth 8000 in
theorem b96_82 {d : Nat} {Φ : Option pe_V → pe_H → Prop} {σ : pe_H} {a0 : Nat} {x1 : Int} {x2 : Int} {o3 : Option pe_V} {o4 : Option pe_V} {x5 : Int} {a6 : Nat} (f_a0 : pk_Fs a0 σ := by assumption) (f_a6 : pk_Fm a6 σ := by assumption) (w0 : pe_in x1 := by unfold pe_in; omega) (h0 : 0 ≤ x1 := by first | assumption | omega) (h1 : x1 < 8 := by first | assumption | omega) (k : pe_X d 96 (97, [some (.inr (.inr a0)), some (.inl x1), some (.inl x2), some (.inl x5), some (.inl (pe_I σ (pk_c a6 x1) 4)), some (.inl x5), some (.inr (.inr a6))], [], σ) Φ) : pe_X d 96 (82, [some (.inr (.inr a0)), some (.inl x1), some (.inl x2), o3, o4, some (.inl x5), some (.inr (.inr a6))], [], σ) Φ := by
  refine pe_blk 43 8 ck96 [pe_K σ a6 = 2, 12 ≤ pe_K σ (pe_R σ a6 1) ∧ pe_K σ (pe_R σ a6 1) < 19, 0 ≤ (pe_w x1), (pe_w x1) < pe_L σ (pe_R σ a6 1), pe_K σ (pe_R σ (pe_R σ a6 1) (pe_w x1)) = 0] (97, [some (.inr (.inr a0)), some (.inl x1), some (.inl x2), some (.inl x5), some (.inl (pe_I σ (pe_R σ (pe_R σ a6 1) (pe_w x1)) 4)), some (.inl x5), some (.inr (.inr a6))], [], σ) rfl ?_ ?_
  · first
    | (simp (disch := omega) only [pe_all, pe_wi w0, pe_K_wI, pe_K_wR, pe_L_wI, pe_L_wR, pe_R_nej, pe_R_ner, pe_R_wI, pk_mE2 f_a6 (i := x1) (by omega) (by omega), pk_mK f_a6, pk_mK2 f_a6, pk_mL2 f_a6, pk_mR2 f_a6, pk_oK (pk_mO f_a6 (i := x1) (by omega) (by omega))]; done)
    | (simp (disch := omega) only [pe_all, pe_wi w0, pe_K_wI, pe_K_wR, pe_L_wI, pe_L_wR, pe_R_nej, pe_R_ner, pe_R_wI, pk_mE2 f_a6 (i := x1) (by omega) (by omega), pk_mK f_a6, pk_mK2 f_a6, pk_mL2 f_a6, pk_mR2 f_a6, pk_oK (pk_mO f_a6 (i := x1) (by omega) (by omega))]; (repeat' apply And.intro) <;> first | assumption | omega | decide)
  · try simp (disch := omega) only [pe_wi w0, pe_K_wI, pe_K_wR, pe_L_wI, pe_L_wR, pe_R_nej, pe_R_ner, pe_R_wI, pk_mE2 f_a6 (i := x1) (by omega) (by omega), pk_mK f_a6, pk_mK2 f_a6, pk_mL2 f_a6, pk_mR2 f_a6, pk_oK (pk_mO f_a6 (i := x1) (by omega) (by omega))]
    exact k
set_option maxRecDepth 8000 in
theorem b96_97 {d : Nat} {Φ : Option pe_V → pe_H → Prop} {σ : pe_H} {a0 : Nat} {x1 : Int} {x2 : Int} {x3 : Int} {x4 : Int} {x5 : Int} {o6 : Option pe_V} (f_a0 : pk_Fs a0 σ := by assumption)   (k : pe_X d 96 (46, [some (.inr (.inr a0)), some (.inl x1), some (.inl x2), some (.inl x3), some (.inl x4), some (.inl (x5 + 1)), o6], [], σ) Φ) : pe_X d 96 (97, [some (.inr (.inr a0)), some (.inl x1), some (.inl x2), some (.inl x3), some (.inl x4), some (.inl x5), o6], [], σ) Φ := by
  refine pe_blk 51 2 ck96 [] (46, [some (.inr (.inr a0)), some (.inl x1), some (.inl x2), some (.inl x3), some (.inl x4), some (.inl (x5 + 1)), o6], [], σ) rfl ?_ ?_
  · exact trivial
  · exact k
set_option maxRecDepth 8000 in
theorem b96_103 {d : Nat} {Φ : Option pe_V → pe_H → Prop} {σ : pe_H} {o0 : Option pe_V} {o1 : Option pe_V} {x2 : Int} {x3 : Int} {x4 : Int} {o5 : Option pe_V} {o6 : Option pe_V}  (w0 : pe_in x2 := by unfold pe_in; omega)  (k1 : ¬ x2 = 0 → pe_X d 96 (111, [o0, o1, some (.inl x2), some (.inl x3), some (.inl x4), o5, o6], [], σ) Φ) (k2 : x2 = 0 → pe_X d 96 (107, [o0, o1, some (.inl x2), some (.inl x3), some (.inl x4), o5, o6], [], σ) Φ) : pe_X d 96 (103, [o0, o1, some (.inl x2), some (.inl x3), some (.inl x4), o5, o6], [], σ) Φ := by
  refine pe_blk 53 2 ck96 [] (cond (decide (¬ (pe_w x2) = 0)) 111 107, [o0, o1, some (.inl x2), some (.inl x3), some (.inl x4), o5, o6], [], σ) rfl ?_ ?_
  · exact trivial
  · try simp (disch := omega) only [pe_wi w0]
    exact pe_two' k1 k2
set_option maxRecDepth 8000 in
theorem b96_107 {d : Nat} {Φ : Option pe_V → pe_H → Prop} {σ : pe_H} {o0 : Option pe_V} {o1 : Option pe_V} {o2 : Option pe_V} {x3 : Int} {o4 : Option pe_V} {o5 : Option pe_V} {o6 : Option pe_V}    (k : pe_X d 96 (113, [o0, o1, o2, some (.inl x3), o4, o5, o6], [.inl x3], σ) Φ) : pe_X d 96 (107, [o0, o1, o2, some (.inl x3), o4, o5, o6], [], σ) Φ := by
  refine pe_blk 55 2 ck96 [] (113, [o0, o1, o2, some (.inl x3), o4, o5, o6], [.inl x3], σ) rfl ?_ ?_
  · exact trivial
  · exact k
set_option maxRecDepth 8000 in
theorem b96_111 {d : Nat} {Φ : Option pe_V → pe_H → Prop} {σ : pe_H} {o0 : Option pe_V} {o1 : Option pe_V} {o2 : Option pe_V} {o3 : Option pe_V} {x4 : Int} {o5 : Option pe_V} {o6 : Option pe_V}    (k : pe_X d 96 (113, [o0, o1, o2, o3, some (.inl x4), o5, o6], [.inl x4], σ) Φ) : pe_X d 96 (111, [o0, o1, o2, o3, some (.inl x4), o5, o6], [], σ) Φ := by
  refine pe_blk 57 1 ck96 [] (113, [o0, o1, o2, o3, some (.inl x4), o5, o6], [.inl x4], σ) rfl ?_ ?_
  · exact trivial
  · exact k
set_option maxRecDepth 8000 in
theorem b96_113 {d : Nat} {Φ : Option pe_V → pe_H → Prop} {σ : pe_H} {o0 : Option pe_V} {o1 : Option pe_V} {o2 : Option pe_V} {o3 : Option pe_V} {o4 : Option pe_V} {o5 : Option pe_V} {o6 : Option pe_V} {s0 : Int}    (k : Φ (some (.inl s0)) σ) : pe_X d 96 (113, [o0, o1, o2, o3, o4, o5, o6], [.inl s0], σ) Φ := by
  exact pe_fine 58 ck96 rfl rfl rfl trivial k
-- StepMachines.firstOut()I
def T97 : List (Nat × Instr × Nat) := [(0, .aload_n 0, 1), (1, .invokevirtual 66, 3), (4, .astore_n 1, 1), (5, .iconst 0, 1), (6, .istore_n 2, 1), (7, .iload_n 2, 1), (8, .bipush 60, 2), (10, .if_icmp .ge 49, 3), (13, .aload_n 1, 1), (14, .iconst 0, 1), (15, .putfield 243, 3), (18, .aload_n 1, 1), (19, .invokevirtual 212, 3), (22, .pop, 1), (23, .iconst 0, 1), (24, .istore_n 3, 1), (25, .iload_n 3, 1), (26, .aload_n 1, 1), (27, .getfield 235, 3), (30, .if_icmp .ge 23, 3), (33, .aload_n 1, 1), (34, .getfield 243, 3), (37, .iload_n 3, 1), (38, .ishr, 1), (39, .iconst 1, 1), (40, .iand, 1), (41, .iconst 1, 1), (42, .if_icmp .ne 5, 3), (45, .iload_n 3, 1), (46, .ireturn, 1), (47, .iinc 3 1, 3), (50, .goto (-25), 3), (53, .iinc 2 1, 3), (56, .goto (-49), 3), (59, .bipush (-4), 2), (61, .ireturn, 1)]
theorem ck97 : pe_ctx 97 8 false (some .int) 4 T97 := ⟨rfl, rfl, rfl, rfl, by decide +kernel, by decide, by decide⟩
theorem b97_0 {d : Nat} {Φ : Option pe_V → pe_H → Prop} {σ : pe_H} {a0 : Nat} {o1 : Option pe_V} {o2 : Option pe_V} {o3 : Option pe_V} (f_a0 : pk_Fs a0 σ := by assumption)   (k : pe_M d 122 [.inr (.inr a0)] σ (fun r σ' => pe_X d 97 (4, [some (.inr (.inr a0)), o1, o2, o3], r.toList ++ [], σ') Φ)) : pe_X d 97 (0, [some (.inr (.inr a0)), o1, o2, o3], [], σ) Φ := by
  refine pe_blk 0 1 ck97 [] (1, [some (.inr (.inr a0)), o1, o2, o3], [.inr (.inr a0)], σ) rfl ?_ ?_
  · exact trivial
  · try simp (disch := omega) only [pe_K_wI, pe_K_wR, pk_sK f_a0]
    have hrc : pe_K σ a0 = 8 := by first | assumption | (simp (disch := omega) only [pe_K_wI, pe_K_wR, pk_sK f_a0]; done) | (simp (disch := omega) only [pe_K_wI, pe_K_wR, pk_sK f_a0]; assumption)
    exact pe_cal 1 ck97 rfl rfl rfl ⟨hrc, by decide⟩ k
theorem b97_4 {d : Nat} {Φ : Option pe_V → pe_H → Prop} {σ : pe_H} {o0 : Option pe_V} {o1 : Option pe_V} {o2 : Option pe_V} {o3 : Option pe_V} {b0 : Nat} (f_b0 : pk_Fm b0 σ := by assumption)   (k : pe_X d 97 (7, [pe_nl o0, some (.inr (.inr b0)), some (.inl 0), o3], [], σ) Φ) : pe_X d 97 (4, [o0, o1, o2, o3], [.inr (.inr b0)], σ) Φ := by
  refine pe_blk 2 3 ck97 [] (7, [pe_nl o0, some (.inr (.inr b0)), some (.inl 0), o3], [], σ) rfl ?_ ?_
  · exact trivial
  · exact k
theorem b97_7 {d : Nat} {Φ : Option pe_V → pe_H → Prop} {σ : pe_H} {o0 : Option pe_V} {a1 : Nat} {x2 : Int} {o3 : Option pe_V} (f_a1 : pk_Fm a1 σ := by assumption) (w0 : pe_in x2 := by unfold pe_in; omega)  (k1 : 60 ≤ x2 → pe_X d 97 (59, [o0, some (.inr (.inr a1)), some (.inl x2), o3], [], σ) Φ) (k2 : ¬ (60 ≤ x2) → pe_X d 97 (13, [o0, some (.inr (.inr a1)), some (.inl x2), o3], [], σ) Φ) : pe_X d 97 (7, [o0, some (.inr (.inr a1)), some (.inl x2), o3], [], σ) Φ := by
  refine pe_blk 5 3 ck97 [] (cond (decide ((pe_w 60) ≤ (pe_w x2))) 59 13, [o0, some (.inr (.inr a1)), some (.inl x2), o3], [], σ) rfl ?_ ?_
  · exact trivial
  · try simp (disch := omega) only [pe_wi w0, pe_wi (x := 60) ⟨by decide, by decide⟩]
    exact pe_two k1 k2
theorem b97_13 {d : Nat} {Φ : Option pe_V → pe_H → Prop} {σ : pe_H} {o0 : Option pe_V} {a1 : Nat} {x2 : Int} {o3 : Option pe_V} (f_a1 : pk_Fm a1 σ := by assumption)   (k : pe_M d 28 [.inr (.inr a1)] (pe_wI σ a1 7 0) (fun r σ' => pe_X d 97 (22, [o0, some (.inr (.inr a1)), some (.inl x2), o3], r.toList ++ [], σ') Φ)) : pe_X d 97 (13, [o0, some (.inr (.inr a1)), some (.inl x2), o3], [], σ) Φ := by
  refine pe_blk 8 4 ck97 [pe_K σ a1 = 2] (19, [o0, some (.inr (.inr a1)), some (.inl x2), o3], [.inr (.inr a1)], pe_wI σ a1 7 0) rfl ?_ ?_
  · first
    | (simp (disch := omega) only [pe_all, pe_K_wI, pe_K_wR, pk_mK f_a1]; done)
    | (simp (disch := omega) only [pe_all, pe_K_wI, pe_K_wR, pk_mK f_a1]; (repeat' apply And.intro) <;> first | assumption | omega | decide)
  · try simp (disch := omega) only [pe_K_wI, pe_K_wR, pk_mK f_a1]
    have hrc : pe_K (pe_wI σ a1 7 0) a1 = 2 := by first | assumption | (simp (disch := omega) only [pe_K_wI, pe_K_wR, pk_mK f_a1]; done) | (simp (disch := omega) only [pe_K_wI, pe_K_wR, pk_mK f_a1]; assumption)
    exact pe_cal 12 ck97 rfl rfl rfl ⟨hrc, by decide⟩ k
theorem b97_22 {d : Nat} {Φ : Option pe_V → pe_H → Prop} {σ : pe_H} {o0 : Option pe_V} {a1 : Nat} {x2 : Int} {o3 : Option pe_V} {s0 : Int} (f_a1 : pk_Fm a1 σ := by assumption)   (k : pe_X d 97 (25, [o0, some (.inr (.inr a1)), some (.inl x2), some (.inl 0)], [], σ) Φ) : pe_X d 97 (22, [o0, some (.inr (.inr a1)), some (.inl x2), o3], [.inl s0], σ) Φ := by
  refine pe_blk 13 3 ck97 [] (25, [o0, some (.inr (.inr a1)), some (.inl x2), some (.inl 0)], [], σ) rfl ?_ ?_
  · exact trivial
  · exact k
theorem b97_25 {d : Nat} {Φ : Option pe_V → pe_H → Prop} {σ : pe_H} {o0 : Option pe_V} {a1 : Nat} {x2 : Int} {x3 : Int} (f_a1 : pk_Fm a1 σ := by assumption) (w0 : pe_in (pe_I σ a1 4) := by unfold pe_in; omega) (w1 : pe_in x3 := by unfold pe_in; omega)  (k1 : (pe_I σ a1 4) ≤ x3 → pe_X d 97 (53, [o0, some (.inr (.inr a1)), some (.inl x2), some (.inl x3)], [], σ) Φ) (k2 : ¬ ((pe_I σ a1 4) ≤ x3) → pe_X d 97 (33, [o0, some (.inr (.inr a1)), some (.inl x2), some (.inl x3)], [], σ) Φ) : pe_X d 97 (25, [o0, some (.inr (.inr a1)), some (.inl x2), some (.inl x3)], [], σ) Φ := by
  refine pe_blk 16 4 ck97 [pe_K σ a1 = 2] (cond (decide ((pe_w (pe_I σ a1 4)) ≤ (pe_w x3))) 53 33, [o0, some (.inr (.inr a1)), some (.inl x2), some (.inl x3)], [], σ) rfl ?_ ?_
  · first
    | (simp (disch := omega) only [pe_all, pe_wi w0, pe_wi w1, pe_K_wI, pe_K_wR, pk_mK f_a1]; done)
    | (simp (disch := omega) only [pe_all, pe_wi w0, pe_wi w1, pe_K_wI, pe_K_wR, pk_mK f_a1]; (repeat' apply And.intro) <;> first | assumption | omega | decide)
  · try simp (disch := omega) only [pe_wi w0, pe_wi w1, pe_K_wI, pe_K_wR, pk_mK f_a1]
    exact pe_two k1 k2
theorem b97_33 {d : Nat} {Φ : Option pe_V → pe_H → Prop} {σ : pe_H} {o0 : Option pe_V} {a1 : Nat} {x2 : Int} {x3 : Int} (f_a1 : pk_Fm a1 σ := by assumption) (w0 : pe_in (pe_and (pe_shr (pe_I σ a1 7) x3) 1) := by unfold pe_in; omega)  (k1 : ¬ (pe_and (pe_shr (pe_I σ a1 7) x3) 1) = 1 → pe_X d 97 (47, [o0, some (.inr (.inr a1)), some (.inl x2), some (.inl x3)], [], σ) Φ) (k2 : (pe_and (pe_shr (pe_I σ a1 7) x3) 1) = 1 → pe_X d 97 (45, [o0, some (.inr (.inr a1)), some (.inl x2), some (.inl x3)], [], σ) Φ) : pe_X d 97 (33, [o0, some (.inr (.inr a1)), some (.inl x2), some (.inl x3)], [], σ) Φ := by
  refine pe_blk 20 8 ck97 [pe_K σ a1 = 2] (cond (decide (¬ (pe_w (pe_and (pe_shr (pe_I σ a1 7) x3) 1)) = (pe_w 1))) 47 45, [o0, some (.inr (.inr a1)), some (.inl x2), some (.inl x3)], [], σ) rfl ?_ ?_
  · first
    | (simp (disch := omega) only [pe_all, pe_wi w0, pe_wi (x := 1) ⟨by decide, by decide⟩, pe_K_wI, pe_K_wR, pk_mK f_a1]; done)
    | (simp (disch := omega) only [pe_all, pe_wi w0, pe_wi (x := 1) ⟨by decide, by decide⟩, pe_K_wI, pe_K_wR, pk_mK f_a1]; (repeat' apply And.intro) <;> first | assumption | omega | decide)
  · try simp (disch := omega) only [pe_wi w0, pe_wi (x := 1) ⟨by decide, by decide⟩, pe_K_wI, pe_K_wR, pk_mK f_a1]
    exact pe_two' k1 k2
theorem b97_45 {d : Nat} {Φ : Option pe_V → pe_H → Prop} {σ : pe_H} {o0 : Option pe_V} {o1 : Option pe_V} {o2 : Option pe_V} {x3 : Int}    (k : Φ (some (.inl x3)) σ) : pe_X d 97 (45, [o0, o1, o2, some (.inl x3)], [], σ) Φ := by
  refine pe_blk 28 1 ck97 [] (46, [o0, o1, o2, some (.inl x3)], [.inl x3], σ) rfl ?_ ?_
  · exact trivial
  · exact pe_fine 29 ck97 rfl rfl rfl trivial k
theorem b97_47 {d : Nat} {Φ : Option pe_V → pe_H → Prop} {σ : pe_H} {o0 : Option pe_V} {a1 : Nat} {x2 : Int} {x3 : Int} (f_a1 : pk_Fm a1 σ := by assumption)   (k : pe_X d 97 (25, [o0, some (.inr (.inr a1)), some (.inl x2), some (.inl (x3 + 1))], [], σ) Φ) : pe_X d 97 (47, [o0, some (.inr (.inr a1)), some (.inl x2), some (.inl x3)], [], σ) Φ := by
  refine pe_blk 30 2 ck97 [] (25, [o0, some (.inr (.inr a1)), some (.inl x2), some (.inl (x3 + 1))], [], σ) rfl ?_ ?_
  · exact trivial
  · exact k
theorem b97_53 {d : Nat} {Φ : Option pe_V → pe_H → Prop} {σ : pe_H} {o0 : Option pe_V} {a1 : Nat} {x2 : Int} {o3 : Option pe_V} (f_a1 : pk_Fm a1 σ := by assumption)   (k : pe_X d 97 (7, [o0, some (.inr (.inr a1)), some (.inl (x2 + 1)), o3], [], σ) Φ) : pe_X d 97 (53, [o0, some (.inr (.inr a1)), some (.inl x2), o3], [], σ) Φ := by
  refine pe_blk 32 2 ck97 [] (7, [o0, some (.inr (.inr a1)), some (.inl (x2 + 1)), o3], [], σ) rfl ?_ ?_
  · exact trivial
  · exact k
theorem b97_59 {d : Nat} {Φ : Option pe_V → pe_H → Prop} {σ : pe_H} {o0 : Option pe_V} {o1 : Option pe_V} {o2 : Option pe_V} {o3 : Option pe_V}    (k : Φ (some (.inl (-4))) σ) : pe_X d 97 (59, [o0, o1, o2, o3], [], σ) Φ := by
  refine pe_blk 34 1 ck97 [] (61, [o0, o1, o2, o3], [.inl (-4)], σ) rfl ?_ ?_
  · exact trivial
  · exact pe_fine 35 ck97 rfl rfl rfl trivial k
-- StepMachines.whatProgram(I)I
def T98 : List (Nat × Instr × Nat) := [(0, .aload_n 0, 1), (1, .iload_n 1, 1), (2, .invokevirtual 50, 3), (5, .istore_n 2, 1), (6, .iload_n 2, 1), (7, .ifCond .eq 5, 3), (10, .iload_n 2, 1), (11, .ireturn, 1), (12, .aload_n 0, 1), (13, .getfield 10, 3), (16, .getfield 235, 3), (19, .bipush 8, 2), (21, .if_icmp .lt 6, 3), (24, .bipush (-2), 2), (26, .ireturn, 1), (27, .iconst 0, 1), (28, .istore_n 3, 1), (29, .iconst 0, 1), (30, .istore 4, 2), (32, .iload 4, 2), (34, .iconst 5, 1), (35, .if_icmp .ge 31, 3), (38, .aload_n 0, 1), (39, .iload 4, 2), (41, .aload_n 0, 1), (42, .getfield 31, 3), (45, .iload_n 1, 1), (46, .aaload, 1), (47, .invokevirtual 246, 3), (50, .ifCond .eq 10, 3), (53, .iload_n 3, 1), (54, .iconst 1, 1), (55, .iload 4, 2), (57, .ishl, 1), (58, .ior, 1), (59, .istore_n 3, 1), (60, .iinc 4 1, 3), (63, .goto (-31), 3), (66, .iload_n 3, 1), (67, .ireturn, 1)]
theorem ck98 : pe_ctx 98 8 false (some .int) 5 T98 := ⟨rfl, rfl, rfl, rfl, by decide +kernel, by decide, by decide⟩
theorem b98_0 {d : Nat} {Φ : Option pe_V → pe_H → Prop} {σ : pe_H} {a0 : Nat} {x1 : Int} {o2 : Option pe_V} {o3 : Option pe_V} {o4 : Option pe_V} (f_a0 : pk_Fs a0 σ := by assumption)   (k : pe_M d 119 [.inr (.inr a0), .inl x1] σ (fun r σ' => pe_X d 98 (5, [some (.inr (.inr a0)), some (.inl x1), o2, o3, o4], r.toList ++ [], σ') Φ)) : pe_X d 98 (0, [some (.inr (.inr a0)), some (.inl x1), o2, o3, o4], [], σ) Φ := by
  refine pe_blk 0 2 ck98 [] (2, [some (.inr (.inr a0)), some (.inl x1), o2, o3, o4], [.inl x1, .inr (.inr a0)], σ) rfl ?_ ?_
  · exact trivial
  · try simp (disch := omega) only [pe_K_wI, pe_K_wR, pk_sK f_a0]
    have hrc : pe_K σ a0 = 8 := by first | assumption | (simp (disch := omega) only [pe_K_wI, pe_K_wR, pk_sK f_a0]; done) | (simp (disch := omega) only [pe_K_wI, pe_K_wR, pk_sK f_a0]; assumption)
    exact pe_cal 2 ck98 rfl rfl rfl ⟨hrc, by decide⟩ k
theorem b98_5 {d : Nat} {Φ : Option pe_V → pe_H → Prop} {σ : pe_H} {a0 : Nat} {x1 : Int} {o2 : Option pe_V} {o3 : Option pe_V} {o4 : Option pe_V} {s0 : Int} (f_a0 : pk_Fs a0 σ := by assumption) (w0 : pe_in s0 := by unfold pe_in; omega)  (k1 : s0 = 0 → pe_X d 98 (12, [some (.inr (.inr a0)), some (.inl x1), some (.inl s0), o3, o4], [], σ) Φ) (k2 : ¬ (s0 = 0) → pe_X d 98 (10, [some (.inr (.inr a0)), some (.inl x1), some (.inl s0), o3, o4], [], σ) Φ) : pe_X d 98 (5, [some (.inr (.inr a0)), some (.inl x1), o2, o3, o4], [.inl s0], σ) Φ := by
  refine pe_blk 3 3 ck98 [] (cond (decide ((pe_w s0) = 0)) 12 10, [some (.inr (.inr a0)), some (.inl x1), some (.inl s0), o3, o4], [], σ) rfl ?_ ?_
  · exact trivial
  · try simp (disch := omega) only [pe_wi w0]
    exact pe_two k1 k2
theorem b98_10 {d : Nat} {Φ : Option pe_V → pe_H → Prop} {σ : pe_H} {o0 : Option pe_V} {o1 : Option pe_V} {x2 : Int} {o3 : Option pe_V} {o4 : Option pe_V}    (k : Φ (some (.inl x2)) σ) : pe_X d 98 (10, [o0, o1, some (.inl x2), o3, o4], [], σ) Φ := by
  refine pe_blk 6 1 ck98 [] (11, [o0, o1, some (.inl x2), o3, o4], [.inl x2], σ) rfl ?_ ?_
  · exact trivial
  · exact pe_fine 7 ck98 rfl rfl rfl trivial k
theorem b98_12 {d : Nat} {Φ : Option pe_V → pe_H → Prop} {σ : pe_H} {a0 : Nat} {x1 : Int} {o2 : Option pe_V} {o3 : Option pe_V} {o4 : Option pe_V} (f_a0 : pk_Fs a0 σ := by assumption) (w0 : pe_in (pe_I σ (a0 + 1) 4) := by unfold pe_in; omega)  (k1 : (pe_I σ (a0 + 1) 4) < 8 → pe_X d 98 (27, [some (.inr (.inr a0)), some (.inl x1), o2, o3, o4], [], σ) Φ) (k2 : ¬ ((pe_I σ (a0 + 1) 4) < 8) → pe_X d 98 (24, [some (.inr (.inr a0)), some (.inl x1), o2, o3, o4], [], σ) Φ) : pe_X d 98 (12, [some (.inr (.inr a0)), some (.inl x1), o2, o3, o4], [], σ) Φ := by
  refine pe_blk 8 5 ck98 [pe_K σ a0 = 8, pe_K σ (pe_R σ a0 0) = 2] (cond (decide ((pe_w (pe_I σ (pe_R σ a0 0) 4)) < (pe_w 8))) 27 24, [some (.inr (.inr a0)), some (.inl x1), o2, o3, o4], [], σ) rfl ?_ ?_
  · first
    | (simp (disch := omega) only [pe_all, pe_wi w0, pe_wi (x := 8) ⟨by decide, by decide⟩, pe_K_wI, pe_K_wR, pe_R_nej, pe_R_ner, pe_R_wI, pk_mK (pk_sM0 f_a0), pk_sK f_a0, pk_sR0 f_a0]; done)
    | (simp (disch := omega) only [pe_all, pe_wi w0, pe_wi (x := 8) ⟨by decide, by decide⟩, pe_K_wI, pe_K_wR, pe_R_nej, pe_R_ner, pe_R_wI, pk_mK (pk_sM0 f_a0), pk_sK f_a0, pk_sR0 f_a0]; (repeat' apply And.intro) <;> first | assumption | omega | decide)
  · try simp (disch := omega) only [pe_wi w0, pe_wi (x := 8) ⟨by decide, by decide⟩, pe_K_wI, pe_K_wR, pe_R_nej, pe_R_ner, pe_R_wI, pk_mK (pk_sM0 f_a0), pk_sK f_a0, pk_sR0 f_a0]
    exact pe_two k1 k2
theorem b98_24 {d : Nat} {Φ : Option pe_V → pe_H → Prop} {σ : pe_H} {o0 : Option pe_V} {o1 : Option pe_V} {o2 : Option pe_V} {o3 : Option pe_V} {o4 : Option pe_V}    (k : Φ (some (.inl (-2))) σ) : pe_X d 98 (24, [o0, o1, o2, o3, o4], [], σ) Φ := by
  refine pe_blk 13 1 ck98 [] (26, [o0, o1, o2, o3, o4], [.inl (-2)], σ) rfl ?_ ?_
  · exact trivial
  · exact pe_fine 14 ck98 rfl rfl rfl trivial k
theorem b98_27 {d : Nat} {Φ : Option pe_V → pe_H → Prop} {σ : pe_H} {a0 : Nat} {x1 : Int} {o2 : Option pe_V} {o3 : Option pe_V} {o4 : Option pe_V} (f_a0 : pk_Fs a0 σ := by assumption)   (k : pe_X d 98 (32, [some (.inr (.inr a0)), some (.inl x1), pe_nl o2, some (.inl 0), some (.inl 0)], [], σ) Φ) : pe_X d 98 (27, [some (.inr (.inr a0)), some (.inl x1), o2, o3, o4], [], σ) Φ := by
  refine pe_blk 15 4 ck98 [] (32, [some (.inr (.inr a0)), some (.inl x1), pe_nl o2, some (.inl 0), some (.inl 0)], [], σ) rfl ?_ ?_
  · exact trivial
  · exact k
theorem b98_32 {d : Nat} {Φ : Option pe_V → pe_H → Prop} {σ : pe_H} {a0 : Nat} {x1 : Int} {o2 : Option pe_V} {x3 : Int} {x4 : Int} (f_a0 : pk_Fs a0 σ := by assumption) (w0 : pe_in x4 := by unfold pe_in; omega)  (k1 : 5 ≤ x4 → pe_X d 98 (66, [some (.inr (.inr a0)), some (.inl x1), o2, some (.inl x3), some (.inl x4)], [], σ) Φ) (k2 : ¬ (5 ≤ x4) → pe_X d 98 (38, [some (.inr (.inr a0)), some (.inl x1), o2, some (.inl x3), some (.inl x4)], [], σ) Φ) : pe_X d 98 (32, [some (.inr (.inr a0)), some (.inl x1), o2, some (.inl x3), some (.inl x4)], [], σ) Φ := by
  refine pe_blk 19 3 ck98 [] (cond (decide ((pe_w 5) ≤ (pe_w x4))) 66 38, [some (.inr (.inr a0)), some (.inl x1), o2, some (.inl x3), some (.inl x4)], [], σ) rfl ?_ ?_
  · exact trivial
  · try simp (disch := omega) only [pe_wi w0, pe_wi (x := 5) ⟨by decide, by decide⟩]
    exact pe_two k1 k2
theorem b98_38 {d : Nat} {Φ : Option pe_V → pe_H → Prop} {σ : pe_H} {a0 : Nat} {x1 : Int} {o2 : Option pe_V} {x3 : Int} {x4 : Int} (f_a0 : pk_Fs a0 σ := by assumption) (w0 : pe_in x1 := by unfold pe_in; omega) (h0 : 0 ≤ x1 := by first | assumption | omega) (h1 : x1 < 8 := by first | assumption | omega) (k : pe_M d 124 [.inr (.inr a0), .inl x4, .inr (.inr (pe_R σ (a0 + 177) x1))] σ (fun r σ' => pe_X d 98 (50, [some (.inr (.inr a0)), some (.inl x1), o2, some (.inl x3), some (.inl x4)], r.toList ++ [], σ') Φ)) : pe_X d 98 (38, [some (.inr (.inr a0)), some (.inl x1), o2, some (.inl x3), some (.inl x4)], [], σ) Φ := by
  refine pe_blk 22 6 ck98 [pe_K σ a0 = 8, 12 ≤ pe_K σ (pe_R σ a0 4) ∧ pe_K σ (pe_R σ a0 4) < 19, 0 ≤ (pe_w x1), (pe_w x1) < pe_L σ (pe_R σ a0 4)] (47, [some (.inr (.inr a0)), some (.inl x1), o2, some (.inl x3), some (.inl x4)], [.inr (.inr (pe_R σ (pe_R σ a0 4) (pe_w x1))), .inl x4, .inr (.inr a0)], σ) rfl ?_ ?_
  · first
    | (simp (disch := omega) only [pe_all, pe_wi w0, pe_K_wI, pe_K_wR, pe_L_wI, pe_L_wR, pe_R_nej, pe_R_ner, pe_R_wI, pk_sK f_a0, pk_sK4 f_a0, pk_sL4 f_a0, pk_sR4 f_a0]; done)
    | (simp (disch := omega) only [pe_all, pe_wi w0, pe_K_wI, pe_K_wR, pe_L_wI, pe_L_wR, pe_R_nej, pe_R_ner, pe_R_wI, pk_sK f_a0, pk_sK4 f_a0, pk_sL4 f_a0, pk_sR4 f_a0]; (repeat' apply And.intro) <;> first | assumption | omega | decide)
  · try simp (disch := omega) only [pe_wi w0, pe_K_wI, pe_K_wR, pe_L_wI, pe_L_wR, pe_R_nej, pe_R_ner, pe_R_wI, pk_sK f_a0, pk_sK4 f_a0, pk_sL4 f_a0, pk_sR4 f_a0]
    have hrc : pe_K σ a0 = 8 := by first | assumption | (simp (disch := omega) only [pe_wi w0, pe_K_wI, pe_K_wR, pe_L_wI, pe_L_wR, pe_R_nej, pe_R_ner, pe_R_wI, pk_sK f_a0, pk_sK4 f_a0, pk_sL4 f_a0, pk_sR4 f_a0]; done) | (simp (disch := omega) only [pe_wi w0, pe_K_wI, pe_K_wR, pe_L_wI, pe_L_wR, pe_R_nej, pe_R_ner, pe_R_wI, pk_sK f_a0, pk_sK4 f_a0, pk_sL4 f_a0, pk_sR4 f_a0]; assumption)
    exact pe_cal 28 ck98 rfl rfl rfl ⟨hrc, by decide⟩ k
theorem b98_50 {d : Nat} {Φ : Option pe_V → pe_H → Prop} {σ : pe_H} {a0 : Nat} {x1 : Int} {o2 : Option pe_V} {x3 : Int} {x4 : Int} {s0 : Int} (f_a0 : pk_Fs a0 σ := by assumption) (w0 : pe_in s0 := by unfold pe_in; omega)  (k1 : s0 = 0 → pe_X d 98 (60, [some (.inr (.inr a0)), some (.inl x1), o2, some (.inl x3), some (.inl x4)], [], σ) Φ) (k2 : ¬ (s0 = 0) → pe_X d 98 (53, [some (.inr (.inr a0)), some (.inl x1), o2, some (.inl x3), some (.inl x4)], [], σ) Φ) : pe_X d 98 (50, [some (.inr (.inr a0)), some (.inl x1), o2, some (.inl x3), some (.inl x4)], [.inl s0], σ) Φ := by
  refine pe_blk 29 1 ck98 [] (cond (decide ((pe_w s0) = 0)) 60 53, [some (.inr (.inr a0)), some (.inl x1), o2, some (.inl x3), some (.inl x4)], [], σ) rfl ?_ ?_
  · exact trivial
  · try simp (disch := omega) only [pe_wi w0]
    exact pe_two k1 k2
theorem b98_53 {d : Nat} {Φ : Option pe_V → pe_H → Prop} {σ : pe_H} {a0 : Nat} {x1 : Int} {o2 : Option pe_V} {x3 : Int} {x4 : Int} (f_a0 : pk_Fs a0 σ := by assumption)   (k : pe_X d 98 (60, [some (.inr (.inr a0)), some (.inl x1), pe_nl o2, some (.inl (pe_or x3 (pe_shl 1 x4))), some (.inl x4)], [], σ) Φ) : pe_X d 98 (53, [some (.inr (.inr a0)), some (.inl x1), o2, some (.inl x3), some (.inl x4)], [], σ) Φ := by
  refine pe_blk 30 6 ck98 [] (60, [some (.inr (.inr a0)), some (.inl x1), pe_nl o2, some (.inl (pe_or x3 (pe_shl 1 x4))), some (.inl x4)], [], σ) rfl ?_ ?_
  · exact trivial
  · exact k
theorem b98_60 {d : Nat} {Φ : Option pe_V → pe_H → Prop} {σ : pe_H} {a0 : Nat} {x1 : Int} {o2 : Option pe_V} {x3 : Int} {x4 : Int} (f_a0 : pk_Fs a0 σ := by assumption)   (k : pe_X d 98 (32, [some (.inr (.inr a0)), some (.inl x1), o2, some (.inl x3), some (.inl (x4 + 1))], [], σ) Φ) : pe_X d 98 (60, [some (.inr (.inr a0)), some (.inl x1), o2, some (.inl x3), some (.inl x4)], [], σ) Φ := by
  refine pe_blk 36 2 ck98 [] (32, [some (.inr (.inr a0)), some (.inl x1), o2, some (.inl x3), some (.inl (x4 + 1))], [], σ) rfl ?_ ?_
  · exact trivial
  · exact k
theorem b98_66 {d : Nat} {Φ : Option pe_V → pe_H → Prop} {σ : pe_H} {o0 : Option pe_V} {o1 : Option pe_V} {o2 : Option pe_V} {x3 : Int} {o4 : Option pe_V}    (k : Φ (some (.inl x3)) σ) : pe_X d 98 (66, [o0, o1, o2, some (.inl x3), o4], [], σ) Φ := by
  refine pe_blk 38 1 ck98 [] (67, [o0, o1, o2, some (.inl x3), o4], [.inl x3], σ) rfl ?_ ?_
  · exact trivial
  · exact pe_fine 39 ck98 rfl rfl rfl trivial k
-- StepMachines.alike(III)I
def T99 : List (Nat × Instr × Nat) := [(0, .iload_n 1, 1), (1, .invokestatic 81, 3), (4, .ifCond .eq 25, 3), (7, .iload_n 2, 1), (8, .invokestatic 81, 3), (11, .ifCond .eq 18, 3), (14, .iload_n 1, 1), (15, .iload_n 2, 1), (16, .if_icmp .eq 13, 3), (19, .iload_n 3, 1), (20, .ifCond .lt 9, 3), (23, .iload_n 3, 1), (24, .bipush 20, 2), (26, .if_icmp .le 5, 3), (29, .iconst (-1), 1), (30, .ireturn, 1), (31, .aload_n 0, 1), (32, .getfield 10, 3), (35, .getfield 235, 3), (38, .bipush 8, 2), (40, .if_icmp .lt 6, 3), (43, .bipush (-2), 2), (45, .ireturn, 1), (46, .aload_n 0, 1), (47, .invokevirtual 66, 3), (50, .astore 4, 2), (52, .aload_n 0, 1), (53, .getfield 19, 3), (56, .iconst 1, 1), (57, .aaload, 1), (58, .astore 5, 2), (60, .aload 5, 2), (62, .aload_n 0, 1), (63, .getfield 10, 3), (66, .invokevirtual 77, 3), (69, .aload 4, 2), (71, .iload_n 1, 1), (72, .aload_n 0, 1), (73, .getfield 38, 3), (76, .invokevirtual 103, 3), (79, .istore 6, 2), (81, .aload 5, 2), (83, .iload_n 2, 1), (84, .aload_n 0, 1), (85, .getfield 38, 3), (88, .invokevirtual 103, 3), (91, .pop, 1), (92, .aload 4, 2), (94, .getfield 110, 3), (97, .iload 6, 2), (99, .aaload, 1), (100, .astore 7, 2), (102, .aload 5, 2), (104, .getfield 110, 3), (107, .iload 6, 2), (109, .aaload, 1), (110, .astore 8, 2), (112, .iconst 0, 1), (113, .istore 9, 2), (115, .iload 9, 2), (117, .iload_n 3, 1), (118, .if_icmp .ge 69, 3), (121, .aload 7, 2), (123, .invokevirtual 189, 3), (126, .ifCond .eq 61, 3), (129, .aload 8, 2), (131, .invokevirtual 189, 3), (134, .ifCond .eq 53, 3), (137, .aload 4, 2), (139, .iload 6, 2), (141, .iconst 0, 1), (142, .invokevirtual 193, 3), (145, .aload 5, 2), (147, .iload 6, 2), (149, .iconst 0, 1), (150, .invokevirtual 193, 3), (153, .aload 7, 2), (155, .getfield 196, 3), (158, .aload 8, 2), (160, .getfield 196, 3), (163, .if_icmp .ne 16, 3), (166, .aload 7, 2), (168, .getfield 240, 3), (171, .aload 8, 2), (173, .getfield 240, 3), (176, .if_icmp .eq 5, 3), (179, .iconst 0, 1), (180, .ireturn, 1), (181, .iinc 9 1, 3), (184, .goto (-69), 3), (187, .iconst 1, 1), (188, .ireturn, 1)]
theorem ck99 : pe_ctx 99 8 false (some .int) 10 T99 := ⟨rfl, rfl, rfl, rfl, by decide +kernel, by decide, by decide⟩
theorem b99_0 {d : Nat} {Φ : Option pe_V → pe_H → Prop} {σ : pe_H} {a0 : Nat} {x1 : Int} {x2 : Int} {x3 : Int} {o4 : Option pe_V} {o5 : Option pe_V} {o6 : Option pe_V} {o7 : Option pe_V} {o8 : Option pe_V} {o9 : Option pe_V} (f_a0 : pk_Fs a0 σ := by assumption)   (k : pe_M d 116 [.inl x1] σ (fun r σ' => pe_X d 99 (4, [some (.inr (.inr a0)), some (.inl x1), some (.inl x2), some (.inl x3), o4, o5, o6, o7, o8, o9], r.toList ++ [], σ') Φ)) : pe_X d 99 (0, [some (.inr (.inr a0)), some (.inl x1), some (.inl x2), some (.inl x3), o4, o5, o6, o7, o8, o9], [], σ) Φ := by
  refine pe_blk 0 1 ck99 [] (1, [some (.inr (.inr a0)), some (.inl x1), some (.inl x2), some (.inl x3), o4, o5, o6, o7, o8, o9], [.inl x1], σ) rfl ?_ ?_
  · exact trivial
  · exact pe_cal 1 ck99 rfl rfl rfl trivial k
theorem b99_4 {d : Nat} {Φ : Option pe_V → pe_H → Prop} {σ : pe_H} {a0 : Nat} {x1 : Int} {x2 : Int} {x3 : Int} {o4 : Option pe_V} {o5 : Option pe_V} {o6 : Option pe_V} {o7 : Option pe_V} {o8 : Option pe_V} {o9 : Option pe_V} {s0 : Int} (f_a0 : pk_Fs a0 σ := by assumption) (w0 : pe_in s0 := by unfold pe_in; omega)  (k1 : s0 = 0 → pe_X d 99 (29, [some (.inr (.inr a0)), some (.inl x1), some (.inl x2), some (.inl x3), o4, o5, o6, o7, o8, o9], [], σ) Φ) (k2 : ¬ (s0 = 0) → pe_X d 99 (7, [some (.inr (.inr a0)), some (.inl x1), some (.inl x2), some (.inl x3), o4, o5, o6, o7, o8, o9], [], σ) Φ) : pe_X d 99 (4, [some (.inr (.inr a0)), some (.inl x1), some (.inl x2), some (.inl x3), o4, o5, o6, o7, o8, o9], [.inl s0], σ) Φ := by
  refine pe_blk 2 1 ck99 [] (cond (decide ((pe_w s0) = 0)) 29 7, [some (.inr (.inr a0)), some (.inl x1), some (.inl x2), some (.inl x3), o4, o5, o6, o7, o8, o9], [], σ) rfl ?_ ?_
  · exact trivial
  · try simp (disch := omega) only [pe_wi w0]
    exact pe_two k1 k2
theorem b99_7 {d : Nat} {Φ : Option pe_V → pe_H → Prop} {σ : pe_H} {a0 : Nat} {x1 : Int} {x2 : Int} {x3 : Int} {o4 : Option pe_V} {o5 : Option pe_V} {o6 : Option pe_V} {o7 : Option pe_V} {o8 : Option pe_V} {o9 : Option pe_V} (f_a0 : pk_Fs a0 σ := by assumption)   (k : pe_M d 116 [.inl x2] σ (fun r σ' => pe_X d 99 (11, [some (.inr (.inr a0)), some (.inl x1), some (.inl x2), some (.inl x3), o4, o5, o6, o7, o8, o9], r.toList ++ [], σ') Φ)) : pe_X d 99 (7, [some (.inr (.inr a0)), some (.inl x1), some (.inl x2), some (.inl x3), o4, o5, o6, o7, o8, o9], [], σ) Φ := by
  refine pe_blk 3 1 ck99 [] (8, [some (.inr (.inr a0)), some (.inl x1), some (.inl x2), some (.inl x3), o4, o5, o6, o7, o8, o9], [.inl x2], σ) rfl ?_ ?_
  · exact trivial
  · exact pe_cal 4 ck99 rfl rfl rfl trivial k
theorem b99_11 {d : Nat} {Φ : Option pe_V → pe_H → Prop} {σ : pe_H} {a0 : Nat} {x1 : Int} {x2 : Int} {x3 : Int} {o4 : Option pe_V} {o5 : Option pe_V} {o6 : Option pe_V} {o7 : Option pe_V} {o8 : Option pe_V} {o9 : Option pe_V} {s0 : Int} (f_a0 : pk_Fs a0 σ := by assumption) (w0 : pe_in s0 := by unfold pe_in; omega)  (k1 : s0 = 0 → pe_X d 99 (29, [some (.inr (.inr a0)), some (.inl x1), some (.inl x2), some (.inl x3), o4, o5, o6, o7, o8, o9], [], σ) Φ) (k2 : ¬ (s0 = 0) → pe_X d 99 (14, [some (.inr (.inr a0)), some (.inl x1), some (.inl x2), some (.inl x3), o4, o5, o6, o7, o8, o9], [], σ) Φ) : pe_X d 99 (11, [some (.inr (.inr a0)), some (.inl x1), some (.inl x2), some (.inl x3), o4, o5, o6, o7, o8, o9], [.inl s0], σ) Φ := by
  refine pe_blk 5 1 ck99 [] (cond (decide ((pe_w s0) = 0)) 29 14, [some (.inr (.inr a0)), some (.inl x1), some (.inl x2), some (.inl x3), o4, o5, o6, o7, o8, o9], [], σ) rfl ?_ ?_
  · exact trivial
  · try simp (disch := omega) only [pe_wi w0]
    exact pe_two k1 k2
theorem b99_14 {d : Nat} {Φ : Option pe_V → pe_H → Prop} {σ : pe_H} {a0 : Nat} {x1 : Int} {x2 : Int} {x3 : Int} {o4 : Option pe_V} {o5 : Option pe_V} {o6 : Option pe_V} {o7 : Option pe_V} {o8 : Option pe_V} {o9 : Option pe_V} (f_a0 : pk_Fs a0 σ := by assumption) (w0 : pe_in x2 := by unfold pe_in; omega) (w1 : pe_in x1 := by unfold pe_in; omega)  (k1 : x1 = x2 → pe_X d 99 (29, [some (.inr (.inr a0)), some (.inl x1), some (.inl x2), some (.inl x3), o4, o5, o6, o7, o8, o9], [], σ) Φ) (k2 : ¬ (x1 = x2) → pe_X d 99 (19, [some (.inr (.inr a0)), some (.inl x1), some (.inl x2), some (.inl x3), o4, o5, o6, o7, o8, o9], [], σ) Φ) : pe_X d 99 (14, [some (.inr (.inr a0)), some (.inl x1), some (.inl x2), some (.inl x3), o4, o5, o6, o7, o8, o9], [], σ) Φ := by
  refine pe_blk 6 3 ck99 [] (cond (decide ((pe_w x1) = (pe_w x2))) 29 19, [some (.inr (.inr a0)), some (.inl x1), some (.inl x2), some (.inl x3), o4, o5, o6, o7, o8, o9], [], σ) rfl ?_ ?_
  · exact trivial
  · try simp (disch := omega) only [pe_wi w0, pe_wi w1]
    exact pe_two k1 k2
theorem b99_19 {d : Nat} {Φ : Option pe_V → pe_H → Prop} {σ : pe_H} {a0 : Nat} {x1 : Int} {x2 : Int} {x3 : Int} {o4 : Option pe_V} {o5 : Option pe_V} {o6 : Option pe_V} {o7 : Option pe_V} {o8 : Option pe_V} {o9 : Option pe_V} (f_a0 : pk_Fs a0 σ := by assumption) (w0 : pe_in x3 := by unfold pe_in; omega)  (k1 : x3 < 0 → pe_X d 99 (29, [some (.inr (.inr a0)), some (.inl x1), some (.inl x2), some (.inl x3), o4, o5, o6, o7, o8, o9], [], σ) Φ) (k2 : ¬ (x3 < 0) → pe_X d 99 (23, [some (.inr (.inr a0)), some (.inl x1), some (.inl x2), some (.inl x3), o4, o5, o6, o7, o8, o9], [], σ) Φ) : pe_X d 99 (19, [some (.inr (.inr a0)), some (.inl x1), some (.inl x2), some (.inl x3), o4, o5, o6, o7, o8, o9], [], σ) Φ := by
  refine pe_blk 9 2 ck99 [] (cond (decide ((pe_w x3) < 0)) 29 23, [some (.inr (.inr a0)), some (.inl x1), some (.inl x2), some (.inl x3), o4, o5, o6, o7, o8, o9], [], σ) rfl ?_ ?_
  · exact trivial
  · try simp (disch := omega) only [pe_wi w0]
    exact pe_two k1 k2
theorem b99_23 {d : Nat} {Φ : Option pe_V → pe_H → Prop} {σ : pe_H} {a0 : Nat} {x1 : Int} {x2 : Int} {x3 : Int} {o4 : Option pe_V} {o5 : Option pe_V} {o6 : Option pe_V} {o7 : Option pe_V} {o8 : Option pe_V} {o9 : Option pe_V} (f_a0 : pk_Fs a0 σ := by assumption) (w0 : pe_in x3 := by unfold pe_in; omega)  (k1 : x3 ≤ 20 → pe_X d 99 (31, [some (.inr (.inr a0)), some (.inl x1), some (.inl x2), some (.inl x3), o4, o5, o6, o7, o8, o9], [], σ) Φ) (k2 : ¬ (x3 ≤ 20) → pe_X d 99 (29, [some (.inr (.inr a0)), some (.inl x1), some (.inl x2), some (.inl x3), o4, o5, o6, o7, o8, o9], [], σ) Φ) : pe_X d 99 (23, [some (.inr (.inr a0)), some (.inl x1), some (.inl x2), some (.inl x3), o4, o5, o6, o7, o8, o9], [], σ) Φ := by
  refine pe_blk 11 3 ck99 [] (cond (decide ((pe_w x3) ≤ (pe_w 20))) 31 29, [some (.inr (.inr a0)), some (.inl x1), some (.inl x2), some (.inl x3), o4, o5, o6, o7, o8, o9], [], σ) rfl ?_ ?_
  · exact trivial
  · try simp (disch := omega) only [pe_wi w0, pe_wi (x := 20) ⟨by decide, by decide⟩]
    exact pe_two k1 k2
theorem b99_29 {d : Nat} {Φ : Option pe_V → pe_H → Prop} {σ : pe_H} {o0 : Option pe_V} {o1 : Option pe_V} {o2 : Option pe_V} {o3 : Option pe_V} {o4 : Option pe_V} {o5 : Option pe_V} {o6 : Option pe_V} {o7 : Option pe_V} {o8 : Option pe_V} {o9 : Option pe_V}    (k : Φ (some (.inl (-1))) σ) : pe_X d 99 (29, [o0, o1, o2, o3, o4, o5, o6, o7, o8, o9], [], σ) Φ := by
  refine pe_blk 14 1 ck99 [] (30, [o0, o1, o2, o3, o4, o5, o6, o7, o8, o9], [.inl (-1)], σ) rfl ?_ ?_
  · exact trivial
  · exact pe_fine 15 ck99 rfl rfl rfl trivial k
theorem b99_31 {d : Nat} {Φ : Option pe_V → pe_H → Prop} {σ : pe_H} {a0 : Nat} {x1 : Int} {x2 : Int} {x3 : Int} {o4 : Option pe_V} {o5 : Option pe_V} {o6 : Option pe_V} {o7 : Option pe_V} {o8 : Option pe_V} {o9 : Option pe_V} (f_a0 : pk_Fs a0 σ := by assumption) (w0 : pe_in (pe_I σ (a0 + 1) 4) := by unfold pe_in; omega)  (k1 : (pe_I σ (a0 + 1) 4) < 8 → pe_X d 99 (46, [some (.inr (.inr a0)), some (.inl x1), some (.inl x2), some (.inl x3), o4, o5, o6, o7, o8, o9], [], σ) Φ) (k2 : ¬ ((pe_I σ (a0 + 1) 4) < 8) → pe_X d 99 (43, [some (.inr (.inr a0)), some (.inl x1), some (.inl x2), some (.inl x3), o4, o5, o6, o7, o8, o9], [], σ) Φ) : pe_X d 99 (31, [some (.inr (.inr a0)), some (.inl x1), some (.inl x2), some (.inl x3), o4, o5, o6, o7, o8, o9], [], σ) Φ := by
  refine pe_blk 16 5 ck99 [pe_K σ a0 = 8, pe_K σ (pe_R σ a0 0) = 2] (cond (decide ((pe_w (pe_I σ (pe_R σ a0 0) 4)) < (pe_w 8))) 46 43, [some (.inr (.inr a0)), some (.inl x1), some (.inl x2), some (.inl x3), o4, o5, o6, o7, o8, o9], [], σ) rfl ?_ ?_
  · first
    | (simp (disch := omega) only [pe_all, pe_wi w0, pe_wi (x := 8) ⟨by decide, by decide⟩, pe_K_wI, pe_K_wR, pe_R_nej, pe_R_ner, pe_R_wI, pk_mK (pk_sM0 f_a0), pk_sK f_a0, pk_sR0 f_a0]; done)
    | (simp (disch := omega) only [pe_all, pe_wi w0, pe_wi (x := 8) ⟨by decide, by decide⟩, pe_K_wI, pe_K_wR, pe_R_nej, pe_R_ner, pe_R_wI, pk_mK (pk_sM0 f_a0), pk_sK f_a0, pk_sR0 f_a0]; (repeat' apply And.intro) <;> first | assumption | omega | decide)
  · try simp (disch := omega) only [pe_wi w0, pe_wi (x := 8) ⟨by decide, by decide⟩, pe_K_wI, pe_K_wR, pe_R_nej, pe_R_ner, pe_R_wI, pk_mK (pk_sM0 f_a0), pk_sK f_a0, pk_sR0 f_a0]
    exact pe_two k1 k2
theorem b99_43 {d : Nat} {Φ : Option pe_V → pe_H → Prop} {σ : pe_H} {o0 : Option pe_V} {o1 : Option pe_V} {o2 : Option pe_V} {o3 : Option pe_V} {o4 : Option pe_V} {o5 : Option pe_V} {o6 : Option pe_V} {o7 : Option pe_V} {o8 : Option pe_V} {o9 : Option pe_V}    (k : Φ (some (.inl (-2))) σ) : pe_X d 99 (43, [o0, o1, o2, o3, o4, o5, o6, o7, o8, o9], [], σ) Φ := by
  refine pe_blk 21 1 ck99 [] (45, [o0, o1, o2, o3, o4, o5, o6, o7, o8, o9], [.inl (-2)], σ) rfl ?_ ?_
  · exact trivial
  · exact pe_fine 22 ck99 rfl rfl rfl trivial k
theorem b99_46 {d : Nat} {Φ : Option pe_V → pe_H → Prop} {σ : pe_H} {a0 : Nat} {x1 : Int} {x2 : Int} {x3 : Int} {o4 : Option pe_V} {o5 : Option pe_V} {o6 : Option pe_V} {o7 : Option pe_V} {o8 : Option pe_V} {o9 : Option pe_V} (f_a0 : pk_Fs a0 σ := by assumption)   (k : pe_M d 122 [.inr (.inr a0)] σ (fun r σ' => pe_X d 99 (50, [some (.inr (.inr a0)), some (.inl x1), some (.inl x2), some (.inl x3), o4, o5, o6, o7, o8, o9], r.toList ++ [], σ') Φ)) : pe_X d 99 (46, [some (.inr (.inr a0)), some (.inl x1), some (.inl x2), some (.inl x3), o4, o5, o6, o7, o8, o9], [], σ) Φ := by
  refine pe_blk 23 1 ck99 [] (47, [some (.inr (.inr a0)), some (.inl x1), some (.inl x2), some (.inl x3), o4, o5, o6, o7, o8, o9], [.inr (.inr a0)], σ) rfl ?_ ?_
  · exact trivial
  · try simp (disch := omega) only [pe_K_wI, pe_K_wR, pk_sK f_a0]
    have hrc : pe_K σ a0 = 8 := by first | assumption | (simp (disch := omega) only [pe_K_wI, pe_K_wR, pk_sK f_a0]; done) | (simp (disch := omega) only [pe_K_wI, pe_K_wR, pk_sK f_a0]; assumption)
    exact pe_cal 24 ck99 rfl rfl rfl ⟨hrc, by decide⟩ k
theorem b99_50 {d : Nat} {Φ : Option pe_V → pe_H → Prop} {σ : pe_H} {a0 : Nat} {x1 : Int} {x2 : Int} {x3 : Int} {o4 : Option pe_V} {o5 : Option pe_V} {o6 : Option pe_V} {o7 : Option pe_V} {o8 : Option pe_V} {o9 : Option pe_V} {b0 : Nat} (f_a0 : pk_Fs a0 σ := by assumption) (f_b0 : pk_Fm b0 σ := by assumption)   (k : pe_M d 15 [.inr (.inr (pk_m a0 1)), .inr (.inr (a0 + 1))] σ (fun r σ' => pe_X d 99 (69, [some (.inr (.inr a0)), some (.inl x1), some (.inl x2), some (.inl x3), some (.inr (.inr b0)), some (.inr (.inr (pk_m a0 1))), o6, o7, o8, o9], r.toList ++ [], σ') Φ)) : pe_X d 99 (50, [some (.inr (.inr a0)), some (.inl x1), some (.inl x2), some (.inl x3), o4, o5, o6, o7, o8, o9], [.inr (.inr b0)], σ) Φ := by
  refine pe_blk 25 9 ck99 [pe_K σ a0 = 8, 12 ≤ pe_K σ (pe_R σ a0 2) ∧ pe_K σ (pe_R σ a0 2) < 19, 0 ≤ (pe_w 1), (pe_w 1) < pe_L σ (pe_R σ a0 2), pe_K σ a0 = 8] (66, [some (.inr (.inr a0)), some (.inl x1), some (.inl x2), some (.inl x3), some (.inr (.inr b0)), some (.inr (.inr (pe_R σ (pe_R σ a0 2) (pe_w 1)))), o6, o7, o8, o9], [.inr (.inr (pe_R σ a0 0)), .inr (.inr (pe_R σ (pe_R σ a0 2) (pe_w 1)))], σ) rfl ?_ ?_
  · first
    | (simp (disch := omega) only [pe_all, pe_wi (x := 1) ⟨by decide, by decide⟩, pe_K_wI, pe_K_wR, pe_L_wI, pe_L_wR, pe_R_nej, pe_R_ner, pe_R_wI, pk_mK (pk_sMi f_a0 (i := 1) (by omega) (by omega)), pk_sE f_a0 (i := 1) (by omega) (by omega), pk_sK f_a0, pk_sK2 f_a0, pk_sL2 f_a0, pk_sR0 f_a0, pk_sR2 f_a0]; done)
    | (simp (disch := omega) only [pe_all, pe_wi (x := 1) ⟨by decide, by decide⟩, pe_K_wI, pe_K_wR, pe_L_wI, pe_L_wR, pe_R_nej, pe_R_ner, pe_R_wI, pk_mK (pk_sMi f_a0 (i := 1) (by omega) (by omega)), pk_sE f_a0 (i := 1) (by omega) (by omega), pk_sK f_a0, pk_sK2 f_a0, pk_sL2 f_a0, pk_sR0 f_a0, pk_sR2 f_a0]; (repeat' apply And.intro) <;> first | assumption | omega | decide)
  · try simp (disch := omega) only [pe_wi (x := 1) ⟨by decide, by decide⟩, pe_K_wI, pe_K_wR, pe_L_wI, pe_L_wR, pe_R_nej, pe_R_ner, pe_R_wI, pk_mK (pk_sMi f_a0 (i := 1) (by omega) (by omega)), pk_sE f_a0 (i := 1) (by omega) (by omega), pk_sK f_a0, pk_sK2 f_a0, pk_sL2 f_a0, pk_sR0 f_a0, pk_sR2 f_a0]
    have hrc : pe_K σ (pk_m a0 1) = 2 := by first | assumption | (simp (disch := omega) only [pe_wi (x := 1) ⟨by decide, by decide⟩, pe_K_wI, pe_K_wR, pe_L_wI, pe_L_wR, pe_R_nej, pe_R_ner, pe_R_wI, pk_mK (pk_sMi f_a0 (i := 1) (by omega) (by omega)), pk_sE f_a0 (i := 1) (by omega) (by omega), pk_sK f_a0, pk_sK2 f_a0, pk_sL2 f_a0, pk_sR0 f_a0, pk_sR2 f_a0]; done) | (simp (disch := omega) only [pe_wi (x := 1) ⟨by decide, by decide⟩, pe_K_wI, pe_K_wR, pe_L_wI, pe_L_wR, pe_R_nej, pe_R_ner, pe_R_wI, pk_mK (pk_sMi f_a0 (i := 1) (by omega) (by omega)), pk_sE f_a0 (i := 1) (by omega) (by omega), pk_sK f_a0, pk_sK2 f_a0, pk_sL2 f_a0, pk_sR0 f_a0, pk_sR2 f_a0]; assumption)
    exact pe_cal 34 ck99 rfl rfl rfl ⟨hrc, by decide⟩ k
theorem b99_69 {d : Nat} {Φ : Option pe_V → pe_H → Prop} {σ : pe_H} {a0 : Nat} {x1 : Int} {x2 : Int} {x3 : Int} {a4 : Nat} {a5 : Nat} {o6 : Option pe_V} {o7 : Option pe_V} {o8 : Option pe_V} {o9 : Option pe_V} (f_a0 : pk_Fs a0 σ := by assumption) (f_a4 : pk_Fm a4 σ := by assumption) (f_a5 : pk_Fm a5 σ := by assumption)   (k : pe_M d 24 [.inr (.inr a4), .inl x1, .inr (.inr (a0 + 178))] σ (fun r σ' => pe_X d 99 (79, [some (.inr (.inr a0)), some (.inl x1), some (.inl x2), some (.inl x3), some (.inr (.inr a4)), some (.inr (.inr a5)), o6, o7, o8, o9], r.toList ++ [], σ') Φ)) : pe_X d 99 (69, [some (.inr (.inr a0)), some (.inl x1), some (.inl x2), some (.inl x3), some (.inr (.inr a4)), some (.inr (.inr a5)), o6, o7, o8, o9], [], σ) Φ := by
  refine pe_blk 35 4 ck99 [pe_K σ a0 = 8] (76, [some (.inr (.inr a0)), some (.inl x1), some (.inl x2), some (.inl x3), some (.inr (.inr a4)), some (.inr (.inr a5)), o6, o7, o8, o9], [.inr (.inr (pe_R σ a0 5)), .inl x1, .inr (.inr a4)], σ) rfl ?_ ?_
  · first
    | (simp (disch := omega) only [pe_all, pe_K_wI, pe_K_wR, pe_R_nej, pe_R_ner, pe_R_wI, pk_mK f_a4, pk_sK f_a0, pk_sR5 f_a0]; done)
    | (simp (disch := omega) only [pe_all, pe_K_wI, pe_K_wR, pe_R_nej, pe_R_ner, pe_R_wI, pk_mK f_a4, pk_sK f_a0, pk_sR5 f_a0]; (repeat' apply And.intro) <;> first | assumption | omega | decide)
  · try simp (disch := omega) only [pe_K_wI, pe_K_wR, pe_R_nej, pe_R_ner, pe_R_wI, pk_mK f_a4, pk_sK f_a0, pk_sR5 f_a0]
    have hrc : pe_K σ a4 = 2 := by first | assumption | (simp (disch := omega) only [pe_K_wI, pe_K_wR, pe_R_nej, pe_R_ner, pe_R_wI, pk_mK f_a4, pk_sK f_a0, pk_sR5 f_a0]; done) | (simp (disch := omega) only [pe_K_wI, pe_K_wR, pe_R_nej, pe_R_ner, pe_R_wI, pk_mK f_a4, pk_sK f_a0, pk_sR5 f_a0]; assumption)
    exact pe_cal 39 ck99 rfl rfl rfl ⟨hrc, by decide⟩ k
theorem b99_79 {d : Nat} {Φ : Option pe_V → pe_H → Prop} {σ : pe_H} {a0 : Nat} {o1 : Option pe_V} {x2 : Int} {x3 : Int} {a4 : Nat} {a5 : Nat} {o6 : Option pe_V} {o7 : Option pe_V} {o8 : Option pe_V} {o9 : Option pe_V} {s0 : Int} (f_a0 : pk_Fs a0 σ := by assumption) (f_a4 : pk_Fm a4 σ := by assumption) (f_a5 : pk_Fm a5 σ := by assumption)   (k : pe_M d 24 [.inr (.inr a5), .inl x2, .inr (.inr (a0 + 178))] σ (fun r σ' => pe_X d 99 (91, [some (.inr (.inr a0)), o1, some (.inl x2), some (.inl x3), some (.inr (.inr a4)), some (.inr (.inr a5)), some (.inl s0), o7, o8, o9], r.toList ++ [], σ') Φ)) : pe_X d 99 (79, [some (.inr (.inr a0)), o1, some (.inl x2), some (.inl x3), some (.inr (.inr a4)), some (.inr (.inr a5)), o6, o7, o8, o9], [.inl s0], σ) Φ := by
  refine pe_blk 40 5 ck99 [pe_K σ a0 = 8] (88, [some (.inr (.inr a0)), o1, some (.inl x2), some (.inl x3), some (.inr (.inr a4)), some (.inr (.inr a5)), some (.inl s0), o7, o8, o9], [.inr (.inr (pe_R σ a0 5)), .inl x2, .inr (.inr a5)], σ) rfl ?_ ?_
  · first
    | (simp (disch := omega) only [pe_all, pe_K_wI, pe_K_wR, pe_R_nej, pe_R_ner, pe_R_wI, pk_mK f_a5, pk_sK f_a0, pk_sR5 f_a0]; done)
    | (simp (disch := omega) only [pe_all, pe_K_wI, pe_K_wR, pe_R_nej, pe_R_ner, pe_R_wI, pk_mK f_a5, pk_sK f_a0, pk_sR5 f_a0]; (repeat' apply And.intro) <;> first | assumption | omega | decide)
  · try simp (disch := omega) only [pe_K_wI, pe_K_wR, pe_R_nej, pe_R_ner, pe_R_wI, pk_mK f_a5, pk_sK f_a0, pk_sR5 f_a0]
    have hrc : pe_K σ a5 = 2 := by first | assumption | (simp (disch := omega) only [pe_K_wI, pe_K_wR, pe_R_nej, pe_R_ner, pe_R_wI, pk_mK f_a5, pk_sK f_a0, pk_sR5 f_a0]; done) | (simp (disch := omega) only [pe_K_wI, pe_K_wR, pe_R_nej, pe_R_ner, pe_R_wI, pk_mK f_a5, pk_sK f_a0, pk_sR5 f_a0]; assumption)
    exact pe_cal 45 ck99 rfl rfl rfl ⟨hrc, by decide⟩ k
set_option maxRecDepth 8000 in
theorem b99_91 {d : Nat} {Φ : Option pe_V → pe_H → Prop} {σ : pe_H} {o0 : Option pe_V} {o1 : Option pe_V} {o2 : Option pe_V} {x3 : Int} {a4 : Nat} {a5 : Nat} {x6 : Int} {o7 : Option pe_V} {o8 : Option pe_V} {o9 : Option pe_V} {s0 : Int} (f_a4 : pk_Fm a4 σ := by assumption) (f_a5 : pk_Fm a5 σ := by assumption) (w0 : pe_in x6 := by unfold pe_in; omega) (h0 : 0 ≤ x6 := by first | assumption | omega) (h1 : x6 < 8 := by first | assumption | omega) (k : pe_X d 99 (115, [o0, o1, o2, some (.inl x3), some (.inr (.inr a4)), some (.inr (.inr a5)), some (.inl x6), some (.inr (.inr (pk_c a4 x6))), some (.inr (.inr (pk_c a5 x6))), some (.inl 0)], [], σ) Φ) : pe_X d 99 (91, [o0, o1, o2, some (.inl x3), some (.inr (.inr a4)), some (.inr (.inr a5)), some (.inl x6), o7, o8, o9], [.inl s0], σ) Φ := by
  refine pe_blk 46 13 ck99 [pe_K σ a4 = 2, 12 ≤ pe_K σ (pe_R σ a4 1) ∧ pe_K σ (pe_R σ a4 1) < 19, 0 ≤ (pe_w x6), (pe_w x6) < pe_L σ (pe_R σ a4 1), pe_K σ a5 = 2, 12 ≤ pe_K σ (pe_R σ a5 1) ∧ pe_K σ (pe_R σ a5 1) < 19, 0 ≤ (pe_w x6), (pe_w x6) < pe_L σ (pe_R σ a5 1)] (115, [o0, o1, o2, some (.inl x3), some (.inr (.inr a4)), some (.inr (.inr a5)), some (.inl x6), some (.inr (.inr (pe_R σ (pe_R σ a4 1) (pe_w x6)))), some (.inr (.inr (pe_R σ (pe_R σ a5 1) (pe_w x6)))), some (.inl 0)], [], σ) rfl ?_ ?_
  · first
    | (simp (disch := omega) only [pe_all, pe_wi w0, pe_K_wI, pe_K_wR, pe_L_wI, pe_L_wR, pe_R_nej, pe_R_ner, pe_R_wI, pk_mE2 f_a4 (i := x6) (by omega) (by omega), pk_mE2 f_a5 (i := x6) (by omega) (by omega), pk_mK f_a4, pk_mK f_a5, pk_mK2 f_a4, pk_mK2 f_a5, pk_mL2 f_a4, pk_mL2 f_a5, pk_mR2 f_a4, pk_mR2 f_a5]; done)
    | (simp (disch := omega) only [pe_all, pe_wi w0, pe_K_wI, pe_K_wR, pe_L_wI, pe_L_wR, pe_R_nej, pe_R_ner, pe_R_wI, pk_mE2 f_a4 (i := x6) (by omega) (by omega), pk_mE2 f_a5 (i := x6) (by omega) (by omega), pk_mK f_a4, pk_mK f_a5, pk_mK2 f_a4, pk_mK2 f_a5, pk_mL2 f_a4, pk_mL2 f_a5, pk_mR2 f_a4, pk_mR2 f_a5]; (repeat' apply And.intro) <;> first | assumption | omega | decide)
  · try simp (disch := omega) only [pe_wi w0, pe_K_wI, pe_K_wR, pe_L_wI, pe_L_wR, pe_R_nej, pe_R_ner, pe_R_wI, pk_mE2 f_a4 (i := x6) (by omega) (by omega), pk_mE2 f_a5 (i := x6) (by omega) (by omega), pk_mK f_a4, pk_mK f_a5, pk_mK2 f_a4, pk_mK2 f_a5, pk_mL2 f_a4, pk_mL2 f_a5, pk_mR2 f_a4, pk_mR2 f_a5]
    exact k
set_option maxRecDepth 8000 in
theorem b99_115 {d : Nat} {Φ : Option pe_V → pe_H → Prop} {σ : pe_H} {o0 : Option pe_V} {o1 : Option pe_V} {o2 : Option pe_V} {x3 : Int} {a4 : Nat} {a5 : Nat} {x6 : Int} {a7 : Nat} {a8 : Nat} {x9 : Int} (f_a4 : pk_Fm a4 σ := by assumption) (f_a5 : pk_Fm a5 σ := by assumption) (f_a7 : pk_Fo a7 σ := by assumption) (f_a8 : pk_Fo a8 σ := by assumption) (w0 : pe_in x3 := by unfold pe_in; omega) (w1 : pe_in x9 := by unfold pe_in; omega)  (k1 : x3 ≤ x9 → pe_X d 99 (187, [o0, o1, o2, some (.inl x3), some (.inr (.inr a4)), some (.inr (.inr a5)), some (.inl x6), some (.inr (.inr a7)), some (.inr (.inr a8)), some (.inl x9)], [], σ) Φ) (k2 : ¬ (x3 ≤ x9) → pe_X d 99 (121, [o0, o1, o2, some (.inl x3), some (.inr (.inr a4)), some (.inr (.inr a5)), some (.inl x6), some (.inr (.inr a7)), some (.inr (.inr a8)), some (.inl x9)], [], σ) Φ) : pe_X d 99 (115, [o0, o1, o2, some (.inl x3), some (.inr (.inr a4)), some (.inr (.inr a5)), some (.inl x6), some (.inr (.inr a7)), some (.inr (.inr a8)), some (.inl x9)], [], σ) Φ := by
  refine pe_blk 59 3 ck99 [] (cond (decide ((pe_w x3) ≤ (pe_w x9))) 187 121, [o0, o1, o2, some (.inl x3), some (.inr (.inr a4)), some (.inr (.inr a5)), some (.inl x6), some (.inr (.inr a7)), some (.inr (.inr a8)), some (.inl x9)], [], σ) rfl ?_ ?_
  · exact trivial
  · try simp (disch := omega) only [pe_wi w0, pe_wi w1]
    exact pe_two k1 k2
set_option maxRecDepth 8000 in
theorem b99_121 {d : Nat} {Φ : Option pe_V → pe_H → Prop} {σ : pe_H} {o0 : Option pe_V} {o1 : Option pe_V} {o2 : Option pe_V} {x3 : Int} {a4 : Nat} {a5 : Nat} {x6 : Int} {a7 : Nat} {a8 : Nat} {x9 : Int} (f_a4 : pk_Fm a4 σ := by assumption) (f_a5 : pk_Fm a5 σ := by assumption) (f_a7 : pk_Fo a7 σ := by assumption) (f_a8 : pk_Fo a8 σ := by assumption)   (k : pe_M d 4 [.inr (.inr a7)] σ (fun r σ' => pe_X d 99 (126, [o0, o1, o2, some (.inl x3), some (.inr (.inr a4)), some (.inr (.inr a5)), some (.inl x6), some (.inr (.inr a7)), some (.inr (.inr a8)), some (.inl x9)], r.toList ++ [], σ') Φ)) : pe_X d 99 (121, [o0, o1, o2, some (.inl x3), some (.inr (.inr a4)), some (.inr (.inr a5)), some (.inl x6), some (.inr (.inr a7)), some (.inr (.inr a8)), some (.inl x9)], [], σ) Φ := by
  refine pe_blk 62 1 ck99 [] (123, [o0, o1, o2, some (.inl x3), some (.inr (.inr a4)), some (.inr (.inr a5)), some (.inl x6), some (.inr (.inr a7)), some (.inr (.inr a8)), some (.inl x9)], [.inr (.inr a7)], σ) rfl ?_ ?_
  · exact trivial
  · try simp (disch := omega) only [pe_K_wI, pe_K_wR, pk_oK f_a7]
    have hrc : pe_K σ a7 = 0 := by first | assumption | (simp (disch := omega) only [pe_K_wI, pe_K_wR, pk_oK f_a7]; done) | (simp (disch := omega) only [pe_K_wI, pe_K_wR, pk_oK f_a7]; assumption)
    exact pe_cal 63 ck99 rfl rfl rfl ⟨hrc, by decide⟩ k
set_option maxRecDepth 8000 in
theorem b99_126 {d : Nat} {Φ : Option pe_V → pe_H → Prop} {σ : pe_H} {o0 : Option pe_V} {o1 : Option pe_V} {o2 : Option pe_V} {x3 : Int} {a4 : Nat} {a5 : Nat} {x6 : Int} {a7 : Nat} {a8 : Nat} {x9 : Int} {s0 : Int} (f_a4 : pk_Fm a4 σ := by assumption) (f_a5 : pk_Fm a5 σ := by assumption) (f_a7 : pk_Fo a7 σ := by assumption) (f_a8 : pk_Fo a8 σ := by assumption) (w0 : pe_in s0 := by unfold pe_in; omega)  (k1 : s0 = 0 → pe_X d 99 (187, [o0, o1, o2, some (.inl x3), some (.inr (.inr a4)), some (.inr (.inr a5)), some (.inl x6), some (.inr (.inr a7)), some (.inr (.inr a8)), some (.inl x9)], [], σ) Φ) (k2 : ¬ (s0 = 0) → pe_X d 99 (129, [o0, o1, o2, some (.inl x3), some (.inr (.inr a4)), some (.inr (.inr a5)), some (.inl x6), some (.inr (.inr a7)), some (.inr (.inr a8)), some (.inl x9)], [], σ) Φ) : pe_X d 99 (126, [o0, o1, o2, some (.inl x3), some (.inr (.inr a4)), some (.inr (.inr a5)), some (.inl x6), some (.inr (.inr a7)), some (.inr (.inr a8)), some (.inl x9)], [.inl s0], σ) Φ := by
  refine pe_blk 64 1 ck99 [] (cond (decide ((pe_w s0) = 0)) 187 129, [o0, o1, o2, some (.inl x3), some (.inr (.inr a4)), some (.inr (.inr a5)), some (.inl x6), some (.inr (.inr a7)), some (.inr (.inr a8)), some (.inl x9)], [], σ) rfl ?_ ?_
  · exact trivial
  · try simp (disch := omega) only [pe_wi w0]
    exact pe_two k1 k2
set_option maxRecDepth 8000 in
theorem b99_129 {d : Nat} {Φ : Option pe_V → pe_H → Prop} {σ : pe_H} {o0 : Option pe_V} {o1 : Option pe_V} {o2 : Option pe_V} {x3 : Int} {a4 : Nat} {a5 : Nat} {x6 : Int} {a7 : Nat} {a8 : Nat} {x9 : Int} (f_a4 : pk_Fm a4 σ := by assumption) (f_a5 : pk_Fm a5 σ := by assumption) (f_a7 : pk_Fo a7 σ := by assumption) (f_a8 : pk_Fo a8 σ := by assumption)   (k : pe_M d 4 [.inr (.inr a8)] σ (fun r σ' => pe_X d 99 (134, [o0, o1, o2, some (.inl x3), some (.inr (.inr a4)), some (.inr (.inr a5)), some (.inl x6), some (.inr (.inr a7)), some (.inr (.inr a8)), some (.inl x9)], r.toList ++ [], σ') Φ)) : pe_X d 99 (129, [o0, o1, o2, some (.inl x3), some (.inr (.inr a4)), some (.inr (.inr a5)), some (.inl x6), some (.inr (.inr a7)), some (.inr (.inr a8)), some (.inl x9)], [], σ) Φ := by
  refine pe_blk 65 1 ck99 [] (131, [o0, o1, o2, some (.inl x3), some (.inr (.inr a4)), some (.inr (.inr a5)), some (.inl x6), some (.inr (.inr a7)), some (.inr (.inr a8)), some (.inl x9)], [.inr (.inr a8)], σ) rfl ?_ ?_
  · exact trivial
  · try simp (disch := omega) only [pe_K_wI, pe_K_wR, pk_oK f_a8]
    have hrc : pe_K σ a8 = 0 := by first | assumption | (simp (disch := omega) only [pe_K_wI, pe_K_wR, pk_oK f_a8]; done) | (simp (disch := omega) only [pe_K_wI, pe_K_wR, pk_oK f_a8]; assumption)
    exact pe_cal 66 ck99 rfl rfl rfl ⟨hrc, by decide⟩ k
set_option maxRecDepth 8000 in
theorem b99_134 {d : Nat} {Φ : Option pe_V → pe_H → Prop} {σ : pe_H} {o0 : Option pe_V} {o1 : Option pe_V} {o2 : Option pe_V} {x3 : Int} {a4 : Nat} {a5 : Nat} {x6 : Int} {a7 : Nat} {a8 : Nat} {x9 : Int} {s0 : Int} (f_a4 : pk_Fm a4 σ := by assumption) (f_a5 : pk_Fm a5 σ := by assumption) (f_a7 : pk_Fo a7 σ := by assumption) (f_a8 : pk_Fo a8 σ := by assumption) (w0 : pe_in s0 := by unfold pe_in; omega)  (k1 : s0 = 0 → pe_X d 99 (187, [o0, o1, o2, some (.inl x3), some (.inr (.inr a4)), some (.inr (.inr a5)), some (.inl x6), some (.inr (.inr a7)), some (.inr (.inr a8)), some (.inl x9)], [], σ) Φ) (k2 : ¬ (s0 = 0) → pe_X d 99 (137, [o0, o1, o2, some (.inl x3), some (.inr (.inr a4)), some (.inr (.inr a5)), some (.inl x6), some (.inr (.inr a7)), some (.inr (.inr a8)), some (.inl x9)], [], σ) Φ) : pe_X d 99 (134, [o0, o1, o2, some (.inl x3), some (.inr (.inr a4)), some (.inr (.inr a5)), some (.inl x6), some (.inr (.inr a7)), some (.inr (.inr a8)), some (.inl x9)], [.inl s0], σ) Φ := by
  refine pe_blk 67 1 ck99 [] (cond (decide ((pe_w s0) = 0)) 187 137, [o0, o1, o2, some (.inl x3), some (.inr (.inr a4)), some (.inr (.inr a5)), some (.inl x6), some (.inr (.inr a7)), some (.inr (.inr a8)), some (.inl x9)], [], σ) rfl ?_ ?_
  · exact trivial
  · try simp (disch := omega) only [pe_wi w0]
    exact pe_two k1 k2
set_option maxRecDepth 8000 in
theorem b99_137 {d : Nat} {Φ : Option pe_V → pe_H → Prop} {σ : pe_H} {o0 : Option pe_V} {o1 : Option pe_V} {o2 : Option pe_V} {x3 : Int} {a4 : Nat} {a5 : Nat} {x6 : Int} {a7 : Nat} {a8 : Nat} {x9 : Int} (f_a4 : pk_Fm a4 σ := by assumption) (f_a5 : pk_Fm a5 σ := by assumption) (f_a7 : pk_Fo a7 σ := by assumption) (f_a8 : pk_Fo a8 σ := by assumption)   (k : pe_M d 25 [.inr (.inr a4), .inl x6, .inl 0] σ (fun r σ' => pe_X d 99 (145, [o0, o1, o2, some (.inl x3), some (.inr (.inr a4)), some (.inr (.inr a5)), some (.inl x6), some (.inr (.inr a7)), some (.inr (.inr a8)), some (.inl x9)], r.toList ++ [], σ') Φ)) : pe_X d 99 (137, [o0, o1, o2, some (.inl x3), some (.inr (.inr a4)), some (.inr (.inr a5)), some (.inl x6), some (.inr (.inr a7)), some (.inr (.inr a8)), some (.inl x9)], [], σ) Φ := by
  refine pe_blk 68 3 ck99 [] (142, [o0, o1, o2, some (.inl x3), some (.inr (.inr a4)), some (.inr (.inr a5)), some (.inl x6), some (.inr (.inr a7)), some (.inr (.inr a8)), some (.inl x9)], [.inl 0, .inl x6, .inr (.inr a4)], σ) rfl ?_ ?_
  · exact trivial
  · try simp (disch := omega) only [pe_K_wI, pe_K_wR, pk_mK f_a4]
    have hrc : pe_K σ a4 = 2 := by first | assumption | (simp (disch := omega) only [pe_K_wI, pe_K_wR, pk_mK f_a4]; done) | (simp (disch := omega) only [pe_K_wI, pe_K_wR, pk_mK f_a4]; assumption)
    exact pe_cal 71 ck99 rfl rfl rfl ⟨hrc, by decide⟩ k
set_option maxRecDepth 8000 in
theorem b99_145 {d : Nat} {Φ : Option pe_V → pe_H → Prop} {σ : pe_H} {o0 : Option pe_V} {o1 : Option pe_V} {o2 : Option pe_V} {x3 : Int} {a4 : Nat} {a5 : Nat} {x6 : Int} {a7 : Nat} {a8 : Nat} {x9 : Int} (f_a4 : pk_Fm a4 σ := by assumption) (f_a5 : pk_Fm a5 σ := by assumption) (f_a7 : pk_Fo a7 σ := by assumption) (f_a8 : pk_Fo a8 σ := by assumption)   (k : pe_M d 25 [.inr (.inr a5), .inl x6, .inl 0] σ (fun r σ' => pe_X d 99 (153, [o0, o1, o2, some (.inl x3), some (.inr (.inr a4)), some (.inr (.inr a5)), some (.inl x6), some (.inr (.inr a7)), some (.inr (.inr a8)), some (.inl x9)], r.toList ++ [], σ') Φ)) : pe_X d 99 (145, [o0, o1, o2, some (.inl x3), some (.inr (.inr a4)), some (.inr (.inr a5)), some (.inl x6), some (.inr (.inr a7)), some (.inr (.inr a8)), some (.inl x9)], [], σ) Φ := by
  refine pe_blk 72 3 ck99 [] (150, [o0, o1, o2, some (.inl x3), some (.inr (.inr a4)), some (.inr (.inr a5)), some (.inl x6), some (.inr (.inr a7)), some (.inr (.inr a8)), some (.inl x9)], [.inl 0, .inl x6, .inr (.inr a5)], σ) rfl ?_ ?_
  · exact trivial
  · try simp (disch := omega) only [pe_K_wI, pe_K_wR, pk_mK f_a5]
    have hrc : pe_K σ a5 = 2 := by first | assumption | (simp (disch := omega) only [pe_K_wI, pe_K_wR, pk_mK f_a5]; done) | (simp (disch := omega) only [pe_K_wI, pe_K_wR, pk_mK f_a5]; assumption)
    exact pe_cal 75 ck99 rfl rfl rfl ⟨hrc, by decide⟩ k
set_option maxRecDepth 8000 in
theorem b99_153 {d : Nat} {Φ : Option pe_V → pe_H → Prop} {σ : pe_H} {o0 : Option pe_V} {o1 : Option pe_V} {o2 : Option pe_V} {x3 : Int} {a4 : Nat} {a5 : Nat} {x6 : Int} {a7 : Nat} {a8 : Nat} {x9 : Int} (f_a4 : pk_Fm a4 σ := by assumption) (f_a5 : pk_Fm a5 σ := by assumption) (f_a7 : pk_Fo a7 σ := by assumption) (f_a8 : pk_Fo a8 σ := by assumption) (w0 : pe_in (pe_I σ a8 2) := by unfold pe_in; omega) (w1 : pe_in (pe_I σ a7 2) := by unfold pe_in; omega)  (k1 : ¬ (pe_I σ a7 2) = (pe_I σ a8 2) → pe_X d 99 (179, [o0, o1, o2, some (.inl x3), some (.inr (.inr a4)), some (.inr (.inr a5)), some (.inl x6), some (.inr (.inr a7)), some (.inr (.inr a8)), some (.inl x9)], [], σ) Φ) (k2 : (pe_I σ a7 2) = (pe_I σ a8 2) → pe_X d 99 (166, [o0, o1, o2, some (.inl x3), some (.inr (.inr a4)), some (.inr (.inr a5)), some (.inl x6), some (.inr (.inr a7)), some (.inr (.inr a8)), some (.inl x9)], [], σ) Φ) : pe_X d 99 (153, [o0, o1, o2, some (.inl x3), some (.inr (.inr a4)), some (.inr (.inr a5)), some (.inl x6), some (.inr (.inr a7)), some (.inr (.inr a8)), some (.inl x9)], [], σ) Φ := by
  refine pe_blk 76 5 ck99 [pe_K σ a7 = 0, pe_K σ a8 = 0] (cond (decide (¬ (pe_w (pe_I σ a7 2)) = (pe_w (pe_I σ a8 2)))) 179 166, [o0, o1, o2, some (.inl x3), some (.inr (.inr a4)), some (.inr (.inr a5)), some (.inl x6), some (.inr (.inr a7)), some (.inr (.inr a8)), some (.inl x9)], [], σ) rfl ?_ ?_
  · first
    | (simp (disch := omega) only [pe_all, pe_wi w0, pe_wi w1, pe_K_wI, pe_K_wR, pk_oK f_a7, pk_oK f_a8]; done)
    | (simp (disch := omega) only [pe_all, pe_wi w0, pe_wi w1, pe_K_wI, pe_K_wR, pk_oK f_a7, pk_oK f_a8]; (repeat' apply And.intro) <;> first | assumption | omega | decide)
  · try simp (disch := omega) only [pe_wi w0, pe_wi w1, pe_K_wI, pe_K_wR, pk_oK f_a7, pk_oK f_a8]
    exact pe_two' k1 k2
set_option maxRecDepth 8000 in
theorem b99_166 {d : Nat} {Φ : Option pe_V → pe_H → Prop} {σ : pe_H} {o0 : Option pe_V} {o1 : Option pe_V} {o2 : Option pe_V} {x3 : Int} {a4 : Nat} {a5 : Nat} {x6 : Int} {a7 : Nat} {a8 : Nat} {x9 : Int} (f_a4 : pk_Fm a4 σ := by assumption) (f_a5 : pk_Fm a5 σ := by assumption) (f_a7 : pk_Fo a7 σ := by assumption) (f_a8 : pk_Fo a8 σ := by assumption) (w0 : pe_in (pe_I σ a8 4) := by unfold pe_in; omega) (w1 : pe_in (pe_I σ a7 4) := by unfold pe_in; omega)  (k1 : (pe_I σ a7 4) = (pe_I σ a8 4) → pe_X d 99 (181, [o0, o1, o2, some (.inl x3), some (.inr (.inr a4)), some (.inr (.inr a5)), some (.inl x6), some (.inr (.inr a7)), some (.inr (.inr a8)), some (.inl x9)], [], σ) Φ) (k2 : ¬ ((pe_I σ a7 4) = (pe_I σ a8 4)) → pe_X d 99 (179, [o0, o1, o2, some (.inl x3), some (.inr (.inr a4)), some (.inr (.inr a5)), some (.inl x6), some (.inr (.inr a7)), some (.inr (.inr a8)), some (.inl x9)], [], σ) Φ) : pe_X d 99 (166, [o0, o1, o2, some (.inl x3), some (.inr (.inr a4)), some (.inr (.inr a5)), some (.inl x6), some (.inr (.inr a7)), some (.inr (.inr a8)), some (.inl x9)], [], σ) Φ := by
  refine pe_blk 81 5 ck99 [pe_K σ a7 = 0, pe_K σ a8 = 0] (cond (decide ((pe_w (pe_I σ a7 4)) = (pe_w (pe_I σ a8 4)))) 181 179, [o0, o1, o2, some (.inl x3), some (.inr (.inr a4)), some (.inr (.inr a5)), some (.inl x6), some (.inr (.inr a7)), some (.inr (.inr a8)), some (.inl x9)], [], σ) rfl ?_ ?_
  · first
    | (simp (disch := omega) only [pe_all, pe_wi w0, pe_wi w1, pe_K_wI, pe_K_wR, pk_oK f_a7, pk_oK f_a8]; done)
    | (simp (disch := omega) only [pe_all, pe_wi w0, pe_wi w1, pe_K_wI, pe_K_wR, pk_oK f_a7, pk_oK f_a8]; (repeat' apply And.intro) <;> first | assumption | omega | decide)
  · try simp (disch := omega) only [pe_wi w0, pe_wi w1, pe_K_wI, pe_K_wR, pk_oK f_a7, pk_oK f_a8]
    exact pe_two k1 k2
set_option maxRecDepth 8000 in
theorem b99_179 {d : Nat} {Φ : Option pe_V → pe_H → Prop} {σ : pe_H} {o0 : Option pe_V} {o1 : Option pe_V} {o2 : Option pe_V} {o3 : Option pe_V} {o4 : Option pe_V} {o5 : Option pe_V} {o6 : Option pe_V} {o7 : Option pe_V} {o8 : Option pe_V} {o9 : Option pe_V}    (k : Φ (some (.inl 0)) σ) : pe_X d 99 (179, [o0, o1, o2, o3, o4, o5, o6, o7, o8, o9], [], σ) Φ := by
  refine pe_blk 86 1 ck99 [] (180, [o0, o1, o2, o3, o4, o5, o6, o7, o8, o9], [.inl 0], σ) rfl ?_ ?_
  · exact trivial
  · exact pe_fine 87 ck99 rfl rfl rfl trivial k
set_option maxRecDepth 8000 in
theorem b99_181 {d : Nat} {Φ : Option pe_V → pe_H → Prop} {σ : pe_H} {o0 : Option pe_V} {o1 : Option pe_V} {o2 : Option pe_V} {x3 : Int} {a4 : Nat} {a5 : Nat} {x6 : Int} {a7 : Nat} {a8 : Nat} {x9 : Int} (f_a4 : pk_Fm a4 σ := by assumption) (f_a5 : pk_Fm a5 σ := by assumption) (f_a7 : pk_Fo a7 σ := by assumption) (f_a8 : pk_Fo a8 σ := by assumption)   (k : pe_X d 99 (115, [o0, o1, o2, some (.inl x3), some (.inr (.inr a4)), some (.inr (.inr a5)), some (.inl x6), some (.inr (.inr a7)), some (.inr (.inr a8)), some (.inl (x9 + 1))], [], σ) Φ) : pe_X d 99 (181, [o0, o1, o2, some (.inl x3), some (.inr (.inr a4)), some (.inr (.inr a5)), some (.inl x6), some (.inr (.inr a7)), some (.inr (.inr a8)), some (.inl x9)], [], σ) Φ := by
  refine pe_blk 88 2 ck99 [] (115, [o0, o1, o2, some (.inl x3), some (.inr (.inr a4)), some (.inr (.inr a5)), some (.inl x6), some (.inr (.inr a7)), some (.inr (.inr a8)), some (.inl (x9 + 1))], [], σ) rfl ?_ ?_
  · exact trivial
  · exact k
set_option maxRecDepth 8000 in
theorem b99_187 {d : Nat} {Φ : Option pe_V → pe_H → Prop} {σ : pe_H} {o0 : Option pe_V} {o1 : Option pe_V} {o2 : Option pe_V} {o3 : Option pe_V} {o4 : Option pe_V} {o5 : Option pe_V} {o6 : Option pe_V} {o7 : Option pe_V} {o8 : Option pe_V} {o9 : Option pe_V}    (k : Φ (some (.inl 1)) σ) : pe_X d 99 (187, [o0, o1, o2, o3, o4, o5, o6, o7, o8, o9], [], σ) Φ := by
  refine pe_blk 90 1 ck99 [] (188, [o0, o1, o2, o3, o4, o5, o6, o7, o8, o9], [.inl 1], σ) rfl ?_ ?_
  · exact trivial
  · exact pe_fine 91 ck99 rfl rfl rfl trivial k
-- StepMachines.two(III)I
def T100 : List (Nat × Instr × Nat) := [(0, .aload_n 0, 1), (1, .iload_n 1, 1), (2, .invokevirtual 107, 3), (5, .ifCond .eq 26, 3), (8, .aload_n 0, 1), (9, .iload_n 2, 1), (10, .invokevirtual 107, 3), (13, .ifCond .eq 18, 3), (16, .iload_n 1, 1), (17, .iload_n 2, 1), (18, .if_icmp .eq 13, 3), (21, .iload_n 3, 1), (22, .ifCond .lt 9, 3), (25, .iload_n 3, 1), (26, .bipush 40, 2), (28, .if_icmp .le 5, 3), (31, .iconst (-1), 1), (32, .ireturn, 1), (33, .aload_n 0, 1), (34, .getfield 10, 3), (37, .getfield 110, 3), (40, .iload_n 1, 1), (41, .aaload, 1), (42, .invokevirtual 199, 3), (45, .ifCond .ne 18, 3), (48, .aload_n 0, 1), (49, .getfield 10, 3), (52, .getfield 110, 3), (55, .iload_n 2, 1), (56, .aaload, 1), (57, .invokevirtual 199, 3), (60, .ifCond .eq 6, 3), (63, .bipush (-3), 2), (65, .ireturn, 1), (66, .iconst 4, 1), (67, .newarray .int, 2), (69, .astore 4, 2), (71, .iconst 4, 1), (72, .newarray .int, 2), (74, .astore 5, 2), (76, .iconst 0, 1), (77, .istore 6, 2), (79, .iload 6, 2), (81, .iconst 4, 1), (82, .if_icmp .ge 93, 3), (85, .aload_n 0, 1), (86, .invokevirtual 66, 3), (89, .astore 7, 2), (91, .aload 7, 2), (93, .iload_n 1, 1), (94, .iload 6, 2), (96, .iconst 1, 1), (97, .ishr, 1), (98, .invokestatic 250, 3), (101, .aload 7, 2), (103, .iload_n 2, 1), (104, .iload 6, 2), (106, .iconst 1, 1), (107, .iand, 1), (108, .invokestatic 250, 3), (111, .aload 7, 2), (113, .iload_n 3, 1), (114, .invokevirtual 223, 3), (117, .aload 4, 2), (119, .iload 6, 2), (121, .aload 7, 2), (123, .getfield 110, 3), (126, .iload_n 1, 1), (127, .aaload, 1), (128, .aload 7, 2), (130, .getfield 110, 3), (133, .iload_n 2, 1), (134, .aaload, 1), (135, .iload 6, 2), (137, .iconst 1, 1), (138, .ishr, 1), (139, .invokestatic 254, 3), (142, .iastore, 1), (143, .aload 5, 2), (145, .iload 6, 2), (147, .aload 7, 2), (149, .getfield 110, 3), (152, .iload_n 2, 1), (153, .aaload, 1), (154, .aload 7, 2), (156, .getfield 110, 3), (159, .iload_n 1, 1), (160, .aaload, 1), (161, .iload 6, 2), (163, .iconst 1, 1), (164, .iand, 1), (165, .invokestatic 254, 3), (168, .iastore, 1), (169, .iinc 6 1, 3), (172, .goto (-93), 3), (175, .iconst 0, 1), (176, .istore 6, 2), (178, .iload 6, 2), (180, .iconst 4, 1), (181, .if_icmp .ge 52, 3), (184, .aload 4, 2), (186, .iload 6, 2), (188, .iaload, 1), (189, .aload 4, 2), (191, .iload 6, 2), (193, .iconst 2, 1), (194, .ixor, 1), (195, .iaload, 1), (196, .if_icmp .lt 31, 3), (199, .aload 5, 2), (201, .iload 6, 2), (203, .iaload, 1), (204, .aload 5, 2), (206, .iload 6, 2), (208, .iconst 1, 1), (209, .ixor, 1), (210, .iaload, 1), (211, .if_icmp .lt 16, 3), (214, .bipush 10, 2), (216, .iload 6, 2), (218, .iconst 1, 1), (219, .ishr, 1), (220, .imul, 1), (221, .iload 6, 2), (223, .iconst 1, 1), (224, .iand, 1), (225, .iadd, 1), (226, .ireturn, 1), (227, .iinc 6 1, 3), (230, .goto (-52), 3), (233, .bipush (-4), 2), (235, .ireturn, 1)]
theorem ck100 : pe_ctx 100 8 false (some .int) 8 T100 := ⟨rfl, rfl, rfl, rfl, by decide +kernel, by decide, by decide⟩
theorem b100_0 {d : Nat} {Φ : Option pe_V → pe_H → Prop} {σ : pe_H} {a0 : Nat} {x1 : Int} {x2 : Int} {x3 : Int} {o4 : Option pe_V} {o5 : Option pe_V} {o6 : Option pe_V} {o7 : Option pe_V} (f_a0 : pk_Fs a0 σ := by assumption)   (k : pe_M d 117 [.inr (.inr a0), .inl x1] σ (fun r σ' => pe_X d 100 (5, [some (.inr (.inr a0)), some (.inl x1), some (.inl x2), some (.inl x3), o4, o5, o6, o7], r.toList ++ [], σ') Φ)) : pe_X d 100 (0, [some (.inr (.inr a0)), some (.inl x1), some (.inl x2), some (.inl x3), o4, o5, o6, o7], [], σ) Φ := by
  refine pe_blk 0 2 ck100 [] (2, [some (.inr (.inr a0)), some (.inl x1), some (.inl x2), some (.inl x3), o4, o5, o6, o7], [.inl x1, .inr (.inr a0)], σ) rfl ?_ ?_
  · exact trivial
  · try simp (disch := omega) only [pe_K_wI, pe_K_wR, pk_sK f_a0]
    have hrc : pe_K σ a0 = 8 := by first | assumption | (simp (disch := omega) only [pe_K_wI, pe_K_wR, pk_sK f_a0]; done) | (simp (disch := omega) only [pe_K_wI, pe_K_wR, pk_sK f_a0]; assumption)
    exact pe_cal 2 ck100 rfl rfl rfl ⟨hrc, by decide⟩ k
theorem b100_5 {d : Nat} {Φ : Option pe_V → pe_H → Prop} {σ : pe_H} {a0 : Nat} {x1 : Int} {x2 : Int} {x3 : Int} {o4 : Option pe_V} {o5 : Option pe_V} {o6 : Option pe_V} {o7 : Option pe_V} {s0 : Int} (f_a0 : pk_Fs a0 σ := by assumption) (w0 : pe_in s0 := by unfold pe_in; omega)  (k1 : s0 = 0 → pe_X d 100 (31, [some (.inr (.inr a0)), some (.inl x1), some (.inl x2), some (.inl x3), o4, o5, o6, o7], [], σ) Φ) (k2 : ¬ (s0 = 0) → pe_X d 100 (8, [some (.inr (.inr a0)), some (.inl x1), some (.inl x2), some (.inl x3), o4, o5, o6, o7], [], σ) Φ) : pe_X d 100 (5, [some (.inr (.inr a0)), some (.inl x1), some (.inl x2), some (.inl x3), o4, o5, o6, o7], [.inl s0], σ) Φ := by
  refine pe_blk 3 1 ck100 [] (cond (decide ((pe_w s0) = 0)) 31 8, [some (.inr (.inr a0)), some (.inl x1), some (.inl x2), some (.inl x3), o4, o5, o6, o7], [], σ) rfl ?_ ?_
  · exact trivial
  · try simp (disch := omega) only [pe_wi w0]
    exact pe_two k1 k2
theorem b100_8 {d : Nat} {Φ : Option pe_V → pe_H → Prop} {σ : pe_H} {a0 : Nat} {x1 : Int} {x2 : Int} {x3 : Int} {o4 : Option pe_V} {o5 : Option pe_V} {o6 : Option pe_V} {o7 : Option pe_V} (f_a0 : pk_Fs a0 σ := by assumption)   (k : pe_M d 117 [.inr (.inr a0), .inl x2] σ (fun r σ' => pe_X d 100 (13, [some (.inr (.inr a0)), some (.inl x1), some (.inl x2), some (.inl x3), o4, o5, o6, o7], r.toList ++ [], σ') Φ)) : pe_X d 100 (8, [some (.inr (.inr a0)), some (.inl x1), some (.inl x2), some (.inl x3), o4, o5, o6, o7], [], σ) Φ := by
  refine pe_blk 4 2 ck100 [] (10, [some (.inr (.inr a0)), some (.inl x1), some (.inl x2), some (.inl x3), o4, o5, o6, o7], [.inl x2, .inr (.inr a0)], σ) rfl ?_ ?_
  · exact trivial
  · try simp (disch := omega) only [pe_K_wI, pe_K_wR, pk_sK f_a0]
    have hrc : pe_K σ a0 = 8 := by first | assumption | (simp (disch := omega) only [pe_K_wI, pe_K_wR, pk_sK f_a0]; done) | (simp (disch := omega) only [pe_K_wI, pe_K_wR, pk_sK f_a0]; assumption)
    exact pe_cal 6 ck100 rfl rfl rfl ⟨hrc, by decide⟩ k
theorem b100_13 {d : Nat} {Φ : Option pe_V → pe_H → Prop} {σ : pe_H} {a0 : Nat} {x1 : Int} {x2 : Int} {x3 : Int} {o4 : Option pe_V} {o5 : Option pe_V} {o6 : Option pe_V} {o7 : Option pe_V} {s0 : Int} (f_a0 : pk_Fs a0 σ := by assumption) (w0 : pe_in s0 := by unfold pe_in; omega)  (k1 : s0 = 0 → pe_X d 100 (31, [some (.inr (.inr a0)), some (.inl x1), some (.inl x2), some (.inl x3), o4, o5, o6, o7], [], σ) Φ) (k2 : ¬ (s0 = 0) → pe_X d 100 (16, [some (.inr (.inr a0)), some (.inl x1), some (.inl x2), some (.inl x3), o4, o5, o6, o7], [], σ) Φ) : pe_X d 100 (13, [some (.inr (.inr a0)), some (.inl x1), some (.inl x2), some (.inl x3), o4, o5, o6, o7], [.inl s0], σ) Φ := by
  refine pe_blk 7 1 ck100 [] (cond (decide ((pe_w s0) = 0)) 31 16, [some (.inr (.inr a0)), some (.inl x1), some (.inl x2), some (.inl x3), o4, o5, o6, o7], [], σ) rfl ?_ ?_
  · exact trivial
  · try simp (disch := omega) only [pe_wi w0]
    exact pe_two k1 k2
theorem b100_16 {d : Nat} {Φ : Option pe_V → pe_H → Prop} {σ : pe_H} {a0 : Nat} {x1 : Int} {x2 : Int} {x3 : Int} {o4 : Option pe_V} {o5 : Option pe_V} {o6 : Option pe_V} {o7 : Option pe_V} (f_a0 : pk_Fs a0 σ := by assumption) (w0 : pe_in x2 := by unfold pe_in; omega) (w1 : pe_in x1 := by unfold pe_in; omega)  (k1 : x1 = x2 → pe_X d 100 (31, [some (.inr (.inr a0)), some (.inl x1), some (.inl x2), some (.inl x3), o4, o5, o6, o7], [], σ) Φ) (k2 : ¬ (x1 = x2) → pe_X d 100 (21, [some (.inr (.inr a0)), some (.inl x1), some (.inl x2), some (.inl x3), o4, o5, o6, o7], [], σ) Φ) : pe_X d 100 (16, [some (.inr (.inr a0)), some (.inl x1), some (.inl x2), some (.inl x3), o4, o5, o6, o7], [], σ) Φ := by
  refine pe_blk 8 3 ck100 [] (cond (decide ((pe_w x1) = (pe_w x2))) 31 21, [some (.inr (.inr a0)), some (.inl x1), some (.inl x2), some (.inl x3), o4, o5, o6, o7], [], σ) rfl ?_ ?_
  · exact trivial
  · try simp (disch := omega) only [pe_wi w0, pe_wi w1]
    exact pe_two k1 k2
theorem b100_21 {d : Nat} {Φ : Option pe_V → pe_H → Prop} {σ : pe_H} {a0 : Nat} {x1 : Int} {x2 : Int} {x3 : Int} {o4 : Option pe_V} {o5 : Option pe_V} {o6 : Option pe_V} {o7 : Option pe_V} (f_a0 : pk_Fs a0 σ := by assumption) (w0 : pe_in x3 := by unfold pe_in; omega)  (k1 : x3 < 0 → pe_X d 100 (31, [some (.inr (.inr a0)), some (.inl x1), some (.inl x2), some (.inl x3), o4, o5, o6, o7], [], σ) Φ) (k2 : ¬ (x3 < 0) → pe_X d 100 (25, [some (.inr (.inr a0)), some (.inl x1), some (.inl x2), some (.inl x3), o4, o5, o6, o7], [], σ) Φ) : pe_X d 100 (21, [some (.inr (.inr a0)), some (.inl x1), some (.inl x2), some (.inl x3), o4, o5, o6, o7], [], σ) Φ := by
  refine pe_blk 11 2 ck100 [] (cond (decide ((pe_w x3) < 0)) 31 25, [some (.inr (.inr a0)), some (.inl x1), some (.inl x2), some (.inl x3), o4, o5, o6, o7], [], σ) rfl ?_ ?_
  · exact trivial
  · try simp (disch := omega) only [pe_wi w0]
    exact pe_two k1 k2
theorem b100_25 {d : Nat} {Φ : Option pe_V → pe_H → Prop} {σ : pe_H} {a0 : Nat} {x1 : Int} {x2 : Int} {x3 : Int} {o4 : Option pe_V} {o5 : Option pe_V} {o6 : Option pe_V} {o7 : Option pe_V} (f_a0 : pk_Fs a0 σ := by assumption) (w0 : pe_in x3 := by unfold pe_in; omega)  (k1 : x3 ≤ 40 → pe_X d 100 (33, [some (.inr (.inr a0)), some (.inl x1), some (.inl x2), some (.inl x3), o4, o5, o6, o7], [], σ) Φ) (k2 : ¬ (x3 ≤ 40) → pe_X d 100 (31, [some (.inr (.inr a0)), some (.inl x1), some (.inl x2), some (.inl x3), o4, o5, o6, o7], [], σ) Φ) : pe_X d 100 (25, [some (.inr (.inr a0)), some (.inl x1), some (.inl x2), some (.inl x3), o4, o5, o6, o7], [], σ) Φ := by
  refine pe_blk 13 3 ck100 [] (cond (decide ((pe_w x3) ≤ (pe_w 40))) 33 31, [some (.inr (.inr a0)), some (.inl x1), some (.inl x2), some (.inl x3), o4, o5, o6, o7], [], σ) rfl ?_ ?_
  · exact trivial
  · try simp (disch := omega) only [pe_wi w0, pe_wi (x := 40) ⟨by decide, by decide⟩]
    exact pe_two k1 k2
theorem b100_31 {d : Nat} {Φ : Option pe_V → pe_H → Prop} {σ : pe_H} {o0 : Option pe_V} {o1 : Option pe_V} {o2 : Option pe_V} {o3 : Option pe_V} {o4 : Option pe_V} {o5 : Option pe_V} {o6 : Option pe_V} {o7 : Option pe_V}    (k : Φ (some (.inl (-1))) σ) : pe_X d 100 (31, [o0, o1, o2, o3, o4, o5, o6, o7], [], σ) Φ := by
  refine pe_blk 16 1 ck100 [] (32, [o0, o1, o2, o3, o4, o5, o6, o7], [.inl (-1)], σ) rfl ?_ ?_
  · exact trivial
  · exact pe_fine 17 ck100 rfl rfl rfl trivial k
theorem b100_33 {d : Nat} {Φ : Option pe_V → pe_H → Prop} {σ : pe_H} {a0 : Nat} {x1 : Int} {x2 : Int} {x3 : Int} {o4 : Option pe_V} {o5 : Option pe_V} {o6 : Option pe_V} {o7 : Option pe_V} (f_a0 : pk_Fs a0 σ := by assumption) (w0 : pe_in x1 := by unfold pe_in; omega) (h0 : 0 ≤ x1 := by first | assumption | omega) (h1 : x1 < 8 := by first | assumption | omega) (k : pe_M d 3 [.inr (.inr (pk_c (a0 + 1) x1))] σ (fun r σ' => pe_X d 100 (45, [some (.inr (.inr a0)), some (.inl x1), some (.inl x2), some (.inl x3), o4, o5, o6, o7], r.toList ++ [], σ') Φ)) : pe_X d 100 (33, [some (.inr (.inr a0)), some (.inl x1), some (.inl x2), some (.inl x3), o4, o5, o6, o7], [], σ) Φ := by
  refine pe_blk 18 5 ck100 [pe_K σ a0 = 8, pe_K σ (pe_R σ a0 0) = 2, 12 ≤ pe_K σ (pe_R σ (pe_R σ a0 0) 1) ∧ pe_K σ (pe_R σ (pe_R σ a0 0) 1) < 19, 0 ≤ (pe_w x1), (pe_w x1) < pe_L σ (pe_R σ (pe_R σ a0 0) 1)] (42, [some (.inr (.inr a0)), some (.inl x1), some (.inl x2), some (.inl x3), o4, o5, o6, o7], [.inr (.inr (pe_R σ (pe_R σ (pe_R σ a0 0) 1) (pe_w x1)))], σ) rfl ?_ ?_
  · first
    | (simp (disch := omega) only [pe_all, pe_wi w0, pe_K_wI, pe_K_wR, pe_L_wI, pe_L_wR, pe_R_nej, pe_R_ner, pe_R_wI, pk_mE2 (pk_sM0 f_a0) (i := x1) (by omega) (by omega), pk_mK (pk_sM0 f_a0), pk_mK2 (pk_sM0 f_a0), pk_mL2 (pk_sM0 f_a0), pk_mR2 (pk_sM0 f_a0), pk_oK (pk_mO (pk_sM0 f_a0) (i := x1) (by omega) (by omega)), pk_sK f_a0, pk_sR0 f_a0]; done)
    | (simp (disch := omega) only [pe_all, pe_wi w0, pe_K_wI, pe_K_wR, pe_L_wI, pe_L_wR, pe_R_nej, pe_R_ner, pe_R_wI, pk_mE2 (pk_sM0 f_a0) (i := x1) (by omega) (by omega), pk_mK (pk_sM0 f_a0), pk_mK2 (pk_sM0 f_a0), pk_mL2 (pk_sM0 f_a0), pk_mR2 (pk_sM0 f_a0), pk_oK (pk_mO (pk_sM0 f_a0) (i := x1) (by omega) (by omega)), pk_sK f_a0, pk_sR0 f_a0]; (repeat' apply And.intro) <;> first | assumption | omega | decide)
  · try simp (disch := omega) only [pe_wi w0, pe_K_wI, pe_K_wR, pe_L_wI, pe_L_wR, pe_R_nej, pe_R_ner, pe_R_wI, pk_mE2 (pk_sM0 f_a0) (i := x1) (by omega) (by omega), pk_mK (pk_sM0 f_a0), pk_mK2 (pk_sM0 f_a0), pk_mL2 (pk_sM0 f_a0), pk_mR2 (pk_sM0 f_a0), pk_oK (pk_mO (pk_sM0 f_a0) (i := x1) (by omega) (by omega)), pk_sK f_a0, pk_sR0 f_a0]
    have hrc : pe_K σ (pk_c (a0 + 1) x1) = 0 := by first | assumption | (simp (disch := omega) only [pe_wi w0, pe_K_wI, pe_K_wR, pe_L_wI, pe_L_wR, pe_R_nej, pe_R_ner, pe_R_wI, pk_mE2 (pk_sM0 f_a0) (i := x1) (by omega) (by omega), pk_mK (pk_sM0 f_a0), pk_mK2 (pk_sM0 f_a0), pk_mL2 (pk_sM0 f_a0), pk_mR2 (pk_sM0 f_a0), pk_oK (pk_mO (pk_sM0 f_a0) (i := x1) (by omega) (by omega)), pk_sK f_a0, pk_sR0 f_a0]; done) | (simp (disch := omega) only [pe_wi w0, pe_K_wI, pe_K_wR, pe_L_wI, pe_L_wR, pe_R_nej, pe_R_ner, pe_R_wI, pk_mE2 (pk_sM0 f_a0) (i := x1) (by omega) (by omega), pk_mK (pk_sM0 f_a0), pk_mK2 (pk_sM0 f_a0), pk_mL2 (pk_sM0 f_a0), pk_mR2 (pk_sM0 f_a0), pk_oK (pk_mO (pk_sM0 f_a0) (i := x1) (by omega) (by omega)), pk_sK f_a0, pk_sR0 f_a0]; assumption)
    exact pe_cal 23 ck100 rfl rfl rfl ⟨hrc, by decide⟩ k
theorem b100_45 {d : Nat} {Φ : Option pe_V → pe_H → Prop} {σ : pe_H} {a0 : Nat} {x1 : Int} {x2 : Int} {x3 : Int} {o4 : Option pe_V} {o5 : Option pe_V} {o6 : Option pe_V} {o7 : Option pe_V} {s0 : Int} (f_a0 : pk_Fs a0 σ := by assumption) (w0 : pe_in s0 := by unfold pe_in; omega)  (k1 : ¬ s0 = 0 → pe_X d 100 (63, [some (.inr (.inr a0)), some (.inl x1), some (.inl x2), some (.inl x3), o4, o5, o6, o7], [], σ) Φ) (k2 : s0 = 0 → pe_X d 100 (48, [some (.inr (.inr a0)), some (.inl x1), some (.inl x2), some (.inl x3), o4, o5, o6, o7], [], σ) Φ) : pe_X d 100 (45, [some (.inr (.inr a0)), some (.inl x1), some (.inl x2), some (.inl x3), o4, o5, o6, o7], [.inl s0], σ) Φ := by
  refine pe_blk 24 1 ck100 [] (cond (decide (¬ (pe_w s0) = 0)) 63 48, [some (.inr (.inr a0)), some (.inl x1), some (.inl x2), some (.inl x3), o4, o5, o6, o7], [], σ) rfl ?_ ?_
  · exact trivial
  · try simp (disch := omega) only [pe_wi w0]
    exact pe_two' k1 k2
theorem b100_48 {d : Nat} {Φ : Option pe_V → pe_H → Prop} {σ : pe_H} {a0 : Nat} {x1 : Int} {x2 : Int} {x3 : Int} {o4 : Option pe_V} {o5 : Option pe_V} {o6 : Option pe_V} {o7 : Option pe_V} (f_a0 : pk_Fs a0 σ := by assumption) (w0 : pe_in x2 := by unfold pe_in; omega) (h0 : 0 ≤ x2 := by first | assumption | omega) (h1 : x2 < 8 := by first | assumption | omega) (k : pe_M d 3 [.inr (.inr (pk_c (a0 + 1) x2))] σ (fun r σ' => pe_X d 100 (60, [some (.inr (.inr a0)), some (.inl x1), some (.inl x2), some (.inl x3), o4, o5, o6, o7], r.toList ++ [], σ') Φ)) : pe_X d 100 (48, [some (.inr (.inr a0)), some (.inl x1), some (.inl x2), some (.inl x3), o4, o5, o6, o7], [], σ) Φ := by
  refine pe_blk 25 5 ck100 [pe_K σ a0 = 8, pe_K σ (pe_R σ a0 0) = 2, 12 ≤ pe_K σ (pe_R σ (pe_R σ a0 0) 1) ∧ pe_K σ (pe_R σ (pe_R σ a0 0) 1) < 19, 0 ≤ (pe_w x2), (pe_w x2) < pe_L σ (pe_R σ (pe_R σ a0 0) 1)] (57, [some (.inr (.inr a0)), some (.inl x1), some (.inl x2), some (.inl x3), o4, o5, o6, o7], [.inr (.inr (pe_R σ (pe_R σ (pe_R σ a0 0) 1) (pe_w x2)))], σ) rfl ?_ ?_
  · first
    | (simp (disch := omega) only [pe_all, pe_wi w0, pe_K_wI, pe_K_wR, pe_L_wI, pe_L_wR, pe_R_nej, pe_R_ner, pe_R_wI, pk_mE2 (pk_sM0 f_a0) (i := x2) (by omega) (by omega), pk_mK (pk_sM0 f_a0), pk_mK2 (pk_sM0 f_a0), pk_mL2 (pk_sM0 f_a0), pk_mR2 (pk_sM0 f_a0), pk_oK (pk_mO (pk_sM0 f_a0) (i := x2) (by omega) (by omega)), pk_sK f_a0, pk_sR0 f_a0]; done)
    | (simp (disch := omega) only [pe_all, pe_wi w0, pe_K_wI, pe_K_wR, pe_L_wI, pe_L_wR, pe_R_nej, pe_R_ner, pe_R_wI, pk_mE2 (pk_sM0 f_a0) (i := x2) (by omega) (by omega), pk_mK (pk_sM0 f_a0), pk_mK2 (pk_sM0 f_a0), pk_mL2 (pk_sM0 f_a0), pk_mR2 (pk_sM0 f_a0), pk_oK (pk_mO (pk_sM0 f_a0) (i := x2) (by omega) (by omega)), pk_sK f_a0, pk_sR0 f_a0]; (repeat' apply And.intro) <;> first | assumption | omega | decide)
  · try simp (disch := omega) only [pe_wi w0, pe_K_wI, pe_K_wR, pe_L_wI, pe_L_wR, pe_R_nej, pe_R_ner, pe_R_wI, pk_mE2 (pk_sM0 f_a0) (i := x2) (by omega) (by omega), pk_mK (pk_sM0 f_a0), pk_mK2 (pk_sM0 f_a0), pk_mL2 (pk_sM0 f_a0), pk_mR2 (pk_sM0 f_a0), pk_oK (pk_mO (pk_sM0 f_a0) (i := x2) (by omega) (by omega)), pk_sK f_a0, pk_sR0 f_a0]
    have hrc : pe_K σ (pk_c (a0 + 1) x2) = 0 := by first | assumption | (simp (disch := omega) only [pe_wi w0, pe_K_wI, pe_K_wR, pe_L_wI, pe_L_wR, pe_R_nej, pe_R_ner, pe_R_wI, pk_mE2 (pk_sM0 f_a0) (i := x2) (by omega) (by omega), pk_mK (pk_sM0 f_a0), pk_mK2 (pk_sM0 f_a0), pk_mL2 (pk_sM0 f_a0), pk_mR2 (pk_sM0 f_a0), pk_oK (pk_mO (pk_sM0 f_a0) (i := x2) (by omega) (by omega)), pk_sK f_a0, pk_sR0 f_a0]; done) | (simp (disch := omega) only [pe_wi w0, pe_K_wI, pe_K_wR, pe_L_wI, pe_L_wR, pe_R_nej, pe_R_ner, pe_R_wI, pk_mE2 (pk_sM0 f_a0) (i := x2) (by omega) (by omega), pk_mK (pk_sM0 f_a0), pk_mK2 (pk_sM0 f_a0), pk_mL2 (pk_sM0 f_a0), pk_mR2 (pk_sM0 f_a0), pk_oK (pk_mO (pk_sM0 f_a0) (i := x2) (by omega) (by omega)), pk_sK f_a0, pk_sR0 f_a0]; assumption)
    exact pe_cal 30 ck100 rfl rfl rfl ⟨hrc, by decide⟩ k
theorem b100_60 {d : Nat} {Φ : Option pe_V → pe_H → Prop} {σ : pe_H} {a0 : Nat} {x1 : Int} {x2 : Int} {x3 : Int} {o4 : Option pe_V} {o5 : Option pe_V} {o6 : Option pe_V} {o7 : Option pe_V} {s0 : Int} (f_a0 : pk_Fs a0 σ := by assumption) (w0 : pe_in s0 := by unfold pe_in; omega)  (k1 : s0 = 0 → pe_X d 100 (66, [some (.inr (.inr a0)), some (.inl x1), some (.inl x2), some (.inl x3), o4, o5, o6, o7], [], σ) Φ) (k2 : ¬ (s0 = 0) → pe_X d 100 (63, [some (.inr (.inr a0)), some (.inl x1), some (.inl x2), some (.inl x3), o4, o5, o6, o7], [], σ) Φ) : pe_X d 100 (60, [some (.inr (.inr a0)), some (.inl x1), some (.inl x2), some (.inl x3), o4, o5, o6, o7], [.inl s0], σ) Φ := by
  refine pe_blk 31 1 ck100 [] (cond (decide ((pe_w s0) = 0)) 66 63, [some (.inr (.inr a0)), some (.inl x1), some (.inl x2), some (.inl x3), o4, o5, o6, o7], [], σ) rfl ?_ ?_
  · exact trivial
  · try simp (disch := omega) only [pe_wi w0]
    exact pe_two k1 k2
theorem b100_63 {d : Nat} {Φ : Option pe_V → pe_H → Prop} {σ : pe_H} {o0 : Option pe_V} {o1 : Option pe_V} {o2 : Option pe_V} {o3 : Option pe_V} {o4 : Option pe_V} {o5 : Option pe_V} {o6 : Option pe_V} {o7 : Option pe_V}    (k : Φ (some (.inl (-3))) σ) : pe_X d 100 (63, [o0, o1, o2, o3, o4, o5, o6, o7], [], σ) Φ := by
  refine pe_blk 32 1 ck100 [] (65, [o0, o1, o2, o3, o4, o5, o6, o7], [.inl (-3)], σ) rfl ?_ ?_
  · exact trivial
  · exact pe_fine 33 ck100 rfl rfl rfl trivial k
theorem b100_66 {d : Nat} {Φ : Option pe_V → pe_H → Prop} {σ : pe_H} {a0 : Nat} {x1 : Int} {x2 : Int} {x3 : Int} {o4 : Option pe_V} {o5 : Option pe_V} {o6 : Option pe_V} {o7 : Option pe_V} (f_a0 : pk_Fs a0 σ := by assumption)   (k : pe_X d 100 (79, [some (.inr (.inr a0)), some (.inl x1), some (.inl x2), some (.inl x3), some (.inr (.inr (pe_n σ))), some (.inr (.inr (pe_n (pe_new σ 10 4 ((4 : Int).toNat))))), some (.inl 0), o7], [], pe_new (pe_new σ 10 4 ((4 : Int).toNat)) 10 4 ((4 : Int).toNat)) Φ) : pe_X d 100 (66, [some (.inr (.inr a0)), some (.inl x1), some (.inl x2), some (.inl x3), o4, o5, o6, o7], [], σ) Φ := by
  refine pe_blk 34 8 ck100 [0 ≤ (pe_w 4), (pe_w 4) ≤ 10000, 0 ≤ (pe_w 4), (pe_w 4) ≤ 10000] (79, [some (.inr (.inr a0)), some (.inl x1), some (.inl x2), some (.inl x3), some (.inr (.inr (pe_n σ))), some (.inr (.inr (pe_n (pe_new σ 10 (pe_w 4) ((pe_w 4).toNat))))), some (.inl 0), o7], [], pe_new (pe_new σ 10 (pe_w 4) ((pe_w 4).toNat)) 10 (pe_w 4) ((pe_w 4).toNat)) rfl ?_ ?_
  · first
    | (simp (disch := omega) only [pe_all, pe_wi (x := 4) ⟨by decide, by decide⟩]; done)
    | (simp (disch := omega) only [pe_all, pe_wi (x := 4) ⟨by decide, by decide⟩]; (repeat' apply And.intro) <;> first | assumption | omega | decide)
  · try simp (disch := omega) only [pe_wi (x := 4) ⟨by decide, by decide⟩]
    exact k
theorem b100_79 {d : Nat} {Φ : Option pe_V → pe_H → Prop} {σ : pe_H} {a0 : Nat} {x1 : Int} {x2 : Int} {x3 : Int} {a4 : Nat} {a5 : Nat} {x6 : Int} {o7 : Option pe_V} (f_a0 : pk_Fs a0 σ := by assumption) (w0 : pe_in x6 := by unfold pe_in; omega)  (k1 : 4 ≤ x6 → pe_X d 100 (175, [some (.inr (.inr a0)), some (.inl x1), some (.inl x2), some (.inl x3), some (.inr (.inr a4)), some (.inr (.inr a5)), some (.inl x6), o7], [], σ) Φ) (k2 : ¬ (4 ≤ x6) → pe_X d 100 (85, [some (.inr (.inr a0)), some (.inl x1), some (.inl x2), some (.inl x3), some (.inr (.inr a4)), some (.inr (.inr a5)), some (.inl x6), o7], [], σ) Φ) : pe_X d 100 (79, [some (.inr (.inr a0)), some (.inl x1), some (.inl x2), some (.inl x3), some (.inr (.inr a4)), some (.inr (.inr a5)), some (.inl x6), o7], [], σ) Φ := by
  refine pe_blk 42 3 ck100 [] (cond (decide ((pe_w 4) ≤ (pe_w x6))) 175 85, [some (.inr (.inr a0)), some (.inl x1), some (.inl x2), some (.inl x3), some (.inr (.inr a4)), some (.inr (.inr a5)), some (.inl x6), o7], [], σ) rfl ?_ ?_
  · exact trivial
  · try simp (disch := omega) only [pe_wi w0, pe_wi (x := 4) ⟨by decide, by decide⟩]
    exact pe_two k1 k2
theorem b100_85 {d : Nat} {Φ : Option pe_V → pe_H → Prop} {σ : pe_H} {a0 : Nat} {x1 : Int} {x2 : Int} {x3 : Int} {a4 : Nat} {a5 : Nat} {x6 : Int} {o7 : Option pe_V} (f_a0 : pk_Fs a0 σ := by assumption)   (k : pe_M d 122 [.inr (.inr a0)] σ (fun r σ' => pe_X d 100 (89, [some (.inr (.inr a0)), some (.inl x1), some (.inl x2), some (.inl x3), some (.inr (.inr a4)), some (.inr (.inr a5)), some (.inl x6), o7], r.toList ++ [], σ') Φ)) : pe_X d 100 (85, [some (.inr (.inr a0)), some (.inl x1), some (.inl x2), some (.inl x3), some (.inr (.inr a4)), some (.inr (.inr a5)), some (.inl x6), o7], [], σ) Φ := by
  refine pe_blk 45 1 ck100 [] (86, [some (.inr (.inr a0)), some (.inl x1), some (.inl x2), some (.inl x3), some (.inr (.inr a4)), some (.inr (.inr a5)), some (.inl x6), o7], [.inr (.inr a0)], σ) rfl ?_ ?_
  · exact trivial
  · try simp (disch := omega) only [pe_K_wI, pe_K_wR, pk_sK f_a0]
    have hrc : pe_K σ a0 = 8 := by first | assumption | (simp (disch := omega) only [pe_K_wI, pe_K_wR, pk_sK f_a0]; done) | (simp (disch := omega) only [pe_K_wI, pe_K_wR, pk_sK f_a0]; assumption)
    exact pe_cal 46 ck100 rfl rfl rfl ⟨hrc, by decide⟩ k
set_option maxRecDepth 8000 in
theorem b100_89 {d : Nat} {Φ : Option pe_V → pe_H → Prop} {σ : pe_H} {a0 : Nat} {x1 : Int} {x2 : Int} {x3 : Int} {a4 : Nat} {a5 : Nat} {x6 : Int} {o7 : Option pe_V} {b0 : Nat} (f_a0 : pk_Fs a0 σ := by assumption) (f_b0 : pk_Fm b0 σ := by assumption)   (k : pe_M d 125 [.inr (.inr b0), .inl x1, .inl (pe_shr x6 1)] σ (fun r σ' => pe_X d 100 (101, [some (.inr (.inr a0)), some (.inl x1), some (.inl x2), some (.inl x3), some (.inr (.inr a4)), some (.inr (.inr a5)), some (.inl x6), some (.inr (.inr b0))], r.toList ++ [], σ') Φ)) : pe_X d 100 (89, [some (.inr (.inr a0)), some (.inl x1), some (.inl x2), some (.inl x3), some (.inr (.inr a4)), some (.inr (.inr a5)), some (.inl x6), o7], [.inr (.inr b0)], σ) Φ := by
  refine pe_blk 47 6 ck100 [] (98, [some (.inr (.inr a0)), some (.inl x1), some (.inl x2), some (.inl x3), some (.inr (.inr a4)), some (.inr (.inr a5)), some (.inl x6), some (.inr (.inr b0))], [.inl (pe_shr x6 1), .inl x1, .inr (.inr b0)], σ) rfl ?_ ?_
  · exact trivial
  · exact pe_cal 53 ck100 rfl rfl rfl trivial k
set_option maxRecDepth 8000 in
theorem b100_101 {d : Nat} {Φ : Option pe_V → pe_H → Prop} {σ : pe_H} {a0 : Nat} {x1 : Int} {x2 : Int} {x3 : Int} {a4 : Nat} {a5 : Nat} {x6 : Int} {a7 : Nat} (f_a0 : pk_Fs a0 σ := by assumption) (f_a7 : pk_Fm a7 σ := by assumption)   (k : pe_M d 125 [.inr (.inr a7), .inl x2, .inl (pe_and x6 1)] σ (fun r σ' => pe_X d 100 (111, [some (.inr (.inr a0)), some (.inl x1), some (.inl x2), some (.inl x3), some (.inr (.inr a4)), some (.inr (.inr a5)), some (.inl x6), some (.inr (.inr a7))], r.toList ++ [], σ') Φ)) : pe_X d 100 (101, [some (.inr (.inr a0)), some (.inl x1), some (.inl x2), some (.inl x3), some (.inr (.inr a4)), some (.inr (.inr a5)), some (.inl x6), some (.inr (.inr a7))], [], σ) Φ := by
  refine pe_blk 54 5 ck100 [] (108, [some (.inr (.inr a0)), some (.inl x1), some (.inl x2), some (.inl x3), some (.inr (.inr a4)), some (.inr (.inr a5)), some (.inl x6), some (.inr (.inr a7))], [.inl (pe_and x6 1), .inl x2, .inr (.inr a7)], σ) rfl ?_ ?_
  · exact trivial
  · exact pe_cal 59 ck100 rfl rfl rfl trivial k
set_option maxRecDepth 8000 in
theorem b100_111 {d : Nat} {Φ : Option pe_V → pe_H → Prop} {σ : pe_H} {a0 : Nat} {x1 : Int} {x2 : Int} {x3 : Int} {a4 : Nat} {a5 : Nat} {x6 : Int} {a7 : Nat} (f_a0 : pk_Fs a0 σ := by assumption) (f_a7 : pk_Fm a7 σ := by assumption)   (k : pe_M d 27 [.inr (.inr a7), .inl x3] σ (fun r σ' => pe_X d 100 (117, [some (.inr (.inr a0)), some (.inl x1), some (.inl x2), some (.inl x3), some (.inr (.inr a4)), some (.inr (.inr a5)), some (.inl x6), some (.inr (.inr a7))], r.toList ++ [], σ') Φ)) : pe_X d 100 (111, [some (.inr (.inr a0)), some (.inl x1), some (.inl x2), some (.inl x3), some (.inr (.inr a4)), some (.inr (.inr a5)), some (.inl x6), some (.inr (.inr a7))], [], σ) Φ := by
  refine pe_blk 60 2 ck100 [] (114, [some (.inr (.inr a0)), some (.inl x1), some (.inl x2), some (.inl x3), some (.inr (.inr a4)), some (.inr (.inr a5)), some (.inl x6), some (.inr (.inr a7))], [.inl x3, .inr (.inr a7)], σ) rfl ?_ ?_
  · exact trivial
  · try simp (disch := omega) only [pe_K_wI, pe_K_wR, pk_mK f_a7]
    have hrc : pe_K σ a7 = 2 := by first | assumption | (simp (disch := omega) only [pe_K_wI, pe_K_wR, pk_mK f_a7]; done) | (simp (disch := omega) only [pe_K_wI, pe_K_wR, pk_mK f_a7]; assumption)
    exact pe_cal 62 ck100 rfl rfl rfl ⟨hrc, by decide⟩ k
set_option maxRecDepth 8000 in
theorem b100_117 {d : Nat} {Φ : Option pe_V → pe_H → Prop} {σ : pe_H} {a0 : Nat} {x1 : Int} {x2 : Int} {x3 : Int} {a4 : Nat} {a5 : Nat} {x6 : Int} {a7 : Nat} (f_a0 : pk_Fs a0 σ := by assumption) (f_a7 : pk_Fm a7 σ := by assumption) (w0 : pe_in x1 := by unfold pe_in; omega) (w1 : pe_in x2 := by unfold pe_in; omega) (h0 : 0 ≤ x1 := by first | assumption | omega) (h1 : x1 < 8 := by first | assumption | omega) (h2 : 0 ≤ x2 := by first | assumption | omega) (h3 : x2 < 8 := by first | assumption | omega) (k : pe_M d 126 [.inr (.inr (pk_c a7 x1)), .inr (.inr (pk_c a7 x2)), .inl (pe_shr x6 1)] σ (fun r σ' => pe_X d 100 (142, [some (.inr (.inr a0)), some (.inl x1), some (.inl x2), some (.inl x3), some (.inr (.inr a4)), some (.inr (.inr a5)), some (.inl x6), some (.inr (.inr a7))], r.toList ++ [.inl x6, .inr (.inr a4)], σ') Φ)) : pe_X d 100 (117, [some (.inr (.inr a0)), some (.inl x1), some (.inl x2), some (.inl x3), some (.inr (.inr a4)), some (.inr (.inr a5)), some (.inl x6), some (.inr (.inr a7))], [], σ) Φ := by
  refine pe_blk 63 13 ck100 [pe_K σ a7 = 2, 12 ≤ pe_K σ (pe_R σ a7 1) ∧ pe_K σ (pe_R σ a7 1) < 19, 0 ≤ (pe_w x1), (pe_w x1) < pe_L σ (pe_R σ a7 1), pe_K σ a7 = 2, 12 ≤ pe_K σ (pe_R σ a7 1) ∧ pe_K σ (pe_R σ a7 1) < 19, 0 ≤ (pe_w x2), (pe_w x2) < pe_L σ (pe_R σ a7 1)] (139, [some (.inr (.inr a0)), some (.inl x1), some (.inl x2), some (.inl x3), some (.inr (.inr a4)), some (.inr (.inr a5)), some (.inl x6), some (.inr (.inr a7))], [.inl (pe_shr x6 1), .inr (.inr (pe_R σ (pe_R σ a7 1) (pe_w x2))), .inr (.inr (pe_R σ (pe_R σ a7 1) (pe_w x1))), .inl x6, .inr (.inr a4)], σ) rfl ?_ ?_
  · first
    | (simp (disch := omega) only [pe_all, pe_wi w0, pe_wi w1, pe_K_wI, pe_K_wR, pe_L_wI, pe_L_wR, pe_R_nej, pe_R_ner, pe_R_wI, pk_mE2 f_a7 (i := x1) (by omega) (by omega), pk_mE2 f_a7 (i := x2) (by omega) (by omega), pk_mK f_a7, pk_mK2 f_a7, pk_mL2 f_a7, pk_mR2 f_a7]; done)
    | (simp (disch := omega) only [pe_all, pe_wi w0, pe_wi w1, pe_K_wI, pe_K_wR, pe_L_wI, pe_L_wR, pe_R_nej, pe_R_ner, pe_R_wI, pk_mE2 f_a7 (i := x1) (by omega) (by omega), pk_mE2 f_a7 (i := x2) (by omega) (by omega), pk_mK f_a7, pk_mK2 f_a7, pk_mL2 f_a7, pk_mR2 f_a7]; (repeat' apply And.intro) <;> first | assumption | omega | decide)
  · try simp (disch := omega) only [pe_wi w0, pe_wi w1, pe_K_wI, pe_K_wR, pe_L_wI, pe_L_wR, pe_R_nej, pe_R_ner, pe_R_wI, pk_mE2 f_a7 (i := x1) (by omega) (by omega), pk_mE2 f_a7 (i := x2) (by omega) (by omega), pk_mK f_a7, pk_mK2 f_a7, pk_mL2 f_a7, pk_mR2 f_a7]
    exact pe_cal 76 ck100 rfl rfl rfl trivial k
set_option maxRecDepth 8000 in
theorem b100_142 {d : Nat} {Φ : Option pe_V → pe_H → Prop} {σ : pe_H} {a0 : Nat} {x1 : Int} {x2 : Int} {x3 : Int} {a4 : Nat} {a5 : Nat} {x6 : Int} {a7 : Nat} {b0 : Nat} {s1 : Int} {s2 : Int} (f_a0 : pk_Fs a0 σ := by assumption) (f_a7 : pk_Fm a7 σ := by assumption) (w0 : pe_in s1 := by unfold pe_in; omega) (w1 : pe_in x2 := by unfold pe_in; omega) (w2 : pe_in x1 := by unfold pe_in; omega) (h0 : pe_K σ b0 = 10 := by first | assumption | omega) (h1 : 0 ≤ s1 := by first | assumption | omega) (h2 : s1 < pe_L σ b0 := by first | assumption | omega) (h3 : 2 ≤ b0 := by first | assumption | omega) (h4 : 0 ≤ x2 := by first | assumption | omega) (h5 : x2 < 8 := by first | assumption | omega) (h6 : 0 ≤ x1 := by first | assumption | omega) (h7 : x1 < 8 := by first | assumption | omega) (k : pe_M d 126 [.inr (.inr (pk_c a7 x2)), .inr (.inr (pk_c a7 x1)), .inl (pe_and x6 1)] (pe_wI σ b0 s1 s2) (fun r σ' => pe_X d 100 (168, [some (.inr (.inr a0)), some (.inl x1), some (.inl x2), some (.inl x3), some (.inr (.inr a4)), some (.inr (.inr a5)), some (.inl x6), some (.inr (.inr a7))], r.toList ++ [.inl x6, .inr (.inr a5)], σ') Φ)) : pe_X d 100 (142, [some (.inr (.inr a0)), some (.inl x1), some (.inl x2), some (.inl x3), some (.inr (.inr a4)), some (.inr (.inr a5)), some (.inl x6), some (.inr (.inr a7))], [.inl s2, .inl s1, .inr (.inr b0)], σ) Φ := by
  refine pe_blk 77 14 ck100 [pe_K σ b0 = 10, 0 ≤ (pe_w s1), (pe_w s1) < pe_L σ b0, 2 ≤ b0, pe_K (pe_wI σ b0 (pe_w s1) s2) a7 = 2, 12 ≤ pe_K (pe_wI σ b0 (pe_w s1) s2) (pe_R (pe_wI σ b0 (pe_w s1) s2) a7 1) ∧ pe_K (pe_wI σ b0 (pe_w s1) s2) (pe_R (pe_wI σ b0 (pe_w s1) s2) a7 1) < 19, 0 ≤ (pe_w x2), (pe_w x2) < pe_L (pe_wI σ b0 (pe_w s1) s2) (pe_R (pe_wI σ b0 (pe_w s1) s2) a7 1), pe_K (pe_wI σ b0 (pe_w s1) s2) a7 = 2, 12 ≤ pe_K (pe_wI σ b0 (pe_w s1) s2) (pe_R (pe_wI σ b0 (pe_w s1) s2) a7 1) ∧ pe_K (pe_wI σ b0 (pe_w s1) s2) (pe_R (pe_wI σ b0 (pe_w s1) s2) a7 1) < 19, 0 ≤ (pe_w x1), (pe_w x1) < pe_L (pe_wI σ b0 (pe_w s1) s2) (pe_R (pe_wI σ b0 (pe_w s1) s2) a7 1)] (165, [some (.inr (.inr a0)), some (.inl x1), some (.inl x2), some (.inl x3), some (.inr (.inr a4)), some (.inr (.inr a5)), some (.inl x6), some (.inr (.inr a7))], [.inl (pe_and x6 1), .inr (.inr (pe_R (pe_wI σ b0 (pe_w s1) s2) (pe_R (pe_wI σ b0 (pe_w s1) s2) a7 1) (pe_w x1))), .inr (.inr (pe_R (pe_wI σ b0 (pe_w s1) s2) (pe_R (pe_wI σ b0 (pe_w s1) s2) a7 1) (pe_w x2))), .inl x6, .inr (.inr a5)], pe_wI σ b0 (pe_w s1) s2) rfl ?_ ?_
  · first
    | (simp (disch := omega) only [pe_all, pe_wi w0, pe_wi w1, pe_wi w2, pe_K_wI, pe_K_wR, pe_L_wI, pe_L_wR, pe_R_nej, pe_R_ner, pe_R_wI, pk_mE2 f_a7 (i := x1) (by omega) (by omega), pk_mE2 f_a7 (i := x2) (by omega) (by omega), pk_mK f_a7, pk_mK2 f_a7, pk_mL2 f_a7, pk_mR2 f_a7]; done)
    | (simp (disch := omega) only [pe_all, pe_wi w0, pe_wi w1, pe_wi w2, pe_K_wI, pe_K_wR, pe_L_wI, pe_L_wR, pe_R_nej, pe_R_ner, pe_R_wI, pk_mE2 f_a7 (i := x1) (by omega) (by omega), pk_mE2 f_a7 (i := x2) (by omega) (by omega), pk_mK f_a7, pk_mK2 f_a7, pk_mL2 f_a7, pk_mR2 f_a7]; (repeat' apply And.intro) <;> first | assumption | omega | decide)
  · try simp (disch := omega) only [pe_wi w0, pe_wi w1, pe_wi w2, pe_K_wI, pe_K_wR, pe_L_wI, pe_L_wR, pe_R_nej, pe_R_ner, pe_R_wI, pk_mE2 f_a7 (i := x1) (by omega) (by omega), pk_mE2 f_a7 (i := x2) (by omega) (by omega), pk_mK f_a7, pk_mK2 f_a7, pk_mL2 f_a7, pk_mR2 f_a7]
    exact pe_cal 91 ck100 rfl rfl rfl trivial k
set_option maxRecDepth 8000 in
theorem b100_168 {d : Nat} {Φ : Option pe_V → pe_H → Prop} {σ : pe_H} {a0 : Nat} {x1 : Int} {x2 : Int} {x3 : Int} {a4 : Nat} {a5 : Nat} {x6 : Int} {o7 : Option pe_V} {b0 : Nat} {s1 : Int} {s2 : Int} (f_a0 : pk_Fs a0 σ := by assumption) (w0 : pe_in s1 := by unfold pe_in; omega) (h0 : pe_K σ b0 = 10 := by first | assumption | omega) (h1 : 0 ≤ s1 := by first | assumption | omega) (h2 : s1 < pe_L σ b0 := by first | assumption | omega) (h3 : 2 ≤ b0 := by first | assumption | omega) (k : pe_X d 100 (79, [some (.inr (.inr a0)), some (.inl x1), some (.inl x2), some (.inl x3), some (.inr (.inr a4)), some (.inr (.inr a5)), some (.inl (x6 + 1)), o7], [], pe_wI σ b0 s1 s2) Φ) : pe_X d 100 (168, [some (.inr (.inr a0)), some (.inl x1), some (.inl x2), some (.inl x3), some (.inr (.inr a4)), some (.inr (.inr a5)), some (.inl x6), o7], [.inl s2, .inl s1, .inr (.inr b0)], σ) Φ := by
  refine pe_blk 92 3 ck100 [pe_K σ b0 = 10, 0 ≤ (pe_w s1), (pe_w s1) < pe_L σ b0, 2 ≤ b0] (79, [some (.inr (.inr a0)), some (.inl x1), some (.inl x2), some (.inl x3), some (.inr (.inr a4)), some (.inr (.inr a5)), some (.inl (x6 + 1)), o7], [], pe_wI σ b0 (pe_w s1) s2) rfl ?_ ?_
  · first
    | (simp (disch := omega) only [pe_all, pe_wi w0, pe_K_wI, pe_K_wR, pe_L_wI, pe_L_wR]; done)
    | (simp (disch := omega) only [pe_all, pe_wi w0, pe_K_wI, pe_K_wR, pe_L_wI, pe_L_wR]; (repeat' apply And.intro) <;> first | assumption | omega | decide)
  · try simp (disch := omega) only [pe_wi w0, pe_K_wI, pe_K_wR, pe_L_wI, pe_L_wR]
    exact k
set_option maxRecDepth 8000 in
theorem b100_175 {d : Nat} {Φ : Option pe_V → pe_H → Prop} {σ : pe_H} {o0 : Option pe_V} {o1 : Option pe_V} {o2 : Option pe_V} {o3 : Option pe_V} {a4 : Nat} {a5 : Nat} {o6 : Option pe_V} {o7 : Option pe_V}    (k : pe_X d 100 (178, [o0, o1, o2, o3, some (.inr (.inr a4)), some (.inr (.inr a5)), some (.inl 0), o7], [], σ) Φ) : pe_X d 100 (175, [o0, o1, o2, o3, some (.inr (.inr a4)), some (.inr (.inr a5)), o6, o7], [], σ) Φ := by
  refine pe_blk 95 2 ck100 [] (178, [o0, o1, o2, o3, some (.inr (.inr a4)), some (.inr (.inr a5)), some (.inl 0), o7], [], σ) rfl ?_ ?_
  · exact trivial
  · exact k
set_option maxRecDepth 8000 in
theorem b100_178 {d : Nat} {Φ : Option pe_V → pe_H → Prop} {σ : pe_H} {o0 : Option pe_V} {o1 : Option pe_V} {o2 : Option pe_V} {o3 : Option pe_V} {a4 : Nat} {a5 : Nat} {x6 : Int} {o7 : Option pe_V}  (w0 : pe_in x6 := by unfold pe_in; omega)  (k1 : 4 ≤ x6 → pe_X d 100 (233, [o0, o1, o2, o3, some (.inr (.inr a4)), some (.inr (.inr a5)), some (.inl x6), o7], [], σ) Φ) (k2 : ¬ (4 ≤ x6) → pe_X d 100 (184, [o0, o1, o2, o3, some (.inr (.inr a4)), some (.inr (.inr a5)), some (.inl x6), o7], [], σ) Φ) : pe_X d 100 (178, [o0, o1, o2, o3, some (.inr (.inr a4)), some (.inr (.inr a5)), some (.inl x6), o7], [], σ) Φ := by
  refine pe_blk 97 3 ck100 [] (cond (decide ((pe_w 4) ≤ (pe_w x6))) 233 184, [o0, o1, o2, o3, some (.inr (.inr a4)), some (.inr (.inr a5)), some (.inl x6), o7], [], σ) rfl ?_ ?_
  · exact trivial
  · try simp (disch := omega) only [pe_wi w0, pe_wi (x := 4) ⟨by decide, by decide⟩]
    exact pe_two k1 k2
set_option maxRecDepth 8000 in
theorem b100_184 {d : Nat} {Φ : Option pe_V → pe_H → Prop} {σ : pe_H} {o0 : Option pe_V} {o1 : Option pe_V} {o2 : Option pe_V} {o3 : Option pe_V} {a4 : Nat} {a5 : Nat} {x6 : Int} {o7 : Option pe_V}  (w0 : pe_in x6 := by unfold pe_in; omega) (w1 : pe_in (pe_xor x6 2) := by unfold pe_in; omega) (w2 : pe_in (pe_I σ a4 (pe_xor x6 2)) := by unfold pe_in; omega) (w3 : pe_in (pe_I σ a4 x6) := by unfold pe_in; omega) (h0 : pe_K σ a4 = 10 := by first | assumption | omega) (h1 : 0 ≤ x6 := by first | assumption | omega) (h2 : x6 < pe_L σ a4 := by first | assumption | omega) (h3 : 0 ≤ (pe_xor x6 2) := by first | assumption | omega) (h4 : (pe_xor x6 2) < pe_L σ a4 := by first | assumption | omega) (k1 : (pe_I σ a4 x6) < (pe_I σ a4 (pe_xor x6 2)) → pe_X d 100 (227, [o0, o1, o2, o3, some (.inr (.inr a4)), some (.inr (.inr a5)), some (.inl x6), o7], [], σ) Φ) (k2 : ¬ ((pe_I σ a4 x6) < (pe_I σ a4 (pe_xor x6 2))) → pe_X d 100 (199, [o0, o1, o2, o3, some (.inr (.inr a4)), some (.inr (.inr a5)), some (.inl x6), o7], [], σ) Φ) : pe_X d 100 (184, [o0, o1, o2, o3, some (.inr (.inr a4)), some (.inr (.inr a5)), some (.inl x6), o7], [], σ) Φ := by
  refine pe_blk 100 9 ck100 [pe_K σ a4 = 10, 0 ≤ (pe_w x6), (pe_w x6) < pe_L σ a4, pe_K σ a4 = 10, 0 ≤ (pe_w (pe_xor x6 2)), (pe_w (pe_xor x6 2)) < pe_L σ a4] (cond (decide ((pe_w (pe_I σ a4 (pe_w x6))) < (pe_w (pe_I σ a4 (pe_w (pe_xor x6 2)))))) 227 199, [o0, o1, o2, o3, some (.inr (.inr a4)), some (.inr (.inr a5)), some (.inl x6), o7], [], σ) rfl ?_ ?_
  · first
    | (simp (disch := omega) only [pe_all, pe_wi w0, pe_wi w1, pe_wi w2, pe_wi w3, pe_K_wI, pe_K_wR, pe_L_wI, pe_L_wR]; done)
    | (simp (disch := omega) only [pe_all, pe_wi w0, pe_wi w1, pe_wi w2, pe_wi w3, pe_K_wI, pe_K_wR, pe_L_wI, pe_L_wR]; (repeat' apply And.intro) <;> first | assumption | omega | decide)
  · try simp (disch := omega) only [pe_wi w0, pe_wi w1, pe_wi w2, pe_wi w3, pe_K_wI, pe_K_wR, pe_L_wI, pe_L_wR]
    exact pe_two k1 k2
set_option maxRecDepth 8000 in
theorem b100_199 {d : Nat} {Φ : Option pe_V → pe_H → Prop} {σ : pe_H} {o0 : Option pe_V} {o1 : Option pe_V} {o2 : Option pe_V} {o3 : Option pe_V} {a4 : Nat} {a5 : Nat} {x6 : Int} {o7 : Option pe_V}  (w0 : pe_in x6 := by unfold pe_in; omega) (w1 : pe_in (pe_xor x6 1) := by unfold pe_in; omega) (w2 : pe_in (pe_I σ a5 (pe_xor x6 1)) := by unfold pe_in; omega) (w3 : pe_in (pe_I σ a5 x6) := by unfold pe_in; omega) (h0 : pe_K σ a5 = 10 := by first | assumption | omega) (h1 : 0 ≤ x6 := by first | assumption | omega) (h2 : x6 < pe_L σ a5 := by first | assumption | omega) (h3 : 0 ≤ (pe_xor x6 1) := by first | assumption | omega) (h4 : (pe_xor x6 1) < pe_L σ a5 := by first | assumption | omega) (k1 : (pe_I σ a5 x6) < (pe_I σ a5 (pe_xor x6 1)) → pe_X d 100 (227, [o0, o1, o2, o3, some (.inr (.inr a4)), some (.inr (.inr a5)), some (.inl x6), o7], [], σ) Φ) (k2 : ¬ ((pe_I σ a5 x6) < (pe_I σ a5 (pe_xor x6 1))) → pe_X d 100 (214, [o0, o1, o2, o3, some (.inr (.inr a4)), some (.inr (.inr a5)), some (.inl x6), o7], [], σ) Φ) : pe_X d 100 (199, [o0, o1, o2, o3, some (.inr (.inr a4)), some (.inr (.inr a5)), some (.inl x6), o7], [], σ) Φ := by
  refine pe_blk 109 9 ck100 [pe_K σ a5 = 10, 0 ≤ (pe_w x6), (pe_w x6) < pe_L σ a5, pe_K σ a5 = 10, 0 ≤ (pe_w (pe_xor x6 1)), (pe_w (pe_xor x6 1)) < pe_L σ a5] (cond (decide ((pe_w (pe_I σ a5 (pe_w x6))) < (pe_w (pe_I σ a5 (pe_w (pe_xor x6 1)))))) 227 214, [o0, o1, o2, o3, some (.inr (.inr a4)), some (.inr (.inr a5)), some (.inl x6), o7], [], σ) rfl ?_ ?_
  · first
    | (simp (disch := omega) only [pe_all, pe_wi w0, pe_wi w1, pe_wi w2, pe_wi w3, pe_K_wI, pe_K_wR, pe_L_wI, pe_L_wR]; done)
    | (simp (disch := omega) only [pe_all, pe_wi w0, pe_wi w1, pe_wi w2, pe_wi w3, pe_K_wI, pe_K_wR, pe_L_wI, pe_L_wR]; (repeat' apply And.intro) <;> first | assumption | omega | decide)
  · try simp (disch := omega) only [pe_wi w0, pe_wi w1, pe_wi w2, pe_wi w3, pe_K_wI, pe_K_wR, pe_L_wI, pe_L_wR]
    exact pe_two k1 k2
set_option maxRecDepth 8000 in
theorem b100_214 {d : Nat} {Φ : Option pe_V → pe_H → Prop} {σ : pe_H} {o0 : Option pe_V} {o1 : Option pe_V} {o2 : Option pe_V} {o3 : Option pe_V} {o4 : Option pe_V} {o5 : Option pe_V} {x6 : Int} {o7 : Option pe_V}    (k : Φ (some (.inl ((10 * (pe_shr x6 1)) + (pe_and x6 1)))) σ) : pe_X d 100 (214, [o0, o1, o2, o3, o4, o5, some (.inl x6), o7], [], σ) Φ := by
  refine pe_blk 118 9 ck100 [] (226, [o0, o1, o2, o3, o4, o5, some (.inl x6), o7], [.inl ((10 * (pe_shr x6 1)) + (pe_and x6 1))], σ) rfl ?_ ?_
  · exact trivial
  · exact pe_fine 127 ck100 rfl rfl rfl trivial k
set_option maxRecDepth 8000 in
theorem b100_227 {d : Nat} {Φ : Option pe_V → pe_H → Prop} {σ : pe_H} {o0 : Option pe_V} {o1 : Option pe_V} {o2 : Option pe_V} {o3 : Option pe_V} {a4 : Nat} {a5 : Nat} {x6 : Int} {o7 : Option pe_V}    (k : pe_X d 100 (178, [o0, o1, o2, o3, some (.inr (.inr a4)), some (.inr (.inr a5)), some (.inl (x6 + 1)), o7], [], σ) Φ) : pe_X d 100 (227, [o0, o1, o2, o3, some (.inr (.inr a4)), some (.inr (.inr a5)), some (.inl x6), o7], [], σ) Φ := by
  refine pe_blk 128 2 ck100 [] (178, [o0, o1, o2, o3, some (.inr (.inr a4)), some (.inr (.inr a5)), some (.inl (x6 + 1)), o7], [], σ) rfl ?_ ?_
  · exact trivial
  · exact k
set_option maxRecDepth 8000 in
theorem b100_233 {d : Nat} {Φ : Option pe_V → pe_H → Prop} {σ : pe_H} {o0 : Option pe_V} {o1 : Option pe_V} {o2 : Option pe_V} {o3 : Option pe_V} {o4 : Option pe_V} {o5 : Option pe_V} {o6 : Option pe_V} {o7 : Option pe_V}    (k : Φ (some (.inl (-4))) σ) : pe_X d 100 (233, [o0, o1, o2, o3, o4, o5, o6, o7], [], σ) Φ := by
  refine pe_blk 130 1 ck100 [] (235, [o0, o1, o2, o3, o4, o5, o6, o7], [.inl (-4)], σ) rfl ?_ ?_
  · exact trivial
  · exact pe_fine 131 ck100 rfl rfl rfl trivial k
-- StepMachines.lost(IIII)J
def T101 : List (Nat × Instr × Nat) := [(0, .aload_n 0, 1), (1, .iload_n 1, 1), (2, .invokevirtual 107, 3), (5, .ifCond .eq 35, 3), (8, .iload_n 2, 1), (9, .ifCond .lt 31, 3), (12, .iload_n 2, 1), (13, .bipush 7, 2), (15, .if_icmp .gt 25, 3), (18, .iload_n 3, 1), (19, .iconst 2, 1), (20, .if_icmp .lt 20, 3), (23, .iload_n 3, 1), (24, .bipush 20, 2), (26, .if_icmp .gt 14, 3), (29, .iload 4, 2), (31, .ifCond .lt 9, 3), (34, .iload 4, 2), (36, .iconst 1, 1), (37, .if_icmp .le 7, 3), (40, .ldc2_w 258, 3), (43, .lreturn, 1), (44, .aload_n 0, 1), (45, .getfield 19, 3), (48, .iconst 0, 1), (49, .aaload, 1), (50, .aload_n 0, 1), (51, .getfield 10, 3), (54, .invokevirtual 77, 3), (57, .aload_n 0, 1), (58, .getfield 19, 3), (61, .iconst 0, 1), (62, .iload_n 2, 1), (63, .iload_n 1, 1), (64, .iload_n 3, 1), (65, .invokestatic 260, 3), (68, .iload_n 3, 1), (69, .iload_n 2, 1), (70, .invokestatic 264, 3), (73, .iload 4, 2), (75, .invokestatic 268, 3), (78, .lreturn, 1)]
theorem ck101 : pe_ctx 101 8 false (some .long) 5 T101 := ⟨rfl, rfl, rfl, rfl, by decide +kernel, by decide, by decide⟩
theorem b101_0 {d : Nat} {Φ : Option pe_V → pe_H → Prop} {σ : pe_H} {a0 : Nat} {x1 : Int} {x2 : Int} {x3 : Int} {x4 : Int} (f_a0 : pk_Fs a0 σ := by assumption)   (k : pe_M d 117 [.inr (.inr a0), .inl x1] σ (fun r σ' => pe_X d 101 (5, [some (.inr (.inr a0)), some (.inl x1), some (.inl x2), some (.inl x3), some (.inl x4)], r.toList ++ [], σ') Φ)) : pe_X d 101 (0, [some (.inr (.inr a0)), some (.inl x1), some (.inl x2), some (.inl x3), some (.inl x4)], [], σ) Φ := by
  refine pe_blk 0 2 ck101 [] (2, [some (.inr (.inr a0)), some (.inl x1), some (.inl x2), some (.inl x3), some (.inl x4)], [.inl x1, .inr (.inr a0)], σ) rfl ?_ ?_
  · exact trivial
  · try simp (disch := omega) only [pe_K_wI, pe_K_wR, pk_sK f_a0]
    have hrc : pe_K σ a0 = 8 := by first | assumption | (simp (disch := omega) only [pe_K_wI, pe_K_wR, pk_sK f_a0]; done) | (simp (disch := omega) only [pe_K_wI, pe_K_wR, pk_sK f_a0]; assumption)
    exact pe_cal 2 ck101 rfl rfl rfl ⟨hrc, by decide⟩ k
theorem b101_5 {d : Nat} {Φ : Option pe_V → pe_H → Prop} {σ : pe_H} {a0 : Nat} {x1 : Int} {x2 : Int} {x3 : Int} {x4 : Int} {s0 : Int} (f_a0 : pk_Fs a0 σ := by assumption) (w0 : pe_in s0 := by unfold pe_in; omega)  (k1 : s0 = 0 → pe_X d 101 (40, [some (.inr (.inr a0)), some (.inl x1), some (.inl x2), some (.inl x3), some (.inl x4)], [], σ) Φ) (k2 : ¬ (s0 = 0) → pe_X d 101 (8, [some (.inr (.inr a0)), some (.inl x1), some (.inl x2), some (.inl x3), some (.inl x4)], [], σ) Φ) : pe_X d 101 (5, [some (.inr (.inr a0)), some (.inl x1), some (.inl x2), some (.inl x3), some (.inl x4)], [.inl s0], σ) Φ := by
  refine pe_blk 3 1 ck101 [] (cond (decide ((pe_w s0) = 0)) 40 8, [some (.inr (.inr a0)), some (.inl x1), some (.inl x2), some (.inl x3), some (.inl x4)], [], σ) rfl ?_ ?_
  · exact trivial
  · try simp (disch := omega) only [pe_wi w0]
    exact pe_two k1 k2
theorem b101_8 {d : Nat} {Φ : Option pe_V → pe_H → Prop} {σ : pe_H} {a0 : Nat} {x1 : Int} {x2 : Int} {x3 : Int} {x4 : Int} (f_a0 : pk_Fs a0 σ := by assumption) (w0 : pe_in x2 := by unfold pe_in; omega)  (k1 : x2 < 0 → pe_X d 101 (40, [some (.inr (.inr a0)), some (.inl x1), some (.inl x2), some (.inl x3), some (.inl x4)], [], σ) Φ) (k2 : ¬ (x2 < 0) → pe_X d 101 (12, [some (.inr (.inr a0)), some (.inl x1), some (.inl x2), some (.inl x3), some (.inl x4)], [], σ) Φ) : pe_X d 101 (8, [some (.inr (.inr a0)), some (.inl x1), some (.inl x2), some (.inl x3), some (.inl x4)], [], σ) Φ := by
  refine pe_blk 4 2 ck101 [] (cond (decide ((pe_w x2) < 0)) 40 12, [some (.inr (.inr a0)), some (.inl x1), some (.inl x2), some (.inl x3), some (.inl x4)], [], σ) rfl ?_ ?_
  · exact trivial
  · try simp (disch := omega) only [pe_wi w0]
    exact pe_two k1 k2
theorem b101_12 {d : Nat} {Φ : Option pe_V → pe_H → Prop} {σ : pe_H} {a0 : Nat} {x1 : Int} {x2 : Int} {x3 : Int} {x4 : Int} (f_a0 : pk_Fs a0 σ := by assumption) (w0 : pe_in x2 := by unfold pe_in; omega)  (k1 : 7 < x2 → pe_X d 101 (40, [some (.inr (.inr a0)), some (.inl x1), some (.inl x2), some (.inl x3), some (.inl x4)], [], σ) Φ) (k2 : ¬ (7 < x2) → pe_X d 101 (18, [some (.inr (.inr a0)), some (.inl x1), some (.inl x2), some (.inl x3), some (.inl x4)], [], σ) Φ) : pe_X d 101 (12, [some (.inr (.inr a0)), some (.inl x1), some (.inl x2), some (.inl x3), some (.inl x4)], [], σ) Φ := by
  refine pe_blk 6 3 ck101 [] (cond (decide ((pe_w 7) < (pe_w x2))) 40 18, [some (.inr (.inr a0)), some (.inl x1), some (.inl x2), some (.inl x3), some (.inl x4)], [], σ) rfl ?_ ?_
  · exact trivial
  · try simp (disch := omega) only [pe_wi w0, pe_wi (x := 7) ⟨by decide, by decide⟩]
    exact pe_two k1 k2
theorem b101_18 {d : Nat} {Φ : Option pe_V → pe_H → Prop} {σ : pe_H} {a0 : Nat} {x1 : Int} {x2 : Int} {x3 : Int} {x4 : Int} (f_a0 : pk_Fs a0 σ := by assumption) (w0 : pe_in x3 := by unfold pe_in; omega)  (k1 : x3 < 2 → pe_X d 101 (40, [some (.inr (.inr a0)), some (.inl x1), some (.inl x2), some (.inl x3), some (.inl x4)], [], σ) Φ) (k2 : ¬ (x3 < 2) → pe_X d 101 (23, [some (.inr (.inr a0)), some (.inl x1), some (.inl x2), some (.inl x3), some (.inl x4)], [], σ) Φ) : pe_X d 101 (18, [some (.inr (.inr a0)), some (.inl x1), some (.inl x2), some (.inl x3), some (.inl x4)], [], σ) Φ := by
  refine pe_blk 9 3 ck101 [] (cond (decide ((pe_w x3) < (pe_w 2))) 40 23, [some (.inr (.inr a0)), some (.inl x1), some (.inl x2), some (.inl x3), some (.inl x4)], [], σ) rfl ?_ ?_
  · exact trivial
  · try simp (disch := omega) only [pe_wi w0, pe_wi (x := 2) ⟨by decide, by decide⟩]
    exact pe_two k1 k2
theorem b101_23 {d : Nat} {Φ : Option pe_V → pe_H → Prop} {σ : pe_H} {a0 : Nat} {x1 : Int} {x2 : Int} {x3 : Int} {x4 : Int} (f_a0 : pk_Fs a0 σ := by assumption) (w0 : pe_in x3 := by unfold pe_in; omega)  (k1 : 20 < x3 → pe_X d 101 (40, [some (.inr (.inr a0)), some (.inl x1), some (.inl x2), some (.inl x3), some (.inl x4)], [], σ) Φ) (k2 : ¬ (20 < x3) → pe_X d 101 (29, [some (.inr (.inr a0)), some (.inl x1), some (.inl x2), some (.inl x3), some (.inl x4)], [], σ) Φ) : pe_X d 101 (23, [some (.inr (.inr a0)), some (.inl x1), some (.inl x2), some (.inl x3), some (.inl x4)], [], σ) Φ := by
  refine pe_blk 12 3 ck101 [] (cond (decide ((pe_w 20) < (pe_w x3))) 40 29, [some (.inr (.inr a0)), some (.inl x1), some (.inl x2), some (.inl x3), some (.inl x4)], [], σ) rfl ?_ ?_
  · exact trivial
  · try simp (disch := omega) only [pe_wi w0, pe_wi (x := 20) ⟨by decide, by decide⟩]
    exact pe_two k1 k2
theorem b101_29 {d : Nat} {Φ : Option pe_V → pe_H → Prop} {σ : pe_H} {a0 : Nat} {x1 : Int} {x2 : Int} {x3 : Int} {x4 : Int} (f_a0 : pk_Fs a0 σ := by assumption) (w0 : pe_in x4 := by unfold pe_in; omega)  (k1 : x4 < 0 → pe_X d 101 (40, [some (.inr (.inr a0)), some (.inl x1), some (.inl x2), some (.inl x3), some (.inl x4)], [], σ) Φ) (k2 : ¬ (x4 < 0) → pe_X d 101 (34, [some (.inr (.inr a0)), some (.inl x1), some (.inl x2), some (.inl x3), some (.inl x4)], [], σ) Φ) : pe_X d 101 (29, [some (.inr (.inr a0)), some (.inl x1), some (.inl x2), some (.inl x3), some (.inl x4)], [], σ) Φ := by
  refine pe_blk 15 2 ck101 [] (cond (decide ((pe_w x4) < 0)) 40 34, [some (.inr (.inr a0)), some (.inl x1), some (.inl x2), some (.inl x3), some (.inl x4)], [], σ) rfl ?_ ?_
  · exact trivial
  · try simp (disch := omega) only [pe_wi w0]
    exact pe_two k1 k2
theorem b101_34 {d : Nat} {Φ : Option pe_V → pe_H → Prop} {σ : pe_H} {a0 : Nat} {x1 : Int} {x2 : Int} {x3 : Int} {x4 : Int} (f_a0 : pk_Fs a0 σ := by assumption) (w0 : pe_in x4 := by unfold pe_in; omega)  (k1 : x4 ≤ 1 → pe_X d 101 (44, [some (.inr (.inr a0)), some (.inl x1), some (.inl x2), some (.inl x3), some (.inl x4)], [], σ) Φ) (k2 : ¬ (x4 ≤ 1) → pe_X d 101 (40, [some (.inr (.inr a0)), some (.inl x1), some (.inl x2), some (.inl x3), some (.inl x4)], [], σ) Φ) : pe_X d 101 (34, [some (.inr (.inr a0)), some (.inl x1), some (.inl x2), some (.inl x3), some (.inl x4)], [], σ) Φ := by
  refine pe_blk 17 3 ck101 [] (cond (decide ((pe_w x4) ≤ (pe_w 1))) 44 40, [some (.inr (.inr a0)), some (.inl x1), some (.inl x2), some (.inl x3), some (.inl x4)], [], σ) rfl ?_ ?_
  · exact trivial
  · try simp (disch := omega) only [pe_wi w0, pe_wi (x := 1) ⟨by decide, by decide⟩]
    exact pe_two k1 k2
theorem b101_40 {d : Nat} {Φ : Option pe_V → pe_H → Prop} {σ : pe_H} {o0 : Option pe_V} {o1 : Option pe_V} {o2 : Option pe_V} {o3 : Option pe_V} {o4 : Option pe_V}    (k : Φ (some (.inr (.inl 1000000001))) σ) : pe_X d 101 (40, [o0, o1, o2, o3, o4], [], σ) Φ := by
  refine pe_blk 20 1 ck101 [] (43, [o0, o1, o2, o3, o4], [.inr (.inl 1000000001)], σ) rfl ?_ ?_
  · exact trivial
  · exact pe_fine 21 ck101 rfl rfl rfl trivial k
theorem b101_44 {d : Nat} {Φ : Option pe_V → pe_H → Prop} {σ : pe_H} {a0 : Nat} {x1 : Int} {x2 : Int} {x3 : Int} {x4 : Int} (f_a0 : pk_Fs a0 σ := by assumption)   (k : pe_M d 15 [.inr (.inr (pk_m a0 0)), .inr (.inr (a0 + 1))] σ (fun r σ' => pe_X d 101 (57, [some (.inr (.inr a0)), some (.inl x1), some (.inl x2), some (.inl x3), some (.inl x4)], r.toList ++ [], σ') Φ)) : pe_X d 101 (44, [some (.inr (.inr a0)), some (.inl x1), some (.inl x2), some (.inl x3), some (.inl x4)], [], σ) Φ := by
  refine pe_blk 22 6 ck101 [pe_K σ a0 = 8, 12 ≤ pe_K σ (pe_R σ a0 2) ∧ pe_K σ (pe_R σ a0 2) < 19, 0 ≤ (pe_w 0), (pe_w 0) < pe_L σ (pe_R σ a0 2), pe_K σ a0 = 8] (54, [some (.inr (.inr a0)), some (.inl x1), some (.inl x2), some (.inl x3), some (.inl x4)], [.inr (.inr (pe_R σ a0 0)), .inr (.inr (pe_R σ (pe_R σ a0 2) (pe_w 0)))], σ) rfl ?_ ?_
  · first
    | (simp (disch := omega) only [pe_all, pe_wi (x := 0) ⟨by decide, by decide⟩, pe_K_wI, pe_K_wR, pe_L_wI, pe_L_wR, pe_R_nej, pe_R_ner, pe_R_wI, pk_mK (pk_sMi f_a0 (i := 0) (by omega) (by omega)), pk_sE f_a0 (i := 0) (by omega) (by omega), pk_sK f_a0, pk_sK2 f_a0, pk_sL2 f_a0, pk_sR0 f_a0, pk_sR2 f_a0]; done)
    | (simp (disch := omega) only [pe_all, pe_wi (x := 0) ⟨by decide, by decide⟩, pe_K_wI, pe_K_wR, pe_L_wI, pe_L_wR, pe_R_nej, pe_R_ner, pe_R_wI, pk_mK (pk_sMi f_a0 (i := 0) (by omega) (by omega)), pk_sE f_a0 (i := 0) (by omega) (by omega), pk_sK f_a0, pk_sK2 f_a0, pk_sL2 f_a0, pk_sR0 f_a0, pk_sR2 f_a0]; (repeat' apply And.intro) <;> first | assumption | omega | decide)
  · try simp (disch := omega) only [pe_wi (x := 0) ⟨by decide, by decide⟩, pe_K_wI, pe_K_wR, pe_L_wI, pe_L_wR, pe_R_nej, pe_R_ner, pe_R_wI, pk_mK (pk_sMi f_a0 (i := 0) (by omega) (by omega)), pk_sE f_a0 (i := 0) (by omega) (by omega), pk_sK f_a0, pk_sK2 f_a0, pk_sL2 f_a0, pk_sR0 f_a0, pk_sR2 f_a0]
    have hrc : pe_K σ (pk_m a0 0) = 2 := by first | assumption | (simp (disch := omega) only [pe_wi (x := 0) ⟨by decide, by decide⟩, pe_K_wI, pe_K_wR, pe_L_wI, pe_L_wR, pe_R_nej, pe_R_ner, pe_R_wI, pk_mK (pk_sMi f_a0 (i := 0) (by omega) (by omega)), pk_sE f_a0 (i := 0) (by omega) (by omega), pk_sK f_a0, pk_sK2 f_a0, pk_sL2 f_a0, pk_sR0 f_a0, pk_sR2 f_a0]; done) | (simp (disch := omega) only [pe_wi (x := 0) ⟨by decide, by decide⟩, pe_K_wI, pe_K_wR, pe_L_wI, pe_L_wR, pe_R_nej, pe_R_ner, pe_R_wI, pk_mK (pk_sMi f_a0 (i := 0) (by omega) (by omega)), pk_sE f_a0 (i := 0) (by omega) (by omega), pk_sK f_a0, pk_sK2 f_a0, pk_sL2 f_a0, pk_sR0 f_a0, pk_sR2 f_a0]; assumption)
    exact pe_cal 28 ck101 rfl rfl rfl ⟨hrc, by decide⟩ k
theorem b101_57 {d : Nat} {Φ : Option pe_V → pe_H → Prop} {σ : pe_H} {a0 : Nat} {x1 : Int} {x2 : Int} {x3 : Int} {x4 : Int} (f_a0 : pk_Fs a0 σ := by assumption)   (k : pe_M d 127 [.inr (.inr (a0 + 175)), .inl 0, .inl x2, .inl x1, .inl x3] σ (fun r σ' => pe_X d 101 (68, [some (.inr (.inr a0)), some (.inl x1), some (.inl x2), some (.inl x3), some (.inl x4)], r.toList ++ [], σ') Φ)) : pe_X d 101 (57, [some (.inr (.inr a0)), some (.inl x1), some (.inl x2), some (.inl x3), some (.inl x4)], [], σ) Φ := by
  refine pe_blk 29 6 ck101 [pe_K σ a0 = 8] (65, [some (.inr (.inr a0)), some (.inl x1), some (.inl x2), some (.inl x3), some (.inl x4)], [.inl x3, .inl x1, .inl x2, .inl 0, .inr (.inr (pe_R σ a0 2))], σ) rfl ?_ ?_
  · first
    | (simp (disch := omega) only [pe_all, pe_K_wI, pe_K_wR, pe_R_nej, pe_R_ner, pe_R_wI, pk_sK f_a0, pk_sR2 f_a0]; done)
    | (simp (disch := omega) only [pe_all, pe_K_wI, pe_K_wR, pe_R_nej, pe_R_ner, pe_R_wI, pk_sK f_a0, pk_sR2 f_a0]; (repeat' apply And.intro) <;> first | assumption | omega | decide)
  · try simp (disch := omega) only [pe_K_wI, pe_K_wR, pe_R_nej, pe_R_ner, pe_R_wI, pk_sK f_a0, pk_sR2 f_a0]
    exact pe_cal 35 ck101 rfl rfl rfl trivial k
theorem b101_68 {d : Nat} {Φ : Option pe_V → pe_H → Prop} {σ : pe_H} {o0 : Option pe_V} {o1 : Option pe_V} {x2 : Int} {x3 : Int} {x4 : Int} {z0 : Int}    (k : pe_M d 128 [.inl x3, .inl x2] σ (fun r σ' => pe_X d 101 (73, [o0, o1, some (.inl x2), some (.inl x3), some (.inl x4)], r.toList ++ [.inr (.inl z0)], σ') Φ)) : pe_X d 101 (68, [o0, o1, some (.inl x2), some (.inl x3), some (.inl x4)], [.inr (.inl z0)], σ) Φ := by
  refine pe_blk 36 2 ck101 [] (70, [o0, o1, some (.inl x2), some (.inl x3), some (.inl x4)], [.inl x2, .inl x3, .inr (.inl z0)], σ) rfl ?_ ?_
  · exact trivial
  · exact pe_cal 38 ck101 rfl rfl rfl trivial k
theorem b101_73 {d : Nat} {Φ : Option pe_V → pe_H → Prop} {σ : pe_H} {o0 : Option pe_V} {o1 : Option pe_V} {o2 : Option pe_V} {o3 : Option pe_V} {x4 : Int} {z0 : Int} {z1 : Int}    (k : pe_M d 129 [.inr (.inl z0), .inr (.inl z1), .inl x4] σ (fun r σ' => pe_X d 101 (78, [o0, o1, o2, o3, some (.inl x4)], r.toList ++ [], σ') Φ)) : pe_X d 101 (73, [o0, o1, o2, o3, some (.inl x4)], [.inr (.inl z1), .inr (.inl z0)], σ) Φ := by
  refine pe_blk 39 1 ck101 [] (75, [o0, o1, o2, o3, some (.inl x4)], [.inl x4, .inr (.inl z1), .inr (.inl z0)], σ) rfl ?_ ?_
  · exact trivial
  · exact pe_cal 40 ck101 rfl rfl rfl trivial k
theorem b101_78 {d : Nat} {Φ : Option pe_V → pe_H → Prop} {σ : pe_H} {o0 : Option pe_V} {o1 : Option pe_V} {o2 : Option pe_V} {o3 : Option pe_V} {o4 : Option pe_V} {z0 : Int}    (k : Φ (some (.inr (.inl z0))) σ) : pe_X d 101 (78, [o0, o1, o2, o3, o4], [.inr (.inl z0)], σ) Φ := by
  exact pe_fine 41 ck101 rfl rfl rfl trivial k
-- StepMachines.share(I)J
def T102 : List (Nat × Instr × Nat) := [(0, .iload_n 1, 1), (1, .ifCond .lt 8, 3), (4, .iload_n 1, 1), (5, .iconst 1, 1), (6, .if_icmp .le 7, 3), (9, .ldc2_w 258, 3), (12, .lreturn, 1), (13, .aload_n 0, 1), (14, .getfield 10, 3), (17, .getfield 235, 3), (20, .ifCond .ne 7, 3), (23, .iconst 1, 1), (24, .goto 10, 3), (27, .aload_n 0, 1), (28, .getfield 10, 3), (31, .getfield 235, 3), (34, .istore_n 2, 1), (35, .aload_n 0, 1), (36, .getfield 10, 3), (39, .invokevirtual 215, 3), (42, .invokestatic 218, 3), (45, .i2l, 1), (46, .iload_n 2, 1), (47, .i2l, 1), (48, .iload_n 1, 1), (49, .invokestatic 268, 3), (52, .lreturn, 1)]
theorem ck102 : pe_ctx 102 8 false (some .long) 3 T102 := ⟨rfl, rfl, rfl, rfl, by decide +kernel, by decide, by decide⟩
theorem b102_0 {d : Nat} {Φ : Option pe_V → pe_H → Prop} {σ : pe_H} {a0 : Nat} {x1 : Int} {o2 : Option pe_V} (f_a0 : pk_Fs a0 σ := by assumption) (w0 : pe_in x1 := by unfold pe_in; omega)  (k1 : x1 < 0 → pe_X d 102 (9, [some (.inr (.inr a0)), some (.inl x1), o2], [], σ) Φ) (k2 : ¬ (x1 < 0) → pe_X d 102 (4, [some (.inr (.inr a0)), some (.inl x1), o2], [], σ) Φ) : pe_X d 102 (0, [some (.inr (.inr a0)), some (.inl x1), o2], [], σ) Φ := by
  refine pe_blk 0 2 ck102 [] (cond (decide ((pe_w x1) < 0)) 9 4, [some (.inr (.inr a0)), some (.inl x1), o2], [], σ) rfl ?_ ?_
  · exact trivial
  · try simp (disch := omega) only [pe_wi w0]
    exact pe_two k1 k2
theorem b102_4 {d : Nat} {Φ : Option pe_V → pe_H → Prop} {σ : pe_H} {a0 : Nat} {x1 : Int} {o2 : Option pe_V} (f_a0 : pk_Fs a0 σ := by assumption) (w0 : pe_in x1 := by unfold pe_in; omega)  (k1 : x1 ≤ 1 → pe_X d 102 (13, [some (.inr (.inr a0)), some (.inl x1), o2], [], σ) Φ) (k2 : ¬ (x1 ≤ 1) → pe_X d 102 (9, [some (.inr (.inr a0)), some (.inl x1), o2], [], σ) Φ) : pe_X d 102 (4, [some (.inr (.inr a0)), some (.inl x1), o2], [], σ) Φ := by
  refine pe_blk 2 3 ck102 [] (cond (decide ((pe_w x1) ≤ (pe_w 1))) 13 9, [some (.inr (.inr a0)), some (.inl x1), o2], [], σ) rfl ?_ ?_
  · exact trivial
  · try simp (disch := omega) only [pe_wi w0, pe_wi (x := 1) ⟨by decide, by decide⟩]
    exact pe_two k1 k2
theorem b102_9 {d : Nat} {Φ : Option pe_V → pe_H → Prop} {σ : pe_H} {o0 : Option pe_V} {o1 : Option pe_V} {o2 : Option pe_V}    (k : Φ (some (.inr (.inl 1000000001))) σ) : pe_X d 102 (9, [o0, o1, o2], [], σ) Φ := by
  refine pe_blk 5 1 ck102 [] (12, [o0, o1, o2], [.inr (.inl 1000000001)], σ) rfl ?_ ?_
  · exact trivial
  · exact pe_fine 6 ck102 rfl rfl rfl trivial k
theorem b102_13 {d : Nat} {Φ : Option pe_V → pe_H → Prop} {σ : pe_H} {a0 : Nat} {x1 : Int} {o2 : Option pe_V} (f_a0 : pk_Fs a0 σ := by assumption) (w0 : pe_in (pe_I σ (a0 + 1) 4) := by unfold pe_in; omega)  (k1 : ¬ (pe_I σ (a0 + 1) 4) = 0 → pe_X d 102 (27, [some (.inr (.inr a0)), some (.inl x1), o2], [], σ) Φ) (k2 : (pe_I σ (a0 + 1) 4) = 0 → pe_X d 102 (23, [some (.inr (.inr a0)), some (.inl x1), o2], [], σ) Φ) : pe_X d 102 (13, [some (.inr (.inr a0)), some (.inl x1), o2], [], σ) Φ := by
  refine pe_blk 7 4 ck102 [pe_K σ a0 = 8, pe_K σ (pe_R σ a0 0) = 2] (cond (decide (¬ (pe_w (pe_I σ (pe_R σ a0 0) 4)) = 0)) 27 23, [some (.inr (.inr a0)), some (.inl x1), o2], [], σ) rfl ?_ ?_
  · first
    | (simp (disch := omega) only [pe_all, pe_wi w0, pe_K_wI, pe_K_wR, pe_R_nej, pe_R_ner, pe_R_wI, pk_mK (pk_sM0 f_a0), pk_sK f_a0, pk_sR0 f_a0]; done)
    | (simp (disch := omega) only [pe_all, pe_wi w0, pe_K_wI, pe_K_wR, pe_R_nej, pe_R_ner, pe_R_wI, pk_mK (pk_sM0 f_a0), pk_sK f_a0, pk_sR0 f_a0]; (repeat' apply And.intro) <;> first | assumption | omega | decide)
  · try simp (disch := omega) only [pe_wi w0, pe_K_wI, pe_K_wR, pe_R_nej, pe_R_ner, pe_R_wI, pk_mK (pk_sM0 f_a0), pk_sK f_a0, pk_sR0 f_a0]
    exact pe_two' k1 k2
theorem b102_23 {d : Nat} {Φ : Option pe_V → pe_H → Prop} {σ : pe_H} {a0 : Nat} {x1 : Int} {o2 : Option pe_V} (f_a0 : pk_Fs a0 σ := by assumption)   (k : pe_X d 102 (34, [some (.inr (.inr a0)), some (.inl x1), o2], [.inl 1], σ) Φ) : pe_X d 102 (23, [some (.inr (.inr a0)), some (.inl x1), o2], [], σ) Φ := by
  refine pe_blk 11 2 ck102 [] (34, [some (.inr (.inr a0)), some (.inl x1), o2], [.inl 1], σ) rfl ?_ ?_
  · exact trivial
  · exact k
theorem b102_27 {d : Nat} {Φ : Option pe_V → pe_H → Prop} {σ : pe_H} {a0 : Nat} {x1 : Int} {o2 : Option pe_V} (f_a0 : pk_Fs a0 σ := by assumption)   (k : pe_X d 102 (34, [some (.inr (.inr a0)), some (.inl x1), o2], [.inl (pe_I σ (a0 + 1) 4)], σ) Φ) : pe_X d 102 (27, [some (.inr (.inr a0)), some (.inl x1), o2], [], σ) Φ := by
  refine pe_blk 13 3 ck102 [pe_K σ a0 = 8, pe_K σ (pe_R σ a0 0) = 2] (34, [some (.inr (.inr a0)), some (.inl x1), o2], [.inl (pe_I σ (pe_R σ a0 0) 4)], σ) rfl ?_ ?_
  · first
    | (simp (disch := omega) only [pe_all, pe_K_wI, pe_K_wR, pe_R_nej, pe_R_ner, pe_R_wI, pk_mK (pk_sM0 f_a0), pk_sK f_a0, pk_sR0 f_a0]; done)
    | (simp (disch := omega) only [pe_all, pe_K_wI, pe_K_wR, pe_R_nej, pe_R_ner, pe_R_wI, pk_mK (pk_sM0 f_a0), pk_sK f_a0, pk_sR0 f_a0]; (repeat' apply And.intro) <;> first | assumption | omega | decide)
  · try simp (disch := omega) only [pe_K_wI, pe_K_wR, pe_R_nej, pe_R_ner, pe_R_wI, pk_mK (pk_sM0 f_a0), pk_sK f_a0, pk_sR0 f_a0]
    exact k
theorem b102_34 {d : Nat} {Φ : Option pe_V → pe_H → Prop} {σ : pe_H} {a0 : Nat} {x1 : Int} {o2 : Option pe_V} {s0 : Int} (f_a0 : pk_Fs a0 σ := by assumption)   (k : pe_M d 17 [.inr (.inr (a0 + 1))] σ (fun r σ' => pe_X d 102 (42, [some (.inr (.inr a0)), some (.inl x1), some (.inl s0)], r.toList ++ [], σ') Φ)) : pe_X d 102 (34, [some (.inr (.inr a0)), some (.inl x1), o2], [.inl s0], σ) Φ := by
  refine pe_blk 16 3 ck102 [pe_K σ a0 = 8] (39, [some (.inr (.inr a0)), some (.inl x1), some (.inl s0)], [.inr (.inr (pe_R σ a0 0))], σ) rfl ?_ ?_
  · first
    | (simp (disch := omega) only [pe_all, pe_K_wI, pe_K_wR, pe_R_nej, pe_R_ner, pe_R_wI, pk_mK (pk_sM0 f_a0), pk_sK f_a0, pk_sR0 f_a0]; done)
    | (simp (disch := omega) only [pe_all, pe_K_wI, pe_K_wR, pe_R_nej, pe_R_ner, pe_R_wI, pk_mK (pk_sM0 f_a0), pk_sK f_a0, pk_sR0 f_a0]; (repeat' apply And.intro) <;> first | assumption | omega | decide)
  · try simp (disch := omega) only [pe_K_wI, pe_K_wR, pe_R_nej, pe_R_ner, pe_R_wI, pk_mK (pk_sM0 f_a0), pk_sK f_a0, pk_sR0 f_a0]
    have hrc : pe_K σ (a0 + 1) = 2 := by first | assumption | (simp (disch := omega) only [pe_K_wI, pe_K_wR, pe_R_nej, pe_R_ner, pe_R_wI, pk_mK (pk_sM0 f_a0), pk_sK f_a0, pk_sR0 f_a0]; done) | (simp (disch := omega) only [pe_K_wI, pe_K_wR, pe_R_nej, pe_R_ner, pe_R_wI, pk_mK (pk_sM0 f_a0), pk_sK f_a0, pk_sR0 f_a0]; assumption)
    exact pe_cal 19 ck102 rfl rfl rfl ⟨hrc, by decide⟩ k
theorem b102_42 {d : Nat} {Φ : Option pe_V → pe_H → Prop} {σ : pe_H} {o0 : Option pe_V} {x1 : Int} {x2 : Int} {s0 : Int}    (k : pe_M d 245 [.inl s0] σ (fun r σ' => pe_X d 102 (45, [o0, some (.inl x1), some (.inl x2)], r.toList ++ [], σ') Φ)) : pe_X d 102 (42, [o0, some (.inl x1), some (.inl x2)], [.inl s0], σ) Φ := by
  exact pe_cal 20 ck102 rfl rfl rfl trivial k
theorem b102_45 {d : Nat} {Φ : Option pe_V → pe_H → Prop} {σ : pe_H} {o0 : Option pe_V} {x1 : Int} {x2 : Int} {s0 : Int}  (w0 : pe_in s0 := by unfold pe_in; omega) (w1 : pe_in x2 := by unfold pe_in; omega)  (k : pe_M d 129 [.inr (.inl s0), .inr (.inl x2), .inl x1] σ (fun r σ' => pe_X d 102 (52, [o0, some (.inl x1), some (.inl x2)], r.toList ++ [], σ') Φ)) : pe_X d 102 (45, [o0, some (.inl x1), some (.inl x2)], [.inl s0], σ) Φ := by
  refine pe_blk 21 4 ck102 [] (49, [o0, some (.inl x1), some (.inl x2)], [.inl x1, .inr (.inl (pe_w x2)), .inr (.inl (pe_w s0))], σ) rfl ?_ ?_
  · exact trivial
  · try simp (disch := omega) only [pe_wi w0, pe_wi w1]
    exact pe_cal 25 ck102 rfl rfl rfl trivial k
theorem b102_52 {d : Nat} {Φ : Option pe_V → pe_H → Prop} {σ : pe_H} {o0 : Option pe_V} {o1 : Option pe_V} {o2 : Option pe_V} {z0 : Int}    (k : Φ (some (.inr (.inl z0))) σ) : pe_X d 102 (52, [o0, o1, o2], [.inr (.inl z0)], σ) Φ := by
  exact pe_fine 26 ck102 rfl rfl rfl trivial k
-- StepMachines.forged(I)I
def T103 : List (Nat × Instr × Nat) := [(0, .aload_n 0, 1), (1, .iload_n 1, 1), (2, .invokevirtual 50, 3), (5, .istore_n 2, 1), (6, .iload_n 2, 1), (7, .ifCond .eq 5, 3), (10, .iload_n 2, 1), (11, .ireturn, 1), (12, .aload_n 0, 1), (13, .getfield 31, 3), (16, .iload_n 1, 1), (17, .aaload, 1), (18, .astore_n 3, 1), (19, .iconst 0, 1), (20, .istore 4, 2), (22, .iload 4, 2), (24, .aload_n 3, 1), (25, .invokevirtual 272, 3), (28, .if_icmp .ge 43, 3), (31, .aload_n 0, 1), (32, .iload 4, 2), (34, .invokevirtual 107, 3), (37, .ifCond .eq 25, 3), (40, .aload_n 0, 1), (41, .getfield 10, 3), (44, .getfield 110, 3), (47, .iload 4, 2), (49, .aaload, 1), (50, .getfield 196, 3), (53, .aload_n 3, 1), (54, .iload 4, 2), (56, .invokevirtual 274, 3), (59, .if_icmp .eq 6, 3), (62, .iload 4, 2), (64, .ireturn, 1), (65, .iinc 4 1, 3), (68, .goto (-46), 3), (71, .bipush (-4), 2), (73, .ireturn, 1)]
theorem ck103 : pe_ctx 103 8 false (some .int) 5 T103 := ⟨rfl, rfl, rfl, rfl, by decide +kernel, by decide, by decide⟩
theorem b103_0 {d : Nat} {Φ : Option pe_V → pe_H → Prop} {σ : pe_H} {a0 : Nat} {x1 : Int} {o2 : Option pe_V} {o3 : Option pe_V} {o4 : Option pe_V} (f_a0 : pk_Fs a0 σ := by assumption)   (k : pe_M d 119 [.inr (.inr a0), .inl x1] σ (fun r σ' => pe_X d 103 (5, [some (.inr (.inr a0)), some (.inl x1), o2, o3, o4], r.toList ++ [], σ') Φ)) : pe_X d 103 (0, [some (.inr (.inr a0)), some (.inl x1), o2, o3, o4], [], σ) Φ := by
  refine pe_blk 0 2 ck103 [] (2, [some (.inr (.inr a0)), some (.inl x1), o2, o3, o4], [.inl x1, .inr (.inr a0)], σ) rfl ?_ ?_
  · exact trivial
  · try simp (disch := omega) only [pe_K_wI, pe_K_wR, pk_sK f_a0]
    have hrc : pe_K σ a0 = 8 := by first | assumption | (simp (disch := omega) only [pe_K_wI, pe_K_wR, pk_sK f_a0]; done) | (simp (disch := omega) only [pe_K_wI, pe_K_wR, pk_sK f_a0]; assumption)
    exact pe_cal 2 ck103 rfl rfl rfl ⟨hrc, by decide⟩ k
theorem b103_5 {d : Nat} {Φ : Option pe_V → pe_H → Prop} {σ : pe_H} {a0 : Nat} {x1 : Int} {o2 : Option pe_V} {o3 : Option pe_V} {o4 : Option pe_V} {s0 : Int} (f_a0 : pk_Fs a0 σ := by assumption) (w0 : pe_in s0 := by unfold pe_in; omega)  (k1 : s0 = 0 → pe_X d 103 (12, [some (.inr (.inr a0)), some (.inl x1), some (.inl s0), o3, o4], [], σ) Φ) (k2 : ¬ (s0 = 0) → pe_X d 103 (10, [some (.inr (.inr a0)), some (.inl x1), some (.inl s0), o3, o4], [], σ) Φ) : pe_X d 103 (5, [some (.inr (.inr a0)), some (.inl x1), o2, o3, o4], [.inl s0], σ) Φ := by
  refine pe_blk 3 3 ck103 [] (cond (decide ((pe_w s0) = 0)) 12 10, [some (.inr (.inr a0)), some (.inl x1), some (.inl s0), o3, o4], [], σ) rfl ?_ ?_
  · exact trivial
  · try simp (disch := omega) only [pe_wi w0]
    exact pe_two k1 k2
theorem b103_10 {d : Nat} {Φ : Option pe_V → pe_H → Prop} {σ : pe_H} {o0 : Option pe_V} {o1 : Option pe_V} {x2 : Int} {o3 : Option pe_V} {o4 : Option pe_V}    (k : Φ (some (.inl x2)) σ) : pe_X d 103 (10, [o0, o1, some (.inl x2), o3, o4], [], σ) Φ := by
  refine pe_blk 6 1 ck103 [] (11, [o0, o1, some (.inl x2), o3, o4], [.inl x2], σ) rfl ?_ ?_
  · exact trivial
  · exact pe_fine 7 ck103 rfl rfl rfl trivial k
theorem b103_12 {d : Nat} {Φ : Option pe_V → pe_H → Prop} {σ : pe_H} {a0 : Nat} {x1 : Int} {o2 : Option pe_V} {o3 : Option pe_V} {o4 : Option pe_V} (f_a0 : pk_Fs a0 σ := by assumption) (w0 : pe_in x1 := by unfold pe_in; omega) (h0 : 0 ≤ x1 := by first | assumption | omega) (h1 : x1 < 8 := by first | assumption | omega) (k : pe_X d 103 (22, [some (.inr (.inr a0)), some (.inl x1), pe_nl o2, some (.inr (.inr (pe_R σ (a0 + 177) x1))), some (.inl 0)], [], σ) Φ) : pe_X d 103 (12, [some (.inr (.inr a0)), some (.inl x1), o2, o3, o4], [], σ) Φ := by
  refine pe_blk 8 7 ck103 [pe_K σ a0 = 8, 12 ≤ pe_K σ (pe_R σ a0 4) ∧ pe_K σ (pe_R σ a0 4) < 19, 0 ≤ (pe_w x1), (pe_w x1) < pe_L σ (pe_R σ a0 4)] (22, [some (.inr (.inr a0)), some (.inl x1), pe_nl o2, some (.inr (.inr (pe_R σ (pe_R σ a0 4) (pe_w x1)))), some (.inl 0)], [], σ) rfl ?_ ?_
  · first
    | (simp (disch := omega) only [pe_all, pe_wi w0, pe_K_wI, pe_K_wR, pe_L_wI, pe_L_wR, pe_R_nej, pe_R_ner, pe_R_wI, pk_sK f_a0, pk_sK4 f_a0, pk_sL4 f_a0, pk_sR4 f_a0]; done)
    | (simp (disch := omega) only [pe_all, pe_wi w0, pe_K_wI, pe_K_wR, pe_L_wI, pe_L_wR, pe_R_nej, pe_R_ner, pe_R_wI, pk_sK f_a0, pk_sK4 f_a0, pk_sL4 f_a0, pk_sR4 f_a0]; (repeat' apply And.intro) <;> first | assumption | omega | decide)
  · try simp (disch := omega) only [pe_wi w0, pe_K_wI, pe_K_wR, pe_L_wI, pe_L_wR, pe_R_nej, pe_R_ner, pe_R_wI, pk_sK f_a0, pk_sK4 f_a0, pk_sL4 f_a0, pk_sR4 f_a0]
    exact k
theorem b103_22 {d : Nat} {Φ : Option pe_V → pe_H → Prop} {σ : pe_H} {a0 : Nat} {o1 : Option pe_V} {o2 : Option pe_V} {a3 : Nat} {x4 : Int} (f_a0 : pk_Fs a0 σ := by assumption)  (h0 : pe_K σ a3 = 6 := by first | assumption | omega) (k : pe_M d 57 [.inr (.inr a3)] σ (fun r σ' => pe_X d 103 (28, [some (.inr (.inr a0)), o1, o2, some (.inr (.inr a3)), some (.inl x4)], r.toList ++ [.inl x4], σ') Φ)) : pe_X d 103 (22, [some (.inr (.inr a0)), o1, o2, some (.inr (.inr a3)), some (.inl x4)], [], σ) Φ := by
  refine pe_blk 15 2 ck103 [] (25, [some (.inr (.inr a0)), o1, o2, some (.inr (.inr a3)), some (.inl x4)], [.inr (.inr a3), .inl x4], σ) rfl ?_ ?_
  · exact trivial
  · try simp (disch := omega) only [pe_K_wI, pe_K_wR]
    have hrc : pe_K σ a3 = 6 := by first | assumption | (simp (disch := omega) only [pe_K_wI, pe_K_wR]; done) | (simp (disch := omega) only [pe_K_wI, pe_K_wR]; assumption)
    exact pe_cal 17 ck103 rfl rfl rfl ⟨hrc, by decide⟩ k
theorem b103_28 {d : Nat} {Φ : Option pe_V → pe_H → Prop} {σ : pe_H} {a0 : Nat} {o1 : Option pe_V} {o2 : Option pe_V} {a3 : Nat} {x4 : Int} {s0 : Int} {s1 : Int} (f_a0 : pk_Fs a0 σ := by assumption) (w0 : pe_in s1 := by unfold pe_in; omega) (w1 : pe_in s0 := by unfold pe_in; omega)  (k1 : s1 ≤ s0 → pe_X d 103 (71, [some (.inr (.inr a0)), o1, o2, some (.inr (.inr a3)), some (.inl x4)], [], σ) Φ) (k2 : ¬ (s1 ≤ s0) → pe_X d 103 (31, [some (.inr (.inr a0)), o1, o2, some (.inr (.inr a3)), some (.inl x4)], [], σ) Φ) : pe_X d 103 (28, [some (.inr (.inr a0)), o1, o2, some (.inr (.inr a3)), some (.inl x4)], [.inl s1, .inl s0], σ) Φ := by
  refine pe_blk 18 1 ck103 [] (cond (decide ((pe_w s1) ≤ (pe_w s0))) 71 31, [some (.inr (.inr a0)), o1, o2, some (.inr (.inr a3)), some (.inl x4)], [], σ) rfl ?_ ?_
  · exact trivial
  · try simp (disch := omega) only [pe_wi w0, pe_wi w1]
    exact pe_two k1 k2
theorem b103_31 {d : Nat} {Φ : Option pe_V → pe_H → Prop} {σ : pe_H} {a0 : Nat} {o1 : Option pe_V} {o2 : Option pe_V} {a3 : Nat} {x4 : Int} (f_a0 : pk_Fs a0 σ := by assumption)   (k : pe_M d 117 [.inr (.inr a0), .inl x4] σ (fun r σ' => pe_X d 103 (37, [some (.inr (.inr a0)), o1, o2, some (.inr (.inr a3)), some (.inl x4)], r.toList ++ [], σ') Φ)) : pe_X d 103 (31, [some (.inr (.inr a0)), o1, o2, some (.inr (.inr a3)), some (.inl x4)], [], σ) Φ := by
  refine pe_blk 19 2 ck103 [] (34, [some (.inr (.inr a0)), o1, o2, some (.inr (.inr a3)), some (.inl x4)], [.inl x4, .inr (.inr a0)], σ) rfl ?_ ?_
  · exact trivial
  · try simp (disch := omega) only [pe_K_wI, pe_K_wR, pk_sK f_a0]
    have hrc : pe_K σ a0 = 8 := by first | assumption | (simp (disch := omega) only [pe_K_wI, pe_K_wR, pk_sK f_a0]; done) | (simp (disch := omega) only [pe_K_wI, pe_K_wR, pk_sK f_a0]; assumption)
    exact pe_cal 21 ck103 rfl rfl rfl ⟨hrc, by decide⟩ k
theorem b103_37 {d : Nat} {Φ : Option pe_V → pe_H → Prop} {σ : pe_H} {a0 : Nat} {o1 : Option pe_V} {o2 : Option pe_V} {a3 : Nat} {x4 : Int} {s0 : Int} (f_a0 : pk_Fs a0 σ := by assumption) (w0 : pe_in s0 := by unfold pe_in; omega)  (k1 : s0 = 0 → pe_X d 103 (62, [some (.inr (.inr a0)), o1, o2, some (.inr (.inr a3)), some (.inl x4)], [], σ) Φ) (k2 : ¬ (s0 = 0) → pe_X d 103 (40, [some (.inr (.inr a0)), o1, o2, some (.inr (.inr a3)), some (.inl x4)], [], σ) Φ) : pe_X d 103 (37, [some (.inr (.inr a0)), o1, o2, some (.inr (.inr a3)), some (.inl x4)], [.inl s0], σ) Φ := by
  refine pe_blk 22 1 ck103 [] (cond (decide ((pe_w s0) = 0)) 62 40, [some (.inr (.inr a0)), o1, o2, some (.inr (.inr a3)), some (.inl x4)], [], σ) rfl ?_ ?_
  · exact trivial
  · try simp (disch := omega) only [pe_wi w0]
    exact pe_two k1 k2
theorem b103_40 {d : Nat} {Φ : Option pe_V → pe_H → Prop} {σ : pe_H} {a0 : Nat} {o1 : Option pe_V} {o2 : Option pe_V} {a3 : Nat} {x4 : Int} (f_a0 : pk_Fs a0 σ := by assumption) (w0 : pe_in x4 := by unfold pe_in; omega) (h0 : 0 ≤ x4 := by first | assumption | omega) (h1 : x4 < 8 := by first | assumption | omega) (h2 : pe_K σ a3 = 6 := by first | assumption | omega) (k : pe_M d 60 [.inr (.inr a3), .inl x4] σ (fun r σ' => pe_X d 103 (59, [some (.inr (.inr a0)), o1, o2, some (.inr (.inr a3)), some (.inl x4)], r.toList ++ [.inl (pe_I σ (pk_c (a0 + 1) x4) 2)], σ') Φ)) : pe_X d 103 (40, [some (.inr (.inr a0)), o1, o2, some (.inr (.inr a3)), some (.inl x4)], [], σ) Φ := by
  refine pe_blk 23 8 ck103 [pe_K σ a0 = 8, pe_K σ (pe_R σ a0 0) = 2, 12 ≤ pe_K σ (pe_R σ (pe_R σ a0 0) 1) ∧ pe_K σ (pe_R σ (pe_R σ a0 0) 1) < 19, 0 ≤ (pe_w x4), (pe_w x4) < pe_L σ (pe_R σ (pe_R σ a0 0) 1), pe_K σ (pe_R σ (pe_R σ (pe_R σ a0 0) 1) (pe_w x4)) = 0] (56, [some (.inr (.inr a0)), o1, o2, some (.inr (.inr a3)), some (.inl x4)], [.inl x4, .inr (.inr a3), .inl (pe_I σ (pe_R σ (pe_R σ (pe_R σ a0 0) 1) (pe_w x4)) 2)], σ) rfl ?_ ?_
  · first
    | (simp (disch := omega) only [pe_all, pe_wi w0, pe_K_wI, pe_K_wR, pe_L_wI, pe_L_wR, pe_R_nej, pe_R_ner, pe_R_wI, pk_mE2 (pk_sM0 f_a0) (i := x4) (by omega) (by omega), pk_mK (pk_sM0 f_a0), pk_mK2 (pk_sM0 f_a0), pk_mL2 (pk_sM0 f_a0), pk_mR2 (pk_sM0 f_a0), pk_oK (pk_mO (pk_sM0 f_a0) (i := x4) (by omega) (by omega)), pk_sK f_a0, pk_sR0 f_a0]; done)
    | (simp (disch := omega) only [pe_all, pe_wi w0, pe_K_wI, pe_K_wR, pe_L_wI, pe_L_wR, pe_R_nej, pe_R_ner, pe_R_wI, pk_mE2 (pk_sM0 f_a0) (i := x4) (by omega) (by omega), pk_mK (pk_sM0 f_a0), pk_mK2 (pk_sM0 f_a0), pk_mL2 (pk_sM0 f_a0), pk_mR2 (pk_sM0 f_a0), pk_oK (pk_mO (pk_sM0 f_a0) (i := x4) (by omega) (by omega)), pk_sK f_a0, pk_sR0 f_a0]; (repeat' apply And.intro) <;> first | assumption | omega | decide)
  · try simp (disch := omega) only [pe_wi w0, pe_K_wI, pe_K_wR, pe_L_wI, pe_L_wR, pe_R_nej, pe_R_ner, pe_R_wI, pk_mE2 (pk_sM0 f_a0) (i := x4) (by omega) (by omega), pk_mK (pk_sM0 f_a0), pk_mK2 (pk_sM0 f_a0), pk_mL2 (pk_sM0 f_a0), pk_mR2 (pk_sM0 f_a0), pk_oK (pk_mO (pk_sM0 f_a0) (i := x4) (by omega) (by omega)), pk_sK f_a0, pk_sR0 f_a0]
    have hrc : pe_K σ a3 = 6 := by first | assumption | (simp (disch := omega) only [pe_wi w0, pe_K_wI, pe_K_wR, pe_L_wI, pe_L_wR, pe_R_nej, pe_R_ner, pe_R_wI, pk_mE2 (pk_sM0 f_a0) (i := x4) (by omega) (by omega), pk_mK (pk_sM0 f_a0), pk_mK2 (pk_sM0 f_a0), pk_mL2 (pk_sM0 f_a0), pk_mR2 (pk_sM0 f_a0), pk_oK (pk_mO (pk_sM0 f_a0) (i := x4) (by omega) (by omega)), pk_sK f_a0, pk_sR0 f_a0]; done) | (simp (disch := omega) only [pe_wi w0, pe_K_wI, pe_K_wR, pe_L_wI, pe_L_wR, pe_R_nej, pe_R_ner, pe_R_wI, pk_mE2 (pk_sM0 f_a0) (i := x4) (by omega) (by omega), pk_mK (pk_sM0 f_a0), pk_mK2 (pk_sM0 f_a0), pk_mL2 (pk_sM0 f_a0), pk_mR2 (pk_sM0 f_a0), pk_oK (pk_mO (pk_sM0 f_a0) (i := x4) (by omega) (by omega)), pk_sK f_a0, pk_sR0 f_a0]; assumption)
    exact pe_cal 31 ck103 rfl rfl rfl ⟨hrc, by decide⟩ k
theorem b103_59 {d : Nat} {Φ : Option pe_V → pe_H → Prop} {σ : pe_H} {a0 : Nat} {o1 : Option pe_V} {o2 : Option pe_V} {a3 : Nat} {x4 : Int} {s0 : Int} {s1 : Int} (f_a0 : pk_Fs a0 σ := by assumption) (w0 : pe_in s1 := by unfold pe_in; omega) (w1 : pe_in s0 := by unfold pe_in; omega)  (k1 : s0 = s1 → pe_X d 103 (65, [some (.inr (.inr a0)), o1, o2, some (.inr (.inr a3)), some (.inl x4)], [], σ) Φ) (k2 : ¬ (s0 = s1) → pe_X d 103 (62, [some (.inr (.inr a0)), o1, o2, some (.inr (.inr a3)), some (.inl x4)], [], σ) Φ) : pe_X d 103 (59, [some (.inr (.inr a0)), o1, o2, some (.inr (.inr a3)), some (.inl x4)], [.inl s1, .inl s0], σ) Φ := by
  refine pe_blk 32 1 ck103 [] (cond (decide ((pe_w s0) = (pe_w s1))) 65 62, [some (.inr (.inr a0)), o1, o2, some (.inr (.inr a3)), some (.inl x4)], [], σ) rfl ?_ ?_
  · exact trivial
  · try simp (disch := omega) only [pe_wi w0, pe_wi w1]
    exact pe_two k1 k2
theorem b103_62 {d : Nat} {Φ : Option pe_V → pe_H → Prop} {σ : pe_H} {o0 : Option pe_V} {o1 : Option pe_V} {o2 : Option pe_V} {o3 : Option pe_V} {x4 : Int}    (k : Φ (some (.inl x4)) σ) : pe_X d 103 (62, [o0, o1, o2, o3, some (.inl x4)], [], σ) Φ := by
  refine pe_blk 33 1 ck103 [] (64, [o0, o1, o2, o3, some (.inl x4)], [.inl x4], σ) rfl ?_ ?_
  · exact trivial
  · exact pe_fine 34 ck103 rfl rfl rfl trivial k
theorem b103_65 {d : Nat} {Φ : Option pe_V → pe_H → Prop} {σ : pe_H} {a0 : Nat} {o1 : Option pe_V} {o2 : Option pe_V} {a3 : Nat} {x4 : Int} (f_a0 : pk_Fs a0 σ := by assumption)   (k : pe_X d 103 (22, [some (.inr (.inr a0)), o1, o2, some (.inr (.inr a3)), some (.inl (x4 + 1))], [], σ) Φ) : pe_X d 103 (65, [some (.inr (.inr a0)), o1, o2, some (.inr (.inr a3)), some (.inl x4)], [], σ) Φ := by
  refine pe_blk 35 2 ck103 [] (22, [some (.inr (.inr a0)), o1, o2, some (.inr (.inr a3)), some (.inl (x4 + 1))], [], σ) rfl ?_ ?_
  · exact trivial
  · exact k
theorem b103_71 {d : Nat} {Φ : Option pe_V → pe_H → Prop} {σ : pe_H} {o0 : Option pe_V} {o1 : Option pe_V} {o2 : Option pe_V} {o3 : Option pe_V} {o4 : Option pe_V}    (k : Φ (some (.inl (-4))) σ) : pe_X d 103 (71, [o0, o1, o2, o3, o4], [], σ) Φ := by
  refine pe_blk 37 1 ck103 [] (73, [o0, o1, o2, o3, o4], [.inl (-4)], σ) rfl ?_ ?_
  · exact trivial
  · exact pe_fine 38 ck103 rfl rfl rfl trivial k
-- StepMachines.judge(I)I
def T104 : List (Nat × Instr × Nat) := [(0, .aload_n 0, 1), (1, .iload_n 1, 1), (2, .invokevirtual 50, 3), (5, .istore_n 2, 1), (6, .iload_n 2, 1), (7, .ifCond .eq 5, 3), (10, .iload_n 2, 1), (11, .ireturn, 1), (12, .aload_n 0, 1), (13, .getfield 31, 3), (16, .iload_n 1, 1), (17, .aaload, 1), (18, .astore_n 3, 1), (19, .aload_n 3, 1), (20, .invokevirtual 277, 3), (23, .istore 4, 2), (25, .aload_n 0, 1), (26, .invokevirtual 66, 3), (29, .astore 5, 2), (31, .iconst 0, 1), (32, .istore 6, 2), (34, .iload 6, 2), (36, .aload_n 3, 1), (37, .invokevirtual 272, 3), (40, .if_icmp .ge 50, 3), (43, .aload 5, 2), (45, .invokevirtual 215, 3), (48, .invokestatic 218, 3), (51, .istore 7, 2), (53, .aload_n 3, 1), (54, .iload 6, 2), (56, .invokevirtual 274, 3), (59, .iload 4, 2), (61, .if_icmp .eq 17, 3), (64, .aload_n 3, 1), (65, .iload 6, 2), (67, .invokevirtual 274, 3), (70, .iload 7, 2), (72, .if_icmp .eq 6, 3), (75, .iload 6, 2), (77, .ireturn, 1), (78, .aload 5, 2), (80, .invokevirtual 212, 3), (83, .pop, 1), (84, .iinc 6 1, 3), (87, .goto (-53), 3), (90, .bipush (-4), 2), (92, .ireturn, 1)]
theorem ck104 : pe_ctx 104 8 false (some .int) 8 T104 := ⟨rfl, rfl, rfl, rfl, by decide +kernel, by decide, by decide⟩
theorem b104_0 {d : Nat} {Φ : Option pe_V → pe_H → Prop} {σ : pe_H} {a0 : Nat} {x1 : Int} {o2 : Option pe_V} {o3 : Option pe_V} {o4 : Option pe_V} {o5 : Option pe_V} {o6 : Option pe_V} {o7 : Option pe_V} (f_a0 : pk_Fs a0 σ := by assumption)   (k : pe_M d 119 [.inr (.inr a0), .inl x1] σ (fun r σ' => pe_X d 104 (5, [some (.inr (.inr a0)), some (.inl x1), o2, o3, o4, o5, o6, o7], r.toList ++ [], σ') Φ)) : pe_X d 104 (0, [some (.inr (.inr a0)), some (.inl x1), o2, o3, o4, o5, o6, o7], [], σ) Φ := by
  refine pe_blk 0 2 ck104 [] (2, [some (.inr (.inr a0)), some (.inl x1), o2, o3, o4, o5, o6, o7], [.inl x1, .inr (.inr a0)], σ) rfl ?_ ?_
  · exact trivial
  · try simp (disch := omega) only [pe_K_wI, pe_K_wR, pk_sK f_a0]
    have hrc : pe_K σ a0 = 8 := by first | assumption | (simp (disch := omega) only [pe_K_wI, pe_K_wR, pk_sK f_a0]; done) | (simp (disch := omega) only [pe_K_wI, pe_K_wR, pk_sK f_a0]; assumption)
    exact pe_cal 2 ck104 rfl rfl rfl ⟨hrc, by decide⟩ k
theorem b104_5 {d : Nat} {Φ : Option pe_V → pe_H → Prop} {σ : pe_H} {a0 : Nat} {x1 : Int} {o2 : Option pe_V} {o3 : Option pe_V} {o4 : Option pe_V} {o5 : Option pe_V} {o6 : Option pe_V} {o7 : Option pe_V} {s0 : Int} (f_a0 : pk_Fs a0 σ := by assumption) (w0 : pe_in s0 := by unfold pe_in; omega)  (k1 : s0 = 0 → pe_X d 104 (12, [some (.inr (.inr a0)), some (.inl x1), some (.inl s0), o3, o4, o5, o6, o7], [], σ) Φ) (k2 : ¬ (s0 = 0) → pe_X d 104 (10, [some (.inr (.inr a0)), some (.inl x1), some (.inl s0), o3, o4, o5, o6, o7], [], σ) Φ) : pe_X d 104 (5, [some (.inr (.inr a0)), some (.inl x1), o2, o3, o4, o5, o6, o7], [.inl s0], σ) Φ := by
  refine pe_blk 3 3 ck104 [] (cond (decide ((pe_w s0) = 0)) 12 10, [some (.inr (.inr a0)), some (.inl x1), some (.inl s0), o3, o4, o5, o6, o7], [], σ) rfl ?_ ?_
  · exact trivial
  · try simp (disch := omega) only [pe_wi w0]
    exact pe_two k1 k2
theorem b104_10 {d : Nat} {Φ : Option pe_V → pe_H → Prop} {σ : pe_H} {o0 : Option pe_V} {o1 : Option pe_V} {x2 : Int} {o3 : Option pe_V} {o4 : Option pe_V} {o5 : Option pe_V} {o6 : Option pe_V} {o7 : Option pe_V}    (k : Φ (some (.inl x2)) σ) : pe_X d 104 (10, [o0, o1, some (.inl x2), o3, o4, o5, o6, o7], [], σ) Φ := by
  refine pe_blk 6 1 ck104 [] (11, [o0, o1, some (.inl x2), o3, o4, o5, o6, o7], [.inl x2], σ) rfl ?_ ?_
  · exact trivial
  · exact pe_fine 7 ck104 rfl rfl rfl trivial k
theorem b104_12 {d : Nat} {Φ : Option pe_V → pe_H → Prop} {σ : pe_H} {a0 : Nat} {x1 : Int} {o2 : Option pe_V} {o3 : Option pe_V} {o4 : Option pe_V} {o5 : Option pe_V} {o6 : Option pe_V} {o7 : Option pe_V} (f_a0 : pk_Fs a0 σ := by assumption) (w0 : pe_in x1 := by unfold pe_in; omega) (h0 : 0 ≤ x1 := by first | assumption | omega) (h1 : x1 < 8 := by first | assumption | omega) (h2 : pe_K σ (pe_R σ (a0 + 177) x1) = 6 := by first | assumption | omega) (k : pe_M d 62 [.inr (.inr (pe_R σ (a0 + 177) x1))] σ (fun r σ' => pe_X d 104 (23, [some (.inr (.inr a0)), some (.inl x1), pe_nl o2, some (.inr (.inr (pe_R σ (a0 + 177) x1))), o4, o5, o6, o7], r.toList ++ [], σ') Φ)) : pe_X d 104 (12, [some (.inr (.inr a0)), some (.inl x1), o2, o3, o4, o5, o6, o7], [], σ) Φ := by
  refine pe_blk 8 6 ck104 [pe_K σ a0 = 8, 12 ≤ pe_K σ (pe_R σ a0 4) ∧ pe_K σ (pe_R σ a0 4) < 19, 0 ≤ (pe_w x1), (pe_w x1) < pe_L σ (pe_R σ a0 4)] (20, [some (.inr (.inr a0)), some (.inl x1), pe_nl o2, some (.inr (.inr (pe_R σ (pe_R σ a0 4) (pe_w x1)))), o4, o5, o6, o7], [.inr (.inr (pe_R σ (pe_R σ a0 4) (pe_w x1)))], σ) rfl ?_ ?_
  · first
    | (simp (disch := omega) only [pe_all, pe_wi w0, pe_K_wI, pe_K_wR, pe_L_wI, pe_L_wR, pe_R_nej, pe_R_ner, pe_R_wI, pk_sK f_a0, pk_sK4 f_a0, pk_sL4 f_a0, pk_sR4 f_a0]; done)
    | (simp (disch := omega) only [pe_all, pe_wi w0, pe_K_wI, pe_K_wR, pe_L_wI, pe_L_wR, pe_R_nej, pe_R_ner, pe_R_wI, pk_sK f_a0, pk_sK4 f_a0, pk_sL4 f_a0, pk_sR4 f_a0]; (repeat' apply And.intro) <;> first | assumption | omega | decide)
  · try simp (disch := omega) only [pe_wi w0, pe_K_wI, pe_K_wR, pe_L_wI, pe_L_wR, pe_R_nej, pe_R_ner, pe_R_wI, pk_sK f_a0, pk_sK4 f_a0, pk_sL4 f_a0, pk_sR4 f_a0]
    have hrc : pe_K σ (pe_R σ (a0 + 177) x1) = 6 := by first | assumption | (simp (disch := omega) only [pe_wi w0, pe_K_wI, pe_K_wR, pe_L_wI, pe_L_wR, pe_R_nej, pe_R_ner, pe_R_wI, pk_sK f_a0, pk_sK4 f_a0, pk_sL4 f_a0, pk_sR4 f_a0]; done) | (simp (disch := omega) only [pe_wi w0, pe_K_wI, pe_K_wR, pe_L_wI, pe_L_wR, pe_R_nej, pe_R_ner, pe_R_wI, pk_sK f_a0, pk_sK4 f_a0, pk_sL4 f_a0, pk_sR4 f_a0]; assumption)
    exact pe_cal 14 ck104 rfl rfl rfl ⟨hrc, by decide⟩ k
theorem b104_23 {d : Nat} {Φ : Option pe_V → pe_H → Prop} {σ : pe_H} {a0 : Nat} {o1 : Option pe_V} {o2 : Option pe_V} {a3 : Nat} {o4 : Option pe_V} {o5 : Option pe_V} {o6 : Option pe_V} {o7 : Option pe_V} {s0 : Int} (f_a0 : pk_Fs a0 σ := by assumption)   (k : pe_M d 122 [.inr (.inr a0)] σ (fun r σ' => pe_X d 104 (29, [some (.inr (.inr a0)), o1, o2, some (.inr (.inr a3)), some (.inl s0), o5, o6, o7], r.toList ++ [], σ') Φ)) : pe_X d 104 (23, [some (.inr (.inr a0)), o1, o2, some (.inr (.inr a3)), o4, o5, o6, o7], [.inl s0], σ) Φ := by
  refine pe_blk 15 2 ck104 [] (26, [some (.inr (.inr a0)), o1, o2, some (.inr (.inr a3)), some (.inl s0), o5, o6, o7], [.inr (.inr a0)], σ) rfl ?_ ?_
  · exact trivial
  · try simp (disch := omega) only [pe_K_wI, pe_K_wR, pk_sK f_a0]
    have hrc : pe_K σ a0 = 8 := by first | assumption | (simp (disch := omega) only [pe_K_wI, pe_K_wR, pk_sK f_a0]; done) | (simp (disch := omega) only [pe_K_wI, pe_K_wR, pk_sK f_a0]; assumption)
    exact pe_cal 17 ck104 rfl rfl rfl ⟨hrc, by decide⟩ k
theorem b104_29 {d : Nat} {Φ : Option pe_V → pe_H → Prop} {σ : pe_H} {o0 : Option pe_V} {o1 : Option pe_V} {o2 : Option pe_V} {a3 : Nat} {x4 : Int} {o5 : Option pe_V} {o6 : Option pe_V} {o7 : Option pe_V} {b0 : Nat} (f_b0 : pk_Fm b0 σ := by assumption)   (k : pe_X d 104 (34, [o0, o1, o2, some (.inr (.inr a3)), some (.inl x4), some (.inr (.inr b0)), some (.inl 0), o7], [], σ) Φ) : pe_X d 104 (29, [o0, o1, o2, some (.inr (.inr a3)), some (.inl x4), o5, o6, o7], [.inr (.inr b0)], σ) Φ := by
  refine pe_blk 18 3 ck104 [] (34, [o0, o1, o2, some (.inr (.inr a3)), some (.inl x4), some (.inr (.inr b0)), some (.inl 0), o7], [], σ) rfl ?_ ?_
  · exact trivial
  · exact k
theorem b104_34 {d : Nat} {Φ : Option pe_V → pe_H → Prop} {σ : pe_H} {o0 : Option pe_V} {o1 : Option pe_V} {o2 : Option pe_V} {a3 : Nat} {x4 : Int} {a5 : Nat} {x6 : Int} {o7 : Option pe_V} (f_a5 : pk_Fm a5 σ := by assumption)  (h0 : pe_K σ a3 = 6 := by first | assumption | omega) (k : pe_M d 57 [.inr (.inr a3)] σ (fun r σ' => pe_X d 104 (40, [o0, o1, o2, some (.inr (.inr a3)), some (.inl x4), some (.inr (.inr a5)), some (.inl x6), o7], r.toList ++ [.inl x6], σ') Φ)) : pe_X d 104 (34, [o0, o1, o2, some (.inr (.inr a3)), some (.inl x4), some (.inr (.inr a5)), some (.inl x6), o7], [], σ) Φ := by
  refine pe_blk 21 2 ck104 [] (37, [o0, o1, o2, some (.inr (.inr a3)), some (.inl x4), some (.inr (.inr a5)), some (.inl x6), o7], [.inr (.inr a3), .inl x6], σ) rfl ?_ ?_
  · exact trivial
  · try simp (disch := omega) only [pe_K_wI, pe_K_wR]
    have hrc : pe_K σ a3 = 6 := by first | assumption | (simp (disch := omega) only [pe_K_wI, pe_K_wR]; done) | (simp (disch := omega) only [pe_K_wI, pe_K_wR]; assumption)
    exact pe_cal 23 ck104 rfl rfl rfl ⟨hrc, by decide⟩ k
theorem b104_40 {d : Nat} {Φ : Option pe_V → pe_H → Prop} {σ : pe_H} {o0 : Option pe_V} {o1 : Option pe_V} {o2 : Option pe_V} {a3 : Nat} {x4 : Int} {a5 : Nat} {x6 : Int} {o7 : Option pe_V} {s0 : Int} {s1 : Int} (f_a5 : pk_Fm a5 σ := by assumption) (w0 : pe_in s1 := by unfold pe_in; omega) (w1 : pe_in s0 := by unfold pe_in; omega)  (k1 : s1 ≤ s0 → pe_X d 104 (90, [o0, o1, o2, some (.inr (.inr a3)), some (.inl x4), some (.inr (.inr a5)), some (.inl x6), o7], [], σ) Φ) (k2 : ¬ (s1 ≤ s0) → pe_X d 104 (43, [o0, o1, o2, some (.inr (.inr a3)), some (.inl x4), some (.inr (.inr a5)), some (.inl x6), o7], [], σ) Φ) : pe_X d 104 (40, [o0, o1, o2, some (.inr (.inr a3)), some (.inl x4), some (.inr (.inr a5)), some (.inl x6), o7], [.inl s1, .inl s0], σ) Φ := by
  refine pe_blk 24 1 ck104 [] (cond (decide ((pe_w s1) ≤ (pe_w s0))) 90 43, [o0, o1, o2, some (.inr (.inr a3)), some (.inl x4), some (.inr (.inr a5)), some (.inl x6), o7], [], σ) rfl ?_ ?_
  · exact trivial
  · try simp (disch := omega) only [pe_wi w0, pe_wi w1]
    exact pe_two k1 k2
theorem b104_43 {d : Nat} {Φ : Option pe_V → pe_H → Prop} {σ : pe_H} {o0 : Option pe_V} {o1 : Option pe_V} {o2 : Option pe_V} {a3 : Nat} {x4 : Int} {a5 : Nat} {x6 : Int} {o7 : Option pe_V} (f_a5 : pk_Fm a5 σ := by assumption)   (k : pe_M d 17 [.inr (.inr a5)] σ (fun r σ' => pe_X d 104 (48, [o0, o1, o2, some (.inr (.inr a3)), some (.inl x4), some (.inr (.inr a5)), some (.inl x6), o7], r.toList ++ [], σ') Φ)) : pe_X d 104 (43, [o0, o1, o2, some (.inr (.inr a3)), some (.inl x4), some (.inr (.inr a5)), some (.inl x6), o7], [], σ) Φ := by
  refine pe_blk 25 1 ck104 [] (45, [o0, o1, o2, some (.inr (.inr a3)), some (.inl x4), some (.inr (.inr a5)), some (.inl x6), o7], [.inr (.inr a5)], σ) rfl ?_ ?_
  · exact trivial
  · try simp (disch := omega) only [pe_K_wI, pe_K_wR, pk_mK f_a5]
    have hrc : pe_K σ a5 = 2 := by first | assumption | (simp (disch := omega) only [pe_K_wI, pe_K_wR, pk_mK f_a5]; done) | (simp (disch := omega) only [pe_K_wI, pe_K_wR, pk_mK f_a5]; assumption)
    exact pe_cal 26 ck104 rfl rfl rfl ⟨hrc, by decide⟩ k
theorem b104_48 {d : Nat} {Φ : Option pe_V → pe_H → Prop} {σ : pe_H} {o0 : Option pe_V} {o1 : Option pe_V} {o2 : Option pe_V} {a3 : Nat} {x4 : Int} {a5 : Nat} {x6 : Int} {o7 : Option pe_V} {s0 : Int} (f_a5 : pk_Fm a5 σ := by assumption)   (k : pe_M d 245 [.inl s0] σ (fun r σ' => pe_X d 104 (51, [o0, o1, o2, some (.inr (.inr a3)), some (.inl x4), some (.inr (.inr a5)), some (.inl x6), o7], r.toList ++ [], σ') Φ)) : pe_X d 104 (48, [o0, o1, o2, some (.inr (.inr a3)), some (.inl x4), some (.inr (.inr a5)), some (.inl x6), o7], [.inl s0], σ) Φ := by
  exact pe_cal 27 ck104 rfl rfl rfl trivial k
theorem b104_51 {d : Nat} {Φ : Option pe_V → pe_H → Prop} {σ : pe_H} {o0 : Option pe_V} {o1 : Option pe_V} {o2 : Option pe_V} {a3 : Nat} {x4 : Int} {a5 : Nat} {x6 : Int} {o7 : Option pe_V} {s0 : Int} (f_a5 : pk_Fm a5 σ := by assumption)  (h0 : pe_K σ a3 = 6 := by first | assumption | omega) (k : pe_M d 60 [.inr (.inr a3), .inl x6] σ (fun r σ' => pe_X d 104 (59, [o0, o1, o2, some (.inr (.inr a3)), some (.inl x4), some (.inr (.inr a5)), some (.inl x6), some (.inl s0)], r.toList ++ [], σ') Φ)) : pe_X d 104 (51, [o0, o1, o2, some (.inr (.inr a3)), some (.inl x4), some (.inr (.inr a5)), some (.inl x6), o7], [.inl s0], σ) Φ := by
  refine pe_blk 28 3 ck104 [] (56, [o0, o1, o2, some (.inr (.inr a3)), some (.inl x4), some (.inr (.inr a5)), some (.inl x6), some (.inl s0)], [.inl x6, .inr (.inr a3)], σ) rfl ?_ ?_
  · exact trivial
  · try simp (disch := omega) only [pe_K_wI, pe_K_wR]
    have hrc : pe_K σ a3 = 6 := by first | assumption | (simp (disch := omega) only [pe_K_wI, pe_K_wR]; done) | (simp (disch := omega) only [pe_K_wI, pe_K_wR]; assumption)
    exact pe_cal 31 ck104 rfl rfl rfl ⟨hrc, by decide⟩ k
theorem b104_59 {d : Nat} {Φ : Option pe_V → pe_H → Prop} {σ : pe_H} {o0 : Option pe_V} {o1 : Option pe_V} {o2 : Option pe_V} {a3 : Nat} {x4 : Int} {a5 : Nat} {x6 : Int} {x7 : Int} {s0 : Int} (f_a5 : pk_Fm a5 σ := by assumption) (w0 : pe_in x4 := by unfold pe_in; omega) (w1 : pe_in s0 := by unfold pe_in; omega)  (k1 : s0 = x4 → pe_X d 104 (78, [o0, o1, o2, some (.inr (.inr a3)), some (.inl x4), some (.inr (.inr a5)), some (.inl x6), some (.inl x7)], [], σ) Φ) (k2 : ¬ (s0 = x4) → pe_X d 104 (64, [o0, o1, o2, some (.inr (.inr a3)), some (.inl x4), some (.inr (.inr a5)), some (.inl x6), some (.inl x7)], [], σ) Φ) : pe_X d 104 (59, [o0, o1, o2, some (.inr (.inr a3)), some (.inl x4), some (.inr (.inr a5)), some (.inl x6), some (.inl x7)], [.inl s0], σ) Φ := by
  refine pe_blk 32 2 ck104 [] (cond (decide ((pe_w s0) = (pe_w x4))) 78 64, [o0, o1, o2, some (.inr (.inr a3)), some (.inl x4), some (.inr (.inr a5)), some (.inl x6), some (.inl x7)], [], σ) rfl ?_ ?_
  · exact trivial
  · try simp (disch := omega) only [pe_wi w0, pe_wi w1]
    exact pe_two k1 k2
theorem b104_64 {d : Nat} {Φ : Option pe_V → pe_H → Prop} {σ : pe_H} {o0 : Option pe_V} {o1 : Option pe_V} {o2 : Option pe_V} {a3 : Nat} {x4 : Int} {a5 : Nat} {x6 : Int} {x7 : Int} (f_a5 : pk_Fm a5 σ := by assumption)  (h0 : pe_K σ a3 = 6 := by first | assumption | omega) (k : pe_M d 60 [.inr (.inr a3), .inl x6] σ (fun r σ' => pe_X d 104 (70, [o0, o1, o2, some (.inr (.inr a3)), some (.inl x4), some (.inr (.inr a5)), some (.inl x6), some (.inl x7)], r.toList ++ [], σ') Φ)) : pe_X d 104 (64, [o0, o1, o2, some (.inr (.inr a3)), some (.inl x4), some (.inr (.inr a5)), some (.inl x6), some (.inl x7)], [], σ) Φ := by
  refine pe_blk 34 2 ck104 [] (67, [o0, o1, o2, some (.inr (.inr a3)), some (.inl x4), some (.inr (.inr a5)), some (.inl x6), some (.inl x7)], [.inl x6, .inr (.inr a3)], σ) rfl ?_ ?_
  · exact trivial
  · try simp (disch := omega) only [pe_K_wI, pe_K_wR]
    have hrc : pe_K σ a3 = 6 := by first | assumption | (simp (disch := omega) only [pe_K_wI, pe_K_wR]; done) | (simp (disch := omega) only [pe_K_wI, pe_K_wR]; assumption)
    exact pe_cal 36 ck104 rfl rfl rfl ⟨hrc, by decide⟩ k
theorem b104_70 {d : Nat} {Φ : Option pe_V → pe_H → Prop} {σ : pe_H} {o0 : Option pe_V} {o1 : Option pe_V} {o2 : Option pe_V} {a3 : Nat} {x4 : Int} {a5 : Nat} {x6 : Int} {x7 : Int} {s0 : Int} (f_a5 : pk_Fm a5 σ := by assumption) (w0 : pe_in x7 := by unfold pe_in; omega) (w1 : pe_in s0 := by unfold pe_in; omega)  (k1 : s0 = x7 → pe_X d 104 (78, [o0, o1, o2, some (.inr (.inr a3)), some (.inl x4), some (.inr (.inr a5)), some (.inl x6), some (.inl x7)], [], σ) Φ) (k2 : ¬ (s0 = x7) → pe_X d 104 (75, [o0, o1, o2, some (.inr (.inr a3)), some (.inl x4), some (.inr (.inr a5)), some (.inl x6), some (.inl x7)], [], σ) Φ) : pe_X d 104 (70, [o0, o1, o2, some (.inr (.inr a3)), some (.inl x4), some (.inr (.inr a5)), some (.inl x6), some (.inl x7)], [.inl s0], σ) Φ := by
  refine pe_blk 37 2 ck104 [] (cond (decide ((pe_w s0) = (pe_w x7))) 78 75, [o0, o1, o2, some (.inr (.inr a3)), some (.inl x4), some (.inr (.inr a5)), some (.inl x6), some (.inl x7)], [], σ) rfl ?_ ?_
  · exact trivial
  · try simp (disch := omega) only [pe_wi w0, pe_wi w1]
    exact pe_two k1 k2
theorem b104_75 {d : Nat} {Φ : Option pe_V → pe_H → Prop} {σ : pe_H} {o0 : Option pe_V} {o1 : Option pe_V} {o2 : Option pe_V} {o3 : Option pe_V} {o4 : Option pe_V} {o5 : Option pe_V} {x6 : Int} {o7 : Option pe_V}    (k : Φ (some (.inl x6)) σ) : pe_X d 104 (75, [o0, o1, o2, o3, o4, o5, some (.inl x6), o7], [], σ) Φ := by
  refine pe_blk 39 1 ck104 [] (77, [o0, o1, o2, o3, o4, o5, some (.inl x6), o7], [.inl x6], σ) rfl ?_ ?_
  · exact trivial
  · exact pe_fine 40 ck104 rfl rfl rfl trivial k
theorem b104_78 {d : Nat} {Φ : Option pe_V → pe_H → Prop} {σ : pe_H} {o0 : Option pe_V} {o1 : Option pe_V} {o2 : Option pe_V} {a3 : Nat} {x4 : Int} {a5 : Nat} {x6 : Int} {o7 : Option pe_V} (f_a5 : pk_Fm a5 σ := by assumption)   (k : pe_M d 28 [.inr (.inr a5)] σ (fun r σ' => pe_X d 104 (83, [o0, o1, o2, some (.inr (.inr a3)), some (.inl x4), some (.inr (.inr a5)), some (.inl x6), o7], r.toList ++ [], σ') Φ)) : pe_X d 104 (78, [o0, o1, o2, some (.inr (.inr a3)), some (.inl x4), some (.inr (.inr a5)), some (.inl x6), o7], [], σ) Φ := by
  refine pe_blk 41 1 ck104 [] (80, [o0, o1, o2, some (.inr (.inr a3)), some (.inl x4), some (.inr (.inr a5)), some (.inl x6), o7], [.inr (.inr a5)], σ) rfl ?_ ?_
  · exact trivial
  · try simp (disch := omega) only [pe_K_wI, pe_K_wR, pk_mK f_a5]
    have hrc : pe_K σ a5 = 2 := by first | assumption | (simp (disch := omega) only [pe_K_wI, pe_K_wR, pk_mK f_a5]; done) | (simp (disch := omega) only [pe_K_wI, pe_K_wR, pk_mK f_a5]; assumption)
    exact pe_cal 42 ck104 rfl rfl rfl ⟨hrc, by decide⟩ k
theorem b104_83 {d : Nat} {Φ : Option pe_V → pe_H → Prop} {σ : pe_H} {o0 : Option pe_V} {o1 : Option pe_V} {o2 : Option pe_V} {a3 : Nat} {x4 : Int} {a5 : Nat} {x6 : Int} {o7 : Option pe_V} {s0 : Int} (f_a5 : pk_Fm a5 σ := by assumption)   (k : pe_X d 104 (34, [o0, o1, o2, some (.inr (.inr a3)), some (.inl x4), some (.inr (.inr a5)), some (.inl (x6 + 1)), o7], [], σ) Φ) : pe_X d 104 (83, [o0, o1, o2, some (.inr (.inr a3)), some (.inl x4), some (.inr (.inr a5)), some (.inl x6), o7], [.inl s0], σ) Φ := by
  refine pe_blk 43 3 ck104 [] (34, [o0, o1, o2, some (.inr (.inr a3)), some (.inl x4), some (.inr (.inr a5)), some (.inl (x6 + 1)), o7], [], σ) rfl ?_ ?_
  · exact trivial
  · exact k
theorem b104_90 {d : Nat} {Φ : Option pe_V → pe_H → Prop} {σ : pe_H} {o0 : Option pe_V} {o1 : Option pe_V} {o2 : Option pe_V} {o3 : Option pe_V} {o4 : Option pe_V} {o5 : Option pe_V} {o6 : Option pe_V} {o7 : Option pe_V}    (k : Φ (some (.inl (-4))) σ) : pe_X d 104 (90, [o0, o1, o2, o3, o4, o5, o6, o7], [], σ) Φ := by
  refine pe_blk 46 1 ck104 [] (92, [o0, o1, o2, o3, o4, o5, o6, o7], [.inl (-4)], σ) rfl ?_ ?_
  · exact trivial
  · exact pe_fine 47 ck104 rfl rfl rfl trivial k
-- StepMachines.lots(III)I
def T105 : List (Nat × Instr × Nat) := [(0, .iload_n 1, 1), (1, .iconst 1, 1), (2, .if_icmp .lt 18, 3), (5, .iload_n 1, 1), (6, .bipush 20, 2), (8, .if_icmp .gt 12, 3), (11, .iload_n 3, 1), (12, .ifCond .lt 8, 3), (15, .iload_n 3, 1), (16, .iconst 1, 1), (17, .if_icmp .le 5, 3), (20, .iconst (-1), 1), (21, .ireturn, 1), (22, .aload_n 0, 1), (23, .getfield 10, 3), (26, .getfield 235, 3), (29, .ifCond .ne 5, 3), (32, .iconst 0, 1), (33, .ireturn, 1), (34, .aload_n 0, 1), (35, .iload_n 2, 1), (36, .putfield 46, 3), (39, .iconst 0, 1), (40, .istore 4, 2), (42, .iconst 0, 1), (43, .istore 5, 2), (45, .iload 5, 2), (47, .iload_n 1, 1), (48, .if_icmp .ge 54, 3), (51, .aload_n 0, 1), (52, .invokevirtual 66, 3), (55, .astore 6, 2), (57, .aload_n 0, 1), (58, .aload 6, 2), (60, .invokevirtual 280, 3), (63, .iload 4, 2), (65, .iload_n 3, 1), (66, .ifCond .ne 19, 3), (69, .aload 6, 2), (71, .invokevirtual 283, 3), (74, .aload_n 0, 1), (75, .getfield 10, 3), (78, .invokevirtual 283, 3), (81, .isub, 1), (82, .goto 11, 3), (85, .aload 6, 2), (87, .invokevirtual 215, 3), (90, .invokestatic 218, 3), (93, .iadd, 1), (94, .istore 4, 2), (96, .iinc 5 1, 3), (99, .goto (-54), 3), (102, .iload 4, 2), (104, .ireturn, 1)]
theorem ck105 : pe_ctx 105 8 false (some .int) 7 T105 := ⟨rfl, rfl, rfl, rfl, by decide +kernel, by decide, by decide⟩
theorem b105_0 {d : Nat} {Φ : Option pe_V → pe_H → Prop} {σ : pe_H} {a0 : Nat} {x1 : Int} {x2 : Int} {x3 : Int} {o4 : Option pe_V} {o5 : Option pe_V} {o6 : Option pe_V} (f_a0 : pk_Fs a0 σ := by assumption) (w0 : pe_in x1 := by unfold pe_in; omega)  (k1 : x1 < 1 → pe_X d 105 (20, [some (.inr (.inr a0)), some (.inl x1), some (.inl x2), some (.inl x3), o4, o5, o6], [], σ) Φ) (k2 : ¬ (x1 < 1) → pe_X d 105 (5, [some (.inr (.inr a0)), some (.inl x1), some (.inl x2), some (.inl x3), o4, o5, o6], [], σ) Φ) : pe_X d 105 (0, [some (.inr (.inr a0)), some (.inl x1), some (.inl x2), some (.inl x3), o4, o5, o6], [], σ) Φ := by
  refine pe_blk 0 3 ck105 [] (cond (decide ((pe_w x1) < (pe_w 1))) 20 5, [some (.inr (.inr a0)), some (.inl x1), some (.inl x2), some (.inl x3), o4, o5, o6], [], σ) rfl ?_ ?_
  · exact trivial
  · try simp (disch := omega) only [pe_wi w0, pe_wi (x := 1) ⟨by decide, by decide⟩]
    exact pe_two k1 k2
theorem b105_5 {d : Nat} {Φ : Option pe_V → pe_H → Prop} {σ : pe_H} {a0 : Nat} {x1 : Int} {x2 : Int} {x3 : Int} {o4 : Option pe_V} {o5 : Option pe_V} {o6 : Option pe_V} (f_a0 : pk_Fs a0 σ := by assumption) (w0 : pe_in x1 := by unfold pe_in; omega)  (k1 : 20 < x1 → pe_X d 105 (20, [some (.inr (.inr a0)), some (.inl x1), some (.inl x2), some (.inl x3), o4, o5, o6], [], σ) Φ) (k2 : ¬ (20 < x1) → pe_X d 105 (11, [some (.inr (.inr a0)), some (.inl x1), some (.inl x2), some (.inl x3), o4, o5, o6], [], σ) Φ) : pe_X d 105 (5, [some (.inr (.inr a0)), some (.inl x1), some (.inl x2), some (.inl x3), o4, o5, o6], [], σ) Φ := by
  refine pe_blk 3 3 ck105 [] (cond (decide ((pe_w 20) < (pe_w x1))) 20 11, [some (.inr (.inr a0)), some (.inl x1), some (.inl x2), some (.inl x3), o4, o5, o6], [], σ) rfl ?_ ?_
  · exact trivial
  · try simp (disch := omega) only [pe_wi w0, pe_wi (x := 20) ⟨by decide, by decide⟩]
    exact pe_two k1 k2
theorem b105_11 {d : Nat} {Φ : Option pe_V → pe_H → Prop} {σ : pe_H} {a0 : Nat} {x1 : Int} {x2 : Int} {x3 : Int} {o4 : Option pe_V} {o5 : Option pe_V} {o6 : Option pe_V} (f_a0 : pk_Fs a0 σ := by assumption) (w0 : pe_in x3 := by unfold pe_in; omega)  (k1 : x3 < 0 → pe_X d 105 (20, [some (.inr (.inr a0)), some (.inl x1), some (.inl x2), some (.inl x3), o4, o5, o6], [], σ) Φ) (k2 : ¬ (x3 < 0) → pe_X d 105 (15, [some (.inr (.inr a0)), some (.inl x1), some (.inl x2), some (.inl x3), o4, o5, o6], [], σ) Φ) : pe_X d 105 (11, [some (.inr (.inr a0)), some (.inl x1), some (.inl x2), some (.inl x3), o4, o5, o6], [], σ) Φ := by
  refine pe_blk 6 2 ck105 [] (cond (decide ((pe_w x3) < 0)) 20 15, [some (.inr (.inr a0)), some (.inl x1), some (.inl x2), some (.inl x3), o4, o5, o6], [], σ) rfl ?_ ?_
  · exact trivial
  · try simp (disch := omega) only [pe_wi w0]
    exact pe_two k1 k2
theorem b105_15 {d : Nat} {Φ : Option pe_V → pe_H → Prop} {σ : pe_H} {a0 : Nat} {x1 : Int} {x2 : Int} {x3 : Int} {o4 : Option pe_V} {o5 : Option pe_V} {o6 : Option pe_V} (f_a0 : pk_Fs a0 σ := by assumption) (w0 : pe_in x3 := by unfold pe_in; omega)  (k1 : x3 ≤ 1 → pe_X d 105 (22, [some (.inr (.inr a0)), some (.inl x1), some (.inl x2), some (.inl x3), o4, o5, o6], [], σ) Φ) (k2 : ¬ (x3 ≤ 1) → pe_X d 105 (20, [some (.inr (.inr a0)), some (.inl x1), some (.inl x2), some (.inl x3), o4, o5, o6], [], σ) Φ) : pe_X d 105 (15, [some (.inr (.inr a0)), some (.inl x1), some (.inl x2), some (.inl x3), o4, o5, o6], [], σ) Φ := by
  refine pe_blk 8 3 ck105 [] (cond (decide ((pe_w x3) ≤ (pe_w 1))) 22 20, [some (.inr (.inr a0)), some (.inl x1), some (.inl x2), some (.inl x3), o4, o5, o6], [], σ) rfl ?_ ?_
  · exact trivial
  · try simp (disch := omega) only [pe_wi w0, pe_wi (x := 1) ⟨by decide, by decide⟩]
    exact pe_two k1 k2
theorem b105_20 {d : Nat} {Φ : Option pe_V → pe_H → Prop} {σ : pe_H} {o0 : Option pe_V} {o1 : Option pe_V} {o2 : Option pe_V} {o3 : Option pe_V} {o4 : Option pe_V} {o5 : Option pe_V} {o6 : Option pe_V}    (k : Φ (some (.inl (-1))) σ) : pe_X d 105 (20, [o0, o1, o2, o3, o4, o5, o6], [], σ) Φ := by
  refine pe_blk 11 1 ck105 [] (21, [o0, o1, o2, o3, o4, o5, o6], [.inl (-1)], σ) rfl ?_ ?_
  · exact trivial
  · exact pe_fine 12 ck105 rfl rfl rfl trivial k
theorem b105_22 {d : Nat} {Φ : Option pe_V → pe_H → Prop} {σ : pe_H} {a0 : Nat} {x1 : Int} {x2 : Int} {x3 : Int} {o4 : Option pe_V} {o5 : Option pe_V} {o6 : Option pe_V} (f_a0 : pk_Fs a0 σ := by assumption) (w0 : pe_in (pe_I σ (a0 + 1) 4) := by unfold pe_in; omega)  (k1 : ¬ (pe_I σ (a0 + 1) 4) = 0 → pe_X d 105 (34, [some (.inr (.inr a0)), some (.inl x1), some (.inl x2), some (.inl x3), o4, o5, o6], [], σ) Φ) (k2 : (pe_I σ (a0 + 1) 4) = 0 → pe_X d 105 (32, [some (.inr (.inr a0)), some (.inl x1), some (.inl x2), some (.inl x3), o4, o5, o6], [], σ) Φ) : pe_X d 105 (22, [some (.inr (.inr a0)), some (.inl x1), some (.inl x2), some (.inl x3), o4, o5, o6], [], σ) Φ := by
  refine pe_blk 13 4 ck105 [pe_K σ a0 = 8, pe_K σ (pe_R σ a0 0) = 2] (cond (decide (¬ (pe_w (pe_I σ (pe_R σ a0 0) 4)) = 0)) 34 32, [some (.inr (.inr a0)), some (.inl x1), some (.inl x2), some (.inl x3), o4, o5, o6], [], σ) rfl ?_ ?_
  · first
    | (simp (disch := omega) only [pe_all, pe_wi w0, pe_K_wI, pe_K_wR, pe_R_nej, pe_R_ner, pe_R_wI, pk_mK (pk_sM0 f_a0), pk_sK f_a0, pk_sR0 f_a0]; done)
    | (simp (disch := omega) only [pe_all, pe_wi w0, pe_K_wI, pe_K_wR, pe_R_nej, pe_R_ner, pe_R_wI, pk_mK (pk_sM0 f_a0), pk_sK f_a0, pk_sR0 f_a0]; (repeat' apply And.intro) <;> first | assumption | omega | decide)
  · try simp (disch := omega) only [pe_wi w0, pe_K_wI, pe_K_wR, pe_R_nej, pe_R_ner, pe_R_wI, pk_mK (pk_sM0 f_a0), pk_sK f_a0, pk_sR0 f_a0]
    exact pe_two' k1 k2
theorem b105_32 {d : Nat} {Φ : Option pe_V → pe_H → Prop} {σ : pe_H} {o0 : Option pe_V} {o1 : Option pe_V} {o2 : Option pe_V} {o3 : Option pe_V} {o4 : Option pe_V} {o5 : Option pe_V} {o6 : Option pe_V}    (k : Φ (some (.inl 0)) σ) : pe_X d 105 (32, [o0, o1, o2, o3, o4, o5, o6], [], σ) Φ := by
  refine pe_blk 17 1 ck105 [] (33, [o0, o1, o2, o3, o4, o5, o6], [.inl 0], σ) rfl ?_ ?_
  · exact trivial
  · exact pe_fine 18 ck105 rfl rfl rfl trivial k
theorem b105_34 {d : Nat} {Φ : Option pe_V → pe_H → Prop} {σ : pe_H} {a0 : Nat} {x1 : Int} {x2 : Int} {x3 : Int} {o4 : Option pe_V} {o5 : Option pe_V} {o6 : Option pe_V} (f_a0 : pk_Fs a0 σ := by assumption)   (k : pe_X d 105 (45, [some (.inr (.inr a0)), some (.inl x1), some (.inl x2), some (.inl x3), some (.inl 0), some (.inl 0), o6], [], pe_wI σ a0 7 x2) Φ) : pe_X d 105 (34, [some (.inr (.inr a0)), some (.inl x1), some (.inl x2), some (.inl x3), o4, o5, o6], [], σ) Φ := by
  refine pe_blk 19 7 ck105 [pe_K σ a0 = 8] (45, [some (.inr (.inr a0)), some (.inl x1), some (.inl x2), some (.inl x3), some (.inl 0), some (.inl 0), o6], [], pe_wI σ a0 7 x2) rfl ?_ ?_
  · first
    | (simp (disch := omega) only [pe_all, pe_K_wI, pe_K_wR, pk_sK f_a0]; done)
    | (simp (disch := omega) only [pe_all, pe_K_wI, pe_K_wR, pk_sK f_a0]; (repeat' apply And.intro) <;> first | assumption | omega | decide)
  · try simp (disch := omega) only [pe_K_wI, pe_K_wR, pk_sK f_a0]
    exact k
theorem b105_45 {d : Nat} {Φ : Option pe_V → pe_H → Prop} {σ : pe_H} {a0 : Nat} {x1 : Int} {o2 : Option pe_V} {x3 : Int} {x4 : Int} {x5 : Int} {o6 : Option pe_V} (f_a0 : pk_Fs a0 σ := by assumption) (w0 : pe_in x1 := by unfold pe_in; omega) (w1 : pe_in x5 := by unfold pe_in; omega)  (k1 : x1 ≤ x5 → pe_X d 105 (102, [some (.inr (.inr a0)), some (.inl x1), o2, some (.inl x3), some (.inl x4), some (.inl x5), o6], [], σ) Φ) (k2 : ¬ (x1 ≤ x5) → pe_X d 105 (51, [some (.inr (.inr a0)), some (.inl x1), o2, some (.inl x3), some (.inl x4), some (.inl x5), o6], [], σ) Φ) : pe_X d 105 (45, [some (.inr (.inr a0)), some (.inl x1), o2, some (.inl x3), some (.inl x4), some (.inl x5), o6], [], σ) Φ := by
  refine pe_blk 26 3 ck105 [] (cond (decide ((pe_w x1) ≤ (pe_w x5))) 102 51, [some (.inr (.inr a0)), some (.inl x1), o2, some (.inl x3), some (.inl x4), some (.inl x5), o6], [], σ) rfl ?_ ?_
  · exact trivial
  · try simp (disch := omega) only [pe_wi w0, pe_wi w1]
    exact pe_two k1 k2
theorem b105_51 {d : Nat} {Φ : Option pe_V → pe_H → Prop} {σ : pe_H} {a0 : Nat} {x1 : Int} {o2 : Option pe_V} {x3 : Int} {x4 : Int} {x5 : Int} {o6 : Option pe_V} (f_a0 : pk_Fs a0 σ := by assumption)   (k : pe_M d 122 [.inr (.inr a0)] σ (fun r σ' => pe_X d 105 (55, [some (.inr (.inr a0)), some (.inl x1), o2, some (.inl x3), some (.inl x4), some (.inl x5), o6], r.toList ++ [], σ') Φ)) : pe_X d 105 (51, [some (.inr (.inr a0)), some (.inl x1), o2, some (.inl x3), some (.inl x4), some (.inl x5), o6], [], σ) Φ := by
  refine pe_blk 29 1 ck105 [] (52, [some (.inr (.inr a0)), some (.inl x1), o2, some (.inl x3), some (.inl x4), some (.inl x5), o6], [.inr (.inr a0)], σ) rfl ?_ ?_
  · exact trivial
  · try simp (disch := omega) only [pe_K_wI, pe_K_wR, pk_sK f_a0]
    have hrc : pe_K σ a0 = 8 := by first | assumption | (simp (disch := omega) only [pe_K_wI, pe_K_wR, pk_sK f_a0]; done) | (simp (disch := omega) only [pe_K_wI, pe_K_wR, pk_sK f_a0]; assumption)
    exact pe_cal 30 ck105 rfl rfl rfl ⟨hrc, by decide⟩ k
theorem b105_55 {d : Nat} {Φ : Option pe_V → pe_H → Prop} {σ : pe_H} {a0 : Nat} {x1 : Int} {o2 : Option pe_V} {x3 : Int} {x4 : Int} {x5 : Int} {o6 : Option pe_V} {b0 : Nat} (f_a0 : pk_Fs a0 σ := by assumption) (f_b0 : pk_Fm b0 σ := by assumption)   (k : pe_M d 130 [.inr (.inr a0), .inr (.inr b0)] σ (fun r σ' => pe_X d 105 (63, [some (.inr (.inr a0)), some (.inl x1), o2, some (.inl x3), some (.inl x4), some (.inl x5), some (.inr (.inr b0))], r.toList ++ [], σ') Φ)) : pe_X d 105 (55, [some (.inr (.inr a0)), some (.inl x1), o2, some (.inl x3), some (.inl x4), some (.inl x5), o6], [.inr (.inr b0)], σ) Φ := by
  refine pe_blk 31 3 ck105 [] (60, [some (.inr (.inr a0)), some (.inl x1), o2, some (.inl x3), some (.inl x4), some (.inl x5), some (.inr (.inr b0))], [.inr (.inr b0), .inr (.inr a0)], σ) rfl ?_ ?_
  · exact trivial
  · try simp (disch := omega) only [pe_K_wI, pe_K_wR, pk_sK f_a0]
    have hrc : pe_K σ a0 = 8 := by first | assumption | (simp (disch := omega) only [pe_K_wI, pe_K_wR, pk_sK f_a0]; done) | (simp (disch := omega) only [pe_K_wI, pe_K_wR, pk_sK f_a0]; assumption)
    exact pe_cal 34 ck105 rfl rfl rfl ⟨hrc, by decide⟩ k
theorem b105_63 {d : Nat} {Φ : Option pe_V → pe_H → Prop} {σ : pe_H} {a0 : Nat} {x1 : Int} {o2 : Option pe_V} {x3 : Int} {x4 : Int} {x5 : Int} {a6 : Nat} (f_a0 : pk_Fs a0 σ := by assumption) (f_a6 : pk_Fm a6 σ := by assumption) (w0 : pe_in x3 := by unfold pe_in; omega)  (k1 : ¬ x3 = 0 → pe_X d 105 (85, [some (.inr (.inr a0)), some (.inl x1), o2, some (.inl x3), some (.inl x4), some (.inl x5), some (.inr (.inr a6))], [.inl x4], σ) Φ) (k2 : x3 = 0 → pe_X d 105 (69, [some (.inr (.inr a0)), some (.inl x1), o2, some (.inl x3), some (.inl x4), some (.inl x5), some (.inr (.inr a6))], [.inl x4], σ) Φ) : pe_X d 105 (63, [some (.inr (.inr a0)), some (.inl x1), o2, some (.inl x3), some (.inl x4), some (.inl x5), some (.inr (.inr a6))], [], σ) Φ := by
  refine pe_blk 35 3 ck105 [] (cond (decide (¬ (pe_w x3) = 0)) 85 69, [some (.inr (.inr a0)), some (.inl x1), o2, some (.inl x3), some (.inl x4), some (.inl x5), some (.inr (.inr a6))], [.inl x4], σ) rfl ?_ ?_
  · exact trivial
  · try simp (disch := omega) only [pe_wi w0]
    exact pe_two' k1 k2
theorem b105_69 {d : Nat} {Φ : Option pe_V → pe_H → Prop} {σ : pe_H} {a0 : Nat} {x1 : Int} {o2 : Option pe_V} {x3 : Int} {o4 : Option pe_V} {x5 : Int} {a6 : Nat} {s0 : Int} (f_a0 : pk_Fs a0 σ := by assumption) (f_a6 : pk_Fm a6 σ := by assumption)   (k : pe_M d 20 [.inr (.inr a6)] σ (fun r σ' => pe_X d 105 (74, [some (.inr (.inr a0)), some (.inl x1), o2, some (.inl x3), o4, some (.inl x5), some (.inr (.inr a6))], r.toList ++ [.inl s0], σ') Φ)) : pe_X d 105 (69, [some (.inr (.inr a0)), some (.inl x1), o2, some (.inl x3), o4, some (.inl x5), some (.inr (.inr a6))], [.inl s0], σ) Φ := by
  refine pe_blk 38 1 ck105 [] (71, [some (.inr (.inr a0)), some (.inl x1), o2, some (.inl x3), o4, some (.inl x5), some (.inr (.inr a6))], [.inr (.inr a6), .inl s0], σ) rfl ?_ ?_
  · exact trivial
  · try simp (disch := omega) only [pe_K_wI, pe_K_wR, pk_mK f_a6]
    have hrc : pe_K σ a6 = 2 := by first | assumption | (simp (disch := omega) only [pe_K_wI, pe_K_wR, pk_mK f_a6]; done) | (simp (disch := omega) only [pe_K_wI, pe_K_wR, pk_mK f_a6]; assumption)
    exact pe_cal 39 ck105 rfl rfl rfl ⟨hrc, by decide⟩ k
theorem b105_74 {d : Nat} {Φ : Option pe_V → pe_H → Prop} {σ : pe_H} {a0 : Nat} {x1 : Int} {o2 : Option pe_V} {x3 : Int} {o4 : Option pe_V} {x5 : Int} {o6 : Option pe_V} {s0 : Int} {s1 : Int} (f_a0 : pk_Fs a0 σ := by assumption)   (k : pe_M d 20 [.inr (.inr (a0 + 1))] σ (fun r σ' => pe_X d 105 (81, [some (.inr (.inr a0)), some (.inl x1), o2, some (.inl x3), o4, some (.inl x5), o6], r.toList ++ [.inl s1, .inl s0], σ') Φ)) : pe_X d 105 (74, [some (.inr (.inr a0)), some (.inl x1), o2, some (.inl x3), o4, some (.inl x5), o6], [.inl s1, .inl s0], σ) Φ := by
  refine pe_blk 40 2 ck105 [pe_K σ a0 = 8] (78, [some (.inr (.inr a0)), some (.inl x1), o2, some (.inl x3), o4, some (.inl x5), o6], [.inr (.inr (pe_R σ a0 0)), .inl s1, .inl s0], σ) rfl ?_ ?_
  · first
    | (simp (disch := omega) only [pe_all, pe_K_wI, pe_K_wR, pe_R_nej, pe_R_ner, pe_R_wI, pk_mK (pk_sM0 f_a0), pk_sK f_a0, pk_sR0 f_a0]; done)
    | (simp (disch := omega) only [pe_all, pe_K_wI, pe_K_wR, pe_R_nej, pe_R_ner, pe_R_wI, pk_mK (pk_sM0 f_a0), pk_sK f_a0, pk_sR0 f_a0]; (repeat' apply And.intro) <;> first | assumption | omega | decide)
  · try simp (disch := omega) only [pe_K_wI, pe_K_wR, pe_R_nej, pe_R_ner, pe_R_wI, pk_mK (pk_sM0 f_a0), pk_sK f_a0, pk_sR0 f_a0]
    have hrc : pe_K σ (a0 + 1) = 2 := by first | assumption | (simp (disch := omega) only [pe_K_wI, pe_K_wR, pe_R_nej, pe_R_ner, pe_R_wI, pk_mK (pk_sM0 f_a0), pk_sK f_a0, pk_sR0 f_a0]; done) | (simp (disch := omega) only [pe_K_wI, pe_K_wR, pe_R_nej, pe_R_ner, pe_R_wI, pk_mK (pk_sM0 f_a0), pk_sK f_a0, pk_sR0 f_a0]; assumption)
    exact pe_cal 42 ck105 rfl rfl rfl ⟨hrc, by decide⟩ k
theorem b105_81 {d : Nat} {Φ : Option pe_V → pe_H → Prop} {σ : pe_H} {a0 : Nat} {x1 : Int} {o2 : Option pe_V} {x3 : Int} {o4 : Option pe_V} {x5 : Int} {o6 : Option pe_V} {s0 : Int} {s1 : Int} {s2 : Int} (f_a0 : pk_Fs a0 σ := by assumption)   (k : pe_X d 105 (93, [some (.inr (.inr a0)), some (.inl x1), o2, some (.inl x3), o4, some (.inl x5), o6], [.inl (s1 - s2), .inl s0], σ) Φ) : pe_X d 105 (81, [some (.inr (.inr a0)), some (.inl x1), o2, some (.inl x3), o4, some (.inl x5), o6], [.inl s2, .inl s1, .inl s0], σ) Φ := by
  refine pe_blk 43 2 ck105 [] (93, [some (.inr (.inr a0)), some (.inl x1), o2, some (.inl x3), o4, some (.inl x5), o6], [.inl (s1 - s2), .inl s0], σ) rfl ?_ ?_
  · exact trivial
  · exact k
theorem b105_85 {d : Nat} {Φ : Option pe_V → pe_H → Prop} {σ : pe_H} {a0 : Nat} {x1 : Int} {o2 : Option pe_V} {x3 : Int} {o4 : Option pe_V} {x5 : Int} {a6 : Nat} {s0 : Int} (f_a0 : pk_Fs a0 σ := by assumption) (f_a6 : pk_Fm a6 σ := by assumption)   (k : pe_M d 17 [.inr (.inr a6)] σ (fun r σ' => pe_X d 105 (90, [some (.inr (.inr a0)), some (.inl x1), o2, some (.inl x3), o4, some (.inl x5), some (.inr (.inr a6))], r.toList ++ [.inl s0], σ') Φ)) : pe_X d 105 (85, [some (.inr (.inr a0)), some (.inl x1), o2, some (.inl x3), o4, some (.inl x5), some (.inr (.inr a6))], [.inl s0], σ) Φ := by
  refine pe_blk 45 1 ck105 [] (87, [some (.inr (.inr a0)), some (.inl x1), o2, some (.inl x3), o4, some (.inl x5), some (.inr (.inr a6))], [.inr (.inr a6), .inl s0], σ) rfl ?_ ?_
  · exact trivial
  · try simp (disch := omega) only [pe_K_wI, pe_K_wR, pk_mK f_a6]
    have hrc : pe_K σ a6 = 2 := by first | assumption | (simp (disch := omega) only [pe_K_wI, pe_K_wR, pk_mK f_a6]; done) | (simp (disch := omega) only [pe_K_wI, pe_K_wR, pk_mK f_a6]; assumption)
    exact pe_cal 46 ck105 rfl rfl rfl ⟨hrc, by decide⟩ k
theorem b105_90 {d : Nat} {Φ : Option pe_V → pe_H → Prop} {σ : pe_H} {a0 : Nat} {x1 : Int} {o2 : Option pe_V} {x3 : Int} {o4 : Option pe_V} {x5 : Int} {o6 : Option pe_V} {s0 : Int} {s1 : Int} (f_a0 : pk_Fs a0 σ := by assumption)   (k : pe_M d 245 [.inl s1] σ (fun r σ' => pe_X d 105 (93, [some (.inr (.inr a0)), some (.inl x1), o2, some (.inl x3), o4, some (.inl x5), o6], r.toList ++ [.inl s0], σ') Φ)) : pe_X d 105 (90, [some (.inr (.inr a0)), some (.inl x1), o2, some (.inl x3), o4, some (.inl x5), o6], [.inl s1, .inl s0], σ) Φ := by
  exact pe_cal 47 ck105 rfl rfl rfl trivial k
set_option maxRecDepth 8000 in
theorem b105_93 {d : Nat} {Φ : Option pe_V → pe_H → Prop} {σ : pe_H} {a0 : Nat} {x1 : Int} {o2 : Option pe_V} {x3 : Int} {o4 : Option pe_V} {x5 : Int} {o6 : Option pe_V} {s0 : Int} {s1 : Int} (f_a0 : pk_Fs a0 σ := by assumption)   (k : pe_X d 105 (45, [some (.inr (.inr a0)), some (.inl x1), o2, some (.inl x3), some (.inl (s0 + s1)), some (.inl (x5 + 1)), o6], [], σ) Φ) : pe_X d 105 (93, [some (.inr (.inr a0)), some (.inl x1), o2, some (.inl x3), o4, some (.inl x5), o6], [.inl s1, .inl s0], σ) Φ := by
  refine pe_blk 48 4 ck105 [] (45, [some (.inr (.inr a0)), some (.inl x1), o2, some (.inl x3), some (.inl (s0 + s1)), some (.inl (x5 + 1)), o6], [], σ) rfl ?_ ?_
  · exact trivial
  · exact k
set_option maxRecDepth 8000 in
theorem b105_102 {d : Nat} {Φ : Option pe_V → pe_H → Prop} {σ : pe_H} {o0 : Option pe_V} {o1 : Option pe_V} {o2 : Option pe_V} {o3 : Option pe_V} {x4 : Int} {o5 : Option pe_V} {o6 : Option pe_V}    (k : Φ (some (.inl x4)) σ) : pe_X d 105 (102, [o0, o1, o2, o3, some (.inl x4), o5, o6], [], σ) Φ := by
  refine pe_blk 52 1 ck105 [] (104, [o0, o1, o2, o3, some (.inl x4), o5, o6], [.inl x4], σ) rfl ?_ ?_
  · exact trivial
  · exact pe_fine 53 ck105 rfl rfl rfl trivial k
-- StepMachines.image()I
def T106 : List (Nat × Instr × Nat) := [(0, .aload_n 0, 1), (1, .getfield 16, 3), (4, .aload_n 0, 1), (5, .getfield 10, 3), (8, .invokevirtual 77, 3), (11, .aload_n 0, 1), (12, .iconst 1, 1), (13, .putfield 42, 3), (16, .aload_n 0, 1), (17, .getfield 10, 3), (20, .getfield 209, 3), (23, .ireturn, 1)]
theorem ck106 : pe_ctx 106 8 false (some .int) 1 T106 := ⟨rfl, rfl, rfl, rfl, by decide +kernel, by decide, by decide⟩
theorem b106_0 {d : Nat} {Φ : Option pe_V → pe_H → Prop} {σ : pe_H} {a0 : Nat} (f_a0 : pk_Fs a0 σ := by assumption)   (k : pe_M d 15 [.inr (.inr (a0 + 88)), .inr (.inr (a0 + 1))] σ (fun r σ' => pe_X d 106 (11, [some (.inr (.inr a0))], r.toList ++ [], σ') Φ)) : pe_X d 106 (0, [some (.inr (.inr a0))], [], σ) Φ := by
  refine pe_blk 0 4 ck106 [pe_K σ a0 = 8, pe_K σ a0 = 8] (8, [some (.inr (.inr a0))], [.inr (.inr (pe_R σ a0 0)), .inr (.inr (pe_R σ a0 1))], σ) rfl ?_ ?_
  · first
    | (simp (disch := omega) only [pe_all, pe_K_wI, pe_K_wR, pe_R_nej, pe_R_ner, pe_R_wI, pk_mK (pk_sM1 f_a0), pk_sK f_a0, pk_sR0 f_a0, pk_sR1 f_a0]; done)
    | (simp (disch := omega) only [pe_all, pe_K_wI, pe_K_wR, pe_R_nej, pe_R_ner, pe_R_wI, pk_mK (pk_sM1 f_a0), pk_sK f_a0, pk_sR0 f_a0, pk_sR1 f_a0]; (repeat' apply And.intro) <;> first | assumption | omega | decide)
  · try simp (disch := omega) only [pe_K_wI, pe_K_wR, pe_R_nej, pe_R_ner, pe_R_wI, pk_mK (pk_sM1 f_a0), pk_sK f_a0, pk_sR0 f_a0, pk_sR1 f_a0]
    have hrc : pe_K σ (a0 + 88) = 2 := by first | assumption | (simp (disch := omega) only [pe_K_wI, pe_K_wR, pe_R_nej, pe_R_ner, pe_R_wI, pk_mK (pk_sM1 f_a0), pk_sK f_a0, pk_sR0 f_a0, pk_sR1 f_a0]; done) | (simp (disch := omega) only [pe_K_wI, pe_K_wR, pe_R_nej, pe_R_ner, pe_R_wI, pk_mK (pk_sM1 f_a0), pk_sK f_a0, pk_sR0 f_a0, pk_sR1 f_a0]; assumption)
    exact pe_cal 4 ck106 rfl rfl rfl ⟨hrc, by decide⟩ k
theorem b106_11 {d : Nat} {Φ : Option pe_V → pe_H → Prop} {σ : pe_H} {a0 : Nat} (f_a0 : pk_Fs a0 σ := by assumption)   (k : Φ (some (.inl (pe_I σ (a0 + 1) 6))) (pe_wI σ a0 6 1)) : pe_X d 106 (11, [some (.inr (.inr a0))], [], σ) Φ := by
  refine pe_blk 5 6 ck106 [pe_K σ a0 = 8, 1 = 0 ∨ 1 = 1, pe_K (pe_wI σ a0 6 1) a0 = 8, pe_K (pe_wI σ a0 6 1) (pe_R (pe_wI σ a0 6 1) a0 0) = 2] (23, [some (.inr (.inr a0))], [.inl (pe_I (pe_wI σ a0 6 1) (pe_R (pe_wI σ a0 6 1) a0 0) 6)], pe_wI σ a0 6 1) rfl ?_ ?_
  · first
    | (simp (disch := omega) only [pe_all, pe_I_ner, pe_K_wI, pe_K_wR, pe_R_nej, pe_R_ner, pe_R_wI, pk_mK (pk_sM0 f_a0), pk_sK f_a0, pk_sR0 f_a0]; done)
    | (simp (disch := omega) only [pe_all, pe_I_ner, pe_K_wI, pe_K_wR, pe_R_nej, pe_R_ner, pe_R_wI, pk_mK (pk_sM0 f_a0), pk_sK f_a0, pk_sR0 f_a0]; (repeat' apply And.intro) <;> first | assumption | omega | decide)
  · try simp (disch := omega) only [pe_I_ner, pe_K_wI, pe_K_wR, pe_R_nej, pe_R_ner, pe_R_wI, pk_mK (pk_sM0 f_a0), pk_sK f_a0, pk_sR0 f_a0]
    exact pe_fine 11 ck106 rfl rfl rfl trivial k
-- StepMachines.restore()I
def T107 : List (Nat × Instr × Nat) := [(0, .aload_n 0, 1), (1, .getfield 42, 3), (4, .ifCond .ne 6, 3), (7, .bipush (-3), 2), (9, .ireturn, 1), (10, .aload_n 0, 1), (11, .getfield 10, 3), (14, .aload_n 0, 1), (15, .getfield 16, 3), (18, .invokevirtual 77, 3), (21, .aload_n 0, 1), (22, .getfield 10, 3), (25, .getfield 209, 3), (28, .ireturn, 1)]
theorem ck107 : pe_ctx 107 8 false (some .int) 1 T107 := ⟨rfl, rfl, rfl, rfl, by decide +kernel, by decide, by decide⟩
theorem b107_0 {d : Nat} {Φ : Option pe_V → pe_H → Prop} {σ : pe_H} {a0 : Nat} (f_a0 : pk_Fs a0 σ := by assumption) (w0 : pe_in (pe_I σ a0 6) := by unfold pe_in; omega)  (k1 : ¬ (pe_I σ a0 6) = 0 → pe_X d 107 (10, [some (.inr (.inr a0))], [], σ) Φ) (k2 : (pe_I σ a0 6) = 0 → pe_X d 107 (7, [some (.inr (.inr a0))], [], σ) Φ) : pe_X d 107 (0, [some (.inr (.inr a0))], [], σ) Φ := by
  refine pe_blk 0 3 ck107 [pe_K σ a0 = 8] (cond (decide (¬ (pe_w (pe_I σ a0 6)) = 0)) 10 7, [some (.inr (.inr a0))], [], σ) rfl ?_ ?_
  · first
    | (simp (disch := omega) only [pe_all, pe_wi w0, pe_K_wI, pe_K_wR, pk_sK f_a0]; done)
    | (simp (disch := omega) only [pe_all, pe_wi w0, pe_K_wI, pe_K_wR, pk_sK f_a0]; (repeat' apply And.intro) <;> first | assumption | omega | decide)
  · try simp (disch := omega) only [pe_wi w0, pe_K_wI, pe_K_wR, pk_sK f_a0]
    exact pe_two' k1 k2
theorem b107_7 {d : Nat} {Φ : Option pe_V → pe_H → Prop} {σ : pe_H} {o0 : Option pe_V}    (k : Φ (some (.inl (-3))) σ) : pe_X d 107 (7, [o0], [], σ) Φ := by
  refine pe_blk 3 1 ck107 [] (9, [o0], [.inl (-3)], σ) rfl ?_ ?_
  · exact trivial
  · exact pe_fine 4 ck107 rfl rfl rfl trivial k
theorem b107_10 {d : Nat} {Φ : Option pe_V → pe_H → Prop} {σ : pe_H} {a0 : Nat} (f_a0 : pk_Fs a0 σ := by assumption)   (k : pe_M d 15 [.inr (.inr (a0 + 1)), .inr (.inr (a0 + 88))] σ (fun r σ' => pe_X d 107 (21, [some (.inr (.inr a0))], r.toList ++ [], σ') Φ)) : pe_X d 107 (10, [some (.inr (.inr a0))], [], σ) Φ := by
  refine pe_blk 5 4 ck107 [pe_K σ a0 = 8, pe_K σ a0 = 8] (18, [some (.inr (.inr a0))], [.inr (.inr (pe_R σ a0 1)), .inr (.inr (pe_R σ a0 0))], σ) rfl ?_ ?_
  · first
    | (simp (disch := omega) only [pe_all, pe_K_wI, pe_K_wR, pe_R_nej, pe_R_ner, pe_R_wI, pk_mK (pk_sM0 f_a0), pk_sK f_a0, pk_sR0 f_a0, pk_sR1 f_a0]; done)
    | (simp (disch := omega) only [pe_all, pe_K_wI, pe_K_wR, pe_R_nej, pe_R_ner, pe_R_wI, pk_mK (pk_sM0 f_a0), pk_sK f_a0, pk_sR0 f_a0, pk_sR1 f_a0]; (repeat' apply And.intro) <;> first | assumption | omega | decide)
  · try simp (disch := omega) only [pe_K_wI, pe_K_wR, pe_R_nej, pe_R_ner, pe_R_wI, pk_mK (pk_sM0 f_a0), pk_sK f_a0, pk_sR0 f_a0, pk_sR1 f_a0]
    have hrc : pe_K σ (a0 + 1) = 2 := by first | assumption | (simp (disch := omega) only [pe_K_wI, pe_K_wR, pe_R_nej, pe_R_ner, pe_R_wI, pk_mK (pk_sM0 f_a0), pk_sK f_a0, pk_sR0 f_a0, pk_sR1 f_a0]; done) | (simp (disch := omega) only [pe_K_wI, pe_K_wR, pe_R_nej, pe_R_ner, pe_R_wI, pk_mK (pk_sM0 f_a0), pk_sK f_a0, pk_sR0 f_a0, pk_sR1 f_a0]; assumption)
    exact pe_cal 9 ck107 rfl rfl rfl ⟨hrc, by decide⟩ k
theorem b107_21 {d : Nat} {Φ : Option pe_V → pe_H → Prop} {σ : pe_H} {a0 : Nat} (f_a0 : pk_Fs a0 σ := by assumption)   (k : Φ (some (.inl (pe_I σ (a0 + 1) 6))) σ) : pe_X d 107 (21, [some (.inr (.inr a0))], [], σ) Φ := by
  refine pe_blk 10 3 ck107 [pe_K σ a0 = 8, pe_K σ (pe_R σ a0 0) = 2] (28, [some (.inr (.inr a0))], [.inl (pe_I σ (pe_R σ a0 0) 6)], σ) rfl ?_ ?_
  · first
    | (simp (disch := omega) only [pe_all, pe_K_wI, pe_K_wR, pe_R_nej, pe_R_ner, pe_R_wI, pk_mK (pk_sM0 f_a0), pk_sK f_a0, pk_sR0 f_a0]; done)
    | (simp (disch := omega) only [pe_all, pe_K_wI, pe_K_wR, pe_R_nej, pe_R_ner, pe_R_wI, pk_mK (pk_sM0 f_a0), pk_sK f_a0, pk_sR0 f_a0]; (repeat' apply And.intro) <;> first | assumption | omega | decide)
  · try simp (disch := omega) only [pe_K_wI, pe_K_wR, pe_R_nej, pe_R_ner, pe_R_wI, pk_mK (pk_sM0 f_a0), pk_sK f_a0, pk_sR0 f_a0]
    exact pe_fine 13 ck107 rfl rfl rfl trivial k
-- StepMachines.count(I)I
def T108 : List (Nat × Instr × Nat) := [(0, .iload_n 1, 1), (1, .tableswitch 107 0 5 #[39, 47, 55, 63, 71, 99], 39), (40, .aload_n 0, 1), (41, .getfield 10, 3), (44, .getfield 235, 3), (47, .ireturn, 1), (48, .aload_n 0, 1), (49, .getfield 10, 3), (52, .getfield 209, 3), (55, .ireturn, 1), (56, .aload_n 0, 1), (57, .getfield 10, 3), (60, .getfield 206, 3), (63, .ireturn, 1), (64, .aload_n 0, 1), (65, .getfield 10, 3), (68, .invokevirtual 215, 3), (71, .ireturn, 1), (72, .aload_n 0, 1), (73, .getfield 10, 3), (76, .invokevirtual 229, 3), (79, .aload_n 0, 1), (80, .getfield 10, 3), (83, .invokevirtual 215, 3), (86, .iconst (-1), 1), (87, .ixor, 1), (88, .iand, 1), (89, .aload_n 0, 1), (90, .getfield 10, 3), (93, .invokevirtual 226, 3), (96, .iconst (-1), 1), (97, .ixor, 1), (98, .iand, 1), (99, .ireturn, 1), (100, .aload_n 0, 1), (101, .getfield 10, 3), (104, .invokevirtual 283, 3), (107, .ireturn, 1), (108, .iconst (-1), 1), (109, .ireturn, 1)]
theorem ck108 : pe_ctx 108 8 false (some .int) 2 T108 := ⟨rfl, rfl, rfl, rfl, by decide +kernel, by decide, by decide⟩
theorem b108_0 {d : Nat} {Φ : Option pe_V → pe_H → Prop} {σ : pe_H} {a0 : Nat} {x1 : Int} (f_a0 : pk_Fs a0 σ := by assumption) (w0 : pe_in x1 := by unfold pe_in; omega)  (k0 : x1 = 0 → pe_X d 108 (40, [some (.inr (.inr a0)), some (.inl x1)], [], σ) Φ) (k1 : x1 = 1 → pe_X d 108 (48, [some (.inr (.inr a0)), some (.inl x1)], [], σ) Φ) (k2 : x1 = 2 → pe_X d 108 (56, [some (.inr (.inr a0)), some (.inl x1)], [], σ) Φ) (k3 : x1 = 3 → pe_X d 108 (64, [some (.inr (.inr a0)), some (.inl x1)], [], σ) Φ) (k4 : x1 = 4 → pe_X d 108 (72, [some (.inr (.inr a0)), some (.inl x1)], [], σ) Φ) (k5 : x1 = 5 → pe_X d 108 (100, [some (.inr (.inr a0)), some (.inl x1)], [], σ) Φ) (kd : ¬ x1 = 0 → ¬ x1 = 1 → ¬ x1 = 2 → ¬ x1 = 3 → ¬ x1 = 4 → ¬ x1 = 5 → pe_X d 108 (108, [some (.inr (.inr a0)), some (.inl x1)], [], σ) Φ) : pe_X d 108 (0, [some (.inr (.inr a0)), some (.inl x1)], [], σ) Φ := by
  refine pe_blk 0 2 ck108 [] ((((1 : Nat) : Int) + pe_sw 107 [(0, 39), (1, 47), (2, 55), (3, 63), (4, 71), (5, 99)] (pe_w x1)).toNat, [some (.inr (.inr a0)), some (.inl x1)], [], σ) rfl ?_ ?_
  · exact trivial
  · try simp (disch := omega) only [pe_wi w0]
    by_cases q0 : x1 = 0
    · have e : pe_sw 107 [(0, 39), (1, 47), (2, 55), (3, 63), (4, 71), (5, 99)] x1 = 39 := by rw [q0]; rfl
      rw [e]; exact k0 q0
    by_cases q1 : x1 = 1
    · have e : pe_sw 107 [(0, 39), (1, 47), (2, 55), (3, 63), (4, 71), (5, 99)] x1 = 47 := by rw [q1]; rfl
      rw [e]; exact k1 q1
    by_cases q2 : x1 = 2
    · have e : pe_sw 107 [(0, 39), (1, 47), (2, 55), (3, 63), (4, 71), (5, 99)] x1 = 55 := by rw [q2]; rfl
      rw [e]; exact k2 q2
    by_cases q3 : x1 = 3
    · have e : pe_sw 107 [(0, 39), (1, 47), (2, 55), (3, 63), (4, 71), (5, 99)] x1 = 63 := by rw [q3]; rfl
      rw [e]; exact k3 q3
    by_cases q4 : x1 = 4
    · have e : pe_sw 107 [(0, 39), (1, 47), (2, 55), (3, 63), (4, 71), (5, 99)] x1 = 71 := by rw [q4]; rfl
      rw [e]; exact k4 q4
    by_cases q5 : x1 = 5
    · have e : pe_sw 107 [(0, 39), (1, 47), (2, 55), (3, 63), (4, 71), (5, 99)] x1 = 99 := by rw [q5]; rfl
      rw [e]; exact k5 q5
    have e : pe_sw 107 [(0, 39), (1, 47), (2, 55), (3, 63), (4, 71), (5, 99)] x1 = 107 := by simp only [pe_sw, if_neg q0, if_neg q1, if_neg q2, if_neg q3, if_neg q4, if_neg q5]
    rw [e]; exact kd q0 q1 q2 q3 q4 q5
theorem b108_40 {d : Nat} {Φ : Option pe_V → pe_H → Prop} {σ : pe_H} {a0 : Nat} {o1 : Option pe_V} (f_a0 : pk_Fs a0 σ := by assumption)   (k : Φ (some (.inl (pe_I σ (a0 + 1) 4))) σ) : pe_X d 108 (40, [some (.inr (.inr a0)), o1], [], σ) Φ := by
  refine pe_blk 2 3 ck108 [pe_K σ a0 = 8, pe_K σ (pe_R σ a0 0) = 2] (47, [some (.inr (.inr a0)), o1], [.inl (pe_I σ (pe_R σ a0 0) 4)], σ) rfl ?_ ?_
  · first
    | (simp (disch := omega) only [pe_all, pe_K_wI, pe_K_wR, pe_R_nej, pe_R_ner, pe_R_wI, pk_mK (pk_sM0 f_a0), pk_sK f_a0, pk_sR0 f_a0]; done)
    | (simp (disch := omega) only [pe_all, pe_K_wI, pe_K_wR, pe_R_nej, pe_R_ner, pe_R_wI, pk_mK (pk_sM0 f_a0), pk_sK f_a0, pk_sR0 f_a0]; (repeat' apply And.intro) <;> first | assumption | omega | decide)
  · try simp (disch := omega) only [pe_K_wI, pe_K_wR, pe_R_nej, pe_R_ner, pe_R_wI, pk_mK (pk_sM0 f_a0), pk_sK f_a0, pk_sR0 f_a0]
    exact pe_fine 5 ck108 rfl rfl rfl trivial k
theorem b108_48 {d : Nat} {Φ : Option pe_V → pe_H → Prop} {σ : pe_H} {a0 : Nat} {o1 : Option pe_V} (f_a0 : pk_Fs a0 σ := by assumption)   (k : Φ (some (.inl (pe_I σ (a0 + 1) 6))) σ) : pe_X d 108 (48, [some (.inr (.inr a0)), o1], [], σ) Φ := by
  refine pe_blk 6 3 ck108 [pe_K σ a0 = 8, pe_K σ (pe_R σ a0 0) = 2] (55, [some (.inr (.inr a0)), o1], [.inl (pe_I σ (pe_R σ a0 0) 6)], σ) rfl ?_ ?_
  · first
    | (simp (disch := omega) only [pe_all, pe_K_wI, pe_K_wR, pe_R_nej, pe_R_ner, pe_R_wI, pk_mK (pk_sM0 f_a0), pk_sK f_a0, pk_sR0 f_a0]; done)
    | (simp (disch := omega) only [pe_all, pe_K_wI, pe_K_wR, pe_R_nej, pe_R_ner, pe_R_wI, pk_mK (pk_sM0 f_a0), pk_sK f_a0, pk_sR0 f_a0]; (repeat' apply And.intro) <;> first | assumption | omega | decide)
  · try simp (disch := omega) only [pe_K_wI, pe_K_wR, pe_R_nej, pe_R_ner, pe_R_wI, pk_mK (pk_sM0 f_a0), pk_sK f_a0, pk_sR0 f_a0]
    exact pe_fine 9 ck108 rfl rfl rfl trivial k
theorem b108_56 {d : Nat} {Φ : Option pe_V → pe_H → Prop} {σ : pe_H} {a0 : Nat} {o1 : Option pe_V} (f_a0 : pk_Fs a0 σ := by assumption)   (k : Φ (some (.inl (pe_I σ (a0 + 1) 5))) σ) : pe_X d 108 (56, [some (.inr (.inr a0)), o1], [], σ) Φ := by
  refine pe_blk 10 3 ck108 [pe_K σ a0 = 8, pe_K σ (pe_R σ a0 0) = 2] (63, [some (.inr (.inr a0)), o1], [.inl (pe_I σ (pe_R σ a0 0) 5)], σ) rfl ?_ ?_
  · first
    | (simp (disch := omega) only [pe_all, pe_K_wI, pe_K_wR, pe_R_nej, pe_R_ner, pe_R_wI, pk_mK (pk_sM0 f_a0), pk_sK f_a0, pk_sR0 f_a0]; done)
    | (simp (disch := omega) only [pe_all, pe_K_wI, pe_K_wR, pe_R_nej, pe_R_ner, pe_R_wI, pk_mK (pk_sM0 f_a0), pk_sK f_a0, pk_sR0 f_a0]; (repeat' apply And.intro) <;> first | assumption | omega | decide)
  · try simp (disch := omega) only [pe_K_wI, pe_K_wR, pe_R_nej, pe_R_ner, pe_R_wI, pk_mK (pk_sM0 f_a0), pk_sK f_a0, pk_sR0 f_a0]
    exact pe_fine 13 ck108 rfl rfl rfl trivial k
theorem b108_64 {d : Nat} {Φ : Option pe_V → pe_H → Prop} {σ : pe_H} {a0 : Nat} {o1 : Option pe_V} (f_a0 : pk_Fs a0 σ := by assumption)   (k : pe_M d 17 [.inr (.inr (a0 + 1))] σ (fun r σ' => pe_X d 108 (71, [some (.inr (.inr a0)), o1], r.toList ++ [], σ') Φ)) : pe_X d 108 (64, [some (.inr (.inr a0)), o1], [], σ) Φ := by
  refine pe_blk 14 2 ck108 [pe_K σ a0 = 8] (68, [some (.inr (.inr a0)), o1], [.inr (.inr (pe_R σ a0 0))], σ) rfl ?_ ?_
  · first
    | (simp (disch := omega) only [pe_all, pe_K_wI, pe_K_wR, pe_R_nej, pe_R_ner, pe_R_wI, pk_mK (pk_sM0 f_a0), pk_sK f_a0, pk_sR0 f_a0]; done)
    | (simp (disch := omega) only [pe_all, pe_K_wI, pe_K_wR, pe_R_nej, pe_R_ner, pe_R_wI, pk_mK (pk_sM0 f_a0), pk_sK f_a0, pk_sR0 f_a0]; (repeat' apply And.intro) <;> first | assumption | omega | decide)
  · try simp (disch := omega) only [pe_K_wI, pe_K_wR, pe_R_nej, pe_R_ner, pe_R_wI, pk_mK (pk_sM0 f_a0), pk_sK f_a0, pk_sR0 f_a0]
    have hrc : pe_K σ (a0 + 1) = 2 := by first | assumption | (simp (disch := omega) only [pe_K_wI, pe_K_wR, pe_R_nej, pe_R_ner, pe_R_wI, pk_mK (pk_sM0 f_a0), pk_sK f_a0, pk_sR0 f_a0]; done) | (simp (disch := omega) only [pe_K_wI, pe_K_wR, pe_R_nej, pe_R_ner, pe_R_wI, pk_mK (pk_sM0 f_a0), pk_sK f_a0, pk_sR0 f_a0]; assumption)
    exact pe_cal 16 ck108 rfl rfl rfl ⟨hrc, by decide⟩ k
theorem b108_71 {d : Nat} {Φ : Option pe_V → pe_H → Prop} {σ : pe_H} {o0 : Option pe_V} {o1 : Option pe_V} {s0 : Int}    (k : Φ (some (.inl s0)) σ) : pe_X d 108 (71, [o0, o1], [.inl s0], σ) Φ := by
  exact pe_fine 17 ck108 rfl rfl rfl trivial k
theorem b108_72 {d : Nat} {Φ : Option pe_V → pe_H → Prop} {σ : pe_H} {a0 : Nat} {o1 : Option pe_V} (f_a0 : pk_Fs a0 σ := by assumption)   (k : pe_M d 16 [.inr (.inr (a0 + 1))] σ (fun r σ' => pe_X d 108 (79, [some (.inr (.inr a0)), o1], r.toList ++ [], σ') Φ)) : pe_X d 108 (72, [some (.inr (.inr a0)), o1], [], σ) Φ := by
  refine pe_blk 18 2 ck108 [pe_K σ a0 = 8] (76, [some (.inr (.inr a0)), o1], [.inr (.inr (pe_R σ a0 0))], σ) rfl ?_ ?_
  · first
    | (simp (disch := omega) only [pe_all, pe_K_wI, pe_K_wR, pe_R_nej, pe_R_ner, pe_R_wI, pk_mK (pk_sM0 f_a0), pk_sK f_a0, pk_sR0 f_a0]; done)
    | (simp (disch := omega) only [pe_all, pe_K_wI, pe_K_wR, pe_R_nej, pe_R_ner, pe_R_wI, pk_mK (pk_sM0 f_a0), pk_sK f_a0, pk_sR0 f_a0]; (repeat' apply And.intro) <;> first | assumption | omega | decide)
  · try simp (disch := omega) only [pe_K_wI, pe_K_wR, pe_R_nej, pe_R_ner, pe_R_wI, pk_mK (pk_sM0 f_a0), pk_sK f_a0, pk_sR0 f_a0]
    have hrc : pe_K σ (a0 + 1) = 2 := by first | assumption | (simp (disch := omega) only [pe_K_wI, pe_K_wR, pe_R_nej, pe_R_ner, pe_R_wI, pk_mK (pk_sM0 f_a0), pk_sK f_a0, pk_sR0 f_a0]; done) | (simp (disch := omega) only [pe_K_wI, pe_K_wR, pe_R_nej, pe_R_ner, pe_R_wI, pk_mK (pk_sM0 f_a0), pk_sK f_a0, pk_sR0 f_a0]; assumption)
    exact pe_cal 20 ck108 rfl rfl rfl ⟨hrc, by decide⟩ k
theorem b108_79 {d : Nat} {Φ : Option pe_V → pe_H → Prop} {σ : pe_H} {a0 : Nat} {o1 : Option pe_V} {s0 : Int} (f_a0 : pk_Fs a0 σ := by assumption)   (k : pe_M d 17 [.inr (.inr (a0 + 1))] σ (fun r σ' => pe_X d 108 (86, [some (.inr (.inr a0)), o1], r.toList ++ [.inl s0], σ') Φ)) : pe_X d 108 (79, [some (.inr (.inr a0)), o1], [.inl s0], σ) Φ := by
  refine pe_blk 21 2 ck108 [pe_K σ a0 = 8] (83, [some (.inr (.inr a0)), o1], [.inr (.inr (pe_R σ a0 0)), .inl s0], σ) rfl ?_ ?_
  · first
    | (simp (disch := omega) only [pe_all, pe_K_wI, pe_K_wR, pe_R_nej, pe_R_ner, pe_R_wI, pk_mK (pk_sM0 f_a0), pk_sK f_a0, pk_sR0 f_a0]; done)
    | (simp (disch := omega) only [pe_all, pe_K_wI, pe_K_wR, pe_R_nej, pe_R_ner, pe_R_wI, pk_mK (pk_sM0 f_a0), pk_sK f_a0, pk_sR0 f_a0]; (repeat' apply And.intro) <;> first | assumption | omega | decide)
  · try simp (disch := omega) only [pe_K_wI, pe_K_wR, pe_R_nej, pe_R_ner, pe_R_wI, pk_mK (pk_sM0 f_a0), pk_sK f_a0, pk_sR0 f_a0]
    have hrc : pe_K σ (a0 + 1) = 2 := by first | assumption | (simp (disch := omega) only [pe_K_wI, pe_K_wR, pe_R_nej, pe_R_ner, pe_R_wI, pk_mK (pk_sM0 f_a0), pk_sK f_a0, pk_sR0 f_a0]; done) | (simp (disch := omega) only [pe_K_wI, pe_K_wR, pe_R_nej, pe_R_ner, pe_R_wI, pk_mK (pk_sM0 f_a0), pk_sK f_a0, pk_sR0 f_a0]; assumption)
    exact pe_cal 23 ck108 rfl rfl rfl ⟨hrc, by decide⟩ k
theorem b108_86 {d : Nat} {Φ : Option pe_V → pe_H → Prop} {σ : pe_H} {a0 : Nat} {o1 : Option pe_V} {s0 : Int} {s1 : Int} (f_a0 : pk_Fs a0 σ := by assumption)   (k : pe_M d 19 [.inr (.inr (a0 + 1))] σ (fun r σ' => pe_X d 108 (96, [some (.inr (.inr a0)), o1], r.toList ++ [.inl (pe_and s0 (pe_xor s1 (-1)))], σ') Φ)) : pe_X d 108 (86, [some (.inr (.inr a0)), o1], [.inl s1, .inl s0], σ) Φ := by
  refine pe_blk 24 5 ck108 [pe_K σ a0 = 8] (93, [some (.inr (.inr a0)), o1], [.inr (.inr (pe_R σ a0 0)), .inl (pe_and s0 (pe_xor s1 (-1)))], σ) rfl ?_ ?_
  · first
    | (simp (disch := omega) only [pe_all, pe_K_wI, pe_K_wR, pe_R_nej, pe_R_ner, pe_R_wI, pk_mK (pk_sM0 f_a0), pk_sK f_a0, pk_sR0 f_a0]; done)
    | (simp (disch := omega) only [pe_all, pe_K_wI, pe_K_wR, pe_R_nej, pe_R_ner, pe_R_wI, pk_mK (pk_sM0 f_a0), pk_sK f_a0, pk_sR0 f_a0]; (repeat' apply And.intro) <;> first | assumption | omega | decide)
  · try simp (disch := omega) only [pe_K_wI, pe_K_wR, pe_R_nej, pe_R_ner, pe_R_wI, pk_mK (pk_sM0 f_a0), pk_sK f_a0, pk_sR0 f_a0]
    have hrc : pe_K σ (a0 + 1) = 2 := by first | assumption | (simp (disch := omega) only [pe_K_wI, pe_K_wR, pe_R_nej, pe_R_ner, pe_R_wI, pk_mK (pk_sM0 f_a0), pk_sK f_a0, pk_sR0 f_a0]; done) | (simp (disch := omega) only [pe_K_wI, pe_K_wR, pe_R_nej, pe_R_ner, pe_R_wI, pk_mK (pk_sM0 f_a0), pk_sK f_a0, pk_sR0 f_a0]; assumption)
    exact pe_cal 29 ck108 rfl rfl rfl ⟨hrc, by decide⟩ k
theorem b108_96 {d : Nat} {Φ : Option pe_V → pe_H → Prop} {σ : pe_H} {o0 : Option pe_V} {o1 : Option pe_V} {s0 : Int} {s1 : Int}    (k : Φ (some (.inl (pe_and s0 (pe_xor s1 (-1))))) σ) : pe_X d 108 (96, [o0, o1], [.inl s1, .inl s0], σ) Φ := by
  refine pe_blk 30 3 ck108 [] (99, [o0, o1], [.inl (pe_and s0 (pe_xor s1 (-1)))], σ) rfl ?_ ?_
  · exact trivial
  · exact pe_fine 33 ck108 rfl rfl rfl trivial k
theorem b108_100 {d : Nat} {Φ : Option pe_V → pe_H → Prop} {σ : pe_H} {a0 : Nat} {o1 : Option pe_V} (f_a0 : pk_Fs a0 σ := by assumption)   (k : pe_M d 20 [.inr (.inr (a0 + 1))] σ (fun r σ' => pe_X d 108 (107, [some (.inr (.inr a0)), o1], r.toList ++ [], σ') Φ)) : pe_X d 108 (100, [some (.inr (.inr a0)), o1], [], σ) Φ := by
  refine pe_blk 34 2 ck108 [pe_K σ a0 = 8] (104, [some (.inr (.inr a0)), o1], [.inr (.inr (pe_R σ a0 0))], σ) rfl ?_ ?_
  · first
    | (simp (disch := omega) only [pe_all, pe_K_wI, pe_K_wR, pe_R_nej, pe_R_ner, pe_R_wI, pk_mK (pk_sM0 f_a0), pk_sK f_a0, pk_sR0 f_a0]; done)
    | (simp (disch := omega) only [pe_all, pe_K_wI, pe_K_wR, pe_R_nej, pe_R_ner, pe_R_wI, pk_mK (pk_sM0 f_a0), pk_sK f_a0, pk_sR0 f_a0]; (repeat' apply And.intro) <;> first | assumption | omega | decide)
  · try simp (disch := omega) only [pe_K_wI, pe_K_wR, pe_R_nej, pe_R_ner, pe_R_wI, pk_mK (pk_sM0 f_a0), pk_sK f_a0, pk_sR0 f_a0]
    have hrc : pe_K σ (a0 + 1) = 2 := by first | assumption | (simp (disch := omega) only [pe_K_wI, pe_K_wR, pe_R_nej, pe_R_ner, pe_R_wI, pk_mK (pk_sM0 f_a0), pk_sK f_a0, pk_sR0 f_a0]; done) | (simp (disch := omega) only [pe_K_wI, pe_K_wR, pe_R_nej, pe_R_ner, pe_R_wI, pk_mK (pk_sM0 f_a0), pk_sK f_a0, pk_sR0 f_a0]; assumption)
    exact pe_cal 36 ck108 rfl rfl rfl ⟨hrc, by decide⟩ k
theorem b108_107 {d : Nat} {Φ : Option pe_V → pe_H → Prop} {σ : pe_H} {o0 : Option pe_V} {o1 : Option pe_V} {s0 : Int}    (k : Φ (some (.inl s0)) σ) : pe_X d 108 (107, [o0, o1], [.inl s0], σ) Φ := by
  exact pe_fine 37 ck108 rfl rfl rfl trivial k
theorem b108_108 {d : Nat} {Φ : Option pe_V → pe_H → Prop} {σ : pe_H} {o0 : Option pe_V} {o1 : Option pe_V}    (k : Φ (some (.inl (-1))) σ) : pe_X d 108 (108, [o0, o1], [], σ) Φ := by
  refine pe_blk 38 1 ck108 [] (109, [o0, o1], [.inl (-1)], σ) rfl ?_ ?_
  · exact trivial
  · exact pe_fine 39 ck108 rfl rfl rfl trivial k
-- StepMachines.keep(IIII)I
def T109 : List (Nat × Instr × Nat) := [(0, .iload_n 1, 1), (1, .invokestatic 286, 3), (4, .ifCond .eq 12, 3), (7, .iload_n 2, 1), (8, .ifCond .lt 8, 3), (11, .iload_n 2, 1), (12, .iconst 1, 1), (13, .if_icmp .le 5, 3), (16, .iconst (-1), 1), (17, .ireturn, 1), (18, .iload_n 2, 1), (19, .iconst 1, 1), (20, .if_icmp .ne 26, 3), (23, .iload_n 3, 1), (24, .ifCond .lt 20, 3), (27, .iload_n 3, 1), (28, .iconst 5, 1), (29, .if_icmp .gt 15, 3), (32, .iload 4, 2), (34, .ifCond .lt 10, 3), (37, .iload 4, 2), (39, .bipush 9, 2), (41, .if_icmp .le 5, 3), (44, .iconst (-1), 1), (45, .ireturn, 1), (46, .aload_n 0, 1), (47, .getfield 31, 3), (50, .iload_n 1, 1), (51, .aconst_null, 1), (52, .aastore, 1), (53, .aload_n 0, 1), (54, .getfield 25, 3), (57, .iload_n 1, 1), (58, .iload_n 2, 1), (59, .iconst 1, 1), (60, .if_icmp .ne 16, 3), (63, .new 23, 3), (66, .dup, 1), (67, .iload_n 3, 1), (68, .iload 4, 2), (70, .invokespecial 35, 3), (73, .goto 4, 3), (76, .aconst_null, 1), (77, .aastore, 1), (78, .iconst 0, 1), (79, .ireturn, 1)]
theorem ck109 : pe_ctx 109 8 false (some .int) 5 T109 := ⟨rfl, rfl, rfl, rfl, by decide +kernel, by decide, by decide⟩
theorem b109_0 {d : Nat} {Φ : Option pe_V → pe_H → Prop} {σ : pe_H} {a0 : Nat} {x1 : Int} {x2 : Int} {x3 : Int} {x4 : Int} (f_a0 : pk_Fs a0 σ := by assumption)   (k : pe_M d 115 [.inl x1] σ (fun r σ' => pe_X d 109 (4, [some (.inr (.inr a0)), some (.inl x1), some (.inl x2), some (.inl x3), some (.inl x4)], r.toList ++ [], σ') Φ)) : pe_X d 109 (0, [some (.inr (.inr a0)), some (.inl x1), some (.inl x2), some (.inl x3), some (.inl x4)], [], σ) Φ := by
  refine pe_blk 0 1 ck109 [] (1, [some (.inr (.inr a0)), some (.inl x1), some (.inl x2), some (.inl x3), some (.inl x4)], [.inl x1], σ) rfl ?_ ?_
  · exact trivial
  · exact pe_cal 1 ck109 rfl rfl rfl trivial k
theorem b109_4 {d : Nat} {Φ : Option pe_V → pe_H → Prop} {σ : pe_H} {a0 : Nat} {x1 : Int} {x2 : Int} {x3 : Int} {x4 : Int} {s0 : Int} (f_a0 : pk_Fs a0 σ := by assumption) (w0 : pe_in s0 := by unfold pe_in; omega)  (k1 : s0 = 0 → pe_X d 109 (16, [some (.inr (.inr a0)), some (.inl x1), some (.inl x2), some (.inl x3), some (.inl x4)], [], σ) Φ) (k2 : ¬ (s0 = 0) → pe_X d 109 (7, [some (.inr (.inr a0)), some (.inl x1), some (.inl x2), some (.inl x3), some (.inl x4)], [], σ) Φ) : pe_X d 109 (4, [some (.inr (.inr a0)), some (.inl x1), some (.inl x2), some (.inl x3), some (.inl x4)], [.inl s0], σ) Φ := by
  refine pe_blk 2 1 ck109 [] (cond (decide ((pe_w s0) = 0)) 16 7, [some (.inr (.inr a0)), some (.inl x1), some (.inl x2), some (.inl x3), some (.inl x4)], [], σ) rfl ?_ ?_
  · exact trivial
  · try simp (disch := omega) only [pe_wi w0]
    exact pe_two k1 k2
theorem b109_7 {d : Nat} {Φ : Option pe_V → pe_H → Prop} {σ : pe_H} {a0 : Nat} {x1 : Int} {x2 : Int} {x3 : Int} {x4 : Int} (f_a0 : pk_Fs a0 σ := by assumption) (w0 : pe_in x2 := by unfold pe_in; omega)  (k1 : x2 < 0 → pe_X d 109 (16, [some (.inr (.inr a0)), some (.inl x1), some (.inl x2), some (.inl x3), some (.inl x4)], [], σ) Φ) (k2 : ¬ (x2 < 0) → pe_X d 109 (11, [some (.inr (.inr a0)), some (.inl x1), some (.inl x2), some (.inl x3), some (.inl x4)], [], σ) Φ) : pe_X d 109 (7, [some (.inr (.inr a0)), some (.inl x1), some (.inl x2), some (.inl x3), some (.inl x4)], [], σ) Φ := by
  refine pe_blk 3 2 ck109 [] (cond (decide ((pe_w x2) < 0)) 16 11, [some (.inr (.inr a0)), some (.inl x1), some (.inl x2), some (.inl x3), some (.inl x4)], [], σ) rfl ?_ ?_
  · exact trivial
  · try simp (disch := omega) only [pe_wi w0]
    exact pe_two k1 k2
theorem b109_11 {d : Nat} {Φ : Option pe_V → pe_H → Prop} {σ : pe_H} {a0 : Nat} {x1 : Int} {x2 : Int} {x3 : Int} {x4 : Int} (f_a0 : pk_Fs a0 σ := by assumption) (w0 : pe_in x2 := by unfold pe_in; omega)  (k1 : x2 ≤ 1 → pe_X d 109 (18, [some (.inr (.inr a0)), some (.inl x1), some (.inl x2), some (.inl x3), some (.inl x4)], [], σ) Φ) (k2 : ¬ (x2 ≤ 1) → pe_X d 109 (16, [some (.inr (.inr a0)), some (.inl x1), some (.inl x2), some (.inl x3), some (.inl x4)], [], σ) Φ) : pe_X d 109 (11, [some (.inr (.inr a0)), some (.inl x1), some (.inl x2), some (.inl x3), some (.inl x4)], [], σ) Φ := by
  refine pe_blk 5 3 ck109 [] (cond (decide ((pe_w x2) ≤ (pe_w 1))) 18 16, [some (.inr (.inr a0)), some (.inl x1), some (.inl x2), some (.inl x3), some (.inl x4)], [], σ) rfl ?_ ?_
  · exact trivial
  · try simp (disch := omega) only [pe_wi w0, pe_wi (x := 1) ⟨by decide, by decide⟩]
    exact pe_two k1 k2
theorem b109_16 {d : Nat} {Φ : Option pe_V → pe_H → Prop} {σ : pe_H} {o0 : Option pe_V} {o1 : Option pe_V} {o2 : Option pe_V} {o3 : Option pe_V} {o4 : Option pe_V}    (k : Φ (some (.inl (-1))) σ) : pe_X d 109 (16, [o0, o1, o2, o3, o4], [], σ) Φ := by
  refine pe_blk 8 1 ck109 [] (17, [o0, o1, o2, o3, o4], [.inl (-1)], σ) rfl ?_ ?_
  · exact trivial
  · exact pe_fine 9 ck109 rfl rfl rfl trivial k
theorem b109_18 {d : Nat} {Φ : Option pe_V → pe_H → Prop} {σ : pe_H} {a0 : Nat} {x1 : Int} {x2 : Int} {x3 : Int} {x4 : Int} (f_a0 : pk_Fs a0 σ := by assumption) (w0 : pe_in x2 := by unfold pe_in; omega)  (k1 : ¬ x2 = 1 → pe_X d 109 (46, [some (.inr (.inr a0)), some (.inl x1), some (.inl x2), some (.inl x3), some (.inl x4)], [], σ) Φ) (k2 : x2 = 1 → pe_X d 109 (23, [some (.inr (.inr a0)), some (.inl x1), some (.inl x2), some (.inl x3), some (.inl x4)], [], σ) Φ) : pe_X d 109 (18, [some (.inr (.inr a0)), some (.inl x1), some (.inl x2), some (.inl x3), some (.inl x4)], [], σ) Φ := by
  refine pe_blk 10 3 ck109 [] (cond (decide (¬ (pe_w x2) = (pe_w 1))) 46 23, [some (.inr (.inr a0)), some (.inl x1), some (.inl x2), some (.inl x3), some (.inl x4)], [], σ) rfl ?_ ?_
  · exact trivial
  · try simp (disch := omega) only [pe_wi w0, pe_wi (x := 1) ⟨by decide, by decide⟩]
    exact pe_two' k1 k2
theorem b109_23 {d : Nat} {Φ : Option pe_V → pe_H → Prop} {σ : pe_H} {a0 : Nat} {x1 : Int} {x2 : Int} {x3 : Int} {x4 : Int} (f_a0 : pk_Fs a0 σ := by assumption) (w0 : pe_in x3 := by unfold pe_in; omega)  (k1 : x3 < 0 → pe_X d 109 (44, [some (.inr (.inr a0)), some (.inl x1), some (.inl x2), some (.inl x3), some (.inl x4)], [], σ) Φ) (k2 : ¬ (x3 < 0) → pe_X d 109 (27, [some (.inr (.inr a0)), some (.inl x1), some (.inl x2), some (.inl x3), some (.inl x4)], [], σ) Φ) : pe_X d 109 (23, [some (.inr (.inr a0)), some (.inl x1), some (.inl x2), some (.inl x3), some (.inl x4)], [], σ) Φ := by
  refine pe_blk 13 2 ck109 [] (cond (decide ((pe_w x3) < 0)) 44 27, [some (.inr (.inr a0)), some (.inl x1), some (.inl x2), some (.inl x3), some (.inl x4)], [], σ) rfl ?_ ?_
  · exact trivial
  · try simp (disch := omega) only [pe_wi w0]
    exact pe_two k1 k2
theorem b109_27 {d : Nat} {Φ : Option pe_V → pe_H → Prop} {σ : pe_H} {a0 : Nat} {x1 : Int} {x2 : Int} {x3 : Int} {x4 : Int} (f_a0 : pk_Fs a0 σ := by assumption) (w0 : pe_in x3 := by unfold pe_in; omega)  (k1 : 5 < x3 → pe_X d 109 (44, [some (.inr (.inr a0)), some (.inl x1), some (.inl x2), some (.inl x3), some (.inl x4)], [], σ) Φ) (k2 : ¬ (5 < x3) → pe_X d 109 (32, [some (.inr (.inr a0)), some (.inl x1), some (.inl x2), some (.inl x3), some (.inl x4)], [], σ) Φ) : pe_X d 109 (27, [some (.inr (.inr a0)), some (.inl x1), some (.inl x2), some (.inl x3), some (.inl x4)], [], σ) Φ := by
  refine pe_blk 15 3 ck109 [] (cond (decide ((pe_w 5) < (pe_w x3))) 44 32, [some (.inr (.inr a0)), some (.inl x1), some (.inl x2), some (.inl x3), some (.inl x4)], [], σ) rfl ?_ ?_
  · exact trivial
  · try simp (disch := omega) only [pe_wi w0, pe_wi (x := 5) ⟨by decide, by decide⟩]
    exact pe_two k1 k2
theorem b109_32 {d : Nat} {Φ : Option pe_V → pe_H → Prop} {σ : pe_H} {a0 : Nat} {x1 : Int} {x2 : Int} {x3 : Int} {x4 : Int} (f_a0 : pk_Fs a0 σ := by assumption) (w0 : pe_in x4 := by unfold pe_in; omega)  (k1 : x4 < 0 → pe_X d 109 (44, [some (.inr (.inr a0)), some (.inl x1), some (.inl x2), some (.inl x3), some (.inl x4)], [], σ) Φ) (k2 : ¬ (x4 < 0) → pe_X d 109 (37, [some (.inr (.inr a0)), some (.inl x1), some (.inl x2), some (.inl x3), some (.inl x4)], [], σ) Φ) : pe_X d 109 (32, [some (.inr (.inr a0)), some (.inl x1), some (.inl x2), some (.inl x3), some (.inl x4)], [], σ) Φ := by
  refine pe_blk 18 2 ck109 [] (cond (decide ((pe_w x4) < 0)) 44 37, [some (.inr (.inr a0)), some (.inl x1), some (.inl x2), some (.inl x3), some (.inl x4)], [], σ) rfl ?_ ?_
  · exact trivial
  · try simp (disch := omega) only [pe_wi w0]
    exact pe_two k1 k2
theorem b109_37 {d : Nat} {Φ : Option pe_V → pe_H → Prop} {σ : pe_H} {a0 : Nat} {x1 : Int} {x2 : Int} {x3 : Int} {x4 : Int} (f_a0 : pk_Fs a0 σ := by assumption) (w0 : pe_in x4 := by unfold pe_in; omega)  (k1 : x4 ≤ 9 → pe_X d 109 (46, [some (.inr (.inr a0)), some (.inl x1), some (.inl x2), some (.inl x3), some (.inl x4)], [], σ) Φ) (k2 : ¬ (x4 ≤ 9) → pe_X d 109 (44, [some (.inr (.inr a0)), some (.inl x1), some (.inl x2), some (.inl x3), some (.inl x4)], [], σ) Φ) : pe_X d 109 (37, [some (.inr (.inr a0)), some (.inl x1), some (.inl x2), some (.inl x3), some (.inl x4)], [], σ) Φ := by
  refine pe_blk 20 3 ck109 [] (cond (decide ((pe_w x4) ≤ (pe_w 9))) 46 44, [some (.inr (.inr a0)), some (.inl x1), some (.inl x2), some (.inl x3), some (.inl x4)], [], σ) rfl ?_ ?_
  · exact trivial
  · try simp (disch := omega) only [pe_wi w0, pe_wi (x := 9) ⟨by decide, by decide⟩]
    exact pe_two k1 k2
theorem b109_44 {d : Nat} {Φ : Option pe_V → pe_H → Prop} {σ : pe_H} {o0 : Option pe_V} {o1 : Option pe_V} {o2 : Option pe_V} {o3 : Option pe_V} {o4 : Option pe_V}    (k : Φ (some (.inl (-1))) σ) : pe_X d 109 (44, [o0, o1, o2, o3, o4], [], σ) Φ := by
  refine pe_blk 23 1 ck109 [] (45, [o0, o1, o2, o3, o4], [.inl (-1)], σ) rfl ?_ ?_
  · exact trivial
  · exact pe_fine 24 ck109 rfl rfl rfl trivial k
theorem b109_46 {d : Nat} {Φ : Option pe_V → pe_H → Prop} {σ : pe_H} {a0 : Nat} {x1 : Int} {x2 : Int} {x3 : Int} {x4 : Int} (f_a0 : pk_Fs a0 σ := by assumption) (w0 : pe_in x1 := by unfold pe_in; omega) (w1 : pe_in x2 := by unfold pe_in; omega) (h0 : 0 ≤ x1 := by first | assumption | omega) (h1 : x1 < 8 := by first | assumption | omega) (k1 : ¬ x2 = 1 → pe_X d 109 (76, [some (.inr (.inr a0)), some (.inl x1), some (.inl x2), some (.inl x3), some (.inl x4)], [.inl x1, .inr (.inr (a0 + 176))], pe_wR σ (a0 + 177) x1 0) Φ) (k2 : x2 = 1 → pe_X d 109 (63, [some (.inr (.inr a0)), some (.inl x1), some (.inl x2), some (.inl x3), some (.inl x4)], [.inl x1, .inr (.inr (a0 + 176))], pe_wR σ (a0 + 177) x1 0) Φ) : pe_X d 109 (46, [some (.inr (.inr a0)), some (.inl x1), some (.inl x2), some (.inl x3), some (.inl x4)], [], σ) Φ := by
  have hX0 := pk_s2 f_a0
  refine pe_blk 25 11 ck109 [pe_K σ a0 = 8, 12 ≤ pe_K σ (pe_R σ a0 4) ∧ pe_K σ (pe_R σ a0 4) < 19, 0 = 0 ∨ pe_K σ (pe_R σ a0 4) = pe_ak (pe_K σ 0), 0 ≤ (pe_w x1), (pe_w x1) < pe_L σ (pe_R σ a0 4), 2 ≤ (pe_R σ a0 4), pe_K (pe_wR σ (pe_R σ a0 4) (pe_w x1) 0) a0 = 8] (cond (decide (¬ (pe_w x2) = (pe_w 1))) 76 63, [some (.inr (.inr a0)), some (.inl x1), some (.inl x2), some (.inl x3), some (.inl x4)], [.inl x1, .inr (.inr (pe_R (pe_wR σ (pe_R σ a0 4) (pe_w x1) 0) a0 3))], pe_wR σ (pe_R σ a0 4) (pe_w x1) 0) rfl ?_ ?_
  · first
    | (simp (disch := omega) only [pe_all, pe_wi w0, pe_wi w1, pe_wi (x := 1) ⟨by decide, by decide⟩, pe_K_wI, pe_K_wR, pe_L_wI, pe_L_wR, pe_R_nej, pe_R_ner, pe_R_wI, pk_sK f_a0, pk_sK4 f_a0, pk_sL4 f_a0, pk_sR3 f_a0, pk_sR4 f_a0, true_or]; done)
    | (simp (disch := omega) only [pe_all, pe_wi w0, pe_wi w1, pe_wi (x := 1) ⟨by decide, by decide⟩, pe_K_wI, pe_K_wR, pe_L_wI, pe_L_wR, pe_R_nej, pe_R_ner, pe_R_wI, pk_sK f_a0, pk_sK4 f_a0, pk_sL4 f_a0, pk_sR3 f_a0, pk_sR4 f_a0, true_or]; (repeat' apply And.intro) <;> first | assumption | omega | decide)
  · try simp (disch := omega) only [pe_wi w0, pe_wi w1, pe_wi (x := 1) ⟨by decide, by decide⟩, pe_K_wI, pe_K_wR, pe_L_wI, pe_L_wR, pe_R_nej, pe_R_ner, pe_R_wI, pk_sK f_a0, pk_sK4 f_a0, pk_sL4 f_a0, pk_sR3 f_a0, pk_sR4 f_a0, true_or]
    exact pe_two' k1 k2
theorem b109_63 {d : Nat} {Φ : Option pe_V → pe_H → Prop} {σ : pe_H} {o0 : Option pe_V} {o1 : Option pe_V} {o2 : Option pe_V} {x3 : Int} {x4 : Int} {b0 : Nat} {s1 : Int}   (h0 : ¬ (pe_n σ) = 0 := by first | assumption | omega) (k : pe_M d 41 [.inr (.inr (pe_n σ)), .inl x3, .inl x4] (pe_new σ 3 0 2) (fun r σ' => pe_X d 109 (73, [o0, o1, o2, some (.inl x3), some (.inl x4)], r.toList ++ [.inr (.inr (pe_n σ)), .inl s1, .inr (.inr b0)], σ') Φ)) : pe_X d 109 (63, [o0, o1, o2, some (.inl x3), some (.inl x4)], [.inl s1, .inr (.inr b0)], σ) Φ := by
  refine pe_blk 36 4 ck109 [] (70, [o0, o1, o2, some (.inl x3), some (.inl x4)], [.inl x4, .inl x3, .inr (.inr (pe_n σ)), .inr (.inr (pe_n σ)), .inl s1, .inr (.inr b0)], pe_new σ 3 0 2) rfl ?_ ?_
  · exact trivial
  · exact pe_cal 40 ck109 rfl rfl rfl (show ¬ _ = 0 by assumption) k
theorem b109_73 {d : Nat} {Φ : Option pe_V → pe_H → Prop} {σ : pe_H} {o0 : Option pe_V} {o1 : Option pe_V} {o2 : Option pe_V} {o3 : Option pe_V} {o4 : Option pe_V} {b0 : Nat} {s1 : Int} {b2 : Nat}    (k : pe_X d 109 (77, [o0, o1, o2, o3, o4], [.inr (.inr b2), .inl s1, .inr (.inr b0)], σ) Φ) : pe_X d 109 (73, [o0, o1, o2, o3, o4], [.inr (.inr b2), .inl s1, .inr (.inr b0)], σ) Φ := by
  refine pe_blk 41 1 ck109 [] (77, [o0, o1, o2, o3, o4], [.inr (.inr b2), .inl s1, .inr (.inr b0)], σ) rfl ?_ ?_
  · exact trivial
  · exact k
theorem b109_76 {d : Nat} {Φ : Option pe_V → pe_H → Prop} {σ : pe_H} {o0 : Option pe_V} {o1 : Option pe_V} {o2 : Option pe_V} {o3 : Option pe_V} {o4 : Option pe_V} {b0 : Nat} {s1 : Int}    (k : pe_X d 109 (77, [o0, o1, o2, o3, o4], [.inr (.inr 0), .inl s1, .inr (.inr b0)], σ) Φ) : pe_X d 109 (76, [o0, o1, o2, o3, o4], [.inl s1, .inr (.inr b0)], σ) Φ := by
  refine pe_blk 42 1 ck109 [] (77, [o0, o1, o2, o3, o4], [.inr (.inr 0), .inl s1, .inr (.inr b0)], σ) rfl ?_ ?_
  · exact trivial
  · exact k
theorem b109_77 {d : Nat} {Φ : Option pe_V → pe_H → Prop} {σ : pe_H} {o0 : Option pe_V} {o1 : Option pe_V} {o2 : Option pe_V} {o3 : Option pe_V} {o4 : Option pe_V} {b0 : Nat} {s1 : Int} {b2 : Nat}  (w0 : pe_in s1 := by unfold pe_in; omega) (h0 : 12 ≤ pe_K σ b0 ∧ pe_K σ b0 < 19 := by first | assumption | omega) (h1 : b2 = 0 ∨ pe_K σ b0 = pe_ak (pe_K σ b2) := by first | assumption | omega) (h2 : 0 ≤ s1 := by first | assumption | omega) (h3 : s1 < pe_L σ b0 := by first | assumption | omega) (h4 : 2 ≤ b0 := by first | assumption | omega) (k : Φ (some (.inl 0)) (pe_wR σ b0 s1 b2)) : pe_X d 109 (77, [o0, o1, o2, o3, o4], [.inr (.inr b2), .inl s1, .inr (.inr b0)], σ) Φ := by
  refine pe_blk 43 2 ck109 [12 ≤ pe_K σ b0 ∧ pe_K σ b0 < 19, b2 = 0 ∨ pe_K σ b0 = pe_ak (pe_K σ b2), 0 ≤ (pe_w s1), (pe_w s1) < pe_L σ b0, 2 ≤ b0] (79, [o0, o1, o2, o3, o4], [.inl 0], pe_wR σ b0 (pe_w s1) b2) rfl ?_ ?_
  · first
    | (simp (disch := omega) only [pe_all, pe_wi w0, pe_K_wI, pe_K_wR, pe_L_wI, pe_L_wR]; done)
    | (simp (disch := omega) only [pe_all, pe_wi w0, pe_K_wI, pe_K_wR, pe_L_wI, pe_L_wR]; (repeat' apply And.intro) <;> first | assumption | omega | decide)
  · try simp (disch := omega) only [pe_wi w0, pe_K_wI, pe_K_wR, pe_L_wI, pe_L_wR]
    exact pe_fine 45 ck109 rfl rfl rfl trivial k
-- StepMachines.row(III)I
def T110 : List (Nat × Instr × Nat) := [(0, .iload_n 1, 1), (1, .invokestatic 286, 3), (4, .ifCond .eq 18, 3), (7, .iload_n 2, 1), (8, .ifCond .lt 14, 3), (11, .iload_n 2, 1), (12, .iconst 2, 1), (13, .if_icmp .gt 9, 3), (16, .iload_n 3, 1), (17, .bipush 100, 2), (19, .if_icmp .le 5, 3), (22, .iconst (-1), 1), (23, .ireturn, 1), (24, .iload_n 3, 1), (25, .ifCond .ge 6, 3), (28, .bipush (-14), 2), (30, .ireturn, 1), (31, .aload_n 0, 1), (32, .getfield 25, 3), (35, .iload_n 1, 1), (36, .aconst_null, 1), (37, .aastore, 1), (38, .aload_n 0, 1), (39, .getfield 31, 3), (42, .iload_n 1, 1), (43, .new 29, 3), (46, .dup, 1), (47, .iload_n 2, 1), (48, .iload_n 3, 1), (49, .invokespecial 289, 3), (52, .aastore, 1), (53, .iconst 0, 1), (54, .ireturn, 1)]
theorem ck110 : pe_ctx 110 8 false (some .int) 4 T110 := ⟨rfl, rfl, rfl, rfl, by decide +kernel, by decide, by decide⟩
theorem b110_0 {d : Nat} {Φ : Option pe_V → pe_H → Prop} {σ : pe_H} {a0 : Nat} {x1 : Int} {x2 : Int} {x3 : Int} (f_a0 : pk_Fs a0 σ := by assumption)   (k : pe_M d 115 [.inl x1] σ (fun r σ' => pe_X d 110 (4, [some (.inr (.inr a0)), some (.inl x1), some (.inl x2), some (.inl x3)], r.toList ++ [], σ') Φ)) : pe_X d 110 (0, [some (.inr (.inr a0)), some (.inl x1), some (.inl x2), some (.inl x3)], [], σ) Φ := by
  refine pe_blk 0 1 ck110 [] (1, [some (.inr (.inr a0)), some (.inl x1), some (.inl x2), some (.inl x3)], [.inl x1], σ) rfl ?_ ?_
  · exact trivial
  · exact pe_cal 1 ck110 rfl rfl rfl trivial k
theorem b110_4 {d : Nat} {Φ : Option pe_V → pe_H → Prop} {σ : pe_H} {a0 : Nat} {x1 : Int} {x2 : Int} {x3 : Int} {s0 : Int} (f_a0 : pk_Fs a0 σ := by assumption) (w0 : pe_in s0 := by unfold pe_in; omega)  (k1 : s0 = 0 → pe_X d 110 (22, [some (.inr (.inr a0)), some (.inl x1), some (.inl x2), some (.inl x3)], [], σ) Φ) (k2 : ¬ (s0 = 0) → pe_X d 110 (7, [some (.inr (.inr a0)), some (.inl x1), some (.inl x2), some (.inl x3)], [], σ) Φ) : pe_X d 110 (4, [some (.inr (.inr a0)), some (.inl x1), some (.inl x2), some (.inl x3)], [.inl s0], σ) Φ := by
  refine pe_blk 2 1 ck110 [] (cond (decide ((pe_w s0) = 0)) 22 7, [some (.inr (.inr a0)), some (.inl x1), some (.inl x2), some (.inl x3)], [], σ) rfl ?_ ?_
  · exact trivial
  · try simp (disch := omega) only [pe_wi w0]
    exact pe_two k1 k2
theorem b110_7 {d : Nat} {Φ : Option pe_V → pe_H → Prop} {σ : pe_H} {a0 : Nat} {x1 : Int} {x2 : Int} {x3 : Int} (f_a0 : pk_Fs a0 σ := by assumption) (w0 : pe_in x2 := by unfold pe_in; omega)  (k1 : x2 < 0 → pe_X d 110 (22, [some (.inr (.inr a0)), some (.inl x1), some (.inl x2), some (.inl x3)], [], σ) Φ) (k2 : ¬ (x2 < 0) → pe_X d 110 (11, [some (.inr (.inr a0)), some (.inl x1), some (.inl x2), some (.inl x3)], [], σ) Φ) : pe_X d 110 (7, [some (.inr (.inr a0)), some (.inl x1), some (.inl x2), some (.inl x3)], [], σ) Φ := by
  refine pe_blk 3 2 ck110 [] (cond (decide ((pe_w x2) < 0)) 22 11, [some (.inr (.inr a0)), some (.inl x1), some (.inl x2), some (.inl x3)], [], σ) rfl ?_ ?_
  · exact trivial
  · try simp (disch := omega) only [pe_wi w0]
    exact pe_two k1 k2
theorem b110_11 {d : Nat} {Φ : Option pe_V → pe_H → Prop} {σ : pe_H} {a0 : Nat} {x1 : Int} {x2 : Int} {x3 : Int} (f_a0 : pk_Fs a0 σ := by assumption) (w0 : pe_in x2 := by unfold pe_in; omega)  (k1 : 2 < x2 → pe_X d 110 (22, [some (.inr (.inr a0)), some (.inl x1), some (.inl x2), some (.inl x3)], [], σ) Φ) (k2 : ¬ (2 < x2) → pe_X d 110 (16, [some (.inr (.inr a0)), some (.inl x1), some (.inl x2), some (.inl x3)], [], σ) Φ) : pe_X d 110 (11, [some (.inr (.inr a0)), some (.inl x1), some (.inl x2), some (.inl x3)], [], σ) Φ := by
  refine pe_blk 5 3 ck110 [] (cond (decide ((pe_w 2) < (pe_w x2))) 22 16, [some (.inr (.inr a0)), some (.inl x1), some (.inl x2), some (.inl x3)], [], σ) rfl ?_ ?_
  · exact trivial
  · try simp (disch := omega) only [pe_wi w0, pe_wi (x := 2) ⟨by decide, by decide⟩]
    exact pe_two k1 k2
theorem b110_16 {d : Nat} {Φ : Option pe_V → pe_H → Prop} {σ : pe_H} {a0 : Nat} {x1 : Int} {x2 : Int} {x3 : Int} (f_a0 : pk_Fs a0 σ := by assumption) (w0 : pe_in x3 := by unfold pe_in; omega)  (k1 : x3 ≤ 100 → pe_X d 110 (24, [some (.inr (.inr a0)), some (.inl x1), some (.inl x2), some (.inl x3)], [], σ) Φ) (k2 : ¬ (x3 ≤ 100) → pe_X d 110 (22, [some (.inr (.inr a0)), some (.inl x1), some (.inl x2), some (.inl x3)], [], σ) Φ) : pe_X d 110 (16, [some (.inr (.inr a0)), some (.inl x1), some (.inl x2), some (.inl x3)], [], σ) Φ := by
  refine pe_blk 8 3 ck110 [] (cond (decide ((pe_w x3) ≤ (pe_w 100))) 24 22, [some (.inr (.inr a0)), some (.inl x1), some (.inl x2), some (.inl x3)], [], σ) rfl ?_ ?_
  · exact trivial
  · try simp (disch := omega) only [pe_wi w0, pe_wi (x := 100) ⟨by decide, by decide⟩]
    exact pe_two k1 k2
theorem b110_22 {d : Nat} {Φ : Option pe_V → pe_H → Prop} {σ : pe_H} {o0 : Option pe_V} {o1 : Option pe_V} {o2 : Option pe_V} {o3 : Option pe_V}    (k : Φ (some (.inl (-1))) σ) : pe_X d 110 (22, [o0, o1, o2, o3], [], σ) Φ := by
  refine pe_blk 11 1 ck110 [] (23, [o0, o1, o2, o3], [.inl (-1)], σ) rfl ?_ ?_
  · exact trivial
  · exact pe_fine 12 ck110 rfl rfl rfl trivial k
theorem b110_24 {d : Nat} {Φ : Option pe_V → pe_H → Prop} {σ : pe_H} {a0 : Nat} {x1 : Int} {x2 : Int} {x3 : Int} (f_a0 : pk_Fs a0 σ := by assumption) (w0 : pe_in x3 := by unfold pe_in; omega)  (k1 : 0 ≤ x3 → pe_X d 110 (31, [some (.inr (.inr a0)), some (.inl x1), some (.inl x2), some (.inl x3)], [], σ) Φ) (k2 : ¬ (0 ≤ x3) → pe_X d 110 (28, [some (.inr (.inr a0)), some (.inl x1), some (.inl x2), some (.inl x3)], [], σ) Φ) : pe_X d 110 (24, [some (.inr (.inr a0)), some (.inl x1), some (.inl x2), some (.inl x3)], [], σ) Φ := by
  refine pe_blk 13 2 ck110 [] (cond (decide (0 ≤ (pe_w x3))) 31 28, [some (.inr (.inr a0)), some (.inl x1), some (.inl x2), some (.inl x3)], [], σ) rfl ?_ ?_
  · exact trivial
  · try simp (disch := omega) only [pe_wi w0]
    exact pe_two k1 k2
theorem b110_28 {d : Nat} {Φ : Option pe_V → pe_H → Prop} {σ : pe_H} {o0 : Option pe_V} {o1 : Option pe_V} {o2 : Option pe_V} {o3 : Option pe_V}    (k : Φ (some (.inl (-14))) σ) : pe_X d 110 (28, [o0, o1, o2, o3], [], σ) Φ := by
  refine pe_blk 15 1 ck110 [] (30, [o0, o1, o2, o3], [.inl (-14)], σ) rfl ?_ ?_
  · exact trivial
  · exact pe_fine 16 ck110 rfl rfl rfl trivial k
theorem b110_31 {d : Nat} {Φ : Option pe_V → pe_H → Prop} {σ : pe_H} {a0 : Nat} {x1 : Int} {x2 : Int} {x3 : Int} (f_a0 : pk_Fs a0 σ := by assumption) (w0 : pe_in x1 := by unfold pe_in; omega) (h0 : 0 ≤ x1 := by first | assumption | omega) (h1 : x1 < 8 := by first | assumption | omega) (h2 : ¬ (pe_n (pe_wR σ (a0 + 176) x1 0)) = 0 := by first | assumption | omega) (k : pe_M d 56 [.inr (.inr (pe_n (pe_wR σ (a0 + 176) x1 0))), .inl x2, .inl x3] (pe_new (pe_wR σ (a0 + 176) x1 0) 6 0 2) (fun r σ' => pe_X d 110 (52, [some (.inr (.inr a0)), some (.inl x1), some (.inl x2), some (.inl x3)], r.toList ++ [.inr (.inr (pe_n (pe_wR σ (a0 + 176) x1 0))), .inl x1, .inr (.inr (a0 + 177))], σ') Φ)) : pe_X d 110 (31, [some (.inr (.inr a0)), some (.inl x1), some (.inl x2), some (.inl x3)], [], σ) Φ := by
  have hX0 := pk_s2 f_a0
  refine pe_blk 17 12 ck110 [pe_K σ a0 = 8, 12 ≤ pe_K σ (pe_R σ a0 3) ∧ pe_K σ (pe_R σ a0 3) < 19, 0 = 0 ∨ pe_K σ (pe_R σ a0 3) = pe_ak (pe_K σ 0), 0 ≤ (pe_w x1), (pe_w x1) < pe_L σ (pe_R σ a0 3), 2 ≤ (pe_R σ a0 3), pe_K (pe_wR σ (pe_R σ a0 3) (pe_w x1) 0) a0 = 8] (49, [some (.inr (.inr a0)), some (.inl x1), some (.inl x2), some (.inl x3)], [.inl x3, .inl x2, .inr (.inr (pe_n (pe_wR σ (pe_R σ a0 3) (pe_w x1) 0))), .inr (.inr (pe_n (pe_wR σ (pe_R σ a0 3) (pe_w x1) 0))), .inl x1, .inr (.inr (pe_R (pe_wR σ (pe_R σ a0 3) (pe_w x1) 0) a0 4))], pe_new (pe_wR σ (pe_R σ a0 3) (pe_w x1) 0) 6 0 2) rfl ?_ ?_
  · first
    | (simp (disch := omega) only [pe_all, pe_wi w0, pe_K_wI, pe_K_wR, pe_L_wI, pe_L_wR, pe_R_nej, pe_R_ner, pe_R_wI, pk_sK f_a0, pk_sK3 f_a0, pk_sL3 f_a0, pk_sR3 f_a0, pk_sR4 f_a0, true_or]; done)
    | (simp (disch := omega) only [pe_all, pe_wi w0, pe_K_wI, pe_K_wR, pe_L_wI, pe_L_wR, pe_R_nej, pe_R_ner, pe_R_wI, pk_sK f_a0, pk_sK3 f_a0, pk_sL3 f_a0, pk_sR3 f_a0, pk_sR4 f_a0, true_or]; (repeat' apply And.intro) <;> first | assumption | omega | decide)
  · try simp (disch := omega) only [pe_wi w0, pe_K_wI, pe_K_wR, pe_L_wI, pe_L_wR, pe_R_nej, pe_R_ner, pe_R_wI, pk_sK f_a0, pk_sK3 f_a0, pk_sL3 f_a0, pk_sR3 f_a0, pk_sR4 f_a0, true_or]
    exact pe_cal 29 ck110 rfl rfl rfl (show ¬ _ = 0 by assumption) k
theorem b110_52 {d : Nat} {Φ : Option pe_V → pe_H → Prop} {σ : pe_H} {o0 : Option pe_V} {o1 : Option pe_V} {o2 : Option pe_V} {o3 : Option pe_V} {b0 : Nat} {s1 : Int} {b2 : Nat}  (w0 : pe_in s1 := by unfold pe_in; omega) (h0 : 12 ≤ pe_K σ b0 ∧ pe_K σ b0 < 19 := by first | assumption | omega) (h1 : b2 = 0 ∨ pe_K σ b0 = pe_ak (pe_K σ b2) := by first | assumption | omega) (h2 : 0 ≤ s1 := by first | assumption | omega) (h3 : s1 < pe_L σ b0 := by first | assumption | omega) (h4 : 2 ≤ b0 := by first | assumption | omega) (k : Φ (some (.inl 0)) (pe_wR σ b0 s1 b2)) : pe_X d 110 (52, [o0, o1, o2, o3], [.inr (.inr b2), .inl s1, .inr (.inr b0)], σ) Φ := by
  refine pe_blk 30 2 ck110 [12 ≤ pe_K σ b0 ∧ pe_K σ b0 < 19, b2 = 0 ∨ pe_K σ b0 = pe_ak (pe_K σ b2), 0 ≤ (pe_w s1), (pe_w s1) < pe_L σ b0, 2 ≤ b0] (54, [o0, o1, o2, o3], [.inl 0], pe_wR σ b0 (pe_w s1) b2) rfl ?_ ?_
  · first
    | (simp (disch := omega) only [pe_all, pe_wi w0, pe_K_wI, pe_K_wR, pe_L_wI, pe_L_wR]; done)
    | (simp (disch := omega) only [pe_all, pe_wi w0, pe_K_wI, pe_K_wR, pe_L_wI, pe_L_wR]; (repeat' apply And.intro) <;> first | assumption | omega | decide)
  · try simp (disch := omega) only [pe_wi w0, pe_K_wI, pe_K_wR, pe_L_wI, pe_L_wR]
    exact pe_fine 32 ck110 rfl rfl rfl trivial k
-- StepMachines.put(III)I
def T111 : List (Nat × Instr × Nat) := [(0, .aload_n 0, 1), (1, .iload_n 1, 1), (2, .invokevirtual 50, 3), (5, .istore 4, 2), (7, .iload 4, 2), (9, .ifCond .eq 6, 3), (12, .iload 4, 2), (14, .ireturn, 1), (15, .aload_n 0, 1), (16, .getfield 31, 3), (19, .iload_n 1, 1), (20, .aaload, 1), (21, .iload_n 2, 1), (22, .invokevirtual 290, 3), (25, .ifCond .ne 6, 3), (28, .bipush (-13), 2), (30, .ireturn, 1), (31, .aload_n 0, 1), (32, .getfield 31, 3), (35, .iload_n 1, 1), (36, .aaload, 1), (37, .iload_n 2, 1), (38, .iload_n 3, 1), (39, .invokevirtual 293, 3), (42, .iconst 0, 1), (43, .ireturn, 1)]
theorem ck111 : pe_ctx 111 8 false (some .int) 5 T111 := ⟨rfl, rfl, rfl, rfl, by decide +kernel, by decide, by decide⟩
theorem b111_0 {d : Nat} {Φ : Option pe_V → pe_H → Prop} {σ : pe_H} {a0 : Nat} {x1 : Int} {x2 : Int} {x3 : Int} {o4 : Option pe_V} (f_a0 : pk_Fs a0 σ := by assumption)   (k : pe_M d 119 [.inr (.inr a0), .inl x1] σ (fun r σ' => pe_X d 111 (5, [some (.inr (.inr a0)), some (.inl x1), some (.inl x2), some (.inl x3), o4], r.toList ++ [], σ') Φ)) : pe_X d 111 (0, [some (.inr (.inr a0)), some (.inl x1), some (.inl x2), some (.inl x3), o4], [], σ) Φ := by
  refine pe_blk 0 2 ck111 [] (2, [some (.inr (.inr a0)), some (.inl x1), some (.inl x2), some (.inl x3), o4], [.inl x1, .inr (.inr a0)], σ) rfl ?_ ?_
  · exact trivial
  · try simp (disch := omega) only [pe_K_wI, pe_K_wR, pk_sK f_a0]
    have hrc : pe_K σ a0 = 8 := by first | assumption | (simp (disch := omega) only [pe_K_wI, pe_K_wR, pk_sK f_a0]; done) | (simp (disch := omega) only [pe_K_wI, pe_K_wR, pk_sK f_a0]; assumption)
    exact pe_cal 2 ck111 rfl rfl rfl ⟨hrc, by decide⟩ k
theorem b111_5 {d : Nat} {Φ : Option pe_V → pe_H → Prop} {σ : pe_H} {a0 : Nat} {x1 : Int} {x2 : Int} {x3 : Int} {o4 : Option pe_V} {s0 : Int} (f_a0 : pk_Fs a0 σ := by assumption) (w0 : pe_in s0 := by unfold pe_in; omega)  (k1 : s0 = 0 → pe_X d 111 (15, [some (.inr (.inr a0)), some (.inl x1), some (.inl x2), some (.inl x3), some (.inl s0)], [], σ) Φ) (k2 : ¬ (s0 = 0) → pe_X d 111 (12, [some (.inr (.inr a0)), some (.inl x1), some (.inl x2), some (.inl x3), some (.inl s0)], [], σ) Φ) : pe_X d 111 (5, [some (.inr (.inr a0)), some (.inl x1), some (.inl x2), some (.inl x3), o4], [.inl s0], σ) Φ := by
  refine pe_blk 3 3 ck111 [] (cond (decide ((pe_w s0) = 0)) 15 12, [some (.inr (.inr a0)), some (.inl x1), some (.inl x2), some (.inl x3), some (.inl s0)], [], σ) rfl ?_ ?_
  · exact trivial
  · try simp (disch := omega) only [pe_wi w0]
    exact pe_two k1 k2
theorem b111_12 {d : Nat} {Φ : Option pe_V → pe_H → Prop} {σ : pe_H} {o0 : Option pe_V} {o1 : Option pe_V} {o2 : Option pe_V} {o3 : Option pe_V} {x4 : Int}    (k : Φ (some (.inl x4)) σ) : pe_X d 111 (12, [o0, o1, o2, o3, some (.inl x4)], [], σ) Φ := by
  refine pe_blk 6 1 ck111 [] (14, [o0, o1, o2, o3, some (.inl x4)], [.inl x4], σ) rfl ?_ ?_
  · exact trivial
  · exact pe_fine 7 ck111 rfl rfl rfl trivial k
theorem b111_15 {d : Nat} {Φ : Option pe_V → pe_H → Prop} {σ : pe_H} {a0 : Nat} {x1 : Int} {x2 : Int} {x3 : Int} {o4 : Option pe_V} (f_a0 : pk_Fs a0 σ := by assumption) (w0 : pe_in x1 := by unfold pe_in; omega) (h0 : 0 ≤ x1 := by first | assumption | omega) (h1 : x1 < 8 := by first | assumption | omega) (h2 : pe_K σ (pe_R σ (a0 + 177) x1) = 6 := by first | assumption | omega) (k : pe_M d 58 [.inr (.inr (pe_R σ (a0 + 177) x1)), .inl x2] σ (fun r σ' => pe_X d 111 (25, [some (.inr (.inr a0)), some (.inl x1), some (.inl x2), some (.inl x3), o4], r.toList ++ [], σ') Φ)) : pe_X d 111 (15, [some (.inr (.inr a0)), some (.inl x1), some (.inl x2), some (.inl x3), o4], [], σ) Φ := by
  refine pe_blk 8 5 ck111 [pe_K σ a0 = 8, 12 ≤ pe_K σ (pe_R σ a0 4) ∧ pe_K σ (pe_R σ a0 4) < 19, 0 ≤ (pe_w x1), (pe_w x1) < pe_L σ (pe_R σ a0 4)] (22, [some (.inr (.inr a0)), some (.inl x1), some (.inl x2), some (.inl x3), o4], [.inl x2, .inr (.inr (pe_R σ (pe_R σ a0 4) (pe_w x1)))], σ) rfl ?_ ?_
  · first
    | (simp (disch := omega) only [pe_all, pe_wi w0, pe_K_wI, pe_K_wR, pe_L_wI, pe_L_wR, pe_R_nej, pe_R_ner, pe_R_wI, pk_sK f_a0, pk_sK4 f_a0, pk_sL4 f_a0, pk_sR4 f_a0]; done)
    | (simp (disch := omega) only [pe_all, pe_wi w0, pe_K_wI, pe_K_wR, pe_L_wI, pe_L_wR, pe_R_nej, pe_R_ner, pe_R_wI, pk_sK f_a0, pk_sK4 f_a0, pk_sL4 f_a0, pk_sR4 f_a0]; (repeat' apply And.intro) <;> first | assumption | omega | decide)
  · try simp (disch := omega) only [pe_wi w0, pe_K_wI, pe_K_wR, pe_L_wI, pe_L_wR, pe_R_nej, pe_R_ner, pe_R_wI, pk_sK f_a0, pk_sK4 f_a0, pk_sL4 f_a0, pk_sR4 f_a0]
    have hrc : pe_K σ (pe_R σ (a0 + 177) x1) = 6 := by first | assumption | (simp (disch := omega) only [pe_wi w0, pe_K_wI, pe_K_wR, pe_L_wI, pe_L_wR, pe_R_nej, pe_R_ner, pe_R_wI, pk_sK f_a0, pk_sK4 f_a0, pk_sL4 f_a0, pk_sR4 f_a0]; done) | (simp (disch := omega) only [pe_wi w0, pe_K_wI, pe_K_wR, pe_L_wI, pe_L_wR, pe_R_nej, pe_R_ner, pe_R_wI, pk_sK f_a0, pk_sK4 f_a0, pk_sL4 f_a0, pk_sR4 f_a0]; assumption)
    exact pe_cal 13 ck111 rfl rfl rfl ⟨hrc, by decide⟩ k
theorem b111_25 {d : Nat} {Φ : Option pe_V → pe_H → Prop} {σ : pe_H} {a0 : Nat} {x1 : Int} {x2 : Int} {x3 : Int} {o4 : Option pe_V} {s0 : Int} (f_a0 : pk_Fs a0 σ := by assumption) (w0 : pe_in s0 := by unfold pe_in; omega)  (k1 : ¬ s0 = 0 → pe_X d 111 (31, [some (.inr (.inr a0)), some (.inl x1), some (.inl x2), some (.inl x3), o4], [], σ) Φ) (k2 : s0 = 0 → pe_X d 111 (28, [some (.inr (.inr a0)), some (.inl x1), some (.inl x2), some (.inl x3), o4], [], σ) Φ) : pe_X d 111 (25, [some (.inr (.inr a0)), some (.inl x1), some (.inl x2), some (.inl x3), o4], [.inl s0], σ) Φ := by
  refine pe_blk 14 1 ck111 [] (cond (decide (¬ (pe_w s0) = 0)) 31 28, [some (.inr (.inr a0)), some (.inl x1), some (.inl x2), some (.inl x3), o4], [], σ) rfl ?_ ?_
  · exact trivial
  · try simp (disch := omega) only [pe_wi w0]
    exact pe_two' k1 k2
theorem b111_28 {d : Nat} {Φ : Option pe_V → pe_H → Prop} {σ : pe_H} {o0 : Option pe_V} {o1 : Option pe_V} {o2 : Option pe_V} {o3 : Option pe_V} {o4 : Option pe_V}    (k : Φ (some (.inl (-13))) σ) : pe_X d 111 (28, [o0, o1, o2, o3, o4], [], σ) Φ := by
  refine pe_blk 15 1 ck111 [] (30, [o0, o1, o2, o3, o4], [.inl (-13)], σ) rfl ?_ ?_
  · exact trivial
  · exact pe_fine 16 ck111 rfl rfl rfl trivial k
theorem b111_31 {d : Nat} {Φ : Option pe_V → pe_H → Prop} {σ : pe_H} {a0 : Nat} {x1 : Int} {x2 : Int} {x3 : Int} {o4 : Option pe_V} (f_a0 : pk_Fs a0 σ := by assumption) (w0 : pe_in x1 := by unfold pe_in; omega) (h0 : 0 ≤ x1 := by first | assumption | omega) (h1 : x1 < 8 := by first | assumption | omega) (h2 : pe_K σ (pe_R σ (a0 + 177) x1) = 6 := by first | assumption | omega) (k : pe_M d 61 [.inr (.inr (pe_R σ (a0 + 177) x1)), .inl x2, .inl x3] σ (fun r σ' => pe_X d 111 (42, [some (.inr (.inr a0)), some (.inl x1), some (.inl x2), some (.inl x3), o4], r.toList ++ [], σ') Φ)) : pe_X d 111 (31, [some (.inr (.inr a0)), some (.inl x1), some (.inl x2), some (.inl x3), o4], [], σ) Φ := by
  refine pe_blk 17 6 ck111 [pe_K σ a0 = 8, 12 ≤ pe_K σ (pe_R σ a0 4) ∧ pe_K σ (pe_R σ a0 4) < 19, 0 ≤ (pe_w x1), (pe_w x1) < pe_L σ (pe_R σ a0 4)] (39, [some (.inr (.inr a0)), some (.inl x1), some (.inl x2), some (.inl x3), o4], [.inl x3, .inl x2, .inr (.inr (pe_R σ (pe_R σ a0 4) (pe_w x1)))], σ) rfl ?_ ?_
  · first
    | (simp (disch := omega) only [pe_all, pe_wi w0, pe_K_wI, pe_K_wR, pe_L_wI, pe_L_wR, pe_R_nej, pe_R_ner, pe_R_wI, pk_sK f_a0, pk_sK4 f_a0, pk_sL4 f_a0, pk_sR4 f_a0]; done)
    | (simp (disch := omega) only [pe_all, pe_wi w0, pe_K_wI, pe_K_wR, pe_L_wI, pe_L_wR, pe_R_nej, pe_R_ner, pe_R_wI, pk_sK f_a0, pk_sK4 f_a0, pk_sL4 f_a0, pk_sR4 f_a0]; (repeat' apply And.intro) <;> first | assumption | omega | decide)
  · try simp (disch := omega) only [pe_wi w0, pe_K_wI, pe_K_wR, pe_L_wI, pe_L_wR, pe_R_nej, pe_R_ner, pe_R_wI, pk_sK f_a0, pk_sK4 f_a0, pk_sL4 f_a0, pk_sR4 f_a0]
    have hrc : pe_K σ (pe_R σ (a0 + 177) x1) = 6 := by first | assumption | (simp (disch := omega) only [pe_wi w0, pe_K_wI, pe_K_wR, pe_L_wI, pe_L_wR, pe_R_nej, pe_R_ner, pe_R_wI, pk_sK f_a0, pk_sK4 f_a0, pk_sL4 f_a0, pk_sR4 f_a0]; done) | (simp (disch := omega) only [pe_wi w0, pe_K_wI, pe_K_wR, pe_L_wI, pe_L_wR, pe_R_nej, pe_R_ner, pe_R_wI, pk_sK f_a0, pk_sK4 f_a0, pk_sL4 f_a0, pk_sR4 f_a0]; assumption)
    exact pe_cal 23 ck111 rfl rfl rfl ⟨hrc, by decide⟩ k
theorem b111_42 {d : Nat} {Φ : Option pe_V → pe_H → Prop} {σ : pe_H} {o0 : Option pe_V} {o1 : Option pe_V} {o2 : Option pe_V} {o3 : Option pe_V} {o4 : Option pe_V}    (k : Φ (some (.inl 0)) σ) : pe_X d 111 (42, [o0, o1, o2, o3, o4], [], σ) Φ := by
  refine pe_blk 24 1 ck111 [] (43, [o0, o1, o2, o3, o4], [.inl 0], σ) rfl ?_ ?_
  · exact trivial
  · exact pe_fine 25 ck111 rfl rfl rfl trivial k
-- ('StepMachines', 'element', '(II)J'): (17, (7, '.athrow', 1), "Exception('op .athrow')")
-- StepMachines.copy(IIIII)I
def T113 : List (Nat × Instr × Nat) := [(0, .iload_n 1, 1), (1, .invokestatic 286, 3), (4, .ifCond .eq 10, 3), (7, .iload_n 3, 1), (8, .invokestatic 286, 3), (11, .ifCond .ne 5, 3), (14, .iconst (-1), 1), (15, .ireturn, 1), (16, .aload_n 0, 1), (17, .iload_n 1, 1), (18, .invokevirtual 309, 3), (21, .ifCond .ne 11, 3), (24, .aload_n 0, 1), (25, .iload_n 3, 1), (26, .invokevirtual 309, 3), (29, .ifCond .eq 6, 3), (32, .bipush (-11), 2), (34, .ireturn, 1), (35, .aload_n 0, 1), (36, .getfield 31, 3), (39, .iload_n 1, 1), (40, .aaload, 1), (41, .astore 6, 2), (43, .aload_n 0, 1), (44, .getfield 31, 3), (47, .iload_n 3, 1), (48, .aaload, 1), (49, .astore 7, 2), (51, .aload 6, 2), (53, .ifnull 21, 3), (56, .aload 7, 2), (58, .ifnull 16, 3), (61, .aload 6, 2), (63, .getfield 54, 3), (66, .aload 7, 2), (68, .getfield 54, 3), (71, .if_icmp .eq 6, 3), (74, .bipush (-12), 2), (76, .ireturn, 1), (77, .aload 6, 2), (79, .iload_n 2, 1), (80, .iload 5, 2), (82, .invokevirtual 312, 3), (85, .ifCond .eq 15, 3), (88, .aload 7, 2), (90, .iload 4, 2), (92, .iload 5, 2), (94, .invokevirtual 312, 3), (97, .ifCond .ne 6, 3), (100, .bipush (-13), 2), (102, .ireturn, 1), (103, .aload 6, 2), (105, .getfield 316, 3), (108, .iload_n 2, 1), (109, .aload 7, 2), (111, .getfield 316, 3), (114, .iload 4, 2), (116, .iload 5, 2), (118, .invokestatic 319, 3), (121, .iload 5, 2), (123, .ireturn, 1)]
theorem ck113 : pe_ctx 113 8 false (some .int) 8 T113 := ⟨rfl, rfl, rfl, rfl, by decide +kernel, by decide, by decide⟩
theorem b113_0 {d : Nat} {Φ : Option pe_V → pe_H → Prop} {σ : pe_H} {a0 : Nat} {x1 : Int} {x2 : Int} {x3 : Int} {x4 : Int} {x5 : Int} {o6 : Option pe_V} {o7 : Option pe_V} (f_a0 : pk_Fs a0 σ := by assumption)   (k : pe_M d 115 [.inl x1] σ (fun r σ' => pe_X d 113 (4, [some (.inr (.inr a0)), some (.inl x1), some (.inl x2), some (.inl x3), some (.inl x4), some (.inl x5), o6, o7], r.toList ++ [], σ') Φ)) : pe_X d 113 (0, [some (.inr (.inr a0)), some (.inl x1), some (.inl x2), some (.inl x3), some (.inl x4), some (.inl x5), o6, o7], [], σ) Φ := by
  refine pe_blk 0 1 ck113 [] (1, [some (.inr (.inr a0)), some (.inl x1), some (.inl x2), some (.inl x3), some (.inl x4), some (.inl x5), o6, o7], [.inl x1], σ) rfl ?_ ?_
  · exact trivial
  · exact pe_cal 1 ck113 rfl rfl rfl trivial k
theorem b113_4 {d : Nat} {Φ : Option pe_V → pe_H → Prop} {σ : pe_H} {a0 : Nat} {x1 : Int} {x2 : Int} {x3 : Int} {x4 : Int} {x5 : Int} {o6 : Option pe_V} {o7 : Option pe_V} {s0 : Int} (f_a0 : pk_Fs a0 σ := by assumption) (w0 : pe_in s0 := by unfold pe_in; omega)  (k1 : s0 = 0 → pe_X d 113 (14, [some (.inr (.inr a0)), some (.inl x1), some (.inl x2), some (.inl x3), some (.inl x4), some (.inl x5), o6, o7], [], σ) Φ) (k2 : ¬ (s0 = 0) → pe_X d 113 (7, [some (.inr (.inr a0)), some (.inl x1), some (.inl x2), some (.inl x3), some (.inl x4), some (.inl x5), o6, o7], [], σ) Φ) : pe_X d 113 (4, [some (.inr (.inr a0)), some (.inl x1), some (.inl x2), some (.inl x3), some (.inl x4), some (.inl x5), o6, o7], [.inl s0], σ) Φ := by
  refine pe_blk 2 1 ck113 [] (cond (decide ((pe_w s0) = 0)) 14 7, [some (.inr (.inr a0)), some (.inl x1), some (.inl x2), some (.inl x3), some (.inl x4), some (.inl x5), o6, o7], [], σ) rfl ?_ ?_
  · exact trivial
  · try simp (disch := omega) only [pe_wi w0]
    exact pe_two k1 k2
theorem b113_7 {d : Nat} {Φ : Option pe_V → pe_H → Prop} {σ : pe_H} {a0 : Nat} {x1 : Int} {x2 : Int} {x3 : Int} {x4 : Int} {x5 : Int} {o6 : Option pe_V} {o7 : Option pe_V} (f_a0 : pk_Fs a0 σ := by assumption)   (k : pe_M d 115 [.inl x3] σ (fun r σ' => pe_X d 113 (11, [some (.inr (.inr a0)), some (.inl x1), some (.inl x2), some (.inl x3), some (.inl x4), some (.inl x5), o6, o7], r.toList ++ [], σ') Φ)) : pe_X d 113 (7, [some (.inr (.inr a0)), some (.inl x1), some (.inl x2), some (.inl x3), some (.inl x4), some (.inl x5), o6, o7], [], σ) Φ := by
  refine pe_blk 3 1 ck113 [] (8, [some (.inr (.inr a0)), some (.inl x1), some (.inl x2), some (.inl x3), some (.inl x4), some (.inl x5), o6, o7], [.inl x3], σ) rfl ?_ ?_
  · exact trivial
  · exact pe_cal 4 ck113 rfl rfl rfl trivial k
theorem b113_11 {d : Nat} {Φ : Option pe_V → pe_H → Prop} {σ : pe_H} {a0 : Nat} {x1 : Int} {x2 : Int} {x3 : Int} {x4 : Int} {x5 : Int} {o6 : Option pe_V} {o7 : Option pe_V} {s0 : Int} (f_a0 : pk_Fs a0 σ := by assumption) (w0 : pe_in s0 := by unfold pe_in; omega)  (k1 : ¬ s0 = 0 → pe_X d 113 (16, [some (.inr (.inr a0)), some (.inl x1), some (.inl x2), some (.inl x3), some (.inl x4), some (.inl x5), o6, o7], [], σ) Φ) (k2 : s0 = 0 → pe_X d 113 (14, [some (.inr (.inr a0)), some (.inl x1), some (.inl x2), some (.inl x3), some (.inl x4), some (.inl x5), o6, o7], [], σ) Φ) : pe_X d 113 (11, [some (.inr (.inr a0)), some (.inl x1), some (.inl x2), some (.inl x3), some (.inl x4), some (.inl x5), o6, o7], [.inl s0], σ) Φ := by
  refine pe_blk 5 1 ck113 [] (cond (decide (¬ (pe_w s0) = 0)) 16 14, [some (.inr (.inr a0)), some (.inl x1), some (.inl x2), some (.inl x3), some (.inl x4), some (.inl x5), o6, o7], [], σ) rfl ?_ ?_
  · exact trivial
  · try simp (disch := omega) only [pe_wi w0]
    exact pe_two' k1 k2
theorem b113_14 {d : Nat} {Φ : Option pe_V → pe_H → Prop} {σ : pe_H} {o0 : Option pe_V} {o1 : Option pe_V} {o2 : Option pe_V} {o3 : Option pe_V} {o4 : Option pe_V} {o5 : Option pe_V} {o6 : Option pe_V} {o7 : Option pe_V}    (k : Φ (some (.inl (-1))) σ) : pe_X d 113 (14, [o0, o1, o2, o3, o4, o5, o6, o7], [], σ) Φ := by
  refine pe_blk 6 1 ck113 [] (15, [o0, o1, o2, o3, o4, o5, o6, o7], [.inl (-1)], σ) rfl ?_ ?_
  · exact trivial
  · exact pe_fine 7 ck113 rfl rfl rfl trivial k
theorem b113_16 {d : Nat} {Φ : Option pe_V → pe_H → Prop} {σ : pe_H} {a0 : Nat} {x1 : Int} {x2 : Int} {x3 : Int} {x4 : Int} {x5 : Int} {o6 : Option pe_V} {o7 : Option pe_V} (f_a0 : pk_Fs a0 σ := by assumption)   (k : pe_M d 118 [.inr (.inr a0), .inl x1] σ (fun r σ' => pe_X d 113 (21, [some (.inr (.inr a0)), some (.inl x1), some (.inl x2), some (.inl x3), some (.inl x4), some (.inl x5), o6, o7], r.toList ++ [], σ') Φ)) : pe_X d 113 (16, [some (.inr (.inr a0)), some (.inl x1), some (.inl x2), some (.inl x3), some (.inl x4), some (.inl x5), o6, o7], [], σ) Φ := by
  refine pe_blk 8 2 ck113 [] (18, [some (.inr (.inr a0)), some (.inl x1), some (.inl x2), some (.inl x3), some (.inl x4), some (.inl x5), o6, o7], [.inl x1, .inr (.inr a0)], σ) rfl ?_ ?_
  · exact trivial
  · try simp (disch := omega) only [pe_K_wI, pe_K_wR, pk_sK f_a0]
    have hrc : pe_K σ a0 = 8 := by first | assumption | (simp (disch := omega) only [pe_K_wI, pe_K_wR, pk_sK f_a0]; done) | (simp (disch := omega) only [pe_K_wI, pe_K_wR, pk_sK f_a0]; assumption)
    exact pe_cal 10 ck113 rfl rfl rfl ⟨hrc, by decide⟩ k
theorem b113_21 {d : Nat} {Φ : Option pe_V → pe_H → Prop} {σ : pe_H} {a0 : Nat} {x1 : Int} {x2 : Int} {x3 : Int} {x4 : Int} {x5 : Int} {o6 : Option pe_V} {o7 : Option pe_V} {s0 : Int} (f_a0 : pk_Fs a0 σ := by assumption) (w0 : pe_in s0 := by unfold pe_in; omega)  (k1 : ¬ s0 = 0 → pe_X d 113 (32, [some (.inr (.inr a0)), some (.inl x1), some (.inl x2), some (.inl x3), some (.inl x4), some (.inl x5), o6, o7], [], σ) Φ) (k2 : s0 = 0 → pe_X d 113 (24, [some (.inr (.inr a0)), some (.inl x1), some (.inl x2), some (.inl x3), some (.inl x4), some (.inl x5), o6, o7], [], σ) Φ) : pe_X d 113 (21, [some (.inr (.inr a0)), some (.inl x1), some (.inl x2), some (.inl x3), some (.inl x4), some (.inl x5), o6, o7], [.inl s0], σ) Φ := by
  refine pe_blk 11 1 ck113 [] (cond (decide (¬ (pe_w s0) = 0)) 32 24, [some (.inr (.inr a0)), some (.inl x1), some (.inl x2), some (.inl x3), some (.inl x4), some (.inl x5), o6, o7], [], σ) rfl ?_ ?_
  · exact trivial
  · try simp (disch := omega) only [pe_wi w0]
    exact pe_two' k1 k2
theorem b113_24 {d : Nat} {Φ : Option pe_V → pe_H → Prop} {σ : pe_H} {a0 : Nat} {x1 : Int} {x2 : Int} {x3 : Int} {x4 : Int} {x5 : Int} {o6 : Option pe_V} {o7 : Option pe_V} (f_a0 : pk_Fs a0 σ := by assumption)   (k : pe_M d 118 [.inr (.inr a0), .inl x3] σ (fun r σ' => pe_X d 113 (29, [some (.inr (.inr a0)), some (.inl x1), some (.inl x2), some (.inl x3), some (.inl x4), some (.inl x5), o6, o7], r.toList ++ [], σ') Φ)) : pe_X d 113 (24, [some (.inr (.inr a0)), some (.inl x1), some (.inl x2), some (.inl x3), some (.inl x4), some (.inl x5), o6, o7], [], σ) Φ := by
  refine pe_blk 12 2 ck113 [] (26, [some (.inr (.inr a0)), some (.inl x1), some (.inl x2), some (.inl x3), some (.inl x4), some (.inl x5), o6, o7], [.inl x3, .inr (.inr a0)], σ) rfl ?_ ?_
  · exact trivial
  · try simp (disch := omega) only [pe_K_wI, pe_K_wR, pk_sK f_a0]
    have hrc : pe_K σ a0 = 8 := by first | assumption | (simp (disch := omega) only [pe_K_wI, pe_K_wR, pk_sK f_a0]; done) | (simp (disch := omega) only [pe_K_wI, pe_K_wR, pk_sK f_a0]; assumption)
    exact pe_cal 14 ck113 rfl rfl rfl ⟨hrc, by decide⟩ k
theorem b113_29 {d : Nat} {Φ : Option pe_V → pe_H → Prop} {σ : pe_H} {a0 : Nat} {x1 : Int} {x2 : Int} {x3 : Int} {x4 : Int} {x5 : Int} {o6 : Option pe_V} {o7 : Option pe_V} {s0 : Int} (f_a0 : pk_Fs a0 σ := by assumption) (w0 : pe_in s0 := by unfold pe_in; omega)  (k1 : s0 = 0 → pe_X d 113 (35, [some (.inr (.inr a0)), some (.inl x1), some (.inl x2), some (.inl x3), some (.inl x4), some (.inl x5), o6, o7], [], σ) Φ) (k2 : ¬ (s0 = 0) → pe_X d 113 (32, [some (.inr (.inr a0)), some (.inl x1), some (.inl x2), some (.inl x3), some (.inl x4), some (.inl x5), o6, o7], [], σ) Φ) : pe_X d 113 (29, [some (.inr (.inr a0)), some (.inl x1), some (.inl x2), some (.inl x3), some (.inl x4), some (.inl x5), o6, o7], [.inl s0], σ) Φ := by
  refine pe_blk 15 1 ck113 [] (cond (decide ((pe_w s0) = 0)) 35 32, [some (.inr (.inr a0)), some (.inl x1), some (.inl x2), some (.inl x3), some (.inl x4), some (.inl x5), o6, o7], [], σ) rfl ?_ ?_
  · exact trivial
  · try simp (disch := omega) only [pe_wi w0]
    exact pe_two k1 k2
theorem b113_32 {d : Nat} {Φ : Option pe_V → pe_H → Prop} {σ : pe_H} {o0 : Option pe_V} {o1 : Option pe_V} {o2 : Option pe_V} {o3 : Option pe_V} {o4 : Option pe_V} {o5 : Option pe_V} {o6 : Option pe_V} {o7 : Option pe_V}    (k : Φ (some (.inl (-11))) σ) : pe_X d 113 (32, [o0, o1, o2, o3, o4, o5, o6, o7], [], σ) Φ := by
  refine pe_blk 16 1 ck113 [] (34, [o0, o1, o2, o3, o4, o5, o6, o7], [.inl (-11)], σ) rfl ?_ ?_
  · exact trivial
  · exact pe_fine 17 ck113 rfl rfl rfl trivial k
theorem b113_35 {d : Nat} {Φ : Option pe_V → pe_H → Prop} {σ : pe_H} {a0 : Nat} {x1 : Int} {x2 : Int} {x3 : Int} {x4 : Int} {x5 : Int} {o6 : Option pe_V} {o7 : Option pe_V} (f_a0 : pk_Fs a0 σ := by assumption) (w0 : pe_in x1 := by unfold pe_in; omega) (w1 : pe_in x3 := by unfold pe_in; omega) (h0 : 0 ≤ x1 := by first | assumption | omega) (h1 : x1 < 8 := by first | assumption | omega) (h2 : 0 ≤ x3 := by first | assumption | omega) (h3 : x3 < 8 := by first | assumption | omega) (k1 : (pe_R σ (a0 + 177) x1) = 0 → pe_X d 113 (74, [some (.inr (.inr a0)), some (.inl x1), some (.inl x2), some (.inl x3), some (.inl x4), some (.inl x5), some (.inr (.inr (pe_R σ (a0 + 177) x1))), some (.inr (.inr (pe_R σ (a0 + 177) x3)))], [], σ) Φ) (k2 : ¬ ((pe_R σ (a0 + 177) x1) = 0) → pe_X d 113 (56, [some (.inr (.inr a0)), some (.inl x1), some (.inl x2), some (.inl x3), some (.inl x4), some (.inl x5), some (.inr (.inr (pe_R σ (a0 + 177) x1))), some (.inr (.inr (pe_R σ (a0 + 177) x3)))], [], σ) Φ) : pe_X d 113 (35, [some (.inr (.inr a0)), some (.inl x1), some (.inl x2), some (.inl x3), some (.inl x4), some (.inl x5), o6, o7], [], σ) Φ := by
  refine pe_blk 18 12 ck113 [pe_K σ a0 = 8, 12 ≤ pe_K σ (pe_R σ a0 4) ∧ pe_K σ (pe_R σ a0 4) < 19, 0 ≤ (pe_w x1), (pe_w x1) < pe_L σ (pe_R σ a0 4), pe_K σ a0 = 8, 12 ≤ pe_K σ (pe_R σ a0 4) ∧ pe_K σ (pe_R σ a0 4) < 19, 0 ≤ (pe_w x3), (pe_w x3) < pe_L σ (pe_R σ a0 4)] (cond (decide ((pe_R σ (pe_R σ a0 4) (pe_w x1)) = 0)) 74 56, [some (.inr (.inr a0)), some (.inl x1), some (.inl x2), some (.inl x3), some (.inl x4), some (.inl x5), some (.inr (.inr (pe_R σ (pe_R σ a0 4) (pe_w x1)))), some (.inr (.inr (pe_R σ (pe_R σ a0 4) (pe_w x3))))], [], σ) rfl ?_ ?_
  · first
    | (simp (disch := omega) only [pe_all, pe_wi w0, pe_wi w1, pe_K_wI, pe_K_wR, pe_L_wI, pe_L_wR, pe_R_nej, pe_R_ner, pe_R_wI, pk_sK f_a0, pk_sK4 f_a0, pk_sL4 f_a0, pk_sR4 f_a0]; done)
    | (simp (disch := omega) only [pe_all, pe_wi w0, pe_wi w1, pe_K_wI, pe_K_wR, pe_L_wI, pe_L_wR, pe_R_nej, pe_R_ner, pe_R_wI, pk_sK f_a0, pk_sK4 f_a0, pk_sL4 f_a0, pk_sR4 f_a0]; (repeat' apply And.intro) <;> first | assumption | omega | decide)
  · try simp (disch := omega) only [pe_wi w0, pe_wi w1, pe_K_wI, pe_K_wR, pe_L_wI, pe_L_wR, pe_R_nej, pe_R_ner, pe_R_wI, pk_sK f_a0, pk_sK4 f_a0, pk_sL4 f_a0, pk_sR4 f_a0]
    exact pe_two k1 k2
theorem b113_56 {d : Nat} {Φ : Option pe_V → pe_H → Prop} {σ : pe_H} {o0 : Option pe_V} {o1 : Option pe_V} {x2 : Int} {o3 : Option pe_V} {x4 : Int} {x5 : Int} {a6 : Nat} {a7 : Nat}    (k1 : a7 = 0 → pe_X d 113 (74, [o0, o1, some (.inl x2), o3, some (.inl x4), some (.inl x5), some (.inr (.inr a6)), some (.inr (.inr a7))], [], σ) Φ) (k2 : ¬ (a7 = 0) → pe_X d 113 (61, [o0, o1, some (.inl x2), o3, some (.inl x4), some (.inl x5), some (.inr (.inr a6)), some (.inr (.inr a7))], [], σ) Φ) : pe_X d 113 (56, [o0, o1, some (.inl x2), o3, some (.inl x4), some (.inl x5), some (.inr (.inr a6)), some (.inr (.inr a7))], [], σ) Φ := by
  refine pe_blk 30 2 ck113 [] (cond (decide (a7 = 0)) 74 61, [o0, o1, some (.inl x2), o3, some (.inl x4), some (.inl x5), some (.inr (.inr a6)), some (.inr (.inr a7))], [], σ) rfl ?_ ?_
  · exact trivial
  · exact pe_two k1 k2
theorem b113_61 {d : Nat} {Φ : Option pe_V → pe_H → Prop} {σ : pe_H} {o0 : Option pe_V} {o1 : Option pe_V} {x2 : Int} {o3 : Option pe_V} {x4 : Int} {x5 : Int} {a6 : Nat} {a7 : Nat}  (w0 : pe_in (pe_I σ a7 0) := by unfold pe_in; omega) (w1 : pe_in (pe_I σ a6 0) := by unfold pe_in; omega) (h0 : pe_K σ a6 = 6 := by first | assumption | omega) (h1 : pe_K σ a7 = 6 := by first | assumption | omega) (k1 : (pe_I σ a6 0) = (pe_I σ a7 0) → pe_X d 113 (77, [o0, o1, some (.inl x2), o3, some (.inl x4), some (.inl x5), some (.inr (.inr a6)), some (.inr (.inr a7))], [], σ) Φ) (k2 : ¬ ((pe_I σ a6 0) = (pe_I σ a7 0)) → pe_X d 113 (74, [o0, o1, some (.inl x2), o3, some (.inl x4), some (.inl x5), some (.inr (.inr a6)), some (.inr (.inr a7))], [], σ) Φ) : pe_X d 113 (61, [o0, o1, some (.inl x2), o3, some (.inl x4), some (.inl x5), some (.inr (.inr a6)), some (.inr (.inr a7))], [], σ) Φ := by
  refine pe_blk 32 5 ck113 [pe_K σ a6 = 6, pe_K σ a7 = 6] (cond (decide ((pe_w (pe_I σ a6 0)) = (pe_w (pe_I σ a7 0)))) 77 74, [o0, o1, some (.inl x2), o3, some (.inl x4), some (.inl x5), some (.inr (.inr a6)), some (.inr (.inr a7))], [], σ) rfl ?_ ?_
  · first
    | (simp (disch := omega) only [pe_all, pe_wi w0, pe_wi w1, pe_K_wI, pe_K_wR]; done)
    | (simp (disch := omega) only [pe_all, pe_wi w0, pe_wi w1, pe_K_wI, pe_K_wR]; (repeat' apply And.intro) <;> first | assumption | omega | decide)
  · try simp (disch := omega) only [pe_wi w0, pe_wi w1, pe_K_wI, pe_K_wR]
    exact pe_two k1 k2
theorem b113_74 {d : Nat} {Φ : Option pe_V → pe_H → Prop} {σ : pe_H} {o0 : Option pe_V} {o1 : Option pe_V} {o2 : Option pe_V} {o3 : Option pe_V} {o4 : Option pe_V} {o5 : Option pe_V} {o6 : Option pe_V} {o7 : Option pe_V}    (k : Φ (some (.inl (-12))) σ) : pe_X d 113 (74, [o0, o1, o2, o3, o4, o5, o6, o7], [], σ) Φ := by
  refine pe_blk 37 1 ck113 [] (76, [o0, o1, o2, o3, o4, o5, o6, o7], [.inl (-12)], σ) rfl ?_ ?_
  · exact trivial
  · exact pe_fine 38 ck113 rfl rfl rfl trivial k
theorem b113_77 {d : Nat} {Φ : Option pe_V → pe_H → Prop} {σ : pe_H} {o0 : Option pe_V} {o1 : Option pe_V} {x2 : Int} {o3 : Option pe_V} {x4 : Int} {x5 : Int} {a6 : Nat} {a7 : Nat}   (h0 : pe_K σ a6 = 6 := by first | assumption | omega) (k : pe_M d 59 [.inr (.inr a6), .inl x2, .inl x5] σ (fun r σ' => pe_X d 113 (85, [o0, o1, some (.inl x2), o3, some (.inl x4), some (.inl x5), some (.inr (.inr a6)), some (.inr (.inr a7))], r.toList ++ [], σ') Φ)) : pe_X d 113 (77, [o0, o1, some (.inl x2), o3, some (.inl x4), some (.inl x5), some (.inr (.inr a6)), some (.inr (.inr a7))], [], σ) Φ := by
  refine pe_blk 39 3 ck113 [] (82, [o0, o1, some (.inl x2), o3, some (.inl x4), some (.inl x5), some (.inr (.inr a6)), some (.inr (.inr a7))], [.inl x5, .inl x2, .inr (.inr a6)], σ) rfl ?_ ?_
  · exact trivial
  · try simp (disch := omega) only [pe_K_wI, pe_K_wR]
    have hrc : pe_K σ a6 = 6 := by first | assumption | (simp (disch := omega) only [pe_K_wI, pe_K_wR]; done) | (simp (disch := omega) only [pe_K_wI, pe_K_wR]; assumption)
    exact pe_cal 42 ck113 rfl rfl rfl ⟨hrc, by decide⟩ k
theorem b113_85 {d : Nat} {Φ : Option pe_V → pe_H → Prop} {σ : pe_H} {o0 : Option pe_V} {o1 : Option pe_V} {x2 : Int} {o3 : Option pe_V} {x4 : Int} {x5 : Int} {a6 : Nat} {a7 : Nat} {s0 : Int}  (w0 : pe_in s0 := by unfold pe_in; omega)  (k1 : s0 = 0 → pe_X d 113 (100, [o0, o1, some (.inl x2), o3, some (.inl x4), some (.inl x5), some (.inr (.inr a6)), some (.inr (.inr a7))], [], σ) Φ) (k2 : ¬ (s0 = 0) → pe_X d 113 (88, [o0, o1, some (.inl x2), o3, some (.inl x4), some (.inl x5), some (.inr (.inr a6)), some (.inr (.inr a7))], [], σ) Φ) : pe_X d 113 (85, [o0, o1, some (.inl x2), o3, some (.inl x4), some (.inl x5), some (.inr (.inr a6)), some (.inr (.inr a7))], [.inl s0], σ) Φ := by
  refine pe_blk 43 1 ck113 [] (cond (decide ((pe_w s0) = 0)) 100 88, [o0, o1, some (.inl x2), o3, some (.inl x4), some (.inl x5), some (.inr (.inr a6)), some (.inr (.inr a7))], [], σ) rfl ?_ ?_
  · exact trivial
  · try simp (disch := omega) only [pe_wi w0]
    exact pe_two k1 k2
theorem b113_88 {d : Nat} {Φ : Option pe_V → pe_H → Prop} {σ : pe_H} {o0 : Option pe_V} {o1 : Option pe_V} {x2 : Int} {o3 : Option pe_V} {x4 : Int} {x5 : Int} {a6 : Nat} {a7 : Nat}   (h0 : pe_K σ a7 = 6 := by first | assumption | omega) (k : pe_M d 59 [.inr (.inr a7), .inl x4, .inl x5] σ (fun r σ' => pe_X d 113 (97, [o0, o1, some (.inl x2), o3, some (.inl x4), some (.inl x5), some (.inr (.inr a6)), some (.inr (.inr a7))], r.toList ++ [], σ') Φ)) : pe_X d 113 (88, [o0, o1, some (.inl x2), o3, some (.inl x4), some (.inl x5), some (.inr (.inr a6)), some (.inr (.inr a7))], [], σ) Φ := by
  refine pe_blk 44 3 ck113 [] (94, [o0, o1, some (.inl x2), o3, some (.inl x4), some (.inl x5), some (.inr (.inr a6)), some (.inr (.inr a7))], [.inl x5, .inl x4, .inr (.inr a7)], σ) rfl ?_ ?_
  · exact trivial
  · try simp (disch := omega) only [pe_K_wI, pe_K_wR]
    have hrc : pe_K σ a7 = 6 := by first | assumption | (simp (disch := omega) only [pe_K_wI, pe_K_wR]; done) | (simp (disch := omega) only [pe_K_wI, pe_K_wR]; assumption)
    exact pe_cal 47 ck113 rfl rfl rfl ⟨hrc, by decide⟩ k
theorem b113_97 {d : Nat} {Φ : Option pe_V → pe_H → Prop} {σ : pe_H} {o0 : Option pe_V} {o1 : Option pe_V} {x2 : Int} {o3 : Option pe_V} {x4 : Int} {x5 : Int} {a6 : Nat} {a7 : Nat} {s0 : Int}  (w0 : pe_in s0 := by unfold pe_in; omega)  (k1 : ¬ s0 = 0 → pe_X d 113 (103, [o0, o1, some (.inl x2), o3, some (.inl x4), some (.inl x5), some (.inr (.inr a6)), some (.inr (.inr a7))], [], σ) Φ) (k2 : s0 = 0 → pe_X d 113 (100, [o0, o1, some (.inl x2), o3, some (.inl x4), some (.inl x5), some (.inr (.inr a6)), some (.inr (.inr a7))], [], σ) Φ) : pe_X d 113 (97, [o0, o1, some (.inl x2), o3, some (.inl x4), some (.inl x5), some (.inr (.inr a6)), some (.inr (.inr a7))], [.inl s0], σ) Φ := by
  refine pe_blk 48 1 ck113 [] (cond (decide (¬ (pe_w s0) = 0)) 103 100, [o0, o1, some (.inl x2), o3, some (.inl x4), some (.inl x5), some (.inr (.inr a6)), some (.inr (.inr a7))], [], σ) rfl ?_ ?_
  · exact trivial
  · try simp (disch := omega) only [pe_wi w0]
    exact pe_two' k1 k2
theorem b113_100 {d : Nat} {Φ : Option pe_V → pe_H → Prop} {σ : pe_H} {o0 : Option pe_V} {o1 : Option pe_V} {o2 : Option pe_V} {o3 : Option pe_V} {o4 : Option pe_V} {o5 : Option pe_V} {o6 : Option pe_V} {o7 : Option pe_V}    (k : Φ (some (.inl (-13))) σ) : pe_X d 113 (100, [o0, o1, o2, o3, o4, o5, o6, o7], [], σ) Φ := by
  refine pe_blk 49 1 ck113 [] (102, [o0, o1, o2, o3, o4, o5, o6, o7], [.inl (-13)], σ) rfl ?_ ?_
  · exact trivial
  · exact pe_fine 50 ck113 rfl rfl rfl trivial k
set_option maxRecDepth 8000 in
theorem b113_103 {d : Nat} {Φ : Option pe_V → pe_H → Prop} {σ : pe_H} {o0 : Option pe_V} {o1 : Option pe_V} {x2 : Int} {o3 : Option pe_V} {x4 : Int} {x5 : Int} {a6 : Nat} {a7 : Nat}  (w0 : pe_in x5 := by unfold pe_in; omega) (w1 : pe_in x4 := by unfold pe_in; omega) (w2 : pe_in x2 := by unfold pe_in; omega) (h0 : pe_K σ a6 = 6 := by first | assumption | omega) (h1 : pe_K σ a7 = 6 := by first | assumption | omega) (h2 : pe_K σ (pe_R σ a6 1) = 10 := by first | assumption | omega) (h3 : pe_K σ (pe_R σ a7 1) = 10 := by first | assumption | omega) (h4 : 2 ≤ (pe_R σ a7 1) := by first | assumption | omega) (h5 : 0 ≤ x2 := by first | assumption | omega) (h6 : 0 ≤ x4 := by first | assumption | omega) (h7 : 0 ≤ x5 := by first | assumption | omega) (h8 : x2 + x5 ≤ pe_L σ (pe_R σ a6 1) := by first | assumption | omega) (h9 : x4 + x5 ≤ pe_L σ (pe_R σ a7 1) := by first | assumption | omega) (k : Φ (some (.inl x5)) (pe_cpy σ (pe_R σ a6 1) x2 (pe_R σ a7 1) x4 x5)) : pe_X d 113 (103, [o0, o1, some (.inl x2), o3, some (.inl x4), some (.inl x5), some (.inr (.inr a6)), some (.inr (.inr a7))], [], σ) Φ := by
  refine pe_blk 51 9 ck113 [pe_K σ a6 = 6, pe_K σ a7 = 6, pe_K σ (pe_R σ a6 1) = 10, pe_K σ (pe_R σ a7 1) = 10, 2 ≤ (pe_R σ a7 1), 0 ≤ (pe_w x2), 0 ≤ (pe_w x4), 0 ≤ (pe_w x5), (pe_w x2) + (pe_w x5) ≤ pe_L σ (pe_R σ a6 1), (pe_w x4) + (pe_w x5) ≤ pe_L σ (pe_R σ a7 1)] (123, [o0, o1, some (.inl x2), o3, some (.inl x4), some (.inl x5), some (.inr (.inr a6)), some (.inr (.inr a7))], [.inl x5], pe_cpy σ (pe_R σ a6 1) (pe_w x2) (pe_R σ a7 1) (pe_w x4) (pe_w x5)) rfl ?_ ?_
  · first
    | (simp (disch := omega) only [pe_all, pe_wi w0, pe_wi w1, pe_wi w2, pe_K_wI, pe_K_wR, pe_L_wI, pe_L_wR]; done)
    | (simp (disch := omega) only [pe_all, pe_wi w0, pe_wi w1, pe_wi w2, pe_K_wI, pe_K_wR, pe_L_wI, pe_L_wR]; (repeat' apply And.intro) <;> first | assumption | omega | decide)
  · try simp (disch := omega) only [pe_wi w0, pe_wi w1, pe_wi w2, pe_K_wI, pe_K_wR, pe_L_wI, pe_L_wR]
    exact pe_fine 60 ck113 rfl rfl rfl trivial k
-- StepMachines.cost(I)I
def T114 : List (Nat × Instr × Nat) := [(0, .aload_n 0, 1), (1, .iload_n 1, 1), (2, .invokevirtual 100, 3), (5, .istore_n 2, 1), (6, .iload_n 2, 1), (7, .ifCond .eq 7, 3), (10, .iload_n 2, 1), (11, .goto 12, 3), (14, .aload_n 0, 1), (15, .getfield 25, 3), (18, .iload_n 1, 1), (19, .aaload, 1), (20, .invokevirtual 325, 3), (23, .ireturn, 1)]
theorem ck114 : pe_ctx 114 8 false (some .int) 3 T114 := ⟨rfl, rfl, rfl, rfl, by decide +kernel, by decide, by decide⟩
theorem b114_0 {d : Nat} {Φ : Option pe_V → pe_H → Prop} {σ : pe_H} {a0 : Nat} {x1 : Int} {o2 : Option pe_V} (f_a0 : pk_Fs a0 σ := by assumption)   (k : pe_M d 120 [.inr (.inr a0), .inl x1] σ (fun r σ' => pe_X d 114 (5, [some (.inr (.inr a0)), some (.inl x1), o2], r.toList ++ [], σ') Φ)) : pe_X d 114 (0, [some (.inr (.inr a0)), some (.inl x1), o2], [], σ) Φ := by
  refine pe_blk 0 2 ck114 [] (2, [some (.inr (.inr a0)), some (.inl x1), o2], [.inl x1, .inr (.inr a0)], σ) rfl ?_ ?_
  · exact trivial
  · try simp (disch := omega) only [pe_K_wI, pe_K_wR, pk_sK f_a0]
    have hrc : pe_K σ a0 = 8 := by first | assumption | (simp (disch := omega) only [pe_K_wI, pe_K_wR, pk_sK f_a0]; done) | (simp (disch := omega) only [pe_K_wI, pe_K_wR, pk_sK f_a0]; assumption)
    exact pe_cal 2 ck114 rfl rfl rfl ⟨hrc, by decide⟩ k
theorem b114_5 {d : Nat} {Φ : Option pe_V → pe_H → Prop} {σ : pe_H} {a0 : Nat} {x1 : Int} {o2 : Option pe_V} {s0 : Int} (f_a0 : pk_Fs a0 σ := by assumption) (w0 : pe_in s0 := by unfold pe_in; omega)  (k1 : s0 = 0 → pe_X d 114 (14, [some (.inr (.inr a0)), some (.inl x1), some (.inl s0)], [], σ) Φ) (k2 : ¬ (s0 = 0) → pe_X d 114 (10, [some (.inr (.inr a0)), some (.inl x1), some (.inl s0)], [], σ) Φ) : pe_X d 114 (5, [some (.inr (.inr a0)), some (.inl x1), o2], [.inl s0], σ) Φ := by
  refine pe_blk 3 3 ck114 [] (cond (decide ((pe_w s0) = 0)) 14 10, [some (.inr (.inr a0)), some (.inl x1), some (.inl s0)], [], σ) rfl ?_ ?_
  · exact trivial
  · try simp (disch := omega) only [pe_wi w0]
    exact pe_two k1 k2
theorem b114_10 {d : Nat} {Φ : Option pe_V → pe_H → Prop} {σ : pe_H} {o0 : Option pe_V} {o1 : Option pe_V} {x2 : Int}    (k : pe_X d 114 (23, [o0, o1, some (.inl x2)], [.inl x2], σ) Φ) : pe_X d 114 (10, [o0, o1, some (.inl x2)], [], σ) Φ := by
  refine pe_blk 6 2 ck114 [] (23, [o0, o1, some (.inl x2)], [.inl x2], σ) rfl ?_ ?_
  · exact trivial
  · exact k
theorem b114_14 {d : Nat} {Φ : Option pe_V → pe_H → Prop} {σ : pe_H} {a0 : Nat} {x1 : Int} {o2 : Option pe_V} (f_a0 : pk_Fs a0 σ := by assumption) (w0 : pe_in x1 := by unfold pe_in; omega) (h0 : 0 ≤ x1 := by first | assumption | omega) (h1 : x1 < 8 := by first | assumption | omega) (h2 : pe_K σ (pe_R σ (a0 + 176) x1) = 3 := by first | assumption | omega) (k : pe_M d 45 [.inr (.inr (pe_R σ (a0 + 176) x1))] σ (fun r σ' => pe_X d 114 (23, [some (.inr (.inr a0)), some (.inl x1), o2], r.toList ++ [], σ') Φ)) : pe_X d 114 (14, [some (.inr (.inr a0)), some (.inl x1), o2], [], σ) Φ := by
  refine pe_blk 8 4 ck114 [pe_K σ a0 = 8, 12 ≤ pe_K σ (pe_R σ a0 3) ∧ pe_K σ (pe_R σ a0 3) < 19, 0 ≤ (pe_w x1), (pe_w x1) < pe_L σ (pe_R σ a0 3)] (20, [some (.inr (.inr a0)), some (.inl x1), o2], [.inr (.inr (pe_R σ (pe_R σ a0 3) (pe_w x1)))], σ) rfl ?_ ?_
  · first
    | (simp (disch := omega) only [pe_all, pe_wi w0, pe_K_wI, pe_K_wR, pe_L_wI, pe_L_wR, pe_R_nej, pe_R_ner, pe_R_wI, pk_sK f_a0, pk_sK3 f_a0, pk_sL3 f_a0, pk_sR3 f_a0]; done)
    | (simp (disch := omega) only [pe_all, pe_wi w0, pe_K_wI, pe_K_wR, pe_L_wI, pe_L_wR, pe_R_nej, pe_R_ner, pe_R_wI, pk_sK f_a0, pk_sK3 f_a0, pk_sL3 f_a0, pk_sR3 f_a0]; (repeat' apply And.intro) <;> first | assumption | omega | decide)
  · try simp (disch := omega) only [pe_wi w0, pe_K_wI, pe_K_wR, pe_L_wI, pe_L_wR, pe_R_nej, pe_R_ner, pe_R_wI, pk_sK f_a0, pk_sK3 f_a0, pk_sL3 f_a0, pk_sR3 f_a0]
    have hrc : pe_K σ (pe_R σ (a0 + 176) x1) = 3 := by first | assumption | (simp (disch := omega) only [pe_wi w0, pe_K_wI, pe_K_wR, pe_L_wI, pe_L_wR, pe_R_nej, pe_R_ner, pe_R_wI, pk_sK f_a0, pk_sK3 f_a0, pk_sL3 f_a0, pk_sR3 f_a0]; done) | (simp (disch := omega) only [pe_wi w0, pe_K_wI, pe_K_wR, pe_L_wI, pe_L_wR, pe_R_nej, pe_R_ner, pe_R_wI, pk_sK f_a0, pk_sK3 f_a0, pk_sL3 f_a0, pk_sR3 f_a0]; assumption)
    exact pe_cal 12 ck114 rfl rfl rfl ⟨hrc, by decide⟩ k
theorem b114_23 {d : Nat} {Φ : Option pe_V → pe_H → Prop} {σ : pe_H} {o0 : Option pe_V} {o1 : Option pe_V} {o2 : Option pe_V} {s0 : Int}    (k : Φ (some (.inl s0)) σ) : pe_X d 114 (23, [o0, o1, o2], [.inl s0], σ) Φ := by
  exact pe_fine 13 ck114 rfl rfl rfl trivial k
-- StepMachines.isShelf(I)Z
def T115 : List (Nat × Instr × Nat) := [(0, .iload_n 0, 1), (1, .ifCond .lt 13, 3), (4, .iload_n 0, 1), (5, .bipush 8, 2), (7, .if_icmp .ge 7, 3), (10, .iconst 1, 1), (11, .goto 4, 3), (14, .iconst 0, 1), (15, .ireturn, 1)]
theorem ck115 : pe_ctx 115 8 false (some .boolean) 1 T115 := ⟨rfl, rfl, rfl, rfl, by decide +kernel, by decide, by decide⟩
theorem b115_0 {d : Nat} {Φ : Option pe_V → pe_H → Prop} {σ : pe_H} {x0 : Int}  (w0 : pe_in x0 := by unfold pe_in; omega)  (k1 : x0 < 0 → pe_X d 115 (14, [some (.inl x0)], [], σ) Φ) (k2 : ¬ (x0 < 0) → pe_X d 115 (4, [some (.inl x0)], [], σ) Φ) : pe_X d 115 (0, [some (.inl x0)], [], σ) Φ := by
  refine pe_blk 0 2 ck115 [] (cond (decide ((pe_w x0) < 0)) 14 4, [some (.inl x0)], [], σ) rfl ?_ ?_
  · exact trivial
  · try simp (disch := omega) only [pe_wi w0]
    exact pe_two k1 k2
theorem b115_4 {d : Nat} {Φ : Option pe_V → pe_H → Prop} {σ : pe_H} {x0 : Int}  (w0 : pe_in x0 := by unfold pe_in; omega)  (k1 : 8 ≤ x0 → pe_X d 115 (14, [some (.inl x0)], [], σ) Φ) (k2 : ¬ (8 ≤ x0) → pe_X d 115 (10, [some (.inl x0)], [], σ) Φ) : pe_X d 115 (4, [some (.inl x0)], [], σ) Φ := by
  refine pe_blk 2 3 ck115 [] (cond (decide ((pe_w 8) ≤ (pe_w x0))) 14 10, [some (.inl x0)], [], σ) rfl ?_ ?_
  · exact trivial
  · try simp (disch := omega) only [pe_wi w0, pe_wi (x := 8) ⟨by decide, by decide⟩]
    exact pe_two k1 k2
theorem b115_10 {d : Nat} {Φ : Option pe_V → pe_H → Prop} {σ : pe_H} {o0 : Option pe_V}    (k : pe_X d 115 (15, [o0], [.inl 1], σ) Φ) : pe_X d 115 (10, [o0], [], σ) Φ := by
  refine pe_blk 5 2 ck115 [] (15, [o0], [.inl 1], σ) rfl ?_ ?_
  · exact trivial
  · exact k
theorem b115_14 {d : Nat} {Φ : Option pe_V → pe_H → Prop} {σ : pe_H} {o0 : Option pe_V}    (k : pe_X d 115 (15, [o0], [.inl 0], σ) Φ) : pe_X d 115 (14, [o0], [], σ) Φ := by
  refine pe_blk 7 1 ck115 [] (15, [o0], [.inl 0], σ) rfl ?_ ?_
  · exact trivial
  · exact k
theorem b115_15 {d : Nat} {Φ : Option pe_V → pe_H → Prop} {σ : pe_H} {o0 : Option pe_V} {s0 : Int}   (h0 : s0 = 0 ∨ s0 = 1 := by first | assumption | omega) (k : Φ (some (.inl s0)) σ) : pe_X d 115 (15, [o0], [.inl s0], σ) Φ := by
  exact pe_fine 8 ck115 rfl rfl rfl h0 k
-- StepMachines.isProgram(I)Z
def T116 : List (Nat × Instr × Nat) := [(0, .iload_n 0, 1), (1, .ifCond .lt 12, 3), (4, .iload_n 0, 1), (5, .iconst 5, 1), (6, .if_icmp .ge 7, 3), (9, .iconst 1, 1), (10, .goto 4, 3), (13, .iconst 0, 1), (14, .ireturn, 1)]
theorem ck116 : pe_ctx 116 8 false (some .boolean) 1 T116 := ⟨rfl, rfl, rfl, rfl, by decide +kernel, by decide, by decide⟩
theorem b116_0 {d : Nat} {Φ : Option pe_V → pe_H → Prop} {σ : pe_H} {x0 : Int}  (w0 : pe_in x0 := by unfold pe_in; omega)  (k1 : x0 < 0 → pe_X d 116 (13, [some (.inl x0)], [], σ) Φ) (k2 : ¬ (x0 < 0) → pe_X d 116 (4, [some (.inl x0)], [], σ) Φ) : pe_X d 116 (0, [some (.inl x0)], [], σ) Φ := by
  refine pe_blk 0 2 ck116 [] (cond (decide ((pe_w x0) < 0)) 13 4, [some (.inl x0)], [], σ) rfl ?_ ?_
  · exact trivial
  · try simp (disch := omega) only [pe_wi w0]
    exact pe_two k1 k2
theorem b116_4 {d : Nat} {Φ : Option pe_V → pe_H → Prop} {σ : pe_H} {x0 : Int}  (w0 : pe_in x0 := by unfold pe_in; omega)  (k1 : 5 ≤ x0 → pe_X d 116 (13, [some (.inl x0)], [], σ) Φ) (k2 : ¬ (5 ≤ x0) → pe_X d 116 (9, [some (.inl x0)], [], σ) Φ) : pe_X d 116 (4, [some (.inl x0)], [], σ) Φ := by
  refine pe_blk 2 3 ck116 [] (cond (decide ((pe_w 5) ≤ (pe_w x0))) 13 9, [some (.inl x0)], [], σ) rfl ?_ ?_
  · exact trivial
  · try simp (disch := omega) only [pe_wi w0, pe_wi (x := 5) ⟨by decide, by decide⟩]
    exact pe_two k1 k2
theorem b116_9 {d : Nat} {Φ : Option pe_V → pe_H → Prop} {σ : pe_H} {o0 : Option pe_V}    (k : pe_X d 116 (14, [o0], [.inl 1], σ) Φ) : pe_X d 116 (9, [o0], [], σ) Φ := by
  refine pe_blk 5 2 ck116 [] (14, [o0], [.inl 1], σ) rfl ?_ ?_
  · exact trivial
  · exact k
theorem b116_13 {d : Nat} {Φ : Option pe_V → pe_H → Prop} {σ : pe_H} {o0 : Option pe_V}    (k : pe_X d 116 (14, [o0], [.inl 0], σ) Φ) : pe_X d 116 (13, [o0], [], σ) Φ := by
  refine pe_blk 7 1 ck116 [] (14, [o0], [.inl 0], σ) rfl ?_ ?_
  · exact trivial
  · exact k
theorem b116_14 {d : Nat} {Φ : Option pe_V → pe_H → Prop} {σ : pe_H} {o0 : Option pe_V} {s0 : Int}   (h0 : s0 = 0 ∨ s0 = 1 := by first | assumption | omega) (k : Φ (some (.inl s0)) σ) : pe_X d 116 (14, [o0], [.inl s0], σ) Φ := by
  exact pe_fine 8 ck116 rfl rfl rfl h0 k
-- StepMachines.isCoroutine(I)Z
def T117 : List (Nat × Instr × Nat) := [(0, .iload_n 1, 1), (1, .ifCond .lt 18, 3), (4, .iload_n 1, 1), (5, .aload_n 0, 1), (6, .getfield 10, 3), (9, .getfield 235, 3), (12, .if_icmp .ge 7, 3), (15, .iconst 1, 1), (16, .goto 4, 3), (19, .iconst 0, 1), (20, .ireturn, 1)]
theorem ck117 : pe_ctx 117 8 false (some .boolean) 2 T117 := ⟨rfl, rfl, rfl, rfl, by decide +kernel, by decide, by decide⟩
theorem b117_0 {d : Nat} {Φ : Option pe_V → pe_H → Prop} {σ : pe_H} {a0 : Nat} {x1 : Int} (f_a0 : pk_Fs a0 σ := by assumption) (w0 : pe_in x1 := by unfold pe_in; omega)  (k1 : x1 < 0 → pe_X d 117 (19, [some (.inr (.inr a0)), some (.inl x1)], [], σ) Φ) (k2 : ¬ (x1 < 0) → pe_X d 117 (4, [some (.inr (.inr a0)), some (.inl x1)], [], σ) Φ) : pe_X d 117 (0, [some (.inr (.inr a0)), some (.inl x1)], [], σ) Φ := by
  refine pe_blk 0 2 ck117 [] (cond (decide ((pe_w x1) < 0)) 19 4, [some (.inr (.inr a0)), some (.inl x1)], [], σ) rfl ?_ ?_
  · exact trivial
  · try simp (disch := omega) only [pe_wi w0]
    exact pe_two k1 k2
theorem b117_4 {d : Nat} {Φ : Option pe_V → pe_H → Prop} {σ : pe_H} {a0 : Nat} {x1 : Int} (f_a0 : pk_Fs a0 σ := by assumption) (w0 : pe_in (pe_I σ (a0 + 1) 4) := by unfold pe_in; omega) (w1 : pe_in x1 := by unfold pe_in; omega)  (k1 : (pe_I σ (a0 + 1) 4) ≤ x1 → pe_X d 117 (19, [some (.inr (.inr a0)), some (.inl x1)], [], σ) Φ) (k2 : ¬ ((pe_I σ (a0 + 1) 4) ≤ x1) → pe_X d 117 (15, [some (.inr (.inr a0)), some (.inl x1)], [], σ) Φ) : pe_X d 117 (4, [some (.inr (.inr a0)), some (.inl x1)], [], σ) Φ := by
  refine pe_blk 2 5 ck117 [pe_K σ a0 = 8, pe_K σ (pe_R σ a0 0) = 2] (cond (decide ((pe_w (pe_I σ (pe_R σ a0 0) 4)) ≤ (pe_w x1))) 19 15, [some (.inr (.inr a0)), some (.inl x1)], [], σ) rfl ?_ ?_
  · first
    | (simp (disch := omega) only [pe_all, pe_wi w0, pe_wi w1, pe_K_wI, pe_K_wR, pe_R_nej, pe_R_ner, pe_R_wI, pk_mK (pk_sM0 f_a0), pk_sK f_a0, pk_sR0 f_a0]; done)
    | (simp (disch := omega) only [pe_all, pe_wi w0, pe_wi w1, pe_K_wI, pe_K_wR, pe_R_nej, pe_R_ner, pe_R_wI, pk_mK (pk_sM0 f_a0), pk_sK f_a0, pk_sR0 f_a0]; (repeat' apply And.intro) <;> first | assumption | omega | decide)
  · try simp (disch := omega) only [pe_wi w0, pe_wi w1, pe_K_wI, pe_K_wR, pe_R_nej, pe_R_ner, pe_R_wI, pk_mK (pk_sM0 f_a0), pk_sK f_a0, pk_sR0 f_a0]
    exact pe_two k1 k2
theorem b117_15 {d : Nat} {Φ : Option pe_V → pe_H → Prop} {σ : pe_H} {o0 : Option pe_V} {o1 : Option pe_V}    (k : pe_X d 117 (20, [o0, o1], [.inl 1], σ) Φ) : pe_X d 117 (15, [o0, o1], [], σ) Φ := by
  refine pe_blk 7 2 ck117 [] (20, [o0, o1], [.inl 1], σ) rfl ?_ ?_
  · exact trivial
  · exact k
theorem b117_19 {d : Nat} {Φ : Option pe_V → pe_H → Prop} {σ : pe_H} {o0 : Option pe_V} {o1 : Option pe_V}    (k : pe_X d 117 (20, [o0, o1], [.inl 0], σ) Φ) : pe_X d 117 (19, [o0, o1], [], σ) Φ := by
  refine pe_blk 9 1 ck117 [] (20, [o0, o1], [.inl 0], σ) rfl ?_ ?_
  · exact trivial
  · exact k
theorem b117_20 {d : Nat} {Φ : Option pe_V → pe_H → Prop} {σ : pe_H} {o0 : Option pe_V} {o1 : Option pe_V} {s0 : Int}   (h0 : s0 = 0 ∨ s0 = 1 := by first | assumption | omega) (k : Φ (some (.inl s0)) σ) : pe_X d 117 (20, [o0, o1], [.inl s0], σ) Φ := by
  exact pe_fine 10 ck117 rfl rfl rfl h0 k
-- StepMachines.holdsNothing(I)Z
def T118 : List (Nat × Instr × Nat) := [(0, .aload_n 0, 1), (1, .getfield 31, 3), (4, .iload_n 1, 1), (5, .aaload, 1), (6, .ifnonnull 16, 3), (9, .aload_n 0, 1), (10, .getfield 25, 3), (13, .iload_n 1, 1), (14, .aaload, 1), (15, .ifnonnull 7, 3), (18, .iconst 1, 1), (19, .goto 4, 3), (22, .iconst 0, 1), (23, .ireturn, 1)]
theorem ck118 : pe_ctx 118 8 false (some .boolean) 2 T118 := ⟨rfl, rfl, rfl, rfl, by decide +kernel, by decide, by decide⟩
theorem b118_0 {d : Nat} {Φ : Option pe_V → pe_H → Prop} {σ : pe_H} {a0 : Nat} {x1 : Int} (f_a0 : pk_Fs a0 σ := by assumption) (w0 : pe_in x1 := by unfold pe_in; omega) (h0 : 0 ≤ x1 := by first | assumption | omega) (h1 : x1 < 8 := by first | assumption | omega) (k1 : ¬ (pe_R σ (a0 + 177) x1) = 0 → pe_X d 118 (22, [some (.inr (.inr a0)), some (.inl x1)], [], σ) Φ) (k2 : (pe_R σ (a0 + 177) x1) = 0 → pe_X d 118 (9, [some (.inr (.inr a0)), some (.inl x1)], [], σ) Φ) : pe_X d 118 (0, [some (.inr (.inr a0)), some (.inl x1)], [], σ) Φ := by
  refine pe_blk 0 5 ck118 [pe_K σ a0 = 8, 12 ≤ pe_K σ (pe_R σ a0 4) ∧ pe_K σ (pe_R σ a0 4) < 19, 0 ≤ (pe_w x1), (pe_w x1) < pe_L σ (pe_R σ a0 4)] (cond (decide (¬ (pe_R σ (pe_R σ a0 4) (pe_w x1)) = 0)) 22 9, [some (.inr (.inr a0)), some (.inl x1)], [], σ) rfl ?_ ?_
  · first
    | (simp (disch := omega) only [pe_all, pe_wi w0, pe_K_wI, pe_K_wR, pe_L_wI, pe_L_wR, pe_R_nej, pe_R_ner, pe_R_wI, pk_sK f_a0, pk_sK4 f_a0, pk_sL4 f_a0, pk_sR4 f_a0]; done)
    | (simp (disch := omega) only [pe_all, pe_wi w0, pe_K_wI, pe_K_wR, pe_L_wI, pe_L_wR, pe_R_nej, pe_R_ner, pe_R_wI, pk_sK f_a0, pk_sK4 f_a0, pk_sL4 f_a0, pk_sR4 f_a0]; (repeat' apply And.intro) <;> first | assumption | omega | decide)
  · try simp (disch := omega) only [pe_wi w0, pe_K_wI, pe_K_wR, pe_L_wI, pe_L_wR, pe_R_nej, pe_R_ner, pe_R_wI, pk_sK f_a0, pk_sK4 f_a0, pk_sL4 f_a0, pk_sR4 f_a0]
    exact pe_two' k1 k2
theorem b118_9 {d : Nat} {Φ : Option pe_V → pe_H → Prop} {σ : pe_H} {a0 : Nat} {x1 : Int} (f_a0 : pk_Fs a0 σ := by assumption) (w0 : pe_in x1 := by unfold pe_in; omega) (h0 : 0 ≤ x1 := by first | assumption | omega) (h1 : x1 < 8 := by first | assumption | omega) (k1 : ¬ (pe_R σ (a0 + 176) x1) = 0 → pe_X d 118 (22, [some (.inr (.inr a0)), some (.inl x1)], [], σ) Φ) (k2 : (pe_R σ (a0 + 176) x1) = 0 → pe_X d 118 (18, [some (.inr (.inr a0)), some (.inl x1)], [], σ) Φ) : pe_X d 118 (9, [some (.inr (.inr a0)), some (.inl x1)], [], σ) Φ := by
  refine pe_blk 5 5 ck118 [pe_K σ a0 = 8, 12 ≤ pe_K σ (pe_R σ a0 3) ∧ pe_K σ (pe_R σ a0 3) < 19, 0 ≤ (pe_w x1), (pe_w x1) < pe_L σ (pe_R σ a0 3)] (cond (decide (¬ (pe_R σ (pe_R σ a0 3) (pe_w x1)) = 0)) 22 18, [some (.inr (.inr a0)), some (.inl x1)], [], σ) rfl ?_ ?_
  · first
    | (simp (disch := omega) only [pe_all, pe_wi w0, pe_K_wI, pe_K_wR, pe_L_wI, pe_L_wR, pe_R_nej, pe_R_ner, pe_R_wI, pk_sK f_a0, pk_sK3 f_a0, pk_sL3 f_a0, pk_sR3 f_a0]; done)
    | (simp (disch := omega) only [pe_all, pe_wi w0, pe_K_wI, pe_K_wR, pe_L_wI, pe_L_wR, pe_R_nej, pe_R_ner, pe_R_wI, pk_sK f_a0, pk_sK3 f_a0, pk_sL3 f_a0, pk_sR3 f_a0]; (repeat' apply And.intro) <;> first | assumption | omega | decide)
  · try simp (disch := omega) only [pe_wi w0, pe_K_wI, pe_K_wR, pe_L_wI, pe_L_wR, pe_R_nej, pe_R_ner, pe_R_wI, pk_sK f_a0, pk_sK3 f_a0, pk_sL3 f_a0, pk_sR3 f_a0]
    exact pe_two' k1 k2
theorem b118_18 {d : Nat} {Φ : Option pe_V → pe_H → Prop} {σ : pe_H} {o0 : Option pe_V} {o1 : Option pe_V}    (k : pe_X d 118 (23, [o0, o1], [.inl 1], σ) Φ) : pe_X d 118 (18, [o0, o1], [], σ) Φ := by
  refine pe_blk 10 2 ck118 [] (23, [o0, o1], [.inl 1], σ) rfl ?_ ?_
  · exact trivial
  · exact k
theorem b118_22 {d : Nat} {Φ : Option pe_V → pe_H → Prop} {σ : pe_H} {o0 : Option pe_V} {o1 : Option pe_V}    (k : pe_X d 118 (23, [o0, o1], [.inl 0], σ) Φ) : pe_X d 118 (22, [o0, o1], [], σ) Φ := by
  refine pe_blk 12 1 ck118 [] (23, [o0, o1], [.inl 0], σ) rfl ?_ ?_
  · exact trivial
  · exact k
theorem b118_23 {d : Nat} {Φ : Option pe_V → pe_H → Prop} {σ : pe_H} {o0 : Option pe_V} {o1 : Option pe_V} {s0 : Int}   (h0 : s0 = 0 ∨ s0 = 1 := by first | assumption | omega) (k : Φ (some (.inl s0)) σ) : pe_X d 118 (23, [o0, o1], [.inl s0], σ) Φ := by
  exact pe_fine 13 ck118 rfl rfl rfl h0 k
-- StepMachines.refusalOfRow(I)I
def T119 : List (Nat × Instr × Nat) := [(0, .iload_n 1, 1), (1, .invokestatic 286, 3), (4, .ifCond .ne 5, 3), (7, .iconst (-1), 1), (8, .ireturn, 1), (9, .aload_n 0, 1), (10, .getfield 31, 3), (13, .iload_n 1, 1), (14, .aaload, 1), (15, .ifnull 5, 3), (18, .iconst 0, 1), (19, .ireturn, 1), (20, .aload_n 0, 1), (21, .getfield 25, 3), (24, .iload_n 1, 1), (25, .aaload, 1), (26, .ifnonnull 8, 3), (29, .bipush (-11), 2), (31, .goto 5, 3), (34, .bipush (-12), 2), (36, .ireturn, 1)]
theorem ck119 : pe_ctx 119 8 false (some .int) 2 T119 := ⟨rfl, rfl, rfl, rfl, by decide +kernel, by decide, by decide⟩
theorem b119_0 {d : Nat} {Φ : Option pe_V → pe_H → Prop} {σ : pe_H} {a0 : Nat} {x1 : Int} (f_a0 : pk_Fs a0 σ := by assumption)   (k : pe_M d 115 [.inl x1] σ (fun r σ' => pe_X d 119 (4, [some (.inr (.inr a0)), some (.inl x1)], r.toList ++ [], σ') Φ)) : pe_X d 119 (0, [some (.inr (.inr a0)), some (.inl x1)], [], σ) Φ := by
  refine pe_blk 0 1 ck119 [] (1, [some (.inr (.inr a0)), some (.inl x1)], [.inl x1], σ) rfl ?_ ?_
  · exact trivial
  · exact pe_cal 1 ck119 rfl rfl rfl trivial k
theorem b119_4 {d : Nat} {Φ : Option pe_V → pe_H → Prop} {σ : pe_H} {a0 : Nat} {x1 : Int} {s0 : Int} (f_a0 : pk_Fs a0 σ := by assumption) (w0 : pe_in s0 := by unfold pe_in; omega)  (k1 : ¬ s0 = 0 → pe_X d 119 (9, [some (.inr (.inr a0)), some (.inl x1)], [], σ) Φ) (k2 : s0 = 0 → pe_X d 119 (7, [some (.inr (.inr a0)), some (.inl x1)], [], σ) Φ) : pe_X d 119 (4, [some (.inr (.inr a0)), some (.inl x1)], [.inl s0], σ) Φ := by
  refine pe_blk 2 1 ck119 [] (cond (decide (¬ (pe_w s0) = 0)) 9 7, [some (.inr (.inr a0)), some (.inl x1)], [], σ) rfl ?_ ?_
  · exact trivial
  · try simp (disch := omega) only [pe_wi w0]
    exact pe_two' k1 k2
theorem b119_7 {d : Nat} {Φ : Option pe_V → pe_H → Prop} {σ : pe_H} {o0 : Option pe_V} {o1 : Option pe_V}    (k : Φ (some (.inl (-1))) σ) : pe_X d 119 (7, [o0, o1], [], σ) Φ := by
  refine pe_blk 3 1 ck119 [] (8, [o0, o1], [.inl (-1)], σ) rfl ?_ ?_
  · exact trivial
  · exact pe_fine 4 ck119 rfl rfl rfl trivial k
theorem b119_9 {d : Nat} {Φ : Option pe_V → pe_H → Prop} {σ : pe_H} {a0 : Nat} {x1 : Int} (f_a0 : pk_Fs a0 σ := by assumption) (w0 : pe_in x1 := by unfold pe_in; omega) (h0 : 0 ≤ x1 := by first | assumption | omega) (h1 : x1 < 8 := by first | assumption | omega) (k1 : (pe_R σ (a0 + 177) x1) = 0 → pe_X d 119 (20, [some (.inr (.inr a0)), some (.inl x1)], [], σ) Φ) (k2 : ¬ ((pe_R σ (a0 + 177) x1) = 0) → pe_X d 119 (18, [some (.inr (.inr a0)), some (.inl x1)], [], σ) Φ) : pe_X d 119 (9, [some (.inr (.inr a0)), some (.inl x1)], [], σ) Φ := by
  refine pe_blk 5 5 ck119 [pe_K σ a0 = 8, 12 ≤ pe_K σ (pe_R σ a0 4) ∧ pe_K σ (pe_R σ a0 4) < 19, 0 ≤ (pe_w x1), (pe_w x1) < pe_L σ (pe_R σ a0 4)] (cond (decide ((pe_R σ (pe_R σ a0 4) (pe_w x1)) = 0)) 20 18, [some (.inr (.inr a0)), some (.inl x1)], [], σ) rfl ?_ ?_
  · first
    | (simp (disch := omega) only [pe_all, pe_wi w0, pe_K_wI, pe_K_wR, pe_L_wI, pe_L_wR, pe_R_nej, pe_R_ner, pe_R_wI, pk_sK f_a0, pk_sK4 f_a0, pk_sL4 f_a0, pk_sR4 f_a0]; done)
    | (simp (disch := omega) only [pe_all, pe_wi w0, pe_K_wI, pe_K_wR, pe_L_wI, pe_L_wR, pe_R_nej, pe_R_ner, pe_R_wI, pk_sK f_a0, pk_sK4 f_a0, pk_sL4 f_a0, pk_sR4 f_a0]; (repeat' apply And.intro) <;> first | assumption | omega | decide)
  · try simp (disch := omega) only [pe_wi w0, pe_K_wI, pe_K_wR, pe_L_wI, pe_L_wR, pe_R_nej, pe_R_ner, pe_R_wI, pk_sK f_a0, pk_sK4 f_a0, pk_sL4 f_a0, pk_sR4 f_a0]
    exact pe_two k1 k2
theorem b119_18 {d : Nat} {Φ : Option pe_V → pe_H → Prop} {σ : pe_H} {o0 : Option pe_V} {o1 : Option pe_V}    (k : Φ (some (.inl 0)) σ) : pe_X d 119 (18, [o0, o1], [], σ) Φ := by
  refine pe_blk 10 1 ck119 [] (19, [o0, o1], [.inl 0], σ) rfl ?_ ?_
  · exact trivial
  · exact pe_fine 11 ck119 rfl rfl rfl trivial k
theorem b119_20 {d : Nat} {Φ : Option pe_V → pe_H → Prop} {σ : pe_H} {a0 : Nat} {x1 : Int} (f_a0 : pk_Fs a0 σ := by assumption) (w0 : pe_in x1 := by unfold pe_in; omega) (h0 : 0 ≤ x1 := by first | assumption | omega) (h1 : x1 < 8 := by first | assumption | omega) (k1 : ¬ (pe_R σ (a0 + 176) x1) = 0 → pe_X d 119 (34, [some (.inr (.inr a0)), some (.inl x1)], [], σ) Φ) (k2 : (pe_R σ (a0 + 176) x1) = 0 → pe_X d 119 (29, [some (.inr (.inr a0)), some (.inl x1)], [], σ) Φ) : pe_X d 119 (20, [some (.inr (.inr a0)), some (.inl x1)], [], σ) Φ := by
  refine pe_blk 12 5 ck119 [pe_K σ a0 = 8, 12 ≤ pe_K σ (pe_R σ a0 3) ∧ pe_K σ (pe_R σ a0 3) < 19, 0 ≤ (pe_w x1), (pe_w x1) < pe_L σ (pe_R σ a0 3)] (cond (decide (¬ (pe_R σ (pe_R σ a0 3) (pe_w x1)) = 0)) 34 29, [some (.inr (.inr a0)), some (.inl x1)], [], σ) rfl ?_ ?_
  · first
    | (simp (disch := omega) only [pe_all, pe_wi w0, pe_K_wI, pe_K_wR, pe_L_wI, pe_L_wR, pe_R_nej, pe_R_ner, pe_R_wI, pk_sK f_a0, pk_sK3 f_a0, pk_sL3 f_a0, pk_sR3 f_a0]; done)
    | (simp (disch := omega) only [pe_all, pe_wi w0, pe_K_wI, pe_K_wR, pe_L_wI, pe_L_wR, pe_R_nej, pe_R_ner, pe_R_wI, pk_sK f_a0, pk_sK3 f_a0, pk_sL3 f_a0, pk_sR3 f_a0]; (repeat' apply And.intro) <;> first | assumption | omega | decide)
  · try simp (disch := omega) only [pe_wi w0, pe_K_wI, pe_K_wR, pe_L_wI, pe_L_wR, pe_R_nej, pe_R_ner, pe_R_wI, pk_sK f_a0, pk_sK3 f_a0, pk_sL3 f_a0, pk_sR3 f_a0]
    exact pe_two' k1 k2
theorem b119_29 {d : Nat} {Φ : Option pe_V → pe_H → Prop} {σ : pe_H} {o0 : Option pe_V} {o1 : Option pe_V}    (k : pe_X d 119 (36, [o0, o1], [.inl (-11)], σ) Φ) : pe_X d 119 (29, [o0, o1], [], σ) Φ := by
  refine pe_blk 17 2 ck119 [] (36, [o0, o1], [.inl (-11)], σ) rfl ?_ ?_
  · exact trivial
  · exact k
theorem b119_34 {d : Nat} {Φ : Option pe_V → pe_H → Prop} {σ : pe_H} {o0 : Option pe_V} {o1 : Option pe_V}    (k : pe_X d 119 (36, [o0, o1], [.inl (-12)], σ) Φ) : pe_X d 119 (34, [o0, o1], [], σ) Φ := by
  refine pe_blk 19 1 ck119 [] (36, [o0, o1], [.inl (-12)], σ) rfl ?_ ?_
  · exact trivial
  · exact k
theorem b119_36 {d : Nat} {Φ : Option pe_V → pe_H → Prop} {σ : pe_H} {o0 : Option pe_V} {o1 : Option pe_V} {s0 : Int}    (k : Φ (some (.inl s0)) σ) : pe_X d 119 (36, [o0, o1], [.inl s0], σ) Φ := by
  exact pe_fine 20 ck119 rfl rfl rfl trivial k
-- StepMachines.refusalOfManner(I)I
def T120 : List (Nat × Instr × Nat) := [(0, .iload_n 1, 1), (1, .invokestatic 286, 3), (4, .ifCond .ne 5, 3), (7, .iconst (-1), 1), (8, .ireturn, 1), (9, .aload_n 0, 1), (10, .getfield 25, 3), (13, .iload_n 1, 1), (14, .aaload, 1), (15, .ifnull 5, 3), (18, .iconst 0, 1), (19, .ireturn, 1), (20, .aload_n 0, 1), (21, .getfield 31, 3), (24, .iload_n 1, 1), (25, .aaload, 1), (26, .ifnonnull 8, 3), (29, .bipush (-11), 2), (31, .goto 5, 3), (34, .bipush (-12), 2), (36, .ireturn, 1)]
theorem ck120 : pe_ctx 120 8 false (some .int) 2 T120 := ⟨rfl, rfl, rfl, rfl, by decide +kernel, by decide, by decide⟩
theorem b120_0 {d : Nat} {Φ : Option pe_V → pe_H → Prop} {σ : pe_H} {a0 : Nat} {x1 : Int} (f_a0 : pk_Fs a0 σ := by assumption)   (k : pe_M d 115 [.inl x1] σ (fun r σ' => pe_X d 120 (4, [some (.inr (.inr a0)), some (.inl x1)], r.toList ++ [], σ') Φ)) : pe_X d 120 (0, [some (.inr (.inr a0)), some (.inl x1)], [], σ) Φ := by
  refine pe_blk 0 1 ck120 [] (1, [some (.inr (.inr a0)), some (.inl x1)], [.inl x1], σ) rfl ?_ ?_
  · exact trivial
  · exact pe_cal 1 ck120 rfl rfl rfl trivial k
theorem b120_4 {d : Nat} {Φ : Option pe_V → pe_H → Prop} {σ : pe_H} {a0 : Nat} {x1 : Int} {s0 : Int} (f_a0 : pk_Fs a0 σ := by assumption) (w0 : pe_in s0 := by unfold pe_in; omega)  (k1 : ¬ s0 = 0 → pe_X d 120 (9, [some (.inr (.inr a0)), some (.inl x1)], [], σ) Φ) (k2 : s0 = 0 → pe_X d 120 (7, [some (.inr (.inr a0)), some (.inl x1)], [], σ) Φ) : pe_X d 120 (4, [some (.inr (.inr a0)), some (.inl x1)], [.inl s0], σ) Φ := by
  refine pe_blk 2 1 ck120 [] (cond (decide (¬ (pe_w s0) = 0)) 9 7, [some (.inr (.inr a0)), some (.inl x1)], [], σ) rfl ?_ ?_
  · exact trivial
  · try simp (disch := omega) only [pe_wi w0]
    exact pe_two' k1 k2
theorem b120_7 {d : Nat} {Φ : Option pe_V → pe_H → Prop} {σ : pe_H} {o0 : Option pe_V} {o1 : Option pe_V}    (k : Φ (some (.inl (-1))) σ) : pe_X d 120 (7, [o0, o1], [], σ) Φ := by
  refine pe_blk 3 1 ck120 [] (8, [o0, o1], [.inl (-1)], σ) rfl ?_ ?_
  · exact trivial
  · exact pe_fine 4 ck120 rfl rfl rfl trivial k
theorem b120_9 {d : Nat} {Φ : Option pe_V → pe_H → Prop} {σ : pe_H} {a0 : Nat} {x1 : Int} (f_a0 : pk_Fs a0 σ := by assumption) (w0 : pe_in x1 := by unfold pe_in; omega) (h0 : 0 ≤ x1 := by first | assumption | omega) (h1 : x1 < 8 := by first | assumption | omega) (k1 : (pe_R σ (a0 + 176) x1) = 0 → pe_X d 120 (20, [some (.inr (.inr a0)), some (.inl x1)], [], σ) Φ) (k2 : ¬ ((pe_R σ (a0 + 176) x1) = 0) → pe_X d 120 (18, [some (.inr (.inr a0)), some (.inl x1)], [], σ) Φ) : pe_X d 120 (9, [some (.inr (.inr a0)), some (.inl x1)], [], σ) Φ := by
  refine pe_blk 5 5 ck120 [pe_K σ a0 = 8, 12 ≤ pe_K σ (pe_R σ a0 3) ∧ pe_K σ (pe_R σ a0 3) < 19, 0 ≤ (pe_w x1), (pe_w x1) < pe_L σ (pe_R σ a0 3)] (cond (decide ((pe_R σ (pe_R σ a0 3) (pe_w x1)) = 0)) 20 18, [some (.inr (.inr a0)), some (.inl x1)], [], σ) rfl ?_ ?_
  · first
    | (simp (disch := omega) only [pe_all, pe_wi w0, pe_K_wI, pe_K_wR, pe_L_wI, pe_L_wR, pe_R_nej, pe_R_ner, pe_R_wI, pk_sK f_a0, pk_sK3 f_a0, pk_sL3 f_a0, pk_sR3 f_a0]; done)
    | (simp (disch := omega) only [pe_all, pe_wi w0, pe_K_wI, pe_K_wR, pe_L_wI, pe_L_wR, pe_R_nej, pe_R_ner, pe_R_wI, pk_sK f_a0, pk_sK3 f_a0, pk_sL3 f_a0, pk_sR3 f_a0]; (repeat' apply And.intro) <;> first | assumption | omega | decide)
  · try simp (disch := omega) only [pe_wi w0, pe_K_wI, pe_K_wR, pe_L_wI, pe_L_wR, pe_R_nej, pe_R_ner, pe_R_wI, pk_sK f_a0, pk_sK3 f_a0, pk_sL3 f_a0, pk_sR3 f_a0]
    exact pe_two k1 k2
theorem b120_18 {d : Nat} {Φ : Option pe_V → pe_H → Prop} {σ : pe_H} {o0 : Option pe_V} {o1 : Option pe_V}    (k : Φ (some (.inl 0)) σ) : pe_X d 120 (18, [o0, o1], [], σ) Φ := by
  refine pe_blk 10 1 ck120 [] (19, [o0, o1], [.inl 0], σ) rfl ?_ ?_
  · exact trivial
  · exact pe_fine 11 ck120 rfl rfl rfl trivial k
theorem b120_20 {d : Nat} {Φ : Option pe_V → pe_H → Prop} {σ : pe_H} {a0 : Nat} {x1 : Int} (f_a0 : pk_Fs a0 σ := by assumption) (w0 : pe_in x1 := by unfold pe_in; omega) (h0 : 0 ≤ x1 := by first | assumption | omega) (h1 : x1 < 8 := by first | assumption | omega) (k1 : ¬ (pe_R σ (a0 + 177) x1) = 0 → pe_X d 120 (34, [some (.inr (.inr a0)), some (.inl x1)], [], σ) Φ) (k2 : (pe_R σ (a0 + 177) x1) = 0 → pe_X d 120 (29, [some (.inr (.inr a0)), some (.inl x1)], [], σ) Φ) : pe_X d 120 (20, [some (.inr (.inr a0)), some (.inl x1)], [], σ) Φ := by
  refine pe_blk 12 5 ck120 [pe_K σ a0 = 8, 12 ≤ pe_K σ (pe_R σ a0 4) ∧ pe_K σ (pe_R σ a0 4) < 19, 0 ≤ (pe_w x1), (pe_w x1) < pe_L σ (pe_R σ a0 4)] (cond (decide (¬ (pe_R σ (pe_R σ a0 4) (pe_w x1)) = 0)) 34 29, [some (.inr (.inr a0)), some (.inl x1)], [], σ) rfl ?_ ?_
  · first
    | (simp (disch := omega) only [pe_all, pe_wi w0, pe_K_wI, pe_K_wR, pe_L_wI, pe_L_wR, pe_R_nej, pe_R_ner, pe_R_wI, pk_sK f_a0, pk_sK4 f_a0, pk_sL4 f_a0, pk_sR4 f_a0]; done)
    | (simp (disch := omega) only [pe_all, pe_wi w0, pe_K_wI, pe_K_wR, pe_L_wI, pe_L_wR, pe_R_nej, pe_R_ner, pe_R_wI, pk_sK f_a0, pk_sK4 f_a0, pk_sL4 f_a0, pk_sR4 f_a0]; (repeat' apply And.intro) <;> first | assumption | omega | decide)
  · try simp (disch := omega) only [pe_wi w0, pe_K_wI, pe_K_wR, pe_L_wI, pe_L_wR, pe_R_nej, pe_R_ner, pe_R_wI, pk_sK f_a0, pk_sK4 f_a0, pk_sL4 f_a0, pk_sR4 f_a0]
    exact pe_two' k1 k2
theorem b120_29 {d : Nat} {Φ : Option pe_V → pe_H → Prop} {σ : pe_H} {o0 : Option pe_V} {o1 : Option pe_V}    (k : pe_X d 120 (36, [o0, o1], [.inl (-11)], σ) Φ) : pe_X d 120 (29, [o0, o1], [], σ) Φ := by
  refine pe_blk 17 2 ck120 [] (36, [o0, o1], [.inl (-11)], σ) rfl ?_ ?_
  · exact trivial
  · exact k
theorem b120_34 {d : Nat} {Φ : Option pe_V → pe_H → Prop} {σ : pe_H} {o0 : Option pe_V} {o1 : Option pe_V}    (k : pe_X d 120 (36, [o0, o1], [.inl (-12)], σ) Φ) : pe_X d 120 (34, [o0, o1], [], σ) Φ := by
  refine pe_blk 19 1 ck120 [] (36, [o0, o1], [.inl (-12)], σ) rfl ?_ ?_
  · exact trivial
  · exact k
theorem b120_36 {d : Nat} {Φ : Option pe_V → pe_H → Prop} {σ : pe_H} {o0 : Option pe_V} {o1 : Option pe_V} {s0 : Int}    (k : Φ (some (.inl s0)) σ) : pe_X d 120 (36, [o0, o1], [.inl s0], σ) Φ := by
  exact pe_fine 20 ck120 rfl rfl rfl trivial k
-- StepMachines.heldTold(I)I
def T121 : List (Nat × Instr × Nat) := [(0, .iload_n 1, 1), (1, .bipush (-2), 2), (3, .if_icmp .ne 5, 3), (6, .iconst 0, 1), (7, .ireturn, 1), (8, .iload_n 1, 1), (9, .iconst (-1), 1), (10, .if_icmp .ne 7, 3), (13, .iconst 1, 1), (14, .goto 14, 3), (17, .bipush 10, 2), (19, .aload_n 0, 1), (20, .getfield 10, 3), (23, .iload_n 1, 1), (24, .invokevirtual 170, 3), (27, .iadd, 1), (28, .ireturn, 1)]
theorem ck121 : pe_ctx 121 8 false (some .int) 2 T121 := ⟨rfl, rfl, rfl, rfl, by decide +kernel, by decide, by decide⟩
theorem b121_0 {d : Nat} {Φ : Option pe_V → pe_H → Prop} {σ : pe_H} {a0 : Nat} {x1 : Int} (f_a0 : pk_Fs a0 σ := by assumption) (w0 : pe_in x1 := by unfold pe_in; omega)  (k1 : ¬ x1 = (-2) → pe_X d 121 (8, [some (.inr (.inr a0)), some (.inl x1)], [], σ) Φ) (k2 : x1 = (-2) → pe_X d 121 (6, [some (.inr (.inr a0)), some (.inl x1)], [], σ) Φ) : pe_X d 121 (0, [some (.inr (.inr a0)), some (.inl x1)], [], σ) Φ := by
  refine pe_blk 0 3 ck121 [] (cond (decide (¬ (pe_w x1) = (pe_w (-2)))) 8 6, [some (.inr (.inr a0)), some (.inl x1)], [], σ) rfl ?_ ?_
  · exact trivial
  · try simp (disch := omega) only [pe_wi w0, pe_wi (x := (-2)) ⟨by decide, by decide⟩]
    exact pe_two' k1 k2
theorem b121_6 {d : Nat} {Φ : Option pe_V → pe_H → Prop} {σ : pe_H} {o0 : Option pe_V} {o1 : Option pe_V}    (k : Φ (some (.inl 0)) σ) : pe_X d 121 (6, [o0, o1], [], σ) Φ := by
  refine pe_blk 3 1 ck121 [] (7, [o0, o1], [.inl 0], σ) rfl ?_ ?_
  · exact trivial
  · exact pe_fine 4 ck121 rfl rfl rfl trivial k
theorem b121_8 {d : Nat} {Φ : Option pe_V → pe_H → Prop} {σ : pe_H} {a0 : Nat} {x1 : Int} (f_a0 : pk_Fs a0 σ := by assumption) (w0 : pe_in x1 := by unfold pe_in; omega)  (k1 : ¬ x1 = (-1) → pe_X d 121 (17, [some (.inr (.inr a0)), some (.inl x1)], [], σ) Φ) (k2 : x1 = (-1) → pe_X d 121 (13, [some (.inr (.inr a0)), some (.inl x1)], [], σ) Φ) : pe_X d 121 (8, [some (.inr (.inr a0)), some (.inl x1)], [], σ) Φ := by
  refine pe_blk 5 3 ck121 [] (cond (decide (¬ (pe_w x1) = (pe_w (-1)))) 17 13, [some (.inr (.inr a0)), some (.inl x1)], [], σ) rfl ?_ ?_
  · exact trivial
  · try simp (disch := omega) only [pe_wi w0, pe_wi (x := (-1)) ⟨by decide, by decide⟩]
    exact pe_two' k1 k2
theorem b121_13 {d : Nat} {Φ : Option pe_V → pe_H → Prop} {σ : pe_H} {o0 : Option pe_V} {o1 : Option pe_V}    (k : pe_X d 121 (28, [o0, o1], [.inl 1], σ) Φ) : pe_X d 121 (13, [o0, o1], [], σ) Φ := by
  refine pe_blk 8 2 ck121 [] (28, [o0, o1], [.inl 1], σ) rfl ?_ ?_
  · exact trivial
  · exact k
theorem b121_17 {d : Nat} {Φ : Option pe_V → pe_H → Prop} {σ : pe_H} {a0 : Nat} {x1 : Int} (f_a0 : pk_Fs a0 σ := by assumption)   (k : pe_M d 21 [.inr (.inr (a0 + 1)), .inl x1] σ (fun r σ' => pe_X d 121 (27, [some (.inr (.inr a0)), some (.inl x1)], r.toList ++ [.inl 10], σ') Φ)) : pe_X d 121 (17, [some (.inr (.inr a0)), some (.inl x1)], [], σ) Φ := by
  refine pe_blk 10 4 ck121 [pe_K σ a0 = 8] (24, [some (.inr (.inr a0)), some (.inl x1)], [.inl x1, .inr (.inr (pe_R σ a0 0)), .inl 10], σ) rfl ?_ ?_
  · first
    | (simp (disch := omega) only [pe_all, pe_K_wI, pe_K_wR, pe_R_nej, pe_R_ner, pe_R_wI, pk_mK (pk_sM0 f_a0), pk_sK f_a0, pk_sR0 f_a0]; done)
    | (simp (disch := omega) only [pe_all, pe_K_wI, pe_K_wR, pe_R_nej, pe_R_ner, pe_R_wI, pk_mK (pk_sM0 f_a0), pk_sK f_a0, pk_sR0 f_a0]; (repeat' apply And.intro) <;> first | assumption | omega | decide)
  · try simp (disch := omega) only [pe_K_wI, pe_K_wR, pe_R_nej, pe_R_ner, pe_R_wI, pk_mK (pk_sM0 f_a0), pk_sK f_a0, pk_sR0 f_a0]
    have hrc : pe_K σ (a0 + 1) = 2 := by first | assumption | (simp (disch := omega) only [pe_K_wI, pe_K_wR, pe_R_nej, pe_R_ner, pe_R_wI, pk_mK (pk_sM0 f_a0), pk_sK f_a0, pk_sR0 f_a0]; done) | (simp (disch := omega) only [pe_K_wI, pe_K_wR, pe_R_nej, pe_R_ner, pe_R_wI, pk_mK (pk_sM0 f_a0), pk_sK f_a0, pk_sR0 f_a0]; assumption)
    exact pe_cal 14 ck121 rfl rfl rfl ⟨hrc, by decide⟩ k
theorem b121_27 {d : Nat} {Φ : Option pe_V → pe_H → Prop} {σ : pe_H} {o0 : Option pe_V} {o1 : Option pe_V} {s0 : Int} {s1 : Int}    (k : pe_X d 121 (28, [o0, o1], [.inl (s0 + s1)], σ) Φ) : pe_X d 121 (27, [o0, o1], [.inl s1, .inl s0], σ) Φ := by
  refine pe_blk 15 1 ck121 [] (28, [o0, o1], [.inl (s0 + s1)], σ) rfl ?_ ?_
  · exact trivial
  · exact k
theorem b121_28 {d : Nat} {Φ : Option pe_V → pe_H → Prop} {σ : pe_H} {o0 : Option pe_V} {o1 : Option pe_V} {s0 : Int}    (k : Φ (some (.inl s0)) σ) : pe_X d 121 (28, [o0, o1], [.inl s0], σ) Φ := by
  exact pe_fine 16 ck121 rfl rfl rfl trivial k
-- StepMachines.mindOfNow()LStepMachines$Machine;
def T122 : List (Nat × Instr × Nat) := [(0, .aload_n 0, 1), (1, .getfield 19, 3), (4, .iconst 0, 1), (5, .aaload, 1), (6, .aload_n 0, 1), (7, .getfield 10, 3), (10, .invokevirtual 77, 3), (13, .aload_n 0, 1), (14, .getfield 19, 3), (17, .iconst 0, 1), (18, .aaload, 1), (19, .areturn, 1)]
theorem ck122 : pe_ctx 122 8 false (some (.object "StepMachines$Machine")) 1 T122 := ⟨rfl, rfl, rfl, rfl, by decide +kernel, by decide, by decide⟩
theorem b122_0 {d : Nat} {Φ : Option pe_V → pe_H → Prop} {σ : pe_H} {a0 : Nat} (f_a0 : pk_Fs a0 σ := by assumption)   (k : pe_M d 15 [.inr (.inr (pk_m a0 0)), .inr (.inr (a0 + 1))] σ (fun r σ' => pe_X d 122 (13, [some (.inr (.inr a0))], r.toList ++ [], σ') Φ)) : pe_X d 122 (0, [some (.inr (.inr a0))], [], σ) Φ := by
  refine pe_blk 0 6 ck122 [pe_K σ a0 = 8, 12 ≤ pe_K σ (pe_R σ a0 2) ∧ pe_K σ (pe_R σ a0 2) < 19, 0 ≤ (pe_w 0), (pe_w 0) < pe_L σ (pe_R σ a0 2), pe_K σ a0 = 8] (10, [some (.inr (.inr a0))], [.inr (.inr (pe_R σ a0 0)), .inr (.inr (pe_R σ (pe_R σ a0 2) (pe_w 0)))], σ) rfl ?_ ?_
  · first
    | (simp (disch := omega) only [pe_all, pe_wi (x := 0) ⟨by decide, by decide⟩, pe_K_wI, pe_K_wR, pe_L_wI, pe_L_wR, pe_R_nej, pe_R_ner, pe_R_wI, pk_mK (pk_sMi f_a0 (i := 0) (by omega) (by omega)), pk_sE f_a0 (i := 0) (by omega) (by omega), pk_sK f_a0, pk_sK2 f_a0, pk_sL2 f_a0, pk_sR0 f_a0, pk_sR2 f_a0]; done)
    | (simp (disch := omega) only [pe_all, pe_wi (x := 0) ⟨by decide, by decide⟩, pe_K_wI, pe_K_wR, pe_L_wI, pe_L_wR, pe_R_nej, pe_R_ner, pe_R_wI, pk_mK (pk_sMi f_a0 (i := 0) (by omega) (by omega)), pk_sE f_a0 (i := 0) (by omega) (by omega), pk_sK f_a0, pk_sK2 f_a0, pk_sL2 f_a0, pk_sR0 f_a0, pk_sR2 f_a0]; (repeat' apply And.intro) <;> first | assumption | omega | decide)
  · try simp (disch := omega) only [pe_wi (x := 0) ⟨by decide, by decide⟩, pe_K_wI, pe_K_wR, pe_L_wI, pe_L_wR, pe_R_nej, pe_R_ner, pe_R_wI, pk_mK (pk_sMi f_a0 (i := 0) (by omega) (by omega)), pk_sE f_a0 (i := 0) (by omega) (by omega), pk_sK f_a0, pk_sK2 f_a0, pk_sL2 f_a0, pk_sR0 f_a0, pk_sR2 f_a0]
    have hrc : pe_K σ (pk_m a0 0) = 2 := by first | assumption | (simp (disch := omega) only [pe_wi (x := 0) ⟨by decide, by decide⟩, pe_K_wI, pe_K_wR, pe_L_wI, pe_L_wR, pe_R_nej, pe_R_ner, pe_R_wI, pk_mK (pk_sMi f_a0 (i := 0) (by omega) (by omega)), pk_sE f_a0 (i := 0) (by omega) (by omega), pk_sK f_a0, pk_sK2 f_a0, pk_sL2 f_a0, pk_sR0 f_a0, pk_sR2 f_a0]; done) | (simp (disch := omega) only [pe_wi (x := 0) ⟨by decide, by decide⟩, pe_K_wI, pe_K_wR, pe_L_wI, pe_L_wR, pe_R_nej, pe_R_ner, pe_R_wI, pk_mK (pk_sMi f_a0 (i := 0) (by omega) (by omega)), pk_sE f_a0 (i := 0) (by omega) (by omega), pk_sK f_a0, pk_sK2 f_a0, pk_sL2 f_a0, pk_sR0 f_a0, pk_sR2 f_a0]; assumption)
    exact pe_cal 6 ck122 rfl rfl rfl ⟨hrc, by decide⟩ k
theorem b122_13 {d : Nat} {Φ : Option pe_V → pe_H → Prop} {σ : pe_H} {a0 : Nat} (f_a0 : pk_Fs a0 σ := by assumption)   (k : Φ (some (.inr (.inr (pk_m a0 0)))) σ) : pe_X d 122 (13, [some (.inr (.inr a0))], [], σ) Φ := by
  refine pe_blk 7 4 ck122 [pe_K σ a0 = 8, 12 ≤ pe_K σ (pe_R σ a0 2) ∧ pe_K σ (pe_R σ a0 2) < 19, 0 ≤ (pe_w 0), (pe_w 0) < pe_L σ (pe_R σ a0 2)] (19, [some (.inr (.inr a0))], [.inr (.inr (pe_R σ (pe_R σ a0 2) (pe_w 0)))], σ) rfl ?_ ?_
  · first
    | (simp (disch := omega) only [pe_all, pe_wi (x := 0) ⟨by decide, by decide⟩, pe_K_wI, pe_K_wR, pe_L_wI, pe_L_wR, pe_R_nej, pe_R_ner, pe_R_wI, pk_sE f_a0 (i := 0) (by omega) (by omega), pk_sK f_a0, pk_sK2 f_a0, pk_sL2 f_a0, pk_sR2 f_a0]; done)
    | (simp (disch := omega) only [pe_all, pe_wi (x := 0) ⟨by decide, by decide⟩, pe_K_wI, pe_K_wR, pe_L_wI, pe_L_wR, pe_R_nej, pe_R_ner, pe_R_wI, pk_sE f_a0 (i := 0) (by omega) (by omega), pk_sK f_a0, pk_sK2 f_a0, pk_sL2 f_a0, pk_sR2 f_a0]; (repeat' apply And.intro) <;> first | assumption | omega | decide)
  · try simp (disch := omega) only [pe_wi (x := 0) ⟨by decide, by decide⟩, pe_K_wI, pe_K_wR, pe_L_wI, pe_L_wR, pe_R_nej, pe_R_ner, pe_R_wI, pk_sE f_a0 (i := 0) (by omega) (by omega), pk_sK f_a0, pk_sK2 f_a0, pk_sL2 f_a0, pk_sR2 f_a0]
    exact pe_fine 11 ck122 rfl rfl rfl trivial k
-- StepMachines.othersDone(II)I
def T123 : List (Nat × Instr × Nat) := [(0, .aload_n 0, 1), (1, .invokevirtual 66, 3), (4, .astore_n 3, 1), (5, .aload_n 3, 1), (6, .iload_n 1, 1), (7, .invokevirtual 202, 3), (10, .aload_n 3, 1), (11, .iload_n 2, 1), (12, .invokevirtual 223, 3), (15, .aload_n 3, 1), (16, .invokevirtual 232, 3), (19, .iconst 1, 1), (20, .iload_n 1, 1), (21, .ishl, 1), (22, .iconst (-1), 1), (23, .ixor, 1), (24, .iand, 1), (25, .invokestatic 218, 3), (28, .ireturn, 1)]
theorem ck123 : pe_ctx 123 8 false (some .int) 4 T123 := ⟨rfl, rfl, rfl, rfl, by decide +kernel, by decide, by decide⟩
theorem b123_0 {d : Nat} {Φ : Option pe_V → pe_H → Prop} {σ : pe_H} {a0 : Nat} {x1 : Int} {x2 : Int} {o3 : Option pe_V} (f_a0 : pk_Fs a0 σ := by assumption)   (k : pe_M d 122 [.inr (.inr a0)] σ (fun r σ' => pe_X d 123 (4, [some (.inr (.inr a0)), some (.inl x1), some (.inl x2), o3], r.toList ++ [], σ') Φ)) : pe_X d 123 (0, [some (.inr (.inr a0)), some (.inl x1), some (.inl x2), o3], [], σ) Φ := by
  refine pe_blk 0 1 ck123 [] (1, [some (.inr (.inr a0)), some (.inl x1), some (.inl x2), o3], [.inr (.inr a0)], σ) rfl ?_ ?_
  · exact trivial
  · try simp (disch := omega) only [pe_K_wI, pe_K_wR, pk_sK f_a0]
    have hrc : pe_K σ a0 = 8 := by first | assumption | (simp (disch := omega) only [pe_K_wI, pe_K_wR, pk_sK f_a0]; done) | (simp (disch := omega) only [pe_K_wI, pe_K_wR, pk_sK f_a0]; assumption)
    exact pe_cal 1 ck123 rfl rfl rfl ⟨hrc, by decide⟩ k
theorem b123_4 {d : Nat} {Φ : Option pe_V → pe_H → Prop} {σ : pe_H} {o0 : Option pe_V} {x1 : Int} {x2 : Int} {o3 : Option pe_V} {b0 : Nat} (f_b0 : pk_Fm b0 σ := by assumption)   (k : pe_M d 26 [.inr (.inr b0), .inl x1] σ (fun r σ' => pe_X d 123 (10, [o0, some (.inl x1), some (.inl x2), some (.inr (.inr b0))], r.toList ++ [], σ') Φ)) : pe_X d 123 (4, [o0, some (.inl x1), some (.inl x2), o3], [.inr (.inr b0)], σ) Φ := by
  refine pe_blk 2 3 ck123 [] (7, [o0, some (.inl x1), some (.inl x2), some (.inr (.inr b0))], [.inl x1, .inr (.inr b0)], σ) rfl ?_ ?_
  · exact trivial
  · try simp (disch := omega) only [pe_K_wI, pe_K_wR, pk_mK f_b0]
    have hrc : pe_K σ b0 = 2 := by first | assumption | (simp (disch := omega) only [pe_K_wI, pe_K_wR, pk_mK f_b0]; done) | (simp (disch := omega) only [pe_K_wI, pe_K_wR, pk_mK f_b0]; assumption)
    exact pe_cal 5 ck123 rfl rfl rfl ⟨hrc, by decide⟩ k
theorem b123_10 {d : Nat} {Φ : Option pe_V → pe_H → Prop} {σ : pe_H} {o0 : Option pe_V} {x1 : Int} {x2 : Int} {a3 : Nat} (f_a3 : pk_Fm a3 σ := by assumption)   (k : pe_M d 27 [.inr (.inr a3), .inl x2] σ (fun r σ' => pe_X d 123 (15, [o0, some (.inl x1), some (.inl x2), some (.inr (.inr a3))], r.toList ++ [], σ') Φ)) : pe_X d 123 (10, [o0, some (.inl x1), some (.inl x2), some (.inr (.inr a3))], [], σ) Φ := by
  refine pe_blk 6 2 ck123 [] (12, [o0, some (.inl x1), some (.inl x2), some (.inr (.inr a3))], [.inl x2, .inr (.inr a3)], σ) rfl ?_ ?_
  · exact trivial
  · try simp (disch := omega) only [pe_K_wI, pe_K_wR, pk_mK f_a3]
    have hrc : pe_K σ a3 = 2 := by first | assumption | (simp (disch := omega) only [pe_K_wI, pe_K_wR, pk_mK f_a3]; done) | (simp (disch := omega) only [pe_K_wI, pe_K_wR, pk_mK f_a3]; assumption)
    exact pe_cal 8 ck123 rfl rfl rfl ⟨hrc, by decide⟩ k
theorem b123_15 {d : Nat} {Φ : Option pe_V → pe_H → Prop} {σ : pe_H} {o0 : Option pe_V} {x1 : Int} {o2 : Option pe_V} {a3 : Nat} (f_a3 : pk_Fm a3 σ := by assumption)   (k : pe_M d 18 [.inr (.inr a3)] σ (fun r σ' => pe_X d 123 (19, [o0, some (.inl x1), o2, some (.inr (.inr a3))], r.toList ++ [], σ') Φ)) : pe_X d 123 (15, [o0, some (.inl x1), o2, some (.inr (.inr a3))], [], σ) Φ := by
  refine pe_blk 9 1 ck123 [] (16, [o0, some (.inl x1), o2, some (.inr (.inr a3))], [.inr (.inr a3)], σ) rfl ?_ ?_
  · exact trivial
  · try simp (disch := omega) only [pe_K_wI, pe_K_wR, pk_mK f_a3]
    have hrc : pe_K σ a3 = 2 := by first | assumption | (simp (disch := omega) only [pe_K_wI, pe_K_wR, pk_mK f_a3]; done) | (simp (disch := omega) only [pe_K_wI, pe_K_wR, pk_mK f_a3]; assumption)
    exact pe_cal 10 ck123 rfl rfl rfl ⟨hrc, by decide⟩ k
theorem b123_19 {d : Nat} {Φ : Option pe_V → pe_H → Prop} {σ : pe_H} {o0 : Option pe_V} {x1 : Int} {o2 : Option pe_V} {o3 : Option pe_V} {s0 : Int}    (k : pe_M d 245 [.inl (pe_and s0 (pe_xor (pe_shl 1 x1) (-1)))] σ (fun r σ' => pe_X d 123 (28, [o0, some (.inl x1), o2, o3], r.toList ++ [], σ') Φ)) : pe_X d 123 (19, [o0, some (.inl x1), o2, o3], [.inl s0], σ) Φ := by
  refine pe_blk 11 6 ck123 [] (25, [o0, some (.inl x1), o2, o3], [.inl (pe_and s0 (pe_xor (pe_shl 1 x1) (-1)))], σ) rfl ?_ ?_
  · exact trivial
  · exact pe_cal 17 ck123 rfl rfl rfl trivial k
theorem b123_28 {d : Nat} {Φ : Option pe_V → pe_H → Prop} {σ : pe_H} {o0 : Option pe_V} {o1 : Option pe_V} {o2 : Option pe_V} {o3 : Option pe_V} {s0 : Int}    (k : Φ (some (.inl s0)) σ) : pe_X d 123 (28, [o0, o1, o2, o3], [.inl s0], σ) Φ := by
  exact pe_fine 18 ck123 rfl rfl rfl trivial k
-- StepMachines.yieldsAll(ILStepMachines$Row;)Z
def T124 : List (Nat × Instr × Nat) := [(0, .aload_n 0, 1), (1, .invokevirtual 66, 3), (4, .astore_n 3, 1), (5, .aload_n 3, 1), (6, .iload_n 1, 1), (7, .aload_n 0, 1), (8, .getfield 38, 3), (11, .invokevirtual 103, 3), (14, .istore 4, 2), (16, .aload_n 3, 1), (17, .getfield 110, 3), (20, .iload 4, 2), (22, .aaload, 1), (23, .astore 5, 2), (25, .aload_n 2, 1), (26, .invokevirtual 277, 3), (29, .istore 6, 2), (31, .iconst 0, 1), (32, .istore 7, 2), (34, .iload 7, 2), (36, .aload_n 2, 1), (37, .invokevirtual 272, 3), (40, .if_icmp .ge 54, 3), (43, .aload_n 3, 1), (44, .iload 4, 2), (46, .iconst 0, 1), (47, .invokevirtual 193, 3), (50, .aload 5, 2), (52, .getfield 196, 3), (55, .iconst 2, 1), (56, .if_icmp .eq 5, 3), (59, .iconst 0, 1), (60, .ireturn, 1), (61, .aload_n 2, 1), (62, .iload 7, 2), (64, .invokevirtual 274, 3), (67, .iload 6, 2), (69, .if_icmp .eq 19, 3), (72, .aload_n 2, 1), (73, .iload 7, 2), (75, .invokevirtual 274, 3), (78, .aload 5, 2), (80, .getfield 240, 3), (83, .if_icmp .eq 5, 3), (86, .iconst 0, 1), (87, .ireturn, 1), (88, .iinc 7 1, 3), (91, .goto (-57), 3), (94, .iconst 1, 1), (95, .ireturn, 1)]
theorem ck124 : pe_ctx 124 8 false (some .boolean) 8 T124 := ⟨rfl, rfl, rfl, rfl, by decide +kernel, by decide, by decide⟩
theorem b124_0 {d : Nat} {Φ : Option pe_V → pe_H → Prop} {σ : pe_H} {a0 : Nat} {x1 : Int} {a2 : Nat} {o3 : Option pe_V} {o4 : Option pe_V} {o5 : Option pe_V} {o6 : Option pe_V} {o7 : Option pe_V} (f_a0 : pk_Fs a0 σ := by assumption)   (k : pe_M d 122 [.inr (.inr a0)] σ (fun r σ' => pe_X d 124 (4, [some (.inr (.inr a0)), some (.inl x1), some (.inr (.inr a2)), o3, o4, o5, o6, o7], r.toList ++ [], σ') Φ)) : pe_X d 124 (0, [some (.inr (.inr a0)), some (.inl x1), some (.inr (.inr a2)), o3, o4, o5, o6, o7], [], σ) Φ := by
  refine pe_blk 0 1 ck124 [] (1, [some (.inr (.inr a0)), some (.inl x1), some (.inr (.inr a2)), o3, o4, o5, o6, o7], [.inr (.inr a0)], σ) rfl ?_ ?_
  · exact trivial
  · try simp (disch := omega) only [pe_K_wI, pe_K_wR, pk_sK f_a0]
    have hrc : pe_K σ a0 = 8 := by first | assumption | (simp (disch := omega) only [pe_K_wI, pe_K_wR, pk_sK f_a0]; done) | (simp (disch := omega) only [pe_K_wI, pe_K_wR, pk_sK f_a0]; assumption)
    exact pe_cal 1 ck124 rfl rfl rfl ⟨hrc, by decide⟩ k
theorem b124_4 {d : Nat} {Φ : Option pe_V → pe_H → Prop} {σ : pe_H} {a0 : Nat} {x1 : Int} {a2 : Nat} {o3 : Option pe_V} {o4 : Option pe_V} {o5 : Option pe_V} {o6 : Option pe_V} {o7 : Option pe_V} {b0 : Nat} (f_a0 : pk_Fs a0 σ := by assumption) (f_b0 : pk_Fm b0 σ := by assumption)   (k : pe_M d 24 [.inr (.inr b0), .inl x1, .inr (.inr (a0 + 178))] σ (fun r σ' => pe_X d 124 (14, [some (.inr (.inr a0)), some (.inl x1), some (.inr (.inr a2)), some (.inr (.inr b0)), o4, o5, o6, o7], r.toList ++ [], σ') Φ)) : pe_X d 124 (4, [some (.inr (.inr a0)), some (.inl x1), some (.inr (.inr a2)), o3, o4, o5, o6, o7], [.inr (.inr b0)], σ) Φ := by
  refine pe_blk 2 5 ck124 [pe_K σ a0 = 8] (11, [some (.inr (.inr a0)), some (.inl x1), some (.inr (.inr a2)), some (.inr (.inr b0)), o4, o5, o6, o7], [.inr (.inr (pe_R σ a0 5)), .inl x1, .inr (.inr b0)], σ) rfl ?_ ?_
  · first
    | (simp (disch := omega) only [pe_all, pe_K_wI, pe_K_wR, pe_R_nej, pe_R_ner, pe_R_wI, pk_mK f_b0, pk_sK f_a0, pk_sR5 f_a0]; done)
    | (simp (disch := omega) only [pe_all, pe_K_wI, pe_K_wR, pe_R_nej, pe_R_ner, pe_R_wI, pk_mK f_b0, pk_sK f_a0, pk_sR5 f_a0]; (repeat' apply And.intro) <;> first | assumption | omega | decide)
  · try simp (disch := omega) only [pe_K_wI, pe_K_wR, pe_R_nej, pe_R_ner, pe_R_wI, pk_mK f_b0, pk_sK f_a0, pk_sR5 f_a0]
    have hrc : pe_K σ b0 = 2 := by first | assumption | (simp (disch := omega) only [pe_K_wI, pe_K_wR, pe_R_nej, pe_R_ner, pe_R_wI, pk_mK f_b0, pk_sK f_a0, pk_sR5 f_a0]; done) | (simp (disch := omega) only [pe_K_wI, pe_K_wR, pe_R_nej, pe_R_ner, pe_R_wI, pk_mK f_b0, pk_sK f_a0, pk_sR5 f_a0]; assumption)
    exact pe_cal 7 ck124 rfl rfl rfl ⟨hrc, by decide⟩ k
theorem b124_14 {d : Nat} {Φ : Option pe_V → pe_H → Prop} {σ : pe_H} {o0 : Option pe_V} {o1 : Option pe_V} {a2 : Nat} {a3 : Nat} {o4 : Option pe_V} {o5 : Option pe_V} {o6 : Option pe_V} {o7 : Option pe_V} {s0 : Int} (f_a3 : pk_Fm a3 σ := by assumption) (w0 : pe_in s0 := by unfold pe_in; omega) (h0 : 0 ≤ s0 := by first | assumption | omega) (h1 : s0 < 8 := by first | assumption | omega) (h2 : pe_K σ a2 = 6 := by first | assumption | omega) (k : pe_M d 62 [.inr (.inr a2)] σ (fun r σ' => pe_X d 124 (29, [o0, o1, some (.inr (.inr a2)), some (.inr (.inr a3)), some (.inl s0), some (.inr (.inr (pk_c a3 s0))), o6, o7], r.toList ++ [], σ') Φ)) : pe_X d 124 (14, [o0, o1, some (.inr (.inr a2)), some (.inr (.inr a3)), o4, o5, o6, o7], [.inl s0], σ) Φ := by
  refine pe_blk 8 7 ck124 [pe_K σ a3 = 2, 12 ≤ pe_K σ (pe_R σ a3 1) ∧ pe_K σ (pe_R σ a3 1) < 19, 0 ≤ (pe_w s0), (pe_w s0) < pe_L σ (pe_R σ a3 1)] (26, [o0, o1, some (.inr (.inr a2)), some (.inr (.inr a3)), some (.inl s0), some (.inr (.inr (pe_R σ (pe_R σ a3 1) (pe_w s0)))), o6, o7], [.inr (.inr a2)], σ) rfl ?_ ?_
  · first
    | (simp (disch := omega) only [pe_all, pe_wi w0, pe_K_wI, pe_K_wR, pe_L_wI, pe_L_wR, pe_R_nej, pe_R_ner, pe_R_wI, pk_mE2 f_a3 (i := s0) (by omega) (by omega), pk_mK f_a3, pk_mK2 f_a3, pk_mL2 f_a3, pk_mR2 f_a3]; done)
    | (simp (disch := omega) only [pe_all, pe_wi w0, pe_K_wI, pe_K_wR, pe_L_wI, pe_L_wR, pe_R_nej, pe_R_ner, pe_R_wI, pk_mE2 f_a3 (i := s0) (by omega) (by omega), pk_mK f_a3, pk_mK2 f_a3, pk_mL2 f_a3, pk_mR2 f_a3]; (repeat' apply And.intro) <;> first | assumption | omega | decide)
  · try simp (disch := omega) only [pe_wi w0, pe_K_wI, pe_K_wR, pe_L_wI, pe_L_wR, pe_R_nej, pe_R_ner, pe_R_wI, pk_mE2 f_a3 (i := s0) (by omega) (by omega), pk_mK f_a3, pk_mK2 f_a3, pk_mL2 f_a3, pk_mR2 f_a3]
    have hrc : pe_K σ a2 = 6 := by first | assumption | (simp (disch := omega) only [pe_wi w0, pe_K_wI, pe_K_wR, pe_L_wI, pe_L_wR, pe_R_nej, pe_R_ner, pe_R_wI, pk_mE2 f_a3 (i := s0) (by omega) (by omega), pk_mK f_a3, pk_mK2 f_a3, pk_mL2 f_a3, pk_mR2 f_a3]; done) | (simp (disch := omega) only [pe_wi w0, pe_K_wI, pe_K_wR, pe_L_wI, pe_L_wR, pe_R_nej, pe_R_ner, pe_R_wI, pk_mE2 f_a3 (i := s0) (by omega) (by omega), pk_mK f_a3, pk_mK2 f_a3, pk_mL2 f_a3, pk_mR2 f_a3]; assumption)
    exact pe_cal 15 ck124 rfl rfl rfl ⟨hrc, by decide⟩ k
theorem b124_29 {d : Nat} {Φ : Option pe_V → pe_H → Prop} {σ : pe_H} {o0 : Option pe_V} {o1 : Option pe_V} {a2 : Nat} {a3 : Nat} {x4 : Int} {a5 : Nat} {o6 : Option pe_V} {o7 : Option pe_V} {s0 : Int} (f_a3 : pk_Fm a3 σ := by assumption) (f_a5 : pk_Fo a5 σ := by assumption)   (k : pe_X d 124 (34, [o0, o1, some (.inr (.inr a2)), some (.inr (.inr a3)), some (.inl x4), some (.inr (.inr a5)), some (.inl s0), some (.inl 0)], [], σ) Φ) : pe_X d 124 (29, [o0, o1, some (.inr (.inr a2)), some (.inr (.inr a3)), some (.inl x4), some (.inr (.inr a5)), o6, o7], [.inl s0], σ) Φ := by
  refine pe_blk 16 3 ck124 [] (34, [o0, o1, some (.inr (.inr a2)), some (.inr (.inr a3)), some (.inl x4), some (.inr (.inr a5)), some (.inl s0), some (.inl 0)], [], σ) rfl ?_ ?_
  · exact trivial
  · exact k
theorem b124_34 {d : Nat} {Φ : Option pe_V → pe_H → Prop} {σ : pe_H} {o0 : Option pe_V} {o1 : Option pe_V} {a2 : Nat} {a3 : Nat} {x4 : Int} {a5 : Nat} {x6 : Int} {x7 : Int} (f_a3 : pk_Fm a3 σ := by assumption) (f_a5 : pk_Fo a5 σ := by assumption)  (h0 : pe_K σ a2 = 6 := by first | assumption | omega) (k : pe_M d 57 [.inr (.inr a2)] σ (fun r σ' => pe_X d 124 (40, [o0, o1, some (.inr (.inr a2)), some (.inr (.inr a3)), some (.inl x4), some (.inr (.inr a5)), some (.inl x6), some (.inl x7)], r.toList ++ [.inl x7], σ') Φ)) : pe_X d 124 (34, [o0, o1, some (.inr (.inr a2)), some (.inr (.inr a3)), some (.inl x4), some (.inr (.inr a5)), some (.inl x6), some (.inl x7)], [], σ) Φ := by
  refine pe_blk 19 2 ck124 [] (37, [o0, o1, some (.inr (.inr a2)), some (.inr (.inr a3)), some (.inl x4), some (.inr (.inr a5)), some (.inl x6), some (.inl x7)], [.inr (.inr a2), .inl x7], σ) rfl ?_ ?_
  · exact trivial
  · try simp (disch := omega) only [pe_K_wI, pe_K_wR]
    have hrc : pe_K σ a2 = 6 := by first | assumption | (simp (disch := omega) only [pe_K_wI, pe_K_wR]; done) | (simp (disch := omega) only [pe_K_wI, pe_K_wR]; assumption)
    exact pe_cal 21 ck124 rfl rfl rfl ⟨hrc, by decide⟩ k
theorem b124_40 {d : Nat} {Φ : Option pe_V → pe_H → Prop} {σ : pe_H} {o0 : Option pe_V} {o1 : Option pe_V} {a2 : Nat} {a3 : Nat} {x4 : Int} {a5 : Nat} {x6 : Int} {x7 : Int} {s0 : Int} {s1 : Int} (f_a3 : pk_Fm a3 σ := by assumption) (f_a5 : pk_Fo a5 σ := by assumption) (w0 : pe_in s1 := by unfold pe_in; omega) (w1 : pe_in s0 := by unfold pe_in; omega)  (k1 : s1 ≤ s0 → pe_X d 124 (94, [o0, o1, some (.inr (.inr a2)), some (.inr (.inr a3)), some (.inl x4), some (.inr (.inr a5)), some (.inl x6), some (.inl x7)], [], σ) Φ) (k2 : ¬ (s1 ≤ s0) → pe_X d 124 (43, [o0, o1, some (.inr (.inr a2)), some (.inr (.inr a3)), some (.inl x4), some (.inr (.inr a5)), some (.inl x6), some (.inl x7)], [], σ) Φ) : pe_X d 124 (40, [o0, o1, some (.inr (.inr a2)), some (.inr (.inr a3)), some (.inl x4), some (.inr (.inr a5)), some (.inl x6), some (.inl x7)], [.inl s1, .inl s0], σ) Φ := by
  refine pe_blk 22 1 ck124 [] (cond (decide ((pe_w s1) ≤ (pe_w s0))) 94 43, [o0, o1, some (.inr (.inr a2)), some (.inr (.inr a3)), some (.inl x4), some (.inr (.inr a5)), some (.inl x6), some (.inl x7)], [], σ) rfl ?_ ?_
  · exact trivial
  · try simp (disch := omega) only [pe_wi w0, pe_wi w1]
    exact pe_two k1 k2
theorem b124_43 {d : Nat} {Φ : Option pe_V → pe_H → Prop} {σ : pe_H} {o0 : Option pe_V} {o1 : Option pe_V} {a2 : Nat} {a3 : Nat} {x4 : Int} {a5 : Nat} {x6 : Int} {x7 : Int} (f_a3 : pk_Fm a3 σ := by assumption) (f_a5 : pk_Fo a5 σ := by assumption)   (k : pe_M d 25 [.inr (.inr a3), .inl x4, .inl 0] σ (fun r σ' => pe_X d 124 (50, [o0, o1, some (.inr (.inr a2)), some (.inr (.inr a3)), some (.inl x4), some (.inr (.inr a5)), some (.inl x6), some (.inl x7)], r.toList ++ [], σ') Φ)) : pe_X d 124 (43, [o0, o1, some (.inr (.inr a2)), some (.inr (.inr a3)), some (.inl x4), some (.inr (.inr a5)), some (.inl x6), some (.inl x7)], [], σ) Φ := by
  refine pe_blk 23 3 ck124 [] (47, [o0, o1, some (.inr (.inr a2)), some (.inr (.inr a3)), some (.inl x4), some (.inr (.inr a5)), some (.inl x6), some (.inl x7)], [.inl 0, .inl x4, .inr (.inr a3)], σ) rfl ?_ ?_
  · exact trivial
  · try simp (disch := omega) only [pe_K_wI, pe_K_wR, pk_mK f_a3]
    have hrc : pe_K σ a3 = 2 := by first | assumption | (simp (disch := omega) only [pe_K_wI, pe_K_wR, pk_mK f_a3]; done) | (simp (disch := omega) only [pe_K_wI, pe_K_wR, pk_mK f_a3]; assumption)
    exact pe_cal 26 ck124 rfl rfl rfl ⟨hrc, by decide⟩ k
theorem b124_50 {d : Nat} {Φ : Option pe_V → pe_H → Prop} {σ : pe_H} {o0 : Option pe_V} {o1 : Option pe_V} {a2 : Nat} {a3 : Nat} {x4 : Int} {a5 : Nat} {x6 : Int} {x7 : Int} (f_a3 : pk_Fm a3 σ := by assumption) (f_a5 : pk_Fo a5 σ := by assumption) (w0 : pe_in (pe_I σ a5 2) := by unfold pe_in; omega)  (k1 : (pe_I σ a5 2) = 2 → pe_X d 124 (61, [o0, o1, some (.inr (.inr a2)), some (.inr (.inr a3)), some (.inl x4), some (.inr (.inr a5)), some (.inl x6), some (.inl x7)], [], σ) Φ) (k2 : ¬ ((pe_I σ a5 2) = 2) → pe_X d 124 (59, [o0, o1, some (.inr (.inr a2)), some (.inr (.inr a3)), some (.inl x4), some (.inr (.inr a5)), some (.inl x6), some (.inl x7)], [], σ) Φ) : pe_X d 124 (50, [o0, o1, some (.inr (.inr a2)), some (.inr (.inr a3)), some (.inl x4), some (.inr (.inr a5)), some (.inl x6), some (.inl x7)], [], σ) Φ := by
  refine pe_blk 27 4 ck124 [pe_K σ a5 = 0] (cond (decide ((pe_w (pe_I σ a5 2)) = (pe_w 2))) 61 59, [o0, o1, some (.inr (.inr a2)), some (.inr (.inr a3)), some (.inl x4), some (.inr (.inr a5)), some (.inl x6), some (.inl x7)], [], σ) rfl ?_ ?_
  · first
    | (simp (disch := omega) only [pe_all, pe_wi w0, pe_wi (x := 2) ⟨by decide, by decide⟩, pe_K_wI, pe_K_wR, pk_oK f_a5]; done)
    | (simp (disch := omega) only [pe_all, pe_wi w0, pe_wi (x := 2) ⟨by decide, by decide⟩, pe_K_wI, pe_K_wR, pk_oK f_a5]; (repeat' apply And.intro) <;> first | assumption | omega | decide)
  · try simp (disch := omega) only [pe_wi w0, pe_wi (x := 2) ⟨by decide, by decide⟩, pe_K_wI, pe_K_wR, pk_oK f_a5]
    exact pe_two k1 k2
theorem b124_59 {d : Nat} {Φ : Option pe_V → pe_H → Prop} {σ : pe_H} {o0 : Option pe_V} {o1 : Option pe_V} {o2 : Option pe_V} {o3 : Option pe_V} {o4 : Option pe_V} {o5 : Option pe_V} {o6 : Option pe_V} {o7 : Option pe_V}    (k : Φ (some (.inl 0)) σ) : pe_X d 124 (59, [o0, o1, o2, o3, o4, o5, o6, o7], [], σ) Φ := by
  refine pe_blk 31 1 ck124 [] (60, [o0, o1, o2, o3, o4, o5, o6, o7], [.inl 0], σ) rfl ?_ ?_
  · exact trivial
  · exact pe_fine 32 ck124 rfl rfl rfl (Or.inl rfl) k
theorem b124_61 {d : Nat} {Φ : Option pe_V → pe_H → Prop} {σ : pe_H} {o0 : Option pe_V} {o1 : Option pe_V} {a2 : Nat} {a3 : Nat} {x4 : Int} {a5 : Nat} {x6 : Int} {x7 : Int} (f_a3 : pk_Fm a3 σ := by assumption) (f_a5 : pk_Fo a5 σ := by assumption)  (h0 : pe_K σ a2 = 6 := by first | assumption | omega) (k : pe_M d 60 [.inr (.inr a2), .inl x7] σ (fun r σ' => pe_X d 124 (67, [o0, o1, some (.inr (.inr a2)), some (.inr (.inr a3)), some (.inl x4), some (.inr (.inr a5)), some (.inl x6), some (.inl x7)], r.toList ++ [], σ') Φ)) : pe_X d 124 (61, [o0, o1, some (.inr (.inr a2)), some (.inr (.inr a3)), some (.inl x4), some (.inr (.inr a5)), some (.inl x6), some (.inl x7)], [], σ) Φ := by
  refine pe_blk 33 2 ck124 [] (64, [o0, o1, some (.inr (.inr a2)), some (.inr (.inr a3)), some (.inl x4), some (.inr (.inr a5)), some (.inl x6), some (.inl x7)], [.inl x7, .inr (.inr a2)], σ) rfl ?_ ?_
  · exact trivial
  · try simp (disch := omega) only [pe_K_wI, pe_K_wR]
    have hrc : pe_K σ a2 = 6 := by first | assumption | (simp (disch := omega) only [pe_K_wI, pe_K_wR]; done) | (simp (disch := omega) only [pe_K_wI, pe_K_wR]; assumption)
    exact pe_cal 35 ck124 rfl rfl rfl ⟨hrc, by decide⟩ k
theorem b124_67 {d : Nat} {Φ : Option pe_V → pe_H → Prop} {σ : pe_H} {o0 : Option pe_V} {o1 : Option pe_V} {a2 : Nat} {a3 : Nat} {x4 : Int} {a5 : Nat} {x6 : Int} {x7 : Int} {s0 : Int} (f_a3 : pk_Fm a3 σ := by assumption) (f_a5 : pk_Fo a5 σ := by assumption) (w0 : pe_in x6 := by unfold pe_in; omega) (w1 : pe_in s0 := by unfold pe_in; omega)  (k1 : s0 = x6 → pe_X d 124 (88, [o0, o1, some (.inr (.inr a2)), some (.inr (.inr a3)), some (.inl x4), some (.inr (.inr a5)), some (.inl x6), some (.inl x7)], [], σ) Φ) (k2 : ¬ (s0 = x6) → pe_X d 124 (72, [o0, o1, some (.inr (.inr a2)), some (.inr (.inr a3)), some (.inl x4), some (.inr (.inr a5)), some (.inl x6), some (.inl x7)], [], σ) Φ) : pe_X d 124 (67, [o0, o1, some (.inr (.inr a2)), some (.inr (.inr a3)), some (.inl x4), some (.inr (.inr a5)), some (.inl x6), some (.inl x7)], [.inl s0], σ) Φ := by
  refine pe_blk 36 2 ck124 [] (cond (decide ((pe_w s0) = (pe_w x6))) 88 72, [o0, o1, some (.inr (.inr a2)), some (.inr (.inr a3)), some (.inl x4), some (.inr (.inr a5)), some (.inl x6), some (.inl x7)], [], σ) rfl ?_ ?_
  · exact trivial
  · try simp (disch := omega) only [pe_wi w0, pe_wi w1]
    exact pe_two k1 k2
theorem b124_72 {d : Nat} {Φ : Option pe_V → pe_H → Prop} {σ : pe_H} {o0 : Option pe_V} {o1 : Option pe_V} {a2 : Nat} {a3 : Nat} {x4 : Int} {a5 : Nat} {x6 : Int} {x7 : Int} (f_a3 : pk_Fm a3 σ := by assumption) (f_a5 : pk_Fo a5 σ := by assumption)  (h0 : pe_K σ a2 = 6 := by first | assumption | omega) (k : pe_M d 60 [.inr (.inr a2), .inl x7] σ (fun r σ' => pe_X d 124 (78, [o0, o1, some (.inr (.inr a2)), some (.inr (.inr a3)), some (.inl x4), some (.inr (.inr a5)), some (.inl x6), some (.inl x7)], r.toList ++ [], σ') Φ)) : pe_X d 124 (72, [o0, o1, some (.inr (.inr a2)), some (.inr (.inr a3)), some (.inl x4), some (.inr (.inr a5)), some (.inl x6), some (.inl x7)], [], σ) Φ := by
  refine pe_blk 38 2 ck124 [] (75, [o0, o1, some (.inr (.inr a2)), some (.inr (.inr a3)), some (.inl x4), some (.inr (.inr a5)), some (.inl x6), some (.inl x7)], [.inl x7, .inr (.inr a2)], σ) rfl ?_ ?_
  · exact trivial
  · try simp (disch := omega) only [pe_K_wI, pe_K_wR]
    have hrc : pe_K σ a2 = 6 := by first | assumption | (simp (disch := omega) only [pe_K_wI, pe_K_wR]; done) | (simp (disch := omega) only [pe_K_wI, pe_K_wR]; assumption)
    exact pe_cal 40 ck124 rfl rfl rfl ⟨hrc, by decide⟩ k
theorem b124_78 {d : Nat} {Φ : Option pe_V → pe_H → Prop} {σ : pe_H} {o0 : Option pe_V} {o1 : Option pe_V} {a2 : Nat} {a3 : Nat} {x4 : Int} {a5 : Nat} {x6 : Int} {x7 : Int} {s0 : Int} (f_a3 : pk_Fm a3 σ := by assumption) (f_a5 : pk_Fo a5 σ := by assumption) (w0 : pe_in (pe_I σ a5 4) := by unfold pe_in; omega) (w1 : pe_in s0 := by unfold pe_in; omega)  (k1 : s0 = (pe_I σ a5 4) → pe_X d 124 (88, [o0, o1, some (.inr (.inr a2)), some (.inr (.inr a3)), some (.inl x4), some (.inr (.inr a5)), some (.inl x6), some (.inl x7)], [], σ) Φ) (k2 : ¬ (s0 = (pe_I σ a5 4)) → pe_X d 124 (86, [o0, o1, some (.inr (.inr a2)), some (.inr (.inr a3)), some (.inl x4), some (.inr (.inr a5)), some (.inl x6), some (.inl x7)], [], σ) Φ) : pe_X d 124 (78, [o0, o1, some (.inr (.inr a2)), some (.inr (.inr a3)), some (.inl x4), some (.inr (.inr a5)), some (.inl x6), some (.inl x7)], [.inl s0], σ) Φ := by
  refine pe_blk 41 3 ck124 [pe_K σ a5 = 0] (cond (decide ((pe_w s0) = (pe_w (pe_I σ a5 4)))) 88 86, [o0, o1, some (.inr (.inr a2)), some (.inr (.inr a3)), some (.inl x4), some (.inr (.inr a5)), some (.inl x6), some (.inl x7)], [], σ) rfl ?_ ?_
  · first
    | (simp (disch := omega) only [pe_all, pe_wi w0, pe_wi w1, pe_K_wI, pe_K_wR, pk_oK f_a5]; done)
    | (simp (disch := omega) only [pe_all, pe_wi w0, pe_wi w1, pe_K_wI, pe_K_wR, pk_oK f_a5]; (repeat' apply And.intro) <;> first | assumption | omega | decide)
  · try simp (disch := omega) only [pe_wi w0, pe_wi w1, pe_K_wI, pe_K_wR, pk_oK f_a5]
    exact pe_two k1 k2
theorem b124_86 {d : Nat} {Φ : Option pe_V → pe_H → Prop} {σ : pe_H} {o0 : Option pe_V} {o1 : Option pe_V} {o2 : Option pe_V} {o3 : Option pe_V} {o4 : Option pe_V} {o5 : Option pe_V} {o6 : Option pe_V} {o7 : Option pe_V}    (k : Φ (some (.inl 0)) σ) : pe_X d 124 (86, [o0, o1, o2, o3, o4, o5, o6, o7], [], σ) Φ := by
  refine pe_blk 44 1 ck124 [] (87, [o0, o1, o2, o3, o4, o5, o6, o7], [.inl 0], σ) rfl ?_ ?_
  · exact trivial
  · exact pe_fine 45 ck124 rfl rfl rfl (Or.inl rfl) k
theorem b124_88 {d : Nat} {Φ : Option pe_V → pe_H → Prop} {σ : pe_H} {o0 : Option pe_V} {o1 : Option pe_V} {a2 : Nat} {a3 : Nat} {x4 : Int} {a5 : Nat} {x6 : Int} {x7 : Int} (f_a3 : pk_Fm a3 σ := by assumption) (f_a5 : pk_Fo a5 σ := by assumption)   (k : pe_X d 124 (34, [o0, o1, some (.inr (.inr a2)), some (.inr (.inr a3)), some (.inl x4), some (.inr (.inr a5)), some (.inl x6), some (.inl (x7 + 1))], [], σ) Φ) : pe_X d 124 (88, [o0, o1, some (.inr (.inr a2)), some (.inr (.inr a3)), some (.inl x4), some (.inr (.inr a5)), some (.inl x6), some (.inl x7)], [], σ) Φ := by
  refine pe_blk 46 2 ck124 [] (34, [o0, o1, some (.inr (.inr a2)), some (.inr (.inr a3)), some (.inl x4), some (.inr (.inr a5)), some (.inl x6), some (.inl (x7 + 1))], [], σ) rfl ?_ ?_
  · exact trivial
  · exact k
theorem b124_94 {d : Nat} {Φ : Option pe_V → pe_H → Prop} {σ : pe_H} {o0 : Option pe_V} {o1 : Option pe_V} {o2 : Option pe_V} {o3 : Option pe_V} {o4 : Option pe_V} {o5 : Option pe_V} {o6 : Option pe_V} {o7 : Option pe_V}    (k : Φ (some (.inl 1)) σ) : pe_X d 124 (94, [o0, o1, o2, o3, o4, o5, o6, o7], [], σ) Φ := by
  refine pe_blk 48 1 ck124 [] (95, [o0, o1, o2, o3, o4, o5, o6, o7], [.inl 1], σ) rfl ?_ ?_
  · exact trivial
  · exact pe_fine 49 ck124 rfl rfl rfl (Or.inr rfl) k
-- StepMachines.closeIf(LStepMachines$Machine;II)V
def T125 : List (Nat × Instr × Nat) := [(0, .iload_n 2, 1), (1, .iconst 1, 1), (2, .if_icmp .ne 20, 3), (5, .aload_n 0, 1), (6, .getfield 110, 3), (9, .iload_n 1, 1), (10, .aaload, 1), (11, .invokevirtual 199, 3), (14, .ifCond .ne 8, 3), (17, .aload_n 0, 1), (18, .iload_n 1, 1), (19, .invokevirtual 202, 3), (22, .return_, 1)]
theorem ck125 : pe_ctx 125 8 false none 3 T125 := ⟨rfl, rfl, rfl, rfl, by decide +kernel, by decide, by decide⟩
theorem b125_0 {d : Nat} {Φ : Option pe_V → pe_H → Prop} {σ : pe_H} {a0 : Nat} {x1 : Int} {x2 : Int} (f_a0 : pk_Fm a0 σ := by assumption) (w0 : pe_in x2 := by unfold pe_in; omega)  (k1 : ¬ x2 = 1 → pe_X d 125 (22, [some (.inr (.inr a0)), some (.inl x1), some (.inl x2)], [], σ) Φ) (k2 : x2 = 1 → pe_X d 125 (5, [some (.inr (.inr a0)), some (.inl x1), some (.inl x2)], [], σ) Φ) : pe_X d 125 (0, [some (.inr (.inr a0)), some (.inl x1), some (.inl x2)], [], σ) Φ := by
  refine pe_blk 0 3 ck125 [] (cond (decide (¬ (pe_w x2) = (pe_w 1))) 22 5, [some (.inr (.inr a0)), some (.inl x1), some (.inl x2)], [], σ) rfl ?_ ?_
  · exact trivial
  · try simp (disch := omega) only [pe_wi w0, pe_wi (x := 1) ⟨by decide, by decide⟩]
    exact pe_two' k1 k2
theorem b125_5 {d : Nat} {Φ : Option pe_V → pe_H → Prop} {σ : pe_H} {a0 : Nat} {x1 : Int} {o2 : Option pe_V} (f_a0 : pk_Fm a0 σ := by assumption) (w0 : pe_in x1 := by unfold pe_in; omega) (h0 : 0 ≤ x1 := by first | assumption | omega) (h1 : x1 < 8 := by first | assumption | omega) (k : pe_M d 3 [.inr (.inr (pk_c a0 x1))] σ (fun r σ' => pe_X d 125 (14, [some (.inr (.inr a0)), some (.inl x1), o2], r.toList ++ [], σ') Φ)) : pe_X d 125 (5, [some (.inr (.inr a0)), some (.inl x1), o2], [], σ) Φ := by
  refine pe_blk 3 4 ck125 [pe_K σ a0 = 2, 12 ≤ pe_K σ (pe_R σ a0 1) ∧ pe_K σ (pe_R σ a0 1) < 19, 0 ≤ (pe_w x1), (pe_w x1) < pe_L σ (pe_R σ a0 1)] (11, [some (.inr (.inr a0)), some (.inl x1), o2], [.inr (.inr (pe_R σ (pe_R σ a0 1) (pe_w x1)))], σ) rfl ?_ ?_
  · first
    | (simp (disch := omega) only [pe_all, pe_wi w0, pe_K_wI, pe_K_wR, pe_L_wI, pe_L_wR, pe_R_nej, pe_R_ner, pe_R_wI, pk_mE2 f_a0 (i := x1) (by omega) (by omega), pk_mK f_a0, pk_mK2 f_a0, pk_mL2 f_a0, pk_mR2 f_a0, pk_oK (pk_mO f_a0 (i := x1) (by omega) (by omega))]; done)
    | (simp (disch := omega) only [pe_all, pe_wi w0, pe_K_wI, pe_K_wR, pe_L_wI, pe_L_wR, pe_R_nej, pe_R_ner, pe_R_wI, pk_mE2 f_a0 (i := x1) (by omega) (by omega), pk_mK f_a0, pk_mK2 f_a0, pk_mL2 f_a0, pk_mR2 f_a0, pk_oK (pk_mO f_a0 (i := x1) (by omega) (by omega))]; (repeat' apply And.intro) <;> first | assumption | omega | decide)
  · try simp (disch := omega) only [pe_wi w0, pe_K_wI, pe_K_wR, pe_L_wI, pe_L_wR, pe_R_nej, pe_R_ner, pe_R_wI, pk_mE2 f_a0 (i := x1) (by omega) (by omega), pk_mK f_a0, pk_mK2 f_a0, pk_mL2 f_a0, pk_mR2 f_a0, pk_oK (pk_mO f_a0 (i := x1) (by omega) (by omega))]
    have hrc : pe_K σ (pk_c a0 x1) = 0 := by first | assumption | (simp (disch := omega) only [pe_wi w0, pe_K_wI, pe_K_wR, pe_L_wI, pe_L_wR, pe_R_nej, pe_R_ner, pe_R_wI, pk_mE2 f_a0 (i := x1) (by omega) (by omega), pk_mK f_a0, pk_mK2 f_a0, pk_mL2 f_a0, pk_mR2 f_a0, pk_oK (pk_mO f_a0 (i := x1) (by omega) (by omega))]; done) | (simp (disch := omega) only [pe_wi w0, pe_K_wI, pe_K_wR, pe_L_wI, pe_L_wR, pe_R_nej, pe_R_ner, pe_R_wI, pk_mE2 f_a0 (i := x1) (by omega) (by omega), pk_mK f_a0, pk_mK2 f_a0, pk_mL2 f_a0, pk_mR2 f_a0, pk_oK (pk_mO f_a0 (i := x1) (by omega) (by omega))]; assumption)
    exact pe_cal 7 ck125 rfl rfl rfl ⟨hrc, by decide⟩ k
theorem b125_14 {d : Nat} {Φ : Option pe_V → pe_H → Prop} {σ : pe_H} {a0 : Nat} {x1 : Int} {o2 : Option pe_V} {s0 : Int} (f_a0 : pk_Fm a0 σ := by assumption) (w0 : pe_in s0 := by unfold pe_in; omega)  (k1 : ¬ s0 = 0 → pe_X d 125 (22, [some (.inr (.inr a0)), some (.inl x1), o2], [], σ) Φ) (k2 : s0 = 0 → pe_X d 125 (17, [some (.inr (.inr a0)), some (.inl x1), o2], [], σ) Φ) : pe_X d 125 (14, [some (.inr (.inr a0)), some (.inl x1), o2], [.inl s0], σ) Φ := by
  refine pe_blk 8 1 ck125 [] (cond (decide (¬ (pe_w s0) = 0)) 22 17, [some (.inr (.inr a0)), some (.inl x1), o2], [], σ) rfl ?_ ?_
  · exact trivial
  · try simp (disch := omega) only [pe_wi w0]
    exact pe_two' k1 k2
theorem b125_17 {d : Nat} {Φ : Option pe_V → pe_H → Prop} {σ : pe_H} {a0 : Nat} {x1 : Int} {o2 : Option pe_V} (f_a0 : pk_Fm a0 σ := by assumption)   (k : pe_M d 26 [.inr (.inr a0), .inl x1] σ (fun r σ' => pe_X d 125 (22, [some (.inr (.inr a0)), some (.inl x1), o2], r.toList ++ [], σ') Φ)) : pe_X d 125 (17, [some (.inr (.inr a0)), some (.inl x1), o2], [], σ) Φ := by
  refine pe_blk 9 2 ck125 [] (19, [some (.inr (.inr a0)), some (.inl x1), o2], [.inl x1, .inr (.inr a0)], σ) rfl ?_ ?_
  · exact trivial
  · try simp (disch := omega) only [pe_K_wI, pe_K_wR, pk_mK f_a0]
    have hrc : pe_K σ a0 = 2 := by first | assumption | (simp (disch := omega) only [pe_K_wI, pe_K_wR, pk_mK f_a0]; done) | (simp (disch := omega) only [pe_K_wI, pe_K_wR, pk_mK f_a0]; assumption)
    exact pe_cal 11 ck125 rfl rfl rfl ⟨hrc, by decide⟩ k
theorem b125_22 {d : Nat} {Φ : Option pe_V → pe_H → Prop} {σ : pe_H} {o0 : Option pe_V} {o1 : Option pe_V} {o2 : Option pe_V}    (k : Φ none σ) : pe_X d 125 (22, [o0, o1, o2], [], σ) Φ := by
  exact pe_fine 12 ck125 rfl rfl rfl trivial k
-- StepMachines.gain(LStepMachines$Coroutine;LStepMachines$Coroutine;I)I
def T126 : List (Nat × Instr × Nat) := [(0, .aload_n 0, 1), (1, .getfield 334, 3), (4, .iconst 2, 1), (5, .iload_n 2, 1), (6, .imul, 1), (7, .isub, 1), (8, .aload_n 1, 1), (9, .getfield 196, 3), (12, .bipush 7, 2), (14, .if_icmp .ne 8, 3), (17, .bipush 6, 2), (19, .goto 4, 3), (22, .iconst 0, 1), (23, .isub, 1), (24, .ireturn, 1)]
theorem ck126 : pe_ctx 126 8 false (some .int) 3 T126 := ⟨rfl, rfl, rfl, rfl, by decide +kernel, by decide, by decide⟩
theorem b126_0 {d : Nat} {Φ : Option pe_V → pe_H → Prop} {σ : pe_H} {a0 : Nat} {a1 : Nat} {x2 : Int} (f_a0 : pk_Fo a0 σ := by assumption) (f_a1 : pk_Fo a1 σ := by assumption) (w0 : pe_in (pe_I σ a1 2) := by unfold pe_in; omega)  (k1 : ¬ (pe_I σ a1 2) = 7 → pe_X d 126 (22, [some (.inr (.inr a0)), some (.inr (.inr a1)), some (.inl x2)], [.inl ((pe_I σ a0 5) - (2 * x2))], σ) Φ) (k2 : (pe_I σ a1 2) = 7 → pe_X d 126 (17, [some (.inr (.inr a0)), some (.inr (.inr a1)), some (.inl x2)], [.inl ((pe_I σ a0 5) - (2 * x2))], σ) Φ) : pe_X d 126 (0, [some (.inr (.inr a0)), some (.inr (.inr a1)), some (.inl x2)], [], σ) Φ := by
  refine pe_blk 0 10 ck126 [pe_K σ a0 = 0, pe_K σ a1 = 0] (cond (decide (¬ (pe_w (pe_I σ a1 2)) = (pe_w 7))) 22 17, [some (.inr (.inr a0)), some (.inr (.inr a1)), some (.inl x2)], [.inl ((pe_I σ a0 5) - (2 * x2))], σ) rfl ?_ ?_
  · first
    | (simp (disch := omega) only [pe_all, pe_wi w0, pe_wi (x := 7) ⟨by decide, by decide⟩, pe_K_wI, pe_K_wR, pk_oK f_a0, pk_oK f_a1]; done)
    | (simp (disch := omega) only [pe_all, pe_wi w0, pe_wi (x := 7) ⟨by decide, by decide⟩, pe_K_wI, pe_K_wR, pk_oK f_a0, pk_oK f_a1]; (repeat' apply And.intro) <;> first | assumption | omega | decide)
  · try simp (disch := omega) only [pe_wi w0, pe_wi (x := 7) ⟨by decide, by decide⟩, pe_K_wI, pe_K_wR, pk_oK f_a0, pk_oK f_a1]
    exact pe_two' k1 k2
theorem b126_17 {d : Nat} {Φ : Option pe_V → pe_H → Prop} {σ : pe_H} {o0 : Option pe_V} {o1 : Option pe_V} {o2 : Option pe_V} {s0 : Int}    (k : pe_X d 126 (23, [o0, o1, o2], [.inl 6, .inl s0], σ) Φ) : pe_X d 126 (17, [o0, o1, o2], [.inl s0], σ) Φ := by
  refine pe_blk 10 2 ck126 [] (23, [o0, o1, o2], [.inl 6, .inl s0], σ) rfl ?_ ?_
  · exact trivial
  · exact k
theorem b126_22 {d : Nat} {Φ : Option pe_V → pe_H → Prop} {σ : pe_H} {o0 : Option pe_V} {o1 : Option pe_V} {o2 : Option pe_V} {s0 : Int}    (k : pe_X d 126 (23, [o0, o1, o2], [.inl 0, .inl s0], σ) Φ) : pe_X d 126 (22, [o0, o1, o2], [.inl s0], σ) Φ := by
  refine pe_blk 12 1 ck126 [] (23, [o0, o1, o2], [.inl 0, .inl s0], σ) rfl ?_ ?_
  · exact trivial
  · exact k
theorem b126_23 {d : Nat} {Φ : Option pe_V → pe_H → Prop} {σ : pe_H} {o0 : Option pe_V} {o1 : Option pe_V} {o2 : Option pe_V} {s0 : Int} {s1 : Int}    (k : Φ (some (.inl (s0 - s1))) σ) : pe_X d 126 (23, [o0, o1, o2], [.inl s1, .inl s0], σ) Φ := by
  refine pe_blk 13 1 ck126 [] (24, [o0, o1, o2], [.inl (s0 - s1)], σ) rfl ?_ ?_
  · exact trivial
  · exact pe_fine 14 ck126 rfl rfl rfl trivial k
-- StepMachines.waysEnded([LStepMachines$Machine;IIII)J
def T127 : List (Nat × Instr × Nat) := [(0, .aload_n 0, 1), (1, .iload_n 1, 1), (2, .aaload, 1), (3, .astore 5, 2), (5, .aload 5, 2), (7, .getfield 110, 3), (10, .iload_n 3, 1), (11, .aaload, 1), (12, .invokevirtual 199, 3), (15, .ifCond .eq 10, 3), (18, .iload 4, 2), (20, .iload_n 2, 1), (21, .invokestatic 264, 3), (24, .lreturn, 1), (25, .iload_n 2, 1), (26, .ifCond .le 19, 3), (29, .iload_n 1, 1), (30, .iconst 1, 1), (31, .iadd, 1), (32, .aload_n 0, 1), (33, .arraylength, 1), (34, .if_icmp .ge 11, 3), (37, .aload 5, 2), (39, .invokevirtual 226, 3), (42, .ifCond .ne 5, 3), (45, .lconst 0, 1), (46, .lreturn, 1), (47, .aload_n 0, 1), (48, .iload_n 1, 1), (49, .iconst 1, 1), (50, .iadd, 1), (51, .aaload, 1), (52, .astore 6, 2), (54, .aload 6, 2), (56, .aload 5, 2), (58, .invokevirtual 77, 3), (61, .aload 6, 2), (63, .invokevirtual 212, 3), (66, .pop, 1), (67, .iload 4, 2), (69, .iconst 1, 1), (70, .isub, 1), (71, .i2l, 1), (72, .aload_n 0, 1), (73, .iload_n 1, 1), (74, .iconst 1, 1), (75, .iadd, 1), (76, .iload_n 2, 1), (77, .iconst 1, 1), (78, .isub, 1), (79, .iload_n 3, 1), (80, .iload 4, 2), (82, .invokestatic 260, 3), (85, .lmul, 1), (86, .lstore 7, 2), (88, .aload 6, 2), (90, .aload 5, 2), (92, .invokevirtual 77, 3), (95, .aload 6, 2), (97, .invokevirtual 337, 3), (100, .lload 7, 2), (102, .aload_n 0, 1), (103, .iload_n 1, 1), (104, .iconst 1, 1), (105, .iadd, 1), (106, .iload_n 2, 1), (107, .iconst 1, 1), (108, .isub, 1), (109, .iload_n 3, 1), (110, .iload 4, 2), (112, .invokestatic 260, 3), (115, .ladd, 1), (116, .lreturn, 1)]
theorem ck127 : pe_ctx 127 8 false (some .long) 9 T127 := ⟨rfl, rfl, rfl, rfl, by decide +kernel, by decide, by decide⟩
theorem b127_0 {d : Nat} {Φ : Option pe_V → pe_H → Prop} {σ : pe_H} {a0 : Nat} {x1 : Int} {x2 : Int} {x3 : Int} {x4 : Int} {o5 : Option pe_V} {o6 : Option pe_V} {o7 : Option pe_V} {o8 : Option pe_V}  (w0 : pe_in x1 := by unfold pe_in; omega) (w1 : pe_in x3 := by unfold pe_in; omega) (h0 : 12 ≤ pe_K σ a0 ∧ pe_K σ a0 < 19 := by first | assumption | omega) (h1 : 0 ≤ x1 := by first | assumption | omega) (h2 : x1 < pe_L σ a0 := by first | assumption | omega) (h3 : pe_K σ (pe_R σ a0 x1) = 2 := by first | assumption | omega) (h4 : 12 ≤ pe_K σ (pe_R σ (pe_R σ a0 x1) 1) ∧ pe_K σ (pe_R σ (pe_R σ a0 x1) 1) < 19 := by first | assumption | omega) (h5 : 0 ≤ x3 := by first | assumption | omega) (h6 : x3 < pe_L σ (pe_R σ (pe_R σ a0 x1) 1) := by first | assumption | omega) (h7 : pe_K σ (pe_R σ (pe_R σ (pe_R σ a0 x1) 1) x3) = 0 := by first | assumption | omega) (k : pe_M d 3 [.inr (.inr (pe_R σ (pe_R σ (pe_R σ a0 x1) 1) x3))] σ (fun r σ' => pe_X d 127 (15, [some (.inr (.inr a0)), some (.inl x1), some (.inl x2), some (.inl x3), some (.inl x4), some (.inr (.inr (pe_R σ a0 x1))), o6, o7, o8], r.toList ++ [], σ') Φ)) : pe_X d 127 (0, [some (.inr (.inr a0)), some (.inl x1), some (.inl x2), some (.inl x3), some (.inl x4), o5, o6, o7, o8], [], σ) Φ := by
  refine pe_blk 0 8 ck127 [12 ≤ pe_K σ a0 ∧ pe_K σ a0 < 19, 0 ≤ (pe_w x1), (pe_w x1) < pe_L σ a0, pe_K σ (pe_R σ a0 (pe_w x1)) = 2, 12 ≤ pe_K σ (pe_R σ (pe_R σ a0 (pe_w x1)) 1) ∧ pe_K σ (pe_R σ (pe_R σ a0 (pe_w x1)) 1) < 19, 0 ≤ (pe_w x3), (pe_w x3) < pe_L σ (pe_R σ (pe_R σ a0 (pe_w x1)) 1)] (12, [some (.inr (.inr a0)), some (.inl x1), some (.inl x2), some (.inl x3), some (.inl x4), some (.inr (.inr (pe_R σ a0 (pe_w x1)))), o6, o7, o8], [.inr (.inr (pe_R σ (pe_R σ (pe_R σ a0 (pe_w x1)) 1) (pe_w x3)))], σ) rfl ?_ ?_
  · first
    | (simp (disch := omega) only [pe_all, pe_wi w0, pe_wi w1, pe_K_wI, pe_K_wR, pe_L_wI, pe_L_wR]; done)
    | (simp (disch := omega) only [pe_all, pe_wi w0, pe_wi w1, pe_K_wI, pe_K_wR, pe_L_wI, pe_L_wR]; (repeat' apply And.intro) <;> first | assumption | omega | decide)
  · try simp (disch := omega) only [pe_wi w0, pe_wi w1, pe_K_wI, pe_K_wR, pe_L_wI, pe_L_wR]
    have hrc : pe_K σ (pe_R σ (pe_R σ (pe_R σ a0 x1) 1) x3) = 0 := by first | assumption | (simp (disch := omega) only [pe_wi w0, pe_wi w1, pe_K_wI, pe_K_wR, pe_L_wI, pe_L_wR]; done) | (simp (disch := omega) only [pe_wi w0, pe_wi w1, pe_K_wI, pe_K_wR, pe_L_wI, pe_L_wR]; assumption)
    exact pe_cal 8 ck127 rfl rfl rfl ⟨hrc, by decide⟩ k
theorem b127_15 {d : Nat} {Φ : Option pe_V → pe_H → Prop} {σ : pe_H} {a0 : Nat} {x1 : Int} {x2 : Int} {x3 : Int} {x4 : Int} {a5 : Nat} {o6 : Option pe_V} {o7 : Option pe_V} {o8 : Option pe_V} {s0 : Int} (f_a5 : pk_Fm a5 σ := by assumption) (w0 : pe_in s0 := by unfold pe_in; omega)  (k1 : s0 = 0 → pe_X d 127 (25, [some (.inr (.inr a0)), some (.inl x1), some (.inl x2), some (.inl x3), some (.inl x4), some (.inr (.inr a5)), o6, o7, o8], [], σ) Φ) (k2 : ¬ (s0 = 0) → pe_X d 127 (18, [some (.inr (.inr a0)), some (.inl x1), some (.inl x2), some (.inl x3), some (.inl x4), some (.inr (.inr a5)), o6, o7, o8], [], σ) Φ) : pe_X d 127 (15, [some (.inr (.inr a0)), some (.inl x1), some (.inl x2), some (.inl x3), some (.inl x4), some (.inr (.inr a5)), o6, o7, o8], [.inl s0], σ) Φ := by
  refine pe_blk 9 1 ck127 [] (cond (decide ((pe_w s0) = 0)) 25 18, [some (.inr (.inr a0)), some (.inl x1), some (.inl x2), some (.inl x3), some (.inl x4), some (.inr (.inr a5)), o6, o7, o8], [], σ) rfl ?_ ?_
  · exact trivial
  · try simp (disch := omega) only [pe_wi w0]
    exact pe_two k1 k2
theorem b127_18 {d : Nat} {Φ : Option pe_V → pe_H → Prop} {σ : pe_H} {o0 : Option pe_V} {o1 : Option pe_V} {x2 : Int} {o3 : Option pe_V} {x4 : Int} {o5 : Option pe_V} {o6 : Option pe_V} {o7 : Option pe_V} {o8 : Option pe_V}    (k : pe_M d 128 [.inl x4, .inl x2] σ (fun r σ' => pe_X d 127 (24, [o0, o1, some (.inl x2), o3, some (.inl x4), o5, o6, o7, o8], r.toList ++ [], σ') Φ)) : pe_X d 127 (18, [o0, o1, some (.inl x2), o3, some (.inl x4), o5, o6, o7, o8], [], σ) Φ := by
  refine pe_blk 10 2 ck127 [] (21, [o0, o1, some (.inl x2), o3, some (.inl x4), o5, o6, o7, o8], [.inl x2, .inl x4], σ) rfl ?_ ?_
  · exact trivial
  · exact pe_cal 12 ck127 rfl rfl rfl trivial k
theorem b127_24 {d : Nat} {Φ : Option pe_V → pe_H → Prop} {σ : pe_H} {o0 : Option pe_V} {o1 : Option pe_V} {o2 : Option pe_V} {o3 : Option pe_V} {o4 : Option pe_V} {o5 : Option pe_V} {o6 : Option pe_V} {o7 : Option pe_V} {o8 : Option pe_V} {z0 : Int}    (k : Φ (some (.inr (.inl z0))) σ) : pe_X d 127 (24, [o0, o1, o2, o3, o4, o5, o6, o7, o8], [.inr (.inl z0)], σ) Φ := by
  exact pe_fine 13 ck127 rfl rfl rfl trivial k
theorem b127_25 {d : Nat} {Φ : Option pe_V → pe_H → Prop} {σ : pe_H} {a0 : Nat} {x1 : Int} {x2 : Int} {x3 : Int} {x4 : Int} {a5 : Nat} {o6 : Option pe_V} {o7 : Option pe_V} {o8 : Option pe_V} (f_a5 : pk_Fm a5 σ := by assumption) (w0 : pe_in x2 := by unfold pe_in; omega)  (k1 : x2 ≤ 0 → pe_X d 127 (45, [some (.inr (.inr a0)), some (.inl x1), some (.inl x2), some (.inl x3), some (.inl x4), some (.inr (.inr a5)), o6, o7, o8], [], σ) Φ) (k2 : ¬ (x2 ≤ 0) → pe_X d 127 (29, [some (.inr (.inr a0)), some (.inl x1), some (.inl x2), some (.inl x3), some (.inl x4), some (.inr (.inr a5)), o6, o7, o8], [], σ) Φ) : pe_X d 127 (25, [some (.inr (.inr a0)), some (.inl x1), some (.inl x2), some (.inl x3), some (.inl x4), some (.inr (.inr a5)), o6, o7, o8], [], σ) Φ := by
  refine pe_blk 14 2 ck127 [] (cond (decide ((pe_w x2) ≤ 0)) 45 29, [some (.inr (.inr a0)), some (.inl x1), some (.inl x2), some (.inl x3), some (.inl x4), some (.inr (.inr a5)), o6, o7, o8], [], σ) rfl ?_ ?_
  · exact trivial
  · try simp (disch := omega) only [pe_wi w0]
    exact pe_two k1 k2
theorem b127_29 {d : Nat} {Φ : Option pe_V → pe_H → Prop} {σ : pe_H} {a0 : Nat} {x1 : Int} {x2 : Int} {x3 : Int} {x4 : Int} {a5 : Nat} {o6 : Option pe_V} {o7 : Option pe_V} {o8 : Option pe_V} (f_a5 : pk_Fm a5 σ := by assumption) (w0 : pe_in (pe_L σ a0) := by unfold pe_in; omega) (w1 : pe_in (x1 + 1) := by unfold pe_in; omega) (h0 : 10 ≤ pe_K σ a0 ∧ pe_K σ a0 < 19 := by first | assumption | omega) (k1 : (pe_L σ a0) ≤ (x1 + 1) → pe_X d 127 (45, [some (.inr (.inr a0)), some (.inl x1), some (.inl x2), some (.inl x3), some (.inl x4), some (.inr (.inr a5)), o6, o7, o8], [], σ) Φ) (k2 : ¬ ((pe_L σ a0) ≤ (x1 + 1)) → pe_X d 127 (37, [some (.inr (.inr a0)), some (.inl x1), some (.inl x2), some (.inl x3), some (.inl x4), some (.inr (.inr a5)), o6, o7, o8], [], σ) Φ) : pe_X d 127 (29, [some (.inr (.inr a0)), some (.inl x1), some (.inl x2), some (.inl x3), some (.inl x4), some (.inr (.inr a5)), o6, o7, o8], [], σ) Φ := by
  refine pe_blk 16 6 ck127 [10 ≤ pe_K σ a0 ∧ pe_K σ a0 < 19] (cond (decide ((pe_w (pe_L σ a0)) ≤ (pe_w (x1 + 1)))) 45 37, [some (.inr (.inr a0)), some (.inl x1), some (.inl x2), some (.inl x3), some (.inl x4), some (.inr (.inr a5)), o6, o7, o8], [], σ) rfl ?_ ?_
  · first
    | (simp (disch := omega) only [pe_all, pe_wi w0, pe_wi w1, pe_K_wI, pe_K_wR, pe_L_wI, pe_L_wR]; done)
    | (simp (disch := omega) only [pe_all, pe_wi w0, pe_wi w1, pe_K_wI, pe_K_wR, pe_L_wI, pe_L_wR]; (repeat' apply And.intro) <;> first | assumption | omega | decide)
  · try simp (disch := omega) only [pe_wi w0, pe_wi w1, pe_K_wI, pe_K_wR, pe_L_wI, pe_L_wR]
    exact pe_two k1 k2
theorem b127_37 {d : Nat} {Φ : Option pe_V → pe_H → Prop} {σ : pe_H} {a0 : Nat} {x1 : Int} {x2 : Int} {x3 : Int} {x4 : Int} {a5 : Nat} {o6 : Option pe_V} {o7 : Option pe_V} {o8 : Option pe_V} (f_a5 : pk_Fm a5 σ := by assumption)   (k : pe_M d 19 [.inr (.inr a5)] σ (fun r σ' => pe_X d 127 (42, [some (.inr (.inr a0)), some (.inl x1), some (.inl x2), some (.inl x3), some (.inl x4), some (.inr (.inr a5)), o6, o7, o8], r.toList ++ [], σ') Φ)) : pe_X d 127 (37, [some (.inr (.inr a0)), some (.inl x1), some (.inl x2), some (.inl x3), some (.inl x4), some (.inr (.inr a5)), o6, o7, o8], [], σ) Φ := by
  refine pe_blk 22 1 ck127 [] (39, [some (.inr (.inr a0)), some (.inl x1), some (.inl x2), some (.inl x3), some (.inl x4), some (.inr (.inr a5)), o6, o7, o8], [.inr (.inr a5)], σ) rfl ?_ ?_
  · exact trivial
  · try simp (disch := omega) only [pe_K_wI, pe_K_wR, pk_mK f_a5]
    have hrc : pe_K σ a5 = 2 := by first | assumption | (simp (disch := omega) only [pe_K_wI, pe_K_wR, pk_mK f_a5]; done) | (simp (disch := omega) only [pe_K_wI, pe_K_wR, pk_mK f_a5]; assumption)
    exact pe_cal 23 ck127 rfl rfl rfl ⟨hrc, by decide⟩ k
theorem b127_42 {d : Nat} {Φ : Option pe_V → pe_H → Prop} {σ : pe_H} {a0 : Nat} {x1 : Int} {x2 : Int} {x3 : Int} {x4 : Int} {a5 : Nat} {o6 : Option pe_V} {o7 : Option pe_V} {o8 : Option pe_V} {s0 : Int} (f_a5 : pk_Fm a5 σ := by assumption) (w0 : pe_in s0 := by unfold pe_in; omega)  (k1 : ¬ s0 = 0 → pe_X d 127 (47, [some (.inr (.inr a0)), some (.inl x1), some (.inl x2), some (.inl x3), some (.inl x4), some (.inr (.inr a5)), o6, o7, o8], [], σ) Φ) (k2 : s0 = 0 → pe_X d 127 (45, [some (.inr (.inr a0)), some (.inl x1), some (.inl x2), some (.inl x3), some (.inl x4), some (.inr (.inr a5)), o6, o7, o8], [], σ) Φ) : pe_X d 127 (42, [some (.inr (.inr a0)), some (.inl x1), some (.inl x2), some (.inl x3), some (.inl x4), some (.inr (.inr a5)), o6, o7, o8], [.inl s0], σ) Φ := by
  refine pe_blk 24 1 ck127 [] (cond (decide (¬ (pe_w s0) = 0)) 47 45, [some (.inr (.inr a0)), some (.inl x1), some (.inl x2), some (.inl x3), some (.inl x4), some (.inr (.inr a5)), o6, o7, o8], [], σ) rfl ?_ ?_
  · exact trivial
  · try simp (disch := omega) only [pe_wi w0]
    exact pe_two' k1 k2
theorem b127_45 {d : Nat} {Φ : Option pe_V → pe_H → Prop} {σ : pe_H} {o0 : Option pe_V} {o1 : Option pe_V} {o2 : Option pe_V} {o3 : Option pe_V} {o4 : Option pe_V} {o5 : Option pe_V} {o6 : Option pe_V} {o7 : Option pe_V} {o8 : Option pe_V}    (k : Φ (some (.inr (.inl 0))) σ) : pe_X d 127 (45, [o0, o1, o2, o3, o4, o5, o6, o7, o8], [], σ) Φ := by
  refine pe_blk 25 1 ck127 [] (46, [o0, o1, o2, o3, o4, o5, o6, o7, o8], [.inr (.inl 0)], σ) rfl ?_ ?_
  · exact trivial
  · exact pe_fine 26 ck127 rfl rfl rfl trivial k
theorem b127_47 {d : Nat} {Φ : Option pe_V → pe_H → Prop} {σ : pe_H} {a0 : Nat} {x1 : Int} {x2 : Int} {x3 : Int} {x4 : Int} {a5 : Nat} {o6 : Option pe_V} {o7 : Option pe_V} {o8 : Option pe_V} (f_a5 : pk_Fm a5 σ := by assumption) (w0 : pe_in (x1 + 1) := by unfold pe_in; omega) (h0 : 12 ≤ pe_K σ a0 ∧ pe_K σ a0 < 19 := by first | assumption | omega) (h1 : 0 ≤ (x1 + 1) := by first | assumption | omega) (h2 : (x1 + 1) < pe_L σ a0 := by first | assumption | omega) (h3 : pe_K σ (pe_R σ a0 (x1 + 1)) = 2 := by first | assumption | omega) (k : pe_M d 15 [.inr (.inr (pe_R σ a0 (x1 + 1))), .inr (.inr a5)] σ (fun r σ' => pe_X d 127 (61, [some (.inr (.inr a0)), some (.inl x1), some (.inl x2), some (.inl x3), some (.inl x4), some (.inr (.inr a5)), some (.inr (.inr (pe_R σ a0 (x1 + 1)))), o7, o8], r.toList ++ [], σ') Φ)) : pe_X d 127 (47, [some (.inr (.inr a0)), some (.inl x1), some (.inl x2), some (.inl x3), some (.inl x4), some (.inr (.inr a5)), o6, o7, o8], [], σ) Φ := by
  refine pe_blk 27 8 ck127 [12 ≤ pe_K σ a0 ∧ pe_K σ a0 < 19, 0 ≤ (pe_w (x1 + 1)), (pe_w (x1 + 1)) < pe_L σ a0] (58, [some (.inr (.inr a0)), some (.inl x1), some (.inl x2), some (.inl x3), some (.inl x4), some (.inr (.inr a5)), some (.inr (.inr (pe_R σ a0 (pe_w (x1 + 1))))), o7, o8], [.inr (.inr a5), .inr (.inr (pe_R σ a0 (pe_w (x1 + 1))))], σ) rfl ?_ ?_
  · first
    | (simp (disch := omega) only [pe_all, pe_wi w0, pe_K_wI, pe_K_wR, pe_L_wI, pe_L_wR]; done)
    | (simp (disch := omega) only [pe_all, pe_wi w0, pe_K_wI, pe_K_wR, pe_L_wI, pe_L_wR]; (repeat' apply And.intro) <;> first | assumption | omega | decide)
  · try simp (disch := omega) only [pe_wi w0, pe_K_wI, pe_K_wR, pe_L_wI, pe_L_wR]
    have hrc : pe_K σ (pe_R σ a0 (x1 + 1)) = 2 := by first | assumption | (simp (disch := omega) only [pe_wi w0, pe_K_wI, pe_K_wR, pe_L_wI, pe_L_wR]; done) | (simp (disch := omega) only [pe_wi w0, pe_K_wI, pe_K_wR, pe_L_wI, pe_L_wR]; assumption)
    exact pe_cal 35 ck127 rfl rfl rfl ⟨hrc, by decide⟩ k
theorem b127_61 {d : Nat} {Φ : Option pe_V → pe_H → Prop} {σ : pe_H} {a0 : Nat} {x1 : Int} {x2 : Int} {x3 : Int} {x4 : Int} {a5 : Nat} {a6 : Nat} {o7 : Option pe_V} {o8 : Option pe_V} (f_a5 : pk_Fm a5 σ := by assumption) (f_a6 : pk_Fm a6 σ := by assumption)   (k : pe_M d 28 [.inr (.inr a6)] σ (fun r σ' => pe_X d 127 (66, [some (.inr (.inr a0)), some (.inl x1), some (.inl x2), some (.inl x3), some (.inl x4), some (.inr (.inr a5)), some (.inr (.inr a6)), o7, o8], r.toList ++ [], σ') Φ)) : pe_X d 127 (61, [some (.inr (.inr a0)), some (.inl x1), some (.inl x2), some (.inl x3), some (.inl x4), some (.inr (.inr a5)), some (.inr (.inr a6)), o7, o8], [], σ) Φ := by
  refine pe_blk 36 1 ck127 [] (63, [some (.inr (.inr a0)), some (.inl x1), some (.inl x2), some (.inl x3), some (.inl x4), some (.inr (.inr a5)), some (.inr (.inr a6)), o7, o8], [.inr (.inr a6)], σ) rfl ?_ ?_
  · exact trivial
  · try simp (disch := omega) only [pe_K_wI, pe_K_wR, pk_mK f_a6]
    have hrc : pe_K σ a6 = 2 := by first | assumption | (simp (disch := omega) only [pe_K_wI, pe_K_wR, pk_mK f_a6]; done) | (simp (disch := omega) only [pe_K_wI, pe_K_wR, pk_mK f_a6]; assumption)
    exact pe_cal 37 ck127 rfl rfl rfl ⟨hrc, by decide⟩ k
set_option maxRecDepth 8000 in
theorem b127_66 {d : Nat} {Φ : Option pe_V → pe_H → Prop} {σ : pe_H} {a0 : Nat} {x1 : Int} {x2 : Int} {x3 : Int} {x4 : Int} {a5 : Nat} {a6 : Nat} {o7 : Option pe_V} {o8 : Option pe_V} {s0 : Int} (f_a5 : pk_Fm a5 σ := by assumption) (f_a6 : pk_Fm a6 σ := by assumption) (w0 : pe_in (x4 - 1) := by unfold pe_in; omega)  (k : pe_M d 127 [.inr (.inr a0), .inl (x1 + 1), .inl (x2 - 1), .inl x3, .inl x4] σ (fun r σ' => pe_X d 127 (85, [some (.inr (.inr a0)), some (.inl x1), some (.inl x2), some (.inl x3), some (.inl x4), some (.inr (.inr a5)), some (.inr (.inr a6)), o7, o8], r.toList ++ [.inr (.inl (x4 - 1))], σ') Φ)) : pe_X d 127 (66, [some (.inr (.inr a0)), some (.inl x1), some (.inl x2), some (.inl x3), some (.inl x4), some (.inr (.inr a5)), some (.inr (.inr a6)), o7, o8], [.inl s0], σ) Φ := by
  refine pe_blk 38 14 ck127 [] (82, [some (.inr (.inr a0)), some (.inl x1), some (.inl x2), some (.inl x3), some (.inl x4), some (.inr (.inr a5)), some (.inr (.inr a6)), o7, o8], [.inl x4, .inl x3, .inl (x2 - 1), .inl (x1 + 1), .inr (.inr a0), .inr (.inl (pe_w (x4 - 1)))], σ) rfl ?_ ?_
  · exact trivial
  · try simp (disch := omega) only [pe_wi w0]
    exact pe_cal 52 ck127 rfl rfl rfl trivial k
set_option maxRecDepth 8000 in
theorem b127_85 {d : Nat} {Φ : Option pe_V → pe_H → Prop} {σ : pe_H} {a0 : Nat} {x1 : Int} {x2 : Int} {x3 : Int} {x4 : Int} {a5 : Nat} {a6 : Nat} {o7 : Option pe_V} {o8 : Option pe_V} {z0 : Int} {z1 : Int} (f_a5 : pk_Fm a5 σ := by assumption) (f_a6 : pk_Fm a6 σ := by assumption)   (k : pe_M d 15 [.inr (.inr a6), .inr (.inr a5)] σ (fun r σ' => pe_X d 127 (95, [some (.inr (.inr a0)), some (.inl x1), some (.inl x2), some (.inl x3), some (.inl x4), some (.inr (.inr a5)), some (.inr (.inr a6)), some (.inr (.inl (z0 * z1))), none], r.toList ++ [], σ') Φ)) : pe_X d 127 (85, [some (.inr (.inr a0)), some (.inl x1), some (.inl x2), some (.inl x3), some (.inl x4), some (.inr (.inr a5)), some (.inr (.inr a6)), o7, o8], [.inr (.inl z1), .inr (.inl z0)], σ) Φ := by
  refine pe_blk 53 4 ck127 [] (92, [some (.inr (.inr a0)), some (.inl x1), some (.inl x2), some (.inl x3), some (.inl x4), some (.inr (.inr a5)), some (.inr (.inr a6)), some (.inr (.inl (z0 * z1))), none], [.inr (.inr a5), .inr (.inr a6)], σ) rfl ?_ ?_
  · exact trivial
  · try simp (disch := omega) only [pe_K_wI, pe_K_wR, pk_mK f_a6]
    have hrc : pe_K σ a6 = 2 := by first | assumption | (simp (disch := omega) only [pe_K_wI, pe_K_wR, pk_mK f_a6]; done) | (simp (disch := omega) only [pe_K_wI, pe_K_wR, pk_mK f_a6]; assumption)
    exact pe_cal 57 ck127 rfl rfl rfl ⟨hrc, by decide⟩ k
set_option maxRecDepth 8000 in
theorem b127_95 {d : Nat} {Φ : Option pe_V → pe_H → Prop} {σ : pe_H} {a0 : Nat} {x1 : Int} {x2 : Int} {x3 : Int} {x4 : Int} {o5 : Option pe_V} {a6 : Nat} {y7 : Int} (f_a6 : pk_Fm a6 σ := by assumption)   (k : pe_M d 29 [.inr (.inr a6)] σ (fun r σ' => pe_X d 127 (100, [some (.inr (.inr a0)), some (.inl x1), some (.inl x2), some (.inl x3), some (.inl x4), o5, some (.inr (.inr a6)), some (.inr (.inl y7)), none], r.toList ++ [], σ') Φ)) : pe_X d 127 (95, [some (.inr (.inr a0)), some (.inl x1), some (.inl x2), some (.inl x3), some (.inl x4), o5, some (.inr (.inr a6)), some (.inr (.inl y7)), none], [], σ) Φ := by
  refine pe_blk 58 1 ck127 [] (97, [some (.inr (.inr a0)), some (.inl x1), some (.inl x2), some (.inl x3), some (.inl x4), o5, some (.inr (.inr a6)), some (.inr (.inl y7)), none], [.inr (.inr a6)], σ) rfl ?_ ?_
  · exact trivial
  · try simp (disch := omega) only [pe_K_wI, pe_K_wR, pk_mK f_a6]
    have hrc : pe_K σ a6 = 2 := by first | assumption | (simp (disch := omega) only [pe_K_wI, pe_K_wR, pk_mK f_a6]; done) | (simp (disch := omega) only [pe_K_wI, pe_K_wR, pk_mK f_a6]; assumption)
    exact pe_cal 59 ck127 rfl rfl rfl ⟨hrc, by decide⟩ k
set_option maxRecDepth 8000 in
theorem b127_100 {d : Nat} {Φ : Option pe_V → pe_H → Prop} {σ : pe_H} {a0 : Nat} {x1 : Int} {x2 : Int} {x3 : Int} {x4 : Int} {o5 : Option pe_V} {o6 : Option pe_V} {y7 : Int}    (k : pe_M d 127 [.inr (.inr a0), .inl (x1 + 1), .inl (x2 - 1), .inl x3, .inl x4] σ (fun r σ' => pe_X d 127 (115, [some (.inr (.inr a0)), some (.inl x1), some (.inl x2), some (.inl x3), some (.inl x4), o5, o6, some (.inr (.inl y7)), none], r.toList ++ [.inr (.inl y7)], σ') Φ)) : pe_X d 127 (100, [some (.inr (.inr a0)), some (.inl x1), some (.inl x2), some (.inl x3), some (.inl x4), o5, o6, some (.inr (.inl y7)), none], [], σ) Φ := by
  refine pe_blk 60 10 ck127 [] (112, [some (.inr (.inr a0)), some (.inl x1), some (.inl x2), some (.inl x3), some (.inl x4), o5, o6, some (.inr (.inl y7)), none], [.inl x4, .inl x3, .inl (x2 - 1), .inl (x1 + 1), .inr (.inr a0), .inr (.inl y7)], σ) rfl ?_ ?_
  · exact trivial
  · exact pe_cal 70 ck127 rfl rfl rfl trivial k
set_option maxRecDepth 8000 in
theorem b127_115 {d : Nat} {Φ : Option pe_V → pe_H → Prop} {σ : pe_H} {o0 : Option pe_V} {o1 : Option pe_V} {o2 : Option pe_V} {o3 : Option pe_V} {o4 : Option pe_V} {o5 : Option pe_V} {o6 : Option pe_V} {o7 : Option pe_V} {o8 : Option pe_V} {z0 : Int} {z1 : Int}    (k : Φ (some (.inr (.inl (z0 + z1)))) σ) : pe_X d 127 (115, [o0, o1, o2, o3, o4, o5, o6, o7, o8], [.inr (.inl z1), .inr (.inl z0)], σ) Φ := by
  refine pe_blk 71 1 ck127 [] (116, [o0, o1, o2, o3, o4, o5, o6, o7, o8], [.inr (.inl (z0 + z1))], σ) rfl ?_ ?_
  · exact trivial
  · exact pe_fine 72 ck127 rfl rfl rfl trivial k
-- StepMachines.power(II)J
def T128 : List (Nat × Instr × Nat) := [(0, .lconst 1, 1), (1, .lstore_n 2, 1), (2, .iconst 0, 1), (3, .istore 4, 2), (5, .iload 4, 2), (7, .iload_n 1, 1), (8, .if_icmp .ge 14, 3), (11, .lload_n 2, 1), (12, .iload_n 0, 1), (13, .i2l, 1), (14, .lmul, 1), (15, .lstore_n 2, 1), (16, .iinc 4 1, 3), (19, .goto (-14), 3), (22, .lload_n 2, 1), (23, .lreturn, 1)]
theorem ck128 : pe_ctx 128 8 false (some .long) 5 T128 := ⟨rfl, rfl, rfl, rfl, by decide +kernel, by decide, by decide⟩
theorem b128_0 {d : Nat} {Φ : Option pe_V → pe_H → Prop} {σ : pe_H} {x0 : Int} {x1 : Int} {o2 : Option pe_V} {o3 : Option pe_V} {o4 : Option pe_V}    (k : pe_X d 128 (5, [some (.inl x0), some (.inl x1), some (.inr (.inl 1)), none, some (.inl 0)], [], σ) Φ) : pe_X d 128 (0, [some (.inl x0), some (.inl x1), o2, o3, o4], [], σ) Φ := by
  refine pe_blk 0 4 ck128 [] (5, [some (.inl x0), some (.inl x1), some (.inr (.inl 1)), none, some (.inl 0)], [], σ) rfl ?_ ?_
  · exact trivial
  · exact k
theorem b128_5 {d : Nat} {Φ : Option pe_V → pe_H → Prop} {σ : pe_H} {x0 : Int} {x1 : Int} {y2 : Int} {x4 : Int}  (w0 : pe_in x1 := by unfold pe_in; omega) (w1 : pe_in x4 := by unfold pe_in; omega)  (k1 : x1 ≤ x4 → pe_X d 128 (22, [some (.inl x0), some (.inl x1), some (.inr (.inl y2)), none, some (.inl x4)], [], σ) Φ) (k2 : ¬ (x1 ≤ x4) → pe_X d 128 (11, [some (.inl x0), some (.inl x1), some (.inr (.inl y2)), none, some (.inl x4)], [], σ) Φ) : pe_X d 128 (5, [some (.inl x0), some (.inl x1), some (.inr (.inl y2)), none, some (.inl x4)], [], σ) Φ := by
  refine pe_blk 4 3 ck128 [] (cond (decide ((pe_w x1) ≤ (pe_w x4))) 22 11, [some (.inl x0), some (.inl x1), some (.inr (.inl y2)), none, some (.inl x4)], [], σ) rfl ?_ ?_
  · exact trivial
  · try simp (disch := omega) only [pe_wi w0, pe_wi w1]
    exact pe_two k1 k2
theorem b128_11 {d : Nat} {Φ : Option pe_V → pe_H → Prop} {σ : pe_H} {x0 : Int} {x1 : Int} {y2 : Int} {x4 : Int}  (w0 : pe_in x0 := by unfold pe_in; omega)  (k : pe_X d 128 (5, [some (.inl x0), some (.inl x1), some (.inr (.inl (y2 * x0))), none, some (.inl (x4 + 1))], [], σ) Φ) : pe_X d 128 (11, [some (.inl x0), some (.inl x1), some (.inr (.inl y2)), none, some (.inl x4)], [], σ) Φ := by
  refine pe_blk 7 7 ck128 [] (5, [some (.inl x0), some (.inl x1), some (.inr (.inl (y2 * (pe_w x0)))), none, some (.inl (x4 + 1))], [], σ) rfl ?_ ?_
  · exact trivial
  · try simp (disch := omega) only [pe_wi w0]
    exact k
theorem b128_22 {d : Nat} {Φ : Option pe_V → pe_H → Prop} {σ : pe_H} {o0 : Option pe_V} {o1 : Option pe_V} {y2 : Int} {o4 : Option pe_V}    (k : Φ (some (.inr (.inl y2))) σ) : pe_X d 128 (22, [o0, o1, some (.inr (.inl y2)), none, o4], [], σ) Φ := by
  refine pe_blk 14 1 ck128 [] (23, [o0, o1, some (.inr (.inl y2)), none, o4], [.inr (.inl y2)], σ) rfl ?_ ?_
  · exact trivial
  · exact pe_fine 15 ck128 rfl rfl rfl trivial k
-- StepMachines.inLeastTerms(JJI)J
def T129 : List (Nat × Instr × Nat) := [(0, .lload_n 2, 1), (1, .lstore 5, 2), (3, .lload_n 0, 1), (4, .lstore 7, 2), (6, .iconst 0, 1), (7, .istore 9, 2), (9, .iload 9, 2), (11, .sipush 1000, 3), (14, .if_icmp .ge 31, 3), (17, .lload 7, 2), (19, .lconst 0, 1), (20, .lcmp, 1), (21, .ifCond .eq 24, 3), (24, .lload 5, 2), (26, .lload 7, 2), (28, .lrem, 1), (29, .lstore 10, 2), (31, .lload 7, 2), (33, .lstore 5, 2), (35, .lload 10, 2), (37, .lstore 7, 2), (39, .iinc 9 1, 3), (42, .goto (-33), 3), (45, .lload 5, 2), (47, .lconst 0, 1), (48, .lcmp, 1), (49, .ifCond .ne 5, 3), (52, .lconst 0, 1), (53, .lreturn, 1), (54, .iload 4, 2), (56, .ifCond .ne 7, 3), (59, .lload_n 0, 1), (60, .goto 4, 3), (63, .lload_n 2, 1), (64, .lload 5, 2), (66, .ldiv, 1), (67, .lreturn, 1)]
theorem ck129 : pe_ctx 129 8 false (some .long) 12 T129 := ⟨rfl, rfl, rfl, rfl, by decide +kernel, by decide, by decide⟩
theorem b129_0 {d : Nat} {Φ : Option pe_V → pe_H → Prop} {σ : pe_H} {y0 : Int} {y2 : Int} {x4 : Int} {o5 : Option pe_V} {o6 : Option pe_V} {o7 : Option pe_V} {o8 : Option pe_V} {o9 : Option pe_V} {o10 : Option pe_V} {o11 : Option pe_V}    (k : pe_X d 129 (9, [some (.inr (.inl y0)), none, some (.inr (.inl y2)), none, some (.inl x4), some (.inr (.inl y2)), none, some (.inr (.inl y0)), none, some (.inl 0), o10, o11], [], σ) Φ) : pe_X d 129 (0, [some (.inr (.inl y0)), none, some (.inr (.inl y2)), none, some (.inl x4), o5, o6, o7, o8, o9, o10, o11], [], σ) Φ := by
  refine pe_blk 0 6 ck129 [] (9, [some (.inr (.inl y0)), none, some (.inr (.inl y2)), none, some (.inl x4), some (.inr (.inl y2)), none, some (.inr (.inl y0)), none, some (.inl 0), o10, o11], [], σ) rfl ?_ ?_
  · exact trivial
  · exact k
theorem b129_9 {d : Nat} {Φ : Option pe_V → pe_H → Prop} {σ : pe_H} {y0 : Int} {y2 : Int} {x4 : Int} {y5 : Int} {y7 : Int} {x9 : Int} {o10 : Option pe_V} {o11 : Option pe_V}  (w0 : pe_in x9 := by unfold pe_in; omega)  (k1 : 1000 ≤ x9 → pe_X d 129 (45, [some (.inr (.inl y0)), none, some (.inr (.inl y2)), none, some (.inl x4), some (.inr (.inl y5)), none, some (.inr (.inl y7)), none, some (.inl x9), o10, o11], [], σ) Φ) (k2 : ¬ (1000 ≤ x9) → pe_X d 129 (17, [some (.inr (.inl y0)), none, some (.inr (.inl y2)), none, some (.inl x4), some (.inr (.inl y5)), none, some (.inr (.inl y7)), none, some (.inl x9), o10, o11], [], σ) Φ) : pe_X d 129 (9, [some (.inr (.inl y0)), none, some (.inr (.inl y2)), none, some (.inl x4), some (.inr (.inl y5)), none, some (.inr (.inl y7)), none, some (.inl x9), o10, o11], [], σ) Φ := by
  refine pe_blk 6 3 ck129 [] (cond (decide ((pe_w 1000) ≤ (pe_w x9))) 45 17, [some (.inr (.inl y0)), none, some (.inr (.inl y2)), none, some (.inl x4), some (.inr (.inl y5)), none, some (.inr (.inl y7)), none, some (.inl x9), o10, o11], [], σ) rfl ?_ ?_
  · exact trivial
  · try simp (disch := omega) only [pe_wi w0, pe_wi (x := 1000) ⟨by decide, by decide⟩]
    exact pe_two k1 k2
theorem b129_17 {d : Nat} {Φ : Option pe_V → pe_H → Prop} {σ : pe_H} {y0 : Int} {y2 : Int} {x4 : Int} {y5 : Int} {y7 : Int} {x9 : Int} {o10 : Option pe_V} {o11 : Option pe_V}  (w0 : pe_in (pe_lcmp y7 0) := by unfold pe_in; omega)  (k1 : (pe_lcmp y7 0) = 0 → pe_X d 129 (45, [some (.inr (.inl y0)), none, some (.inr (.inl y2)), none, some (.inl x4), some (.inr (.inl y5)), none, some (.inr (.inl y7)), none, some (.inl x9), o10, o11], [], σ) Φ) (k2 : ¬ ((pe_lcmp y7 0) = 0) → pe_X d 129 (24, [some (.inr (.inl y0)), none, some (.inr (.inl y2)), none, some (.inl x4), some (.inr (.inl y5)), none, some (.inr (.inl y7)), none, some (.inl x9), o10, o11], [], σ) Φ) : pe_X d 129 (17, [some (.inr (.inl y0)), none, some (.inr (.inl y2)), none, some (.inl x4), some (.inr (.inl y5)), none, some (.inr (.inl y7)), none, some (.inl x9), o10, o11], [], σ) Φ := by
  refine pe_blk 9 4 ck129 [] (cond (decide ((pe_w (pe_lcmp y7 0)) = 0)) 45 24, [some (.inr (.inl y0)), none, some (.inr (.inl y2)), none, some (.inl x4), some (.inr (.inl y5)), none, some (.inr (.inl y7)), none, some (.inl x9), o10, o11], [], σ) rfl ?_ ?_
  · exact trivial
  · try simp (disch := omega) only [pe_wi w0]
    exact pe_two k1 k2
theorem b129_24 {d : Nat} {Φ : Option pe_V → pe_H → Prop} {σ : pe_H} {y0 : Int} {y2 : Int} {x4 : Int} {y5 : Int} {y7 : Int} {x9 : Int} {o10 : Option pe_V} {o11 : Option pe_V}   (h0 : ¬ pe_wl y7 = 0 := by first | assumption | omega) (k : pe_X d 129 (9, [some (.inr (.inl y0)), none, some (.inr (.inl y2)), none, some (.inl x4), some (.inr (.inl y7)), none, some (.inr (.inl (Int.tmod (pe_wl y5) (pe_wl y7)))), none, some (.inl (x9 + 1)), some (.inr (.inl (Int.tmod (pe_wl y5) (pe_wl y7)))), none], [], σ) Φ) : pe_X d 129 (24, [some (.inr (.inl y0)), none, some (.inr (.inl y2)), none, some (.inl x4), some (.inr (.inl y5)), none, some (.inr (.inl y7)), none, some (.inl x9), o10, o11], [], σ) Φ := by
  refine pe_blk 13 10 ck129 [¬ pe_wl y7 = 0] (9, [some (.inr (.inl y0)), none, some (.inr (.inl y2)), none, some (.inl x4), some (.inr (.inl y7)), none, some (.inr (.inl (Int.tmod (pe_wl y5) (pe_wl y7)))), none, some (.inl (x9 + 1)), some (.inr (.inl (Int.tmod (pe_wl y5) (pe_wl y7)))), none], [], σ) rfl ?_ ?_
  · first
    | (simp (disch := omega) only [pe_all, ]; done)
    | (simp (disch := omega) only [pe_all, ]; (repeat' apply And.intro) <;> first | assumption | omega | decide)
  · exact k
theorem b129_45 {d : Nat} {Φ : Option pe_V → pe_H → Prop} {σ : pe_H} {y0 : Int} {y2 : Int} {x4 : Int} {y5 : Int} {o7 : Option pe_V} {o8 : Option pe_V} {o9 : Option pe_V} {o10 : Option pe_V} {o11 : Option pe_V}  (w0 : pe_in (pe_lcmp y5 0) := by unfold pe_in; omega)  (k1 : ¬ (pe_lcmp y5 0) = 0 → pe_X d 129 (54, [some (.inr (.inl y0)), none, some (.inr (.inl y2)), none, some (.inl x4), some (.inr (.inl y5)), none, o7, o8, o9, o10, o11], [], σ) Φ) (k2 : (pe_lcmp y5 0) = 0 → pe_X d 129 (52, [some (.inr (.inl y0)), none, some (.inr (.inl y2)), none, some (.inl x4), some (.inr (.inl y5)), none, o7, o8, o9, o10, o11], [], σ) Φ) : pe_X d 129 (45, [some (.inr (.inl y0)), none, some (.inr (.inl y2)), none, some (.inl x4), some (.inr (.inl y5)), none, o7, o8, o9, o10, o11], [], σ) Φ := by
  refine pe_blk 23 4 ck129 [] (cond (decide (¬ (pe_w (pe_lcmp y5 0)) = 0)) 54 52, [some (.inr (.inl y0)), none, some (.inr (.inl y2)), none, some (.inl x4), some (.inr (.inl y5)), none, o7, o8, o9, o10, o11], [], σ) rfl ?_ ?_
  · exact trivial
  · try simp (disch := omega) only [pe_wi w0]
    exact pe_two' k1 k2
theorem b129_52 {d : Nat} {Φ : Option pe_V → pe_H → Prop} {σ : pe_H} {o0 : Option pe_V} {o1 : Option pe_V} {o2 : Option pe_V} {o3 : Option pe_V} {o4 : Option pe_V} {o5 : Option pe_V} {o6 : Option pe_V} {o7 : Option pe_V} {o8 : Option pe_V} {o9 : Option pe_V} {o10 : Option pe_V} {o11 : Option pe_V}    (k : Φ (some (.inr (.inl 0))) σ) : pe_X d 129 (52, [o0, o1, o2, o3, o4, o5, o6, o7, o8, o9, o10, o11], [], σ) Φ := by
  refine pe_blk 27 1 ck129 [] (53, [o0, o1, o2, o3, o4, o5, o6, o7, o8, o9, o10, o11], [.inr (.inl 0)], σ) rfl ?_ ?_
  · exact trivial
  · exact pe_fine 28 ck129 rfl rfl rfl trivial k
theorem b129_54 {d : Nat} {Φ : Option pe_V → pe_H → Prop} {σ : pe_H} {y0 : Int} {y2 : Int} {x4 : Int} {y5 : Int} {o7 : Option pe_V} {o8 : Option pe_V} {o9 : Option pe_V} {o10 : Option pe_V} {o11 : Option pe_V}  (w0 : pe_in x4 := by unfold pe_in; omega)  (k1 : ¬ x4 = 0 → pe_X d 129 (63, [some (.inr (.inl y0)), none, some (.inr (.inl y2)), none, some (.inl x4), some (.inr (.inl y5)), none, o7, o8, o9, o10, o11], [], σ) Φ) (k2 : x4 = 0 → pe_X d 129 (59, [some (.inr (.inl y0)), none, some (.inr (.inl y2)), none, some (.inl x4), some (.inr (.inl y5)), none, o7, o8, o9, o10, o11], [], σ) Φ) : pe_X d 129 (54, [some (.inr (.inl y0)), none, some (.inr (.inl y2)), none, some (.inl x4), some (.inr (.inl y5)), none, o7, o8, o9, o10, o11], [], σ) Φ := by
  refine pe_blk 29 2 ck129 [] (cond (decide (¬ (pe_w x4) = 0)) 63 59, [some (.inr (.inl y0)), none, some (.inr (.inl y2)), none, some (.inl x4), some (.inr (.inl y5)), none, o7, o8, o9, o10, o11], [], σ) rfl ?_ ?_
  · exact trivial
  · try simp (disch := omega) only [pe_wi w0]
    exact pe_two' k1 k2
theorem b129_59 {d : Nat} {Φ : Option pe_V → pe_H → Prop} {σ : pe_H} {y0 : Int} {o2 : Option pe_V} {o3 : Option pe_V} {o4 : Option pe_V} {y5 : Int} {o7 : Option pe_V} {o8 : Option pe_V} {o9 : Option pe_V} {o10 : Option pe_V} {o11 : Option pe_V}    (k : pe_X d 129 (64, [some (.inr (.inl y0)), none, o2, o3, o4, some (.inr (.inl y5)), none, o7, o8, o9, o10, o11], [.inr (.inl y0)], σ) Φ) : pe_X d 129 (59, [some (.inr (.inl y0)), none, o2, o3, o4, some (.inr (.inl y5)), none, o7, o8, o9, o10, o11], [], σ) Φ := by
  refine pe_blk 31 2 ck129 [] (64, [some (.inr (.inl y0)), none, o2, o3, o4, some (.inr (.inl y5)), none, o7, o8, o9, o10, o11], [.inr (.inl y0)], σ) rfl ?_ ?_
  · exact trivial
  · exact k
theorem b129_63 {d : Nat} {Φ : Option pe_V → pe_H → Prop} {σ : pe_H} {o0 : Option pe_V} {o1 : Option pe_V} {y2 : Int} {o4 : Option pe_V} {y5 : Int} {o7 : Option pe_V} {o8 : Option pe_V} {o9 : Option pe_V} {o10 : Option pe_V} {o11 : Option pe_V}    (k : pe_X d 129 (64, [o0, o1, some (.inr (.inl y2)), none, o4, some (.inr (.inl y5)), none, o7, o8, o9, o10, o11], [.inr (.inl y2)], σ) Φ) : pe_X d 129 (63, [o0, o1, some (.inr (.inl y2)), none, o4, some (.inr (.inl y5)), none, o7, o8, o9, o10, o11], [], σ) Φ := by
  refine pe_blk 33 1 ck129 [] (64, [o0, o1, some (.inr (.inl y2)), none, o4, some (.inr (.inl y5)), none, o7, o8, o9, o10, o11], [.inr (.inl y2)], σ) rfl ?_ ?_
  · exact trivial
  · exact k
theorem b129_64 {d : Nat} {Φ : Option pe_V → pe_H → Prop} {σ : pe_H} {o0 : Option pe_V} {o1 : Option pe_V} {o2 : Option pe_V} {o3 : Option pe_V} {o4 : Option pe_V} {y5 : Int} {o7 : Option pe_V} {o8 : Option pe_V} {o9 : Option pe_V} {o10 : Option pe_V} {o11 : Option pe_V} {z0 : Int}   (h0 : ¬ pe_wl y5 = 0 := by first | assumption | omega) (k : Φ (some (.inr (.inl (Int.tdiv (pe_wl z0) (pe_wl y5))))) σ) : pe_X d 129 (64, [o0, o1, o2, o3, o4, some (.inr (.inl y5)), none, o7, o8, o9, o10, o11], [.inr (.inl z0)], σ) Φ := by
  refine pe_blk 34 2 ck129 [¬ pe_wl y5 = 0] (67, [o0, o1, o2, o3, o4, some (.inr (.inl y5)), none, o7, o8, o9, o10, o11], [.inr (.inl (Int.tdiv (pe_wl z0) (pe_wl y5)))], σ) rfl ?_ ?_
  · first
    | (simp (disch := omega) only [pe_all, ]; done)
    | (simp (disch := omega) only [pe_all, ]; (repeat' apply And.intro) <;> first | assumption | omega | decide)
  · exact pe_fine 36 ck129 rfl rfl rfl trivial k
-- StepMachines.runByLot(LStepMachines$Machine;)V
def T130 : List (Nat × Instr × Nat) := [(0, .iconst 0, 1), (1, .istore_n 2, 1), (2, .iload_n 2, 1), (3, .bipush 6, 2), (5, .if_icmp .ge 45, 3), (8, .aload_n 0, 1), (9, .aload_n 1, 1), (10, .getfield 235, 3), (13, .invokevirtual 340, 3), (16, .istore_n 3, 1), (17, .aload_n 0, 1), (18, .bipush 100, 2), (20, .invokevirtual 340, 3), (23, .istore 4, 2), (25, .aload_n 1, 1), (26, .getfield 110, 3), (29, .iload_n 3, 1), (30, .aaload, 1), (31, .invokevirtual 189, 3), (34, .ifCond .eq 10, 3), (37, .aload_n 1, 1), (38, .iload_n 3, 1), (39, .iload 4, 2), (41, .invokevirtual 193, 3), (44, .iinc 2 1, 3), (47, .goto (-45), 3), (50, .aload_n 1, 1), (51, .iconst 5, 1), (52, .invokevirtual 223, 3), (55, .return_, 1)]
theorem ck130 : pe_ctx 130 8 false none 5 T130 := ⟨rfl, rfl, rfl, rfl, by decide +kernel, by decide, by decide⟩
theorem b130_0 {d : Nat} {Φ : Option pe_V → pe_H → Prop} {σ : pe_H} {a0 : Nat} {a1 : Nat} {o2 : Option pe_V} {o3 : Option pe_V} {o4 : Option pe_V} (f_a0 : pk_Fs a0 σ := by assumption) (f_a1 : pk_Fm a1 σ := by assumption)   (k : pe_X d 130 (2, [some (.inr (.inr a0)), some (.inr (.inr a1)), some (.inl 0), o3, o4], [], σ) Φ) : pe_X d 130 (0, [some (.inr (.inr a0)), some (.inr (.inr a1)), o2, o3, o4], [], σ) Φ := by
  refine pe_blk 0 2 ck130 [] (2, [some (.inr (.inr a0)), some (.inr (.inr a1)), some (.inl 0), o3, o4], [], σ) rfl ?_ ?_
  · exact trivial
  · exact k
theorem b130_2 {d : Nat} {Φ : Option pe_V → pe_H → Prop} {σ : pe_H} {a0 : Nat} {a1 : Nat} {x2 : Int} {o3 : Option pe_V} {o4 : Option pe_V} (f_a0 : pk_Fs a0 σ := by assumption) (f_a1 : pk_Fm a1 σ := by assumption) (w0 : pe_in x2 := by unfold pe_in; omega)  (k1 : 6 ≤ x2 → pe_X d 130 (50, [some (.inr (.inr a0)), some (.inr (.inr a1)), some (.inl x2), o3, o4], [], σ) Φ) (k2 : ¬ (6 ≤ x2) → pe_X d 130 (8, [some (.inr (.inr a0)), some (.inr (.inr a1)), some (.inl x2), o3, o4], [], σ) Φ) : pe_X d 130 (2, [some (.inr (.inr a0)), some (.inr (.inr a1)), some (.inl x2), o3, o4], [], σ) Φ := by
  refine pe_blk 2 3 ck130 [] (cond (decide ((pe_w 6) ≤ (pe_w x2))) 50 8, [some (.inr (.inr a0)), some (.inr (.inr a1)), some (.inl x2), o3, o4], [], σ) rfl ?_ ?_
  · exact trivial
  · try simp (disch := omega) only [pe_wi w0, pe_wi (x := 6) ⟨by decide, by decide⟩]
    exact pe_two k1 k2
theorem b130_8 {d : Nat} {Φ : Option pe_V → pe_H → Prop} {σ : pe_H} {a0 : Nat} {a1 : Nat} {x2 : Int} {o3 : Option pe_V} {o4 : Option pe_V} (f_a0 : pk_Fs a0 σ := by assumption) (f_a1 : pk_Fm a1 σ := by assumption)   (k : pe_M d 131 [.inr (.inr a0), .inl (pe_I σ a1 4)] σ (fun r σ' => pe_X d 130 (16, [some (.inr (.inr a0)), some (.inr (.inr a1)), some (.inl x2), o3, o4], r.toList ++ [], σ') Φ)) : pe_X d 130 (8, [some (.inr (.inr a0)), some (.inr (.inr a1)), some (.inl x2), o3, o4], [], σ) Φ := by
  refine pe_blk 5 3 ck130 [pe_K σ a1 = 2] (13, [some (.inr (.inr a0)), some (.inr (.inr a1)), some (.inl x2), o3, o4], [.inl (pe_I σ a1 4), .inr (.inr a0)], σ) rfl ?_ ?_
  · first
    | (simp (disch := omega) only [pe_all, pe_K_wI, pe_K_wR, pk_mK f_a1, pk_sK f_a0]; done)
    | (simp (disch := omega) only [pe_all, pe_K_wI, pe_K_wR, pk_mK f_a1, pk_sK f_a0]; (repeat' apply And.intro) <;> first | assumption | omega | decide)
  · try simp (disch := omega) only [pe_K_wI, pe_K_wR, pk_mK f_a1, pk_sK f_a0]
    have hrc : pe_K σ a0 = 8 := by first | assumption | (simp (disch := omega) only [pe_K_wI, pe_K_wR, pk_mK f_a1, pk_sK f_a0]; done) | (simp (disch := omega) only [pe_K_wI, pe_K_wR, pk_mK f_a1, pk_sK f_a0]; assumption)
    exact pe_cal 8 ck130 rfl rfl rfl ⟨hrc, by decide⟩ k
theorem b130_16 {d : Nat} {Φ : Option pe_V → pe_H → Prop} {σ : pe_H} {a0 : Nat} {a1 : Nat} {x2 : Int} {o3 : Option pe_V} {o4 : Option pe_V} {s0 : Int} (f_a0 : pk_Fs a0 σ := by assumption) (f_a1 : pk_Fm a1 σ := by assumption)   (k : pe_M d 131 [.inr (.inr a0), .inl 100] σ (fun r σ' => pe_X d 130 (23, [some (.inr (.inr a0)), some (.inr (.inr a1)), some (.inl x2), some (.inl s0), o4], r.toList ++ [], σ') Φ)) : pe_X d 130 (16, [some (.inr (.inr a0)), some (.inr (.inr a1)), some (.inl x2), o3, o4], [.inl s0], σ) Φ := by
  refine pe_blk 9 3 ck130 [] (20, [some (.inr (.inr a0)), some (.inr (.inr a1)), some (.inl x2), some (.inl s0), o4], [.inl 100, .inr (.inr a0)], σ) rfl ?_ ?_
  · exact trivial
  · try simp (disch := omega) only [pe_K_wI, pe_K_wR, pk_sK f_a0]
    have hrc : pe_K σ a0 = 8 := by first | assumption | (simp (disch := omega) only [pe_K_wI, pe_K_wR, pk_sK f_a0]; done) | (simp (disch := omega) only [pe_K_wI, pe_K_wR, pk_sK f_a0]; assumption)
    exact pe_cal 12 ck130 rfl rfl rfl ⟨hrc, by decide⟩ k
theorem b130_23 {d : Nat} {Φ : Option pe_V → pe_H → Prop} {σ : pe_H} {a0 : Nat} {a1 : Nat} {x2 : Int} {x3 : Int} {o4 : Option pe_V} {s0 : Int} (f_a0 : pk_Fs a0 σ := by assumption) (f_a1 : pk_Fm a1 σ := by assumption) (w0 : pe_in x3 := by unfold pe_in; omega) (h0 : 0 ≤ x3 := by first | assumption | omega) (h1 : x3 < 8 := by first | assumption | omega) (k : pe_M d 4 [.inr (.inr (pk_c a1 x3))] σ (fun r σ' => pe_X d 130 (34, [some (.inr (.inr a0)), some (.inr (.inr a1)), some (.inl x2), some (.inl x3), some (.inl s0)], r.toList ++ [], σ') Φ)) : pe_X d 130 (23, [some (.inr (.inr a0)), some (.inr (.inr a1)), some (.inl x2), some (.inl x3), o4], [.inl s0], σ) Φ := by
  refine pe_blk 13 5 ck130 [pe_K σ a1 = 2, 12 ≤ pe_K σ (pe_R σ a1 1) ∧ pe_K σ (pe_R σ a1 1) < 19, 0 ≤ (pe_w x3), (pe_w x3) < pe_L σ (pe_R σ a1 1)] (31, [some (.inr (.inr a0)), some (.inr (.inr a1)), some (.inl x2), some (.inl x3), some (.inl s0)], [.inr (.inr (pe_R σ (pe_R σ a1 1) (pe_w x3)))], σ) rfl ?_ ?_
  · first
    | (simp (disch := omega) only [pe_all, pe_wi w0, pe_K_wI, pe_K_wR, pe_L_wI, pe_L_wR, pe_R_nej, pe_R_ner, pe_R_wI, pk_mE2 f_a1 (i := x3) (by omega) (by omega), pk_mK f_a1, pk_mK2 f_a1, pk_mL2 f_a1, pk_mR2 f_a1, pk_oK (pk_mO f_a1 (i := x3) (by omega) (by omega))]; done)
    | (simp (disch := omega) only [pe_all, pe_wi w0, pe_K_wI, pe_K_wR, pe_L_wI, pe_L_wR, pe_R_nej, pe_R_ner, pe_R_wI, pk_mE2 f_a1 (i := x3) (by omega) (by omega), pk_mK f_a1, pk_mK2 f_a1, pk_mL2 f_a1, pk_mR2 f_a1, pk_oK (pk_mO f_a1 (i := x3) (by omega) (by omega))]; (repeat' apply And.intro) <;> first | assumption | omega | decide)
  · try simp (disch := omega) only [pe_wi w0, pe_K_wI, pe_K_wR, pe_L_wI, pe_L_wR, pe_R_nej, pe_R_ner, pe_R_wI, pk_mE2 f_a1 (i := x3) (by omega) (by omega), pk_mK f_a1, pk_mK2 f_a1, pk_mL2 f_a1, pk_mR2 f_a1, pk_oK (pk_mO f_a1 (i := x3) (by omega) (by omega))]
    have hrc : pe_K σ (pk_c a1 x3) = 0 := by first | assumption | (simp (disch := omega) only [pe_wi w0, pe_K_wI, pe_K_wR, pe_L_wI, pe_L_wR, pe_R_nej, pe_R_ner, pe_R_wI, pk_mE2 f_a1 (i := x3) (by omega) (by omega), pk_mK f_a1, pk_mK2 f_a1, pk_mL2 f_a1, pk_mR2 f_a1, pk_oK (pk_mO f_a1 (i := x3) (by omega) (by omega))]; done) | (simp (disch := omega) only [pe_wi w0, pe_K_wI, pe_K_wR, pe_L_wI, pe_L_wR, pe_R_nej, pe_R_ner, pe_R_wI, pk_mE2 f_a1 (i := x3) (by omega) (by omega), pk_mK f_a1, pk_mK2 f_a1, pk_mL2 f_a1, pk_mR2 f_a1, pk_oK (pk_mO f_a1 (i := x3) (by omega) (by omega))]; assumption)
    exact pe_cal 18 ck130 rfl rfl rfl ⟨hrc, by decide⟩ k
theorem b130_34 {d : Nat} {Φ : Option pe_V → pe_H → Prop} {σ : pe_H} {a0 : Nat} {a1 : Nat} {x2 : Int} {x3 : Int} {x4 : Int} {s0 : Int} (f_a0 : pk_Fs a0 σ := by assumption) (f_a1 : pk_Fm a1 σ := by assumption) (w0 : pe_in s0 := by unfold pe_in; omega)  (k1 : s0 = 0 → pe_X d 130 (44, [some (.inr (.inr a0)), some (.inr (.inr a1)), some (.inl x2), some (.inl x3), some (.inl x4)], [], σ) Φ) (k2 : ¬ (s0 = 0) → pe_X d 130 (37, [some (.inr (.inr a0)), some (.inr (.inr a1)), some (.inl x2), some (.inl x3), some (.inl x4)], [], σ) Φ) : pe_X d 130 (34, [some (.inr (.inr a0)), some (.inr (.inr a1)), some (.inl x2), some (.inl x3), some (.inl x4)], [.inl s0], σ) Φ := by
  refine pe_blk 19 1 ck130 [] (cond (decide ((pe_w s0) = 0)) 44 37, [some (.inr (.inr a0)), some (.inr (.inr a1)), some (.inl x2), some (.inl x3), some (.inl x4)], [], σ) rfl ?_ ?_
  · exact trivial
  · try simp (disch := omega) only [pe_wi w0]
    exact pe_two k1 k2
theorem b130_37 {d : Nat} {Φ : Option pe_V → pe_H → Prop} {σ : pe_H} {a0 : Nat} {a1 : Nat} {x2 : Int} {x3 : Int} {x4 : Int} (f_a0 : pk_Fs a0 σ := by assumption) (f_a1 : pk_Fm a1 σ := by assumption)   (k : pe_M d 25 [.inr (.inr a1), .inl x3, .inl x4] σ (fun r σ' => pe_X d 130 (44, [some (.inr (.inr a0)), some (.inr (.inr a1)), some (.inl x2), some (.inl x3), some (.inl x4)], r.toList ++ [], σ') Φ)) : pe_X d 130 (37, [some (.inr (.inr a0)), some (.inr (.inr a1)), some (.inl x2), some (.inl x3), some (.inl x4)], [], σ) Φ := by
  refine pe_blk 20 3 ck130 [] (41, [some (.inr (.inr a0)), some (.inr (.inr a1)), some (.inl x2), some (.inl x3), some (.inl x4)], [.inl x4, .inl x3, .inr (.inr a1)], σ) rfl ?_ ?_
  · exact trivial
  · try simp (disch := omega) only [pe_K_wI, pe_K_wR, pk_mK f_a1]
    have hrc : pe_K σ a1 = 2 := by first | assumption | (simp (disch := omega) only [pe_K_wI, pe_K_wR, pk_mK f_a1]; done) | (simp (disch := omega) only [pe_K_wI, pe_K_wR, pk_mK f_a1]; assumption)
    exact pe_cal 23 ck130 rfl rfl rfl ⟨hrc, by decide⟩ k
theorem b130_44 {d : Nat} {Φ : Option pe_V → pe_H → Prop} {σ : pe_H} {a0 : Nat} {a1 : Nat} {x2 : Int} {o3 : Option pe_V} {o4 : Option pe_V} (f_a0 : pk_Fs a0 σ := by assumption) (f_a1 : pk_Fm a1 σ := by assumption)   (k : pe_X d 130 (2, [some (.inr (.inr a0)), some (.inr (.inr a1)), some (.inl (x2 + 1)), o3, o4], [], σ) Φ) : pe_X d 130 (44, [some (.inr (.inr a0)), some (.inr (.inr a1)), some (.inl x2), o3, o4], [], σ) Φ := by
  refine pe_blk 24 2 ck130 [] (2, [some (.inr (.inr a0)), some (.inr (.inr a1)), some (.inl (x2 + 1)), o3, o4], [], σ) rfl ?_ ?_
  · exact trivial
  · exact k
theorem b130_50 {d : Nat} {Φ : Option pe_V → pe_H → Prop} {σ : pe_H} {o0 : Option pe_V} {a1 : Nat} {o2 : Option pe_V} {o3 : Option pe_V} {o4 : Option pe_V} (f_a1 : pk_Fm a1 σ := by assumption)   (k : pe_M d 27 [.inr (.inr a1), .inl 5] σ (fun r σ' => pe_X d 130 (55, [o0, some (.inr (.inr a1)), o2, o3, o4], r.toList ++ [], σ') Φ)) : pe_X d 130 (50, [o0, some (.inr (.inr a1)), o2, o3, o4], [], σ) Φ := by
  refine pe_blk 26 2 ck130 [] (52, [o0, some (.inr (.inr a1)), o2, o3, o4], [.inl 5, .inr (.inr a1)], σ) rfl ?_ ?_
  · exact trivial
  · try simp (disch := omega) only [pe_K_wI, pe_K_wR, pk_mK f_a1]
    have hrc : pe_K σ a1 = 2 := by first | assumption | (simp (disch := omega) only [pe_K_wI, pe_K_wR, pk_mK f_a1]; done) | (simp (disch := omega) only [pe_K_wI, pe_K_wR, pk_mK f_a1]; assumption)
    exact pe_cal 28 ck130 rfl rfl rfl ⟨hrc, by decide⟩ k
theorem b130_55 {d : Nat} {Φ : Option pe_V → pe_H → Prop} {σ : pe_H} {o0 : Option pe_V} {o1 : Option pe_V} {o2 : Option pe_V} {o3 : Option pe_V} {o4 : Option pe_V}    (k : Φ none σ) : pe_X d 130 (55, [o0, o1, o2, o3, o4], [], σ) Φ := by
  exact pe_fine 29 ck130 rfl rfl rfl trivial k
-- StepMachines.draw(I)I
def T131 : List (Nat × Instr × Nat) := [(0, .aload_n 0, 1), (1, .aload_n 0, 1), (2, .getfield 46, 3), (5, .ldc_w 343, 3), (8, .imul, 1), (9, .sipush 12345, 3), (12, .iadd, 1), (13, .putfield 46, 3), (16, .iload_n 1, 1), (17, .ifCond .gt 7, 3), (20, .iconst 0, 1), (21, .goto 17, 3), (24, .aload_n 0, 1), (25, .getfield 46, 3), (28, .ldc_w 344, 3), (31, .iand, 1), (32, .ldc_w 345, 3), (35, .idiv, 1), (36, .iload_n 1, 1), (37, .irem, 1), (38, .ireturn, 1)]
theorem ck131 : pe_ctx 131 8 false (some .int) 2 T131 := ⟨rfl, rfl, rfl, rfl, by decide +kernel, by decide, by decide⟩
theorem b131_0 {d : Nat} {Φ : Option pe_V → pe_H → Prop} {σ : pe_H} {a0 : Nat} {x1 : Int} (f_a0 : pk_Fs a0 σ := by assumption) (w0 : pe_in x1 := by unfold pe_in; omega)  (k1 : 0 < x1 → pe_X d 131 (24, [some (.inr (.inr a0)), some (.inl x1)], [], pe_wI σ a0 7 (((pe_I σ a0 7) * 1103515245) + 12345)) Φ) (k2 : ¬ (0 < x1) → pe_X d 131 (20, [some (.inr (.inr a0)), some (.inl x1)], [], pe_wI σ a0 7 (((pe_I σ a0 7) * 1103515245) + 12345)) Φ) : pe_X d 131 (0, [some (.inr (.inr a0)), some (.inl x1)], [], σ) Φ := by
  refine pe_blk 0 10 ck131 [pe_K σ a0 = 8, pe_K σ a0 = 8] (cond (decide (0 < (pe_w x1))) 24 20, [some (.inr (.inr a0)), some (.inl x1)], [], pe_wI σ a0 7 (((pe_I σ a0 7) * 1103515245) + 12345)) rfl ?_ ?_
  · first
    | (simp (disch := omega) only [pe_all, pe_wi w0, pe_K_wI, pe_K_wR, pk_sK f_a0]; done)
    | (simp (disch := omega) only [pe_all, pe_wi w0, pe_K_wI, pe_K_wR, pk_sK f_a0]; (repeat' apply And.intro) <;> first | assumption | omega | decide)
  · try simp (disch := omega) only [pe_wi w0, pe_K_wI, pe_K_wR, pk_sK f_a0]
    exact pe_two k1 k2
theorem b131_20 {d : Nat} {Φ : Option pe_V → pe_H → Prop} {σ : pe_H} {o0 : Option pe_V} {o1 : Option pe_V}    (k : pe_X d 131 (38, [o0, o1], [.inl 0], σ) Φ) : pe_X d 131 (20, [o0, o1], [], σ) Φ := by
  refine pe_blk 10 2 ck131 [] (38, [o0, o1], [.inl 0], σ) rfl ?_ ?_
  · exact trivial
  · exact k
theorem b131_24 {d : Nat} {Φ : Option pe_V → pe_H → Prop} {σ : pe_H} {a0 : Nat} {x1 : Int} (f_a0 : pk_Fs a0 σ := by assumption) (w0 : pe_in (pe_and (pe_I σ a0 7) 2147483647) := by unfold pe_in; omega) (w1 : pe_in x1 := by unfold pe_in; omega) (w2 : pe_in (Int.tdiv (pe_and (pe_I σ a0 7) 2147483647) 65536) := by unfold pe_in; omega) (h0 : ¬ 65536 = 0 := by first | assumption | omega) (h1 : ¬ x1 = 0 := by first | assumption | omega) (k : pe_X d 131 (38, [some (.inr (.inr a0)), some (.inl x1)], [.inl (Int.tmod (Int.tdiv (pe_and (pe_I σ a0 7) 2147483647) 65536) x1)], σ) Φ) : pe_X d 131 (24, [some (.inr (.inr a0)), some (.inl x1)], [], σ) Φ := by
  refine pe_blk 12 8 ck131 [pe_K σ a0 = 8, ¬ (pe_w 65536) = 0, ¬ (pe_w x1) = 0] (38, [some (.inr (.inr a0)), some (.inl x1)], [.inl (Int.tmod (pe_w (Int.tdiv (pe_w (pe_and (pe_I σ a0 7) 2147483647)) (pe_w 65536))) (pe_w x1))], σ) rfl ?_ ?_
  · first
    | (simp (disch := omega) only [pe_all, pe_wi w0, pe_wi w1, pe_wi w2, pe_wi (x := 65536) ⟨by decide, by decide⟩, pe_K_wI, pe_K_wR, pk_sK f_a0]; done)
    | (simp (disch := omega) only [pe_all, pe_wi w0, pe_wi w1, pe_wi w2, pe_wi (x := 65536) ⟨by decide, by decide⟩, pe_K_wI, pe_K_wR, pk_sK f_a0]; (repeat' apply And.intro) <;> first | assumption | omega | decide)
  · try simp (disch := omega) only [pe_wi w0, pe_wi w1, pe_wi w2, pe_wi (x := 65536) ⟨by decide, by decide⟩, pe_K_wI, pe_K_wR, pk_sK f_a0]
    exact k
theorem b131_38 {d : Nat} {Φ : Option pe_V → pe_H → Prop} {σ : pe_H} {o0 : Option pe_V} {o1 : Option pe_V} {s0 : Int}    (k : Φ (some (.inl s0)) σ) : pe_X d 131 (38, [o0, o1], [.inl s0], σ) Φ := by
  exact pe_fine 20 ck131 rfl rfl rfl trivial k
