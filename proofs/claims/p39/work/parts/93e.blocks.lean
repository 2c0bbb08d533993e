/-! THE LAW, blocks: by program -/
-- StepMachinesLaw.begin([III)Z
def T170 : List (Nat × Instr × Nat) := [(0, .bipush 100, 2), (2, .newarray .int, 2), (4, .astore 4, 2), (6, .iconst 0, 1), (7, .istore 5, 2), (9, .iconst 0, 1), (10, .istore 6, 2), (12, .iload 6, 2), (14, .iconst 5, 1), (15, .if_icmp .ge 29, 3), (18, .aload_n 0, 1), (19, .aload_n 1, 1), (20, .iload_n 2, 1), (21, .bipush 10, 2), (23, .iload 6, 2), (25, .imul, 1), (26, .iadd, 1), (27, .iload 6, 2), (29, .aload 4, 2), (31, .iload 5, 2), (33, .invokevirtual 263, 3), (36, .istore 5, 2), (38, .iinc 6 1, 3), (41, .goto (-29), 3), (44, .aload_n 0, 1), (45, .aload 4, 2), (47, .iload 5, 2), (49, .invokevirtual 267, 3), (52, .iconst 5, 1), (53, .if_icmp .eq 5, 3), (56, .iconst 0, 1), (57, .ireturn, 1), (58, .aload_n 1, 1), (59, .iload_n 2, 1), (60, .bipush 50, 2), (62, .iadd, 1), (63, .iload_n 3, 1), (64, .iconst 1, 1), (65, .iadd, 1), (66, .invokestatic 218, 3), (69, .istore 6, 2), (71, .iload 6, 2), (73, .ifCond .le 53, 3), (76, .aload_n 1, 1), (77, .iload_n 2, 1), (78, .bipush 50, 2), (80, .iadd, 1), (81, .iload 6, 2), (83, .iadd, 1), (84, .invokestatic 40, 3), (87, .ldc 44, 2), (89, .iand, 1), (90, .istore 7, 2), (92, .aload_n 0, 1), (93, .iload 7, 2), (95, .iconst 5, 1), (96, .irem, 1), (97, .iload 7, 2), (99, .iconst 5, 1), (100, .idiv, 1), (101, .bipush 6, 2), (103, .irem, 1), (104, .iload 7, 2), (106, .bipush 30, 2), (108, .idiv, 1), (109, .bipush 10, 2), (111, .irem, 1), (112, .invokevirtual 270, 3), (115, .ifCond .ne 5, 3), (118, .iconst 0, 1), (119, .ireturn, 1), (120, .iinc 6 (-1), 3), (123, .goto (-52), 3), (126, .aload_n 1, 1), (127, .iload_n 2, 1), (128, .bipush 59, 2), (130, .iadd, 1), (131, .bipush 9, 2), (133, .invokestatic 218, 3), (136, .istore 6, 2), (138, .iload 6, 2), (140, .ifCond .le 32, 3), (143, .aload_n 0, 1), (144, .aload_n 1, 1), (145, .iload_n 2, 1), (146, .bipush 59, 2), (148, .iadd, 1), (149, .iload 6, 2), (151, .iadd, 1), (152, .invokestatic 40, 3), (155, .ldc 44, 2), (157, .iand, 1), (158, .invokevirtual 274, 3), (161, .ifCond .ne 5, 3), (164, .iconst 0, 1), (165, .ireturn, 1), (166, .iinc 6 (-1), 3), (169, .goto (-31), 3), (172, .iconst 1, 1), (173, .ireturn, 1)]
theorem ck170 : pe_ctx 170 21 false (some .boolean) 8 T170 := ⟨rfl, rfl, rfl, rfl, by decide +kernel, by decide, by decide⟩
theorem b170_0 {d : Nat} {Φ : Option pe_V → pe_H → Prop} {σ : pe_H} {a1 : Nat} {x2 : Int} {x3 : Int} {o4 : Option pe_V} {o5 : Option pe_V} {o6 : Option pe_V} {o7 : Option pe_V} (hL : ll_L σ := by assumption)   (k : pe_X d 170 (6, [some (.inr (.inr 3)), some (.inr (.inr a1)), some (.inl x2), some (.inl x3), some (.inr (.inr (pe_n σ))), o5, o6, o7], [], pe_new σ 10 100 ((100 : Int).toNat)) Φ) : pe_X d 170 (0, [some (.inr (.inr 3)), some (.inr (.inr a1)), some (.inl x2), some (.inl x3), o4, o5, o6, o7], [], σ) Φ := by
  refine pe_blk 0 3 ck170 [0 ≤ (pe_w 100), (pe_w 100) ≤ 10000] (6, [some (.inr (.inr 3)), some (.inr (.inr a1)), some (.inl x2), some (.inl x3), some (.inr (.inr (pe_n σ))), o5, o6, o7], [], pe_new σ 10 (pe_w 100) ((pe_w 100).toNat)) rfl ?_ ?_
  · first
    | (simp (disch := omega) only [pe_all, pe_wi (x := 100) ⟨by decide, by decide⟩]; done)
    | (simp (disch := omega) only [pe_all, pe_wi (x := 100) ⟨by decide, by decide⟩]; (repeat' apply And.intro) <;> first | assumption | omega | decide)
  · try simp (disch := omega) only [pe_wi (x := 100) ⟨by decide, by decide⟩]
    exact k
theorem b170_6 {d : Nat} {Φ : Option pe_V → pe_H → Prop} {σ : pe_H} {a1 : Nat} {x2 : Int} {x3 : Int} {a4 : Nat} {o5 : Option pe_V} {o6 : Option pe_V} {o7 : Option pe_V} (hL : ll_L σ := by assumption)   (k : pe_X d 170 (12, [some (.inr (.inr 3)), some (.inr (.inr a1)), some (.inl x2), some (.inl x3), some (.inr (.inr a4)), some (.inl 0), some (.inl 0), o7], [], σ) Φ) : pe_X d 170 (6, [some (.inr (.inr 3)), some (.inr (.inr a1)), some (.inl x2), some (.inl x3), some (.inr (.inr a4)), o5, o6, o7], [], σ) Φ := by
  refine pe_blk 3 4 ck170 [] (12, [some (.inr (.inr 3)), some (.inr (.inr a1)), some (.inl x2), some (.inl x3), some (.inr (.inr a4)), some (.inl 0), some (.inl 0), o7], [], σ) rfl ?_ ?_
  · exact trivial
  · exact k
theorem b170_12 {d : Nat} {Φ : Option pe_V → pe_H → Prop} {σ : pe_H} {a1 : Nat} {x2 : Int} {x3 : Int} {a4 : Nat} {x5 : Int} {x6 : Int} {o7 : Option pe_V} (hL : ll_L σ := by assumption) (w0 : pe_in x6 := by unfold pe_in; omega)  (k1 : 5 ≤ x6 → pe_X d 170 (44, [some (.inr (.inr 3)), some (.inr (.inr a1)), some (.inl x2), some (.inl x3), some (.inr (.inr a4)), some (.inl x5), some (.inl x6), o7], [], σ) Φ) (k2 : ¬ (5 ≤ x6) → pe_X d 170 (18, [some (.inr (.inr 3)), some (.inr (.inr a1)), some (.inl x2), some (.inl x3), some (.inr (.inr a4)), some (.inl x5), some (.inl x6), o7], [], σ) Φ) : pe_X d 170 (12, [some (.inr (.inr 3)), some (.inr (.inr a1)), some (.inl x2), some (.inl x3), some (.inr (.inr a4)), some (.inl x5), some (.inl x6), o7], [], σ) Φ := by
  refine pe_blk 7 3 ck170 [] (cond (decide ((pe_w 5) ≤ (pe_w x6))) 44 18, [some (.inr (.inr 3)), some (.inr (.inr a1)), some (.inl x2), some (.inl x3), some (.inr (.inr a4)), some (.inl x5), some (.inl x6), o7], [], σ) rfl ?_ ?_
  · exact trivial
  · try simp (disch := omega) only [pe_wi w0, pe_wi (x := 5) ⟨by decide, by decide⟩]
    exact pe_two k1 k2
theorem b170_18 {d : Nat} {Φ : Option pe_V → pe_H → Prop} {σ : pe_H} {a1 : Nat} {x2 : Int} {x3 : Int} {a4 : Nat} {x5 : Int} {x6 : Int} {o7 : Option pe_V} (hL : ll_L σ := by assumption)   (k : pe_M d 166 [.inr (.inr 3), .inr (.inr a1), .inl (x2 + (10 * x6)), .inl x6, .inr (.inr a4), .inl x5] σ (fun r σ' => pe_X d 170 (36, [some (.inr (.inr 3)), some (.inr (.inr a1)), some (.inl x2), some (.inl x3), some (.inr (.inr a4)), some (.inl x5), some (.inl x6), o7], r.toList ++ [], σ') Φ)) : pe_X d 170 (18, [some (.inr (.inr 3)), some (.inr (.inr a1)), some (.inl x2), some (.inl x3), some (.inr (.inr a4)), some (.inl x5), some (.inl x6), o7], [], σ) Φ := by
  refine pe_blk 10 10 ck170 [] (33, [some (.inr (.inr 3)), some (.inr (.inr a1)), some (.inl x2), some (.inl x3), some (.inr (.inr a4)), some (.inl x5), some (.inl x6), o7], [.inl x5, .inr (.inr a4), .inl x6, .inl (x2 + (10 * x6)), .inr (.inr a1), .inr (.inr 3)], σ) rfl ?_ ?_
  · exact trivial
  · try simp (disch := omega) only [ll_k3 hL, pe_K_wI, pe_K_wR]
    have hrc : pe_K σ 3 = 21 := by first | assumption | (simp (disch := omega) only [ll_k3 hL, pe_K_wI, pe_K_wR]; done) | (simp (disch := omega) only [ll_k3 hL, pe_K_wI, pe_K_wR]; assumption)
    exact pe_cal 20 ck170 rfl rfl rfl ⟨hrc, by decide⟩ k
theorem b170_36 {d : Nat} {Φ : Option pe_V → pe_H → Prop} {σ : pe_H} {a1 : Nat} {x2 : Int} {x3 : Int} {a4 : Nat} {o5 : Option pe_V} {x6 : Int} {o7 : Option pe_V} {s0 : Int} (hL : ll_L σ := by assumption)   (k : pe_X d 170 (12, [some (.inr (.inr 3)), some (.inr (.inr a1)), some (.inl x2), some (.inl x3), some (.inr (.inr a4)), some (.inl s0), some (.inl (x6 + 1)), o7], [], σ) Φ) : pe_X d 170 (36, [some (.inr (.inr 3)), some (.inr (.inr a1)), some (.inl x2), some (.inl x3), some (.inr (.inr a4)), o5, some (.inl x6), o7], [.inl s0], σ) Φ := by
  refine pe_blk 21 3 ck170 [] (12, [some (.inr (.inr 3)), some (.inr (.inr a1)), some (.inl x2), some (.inl x3), some (.inr (.inr a4)), some (.inl s0), some (.inl (x6 + 1)), o7], [], σ) rfl ?_ ?_
  · exact trivial
  · exact k
theorem b170_44 {d : Nat} {Φ : Option pe_V → pe_H → Prop} {σ : pe_H} {a1 : Nat} {x2 : Int} {x3 : Int} {a4 : Nat} {x5 : Int} {o6 : Option pe_V} {o7 : Option pe_V} (hL : ll_L σ := by assumption)   (k : pe_M d 147 [.inr (.inr 3), .inr (.inr a4), .inl x5] σ (fun r σ' => pe_X d 170 (52, [some (.inr (.inr 3)), some (.inr (.inr a1)), some (.inl x2), some (.inl x3), some (.inr (.inr a4)), some (.inl x5), o6, o7], r.toList ++ [], σ') Φ)) : pe_X d 170 (44, [some (.inr (.inr 3)), some (.inr (.inr a1)), some (.inl x2), some (.inl x3), some (.inr (.inr a4)), some (.inl x5), o6, o7], [], σ) Φ := by
  refine pe_blk 24 3 ck170 [] (49, [some (.inr (.inr 3)), some (.inr (.inr a1)), some (.inl x2), some (.inl x3), some (.inr (.inr a4)), some (.inl x5), o6, o7], [.inl x5, .inr (.inr a4), .inr (.inr 3)], σ) rfl ?_ ?_
  · exact trivial
  · try simp (disch := omega) only [ll_k3 hL, pe_K_wI, pe_K_wR]
    have hrc : pe_K σ 3 = 21 := by first | assumption | (simp (disch := omega) only [ll_k3 hL, pe_K_wI, pe_K_wR]; done) | (simp (disch := omega) only [ll_k3 hL, pe_K_wI, pe_K_wR]; assumption)
    exact pe_cal 27 ck170 rfl rfl rfl ⟨hrc, by decide⟩ k
theorem b170_52 {d : Nat} {Φ : Option pe_V → pe_H → Prop} {σ : pe_H} {a1 : Nat} {x2 : Int} {x3 : Int} {o4 : Option pe_V} {o5 : Option pe_V} {o6 : Option pe_V} {o7 : Option pe_V} {s0 : Int} (hL : ll_L σ := by assumption) (w0 : pe_in s0 := by unfold pe_in; omega)  (k1 : s0 = 5 → pe_X d 170 (58, [some (.inr (.inr 3)), some (.inr (.inr a1)), some (.inl x2), some (.inl x3), o4, o5, o6, o7], [], σ) Φ) (k2 : ¬ (s0 = 5) → pe_X d 170 (56, [some (.inr (.inr 3)), some (.inr (.inr a1)), some (.inl x2), some (.inl x3), o4, o5, o6, o7], [], σ) Φ) : pe_X d 170 (52, [some (.inr (.inr 3)), some (.inr (.inr a1)), some (.inl x2), some (.inl x3), o4, o5, o6, o7], [.inl s0], σ) Φ := by
  refine pe_blk 28 2 ck170 [] (cond (decide ((pe_w s0) = (pe_w 5))) 58 56, [some (.inr (.inr 3)), some (.inr (.inr a1)), some (.inl x2), some (.inl x3), o4, o5, o6, o7], [], σ) rfl ?_ ?_
  · exact trivial
  · try simp (disch := omega) only [pe_wi w0, pe_wi (x := 5) ⟨by decide, by decide⟩]
    exact pe_two k1 k2
theorem b170_56 {d : Nat} {Φ : Option pe_V → pe_H → Prop} {σ : pe_H} {o1 : Option pe_V} {o2 : Option pe_V} {o3 : Option pe_V} {o4 : Option pe_V} {o5 : Option pe_V} {o6 : Option pe_V} {o7 : Option pe_V} (hL : ll_L σ := by assumption)   (k : Φ (some (.inl 0)) σ) : pe_X d 170 (56, [some (.inr (.inr 3)), o1, o2, o3, o4, o5, o6, o7], [], σ) Φ := by
  refine pe_blk 30 1 ck170 [] (57, [some (.inr (.inr 3)), o1, o2, o3, o4, o5, o6, o7], [.inl 0], σ) rfl ?_ ?_
  · exact trivial
  · exact pe_fine 31 ck170 rfl rfl rfl (Or.inl rfl) k
theorem b170_58 {d : Nat} {Φ : Option pe_V → pe_H → Prop} {σ : pe_H} {a1 : Nat} {x2 : Int} {x3 : Int} {o4 : Option pe_V} {o5 : Option pe_V} {o6 : Option pe_V} {o7 : Option pe_V} (hL : ll_L σ := by assumption)   (k : pe_M d 146 [.inr (.inr a1), .inl (x2 + 50), .inl (x3 + 1)] σ (fun r σ' => pe_X d 170 (69, [some (.inr (.inr 3)), some (.inr (.inr a1)), some (.inl x2), some (.inl x3), o4, o5, o6, o7], r.toList ++ [], σ') Φ)) : pe_X d 170 (58, [some (.inr (.inr 3)), some (.inr (.inr a1)), some (.inl x2), some (.inl x3), o4, o5, o6, o7], [], σ) Φ := by
  refine pe_blk 32 7 ck170 [] (66, [some (.inr (.inr 3)), some (.inr (.inr a1)), some (.inl x2), some (.inl x3), o4, o5, o6, o7], [.inl (x3 + 1), .inl (x2 + 50), .inr (.inr a1)], σ) rfl ?_ ?_
  · exact trivial
  · exact pe_cal 39 ck170 rfl rfl rfl trivial k
theorem b170_69 {d : Nat} {Φ : Option pe_V → pe_H → Prop} {σ : pe_H} {a1 : Nat} {x2 : Int} {o3 : Option pe_V} {o4 : Option pe_V} {o5 : Option pe_V} {o6 : Option pe_V} {o7 : Option pe_V} {s0 : Int} (hL : ll_L σ := by assumption)   (k : pe_X d 170 (71, [some (.inr (.inr 3)), some (.inr (.inr a1)), some (.inl x2), o3, o4, pe_nl o5, some (.inl s0), o7], [], σ) Φ) : pe_X d 170 (69, [some (.inr (.inr 3)), some (.inr (.inr a1)), some (.inl x2), o3, o4, o5, o6, o7], [.inl s0], σ) Φ := by
  refine pe_blk 40 1 ck170 [] (71, [some (.inr (.inr 3)), some (.inr (.inr a1)), some (.inl x2), o3, o4, pe_nl o5, some (.inl s0), o7], [], σ) rfl ?_ ?_
  · exact trivial
  · exact k
theorem b170_71 {d : Nat} {Φ : Option pe_V → pe_H → Prop} {σ : pe_H} {a1 : Nat} {x2 : Int} {o3 : Option pe_V} {o4 : Option pe_V} {o5 : Option pe_V} {x6 : Int} {o7 : Option pe_V} (hL : ll_L σ := by assumption) (w0 : pe_in x6 := by unfold pe_in; omega)  (k1 : x6 ≤ 0 → pe_X d 170 (126, [some (.inr (.inr 3)), some (.inr (.inr a1)), some (.inl x2), o3, o4, o5, some (.inl x6), o7], [], σ) Φ) (k2 : ¬ (x6 ≤ 0) → pe_X d 170 (76, [some (.inr (.inr 3)), some (.inr (.inr a1)), some (.inl x2), o3, o4, o5, some (.inl x6), o7], [], σ) Φ) : pe_X d 170 (71, [some (.inr (.inr 3)), some (.inr (.inr a1)), some (.inl x2), o3, o4, o5, some (.inl x6), o7], [], σ) Φ := by
  refine pe_blk 41 2 ck170 [] (cond (decide ((pe_w x6) ≤ 0)) 126 76, [some (.inr (.inr 3)), some (.inr (.inr a1)), some (.inl x2), o3, o4, o5, some (.inl x6), o7], [], σ) rfl ?_ ?_
  · exact trivial
  · try simp (disch := omega) only [pe_wi w0]
    exact pe_two k1 k2
theorem b170_76 {d : Nat} {Φ : Option pe_V → pe_H → Prop} {σ : pe_H} {a1 : Nat} {x2 : Int} {o3 : Option pe_V} {o4 : Option pe_V} {o5 : Option pe_V} {x6 : Int} {o7 : Option pe_V} (hL : ll_L σ := by assumption)   (k : pe_M d 145 [.inr (.inr a1), .inl ((x2 + 50) + x6)] σ (fun r σ' => pe_X d 170 (87, [some (.inr (.inr 3)), some (.inr (.inr a1)), some (.inl x2), o3, o4, o5, some (.inl x6), o7], r.toList ++ [], σ') Φ)) : pe_X d 170 (76, [some (.inr (.inr 3)), some (.inr (.inr a1)), some (.inl x2), o3, o4, o5, some (.inl x6), o7], [], σ) Φ := by
  refine pe_blk 43 6 ck170 [] (84, [some (.inr (.inr 3)), some (.inr (.inr a1)), some (.inl x2), o3, o4, o5, some (.inl x6), o7], [.inl ((x2 + 50) + x6), .inr (.inr a1)], σ) rfl ?_ ?_
  · exact trivial
  · exact pe_cal 49 ck170 rfl rfl rfl trivial k
set_option maxRecDepth 8000 in
theorem b170_87 {d : Nat} {Φ : Option pe_V → pe_H → Prop} {σ : pe_H} {a1 : Nat} {x2 : Int} {o3 : Option pe_V} {o4 : Option pe_V} {o5 : Option pe_V} {x6 : Int} {o7 : Option pe_V} {s0 : Int} (hL : ll_L σ := by assumption) (w0 : pe_in (pe_and s0 2147483647) := by unfold pe_in; omega) (w1 : pe_in (Int.tdiv (pe_and s0 2147483647) 5) := by unfold pe_in; omega) (w2 : pe_in (Int.tdiv (pe_and s0 2147483647) 30) := by unfold pe_in; omega) (h0 : ¬ 5 = 0 := by first | assumption | omega) (h1 : ¬ 6 = 0 := by first | assumption | omega) (h2 : ¬ 30 = 0 := by first | assumption | omega) (h3 : ¬ 10 = 0 := by first | assumption | omega) (k : pe_M d 168 [.inr (.inr 3), .inl (Int.tmod (pe_and s0 2147483647) 5), .inl (Int.tmod (Int.tdiv (pe_and s0 2147483647) 5) 6), .inl (Int.tmod (Int.tdiv (pe_and s0 2147483647) 30) 10)] σ (fun r σ' => pe_X d 170 (115, [some (.inr (.inr 3)), some (.inr (.inr a1)), some (.inl x2), o3, o4, o5, some (.inl x6), some (.inl (pe_and s0 2147483647))], r.toList ++ [], σ') Φ)) : pe_X d 170 (87, [some (.inr (.inr 3)), some (.inr (.inr a1)), some (.inl x2), o3, o4, o5, some (.inl x6), o7], [.inl s0], σ) Φ := by
  refine pe_blk 50 17 ck170 [¬ (pe_w 5) = 0, ¬ (pe_w 5) = 0, ¬ (pe_w 6) = 0, ¬ (pe_w 30) = 0, ¬ (pe_w 10) = 0] (112, [some (.inr (.inr 3)), some (.inr (.inr a1)), some (.inl x2), o3, o4, o5, some (.inl x6), some (.inl (pe_and s0 2147483647))], [.inl (Int.tmod (pe_w (Int.tdiv (pe_w (pe_and s0 2147483647)) (pe_w 30))) (pe_w 10)), .inl (Int.tmod (pe_w (Int.tdiv (pe_w (pe_and s0 2147483647)) (pe_w 5))) (pe_w 6)), .inl (Int.tmod (pe_w (pe_and s0 2147483647)) (pe_w 5)), .inr (.inr 3)], σ) rfl ?_ ?_
  · first
    | (simp (disch := omega) only [pe_all, pe_wi w0, pe_wi w1, pe_wi w2, pe_wi (x := 10) ⟨by decide, by decide⟩, pe_wi (x := 30) ⟨by decide, by decide⟩, pe_wi (x := 5) ⟨by decide, by decide⟩, pe_wi (x := 6) ⟨by decide, by decide⟩, ll_k3 hL, pe_K_wI, pe_K_wR]; done)
    | (simp (disch := omega) only [pe_all, pe_wi w0, pe_wi w1, pe_wi w2, pe_wi (x := 10) ⟨by decide, by decide⟩, pe_wi (x := 30) ⟨by decide, by decide⟩, pe_wi (x := 5) ⟨by decide, by decide⟩, pe_wi (x := 6) ⟨by decide, by decide⟩, ll_k3 hL, pe_K_wI, pe_K_wR]; (repeat' apply And.intro) <;> first | assumption | omega | decide)
  · try simp (disch := omega) only [pe_wi w0, pe_wi w1, pe_wi w2, pe_wi (x := 10) ⟨by decide, by decide⟩, pe_wi (x := 30) ⟨by decide, by decide⟩, pe_wi (x := 5) ⟨by decide, by decide⟩, pe_wi (x := 6) ⟨by decide, by decide⟩, ll_k3 hL, pe_K_wI, pe_K_wR]
    have hrc : pe_K σ 3 = 21 := by first | assumption | (simp (disch := omega) only [pe_wi w0, pe_wi w1, pe_wi w2, pe_wi (x := 10) ⟨by decide, by decide⟩, pe_wi (x := 30) ⟨by decide, by decide⟩, pe_wi (x := 5) ⟨by decide, by decide⟩, pe_wi (x := 6) ⟨by decide, by decide⟩, ll_k3 hL, pe_K_wI, pe_K_wR]; done) | (simp (disch := omega) only [pe_wi w0, pe_wi w1, pe_wi w2, pe_wi (x := 10) ⟨by decide, by decide⟩, pe_wi (x := 30) ⟨by decide, by decide⟩, pe_wi (x := 5) ⟨by decide, by decide⟩, pe_wi (x := 6) ⟨by decide, by decide⟩, ll_k3 hL, pe_K_wI, pe_K_wR]; assumption)
    exact pe_cal 67 ck170 rfl rfl rfl ⟨hrc, by decide⟩ k
set_option maxRecDepth 8000 in
theorem b170_115 {d : Nat} {Φ : Option pe_V → pe_H → Prop} {σ : pe_H} {a1 : Nat} {x2 : Int} {o3 : Option pe_V} {o4 : Option pe_V} {o5 : Option pe_V} {x6 : Int} {o7 : Option pe_V} {s0 : Int} (hL : ll_L σ := by assumption) (w0 : pe_in s0 := by unfold pe_in; omega)  (k1 : ¬ s0 = 0 → pe_X d 170 (120, [some (.inr (.inr 3)), some (.inr (.inr a1)), some (.inl x2), o3, o4, o5, some (.inl x6), o7], [], σ) Φ) (k2 : s0 = 0 → pe_X d 170 (118, [some (.inr (.inr 3)), some (.inr (.inr a1)), some (.inl x2), o3, o4, o5, some (.inl x6), o7], [], σ) Φ) : pe_X d 170 (115, [some (.inr (.inr 3)), some (.inr (.inr a1)), some (.inl x2), o3, o4, o5, some (.inl x6), o7], [.inl s0], σ) Φ := by
  refine pe_blk 68 1 ck170 [] (cond (decide (¬ (pe_w s0) = 0)) 120 118, [some (.inr (.inr 3)), some (.inr (.inr a1)), some (.inl x2), o3, o4, o5, some (.inl x6), o7], [], σ) rfl ?_ ?_
  · exact trivial
  · try simp (disch := omega) only [pe_wi w0]
    exact pe_two' k1 k2
set_option maxRecDepth 8000 in
theorem b170_118 {d : Nat} {Φ : Option pe_V → pe_H → Prop} {σ : pe_H} {o1 : Option pe_V} {o2 : Option pe_V} {o3 : Option pe_V} {o4 : Option pe_V} {o5 : Option pe_V} {o6 : Option pe_V} {o7 : Option pe_V} (hL : ll_L σ := by assumption)   (k : Φ (some (.inl 0)) σ) : pe_X d 170 (118, [some (.inr (.inr 3)), o1, o2, o3, o4, o5, o6, o7], [], σ) Φ := by
  refine pe_blk 69 1 ck170 [] (119, [some (.inr (.inr 3)), o1, o2, o3, o4, o5, o6, o7], [.inl 0], σ) rfl ?_ ?_
  · exact trivial
  · exact pe_fine 70 ck170 rfl rfl rfl (Or.inl rfl) k
set_option maxRecDepth 8000 in
theorem b170_120 {d : Nat} {Φ : Option pe_V → pe_H → Prop} {σ : pe_H} {a1 : Nat} {x2 : Int} {o3 : Option pe_V} {o4 : Option pe_V} {o5 : Option pe_V} {x6 : Int} {o7 : Option pe_V} (hL : ll_L σ := by assumption)   (k : pe_X d 170 (71, [some (.inr (.inr 3)), some (.inr (.inr a1)), some (.inl x2), o3, o4, pe_nl o5, some (.inl (x6 + (-1))), o7], [], σ) Φ) : pe_X d 170 (120, [some (.inr (.inr 3)), some (.inr (.inr a1)), some (.inl x2), o3, o4, o5, some (.inl x6), o7], [], σ) Φ := by
  refine pe_blk 71 2 ck170 [] (71, [some (.inr (.inr 3)), some (.inr (.inr a1)), some (.inl x2), o3, o4, pe_nl o5, some (.inl (x6 + (-1))), o7], [], σ) rfl ?_ ?_
  · exact trivial
  · exact k
set_option maxRecDepth 8000 in
theorem b170_126 {d : Nat} {Φ : Option pe_V → pe_H → Prop} {σ : pe_H} {a1 : Nat} {x2 : Int} {o3 : Option pe_V} {o4 : Option pe_V} {o5 : Option pe_V} {o6 : Option pe_V} {o7 : Option pe_V} (hL : ll_L σ := by assumption)   (k : pe_M d 146 [.inr (.inr a1), .inl (x2 + 59), .inl 9] σ (fun r σ' => pe_X d 170 (136, [some (.inr (.inr 3)), some (.inr (.inr a1)), some (.inl x2), o3, o4, o5, o6, o7], r.toList ++ [], σ') Φ)) : pe_X d 170 (126, [some (.inr (.inr 3)), some (.inr (.inr a1)), some (.inl x2), o3, o4, o5, o6, o7], [], σ) Φ := by
  refine pe_blk 73 5 ck170 [] (133, [some (.inr (.inr 3)), some (.inr (.inr a1)), some (.inl x2), o3, o4, o5, o6, o7], [.inl 9, .inl (x2 + 59), .inr (.inr a1)], σ) rfl ?_ ?_
  · exact trivial
  · exact pe_cal 78 ck170 rfl rfl rfl trivial k
set_option maxRecDepth 8000 in
theorem b170_136 {d : Nat} {Φ : Option pe_V → pe_H → Prop} {σ : pe_H} {a1 : Nat} {x2 : Int} {o3 : Option pe_V} {o4 : Option pe_V} {o5 : Option pe_V} {o6 : Option pe_V} {o7 : Option pe_V} {s0 : Int} (hL : ll_L σ := by assumption)   (k : pe_X d 170 (138, [some (.inr (.inr 3)), some (.inr (.inr a1)), some (.inl x2), o3, o4, pe_nl o5, some (.inl s0), o7], [], σ) Φ) : pe_X d 170 (136, [some (.inr (.inr 3)), some (.inr (.inr a1)), some (.inl x2), o3, o4, o5, o6, o7], [.inl s0], σ) Φ := by
  refine pe_blk 79 1 ck170 [] (138, [some (.inr (.inr 3)), some (.inr (.inr a1)), some (.inl x2), o3, o4, pe_nl o5, some (.inl s0), o7], [], σ) rfl ?_ ?_
  · exact trivial
  · exact k
set_option maxRecDepth 8000 in
theorem b170_138 {d : Nat} {Φ : Option pe_V → pe_H → Prop} {σ : pe_H} {a1 : Nat} {x2 : Int} {o3 : Option pe_V} {o4 : Option pe_V} {o5 : Option pe_V} {x6 : Int} {o7 : Option pe_V} (hL : ll_L σ := by assumption) (w0 : pe_in x6 := by unfold pe_in; omega)  (k1 : x6 ≤ 0 → pe_X d 170 (172, [some (.inr (.inr 3)), some (.inr (.inr a1)), some (.inl x2), o3, o4, o5, some (.inl x6), o7], [], σ) Φ) (k2 : ¬ (x6 ≤ 0) → pe_X d 170 (143, [some (.inr (.inr 3)), some (.inr (.inr a1)), some (.inl x2), o3, o4, o5, some (.inl x6), o7], [], σ) Φ) : pe_X d 170 (138, [some (.inr (.inr 3)), some (.inr (.inr a1)), some (.inl x2), o3, o4, o5, some (.inl x6), o7], [], σ) Φ := by
  refine pe_blk 80 2 ck170 [] (cond (decide ((pe_w x6) ≤ 0)) 172 143, [some (.inr (.inr 3)), some (.inr (.inr a1)), some (.inl x2), o3, o4, o5, some (.inl x6), o7], [], σ) rfl ?_ ?_
  · exact trivial
  · try simp (disch := omega) only [pe_wi w0]
    exact pe_two k1 k2
set_option maxRecDepth 8000 in
theorem b170_143 {d : Nat} {Φ : Option pe_V → pe_H → Prop} {σ : pe_H} {a1 : Nat} {x2 : Int} {o3 : Option pe_V} {o4 : Option pe_V} {o5 : Option pe_V} {x6 : Int} {o7 : Option pe_V} (hL : ll_L σ := by assumption)   (k : pe_M d 145 [.inr (.inr a1), .inl ((x2 + 59) + x6)] σ (fun r σ' => pe_X d 170 (155, [some (.inr (.inr 3)), some (.inr (.inr a1)), some (.inl x2), o3, o4, o5, some (.inl x6), o7], r.toList ++ [.inr (.inr 3)], σ') Φ)) : pe_X d 170 (143, [some (.inr (.inr 3)), some (.inr (.inr a1)), some (.inl x2), o3, o4, o5, some (.inl x6), o7], [], σ) Φ := by
  refine pe_blk 82 7 ck170 [] (152, [some (.inr (.inr 3)), some (.inr (.inr a1)), some (.inl x2), o3, o4, o5, some (.inl x6), o7], [.inl ((x2 + 59) + x6), .inr (.inr a1), .inr (.inr 3)], σ) rfl ?_ ?_
  · exact trivial
  · exact pe_cal 89 ck170 rfl rfl rfl trivial k
set_option maxRecDepth 8000 in
theorem b170_155 {d : Nat} {Φ : Option pe_V → pe_H → Prop} {σ : pe_H} {a1 : Nat} {x2 : Int} {o3 : Option pe_V} {o4 : Option pe_V} {o5 : Option pe_V} {x6 : Int} {o7 : Option pe_V} {s1 : Int} (hL : ll_L σ := by assumption)   (k : pe_M d 169 [.inr (.inr 3), .inl (pe_and s1 2147483647)] σ (fun r σ' => pe_X d 170 (161, [some (.inr (.inr 3)), some (.inr (.inr a1)), some (.inl x2), o3, o4, o5, some (.inl x6), o7], r.toList ++ [], σ') Φ)) : pe_X d 170 (155, [some (.inr (.inr 3)), some (.inr (.inr a1)), some (.inl x2), o3, o4, o5, some (.inl x6), o7], [.inl s1, .inr (.inr 3)], σ) Φ := by
  refine pe_blk 90 2 ck170 [] (158, [some (.inr (.inr 3)), some (.inr (.inr a1)), some (.inl x2), o3, o4, o5, some (.inl x6), o7], [.inl (pe_and s1 2147483647), .inr (.inr 3)], σ) rfl ?_ ?_
  · exact trivial
  · try simp (disch := omega) only [ll_k3 hL, pe_K_wI, pe_K_wR]
    have hrc : pe_K σ 3 = 21 := by first | assumption | (simp (disch := omega) only [ll_k3 hL, pe_K_wI, pe_K_wR]; done) | (simp (disch := omega) only [ll_k3 hL, pe_K_wI, pe_K_wR]; assumption)
    exact pe_cal 92 ck170 rfl rfl rfl ⟨hrc, by decide⟩ k
set_option maxRecDepth 8000 in
theorem b170_161 {d : Nat} {Φ : Option pe_V → pe_H → Prop} {σ : pe_H} {a1 : Nat} {x2 : Int} {o3 : Option pe_V} {o4 : Option pe_V} {o5 : Option pe_V} {x6 : Int} {o7 : Option pe_V} {s0 : Int} (hL : ll_L σ := by assumption) (w0 : pe_in s0 := by unfold pe_in; omega)  (k1 : ¬ s0 = 0 → pe_X d 170 (166, [some (.inr (.inr 3)), some (.inr (.inr a1)), some (.inl x2), o3, o4, o5, some (.inl x6), o7], [], σ) Φ) (k2 : s0 = 0 → pe_X d 170 (164, [some (.inr (.inr 3)), some (.inr (.inr a1)), some (.inl x2), o3, o4, o5, some (.inl x6), o7], [], σ) Φ) : pe_X d 170 (161, [some (.inr (.inr 3)), some (.inr (.inr a1)), some (.inl x2), o3, o4, o5, some (.inl x6), o7], [.inl s0], σ) Φ := by
  refine pe_blk 93 1 ck170 [] (cond (decide (¬ (pe_w s0) = 0)) 166 164, [some (.inr (.inr 3)), some (.inr (.inr a1)), some (.inl x2), o3, o4, o5, some (.inl x6), o7], [], σ) rfl ?_ ?_
  · exact trivial
  · try simp (disch := omega) only [pe_wi w0]
    exact pe_two' k1 k2
set_option maxRecDepth 8000 in
theorem b170_164 {d : Nat} {Φ : Option pe_V → pe_H → Prop} {σ : pe_H} {o1 : Option pe_V} {o2 : Option pe_V} {o3 : Option pe_V} {o4 : Option pe_V} {o5 : Option pe_V} {o6 : Option pe_V} {o7 : Option pe_V} (hL : ll_L σ := by assumption)   (k : Φ (some (.inl 0)) σ) : pe_X d 170 (164, [some (.inr (.inr 3)), o1, o2, o3, o4, o5, o6, o7], [], σ) Φ := by
  refine pe_blk 94 1 ck170 [] (165, [some (.inr (.inr 3)), o1, o2, o3, o4, o5, o6, o7], [.inl 0], σ) rfl ?_ ?_
  · exact trivial
  · exact pe_fine 95 ck170 rfl rfl rfl (Or.inl rfl) k
set_option maxRecDepth 8000 in
theorem b170_166 {d : Nat} {Φ : Option pe_V → pe_H → Prop} {σ : pe_H} {a1 : Nat} {x2 : Int} {o3 : Option pe_V} {o4 : Option pe_V} {o5 : Option pe_V} {x6 : Int} {o7 : Option pe_V} (hL : ll_L σ := by assumption)   (k : pe_X d 170 (138, [some (.inr (.inr 3)), some (.inr (.inr a1)), some (.inl x2), o3, o4, pe_nl o5, some (.inl (x6 + (-1))), o7], [], σ) Φ) : pe_X d 170 (166, [some (.inr (.inr 3)), some (.inr (.inr a1)), some (.inl x2), o3, o4, o5, some (.inl x6), o7], [], σ) Φ := by
  refine pe_blk 96 2 ck170 [] (138, [some (.inr (.inr 3)), some (.inr (.inr a1)), some (.inl x2), o3, o4, pe_nl o5, some (.inl (x6 + (-1))), o7], [], σ) rfl ?_ ?_
  · exact trivial
  · exact k
set_option maxRecDepth 8000 in
theorem b170_172 {d : Nat} {Φ : Option pe_V → pe_H → Prop} {σ : pe_H} {o1 : Option pe_V} {o2 : Option pe_V} {o3 : Option pe_V} {o4 : Option pe_V} {o5 : Option pe_V} {o6 : Option pe_V} {o7 : Option pe_V} (hL : ll_L σ := by assumption)   (k : Φ (some (.inl 1)) σ) : pe_X d 170 (172, [some (.inr (.inr 3)), o1, o2, o3, o4, o5, o6, o7], [], σ) Φ := by
  refine pe_blk 98 1 ck170 [] (173, [some (.inr (.inr 3)), o1, o2, o3, o4, o5, o6, o7], [.inl 1], σ) rfl ?_ ?_
  · exact trivial
  · exact pe_fine 99 ck170 rfl rfl rfl (Or.inr rfl) k
-- StepMachinesLaw.same()Z
def T171 : List (Nat × Instr × Nat) := [(0, .iconst 0, 1), (1, .istore_n 1, 1), (2, .iload_n 1, 1), (3, .aload_n 0, 1), (4, .getfield 93, 3), (7, .if_icmp .ge 489, 3), (10, .aload_n 0, 1), (11, .getfield 31, 3), (14, .iload_n 1, 1), (15, .aaload, 1), (16, .astore_n 2, 1), (17, .aload_n 2, 1), (18, .getfield 67, 3), (21, .iconst 2, 1), (22, .if_icmp .le 16, 3), (25, .aload_n 2, 1), (26, .getfield 67, 3), (29, .bipush 6, 2), (31, .if_icmp .ge 7, 3), (34, .iconst 1, 1), (35, .goto 4, 3), (38, .iconst 0, 1), (39, .istore_n 3, 1), (40, .aload_n 0, 1), (41, .getfield 10, 3), (44, .iload_n 1, 1), (45, .iconst 0, 1), (46, .invokevirtual 277, 3), (49, .aload_n 2, 1), (50, .getfield 67, 3), (53, .if_icmp .ne 210, 3), (56, .aload_n 0, 1), (57, .getfield 10, 3), (60, .iload_n 1, 1), (61, .iconst 1, 1), (62, .invokevirtual 277, 3), (65, .aload_n 2, 1), (66, .getfield 77, 3), (69, .if_icmp .ne 194, 3), (72, .aload_n 0, 1), (73, .getfield 10, 3), (76, .iload_n 1, 1), (77, .iconst 2, 1), (78, .invokevirtual 277, 3), (81, .aload_n 2, 1), (82, .getfield 139, 3), (85, .if_icmp .ne 178, 3), (88, .aload_n 0, 1), (89, .getfield 10, 3), (92, .iload_n 1, 1), (93, .iconst 3, 1), (94, .invokevirtual 277, 3), (97, .aload_n 2, 1), (98, .getfield 142, 3), (101, .if_icmp .ne 162, 3), (104, .aload_n 0, 1), (105, .getfield 10, 3), (108, .iload_n 1, 1), (109, .iconst 4, 1), (110, .invokevirtual 277, 3), (113, .aload_n 2, 1), (114, .getfield 189, 3), (117, .if_icmp .ne 146, 3), (120, .aload_n 0, 1), (121, .getfield 10, 3), (124, .iload_n 1, 1), (125, .iconst 5, 1), (126, .invokevirtual 277, 3), (129, .aload_n 2, 1), (130, .getfield 226, 3), (133, .if_icmp .ne 130, 3), (136, .aload_n 0, 1), (137, .getfield 10, 3), (140, .iload_n 1, 1), (141, .bipush 6, 2), (143, .invokevirtual 277, 3), (146, .aload_n 2, 1), (147, .getfield 133, 3), (150, .if_icmp .ne 113, 3), (153, .aload_n 0, 1), (154, .getfield 10, 3), (157, .iload_n 1, 1), (158, .bipush 7, 2), (160, .invokevirtual 277, 3), (163, .aload_n 2, 1), (164, .getfield 136, 3), (167, .if_icmp .ne 96, 3), (170, .aload_n 0, 1), (171, .getfield 10, 3), (174, .iload_n 1, 1), (175, .bipush 8, 2), (177, .invokevirtual 277, 3), (180, .bipush 100, 2), (182, .aload_n 2, 1), (183, .invokevirtual 192, 3), (186, .iadd, 1), (187, .if_icmp .ne 76, 3), (190, .aload_n 0, 1), (191, .getfield 10, 3), (194, .iload_n 1, 1), (195, .bipush 9, 2), (197, .invokevirtual 277, 3), (200, .aload_n 2, 1), (201, .getfield 157, 3), (204, .if_icmp .ne 59, 3), (207, .aload_n 0, 1), (208, .getfield 10, 3), (211, .iload_n 1, 1), (212, .bipush 10, 2), (214, .invokevirtual 277, 3), (217, .iload_n 3, 1), (218, .ifCond .eq 10, 3), (221, .aload_n 2, 1), (222, .getfield 70, 3), (225, .goto 5, 3), (228, .bipush (-4), 2), (230, .if_icmp .ne 33, 3), (233, .aload_n 0, 1), (234, .getfield 10, 3), (237, .iload_n 1, 1), (238, .bipush 11, 2), (240, .invokevirtual 277, 3), (243, .aload_n 2, 1), (244, .getfield 67, 3), (247, .bipush 7, 2), (249, .if_icmp .ne 10, 3), (252, .aload_n 2, 1), (253, .invokevirtual 280, 3), (256, .goto 4, 3), (259, .iconst 0, 1), (260, .if_icmp .eq 5, 3), (263, .iconst 0, 1), (264, .ireturn, 1), (265, .iconst 0, 1), (266, .istore 4, 2), (268, .iload 4, 2), (270, .aload_n 2, 1), (271, .getfield 157, 3), (274, .if_icmp .ge 123, 3), (277, .aload_n 2, 1), (278, .getfield 160, 3), (281, .iload 4, 2), (283, .aaload, 1), (284, .astore 5, 2), (286, .aload_n 0, 1), (287, .getfield 10, 3), (290, .iload_n 1, 1), (291, .iload 4, 2), (293, .iconst 0, 1), (294, .invokevirtual 283, 3), (297, .aload 5, 2), (299, .getfield 285, 3), (302, .if_icmp .ne 87, 3), (305, .aload_n 0, 1), (306, .getfield 10, 3), (309, .iload_n 1, 1), (310, .iload 4, 2), (312, .iconst 1, 1), (313, .invokevirtual 283, 3), (316, .aload 5, 2), (318, .getfield 115, 3), (321, .if_icmp .ne 68, 3), (324, .aload_n 0, 1), (325, .getfield 10, 3), (328, .iload_n 1, 1), (329, .iload 4, 2), (331, .iconst 2, 1), (332, .invokevirtual 283, 3), (335, .aload 5, 2), (337, .getfield 154, 3), (340, .if_icmp .ne 49, 3), (343, .aload_n 0, 1), (344, .getfield 10, 3), (347, .iload_n 1, 1), (348, .iload 4, 2), (350, .iconst 3, 1), (351, .invokevirtual 283, 3), (354, .aload 5, 2), (356, .getfield 125, 3), (359, .ifCond .eq 7, 3), (362, .iconst 1, 1), (363, .goto 4, 3), (366, .iconst 0, 1), (367, .if_icmp .ne 22, 3), (370, .aload_n 0, 1), (371, .getfield 10, 3), (374, .iload_n 1, 1), (375, .iload 4, 2), (377, .iconst 4, 1), (378, .invokevirtual 283, 3), (381, .aload 5, 2), (383, .invokevirtual 286, 3), (386, .if_icmp .eq 5, 3), (389, .iconst 0, 1), (390, .ireturn, 1), (391, .iinc 4 1, 3), (394, .goto (-126), 3), (397, .iconst 0, 1), (398, .istore 4, 2), (400, .aload_n 2, 1), (401, .getfield 67, 3), (404, .bipush 7, 2), (406, .if_icmp .ne 10, 3), (409, .aload_n 2, 1), (410, .getfield 82, 3), (413, .goto 4, 3), (416, .aconst_null, 1), (417, .astore 5, 2), (419, .aload 5, 2), (421, .ifnull 36, 3), (424, .aload_n 0, 1), (425, .getfield 10, 3), (428, .iload_n 1, 1), (429, .iload 4, 2), (431, .invokevirtual 289, 3), (434, .aload 5, 2), (436, .getfield 292, 3), (439, .if_icmp .eq 5, 3), (442, .iconst 0, 1), (443, .ireturn, 1), (444, .iinc 4 1, 3), (447, .aload 5, 2), (449, .getfield 295, 3), (452, .astore 5, 2), (454, .goto (-35), 3), (457, .aload_n 0, 1), (458, .getfield 10, 3), (461, .iload_n 1, 1), (462, .iload 4, 2), (464, .invokevirtual 289, 3), (467, .iconst (-1), 1), (468, .if_icmp .ne 20, 3), (471, .aload_n 0, 1), (472, .getfield 10, 3), (475, .iload_n 1, 1), (476, .aload_n 2, 1), (477, .getfield 157, 3), (480, .iconst 0, 1), (481, .invokevirtual 283, 3), (484, .iconst (-1), 1), (485, .if_icmp .eq 5, 3), (488, .iconst 0, 1), (489, .ireturn, 1), (490, .iinc 1 1, 3), (493, .goto (-491), 3), (496, .iconst 0, 1), (497, .istore_n 1, 1), (498, .iconst 0, 1), (499, .istore_n 2, 1), (500, .iload_n 2, 1), (501, .bipush 6, 2), (503, .if_icmp .ge 81, 3), (506, .aload_n 0, 1), (507, .getfield 10, 3), (510, .iload_n 2, 1), (511, .iconst 3, 1), (512, .irem, 1), (513, .iconst (-1), 1), (514, .iload_n 2, 1), (515, .iconst 3, 1), (516, .idiv, 1), (517, .invokevirtual 297, 3), (520, .aload_n 0, 1), (521, .getfield 36, 3), (524, .iload_n 2, 1), (525, .aaload, 1), (526, .arraylength, 1), (527, .if_icmp .eq 5, 3), (530, .iconst 0, 1), (531, .ireturn, 1), (532, .iconst 0, 1), (533, .istore_n 3, 1), (534, .iload_n 3, 1), (535, .aload_n 0, 1), (536, .getfield 36, 3), (539, .iload_n 2, 1), (540, .aaload, 1), (541, .arraylength, 1), (542, .if_icmp .ge 36, 3), (545, .aload_n 0, 1), (546, .getfield 10, 3), (549, .iload_n 2, 1), (550, .iconst 3, 1), (551, .irem, 1), (552, .iload_n 3, 1), (553, .iload_n 2, 1), (554, .iconst 3, 1), (555, .idiv, 1), (556, .invokevirtual 297, 3), (559, .aload_n 0, 1), (560, .getfield 36, 3), (563, .iload_n 2, 1), (564, .aaload, 1), (565, .iload_n 3, 1), (566, .iaload, 1), (567, .if_icmp .eq 5, 3), (570, .iconst 0, 1), (571, .ireturn, 1), (572, .iinc 3 1, 3), (575, .goto (-41), 3), (578, .iinc 2 1, 3), (581, .goto (-81), 3), (584, .iconst 0, 1), (585, .istore_n 2, 1), (586, .iload_n 2, 1), (587, .aload_n 0, 1), (588, .getfield 93, 3), (591, .if_icmp .ge 46, 3), (594, .iload_n 1, 1), (595, .aload_n 0, 1), (596, .getfield 31, 3), (599, .iload_n 2, 1), (600, .aaload, 1), (601, .getfield 67, 3), (604, .iconst 2, 1), (605, .if_icmp .le 23, 3), (608, .aload_n 0, 1), (609, .getfield 31, 3), (612, .iload_n 2, 1), (613, .aaload, 1), (614, .getfield 67, 3), (617, .bipush 6, 2), (619, .if_icmp .ge 9, 3), (622, .iconst 1, 1), (623, .iload_n 2, 1), (624, .ishl, 1), (625, .goto 4, 3), (628, .iconst 0, 1), (629, .ior, 1), (630, .istore_n 1, 1), (631, .iinc 2 1, 3), (634, .goto (-48), 3), (637, .aload_n 0, 1), (638, .getfield 10, 3), (641, .iconst 0, 1), (642, .invokevirtual 300, 3), (645, .aload_n 0, 1), (646, .getfield 93, 3), (649, .if_icmp .ne 79, 3), (652, .aload_n 0, 1), (653, .getfield 10, 3), (656, .iconst 1, 1), (657, .invokevirtual 300, 3), (660, .aload_n 0, 1), (661, .getfield 182, 3), (664, .if_icmp .ne 64, 3), (667, .aload_n 0, 1), (668, .getfield 10, 3), (671, .iconst 2, 1), (672, .invokevirtual 300, 3), (675, .aload_n 0, 1), (676, .getfield 25, 3), (679, .if_icmp .ne 49, 3), (682, .aload_n 0, 1), (683, .getfield 10, 3), (686, .iconst 3, 1), (687, .invokevirtual 300, 3), (690, .aload_n 0, 1), (691, .invokevirtual 257, 3), (694, .if_icmp .ne 34, 3), (697, .aload_n 0, 1), (698, .getfield 10, 3), (701, .iconst 4, 1), (702, .invokevirtual 300, 3), (705, .iload_n 1, 1), (706, .if_icmp .ne 22, 3), (709, .aload_n 0, 1), (710, .getfield 10, 3), (713, .iconst 5, 1), (714, .invokevirtual 300, 3), (717, .aload_n 0, 1), (718, .invokevirtual 302, 3), (721, .if_icmp .ne 7, 3), (724, .iconst 1, 1), (725, .goto 4, 3), (728, .iconst 0, 1), (729, .ireturn, 1)]
def T171_0 : List (Nat × Instr × Nat) := [(0, .iconst 0, 1), (1, .istore_n 1, 1), (2, .iload_n 1, 1), (3, .aload_n 0, 1), (4, .getfield 93, 3), (7, .if_icmp .ge 489, 3), (10, .aload_n 0, 1), (11, .getfield 31, 3), (14, .iload_n 1, 1), (15, .aaload, 1), (16, .astore_n 2, 1), (17, .aload_n 2, 1), (18, .getfield 67, 3), (21, .iconst 2, 1), (22, .if_icmp .le 16, 3), (25, .aload_n 2, 1), (26, .getfield 67, 3), (29, .bipush 6, 2), (31, .if_icmp .ge 7, 3), (34, .iconst 1, 1), (35, .goto 4, 3), (38, .iconst 0, 1), (39, .istore_n 3, 1), (40, .aload_n 0, 1), (41, .getfield 10, 3), (44, .iload_n 1, 1), (45, .iconst 0, 1), (46, .invokevirtual 277, 3), (49, .aload_n 2, 1), (50, .getfield 67, 3), (53, .if_icmp .ne 210, 3), (56, .aload_n 0, 1), (57, .getfield 10, 3), (60, .iload_n 1, 1), (61, .iconst 1, 1), (62, .invokevirtual 277, 3), (65, .aload_n 2, 1), (66, .getfield 77, 3), (69, .if_icmp .ne 194, 3), (72, .aload_n 0, 1)]
theorem ck171_0 : pe_chk (pe_me 171).2.1 T171_0 = true := by decide +kernel
def T171_1 : List (Nat × Instr × Nat) := [(73, .getfield 10, 3), (76, .iload_n 1, 1), (77, .iconst 2, 1), (78, .invokevirtual 277, 3), (81, .aload_n 2, 1), (82, .getfield 139, 3), (85, .if_icmp .ne 178, 3), (88, .aload_n 0, 1), (89, .getfield 10, 3), (92, .iload_n 1, 1), (93, .iconst 3, 1), (94, .invokevirtual 277, 3), (97, .aload_n 2, 1), (98, .getfield 142, 3), (101, .if_icmp .ne 162, 3), (104, .aload_n 0, 1), (105, .getfield 10, 3), (108, .iload_n 1, 1), (109, .iconst 4, 1), (110, .invokevirtual 277, 3), (113, .aload_n 2, 1), (114, .getfield 189, 3), (117, .if_icmp .ne 146, 3), (120, .aload_n 0, 1), (121, .getfield 10, 3), (124, .iload_n 1, 1), (125, .iconst 5, 1), (126, .invokevirtual 277, 3), (129, .aload_n 2, 1), (130, .getfield 226, 3), (133, .if_icmp .ne 130, 3), (136, .aload_n 0, 1), (137, .getfield 10, 3), (140, .iload_n 1, 1), (141, .bipush 6, 2), (143, .invokevirtual 277, 3), (146, .aload_n 2, 1), (147, .getfield 133, 3), (150, .if_icmp .ne 113, 3), (153, .aload_n 0, 1)]
theorem ck171_1 : pe_chk (pe_me 171).2.1 T171_1 = true := by decide +kernel
def T171_2 : List (Nat × Instr × Nat) := [(154, .getfield 10, 3), (157, .iload_n 1, 1), (158, .bipush 7, 2), (160, .invokevirtual 277, 3), (163, .aload_n 2, 1), (164, .getfield 136, 3), (167, .if_icmp .ne 96, 3), (170, .aload_n 0, 1), (171, .getfield 10, 3), (174, .iload_n 1, 1), (175, .bipush 8, 2), (177, .invokevirtual 277, 3), (180, .bipush 100, 2), (182, .aload_n 2, 1), (183, .invokevirtual 192, 3), (186, .iadd, 1), (187, .if_icmp .ne 76, 3), (190, .aload_n 0, 1), (191, .getfield 10, 3), (194, .iload_n 1, 1), (195, .bipush 9, 2), (197, .invokevirtual 277, 3), (200, .aload_n 2, 1), (201, .getfield 157, 3), (204, .if_icmp .ne 59, 3), (207, .aload_n 0, 1), (208, .getfield 10, 3), (211, .iload_n 1, 1), (212, .bipush 10, 2), (214, .invokevirtual 277, 3), (217, .iload_n 3, 1), (218, .ifCond .eq 10, 3), (221, .aload_n 2, 1), (222, .getfield 70, 3), (225, .goto 5, 3), (228, .bipush (-4), 2), (230, .if_icmp .ne 33, 3), (233, .aload_n 0, 1), (234, .getfield 10, 3), (237, .iload_n 1, 1)]
theorem ck171_2 : pe_chk (pe_me 171).2.1 T171_2 = true := by decide +kernel
def T171_3 : List (Nat × Instr × Nat) := [(238, .bipush 11, 2), (240, .invokevirtual 277, 3), (243, .aload_n 2, 1), (244, .getfield 67, 3), (247, .bipush 7, 2), (249, .if_icmp .ne 10, 3), (252, .aload_n 2, 1), (253, .invokevirtual 280, 3), (256, .goto 4, 3), (259, .iconst 0, 1), (260, .if_icmp .eq 5, 3), (263, .iconst 0, 1), (264, .ireturn, 1), (265, .iconst 0, 1), (266, .istore 4, 2), (268, .iload 4, 2), (270, .aload_n 2, 1), (271, .getfield 157, 3), (274, .if_icmp .ge 123, 3), (277, .aload_n 2, 1), (278, .getfield 160, 3), (281, .iload 4, 2), (283, .aaload, 1), (284, .astore 5, 2), (286, .aload_n 0, 1), (287, .getfield 10, 3), (290, .iload_n 1, 1), (291, .iload 4, 2), (293, .iconst 0, 1), (294, .invokevirtual 283, 3), (297, .aload 5, 2), (299, .getfield 285, 3), (302, .if_icmp .ne 87, 3), (305, .aload_n 0, 1), (306, .getfield 10, 3), (309, .iload_n 1, 1), (310, .iload 4, 2), (312, .iconst 1, 1), (313, .invokevirtual 283, 3), (316, .aload 5, 2)]
theorem ck171_3 : pe_chk (pe_me 171).2.1 T171_3 = true := by decide +kernel
def T171_4 : List (Nat × Instr × Nat) := [(318, .getfield 115, 3), (321, .if_icmp .ne 68, 3), (324, .aload_n 0, 1), (325, .getfield 10, 3), (328, .iload_n 1, 1), (329, .iload 4, 2), (331, .iconst 2, 1), (332, .invokevirtual 283, 3), (335, .aload 5, 2), (337, .getfield 154, 3), (340, .if_icmp .ne 49, 3), (343, .aload_n 0, 1), (344, .getfield 10, 3), (347, .iload_n 1, 1), (348, .iload 4, 2), (350, .iconst 3, 1), (351, .invokevirtual 283, 3), (354, .aload 5, 2), (356, .getfield 125, 3), (359, .ifCond .eq 7, 3), (362, .iconst 1, 1), (363, .goto 4, 3), (366, .iconst 0, 1), (367, .if_icmp .ne 22, 3), (370, .aload_n 0, 1), (371, .getfield 10, 3), (374, .iload_n 1, 1), (375, .iload 4, 2), (377, .iconst 4, 1), (378, .invokevirtual 283, 3), (381, .aload 5, 2), (383, .invokevirtual 286, 3), (386, .if_icmp .eq 5, 3), (389, .iconst 0, 1), (390, .ireturn, 1), (391, .iinc 4 1, 3), (394, .goto (-126), 3), (397, .iconst 0, 1), (398, .istore 4, 2), (400, .aload_n 2, 1)]
theorem ck171_4 : pe_chk (pe_me 171).2.1 T171_4 = true := by decide +kernel
def T171_5 : List (Nat × Instr × Nat) := [(401, .getfield 67, 3), (404, .bipush 7, 2), (406, .if_icmp .ne 10, 3), (409, .aload_n 2, 1), (410, .getfield 82, 3), (413, .goto 4, 3), (416, .aconst_null, 1), (417, .astore 5, 2), (419, .aload 5, 2), (421, .ifnull 36, 3), (424, .aload_n 0, 1), (425, .getfield 10, 3), (428, .iload_n 1, 1), (429, .iload 4, 2), (431, .invokevirtual 289, 3), (434, .aload 5, 2), (436, .getfield 292, 3), (439, .if_icmp .eq 5, 3), (442, .iconst 0, 1), (443, .ireturn, 1), (444, .iinc 4 1, 3), (447, .aload 5, 2), (449, .getfield 295, 3), (452, .astore 5, 2), (454, .goto (-35), 3), (457, .aload_n 0, 1), (458, .getfield 10, 3), (461, .iload_n 1, 1), (462, .iload 4, 2), (464, .invokevirtual 289, 3), (467, .iconst (-1), 1), (468, .if_icmp .ne 20, 3), (471, .aload_n 0, 1), (472, .getfield 10, 3), (475, .iload_n 1, 1), (476, .aload_n 2, 1), (477, .getfield 157, 3), (480, .iconst 0, 1), (481, .invokevirtual 283, 3), (484, .iconst (-1), 1)]
theorem ck171_5 : pe_chk (pe_me 171).2.1 T171_5 = true := by decide +kernel
def T171_6 : List (Nat × Instr × Nat) := [(485, .if_icmp .eq 5, 3), (488, .iconst 0, 1), (489, .ireturn, 1), (490, .iinc 1 1, 3), (493, .goto (-491), 3), (496, .iconst 0, 1), (497, .istore_n 1, 1), (498, .iconst 0, 1), (499, .istore_n 2, 1), (500, .iload_n 2, 1), (501, .bipush 6, 2), (503, .if_icmp .ge 81, 3), (506, .aload_n 0, 1), (507, .getfield 10, 3), (510, .iload_n 2, 1), (511, .iconst 3, 1), (512, .irem, 1), (513, .iconst (-1), 1), (514, .iload_n 2, 1), (515, .iconst 3, 1), (516, .idiv, 1), (517, .invokevirtual 297, 3), (520, .aload_n 0, 1), (521, .getfield 36, 3), (524, .iload_n 2, 1), (525, .aaload, 1), (526, .arraylength, 1), (527, .if_icmp .eq 5, 3), (530, .iconst 0, 1), (531, .ireturn, 1), (532, .iconst 0, 1), (533, .istore_n 3, 1), (534, .iload_n 3, 1), (535, .aload_n 0, 1), (536, .getfield 36, 3), (539, .iload_n 2, 1), (540, .aaload, 1), (541, .arraylength, 1), (542, .if_icmp .ge 36, 3), (545, .aload_n 0, 1)]
theorem ck171_6 : pe_chk (pe_me 171).2.1 T171_6 = true := by decide +kernel
def T171_7 : List (Nat × Instr × Nat) := [(546, .getfield 10, 3), (549, .iload_n 2, 1), (550, .iconst 3, 1), (551, .irem, 1), (552, .iload_n 3, 1), (553, .iload_n 2, 1), (554, .iconst 3, 1), (555, .idiv, 1), (556, .invokevirtual 297, 3), (559, .aload_n 0, 1), (560, .getfield 36, 3), (563, .iload_n 2, 1), (564, .aaload, 1), (565, .iload_n 3, 1), (566, .iaload, 1), (567, .if_icmp .eq 5, 3), (570, .iconst 0, 1), (571, .ireturn, 1), (572, .iinc 3 1, 3), (575, .goto (-41), 3), (578, .iinc 2 1, 3), (581, .goto (-81), 3), (584, .iconst 0, 1), (585, .istore_n 2, 1), (586, .iload_n 2, 1), (587, .aload_n 0, 1), (588, .getfield 93, 3), (591, .if_icmp .ge 46, 3), (594, .iload_n 1, 1), (595, .aload_n 0, 1), (596, .getfield 31, 3), (599, .iload_n 2, 1), (600, .aaload, 1), (601, .getfield 67, 3), (604, .iconst 2, 1), (605, .if_icmp .le 23, 3), (608, .aload_n 0, 1), (609, .getfield 31, 3), (612, .iload_n 2, 1), (613, .aaload, 1)]
theorem ck171_7 : pe_chk (pe_me 171).2.1 T171_7 = true := by decide +kernel
def T171_8 : List (Nat × Instr × Nat) := [(614, .getfield 67, 3), (617, .bipush 6, 2), (619, .if_icmp .ge 9, 3), (622, .iconst 1, 1), (623, .iload_n 2, 1), (624, .ishl, 1), (625, .goto 4, 3), (628, .iconst 0, 1), (629, .ior, 1), (630, .istore_n 1, 1), (631, .iinc 2 1, 3), (634, .goto (-48), 3), (637, .aload_n 0, 1), (638, .getfield 10, 3), (641, .iconst 0, 1), (642, .invokevirtual 300, 3), (645, .aload_n 0, 1), (646, .getfield 93, 3), (649, .if_icmp .ne 79, 3), (652, .aload_n 0, 1), (653, .getfield 10, 3), (656, .iconst 1, 1), (657, .invokevirtual 300, 3), (660, .aload_n 0, 1), (661, .getfield 182, 3), (664, .if_icmp .ne 64, 3), (667, .aload_n 0, 1), (668, .getfield 10, 3), (671, .iconst 2, 1), (672, .invokevirtual 300, 3), (675, .aload_n 0, 1), (676, .getfield 25, 3), (679, .if_icmp .ne 49, 3), (682, .aload_n 0, 1), (683, .getfield 10, 3), (686, .iconst 3, 1), (687, .invokevirtual 300, 3), (690, .aload_n 0, 1), (691, .invokevirtual 257, 3), (694, .if_icmp .ne 34, 3)]
theorem ck171_8 : pe_chk (pe_me 171).2.1 T171_8 = true := by decide +kernel
def T171_9 : List (Nat × Instr × Nat) := [(697, .aload_n 0, 1), (698, .getfield 10, 3), (701, .iconst 4, 1), (702, .invokevirtual 300, 3), (705, .iload_n 1, 1), (706, .if_icmp .ne 22, 3), (709, .aload_n 0, 1), (710, .getfield 10, 3), (713, .iconst 5, 1), (714, .invokevirtual 300, 3), (717, .aload_n 0, 1), (718, .invokevirtual 302, 3), (721, .if_icmp .ne 7, 3), (724, .iconst 1, 1), (725, .goto 4, 3), (728, .iconst 0, 1), (729, .ireturn, 1)]
theorem ck171_9 : pe_chk (pe_me 171).2.1 T171_9 = true := by decide +kernel
set_option maxRecDepth 20000 in
theorem ck171_all : pe_chk (pe_me 171).2.1 T171 = true := by
  have h : pe_chk (pe_me 171).2.1 (T171_0 ++ (T171_1 ++ (T171_2 ++ (T171_3 ++ (T171_4 ++ (T171_5 ++ (T171_6 ++ (T171_7 ++ (T171_8 ++ (T171_9)))))))))) = true := pe_chk_app ck171_0 (pe_chk_app ck171_1 (pe_chk_app ck171_2 (pe_chk_app ck171_3 (pe_chk_app ck171_4 (pe_chk_app ck171_5 (pe_chk_app ck171_6 (pe_chk_app ck171_7 (pe_chk_app ck171_8 (ck171_9)))))))))
  exact h
theorem ck171 : pe_ctx 171 21 false (some .boolean) 6 T171 := ⟨rfl, rfl, rfl, rfl, ck171_all, by decide, by decide⟩
theorem b171_0 {d : Nat} {Φ : Option pe_V → pe_H → Prop} {σ : pe_H} {o1 : Option pe_V} {o2 : Option pe_V} {o3 : Option pe_V} {o4 : Option pe_V} {o5 : Option pe_V} (hL : ll_L σ := by assumption)   (k : pe_X d 171 (2, [some (.inr (.inr 3)), some (.inl 0), o2, o3, o4, o5], [], σ) Φ) : pe_X d 171 (0, [some (.inr (.inr 3)), o1, o2, o3, o4, o5], [], σ) Φ := by
  refine pe_blk 0 2 ck171 [] (2, [some (.inr (.inr 3)), some (.inl 0), o2, o3, o4, o5], [], σ) rfl ?_ ?_
  · exact trivial
  · exact k
theorem b171_2 {d : Nat} {Φ : Option pe_V → pe_H → Prop} {σ : pe_H} {x1 : Int} {o2 : Option pe_V} {o3 : Option pe_V} {o4 : Option pe_V} {o5 : Option pe_V} (hL : ll_L σ := by assumption) (w0 : pe_in (pe_I σ 3 3) := by unfold pe_in; omega) (w1 : pe_in x1 := by unfold pe_in; omega)  (k1 : (pe_I σ 3 3) ≤ x1 → pe_X d 171 (496, [some (.inr (.inr 3)), some (.inl x1), o2, o3, o4, o5], [], σ) Φ) (k2 : ¬ ((pe_I σ 3 3) ≤ x1) → pe_X d 171 (10, [some (.inr (.inr 3)), some (.inl x1), o2, o3, o4, o5], [], σ) Φ) : pe_X d 171 (2, [some (.inr (.inr 3)), some (.inl x1), o2, o3, o4, o5], [], σ) Φ := by
  refine pe_blk 2 4 ck171 [pe_K σ 3 = 21] (cond (decide ((pe_w (pe_I σ 3 3)) ≤ (pe_w x1))) 496 10, [some (.inr (.inr 3)), some (.inl x1), o2, o3, o4, o5], [], σ) rfl ?_ ?_
  · first
    | (simp (disch := omega) only [pe_all, pe_wi w0, pe_wi w1, ll_k3 hL, pe_K_wI, pe_K_wR]; done)
    | (simp (disch := omega) only [pe_all, pe_wi w0, pe_wi w1, ll_k3 hL, pe_K_wI, pe_K_wR]; (repeat' apply And.intro) <;> first | assumption | omega | decide)
  · try simp (disch := omega) only [pe_wi w0, pe_wi w1, ll_k3 hL, pe_K_wI, pe_K_wR]
    exact pe_two k1 k2
theorem b171_10 {d : Nat} {Φ : Option pe_V → pe_H → Prop} {σ : pe_H} {x1 : Int} {o2 : Option pe_V} {o3 : Option pe_V} {o4 : Option pe_V} {o5 : Option pe_V} (hL : ll_L σ := by assumption) (w0 : pe_in x1 := by unfold pe_in; omega) (h0 : 0 ≤ x1 := by first | assumption | omega) (h1 : x1 < 8 := by first | assumption | omega) (k : pe_X d 171 (17, [some (.inr (.inr 3)), some (.inl x1), some (.inr (.inr (pe_R σ 891 x1))), o3, o4, o5], [], σ) Φ) : pe_X d 171 (10, [some (.inr (.inr 3)), some (.inl x1), o2, o3, o4, o5], [], σ) Φ := by
  refine pe_blk 6 5 ck171 [pe_K σ 3 = 21, 22 ≤ pe_K σ (pe_R σ 3 6) ∧ pe_K σ (pe_R σ 3 6) < 25, 0 ≤ (pe_w x1), (pe_w x1) < pe_L σ (pe_R σ 3 6)] (17, [some (.inr (.inr 3)), some (.inl x1), some (.inr (.inr (pe_R σ (pe_R σ 3 6) (pe_w x1)))), o3, o4, o5], [], σ) rfl ?_ ?_
  · first
    | (simp (disch := omega) only [pe_all, pe_wi w0, ll_e6 hL, ll_k3 hL, ll_k891 hL, ll_n891 hL, pe_K_wI, pe_K_wR, pe_L_wI, pe_L_wR, pe_R_nej, pe_R_ner, pe_R_wI]; done)
    | (simp (disch := omega) only [pe_all, pe_wi w0, ll_e6 hL, ll_k3 hL, ll_k891 hL, ll_n891 hL, pe_K_wI, pe_K_wR, pe_L_wI, pe_L_wR, pe_R_nej, pe_R_ner, pe_R_wI]; (repeat' apply And.intro) <;> first | assumption | omega | decide)
  · try simp (disch := omega) only [pe_wi w0, ll_e6 hL, ll_k3 hL, ll_k891 hL, ll_n891 hL, pe_K_wI, pe_K_wR, pe_L_wI, pe_L_wR, pe_R_nej, pe_R_ner, pe_R_wI]
    exact k
theorem b171_17 {d : Nat} {Φ : Option pe_V → pe_H → Prop} {σ : pe_H} {x1 : Int} {a2 : Nat} {o3 : Option pe_V} {o4 : Option pe_V} {o5 : Option pe_V} (hL : ll_L σ := by assumption) (w0 : pe_in (pe_I σ a2 3) := by unfold pe_in; omega) (h0 : pe_K σ a2 = 20 := by first | assumption | omega) (k1 : (pe_I σ a2 3) ≤ 2 → pe_X d 171 (38, [some (.inr (.inr 3)), some (.inl x1), some (.inr (.inr a2)), o3, o4, o5], [], σ) Φ) (k2 : ¬ ((pe_I σ a2 3) ≤ 2) → pe_X d 171 (25, [some (.inr (.inr 3)), some (.inl x1), some (.inr (.inr a2)), o3, o4, o5], [], σ) Φ) : pe_X d 171 (17, [some (.inr (.inr 3)), some (.inl x1), some (.inr (.inr a2)), o3, o4, o5], [], σ) Φ := by
  refine pe_blk 11 4 ck171 [pe_K σ a2 = 20] (cond (decide ((pe_w (pe_I σ a2 3)) ≤ (pe_w 2))) 38 25, [some (.inr (.inr 3)), some (.inl x1), some (.inr (.inr a2)), o3, o4, o5], [], σ) rfl ?_ ?_
  · first
    | (simp (disch := omega) only [pe_all, pe_wi w0, pe_wi (x := 2) ⟨by decide, by decide⟩, pe_K_wI, pe_K_wR]; done)
    | (simp (disch := omega) only [pe_all, pe_wi w0, pe_wi (x := 2) ⟨by decide, by decide⟩, pe_K_wI, pe_K_wR]; (repeat' apply And.intro) <;> first | assumption | omega | decide)
  · try simp (disch := omega) only [pe_wi w0, pe_wi (x := 2) ⟨by decide, by decide⟩, pe_K_wI, pe_K_wR]
    exact pe_two k1 k2
theorem b171_25 {d : Nat} {Φ : Option pe_V → pe_H → Prop} {σ : pe_H} {x1 : Int} {a2 : Nat} {o3 : Option pe_V} {o4 : Option pe_V} {o5 : Option pe_V} (hL : ll_L σ := by assumption) (w0 : pe_in (pe_I σ a2 3) := by unfold pe_in; omega) (h0 : pe_K σ a2 = 20 := by first | assumption | omega) (k1 : 6 ≤ (pe_I σ a2 3) → pe_X d 171 (38, [some (.inr (.inr 3)), some (.inl x1), some (.inr (.inr a2)), o3, o4, o5], [], σ) Φ) (k2 : ¬ (6 ≤ (pe_I σ a2 3)) → pe_X d 171 (34, [some (.inr (.inr 3)), some (.inl x1), some (.inr (.inr a2)), o3, o4, o5], [], σ) Φ) : pe_X d 171 (25, [some (.inr (.inr 3)), some (.inl x1), some (.inr (.inr a2)), o3, o4, o5], [], σ) Φ := by
  refine pe_blk 15 4 ck171 [pe_K σ a2 = 20] (cond (decide ((pe_w 6) ≤ (pe_w (pe_I σ a2 3)))) 38 34, [some (.inr (.inr 3)), some (.inl x1), some (.inr (.inr a2)), o3, o4, o5], [], σ) rfl ?_ ?_
  · first
    | (simp (disch := omega) only [pe_all, pe_wi w0, pe_wi (x := 6) ⟨by decide, by decide⟩, pe_K_wI, pe_K_wR]; done)
    | (simp (disch := omega) only [pe_all, pe_wi w0, pe_wi (x := 6) ⟨by decide, by decide⟩, pe_K_wI, pe_K_wR]; (repeat' apply And.intro) <;> first | assumption | omega | decide)
  · try simp (disch := omega) only [pe_wi w0, pe_wi (x := 6) ⟨by decide, by decide⟩, pe_K_wI, pe_K_wR]
    exact pe_two k1 k2
theorem b171_34 {d : Nat} {Φ : Option pe_V → pe_H → Prop} {σ : pe_H} {x1 : Int} {a2 : Nat} {o3 : Option pe_V} {o4 : Option pe_V} {o5 : Option pe_V} (hL : ll_L σ := by assumption)   (k : pe_X d 171 (39, [some (.inr (.inr 3)), some (.inl x1), some (.inr (.inr a2)), o3, o4, o5], [.inl 1], σ) Φ) : pe_X d 171 (34, [some (.inr (.inr 3)), some (.inl x1), some (.inr (.inr a2)), o3, o4, o5], [], σ) Φ := by
  refine pe_blk 19 2 ck171 [] (39, [some (.inr (.inr 3)), some (.inl x1), some (.inr (.inr a2)), o3, o4, o5], [.inl 1], σ) rfl ?_ ?_
  · exact trivial
  · exact k
theorem b171_38 {d : Nat} {Φ : Option pe_V → pe_H → Prop} {σ : pe_H} {x1 : Int} {a2 : Nat} {o3 : Option pe_V} {o4 : Option pe_V} {o5 : Option pe_V} (hL : ll_L σ := by assumption)   (k : pe_X d 171 (39, [some (.inr (.inr 3)), some (.inl x1), some (.inr (.inr a2)), o3, o4, o5], [.inl 0], σ) Φ) : pe_X d 171 (38, [some (.inr (.inr 3)), some (.inl x1), some (.inr (.inr a2)), o3, o4, o5], [], σ) Φ := by
  refine pe_blk 21 1 ck171 [] (39, [some (.inr (.inr 3)), some (.inl x1), some (.inr (.inr a2)), o3, o4, o5], [.inl 0], σ) rfl ?_ ?_
  · exact trivial
  · exact k
theorem b171_39 {d : Nat} {Φ : Option pe_V → pe_H → Prop} {σ : pe_H} {x1 : Int} {a2 : Nat} {o3 : Option pe_V} {o4 : Option pe_V} {o5 : Option pe_V} {s0 : Int} (hL : ll_L σ := by assumption)   (k : pe_M d 83 [.inr (.inr 4), .inl x1, .inl 0] σ (fun r σ' => pe_X d 171 (49, [some (.inr (.inr 3)), some (.inl x1), some (.inr (.inr a2)), some (.inl s0), o4, o5], r.toList ++ [], σ') Φ)) : pe_X d 171 (39, [some (.inr (.inr 3)), some (.inl x1), some (.inr (.inr a2)), o3, o4, o5], [.inl s0], σ) Φ := by
  refine pe_blk 22 5 ck171 [pe_K σ 3 = 21] (46, [some (.inr (.inr 3)), some (.inl x1), some (.inr (.inr a2)), some (.inl s0), o4, o5], [.inl 0, .inl x1, .inr (.inr (pe_R σ 3 0))], σ) rfl ?_ ?_
  · first
    | (simp (disch := omega) only [pe_all, ll_e0 hL, ll_k3 hL, ll_k4 hL, pe_K_wI, pe_K_wR, pe_R_nej, pe_R_ner, pe_R_wI]; done)
    | (simp (disch := omega) only [pe_all, ll_e0 hL, ll_k3 hL, ll_k4 hL, pe_K_wI, pe_K_wR, pe_R_nej, pe_R_ner, pe_R_wI]; (repeat' apply And.intro) <;> first | assumption | omega | decide)
  · try simp (disch := omega) only [ll_e0 hL, ll_k3 hL, ll_k4 hL, pe_K_wI, pe_K_wR, pe_R_nej, pe_R_ner, pe_R_wI]
    have hrc : pe_K σ 4 = 8 := by first | assumption | (simp (disch := omega) only [ll_e0 hL, ll_k3 hL, ll_k4 hL, pe_K_wI, pe_K_wR, pe_R_nej, pe_R_ner, pe_R_wI]; done) | (simp (disch := omega) only [ll_e0 hL, ll_k3 hL, ll_k4 hL, pe_K_wI, pe_K_wR, pe_R_nej, pe_R_ner, pe_R_wI]; assumption)
    exact pe_cal 27 ck171 rfl rfl rfl ⟨hrc, by decide⟩ k
theorem b171_49 {d : Nat} {Φ : Option pe_V → pe_H → Prop} {σ : pe_H} {x1 : Int} {a2 : Nat} {x3 : Int} {o4 : Option pe_V} {o5 : Option pe_V} {s0 : Int} (hL : ll_L σ := by assumption) (w0 : pe_in (pe_I σ a2 3) := by unfold pe_in; omega) (w1 : pe_in s0 := by unfold pe_in; omega) (h0 : pe_K σ a2 = 20 := by first | assumption | omega) (k1 : ¬ s0 = (pe_I σ a2 3) → pe_X d 171 (263, [some (.inr (.inr 3)), some (.inl x1), some (.inr (.inr a2)), some (.inl x3), o4, o5], [], σ) Φ) (k2 : s0 = (pe_I σ a2 3) → pe_X d 171 (56, [some (.inr (.inr 3)), some (.inl x1), some (.inr (.inr a2)), some (.inl x3), o4, o5], [], σ) Φ) : pe_X d 171 (49, [some (.inr (.inr 3)), some (.inl x1), some (.inr (.inr a2)), some (.inl x3), o4, o5], [.inl s0], σ) Φ := by
  refine pe_blk 28 3 ck171 [pe_K σ a2 = 20] (cond (decide (¬ (pe_w s0) = (pe_w (pe_I σ a2 3)))) 263 56, [some (.inr (.inr 3)), some (.inl x1), some (.inr (.inr a2)), some (.inl x3), o4, o5], [], σ) rfl ?_ ?_
  · first
    | (simp (disch := omega) only [pe_all, pe_wi w0, pe_wi w1, pe_K_wI, pe_K_wR]; done)
    | (simp (disch := omega) only [pe_all, pe_wi w0, pe_wi w1, pe_K_wI, pe_K_wR]; (repeat' apply And.intro) <;> first | assumption | omega | decide)
  · try simp (disch := omega) only [pe_wi w0, pe_wi w1, pe_K_wI, pe_K_wR]
    exact pe_two' k1 k2
theorem b171_56 {d : Nat} {Φ : Option pe_V → pe_H → Prop} {σ : pe_H} {x1 : Int} {a2 : Nat} {x3 : Int} {o4 : Option pe_V} {o5 : Option pe_V} (hL : ll_L σ := by assumption)   (k : pe_M d 83 [.inr (.inr 4), .inl x1, .inl 1] σ (fun r σ' => pe_X d 171 (65, [some (.inr (.inr 3)), some (.inl x1), some (.inr (.inr a2)), some (.inl x3), o4, o5], r.toList ++ [], σ') Φ)) : pe_X d 171 (56, [some (.inr (.inr 3)), some (.inl x1), some (.inr (.inr a2)), some (.inl x3), o4, o5], [], σ) Φ := by
  refine pe_blk 31 4 ck171 [pe_K σ 3 = 21] (62, [some (.inr (.inr 3)), some (.inl x1), some (.inr (.inr a2)), some (.inl x3), o4, o5], [.inl 1, .inl x1, .inr (.inr (pe_R σ 3 0))], σ) rfl ?_ ?_
  · first
    | (simp (disch := omega) only [pe_all, ll_e0 hL, ll_k3 hL, ll_k4 hL, pe_K_wI, pe_K_wR, pe_R_nej, pe_R_ner, pe_R_wI]; done)
    | (simp (disch := omega) only [pe_all, ll_e0 hL, ll_k3 hL, ll_k4 hL, pe_K_wI, pe_K_wR, pe_R_nej, pe_R_ner, pe_R_wI]; (repeat' apply And.intro) <;> first | assumption | omega | decide)
  · try simp (disch := omega) only [ll_e0 hL, ll_k3 hL, ll_k4 hL, pe_K_wI, pe_K_wR, pe_R_nej, pe_R_ner, pe_R_wI]
    have hrc : pe_K σ 4 = 8 := by first | assumption | (simp (disch := omega) only [ll_e0 hL, ll_k3 hL, ll_k4 hL, pe_K_wI, pe_K_wR, pe_R_nej, pe_R_ner, pe_R_wI]; done) | (simp (disch := omega) only [ll_e0 hL, ll_k3 hL, ll_k4 hL, pe_K_wI, pe_K_wR, pe_R_nej, pe_R_ner, pe_R_wI]; assumption)
    exact pe_cal 35 ck171 rfl rfl rfl ⟨hrc, by decide⟩ k
theorem b171_65 {d : Nat} {Φ : Option pe_V → pe_H → Prop} {σ : pe_H} {x1 : Int} {a2 : Nat} {x3 : Int} {o4 : Option pe_V} {o5 : Option pe_V} {s0 : Int} (hL : ll_L σ := by assumption) (w0 : pe_in (pe_I σ a2 4) := by unfold pe_in; omega) (w1 : pe_in s0 := by unfold pe_in; omega) (h0 : pe_K σ a2 = 20 := by first | assumption | omega) (k1 : ¬ s0 = (pe_I σ a2 4) → pe_X d 171 (263, [some (.inr (.inr 3)), some (.inl x1), some (.inr (.inr a2)), some (.inl x3), o4, o5], [], σ) Φ) (k2 : s0 = (pe_I σ a2 4) → pe_X d 171 (72, [some (.inr (.inr 3)), some (.inl x1), some (.inr (.inr a2)), some (.inl x3), o4, o5], [], σ) Φ) : pe_X d 171 (65, [some (.inr (.inr 3)), some (.inl x1), some (.inr (.inr a2)), some (.inl x3), o4, o5], [.inl s0], σ) Φ := by
  refine pe_blk 36 3 ck171 [pe_K σ a2 = 20] (cond (decide (¬ (pe_w s0) = (pe_w (pe_I σ a2 4)))) 263 72, [some (.inr (.inr 3)), some (.inl x1), some (.inr (.inr a2)), some (.inl x3), o4, o5], [], σ) rfl ?_ ?_
  · first
    | (simp (disch := omega) only [pe_all, pe_wi w0, pe_wi w1, pe_K_wI, pe_K_wR]; done)
    | (simp (disch := omega) only [pe_all, pe_wi w0, pe_wi w1, pe_K_wI, pe_K_wR]; (repeat' apply And.intro) <;> first | assumption | omega | decide)
  · try simp (disch := omega) only [pe_wi w0, pe_wi w1, pe_K_wI, pe_K_wR]
    exact pe_two' k1 k2
theorem b171_72 {d : Nat} {Φ : Option pe_V → pe_H → Prop} {σ : pe_H} {x1 : Int} {a2 : Nat} {x3 : Int} {o4 : Option pe_V} {o5 : Option pe_V} (hL : ll_L σ := by assumption)   (k : pe_M d 83 [.inr (.inr 4), .inl x1, .inl 2] σ (fun r σ' => pe_X d 171 (81, [some (.inr (.inr 3)), some (.inl x1), some (.inr (.inr a2)), some (.inl x3), o4, o5], r.toList ++ [], σ') Φ)) : pe_X d 171 (72, [some (.inr (.inr 3)), some (.inl x1), some (.inr (.inr a2)), some (.inl x3), o4, o5], [], σ) Φ := by
  refine pe_blk 39 4 ck171 [pe_K σ 3 = 21] (78, [some (.inr (.inr 3)), some (.inl x1), some (.inr (.inr a2)), some (.inl x3), o4, o5], [.inl 2, .inl x1, .inr (.inr (pe_R σ 3 0))], σ) rfl ?_ ?_
  · first
    | (simp (disch := omega) only [pe_all, ll_e0 hL, ll_k3 hL, ll_k4 hL, pe_K_wI, pe_K_wR, pe_R_nej, pe_R_ner, pe_R_wI]; done)
    | (simp (disch := omega) only [pe_all, ll_e0 hL, ll_k3 hL, ll_k4 hL, pe_K_wI, pe_K_wR, pe_R_nej, pe_R_ner, pe_R_wI]; (repeat' apply And.intro) <;> first | assumption | omega | decide)
  · try simp (disch := omega) only [ll_e0 hL, ll_k3 hL, ll_k4 hL, pe_K_wI, pe_K_wR, pe_R_nej, pe_R_ner, pe_R_wI]
    have hrc : pe_K σ 4 = 8 := by first | assumption | (simp (disch := omega) only [ll_e0 hL, ll_k3 hL, ll_k4 hL, pe_K_wI, pe_K_wR, pe_R_nej, pe_R_ner, pe_R_wI]; done) | (simp (disch := omega) only [ll_e0 hL, ll_k3 hL, ll_k4 hL, pe_K_wI, pe_K_wR, pe_R_nej, pe_R_ner, pe_R_wI]; assumption)
    exact pe_cal 43 ck171 rfl rfl rfl ⟨hrc, by decide⟩ k
theorem b171_81 {d : Nat} {Φ : Option pe_V → pe_H → Prop} {σ : pe_H} {x1 : Int} {a2 : Nat} {x3 : Int} {o4 : Option pe_V} {o5 : Option pe_V} {s0 : Int} (hL : ll_L σ := by assumption) (w0 : pe_in (pe_I σ a2 5) := by unfold pe_in; omega) (w1 : pe_in s0 := by unfold pe_in; omega) (h0 : pe_K σ a2 = 20 := by first | assumption | omega) (k1 : ¬ s0 = (pe_I σ a2 5) → pe_X d 171 (263, [some (.inr (.inr 3)), some (.inl x1), some (.inr (.inr a2)), some (.inl x3), o4, o5], [], σ) Φ) (k2 : s0 = (pe_I σ a2 5) → pe_X d 171 (88, [some (.inr (.inr 3)), some (.inl x1), some (.inr (.inr a2)), some (.inl x3), o4, o5], [], σ) Φ) : pe_X d 171 (81, [some (.inr (.inr 3)), some (.inl x1), some (.inr (.inr a2)), some (.inl x3), o4, o5], [.inl s0], σ) Φ := by
  refine pe_blk 44 3 ck171 [pe_K σ a2 = 20] (cond (decide (¬ (pe_w s0) = (pe_w (pe_I σ a2 5)))) 263 88, [some (.inr (.inr 3)), some (.inl x1), some (.inr (.inr a2)), some (.inl x3), o4, o5], [], σ) rfl ?_ ?_
  · first
    | (simp (disch := omega) only [pe_all, pe_wi w0, pe_wi w1, pe_K_wI, pe_K_wR]; done)
    | (simp (disch := omega) only [pe_all, pe_wi w0, pe_wi w1, pe_K_wI, pe_K_wR]; (repeat' apply And.intro) <;> first | assumption | omega | decide)
  · try simp (disch := omega) only [pe_wi w0, pe_wi w1, pe_K_wI, pe_K_wR]
    exact pe_two' k1 k2
set_option maxRecDepth 8000 in
theorem b171_88 {d : Nat} {Φ : Option pe_V → pe_H → Prop} {σ : pe_H} {x1 : Int} {a2 : Nat} {x3 : Int} {o4 : Option pe_V} {o5 : Option pe_V} (hL : ll_L σ := by assumption)   (k : pe_M d 83 [.inr (.inr 4), .inl x1, .inl 3] σ (fun r σ' => pe_X d 171 (97, [some (.inr (.inr 3)), some (.inl x1), some (.inr (.inr a2)), some (.inl x3), o4, o5], r.toList ++ [], σ') Φ)) : pe_X d 171 (88, [some (.inr (.inr 3)), some (.inl x1), some (.inr (.inr a2)), some (.inl x3), o4, o5], [], σ) Φ := by
  refine pe_blk 47 4 ck171 [pe_K σ 3 = 21] (94, [some (.inr (.inr 3)), some (.inl x1), some (.inr (.inr a2)), some (.inl x3), o4, o5], [.inl 3, .inl x1, .inr (.inr (pe_R σ 3 0))], σ) rfl ?_ ?_
  · first
    | (simp (disch := omega) only [pe_all, ll_e0 hL, ll_k3 hL, ll_k4 hL, pe_K_wI, pe_K_wR, pe_R_nej, pe_R_ner, pe_R_wI]; done)
    | (simp (disch := omega) only [pe_all, ll_e0 hL, ll_k3 hL, ll_k4 hL, pe_K_wI, pe_K_wR, pe_R_nej, pe_R_ner, pe_R_wI]; (repeat' apply And.intro) <;> first | assumption | omega | decide)
  · try simp (disch := omega) only [ll_e0 hL, ll_k3 hL, ll_k4 hL, pe_K_wI, pe_K_wR, pe_R_nej, pe_R_ner, pe_R_wI]
    have hrc : pe_K σ 4 = 8 := by first | assumption | (simp (disch := omega) only [ll_e0 hL, ll_k3 hL, ll_k4 hL, pe_K_wI, pe_K_wR, pe_R_nej, pe_R_ner, pe_R_wI]; done) | (simp (disch := omega) only [ll_e0 hL, ll_k3 hL, ll_k4 hL, pe_K_wI, pe_K_wR, pe_R_nej, pe_R_ner, pe_R_wI]; assumption)
    exact pe_cal 51 ck171 rfl rfl rfl ⟨hrc, by decide⟩ k
set_option maxRecDepth 8000 in
theorem b171_97 {d : Nat} {Φ : Option pe_V → pe_H → Prop} {σ : pe_H} {x1 : Int} {a2 : Nat} {x3 : Int} {o4 : Option pe_V} {o5 : Option pe_V} {s0 : Int} (hL : ll_L σ := by assumption) (w0 : pe_in (pe_I σ a2 6) := by unfold pe_in; omega) (w1 : pe_in s0 := by unfold pe_in; omega) (h0 : pe_K σ a2 = 20 := by first | assumption | omega) (k1 : ¬ s0 = (pe_I σ a2 6) → pe_X d 171 (263, [some (.inr (.inr 3)), some (.inl x1), some (.inr (.inr a2)), some (.inl x3), o4, o5], [], σ) Φ) (k2 : s0 = (pe_I σ a2 6) → pe_X d 171 (104, [some (.inr (.inr 3)), some (.inl x1), some (.inr (.inr a2)), some (.inl x3), o4, o5], [], σ) Φ) : pe_X d 171 (97, [some (.inr (.inr 3)), some (.inl x1), some (.inr (.inr a2)), some (.inl x3), o4, o5], [.inl s0], σ) Φ := by
  refine pe_blk 52 3 ck171 [pe_K σ a2 = 20] (cond (decide (¬ (pe_w s0) = (pe_w (pe_I σ a2 6)))) 263 104, [some (.inr (.inr 3)), some (.inl x1), some (.inr (.inr a2)), some (.inl x3), o4, o5], [], σ) rfl ?_ ?_
  · first
    | (simp (disch := omega) only [pe_all, pe_wi w0, pe_wi w1, pe_K_wI, pe_K_wR]; done)
    | (simp (disch := omega) only [pe_all, pe_wi w0, pe_wi w1, pe_K_wI, pe_K_wR]; (repeat' apply And.intro) <;> first | assumption | omega | decide)
  · try simp (disch := omega) only [pe_wi w0, pe_wi w1, pe_K_wI, pe_K_wR]
    exact pe_two' k1 k2
set_option maxRecDepth 8000 in
theorem b171_104 {d : Nat} {Φ : Option pe_V → pe_H → Prop} {σ : pe_H} {x1 : Int} {a2 : Nat} {x3 : Int} {o4 : Option pe_V} {o5 : Option pe_V} (hL : ll_L σ := by assumption)   (k : pe_M d 83 [.inr (.inr 4), .inl x1, .inl 4] σ (fun r σ' => pe_X d 171 (113, [some (.inr (.inr 3)), some (.inl x1), some (.inr (.inr a2)), some (.inl x3), o4, o5], r.toList ++ [], σ') Φ)) : pe_X d 171 (104, [some (.inr (.inr 3)), some (.inl x1), some (.inr (.inr a2)), some (.inl x3), o4, o5], [], σ) Φ := by
  refine pe_blk 55 4 ck171 [pe_K σ 3 = 21] (110, [some (.inr (.inr 3)), some (.inl x1), some (.inr (.inr a2)), some (.inl x3), o4, o5], [.inl 4, .inl x1, .inr (.inr (pe_R σ 3 0))], σ) rfl ?_ ?_
  · first
    | (simp (disch := omega) only [pe_all, ll_e0 hL, ll_k3 hL, ll_k4 hL, pe_K_wI, pe_K_wR, pe_R_nej, pe_R_ner, pe_R_wI]; done)
    | (simp (disch := omega) only [pe_all, ll_e0 hL, ll_k3 hL, ll_k4 hL, pe_K_wI, pe_K_wR, pe_R_nej, pe_R_ner, pe_R_wI]; (repeat' apply And.intro) <;> first | assumption | omega | decide)
  · try simp (disch := omega) only [ll_e0 hL, ll_k3 hL, ll_k4 hL, pe_K_wI, pe_K_wR, pe_R_nej, pe_R_ner, pe_R_wI]
    have hrc : pe_K σ 4 = 8 := by first | assumption | (simp (disch := omega) only [ll_e0 hL, ll_k3 hL, ll_k4 hL, pe_K_wI, pe_K_wR, pe_R_nej, pe_R_ner, pe_R_wI]; done) | (simp (disch := omega) only [ll_e0 hL, ll_k3 hL, ll_k4 hL, pe_K_wI, pe_K_wR, pe_R_nej, pe_R_ner, pe_R_wI]; assumption)
    exact pe_cal 59 ck171 rfl rfl rfl ⟨hrc, by decide⟩ k
set_option maxRecDepth 8000 in
theorem b171_113 {d : Nat} {Φ : Option pe_V → pe_H → Prop} {σ : pe_H} {x1 : Int} {a2 : Nat} {x3 : Int} {o4 : Option pe_V} {o5 : Option pe_V} {s0 : Int} (hL : ll_L σ := by assumption) (w0 : pe_in (pe_I σ a2 7) := by unfold pe_in; omega) (w1 : pe_in s0 := by unfold pe_in; omega) (h0 : pe_K σ a2 = 20 := by first | assumption | omega) (k1 : ¬ s0 = (pe_I σ a2 7) → pe_X d 171 (263, [some (.inr (.inr 3)), some (.inl x1), some (.inr (.inr a2)), some (.inl x3), o4, o5], [], σ) Φ) (k2 : s0 = (pe_I σ a2 7) → pe_X d 171 (120, [some (.inr (.inr 3)), some (.inl x1), some (.inr (.inr a2)), some (.inl x3), o4, o5], [], σ) Φ) : pe_X d 171 (113, [some (.inr (.inr 3)), some (.inl x1), some (.inr (.inr a2)), some (.inl x3), o4, o5], [.inl s0], σ) Φ := by
  refine pe_blk 60 3 ck171 [pe_K σ a2 = 20] (cond (decide (¬ (pe_w s0) = (pe_w (pe_I σ a2 7)))) 263 120, [some (.inr (.inr 3)), some (.inl x1), some (.inr (.inr a2)), some (.inl x3), o4, o5], [], σ) rfl ?_ ?_
  · first
    | (simp (disch := omega) only [pe_all, pe_wi w0, pe_wi w1, pe_K_wI, pe_K_wR]; done)
    | (simp (disch := omega) only [pe_all, pe_wi w0, pe_wi w1, pe_K_wI, pe_K_wR]; (repeat' apply And.intro) <;> first | assumption | omega | decide)
  · try simp (disch := omega) only [pe_wi w0, pe_wi w1, pe_K_wI, pe_K_wR]
    exact pe_two' k1 k2
set_option maxRecDepth 8000 in
theorem b171_120 {d : Nat} {Φ : Option pe_V → pe_H → Prop} {σ : pe_H} {x1 : Int} {a2 : Nat} {x3 : Int} {o4 : Option pe_V} {o5 : Option pe_V} (hL : ll_L σ := by assumption)   (k : pe_M d 83 [.inr (.inr 4), .inl x1, .inl 5] σ (fun r σ' => pe_X d 171 (129, [some (.inr (.inr 3)), some (.inl x1), some (.inr (.inr a2)), some (.inl x3), o4, o5], r.toList ++ [], σ') Φ)) : pe_X d 171 (120, [some (.inr (.inr 3)), some (.inl x1), some (.inr (.inr a2)), some (.inl x3), o4, o5], [], σ) Φ := by
  refine pe_blk 63 4 ck171 [pe_K σ 3 = 21] (126, [some (.inr (.inr 3)), some (.inl x1), some (.inr (.inr a2)), some (.inl x3), o4, o5], [.inl 5, .inl x1, .inr (.inr (pe_R σ 3 0))], σ) rfl ?_ ?_
  · first
    | (simp (disch := omega) only [pe_all, ll_e0 hL, ll_k3 hL, ll_k4 hL, pe_K_wI, pe_K_wR, pe_R_nej, pe_R_ner, pe_R_wI]; done)
    | (simp (disch := omega) only [pe_all, ll_e0 hL, ll_k3 hL, ll_k4 hL, pe_K_wI, pe_K_wR, pe_R_nej, pe_R_ner, pe_R_wI]; (repeat' apply And.intro) <;> first | assumption | omega | decide)
  · try simp (disch := omega) only [ll_e0 hL, ll_k3 hL, ll_k4 hL, pe_K_wI, pe_K_wR, pe_R_nej, pe_R_ner, pe_R_wI]
    have hrc : pe_K σ 4 = 8 := by first | assumption | (simp (disch := omega) only [ll_e0 hL, ll_k3 hL, ll_k4 hL, pe_K_wI, pe_K_wR, pe_R_nej, pe_R_ner, pe_R_wI]; done) | (simp (disch := omega) only [ll_e0 hL, ll_k3 hL, ll_k4 hL, pe_K_wI, pe_K_wR, pe_R_nej, pe_R_ner, pe_R_wI]; assumption)
    exact pe_cal 67 ck171 rfl rfl rfl ⟨hrc, by decide⟩ k
set_option maxRecDepth 8000 in
theorem b171_129 {d : Nat} {Φ : Option pe_V → pe_H → Prop} {σ : pe_H} {x1 : Int} {a2 : Nat} {x3 : Int} {o4 : Option pe_V} {o5 : Option pe_V} {s0 : Int} (hL : ll_L σ := by assumption) (w0 : pe_in (pe_I σ a2 0) := by unfold pe_in; omega) (w1 : pe_in s0 := by unfold pe_in; omega) (h0 : pe_K σ a2 = 20 := by first | assumption | omega) (k1 : ¬ s0 = (pe_I σ a2 0) → pe_X d 171 (263, [some (.inr (.inr 3)), some (.inl x1), some (.inr (.inr a2)), some (.inl x3), o4, o5], [], σ) Φ) (k2 : s0 = (pe_I σ a2 0) → pe_X d 171 (136, [some (.inr (.inr 3)), some (.inl x1), some (.inr (.inr a2)), some (.inl x3), o4, o5], [], σ) Φ) : pe_X d 171 (129, [some (.inr (.inr 3)), some (.inl x1), some (.inr (.inr a2)), some (.inl x3), o4, o5], [.inl s0], σ) Φ := by
  refine pe_blk 68 3 ck171 [pe_K σ a2 = 20] (cond (decide (¬ (pe_w s0) = (pe_w (pe_I σ a2 0)))) 263 136, [some (.inr (.inr 3)), some (.inl x1), some (.inr (.inr a2)), some (.inl x3), o4, o5], [], σ) rfl ?_ ?_
  · first
    | (simp (disch := omega) only [pe_all, pe_wi w0, pe_wi w1, pe_K_wI, pe_K_wR]; done)
    | (simp (disch := omega) only [pe_all, pe_wi w0, pe_wi w1, pe_K_wI, pe_K_wR]; (repeat' apply And.intro) <;> first | assumption | omega | decide)
  · try simp (disch := omega) only [pe_wi w0, pe_wi w1, pe_K_wI, pe_K_wR]
    exact pe_two' k1 k2
set_option maxRecDepth 8000 in
theorem b171_136 {d : Nat} {Φ : Option pe_V → pe_H → Prop} {σ : pe_H} {x1 : Int} {a2 : Nat} {x3 : Int} {o4 : Option pe_V} {o5 : Option pe_V} (hL : ll_L σ := by assumption)   (k : pe_M d 83 [.inr (.inr 4), .inl x1, .inl 6] σ (fun r σ' => pe_X d 171 (146, [some (.inr (.inr 3)), some (.inl x1), some (.inr (.inr a2)), some (.inl x3), o4, o5], r.toList ++ [], σ') Φ)) : pe_X d 171 (136, [some (.inr (.inr 3)), some (.inl x1), some (.inr (.inr a2)), some (.inl x3), o4, o5], [], σ) Φ := by
  refine pe_blk 71 4 ck171 [pe_K σ 3 = 21] (143, [some (.inr (.inr 3)), some (.inl x1), some (.inr (.inr a2)), some (.inl x3), o4, o5], [.inl 6, .inl x1, .inr (.inr (pe_R σ 3 0))], σ) rfl ?_ ?_
  · first
    | (simp (disch := omega) only [pe_all, ll_e0 hL, ll_k3 hL, ll_k4 hL, pe_K_wI, pe_K_wR, pe_R_nej, pe_R_ner, pe_R_wI]; done)
    | (simp (disch := omega) only [pe_all, ll_e0 hL, ll_k3 hL, ll_k4 hL, pe_K_wI, pe_K_wR, pe_R_nej, pe_R_ner, pe_R_wI]; (repeat' apply And.intro) <;> first | assumption | omega | decide)
  · try simp (disch := omega) only [ll_e0 hL, ll_k3 hL, ll_k4 hL, pe_K_wI, pe_K_wR, pe_R_nej, pe_R_ner, pe_R_wI]
    have hrc : pe_K σ 4 = 8 := by first | assumption | (simp (disch := omega) only [ll_e0 hL, ll_k3 hL, ll_k4 hL, pe_K_wI, pe_K_wR, pe_R_nej, pe_R_ner, pe_R_wI]; done) | (simp (disch := omega) only [ll_e0 hL, ll_k3 hL, ll_k4 hL, pe_K_wI, pe_K_wR, pe_R_nej, pe_R_ner, pe_R_wI]; assumption)
    exact pe_cal 75 ck171 rfl rfl rfl ⟨hrc, by decide⟩ k
set_option maxRecDepth 8000 in
theorem b171_146 {d : Nat} {Φ : Option pe_V → pe_H → Prop} {σ : pe_H} {x1 : Int} {a2 : Nat} {x3 : Int} {o4 : Option pe_V} {o5 : Option pe_V} {s0 : Int} (hL : ll_L σ := by assumption) (w0 : pe_in (pe_I σ a2 1) := by unfold pe_in; omega) (w1 : pe_in s0 := by unfold pe_in; omega) (h0 : pe_K σ a2 = 20 := by first | assumption | omega) (k1 : ¬ s0 = (pe_I σ a2 1) → pe_X d 171 (263, [some (.inr (.inr 3)), some (.inl x1), some (.inr (.inr a2)), some (.inl x3), o4, o5], [], σ) Φ) (k2 : s0 = (pe_I σ a2 1) → pe_X d 171 (153, [some (.inr (.inr 3)), some (.inl x1), some (.inr (.inr a2)), some (.inl x3), o4, o5], [], σ) Φ) : pe_X d 171 (146, [some (.inr (.inr 3)), some (.inl x1), some (.inr (.inr a2)), some (.inl x3), o4, o5], [.inl s0], σ) Φ := by
  refine pe_blk 76 3 ck171 [pe_K σ a2 = 20] (cond (decide (¬ (pe_w s0) = (pe_w (pe_I σ a2 1)))) 263 153, [some (.inr (.inr 3)), some (.inl x1), some (.inr (.inr a2)), some (.inl x3), o4, o5], [], σ) rfl ?_ ?_
  · first
    | (simp (disch := omega) only [pe_all, pe_wi w0, pe_wi w1, pe_K_wI, pe_K_wR]; done)
    | (simp (disch := omega) only [pe_all, pe_wi w0, pe_wi w1, pe_K_wI, pe_K_wR]; (repeat' apply And.intro) <;> first | assumption | omega | decide)
  · try simp (disch := omega) only [pe_wi w0, pe_wi w1, pe_K_wI, pe_K_wR]
    exact pe_two' k1 k2
set_option maxRecDepth 8000 in
theorem b171_153 {d : Nat} {Φ : Option pe_V → pe_H → Prop} {σ : pe_H} {x1 : Int} {a2 : Nat} {x3 : Int} {o4 : Option pe_V} {o5 : Option pe_V} (hL : ll_L σ := by assumption)   (k : pe_M d 83 [.inr (.inr 4), .inl x1, .inl 7] σ (fun r σ' => pe_X d 171 (163, [some (.inr (.inr 3)), some (.inl x1), some (.inr (.inr a2)), some (.inl x3), o4, o5], r.toList ++ [], σ') Φ)) : pe_X d 171 (153, [some (.inr (.inr 3)), some (.inl x1), some (.inr (.inr a2)), some (.inl x3), o4, o5], [], σ) Φ := by
  refine pe_blk 79 4 ck171 [pe_K σ 3 = 21] (160, [some (.inr (.inr 3)), some (.inl x1), some (.inr (.inr a2)), some (.inl x3), o4, o5], [.inl 7, .inl x1, .inr (.inr (pe_R σ 3 0))], σ) rfl ?_ ?_
  · first
    | (simp (disch := omega) only [pe_all, ll_e0 hL, ll_k3 hL, ll_k4 hL, pe_K_wI, pe_K_wR, pe_R_nej, pe_R_ner, pe_R_wI]; done)
    | (simp (disch := omega) only [pe_all, ll_e0 hL, ll_k3 hL, ll_k4 hL, pe_K_wI, pe_K_wR, pe_R_nej, pe_R_ner, pe_R_wI]; (repeat' apply And.intro) <;> first | assumption | omega | decide)
  · try simp (disch := omega) only [ll_e0 hL, ll_k3 hL, ll_k4 hL, pe_K_wI, pe_K_wR, pe_R_nej, pe_R_ner, pe_R_wI]
    have hrc : pe_K σ 4 = 8 := by first | assumption | (simp (disch := omega) only [ll_e0 hL, ll_k3 hL, ll_k4 hL, pe_K_wI, pe_K_wR, pe_R_nej, pe_R_ner, pe_R_wI]; done) | (simp (disch := omega) only [ll_e0 hL, ll_k3 hL, ll_k4 hL, pe_K_wI, pe_K_wR, pe_R_nej, pe_R_ner, pe_R_wI]; assumption)
    exact pe_cal 83 ck171 rfl rfl rfl ⟨hrc, by decide⟩ k
set_option maxRecDepth 8000 in
theorem b171_163 {d : Nat} {Φ : Option pe_V → pe_H → Prop} {σ : pe_H} {x1 : Int} {a2 : Nat} {x3 : Int} {o4 : Option pe_V} {o5 : Option pe_V} {s0 : Int} (hL : ll_L σ := by assumption) (w0 : pe_in (pe_I σ a2 2) := by unfold pe_in; omega) (w1 : pe_in s0 := by unfold pe_in; omega) (h0 : pe_K σ a2 = 20 := by first | assumption | omega) (k1 : ¬ s0 = (pe_I σ a2 2) → pe_X d 171 (263, [some (.inr (.inr 3)), some (.inl x1), some (.inr (.inr a2)), some (.inl x3), o4, o5], [], σ) Φ) (k2 : s0 = (pe_I σ a2 2) → pe_X d 171 (170, [some (.inr (.inr 3)), some (.inl x1), some (.inr (.inr a2)), some (.inl x3), o4, o5], [], σ) Φ) : pe_X d 171 (163, [some (.inr (.inr 3)), some (.inl x1), some (.inr (.inr a2)), some (.inl x3), o4, o5], [.inl s0], σ) Φ := by
  refine pe_blk 84 3 ck171 [pe_K σ a2 = 20] (cond (decide (¬ (pe_w s0) = (pe_w (pe_I σ a2 2)))) 263 170, [some (.inr (.inr 3)), some (.inl x1), some (.inr (.inr a2)), some (.inl x3), o4, o5], [], σ) rfl ?_ ?_
  · first
    | (simp (disch := omega) only [pe_all, pe_wi w0, pe_wi w1, pe_K_wI, pe_K_wR]; done)
    | (simp (disch := omega) only [pe_all, pe_wi w0, pe_wi w1, pe_K_wI, pe_K_wR]; (repeat' apply And.intro) <;> first | assumption | omega | decide)
  · try simp (disch := omega) only [pe_wi w0, pe_wi w1, pe_K_wI, pe_K_wR]
    exact pe_two' k1 k2
set_option maxRecDepth 8000 in
theorem b171_170 {d : Nat} {Φ : Option pe_V → pe_H → Prop} {σ : pe_H} {x1 : Int} {a2 : Nat} {x3 : Int} {o4 : Option pe_V} {o5 : Option pe_V} (hL : ll_L σ := by assumption)   (k : pe_M d 83 [.inr (.inr 4), .inl x1, .inl 8] σ (fun r σ' => pe_X d 171 (180, [some (.inr (.inr 3)), some (.inl x1), some (.inr (.inr a2)), some (.inl x3), o4, o5], r.toList ++ [], σ') Φ)) : pe_X d 171 (170, [some (.inr (.inr 3)), some (.inl x1), some (.inr (.inr a2)), some (.inl x3), o4, o5], [], σ) Φ := by
  refine pe_blk 87 4 ck171 [pe_K σ 3 = 21] (177, [some (.inr (.inr 3)), some (.inl x1), some (.inr (.inr a2)), some (.inl x3), o4, o5], [.inl 8, .inl x1, .inr (.inr (pe_R σ 3 0))], σ) rfl ?_ ?_
  · first
    | (simp (disch := omega) only [pe_all, ll_e0 hL, ll_k3 hL, ll_k4 hL, pe_K_wI, pe_K_wR, pe_R_nej, pe_R_ner, pe_R_wI]; done)
    | (simp (disch := omega) only [pe_all, ll_e0 hL, ll_k3 hL, ll_k4 hL, pe_K_wI, pe_K_wR, pe_R_nej, pe_R_ner, pe_R_wI]; (repeat' apply And.intro) <;> first | assumption | omega | decide)
  · try simp (disch := omega) only [ll_e0 hL, ll_k3 hL, ll_k4 hL, pe_K_wI, pe_K_wR, pe_R_nej, pe_R_ner, pe_R_wI]
    have hrc : pe_K σ 4 = 8 := by first | assumption | (simp (disch := omega) only [ll_e0 hL, ll_k3 hL, ll_k4 hL, pe_K_wI, pe_K_wR, pe_R_nej, pe_R_ner, pe_R_wI]; done) | (simp (disch := omega) only [ll_e0 hL, ll_k3 hL, ll_k4 hL, pe_K_wI, pe_K_wR, pe_R_nej, pe_R_ner, pe_R_wI]; assumption)
    exact pe_cal 91 ck171 rfl rfl rfl ⟨hrc, by decide⟩ k
set_option maxRecDepth 8000 in
theorem b171_180 {d : Nat} {Φ : Option pe_V → pe_H → Prop} {σ : pe_H} {x1 : Int} {a2 : Nat} {x3 : Int} {o4 : Option pe_V} {o5 : Option pe_V} {s0 : Int} (hL : ll_L σ := by assumption)  (h0 : pe_K σ a2 = 20 := by first | assumption | omega) (k : pe_M d 138 [.inr (.inr a2)] σ (fun r σ' => pe_X d 171 (186, [some (.inr (.inr 3)), some (.inl x1), some (.inr (.inr a2)), some (.inl x3), o4, o5], r.toList ++ [.inl 100, .inl s0], σ') Φ)) : pe_X d 171 (180, [some (.inr (.inr 3)), some (.inl x1), some (.inr (.inr a2)), some (.inl x3), o4, o5], [.inl s0], σ) Φ := by
  refine pe_blk 92 2 ck171 [] (183, [some (.inr (.inr 3)), some (.inl x1), some (.inr (.inr a2)), some (.inl x3), o4, o5], [.inr (.inr a2), .inl 100, .inl s0], σ) rfl ?_ ?_
  · exact trivial
  · try simp (disch := omega) only [pe_K_wI, pe_K_wR]
    have hrc : pe_K σ a2 = 20 := by first | assumption | (simp (disch := omega) only [pe_K_wI, pe_K_wR]; done) | (simp (disch := omega) only [pe_K_wI, pe_K_wR]; assumption)
    exact pe_cal 94 ck171 rfl rfl rfl ⟨hrc, by decide⟩ k
set_option maxRecDepth 8000 in
theorem b171_186 {d : Nat} {Φ : Option pe_V → pe_H → Prop} {σ : pe_H} {x1 : Int} {a2 : Nat} {x3 : Int} {o4 : Option pe_V} {o5 : Option pe_V} {s0 : Int} {s1 : Int} {s2 : Int} (hL : ll_L σ := by assumption) (w0 : pe_in (s1 + s2) := by unfold pe_in; omega) (w1 : pe_in s0 := by unfold pe_in; omega)  (k1 : ¬ s0 = (s1 + s2) → pe_X d 171 (263, [some (.inr (.inr 3)), some (.inl x1), some (.inr (.inr a2)), some (.inl x3), o4, o5], [], σ) Φ) (k2 : s0 = (s1 + s2) → pe_X d 171 (190, [some (.inr (.inr 3)), some (.inl x1), some (.inr (.inr a2)), some (.inl x3), o4, o5], [], σ) Φ) : pe_X d 171 (186, [some (.inr (.inr 3)), some (.inl x1), some (.inr (.inr a2)), some (.inl x3), o4, o5], [.inl s2, .inl s1, .inl s0], σ) Φ := by
  refine pe_blk 95 2 ck171 [] (cond (decide (¬ (pe_w s0) = (pe_w (s1 + s2)))) 263 190, [some (.inr (.inr 3)), some (.inl x1), some (.inr (.inr a2)), some (.inl x3), o4, o5], [], σ) rfl ?_ ?_
  · exact trivial
  · try simp (disch := omega) only [pe_wi w0, pe_wi w1]
    exact pe_two' k1 k2
set_option maxRecDepth 8000 in
theorem b171_190 {d : Nat} {Φ : Option pe_V → pe_H → Prop} {σ : pe_H} {x1 : Int} {a2 : Nat} {x3 : Int} {o4 : Option pe_V} {o5 : Option pe_V} (hL : ll_L σ := by assumption)   (k : pe_M d 83 [.inr (.inr 4), .inl x1, .inl 9] σ (fun r σ' => pe_X d 171 (200, [some (.inr (.inr 3)), some (.inl x1), some (.inr (.inr a2)), some (.inl x3), o4, o5], r.toList ++ [], σ') Φ)) : pe_X d 171 (190, [some (.inr (.inr 3)), some (.inl x1), some (.inr (.inr a2)), some (.inl x3), o4, o5], [], σ) Φ := by
  refine pe_blk 97 4 ck171 [pe_K σ 3 = 21] (197, [some (.inr (.inr 3)), some (.inl x1), some (.inr (.inr a2)), some (.inl x3), o4, o5], [.inl 9, .inl x1, .inr (.inr (pe_R σ 3 0))], σ) rfl ?_ ?_
  · first
    | (simp (disch := omega) only [pe_all, ll_e0 hL, ll_k3 hL, ll_k4 hL, pe_K_wI, pe_K_wR, pe_R_nej, pe_R_ner, pe_R_wI]; done)
    | (simp (disch := omega) only [pe_all, ll_e0 hL, ll_k3 hL, ll_k4 hL, pe_K_wI, pe_K_wR, pe_R_nej, pe_R_ner, pe_R_wI]; (repeat' apply And.intro) <;> first | assumption | omega | decide)
  · try simp (disch := omega) only [ll_e0 hL, ll_k3 hL, ll_k4 hL, pe_K_wI, pe_K_wR, pe_R_nej, pe_R_ner, pe_R_wI]
    have hrc : pe_K σ 4 = 8 := by first | assumption | (simp (disch := omega) only [ll_e0 hL, ll_k3 hL, ll_k4 hL, pe_K_wI, pe_K_wR, pe_R_nej, pe_R_ner, pe_R_wI]; done) | (simp (disch := omega) only [ll_e0 hL, ll_k3 hL, ll_k4 hL, pe_K_wI, pe_K_wR, pe_R_nej, pe_R_ner, pe_R_wI]; assumption)
    exact pe_cal 101 ck171 rfl rfl rfl ⟨hrc, by decide⟩ k
set_option maxRecDepth 8000 in
theorem b171_200 {d : Nat} {Φ : Option pe_V → pe_H → Prop} {σ : pe_H} {x1 : Int} {a2 : Nat} {x3 : Int} {o4 : Option pe_V} {o5 : Option pe_V} {s0 : Int} (hL : ll_L σ := by assumption) (w0 : pe_in (pe_I σ a2 11) := by unfold pe_in; omega) (w1 : pe_in s0 := by unfold pe_in; omega) (h0 : pe_K σ a2 = 20 := by first | assumption | omega) (k1 : ¬ s0 = (pe_I σ a2 11) → pe_X d 171 (263, [some (.inr (.inr 3)), some (.inl x1), some (.inr (.inr a2)), some (.inl x3), o4, o5], [], σ) Φ) (k2 : s0 = (pe_I σ a2 11) → pe_X d 171 (207, [some (.inr (.inr 3)), some (.inl x1), some (.inr (.inr a2)), some (.inl x3), o4, o5], [], σ) Φ) : pe_X d 171 (200, [some (.inr (.inr 3)), some (.inl x1), some (.inr (.inr a2)), some (.inl x3), o4, o5], [.inl s0], σ) Φ := by
  refine pe_blk 102 3 ck171 [pe_K σ a2 = 20] (cond (decide (¬ (pe_w s0) = (pe_w (pe_I σ a2 11)))) 263 207, [some (.inr (.inr 3)), some (.inl x1), some (.inr (.inr a2)), some (.inl x3), o4, o5], [], σ) rfl ?_ ?_
  · first
    | (simp (disch := omega) only [pe_all, pe_wi w0, pe_wi w1, pe_K_wI, pe_K_wR]; done)
    | (simp (disch := omega) only [pe_all, pe_wi w0, pe_wi w1, pe_K_wI, pe_K_wR]; (repeat' apply And.intro) <;> first | assumption | omega | decide)
  · try simp (disch := omega) only [pe_wi w0, pe_wi w1, pe_K_wI, pe_K_wR]
    exact pe_two' k1 k2
set_option maxRecDepth 8000 in
theorem b171_207 {d : Nat} {Φ : Option pe_V → pe_H → Prop} {σ : pe_H} {x1 : Int} {a2 : Nat} {x3 : Int} {o4 : Option pe_V} {o5 : Option pe_V} (hL : ll_L σ := by assumption)   (k : pe_M d 83 [.inr (.inr 4), .inl x1, .inl 10] σ (fun r σ' => pe_X d 171 (217, [some (.inr (.inr 3)), some (.inl x1), some (.inr (.inr a2)), some (.inl x3), o4, o5], r.toList ++ [], σ') Φ)) : pe_X d 171 (207, [some (.inr (.inr 3)), some (.inl x1), some (.inr (.inr a2)), some (.inl x3), o4, o5], [], σ) Φ := by
  refine pe_blk 105 4 ck171 [pe_K σ 3 = 21] (214, [some (.inr (.inr 3)), some (.inl x1), some (.inr (.inr a2)), some (.inl x3), o4, o5], [.inl 10, .inl x1, .inr (.inr (pe_R σ 3 0))], σ) rfl ?_ ?_
  · first
    | (simp (disch := omega) only [pe_all, ll_e0 hL, ll_k3 hL, ll_k4 hL, pe_K_wI, pe_K_wR, pe_R_nej, pe_R_ner, pe_R_wI]; done)
    | (simp (disch := omega) only [pe_all, ll_e0 hL, ll_k3 hL, ll_k4 hL, pe_K_wI, pe_K_wR, pe_R_nej, pe_R_ner, pe_R_wI]; (repeat' apply And.intro) <;> first | assumption | omega | decide)
  · try simp (disch := omega) only [ll_e0 hL, ll_k3 hL, ll_k4 hL, pe_K_wI, pe_K_wR, pe_R_nej, pe_R_ner, pe_R_wI]
    have hrc : pe_K σ 4 = 8 := by first | assumption | (simp (disch := omega) only [ll_e0 hL, ll_k3 hL, ll_k4 hL, pe_K_wI, pe_K_wR, pe_R_nej, pe_R_ner, pe_R_wI]; done) | (simp (disch := omega) only [ll_e0 hL, ll_k3 hL, ll_k4 hL, pe_K_wI, pe_K_wR, pe_R_nej, pe_R_ner, pe_R_wI]; assumption)
    exact pe_cal 109 ck171 rfl rfl rfl ⟨hrc, by decide⟩ k
set_option maxRecDepth 8000 in
theorem b171_217 {d : Nat} {Φ : Option pe_V → pe_H → Prop} {σ : pe_H} {x1 : Int} {a2 : Nat} {x3 : Int} {o4 : Option pe_V} {o5 : Option pe_V} {s0 : Int} (hL : ll_L σ := by assumption) (w0 : pe_in x3 := by unfold pe_in; omega)  (k1 : x3 = 0 → pe_X d 171 (228, [some (.inr (.inr 3)), some (.inl x1), some (.inr (.inr a2)), some (.inl x3), o4, o5], [.inl s0], σ) Φ) (k2 : ¬ (x3 = 0) → pe_X d 171 (221, [some (.inr (.inr 3)), some (.inl x1), some (.inr (.inr a2)), some (.inl x3), o4, o5], [.inl s0], σ) Φ) : pe_X d 171 (217, [some (.inr (.inr 3)), some (.inl x1), some (.inr (.inr a2)), some (.inl x3), o4, o5], [.inl s0], σ) Φ := by
  refine pe_blk 110 2 ck171 [] (cond (decide ((pe_w x3) = 0)) 228 221, [some (.inr (.inr 3)), some (.inl x1), some (.inr (.inr a2)), some (.inl x3), o4, o5], [.inl s0], σ) rfl ?_ ?_
  · exact trivial
  · try simp (disch := omega) only [pe_wi w0]
    exact pe_two k1 k2
set_option maxRecDepth 8000 in
theorem b171_221 {d : Nat} {Φ : Option pe_V → pe_H → Prop} {σ : pe_H} {x1 : Int} {a2 : Nat} {o3 : Option pe_V} {o4 : Option pe_V} {o5 : Option pe_V} {s0 : Int} (hL : ll_L σ := by assumption)  (h0 : pe_K σ a2 = 20 := by first | assumption | omega) (k : pe_X d 171 (230, [some (.inr (.inr 3)), some (.inl x1), some (.inr (.inr a2)), o3, o4, o5], [.inl (pe_I σ a2 8), .inl s0], σ) Φ) : pe_X d 171 (221, [some (.inr (.inr 3)), some (.inl x1), some (.inr (.inr a2)), o3, o4, o5], [.inl s0], σ) Φ := by
  refine pe_blk 112 3 ck171 [pe_K σ a2 = 20] (230, [some (.inr (.inr 3)), some (.inl x1), some (.inr (.inr a2)), o3, o4, o5], [.inl (pe_I σ a2 8), .inl s0], σ) rfl ?_ ?_
  · first
    | (simp (disch := omega) only [pe_all, pe_K_wI, pe_K_wR]; done)
    | (simp (disch := omega) only [pe_all, pe_K_wI, pe_K_wR]; (repeat' apply And.intro) <;> first | assumption | omega | decide)
  · try simp (disch := omega) only [pe_K_wI, pe_K_wR]
    exact k
set_option maxRecDepth 8000 in
theorem b171_228 {d : Nat} {Φ : Option pe_V → pe_H → Prop} {σ : pe_H} {x1 : Int} {a2 : Nat} {o3 : Option pe_V} {o4 : Option pe_V} {o5 : Option pe_V} {s0 : Int} (hL : ll_L σ := by assumption)   (k : pe_X d 171 (230, [some (.inr (.inr 3)), some (.inl x1), some (.inr (.inr a2)), o3, o4, o5], [.inl (-4), .inl s0], σ) Φ) : pe_X d 171 (228, [some (.inr (.inr 3)), some (.inl x1), some (.inr (.inr a2)), o3, o4, o5], [.inl s0], σ) Φ := by
  refine pe_blk 115 1 ck171 [] (230, [some (.inr (.inr 3)), some (.inl x1), some (.inr (.inr a2)), o3, o4, o5], [.inl (-4), .inl s0], σ) rfl ?_ ?_
  · exact trivial
  · exact k
set_option maxRecDepth 8000 in
theorem b171_230 {d : Nat} {Φ : Option pe_V → pe_H → Prop} {σ : pe_H} {x1 : Int} {a2 : Nat} {o3 : Option pe_V} {o4 : Option pe_V} {o5 : Option pe_V} {s0 : Int} {s1 : Int} (hL : ll_L σ := by assumption) (w0 : pe_in s1 := by unfold pe_in; omega) (w1 : pe_in s0 := by unfold pe_in; omega)  (k1 : ¬ s0 = s1 → pe_X d 171 (263, [some (.inr (.inr 3)), some (.inl x1), some (.inr (.inr a2)), o3, o4, o5], [], σ) Φ) (k2 : s0 = s1 → pe_X d 171 (233, [some (.inr (.inr 3)), some (.inl x1), some (.inr (.inr a2)), o3, o4, o5], [], σ) Φ) : pe_X d 171 (230, [some (.inr (.inr 3)), some (.inl x1), some (.inr (.inr a2)), o3, o4, o5], [.inl s1, .inl s0], σ) Φ := by
  refine pe_blk 116 1 ck171 [] (cond (decide (¬ (pe_w s0) = (pe_w s1))) 263 233, [some (.inr (.inr 3)), some (.inl x1), some (.inr (.inr a2)), o3, o4, o5], [], σ) rfl ?_ ?_
  · exact trivial
  · try simp (disch := omega) only [pe_wi w0, pe_wi w1]
    exact pe_two' k1 k2
set_option maxRecDepth 8000 in
theorem b171_233 {d : Nat} {Φ : Option pe_V → pe_H → Prop} {σ : pe_H} {x1 : Int} {a2 : Nat} {o3 : Option pe_V} {o4 : Option pe_V} {o5 : Option pe_V} (hL : ll_L σ := by assumption)   (k : pe_M d 83 [.inr (.inr 4), .inl x1, .inl 11] σ (fun r σ' => pe_X d 171 (243, [some (.inr (.inr 3)), some (.inl x1), some (.inr (.inr a2)), o3, o4, o5], r.toList ++ [], σ') Φ)) : pe_X d 171 (233, [some (.inr (.inr 3)), some (.inl x1), some (.inr (.inr a2)), o3, o4, o5], [], σ) Φ := by
  refine pe_blk 117 4 ck171 [pe_K σ 3 = 21] (240, [some (.inr (.inr 3)), some (.inl x1), some (.inr (.inr a2)), o3, o4, o5], [.inl 11, .inl x1, .inr (.inr (pe_R σ 3 0))], σ) rfl ?_ ?_
  · first
    | (simp (disch := omega) only [pe_all, ll_e0 hL, ll_k3 hL, ll_k4 hL, pe_K_wI, pe_K_wR, pe_R_nej, pe_R_ner, pe_R_wI]; done)
    | (simp (disch := omega) only [pe_all, ll_e0 hL, ll_k3 hL, ll_k4 hL, pe_K_wI, pe_K_wR, pe_R_nej, pe_R_ner, pe_R_wI]; (repeat' apply And.intro) <;> first | assumption | omega | decide)
  · try simp (disch := omega) only [ll_e0 hL, ll_k3 hL, ll_k4 hL, pe_K_wI, pe_K_wR, pe_R_nej, pe_R_ner, pe_R_wI]
    have hrc : pe_K σ 4 = 8 := by first | assumption | (simp (disch := omega) only [ll_e0 hL, ll_k3 hL, ll_k4 hL, pe_K_wI, pe_K_wR, pe_R_nej, pe_R_ner, pe_R_wI]; done) | (simp (disch := omega) only [ll_e0 hL, ll_k3 hL, ll_k4 hL, pe_K_wI, pe_K_wR, pe_R_nej, pe_R_ner, pe_R_wI]; assumption)
    exact pe_cal 121 ck171 rfl rfl rfl ⟨hrc, by decide⟩ k
set_option maxRecDepth 8000 in
theorem b171_243 {d : Nat} {Φ : Option pe_V → pe_H → Prop} {σ : pe_H} {x1 : Int} {a2 : Nat} {o3 : Option pe_V} {o4 : Option pe_V} {o5 : Option pe_V} {s0 : Int} (hL : ll_L σ := by assumption) (w0 : pe_in (pe_I σ a2 3) := by unfold pe_in; omega) (h0 : pe_K σ a2 = 20 := by first | assumption | omega) (k1 : ¬ (pe_I σ a2 3) = 7 → pe_X d 171 (259, [some (.inr (.inr 3)), some (.inl x1), some (.inr (.inr a2)), o3, o4, o5], [.inl s0], σ) Φ) (k2 : (pe_I σ a2 3) = 7 → pe_X d 171 (252, [some (.inr (.inr 3)), some (.inl x1), some (.inr (.inr a2)), o3, o4, o5], [.inl s0], σ) Φ) : pe_X d 171 (243, [some (.inr (.inr 3)), some (.inl x1), some (.inr (.inr a2)), o3, o4, o5], [.inl s0], σ) Φ := by
  refine pe_blk 122 4 ck171 [pe_K σ a2 = 20] (cond (decide (¬ (pe_w (pe_I σ a2 3)) = (pe_w 7))) 259 252, [some (.inr (.inr 3)), some (.inl x1), some (.inr (.inr a2)), o3, o4, o5], [.inl s0], σ) rfl ?_ ?_
  · first
    | (simp (disch := omega) only [pe_all, pe_wi w0, pe_wi (x := 7) ⟨by decide, by decide⟩, pe_K_wI, pe_K_wR]; done)
    | (simp (disch := omega) only [pe_all, pe_wi w0, pe_wi (x := 7) ⟨by decide, by decide⟩, pe_K_wI, pe_K_wR]; (repeat' apply And.intro) <;> first | assumption | omega | decide)
  · try simp (disch := omega) only [pe_wi w0, pe_wi (x := 7) ⟨by decide, by decide⟩, pe_K_wI, pe_K_wR]
    exact pe_two' k1 k2
set_option maxRecDepth 8000 in
theorem b171_252 {d : Nat} {Φ : Option pe_V → pe_H → Prop} {σ : pe_H} {x1 : Int} {a2 : Nat} {o3 : Option pe_V} {o4 : Option pe_V} {o5 : Option pe_V} {s0 : Int} (hL : ll_L σ := by assumption)  (h0 : pe_K σ a2 = 20 := by first | assumption | omega) (k : pe_M d 143 [.inr (.inr a2)] σ (fun r σ' => pe_X d 171 (256, [some (.inr (.inr 3)), some (.inl x1), some (.inr (.inr a2)), o3, o4, o5], r.toList ++ [.inl s0], σ') Φ)) : pe_X d 171 (252, [some (.inr (.inr 3)), some (.inl x1), some (.inr (.inr a2)), o3, o4, o5], [.inl s0], σ) Φ := by
  refine pe_blk 126 1 ck171 [] (253, [some (.inr (.inr 3)), some (.inl x1), some (.inr (.inr a2)), o3, o4, o5], [.inr (.inr a2), .inl s0], σ) rfl ?_ ?_
  · exact trivial
  · try simp (disch := omega) only [pe_K_wI, pe_K_wR]
    have hrc : pe_K σ a2 = 20 := by first | assumption | (simp (disch := omega) only [pe_K_wI, pe_K_wR]; done) | (simp (disch := omega) only [pe_K_wI, pe_K_wR]; assumption)
    exact pe_cal 127 ck171 rfl rfl rfl ⟨hrc, by decide⟩ k
set_option maxRecDepth 8000 in
theorem b171_256 {d : Nat} {Φ : Option pe_V → pe_H → Prop} {σ : pe_H} {x1 : Int} {a2 : Nat} {o3 : Option pe_V} {o4 : Option pe_V} {o5 : Option pe_V} {s0 : Int} {s1 : Int} (hL : ll_L σ := by assumption)   (k : pe_X d 171 (260, [some (.inr (.inr 3)), some (.inl x1), some (.inr (.inr a2)), o3, o4, o5], [.inl s1, .inl s0], σ) Φ) : pe_X d 171 (256, [some (.inr (.inr 3)), some (.inl x1), some (.inr (.inr a2)), o3, o4, o5], [.inl s1, .inl s0], σ) Φ := by
  refine pe_blk 128 1 ck171 [] (260, [some (.inr (.inr 3)), some (.inl x1), some (.inr (.inr a2)), o3, o4, o5], [.inl s1, .inl s0], σ) rfl ?_ ?_
  · exact trivial
  · exact k
set_option maxRecDepth 8000 in
theorem b171_259 {d : Nat} {Φ : Option pe_V → pe_H → Prop} {σ : pe_H} {x1 : Int} {a2 : Nat} {o3 : Option pe_V} {o4 : Option pe_V} {o5 : Option pe_V} {s0 : Int} (hL : ll_L σ := by assumption)   (k : pe_X d 171 (260, [some (.inr (.inr 3)), some (.inl x1), some (.inr (.inr a2)), o3, o4, o5], [.inl 0, .inl s0], σ) Φ) : pe_X d 171 (259, [some (.inr (.inr 3)), some (.inl x1), some (.inr (.inr a2)), o3, o4, o5], [.inl s0], σ) Φ := by
  refine pe_blk 129 1 ck171 [] (260, [some (.inr (.inr 3)), some (.inl x1), some (.inr (.inr a2)), o3, o4, o5], [.inl 0, .inl s0], σ) rfl ?_ ?_
  · exact trivial
  · exact k
set_option maxRecDepth 8000 in
theorem b171_260 {d : Nat} {Φ : Option pe_V → pe_H → Prop} {σ : pe_H} {x1 : Int} {a2 : Nat} {o3 : Option pe_V} {o4 : Option pe_V} {o5 : Option pe_V} {s0 : Int} {s1 : Int} (hL : ll_L σ := by assumption) (w0 : pe_in s1 := by unfold pe_in; omega) (w1 : pe_in s0 := by unfold pe_in; omega)  (k1 : s0 = s1 → pe_X d 171 (265, [some (.inr (.inr 3)), some (.inl x1), some (.inr (.inr a2)), o3, o4, o5], [], σ) Φ) (k2 : ¬ (s0 = s1) → pe_X d 171 (263, [some (.inr (.inr 3)), some (.inl x1), some (.inr (.inr a2)), o3, o4, o5], [], σ) Φ) : pe_X d 171 (260, [some (.inr (.inr 3)), some (.inl x1), some (.inr (.inr a2)), o3, o4, o5], [.inl s1, .inl s0], σ) Φ := by
  refine pe_blk 130 1 ck171 [] (cond (decide ((pe_w s0) = (pe_w s1))) 265 263, [some (.inr (.inr 3)), some (.inl x1), some (.inr (.inr a2)), o3, o4, o5], [], σ) rfl ?_ ?_
  · exact trivial
  · try simp (disch := omega) only [pe_wi w0, pe_wi w1]
    exact pe_two k1 k2
set_option maxRecDepth 8000 in
theorem b171_263 {d : Nat} {Φ : Option pe_V → pe_H → Prop} {σ : pe_H} {o1 : Option pe_V} {o2 : Option pe_V} {o3 : Option pe_V} {o4 : Option pe_V} {o5 : Option pe_V} (hL : ll_L σ := by assumption)   (k : Φ (some (.inl 0)) σ) : pe_X d 171 (263, [some (.inr (.inr 3)), o1, o2, o3, o4, o5], [], σ) Φ := by
  refine pe_blk 131 1 ck171 [] (264, [some (.inr (.inr 3)), o1, o2, o3, o4, o5], [.inl 0], σ) rfl ?_ ?_
  · exact trivial
  · exact pe_fine 132 ck171 rfl rfl rfl (Or.inl rfl) k
set_option maxRecDepth 8000 in
theorem b171_265 {d : Nat} {Φ : Option pe_V → pe_H → Prop} {σ : pe_H} {x1 : Int} {a2 : Nat} {o3 : Option pe_V} {o4 : Option pe_V} {o5 : Option pe_V} (hL : ll_L σ := by assumption)   (k : pe_X d 171 (268, [some (.inr (.inr 3)), some (.inl x1), some (.inr (.inr a2)), pe_nl o3, some (.inl 0), o5], [], σ) Φ) : pe_X d 171 (265, [some (.inr (.inr 3)), some (.inl x1), some (.inr (.inr a2)), o3, o4, o5], [], σ) Φ := by
  refine pe_blk 133 2 ck171 [] (268, [some (.inr (.inr 3)), some (.inl x1), some (.inr (.inr a2)), pe_nl o3, some (.inl 0), o5], [], σ) rfl ?_ ?_
  · exact trivial
  · exact k
set_option maxRecDepth 8000 in
theorem b171_268 {d : Nat} {Φ : Option pe_V → pe_H → Prop} {σ : pe_H} {x1 : Int} {a2 : Nat} {o3 : Option pe_V} {x4 : Int} {o5 : Option pe_V} (hL : ll_L σ := by assumption) (w0 : pe_in (pe_I σ a2 11) := by unfold pe_in; omega) (w1 : pe_in x4 := by unfold pe_in; omega) (h0 : pe_K σ a2 = 20 := by first | assumption | omega) (k1 : (pe_I σ a2 11) ≤ x4 → pe_X d 171 (397, [some (.inr (.inr 3)), some (.inl x1), some (.inr (.inr a2)), o3, some (.inl x4), o5], [], σ) Φ) (k2 : ¬ ((pe_I σ a2 11) ≤ x4) → pe_X d 171 (277, [some (.inr (.inr 3)), some (.inl x1), some (.inr (.inr a2)), o3, some (.inl x4), o5], [], σ) Φ) : pe_X d 171 (268, [some (.inr (.inr 3)), some (.inl x1), some (.inr (.inr a2)), o3, some (.inl x4), o5], [], σ) Φ := by
  refine pe_blk 135 4 ck171 [pe_K σ a2 = 20] (cond (decide ((pe_w (pe_I σ a2 11)) ≤ (pe_w x4))) 397 277, [some (.inr (.inr 3)), some (.inl x1), some (.inr (.inr a2)), o3, some (.inl x4), o5], [], σ) rfl ?_ ?_
  · first
    | (simp (disch := omega) only [pe_all, pe_wi w0, pe_wi w1, pe_K_wI, pe_K_wR]; done)
    | (simp (disch := omega) only [pe_all, pe_wi w0, pe_wi w1, pe_K_wI, pe_K_wR]; (repeat' apply And.intro) <;> first | assumption | omega | decide)
  · try simp (disch := omega) only [pe_wi w0, pe_wi w1, pe_K_wI, pe_K_wR]
    exact pe_two k1 k2
set_option maxRecDepth 8000 in
theorem b171_277 {d : Nat} {Φ : Option pe_V → pe_H → Prop} {σ : pe_H} {x1 : Int} {a2 : Nat} {o3 : Option pe_V} {x4 : Int} {o5 : Option pe_V} (hL : ll_L σ := by assumption) (w0 : pe_in x4 := by unfold pe_in; omega) (h0 : pe_K σ a2 = 20 := by first | assumption | omega) (h1 : 22 ≤ pe_K σ (pe_R σ a2 10) ∧ pe_K σ (pe_R σ a2 10) < 25 := by first | assumption | omega) (h2 : 0 ≤ x4 := by first | assumption | omega) (h3 : x4 < pe_L σ (pe_R σ a2 10) := by first | assumption | omega) (k : pe_X d 171 (286, [some (.inr (.inr 3)), some (.inl x1), some (.inr (.inr a2)), o3, some (.inl x4), some (.inr (.inr (pe_R σ (pe_R σ a2 10) x4)))], [], σ) Φ) : pe_X d 171 (277, [some (.inr (.inr 3)), some (.inl x1), some (.inr (.inr a2)), o3, some (.inl x4), o5], [], σ) Φ := by
  refine pe_blk 139 5 ck171 [pe_K σ a2 = 20, 22 ≤ pe_K σ (pe_R σ a2 10) ∧ pe_K σ (pe_R σ a2 10) < 25, 0 ≤ (pe_w x4), (pe_w x4) < pe_L σ (pe_R σ a2 10)] (286, [some (.inr (.inr 3)), some (.inl x1), some (.inr (.inr a2)), o3, some (.inl x4), some (.inr (.inr (pe_R σ (pe_R σ a2 10) (pe_w x4))))], [], σ) rfl ?_ ?_
  · first
    | (simp (disch := omega) only [pe_all, pe_wi w0, pe_K_wI, pe_K_wR, pe_L_wI, pe_L_wR]; done)
    | (simp (disch := omega) only [pe_all, pe_wi w0, pe_K_wI, pe_K_wR, pe_L_wI, pe_L_wR]; (repeat' apply And.intro) <;> first | assumption | omega | decide)
  · try simp (disch := omega) only [pe_wi w0, pe_K_wI, pe_K_wR, pe_L_wI, pe_L_wR]
    exact k
set_option maxRecDepth 8000 in
theorem b171_286 {d : Nat} {Φ : Option pe_V → pe_H → Prop} {σ : pe_H} {x1 : Int} {a2 : Nat} {o3 : Option pe_V} {x4 : Int} {a5 : Nat} (hL : ll_L σ := by assumption)   (k : pe_M d 84 [.inr (.inr 4), .inl x1, .inl x4, .inl 0] σ (fun r σ' => pe_X d 171 (297, [some (.inr (.inr 3)), some (.inl x1), some (.inr (.inr a2)), o3, some (.inl x4), some (.inr (.inr a5))], r.toList ++ [], σ') Φ)) : pe_X d 171 (286, [some (.inr (.inr 3)), some (.inl x1), some (.inr (.inr a2)), o3, some (.inl x4), some (.inr (.inr a5))], [], σ) Φ := by
  refine pe_blk 144 5 ck171 [pe_K σ 3 = 21] (294, [some (.inr (.inr 3)), some (.inl x1), some (.inr (.inr a2)), o3, some (.inl x4), some (.inr (.inr a5))], [.inl 0, .inl x4, .inl x1, .inr (.inr (pe_R σ 3 0))], σ) rfl ?_ ?_
  · first
    | (simp (disch := omega) only [pe_all, ll_e0 hL, ll_k3 hL, ll_k4 hL, pe_K_wI, pe_K_wR, pe_R_nej, pe_R_ner, pe_R_wI]; done)
    | (simp (disch := omega) only [pe_all, ll_e0 hL, ll_k3 hL, ll_k4 hL, pe_K_wI, pe_K_wR, pe_R_nej, pe_R_ner, pe_R_wI]; (repeat' apply And.intro) <;> first | assumption | omega | decide)
  · try simp (disch := omega) only [ll_e0 hL, ll_k3 hL, ll_k4 hL, pe_K_wI, pe_K_wR, pe_R_nej, pe_R_ner, pe_R_wI]
    have hrc : pe_K σ 4 = 8 := by first | assumption | (simp (disch := omega) only [ll_e0 hL, ll_k3 hL, ll_k4 hL, pe_K_wI, pe_K_wR, pe_R_nej, pe_R_ner, pe_R_wI]; done) | (simp (disch := omega) only [ll_e0 hL, ll_k3 hL, ll_k4 hL, pe_K_wI, pe_K_wR, pe_R_nej, pe_R_ner, pe_R_wI]; assumption)
    exact pe_cal 149 ck171 rfl rfl rfl ⟨hrc, by decide⟩ k
set_option maxRecDepth 8000 in
theorem b171_297 {d : Nat} {Φ : Option pe_V → pe_H → Prop} {σ : pe_H} {x1 : Int} {a2 : Nat} {o3 : Option pe_V} {x4 : Int} {a5 : Nat} {s0 : Int} (hL : ll_L σ := by assumption) (w0 : pe_in (pe_I σ a5 0) := by unfold pe_in; omega) (w1 : pe_in s0 := by unfold pe_in; omega) (h0 : pe_K σ a5 = 19 := by first | assumption | omega) (k1 : ¬ s0 = (pe_I σ a5 0) → pe_X d 171 (389, [some (.inr (.inr 3)), some (.inl x1), some (.inr (.inr a2)), o3, some (.inl x4), some (.inr (.inr a5))], [], σ) Φ) (k2 : s0 = (pe_I σ a5 0) → pe_X d 171 (305, [some (.inr (.inr 3)), some (.inl x1), some (.inr (.inr a2)), o3, some (.inl x4), some (.inr (.inr a5))], [], σ) Φ) : pe_X d 171 (297, [some (.inr (.inr 3)), some (.inl x1), some (.inr (.inr a2)), o3, some (.inl x4), some (.inr (.inr a5))], [.inl s0], σ) Φ := by
  refine pe_blk 150 3 ck171 [pe_K σ a5 = 19] (cond (decide (¬ (pe_w s0) = (pe_w (pe_I σ a5 0)))) 389 305, [some (.inr (.inr 3)), some (.inl x1), some (.inr (.inr a2)), o3, some (.inl x4), some (.inr (.inr a5))], [], σ) rfl ?_ ?_
  · first
    | (simp (disch := omega) only [pe_all, pe_wi w0, pe_wi w1, pe_K_wI, pe_K_wR]; done)
    | (simp (disch := omega) only [pe_all, pe_wi w0, pe_wi w1, pe_K_wI, pe_K_wR]; (repeat' apply And.intro) <;> first | assumption | omega | decide)
  · try simp (disch := omega) only [pe_wi w0, pe_wi w1, pe_K_wI, pe_K_wR]
    exact pe_two' k1 k2
set_option maxRecDepth 8000 in
theorem b171_305 {d : Nat} {Φ : Option pe_V → pe_H → Prop} {σ : pe_H} {x1 : Int} {a2 : Nat} {o3 : Option pe_V} {x4 : Int} {a5 : Nat} (hL : ll_L σ := by assumption)   (k : pe_M d 84 [.inr (.inr 4), .inl x1, .inl x4, .inl 1] σ (fun r σ' => pe_X d 171 (316, [some (.inr (.inr 3)), some (.inl x1), some (.inr (.inr a2)), o3, some (.inl x4), some (.inr (.inr a5))], r.toList ++ [], σ') Φ)) : pe_X d 171 (305, [some (.inr (.inr 3)), some (.inl x1), some (.inr (.inr a2)), o3, some (.inl x4), some (.inr (.inr a5))], [], σ) Φ := by
  refine pe_blk 153 5 ck171 [pe_K σ 3 = 21] (313, [some (.inr (.inr 3)), some (.inl x1), some (.inr (.inr a2)), o3, some (.inl x4), some (.inr (.inr a5))], [.inl 1, .inl x4, .inl x1, .inr (.inr (pe_R σ 3 0))], σ) rfl ?_ ?_
  · first
    | (simp (disch := omega) only [pe_all, ll_e0 hL, ll_k3 hL, ll_k4 hL, pe_K_wI, pe_K_wR, pe_R_nej, pe_R_ner, pe_R_wI]; done)
    | (simp (disch := omega) only [pe_all, ll_e0 hL, ll_k3 hL, ll_k4 hL, pe_K_wI, pe_K_wR, pe_R_nej, pe_R_ner, pe_R_wI]; (repeat' apply And.intro) <;> first | assumption | omega | decide)
  · try simp (disch := omega) only [ll_e0 hL, ll_k3 hL, ll_k4 hL, pe_K_wI, pe_K_wR, pe_R_nej, pe_R_ner, pe_R_wI]
    have hrc : pe_K σ 4 = 8 := by first | assumption | (simp (disch := omega) only [ll_e0 hL, ll_k3 hL, ll_k4 hL, pe_K_wI, pe_K_wR, pe_R_nej, pe_R_ner, pe_R_wI]; done) | (simp (disch := omega) only [ll_e0 hL, ll_k3 hL, ll_k4 hL, pe_K_wI, pe_K_wR, pe_R_nej, pe_R_ner, pe_R_wI]; assumption)
    exact pe_cal 158 ck171 rfl rfl rfl ⟨hrc, by decide⟩ k
set_option maxRecDepth 8000 in
theorem b171_316 {d : Nat} {Φ : Option pe_V → pe_H → Prop} {σ : pe_H} {x1 : Int} {a2 : Nat} {o3 : Option pe_V} {x4 : Int} {a5 : Nat} {s0 : Int} (hL : ll_L σ := by assumption) (w0 : pe_in (pe_I σ a5 3) := by unfold pe_in; omega) (w1 : pe_in s0 := by unfold pe_in; omega) (h0 : pe_K σ a5 = 19 := by first | assumption | omega) (k1 : ¬ s0 = (pe_I σ a5 3) → pe_X d 171 (389, [some (.inr (.inr 3)), some (.inl x1), some (.inr (.inr a2)), o3, some (.inl x4), some (.inr (.inr a5))], [], σ) Φ) (k2 : s0 = (pe_I σ a5 3) → pe_X d 171 (324, [some (.inr (.inr 3)), some (.inl x1), some (.inr (.inr a2)), o3, some (.inl x4), some (.inr (.inr a5))], [], σ) Φ) : pe_X d 171 (316, [some (.inr (.inr 3)), some (.inl x1), some (.inr (.inr a2)), o3, some (.inl x4), some (.inr (.inr a5))], [.inl s0], σ) Φ := by
  refine pe_blk 159 3 ck171 [pe_K σ a5 = 19] (cond (decide (¬ (pe_w s0) = (pe_w (pe_I σ a5 3)))) 389 324, [some (.inr (.inr 3)), some (.inl x1), some (.inr (.inr a2)), o3, some (.inl x4), some (.inr (.inr a5))], [], σ) rfl ?_ ?_
  · first
    | (simp (disch := omega) only [pe_all, pe_wi w0, pe_wi w1, pe_K_wI, pe_K_wR]; done)
    | (simp (disch := omega) only [pe_all, pe_wi w0, pe_wi w1, pe_K_wI, pe_K_wR]; (repeat' apply And.intro) <;> first | assumption | omega | decide)
  · try simp (disch := omega) only [pe_wi w0, pe_wi w1, pe_K_wI, pe_K_wR]
    exact pe_two' k1 k2
set_option maxRecDepth 8000 in
theorem b171_324 {d : Nat} {Φ : Option pe_V → pe_H → Prop} {σ : pe_H} {x1 : Int} {a2 : Nat} {o3 : Option pe_V} {x4 : Int} {a5 : Nat} (hL : ll_L σ := by assumption)   (k : pe_M d 84 [.inr (.inr 4), .inl x1, .inl x4, .inl 2] σ (fun r σ' => pe_X d 171 (335, [some (.inr (.inr 3)), some (.inl x1), some (.inr (.inr a2)), o3, some (.inl x4), some (.inr (.inr a5))], r.toList ++ [], σ') Φ)) : pe_X d 171 (324, [some (.inr (.inr 3)), some (.inl x1), some (.inr (.inr a2)), o3, some (.inl x4), some (.inr (.inr a5))], [], σ) Φ := by
  refine pe_blk 162 5 ck171 [pe_K σ 3 = 21] (332, [some (.inr (.inr 3)), some (.inl x1), some (.inr (.inr a2)), o3, some (.inl x4), some (.inr (.inr a5))], [.inl 2, .inl x4, .inl x1, .inr (.inr (pe_R σ 3 0))], σ) rfl ?_ ?_
  · first
    | (simp (disch := omega) only [pe_all, ll_e0 hL, ll_k3 hL, ll_k4 hL, pe_K_wI, pe_K_wR, pe_R_nej, pe_R_ner, pe_R_wI]; done)
    | (simp (disch := omega) only [pe_all, ll_e0 hL, ll_k3 hL, ll_k4 hL, pe_K_wI, pe_K_wR, pe_R_nej, pe_R_ner, pe_R_wI]; (repeat' apply And.intro) <;> first | assumption | omega | decide)
  · try simp (disch := omega) only [ll_e0 hL, ll_k3 hL, ll_k4 hL, pe_K_wI, pe_K_wR, pe_R_nej, pe_R_ner, pe_R_wI]
    have hrc : pe_K σ 4 = 8 := by first | assumption | (simp (disch := omega) only [ll_e0 hL, ll_k3 hL, ll_k4 hL, pe_K_wI, pe_K_wR, pe_R_nej, pe_R_ner, pe_R_wI]; done) | (simp (disch := omega) only [ll_e0 hL, ll_k3 hL, ll_k4 hL, pe_K_wI, pe_K_wR, pe_R_nej, pe_R_ner, pe_R_wI]; assumption)
    exact pe_cal 167 ck171 rfl rfl rfl ⟨hrc, by decide⟩ k
set_option maxRecDepth 8000 in
theorem b171_335 {d : Nat} {Φ : Option pe_V → pe_H → Prop} {σ : pe_H} {x1 : Int} {a2 : Nat} {o3 : Option pe_V} {x4 : Int} {a5 : Nat} {s0 : Int} (hL : ll_L σ := by assumption) (w0 : pe_in (pe_I σ a5 4) := by unfold pe_in; omega) (w1 : pe_in s0 := by unfold pe_in; omega) (h0 : pe_K σ a5 = 19 := by first | assumption | omega) (k1 : ¬ s0 = (pe_I σ a5 4) → pe_X d 171 (389, [some (.inr (.inr 3)), some (.inl x1), some (.inr (.inr a2)), o3, some (.inl x4), some (.inr (.inr a5))], [], σ) Φ) (k2 : s0 = (pe_I σ a5 4) → pe_X d 171 (343, [some (.inr (.inr 3)), some (.inl x1), some (.inr (.inr a2)), o3, some (.inl x4), some (.inr (.inr a5))], [], σ) Φ) : pe_X d 171 (335, [some (.inr (.inr 3)), some (.inl x1), some (.inr (.inr a2)), o3, some (.inl x4), some (.inr (.inr a5))], [.inl s0], σ) Φ := by
  refine pe_blk 168 3 ck171 [pe_K σ a5 = 19] (cond (decide (¬ (pe_w s0) = (pe_w (pe_I σ a5 4)))) 389 343, [some (.inr (.inr 3)), some (.inl x1), some (.inr (.inr a2)), o3, some (.inl x4), some (.inr (.inr a5))], [], σ) rfl ?_ ?_
  · first
    | (simp (disch := omega) only [pe_all, pe_wi w0, pe_wi w1, pe_K_wI, pe_K_wR]; done)
    | (simp (disch := omega) only [pe_all, pe_wi w0, pe_wi w1, pe_K_wI, pe_K_wR]; (repeat' apply And.intro) <;> first | assumption | omega | decide)
  · try simp (disch := omega) only [pe_wi w0, pe_wi w1, pe_K_wI, pe_K_wR]
    exact pe_two' k1 k2
set_option maxRecDepth 8000 in
theorem b171_343 {d : Nat} {Φ : Option pe_V → pe_H → Prop} {σ : pe_H} {x1 : Int} {a2 : Nat} {o3 : Option pe_V} {x4 : Int} {a5 : Nat} (hL : ll_L σ := by assumption)   (k : pe_M d 84 [.inr (.inr 4), .inl x1, .inl x4, .inl 3] σ (fun r σ' => pe_X d 171 (354, [some (.inr (.inr 3)), some (.inl x1), some (.inr (.inr a2)), o3, some (.inl x4), some (.inr (.inr a5))], r.toList ++ [], σ') Φ)) : pe_X d 171 (343, [some (.inr (.inr 3)), some (.inl x1), some (.inr (.inr a2)), o3, some (.inl x4), some (.inr (.inr a5))], [], σ) Φ := by
  refine pe_blk 171 5 ck171 [pe_K σ 3 = 21] (351, [some (.inr (.inr 3)), some (.inl x1), some (.inr (.inr a2)), o3, some (.inl x4), some (.inr (.inr a5))], [.inl 3, .inl x4, .inl x1, .inr (.inr (pe_R σ 3 0))], σ) rfl ?_ ?_
  · first
    | (simp (disch := omega) only [pe_all, ll_e0 hL, ll_k3 hL, ll_k4 hL, pe_K_wI, pe_K_wR, pe_R_nej, pe_R_ner, pe_R_wI]; done)
    | (simp (disch := omega) only [pe_all, ll_e0 hL, ll_k3 hL, ll_k4 hL, pe_K_wI, pe_K_wR, pe_R_nej, pe_R_ner, pe_R_wI]; (repeat' apply And.intro) <;> first | assumption | omega | decide)
  · try simp (disch := omega) only [ll_e0 hL, ll_k3 hL, ll_k4 hL, pe_K_wI, pe_K_wR, pe_R_nej, pe_R_ner, pe_R_wI]
    have hrc : pe_K σ 4 = 8 := by first | assumption | (simp (disch := omega) only [ll_e0 hL, ll_k3 hL, ll_k4 hL, pe_K_wI, pe_K_wR, pe_R_nej, pe_R_ner, pe_R_wI]; done) | (simp (disch := omega) only [ll_e0 hL, ll_k3 hL, ll_k4 hL, pe_K_wI, pe_K_wR, pe_R_nej, pe_R_ner, pe_R_wI]; assumption)
    exact pe_cal 176 ck171 rfl rfl rfl ⟨hrc, by decide⟩ k
set_option maxRecDepth 8000 in
theorem b171_354 {d : Nat} {Φ : Option pe_V → pe_H → Prop} {σ : pe_H} {x1 : Int} {a2 : Nat} {o3 : Option pe_V} {x4 : Int} {a5 : Nat} {s0 : Int} (hL : ll_L σ := by assumption) (w0 : pe_in (pe_I σ a5 5) := by unfold pe_in; omega) (h0 : pe_K σ a5 = 19 := by first | assumption | omega) (k1 : (pe_I σ a5 5) = 0 → pe_X d 171 (366, [some (.inr (.inr 3)), some (.inl x1), some (.inr (.inr a2)), o3, some (.inl x4), some (.inr (.inr a5))], [.inl s0], σ) Φ) (k2 : ¬ ((pe_I σ a5 5) = 0) → pe_X d 171 (362, [some (.inr (.inr 3)), some (.inl x1), some (.inr (.inr a2)), o3, some (.inl x4), some (.inr (.inr a5))], [.inl s0], σ) Φ) : pe_X d 171 (354, [some (.inr (.inr 3)), some (.inl x1), some (.inr (.inr a2)), o3, some (.inl x4), some (.inr (.inr a5))], [.inl s0], σ) Φ := by
  refine pe_blk 177 3 ck171 [pe_K σ a5 = 19] (cond (decide ((pe_w (pe_I σ a5 5)) = 0)) 366 362, [some (.inr (.inr 3)), some (.inl x1), some (.inr (.inr a2)), o3, some (.inl x4), some (.inr (.inr a5))], [.inl s0], σ) rfl ?_ ?_
  · first
    | (simp (disch := omega) only [pe_all, pe_wi w0, pe_K_wI, pe_K_wR]; done)
    | (simp (disch := omega) only [pe_all, pe_wi w0, pe_K_wI, pe_K_wR]; (repeat' apply And.intro) <;> first | assumption | omega | decide)
  · try simp (disch := omega) only [pe_wi w0, pe_K_wI, pe_K_wR]
    exact pe_two k1 k2
set_option maxRecDepth 8000 in
theorem b171_362 {d : Nat} {Φ : Option pe_V → pe_H → Prop} {σ : pe_H} {x1 : Int} {a2 : Nat} {o3 : Option pe_V} {x4 : Int} {a5 : Nat} {s0 : Int} (hL : ll_L σ := by assumption)   (k : pe_X d 171 (367, [some (.inr (.inr 3)), some (.inl x1), some (.inr (.inr a2)), o3, some (.inl x4), some (.inr (.inr a5))], [.inl 1, .inl s0], σ) Φ) : pe_X d 171 (362, [some (.inr (.inr 3)), some (.inl x1), some (.inr (.inr a2)), o3, some (.inl x4), some (.inr (.inr a5))], [.inl s0], σ) Φ := by
  refine pe_blk 180 2 ck171 [] (367, [some (.inr (.inr 3)), some (.inl x1), some (.inr (.inr a2)), o3, some (.inl x4), some (.inr (.inr a5))], [.inl 1, .inl s0], σ) rfl ?_ ?_
  · exact trivial
  · exact k
set_option maxRecDepth 8000 in
theorem b171_366 {d : Nat} {Φ : Option pe_V → pe_H → Prop} {σ : pe_H} {x1 : Int} {a2 : Nat} {o3 : Option pe_V} {x4 : Int} {a5 : Nat} {s0 : Int} (hL : ll_L σ := by assumption)   (k : pe_X d 171 (367, [some (.inr (.inr 3)), some (.inl x1), some (.inr (.inr a2)), o3, some (.inl x4), some (.inr (.inr a5))], [.inl 0, .inl s0], σ) Φ) : pe_X d 171 (366, [some (.inr (.inr 3)), some (.inl x1), some (.inr (.inr a2)), o3, some (.inl x4), some (.inr (.inr a5))], [.inl s0], σ) Φ := by
  refine pe_blk 182 1 ck171 [] (367, [some (.inr (.inr 3)), some (.inl x1), some (.inr (.inr a2)), o3, some (.inl x4), some (.inr (.inr a5))], [.inl 0, .inl s0], σ) rfl ?_ ?_
  · exact trivial
  · exact k
set_option maxRecDepth 8000 in
theorem b171_367 {d : Nat} {Φ : Option pe_V → pe_H → Prop} {σ : pe_H} {x1 : Int} {a2 : Nat} {o3 : Option pe_V} {x4 : Int} {a5 : Nat} {s0 : Int} {s1 : Int} (hL : ll_L σ := by assumption) (w0 : pe_in s1 := by unfold pe_in; omega) (w1 : pe_in s0 := by unfold pe_in; omega)  (k1 : ¬ s0 = s1 → pe_X d 171 (389, [some (.inr (.inr 3)), some (.inl x1), some (.inr (.inr a2)), o3, some (.inl x4), some (.inr (.inr a5))], [], σ) Φ) (k2 : s0 = s1 → pe_X d 171 (370, [some (.inr (.inr 3)), some (.inl x1), some (.inr (.inr a2)), o3, some (.inl x4), some (.inr (.inr a5))], [], σ) Φ) : pe_X d 171 (367, [some (.inr (.inr 3)), some (.inl x1), some (.inr (.inr a2)), o3, some (.inl x4), some (.inr (.inr a5))], [.inl s1, .inl s0], σ) Φ := by
  refine pe_blk 183 1 ck171 [] (cond (decide (¬ (pe_w s0) = (pe_w s1))) 389 370, [some (.inr (.inr 3)), some (.inl x1), some (.inr (.inr a2)), o3, some (.inl x4), some (.inr (.inr a5))], [], σ) rfl ?_ ?_
  · exact trivial
  · try simp (disch := omega) only [pe_wi w0, pe_wi w1]
    exact pe_two' k1 k2
set_option maxRecDepth 8000 in
theorem b171_370 {d : Nat} {Φ : Option pe_V → pe_H → Prop} {σ : pe_H} {x1 : Int} {a2 : Nat} {o3 : Option pe_V} {x4 : Int} {a5 : Nat} (hL : ll_L σ := by assumption)   (k : pe_M d 84 [.inr (.inr 4), .inl x1, .inl x4, .inl 4] σ (fun r σ' => pe_X d 171 (381, [some (.inr (.inr 3)), some (.inl x1), some (.inr (.inr a2)), o3, some (.inl x4), some (.inr (.inr a5))], r.toList ++ [], σ') Φ)) : pe_X d 171 (370, [some (.inr (.inr 3)), some (.inl x1), some (.inr (.inr a2)), o3, some (.inl x4), some (.inr (.inr a5))], [], σ) Φ := by
  refine pe_blk 184 5 ck171 [pe_K σ 3 = 21] (378, [some (.inr (.inr 3)), some (.inl x1), some (.inr (.inr a2)), o3, some (.inl x4), some (.inr (.inr a5))], [.inl 4, .inl x4, .inl x1, .inr (.inr (pe_R σ 3 0))], σ) rfl ?_ ?_
  · first
    | (simp (disch := omega) only [pe_all, ll_e0 hL, ll_k3 hL, ll_k4 hL, pe_K_wI, pe_K_wR, pe_R_nej, pe_R_ner, pe_R_wI]; done)
    | (simp (disch := omega) only [pe_all, ll_e0 hL, ll_k3 hL, ll_k4 hL, pe_K_wI, pe_K_wR, pe_R_nej, pe_R_ner, pe_R_wI]; (repeat' apply And.intro) <;> first | assumption | omega | decide)
  · try simp (disch := omega) only [ll_e0 hL, ll_k3 hL, ll_k4 hL, pe_K_wI, pe_K_wR, pe_R_nej, pe_R_ner, pe_R_wI]
    have hrc : pe_K σ 4 = 8 := by first | assumption | (simp (disch := omega) only [ll_e0 hL, ll_k3 hL, ll_k4 hL, pe_K_wI, pe_K_wR, pe_R_nej, pe_R_ner, pe_R_wI]; done) | (simp (disch := omega) only [ll_e0 hL, ll_k3 hL, ll_k4 hL, pe_K_wI, pe_K_wR, pe_R_nej, pe_R_ner, pe_R_wI]; assumption)
    exact pe_cal 189 ck171 rfl rfl rfl ⟨hrc, by decide⟩ k
set_option maxRecDepth 8000 in
theorem b171_381 {d : Nat} {Φ : Option pe_V → pe_H → Prop} {σ : pe_H} {x1 : Int} {a2 : Nat} {o3 : Option pe_V} {x4 : Int} {a5 : Nat} {s0 : Int} (hL : ll_L σ := by assumption)  (h0 : pe_K σ a5 = 19 := by first | assumption | omega) (k : pe_M d 135 [.inr (.inr a5)] σ (fun r σ' => pe_X d 171 (386, [some (.inr (.inr 3)), some (.inl x1), some (.inr (.inr a2)), o3, some (.inl x4), some (.inr (.inr a5))], r.toList ++ [.inl s0], σ') Φ)) : pe_X d 171 (381, [some (.inr (.inr 3)), some (.inl x1), some (.inr (.inr a2)), o3, some (.inl x4), some (.inr (.inr a5))], [.inl s0], σ) Φ := by
  refine pe_blk 190 1 ck171 [] (383, [some (.inr (.inr 3)), some (.inl x1), some (.inr (.inr a2)), o3, some (.inl x4), some (.inr (.inr a5))], [.inr (.inr a5), .inl s0], σ) rfl ?_ ?_
  · exact trivial
  · try simp (disch := omega) only [pe_K_wI, pe_K_wR]
    have hrc : pe_K σ a5 = 19 := by first | assumption | (simp (disch := omega) only [pe_K_wI, pe_K_wR]; done) | (simp (disch := omega) only [pe_K_wI, pe_K_wR]; assumption)
    exact pe_cal 191 ck171 rfl rfl rfl ⟨hrc, by decide⟩ k
set_option maxRecDepth 8000 in
theorem b171_386 {d : Nat} {Φ : Option pe_V → pe_H → Prop} {σ : pe_H} {x1 : Int} {a2 : Nat} {o3 : Option pe_V} {x4 : Int} {o5 : Option pe_V} {s0 : Int} {s1 : Int} (hL : ll_L σ := by assumption) (w0 : pe_in s1 := by unfold pe_in; omega) (w1 : pe_in s0 := by unfold pe_in; omega)  (k1 : s0 = s1 → pe_X d 171 (391, [some (.inr (.inr 3)), some (.inl x1), some (.inr (.inr a2)), o3, some (.inl x4), o5], [], σ) Φ) (k2 : ¬ (s0 = s1) → pe_X d 171 (389, [some (.inr (.inr 3)), some (.inl x1), some (.inr (.inr a2)), o3, some (.inl x4), o5], [], σ) Φ) : pe_X d 171 (386, [some (.inr (.inr 3)), some (.inl x1), some (.inr (.inr a2)), o3, some (.inl x4), o5], [.inl s1, .inl s0], σ) Φ := by
  refine pe_blk 192 1 ck171 [] (cond (decide ((pe_w s0) = (pe_w s1))) 391 389, [some (.inr (.inr 3)), some (.inl x1), some (.inr (.inr a2)), o3, some (.inl x4), o5], [], σ) rfl ?_ ?_
  · exact trivial
  · try simp (disch := omega) only [pe_wi w0, pe_wi w1]
    exact pe_two k1 k2
set_option maxRecDepth 8000 in
theorem b171_389 {d : Nat} {Φ : Option pe_V → pe_H → Prop} {σ : pe_H} {o1 : Option pe_V} {o2 : Option pe_V} {o3 : Option pe_V} {o4 : Option pe_V} {o5 : Option pe_V} (hL : ll_L σ := by assumption)   (k : Φ (some (.inl 0)) σ) : pe_X d 171 (389, [some (.inr (.inr 3)), o1, o2, o3, o4, o5], [], σ) Φ := by
  refine pe_blk 193 1 ck171 [] (390, [some (.inr (.inr 3)), o1, o2, o3, o4, o5], [.inl 0], σ) rfl ?_ ?_
  · exact trivial
  · exact pe_fine 194 ck171 rfl rfl rfl (Or.inl rfl) k
set_option maxRecDepth 8000 in
theorem b171_391 {d : Nat} {Φ : Option pe_V → pe_H → Prop} {σ : pe_H} {x1 : Int} {a2 : Nat} {o3 : Option pe_V} {x4 : Int} {o5 : Option pe_V} (hL : ll_L σ := by assumption)   (k : pe_X d 171 (268, [some (.inr (.inr 3)), some (.inl x1), some (.inr (.inr a2)), pe_nl o3, some (.inl (x4 + 1)), o5], [], σ) Φ) : pe_X d 171 (391, [some (.inr (.inr 3)), some (.inl x1), some (.inr (.inr a2)), o3, some (.inl x4), o5], [], σ) Φ := by
  refine pe_blk 195 2 ck171 [] (268, [some (.inr (.inr 3)), some (.inl x1), some (.inr (.inr a2)), pe_nl o3, some (.inl (x4 + 1)), o5], [], σ) rfl ?_ ?_
  · exact trivial
  · exact k
set_option maxRecDepth 8000 in
theorem b171_397 {d : Nat} {Φ : Option pe_V → pe_H → Prop} {σ : pe_H} {x1 : Int} {a2 : Nat} {o3 : Option pe_V} {o4 : Option pe_V} {o5 : Option pe_V} (hL : ll_L σ := by assumption) (w0 : pe_in (pe_I σ a2 3) := by unfold pe_in; omega) (h0 : pe_K σ a2 = 20 := by first | assumption | omega) (k1 : ¬ (pe_I σ a2 3) = 7 → pe_X d 171 (416, [some (.inr (.inr 3)), some (.inl x1), some (.inr (.inr a2)), pe_nl o3, some (.inl 0), o5], [], σ) Φ) (k2 : (pe_I σ a2 3) = 7 → pe_X d 171 (409, [some (.inr (.inr 3)), some (.inl x1), some (.inr (.inr a2)), pe_nl o3, some (.inl 0), o5], [], σ) Φ) : pe_X d 171 (397, [some (.inr (.inr 3)), some (.inl x1), some (.inr (.inr a2)), o3, o4, o5], [], σ) Φ := by
  refine pe_blk 197 6 ck171 [pe_K σ a2 = 20] (cond (decide (¬ (pe_w (pe_I σ a2 3)) = (pe_w 7))) 416 409, [some (.inr (.inr 3)), some (.inl x1), some (.inr (.inr a2)), pe_nl o3, some (.inl 0), o5], [], σ) rfl ?_ ?_
  · first
    | (simp (disch := omega) only [pe_all, pe_wi w0, pe_wi (x := 7) ⟨by decide, by decide⟩, pe_K_wI, pe_K_wR]; done)
    | (simp (disch := omega) only [pe_all, pe_wi w0, pe_wi (x := 7) ⟨by decide, by decide⟩, pe_K_wI, pe_K_wR]; (repeat' apply And.intro) <;> first | assumption | omega | decide)
  · try simp (disch := omega) only [pe_wi w0, pe_wi (x := 7) ⟨by decide, by decide⟩, pe_K_wI, pe_K_wR]
    exact pe_two' k1 k2
set_option maxRecDepth 8000 in
theorem b171_409 {d : Nat} {Φ : Option pe_V → pe_H → Prop} {σ : pe_H} {x1 : Int} {a2 : Nat} {o3 : Option pe_V} {x4 : Int} {o5 : Option pe_V} (hL : ll_L σ := by assumption)  (h0 : pe_K σ a2 = 20 := by first | assumption | omega) (k : pe_X d 171 (417, [some (.inr (.inr 3)), some (.inl x1), some (.inr (.inr a2)), o3, some (.inl x4), o5], [.inr (.inr (pe_R σ a2 9))], σ) Φ) : pe_X d 171 (409, [some (.inr (.inr 3)), some (.inl x1), some (.inr (.inr a2)), o3, some (.inl x4), o5], [], σ) Φ := by
  refine pe_blk 203 3 ck171 [pe_K σ a2 = 20] (417, [some (.inr (.inr 3)), some (.inl x1), some (.inr (.inr a2)), o3, some (.inl x4), o5], [.inr (.inr (pe_R σ a2 9))], σ) rfl ?_ ?_
  · first
    | (simp (disch := omega) only [pe_all, pe_K_wI, pe_K_wR]; done)
    | (simp (disch := omega) only [pe_all, pe_K_wI, pe_K_wR]; (repeat' apply And.intro) <;> first | assumption | omega | decide)
  · try simp (disch := omega) only [pe_K_wI, pe_K_wR]
    exact k
set_option maxRecDepth 8000 in
theorem b171_416 {d : Nat} {Φ : Option pe_V → pe_H → Prop} {σ : pe_H} {x1 : Int} {a2 : Nat} {o3 : Option pe_V} {x4 : Int} {o5 : Option pe_V} (hL : ll_L σ := by assumption)   (k : pe_X d 171 (417, [some (.inr (.inr 3)), some (.inl x1), some (.inr (.inr a2)), o3, some (.inl x4), o5], [.inr (.inr 0)], σ) Φ) : pe_X d 171 (416, [some (.inr (.inr 3)), some (.inl x1), some (.inr (.inr a2)), o3, some (.inl x4), o5], [], σ) Φ := by
  refine pe_blk 206 1 ck171 [] (417, [some (.inr (.inr 3)), some (.inl x1), some (.inr (.inr a2)), o3, some (.inl x4), o5], [.inr (.inr 0)], σ) rfl ?_ ?_
  · exact trivial
  · exact k
set_option maxRecDepth 8000 in
theorem b171_417 {d : Nat} {Φ : Option pe_V → pe_H → Prop} {σ : pe_H} {x1 : Int} {a2 : Nat} {o3 : Option pe_V} {x4 : Int} {o5 : Option pe_V} {b0 : Nat} (hL : ll_L σ := by assumption)   (k : pe_X d 171 (419, [some (.inr (.inr 3)), some (.inl x1), some (.inr (.inr a2)), o3, some (.inl x4), some (.inr (.inr b0))], [], σ) Φ) : pe_X d 171 (417, [some (.inr (.inr 3)), some (.inl x1), some (.inr (.inr a2)), o3, some (.inl x4), o5], [.inr (.inr b0)], σ) Φ := by
  refine pe_blk 207 1 ck171 [] (419, [some (.inr (.inr 3)), some (.inl x1), some (.inr (.inr a2)), o3, some (.inl x4), some (.inr (.inr b0))], [], σ) rfl ?_ ?_
  · exact trivial
  · exact k
set_option maxRecDepth 8000 in
theorem b171_419 {d : Nat} {Φ : Option pe_V → pe_H → Prop} {σ : pe_H} {x1 : Int} {a2 : Nat} {o3 : Option pe_V} {x4 : Int} {a5 : Nat} (hL : ll_L σ := by assumption)   (k1 : a5 = 0 → pe_X d 171 (457, [some (.inr (.inr 3)), some (.inl x1), some (.inr (.inr a2)), o3, some (.inl x4), some (.inr (.inr a5))], [], σ) Φ) (k2 : ¬ (a5 = 0) → pe_X d 171 (424, [some (.inr (.inr 3)), some (.inl x1), some (.inr (.inr a2)), o3, some (.inl x4), some (.inr (.inr a5))], [], σ) Φ) : pe_X d 171 (419, [some (.inr (.inr 3)), some (.inl x1), some (.inr (.inr a2)), o3, some (.inl x4), some (.inr (.inr a5))], [], σ) Φ := by
  refine pe_blk 208 2 ck171 [] (cond (decide (a5 = 0)) 457 424, [some (.inr (.inr 3)), some (.inl x1), some (.inr (.inr a2)), o3, some (.inl x4), some (.inr (.inr a5))], [], σ) rfl ?_ ?_
  · exact trivial
  · exact pe_two k1 k2
set_option maxRecDepth 8000 in
theorem b171_424 {d : Nat} {Φ : Option pe_V → pe_H → Prop} {σ : pe_H} {x1 : Int} {a2 : Nat} {o3 : Option pe_V} {x4 : Int} {a5 : Nat} (hL : ll_L σ := by assumption)   (k : pe_M d 85 [.inr (.inr 4), .inl x1, .inl x4] σ (fun r σ' => pe_X d 171 (434, [some (.inr (.inr 3)), some (.inl x1), some (.inr (.inr a2)), o3, some (.inl x4), some (.inr (.inr a5))], r.toList ++ [], σ') Φ)) : pe_X d 171 (424, [some (.inr (.inr 3)), some (.inl x1), some (.inr (.inr a2)), o3, some (.inl x4), some (.inr (.inr a5))], [], σ) Φ := by
  refine pe_blk 210 4 ck171 [pe_K σ 3 = 21] (431, [some (.inr (.inr 3)), some (.inl x1), some (.inr (.inr a2)), o3, some (.inl x4), some (.inr (.inr a5))], [.inl x4, .inl x1, .inr (.inr (pe_R σ 3 0))], σ) rfl ?_ ?_
  · first
    | (simp (disch := omega) only [pe_all, ll_e0 hL, ll_k3 hL, ll_k4 hL, pe_K_wI, pe_K_wR, pe_R_nej, pe_R_ner, pe_R_wI]; done)
    | (simp (disch := omega) only [pe_all, ll_e0 hL, ll_k3 hL, ll_k4 hL, pe_K_wI, pe_K_wR, pe_R_nej, pe_R_ner, pe_R_wI]; (repeat' apply And.intro) <;> first | assumption | omega | decide)
  · try simp (disch := omega) only [ll_e0 hL, ll_k3 hL, ll_k4 hL, pe_K_wI, pe_K_wR, pe_R_nej, pe_R_ner, pe_R_wI]
    have hrc : pe_K σ 4 = 8 := by first | assumption | (simp (disch := omega) only [ll_e0 hL, ll_k3 hL, ll_k4 hL, pe_K_wI, pe_K_wR, pe_R_nej, pe_R_ner, pe_R_wI]; done) | (simp (disch := omega) only [ll_e0 hL, ll_k3 hL, ll_k4 hL, pe_K_wI, pe_K_wR, pe_R_nej, pe_R_ner, pe_R_wI]; assumption)
    exact pe_cal 214 ck171 rfl rfl rfl ⟨hrc, by decide⟩ k
set_option maxRecDepth 8000 in
theorem b171_434 {d : Nat} {Φ : Option pe_V → pe_H → Prop} {σ : pe_H} {x1 : Int} {a2 : Nat} {o3 : Option pe_V} {x4 : Int} {a5 : Nat} {s0 : Int} (hL : ll_L σ := by assumption) (w0 : pe_in (pe_I σ a5 0) := by unfold pe_in; omega) (w1 : pe_in s0 := by unfold pe_in; omega) (h0 : pe_K σ a5 = 9 := by first | assumption | omega) (k1 : s0 = (pe_I σ a5 0) → pe_X d 171 (444, [some (.inr (.inr 3)), some (.inl x1), some (.inr (.inr a2)), o3, some (.inl x4), some (.inr (.inr a5))], [], σ) Φ) (k2 : ¬ (s0 = (pe_I σ a5 0)) → pe_X d 171 (442, [some (.inr (.inr 3)), some (.inl x1), some (.inr (.inr a2)), o3, some (.inl x4), some (.inr (.inr a5))], [], σ) Φ) : pe_X d 171 (434, [some (.inr (.inr 3)), some (.inl x1), some (.inr (.inr a2)), o3, some (.inl x4), some (.inr (.inr a5))], [.inl s0], σ) Φ := by
  refine pe_blk 215 3 ck171 [pe_K σ a5 = 9] (cond (decide ((pe_w s0) = (pe_w (pe_I σ a5 0)))) 444 442, [some (.inr (.inr 3)), some (.inl x1), some (.inr (.inr a2)), o3, some (.inl x4), some (.inr (.inr a5))], [], σ) rfl ?_ ?_
  · first
    | (simp (disch := omega) only [pe_all, pe_wi w0, pe_wi w1, pe_K_wI, pe_K_wR]; done)
    | (simp (disch := omega) only [pe_all, pe_wi w0, pe_wi w1, pe_K_wI, pe_K_wR]; (repeat' apply And.intro) <;> first | assumption | omega | decide)
  · try simp (disch := omega) only [pe_wi w0, pe_wi w1, pe_K_wI, pe_K_wR]
    exact pe_two k1 k2
set_option maxRecDepth 8000 in
theorem b171_442 {d : Nat} {Φ : Option pe_V → pe_H → Prop} {σ : pe_H} {o1 : Option pe_V} {o2 : Option pe_V} {o3 : Option pe_V} {o4 : Option pe_V} {o5 : Option pe_V} (hL : ll_L σ := by assumption)   (k : Φ (some (.inl 0)) σ) : pe_X d 171 (442, [some (.inr (.inr 3)), o1, o2, o3, o4, o5], [], σ) Φ := by
  refine pe_blk 218 1 ck171 [] (443, [some (.inr (.inr 3)), o1, o2, o3, o4, o5], [.inl 0], σ) rfl ?_ ?_
  · exact trivial
  · exact pe_fine 219 ck171 rfl rfl rfl (Or.inl rfl) k
set_option maxRecDepth 8000 in
theorem b171_444 {d : Nat} {Φ : Option pe_V → pe_H → Prop} {σ : pe_H} {x1 : Int} {a2 : Nat} {o3 : Option pe_V} {x4 : Int} {a5 : Nat} (hL : ll_L σ := by assumption)  (h0 : pe_K σ a5 = 9 := by first | assumption | omega) (k : pe_X d 171 (454, [some (.inr (.inr 3)), some (.inl x1), some (.inr (.inr a2)), pe_nl o3, some (.inl (x4 + 1)), some (.inr (.inr (pe_R σ a5 1)))], [], σ) Φ) : pe_X d 171 (444, [some (.inr (.inr 3)), some (.inl x1), some (.inr (.inr a2)), o3, some (.inl x4), some (.inr (.inr a5))], [], σ) Φ := by
  refine pe_blk 220 4 ck171 [pe_K σ a5 = 9] (454, [some (.inr (.inr 3)), some (.inl x1), some (.inr (.inr a2)), pe_nl o3, some (.inl (x4 + 1)), some (.inr (.inr (pe_R σ a5 1)))], [], σ) rfl ?_ ?_
  · first
    | (simp (disch := omega) only [pe_all, pe_K_wI, pe_K_wR]; done)
    | (simp (disch := omega) only [pe_all, pe_K_wI, pe_K_wR]; (repeat' apply And.intro) <;> first | assumption | omega | decide)
  · try simp (disch := omega) only [pe_K_wI, pe_K_wR]
    exact k
set_option maxRecDepth 8000 in
theorem b171_454 {d : Nat} {Φ : Option pe_V → pe_H → Prop} {σ : pe_H} {x1 : Int} {a2 : Nat} {o3 : Option pe_V} {x4 : Int} {a5 : Nat} (hL : ll_L σ := by assumption)   (k : pe_X d 171 (419, [some (.inr (.inr 3)), some (.inl x1), some (.inr (.inr a2)), o3, some (.inl x4), some (.inr (.inr a5))], [], σ) Φ) : pe_X d 171 (454, [some (.inr (.inr 3)), some (.inl x1), some (.inr (.inr a2)), o3, some (.inl x4), some (.inr (.inr a5))], [], σ) Φ := by
  refine pe_blk 224 1 ck171 [] (419, [some (.inr (.inr 3)), some (.inl x1), some (.inr (.inr a2)), o3, some (.inl x4), some (.inr (.inr a5))], [], σ) rfl ?_ ?_
  · exact trivial
  · exact k
set_option maxRecDepth 8000 in
theorem b171_457 {d : Nat} {Φ : Option pe_V → pe_H → Prop} {σ : pe_H} {x1 : Int} {a2 : Nat} {o3 : Option pe_V} {x4 : Int} {o5 : Option pe_V} (hL : ll_L σ := by assumption)   (k : pe_M d 85 [.inr (.inr 4), .inl x1, .inl x4] σ (fun r σ' => pe_X d 171 (467, [some (.inr (.inr 3)), some (.inl x1), some (.inr (.inr a2)), o3, some (.inl x4), o5], r.toList ++ [], σ') Φ)) : pe_X d 171 (457, [some (.inr (.inr 3)), some (.inl x1), some (.inr (.inr a2)), o3, some (.inl x4), o5], [], σ) Φ := by
  refine pe_blk 225 4 ck171 [pe_K σ 3 = 21] (464, [some (.inr (.inr 3)), some (.inl x1), some (.inr (.inr a2)), o3, some (.inl x4), o5], [.inl x4, .inl x1, .inr (.inr (pe_R σ 3 0))], σ) rfl ?_ ?_
  · first
    | (simp (disch := omega) only [pe_all, ll_e0 hL, ll_k3 hL, ll_k4 hL, pe_K_wI, pe_K_wR, pe_R_nej, pe_R_ner, pe_R_wI]; done)
    | (simp (disch := omega) only [pe_all, ll_e0 hL, ll_k3 hL, ll_k4 hL, pe_K_wI, pe_K_wR, pe_R_nej, pe_R_ner, pe_R_wI]; (repeat' apply And.intro) <;> first | assumption | omega | decide)
  · try simp (disch := omega) only [ll_e0 hL, ll_k3 hL, ll_k4 hL, pe_K_wI, pe_K_wR, pe_R_nej, pe_R_ner, pe_R_wI]
    have hrc : pe_K σ 4 = 8 := by first | assumption | (simp (disch := omega) only [ll_e0 hL, ll_k3 hL, ll_k4 hL, pe_K_wI, pe_K_wR, pe_R_nej, pe_R_ner, pe_R_wI]; done) | (simp (disch := omega) only [ll_e0 hL, ll_k3 hL, ll_k4 hL, pe_K_wI, pe_K_wR, pe_R_nej, pe_R_ner, pe_R_wI]; assumption)
    exact pe_cal 229 ck171 rfl rfl rfl ⟨hrc, by decide⟩ k
set_option maxRecDepth 8000 in
theorem b171_467 {d : Nat} {Φ : Option pe_V → pe_H → Prop} {σ : pe_H} {x1 : Int} {a2 : Nat} {o3 : Option pe_V} {o4 : Option pe_V} {o5 : Option pe_V} {s0 : Int} (hL : ll_L σ := by assumption) (w0 : pe_in s0 := by unfold pe_in; omega)  (k1 : ¬ s0 = (-1) → pe_X d 171 (488, [some (.inr (.inr 3)), some (.inl x1), some (.inr (.inr a2)), o3, o4, o5], [], σ) Φ) (k2 : s0 = (-1) → pe_X d 171 (471, [some (.inr (.inr 3)), some (.inl x1), some (.inr (.inr a2)), o3, o4, o5], [], σ) Φ) : pe_X d 171 (467, [some (.inr (.inr 3)), some (.inl x1), some (.inr (.inr a2)), o3, o4, o5], [.inl s0], σ) Φ := by
  refine pe_blk 230 2 ck171 [] (cond (decide (¬ (pe_w s0) = (pe_w (-1)))) 488 471, [some (.inr (.inr 3)), some (.inl x1), some (.inr (.inr a2)), o3, o4, o5], [], σ) rfl ?_ ?_
  · exact trivial
  · try simp (disch := omega) only [pe_wi w0, pe_wi (x := (-1)) ⟨by decide, by decide⟩]
    exact pe_two' k1 k2
set_option maxRecDepth 8000 in
theorem b171_471 {d : Nat} {Φ : Option pe_V → pe_H → Prop} {σ : pe_H} {x1 : Int} {a2 : Nat} {o3 : Option pe_V} {o4 : Option pe_V} {o5 : Option pe_V} (hL : ll_L σ := by assumption)  (h0 : pe_K σ a2 = 20 := by first | assumption | omega) (k : pe_M d 84 [.inr (.inr 4), .inl x1, .inl (pe_I σ a2 11), .inl 0] σ (fun r σ' => pe_X d 171 (484, [some (.inr (.inr 3)), some (.inl x1), some (.inr (.inr a2)), o3, o4, o5], r.toList ++ [], σ') Φ)) : pe_X d 171 (471, [some (.inr (.inr 3)), some (.inl x1), some (.inr (.inr a2)), o3, o4, o5], [], σ) Φ := by
  refine pe_blk 232 6 ck171 [pe_K σ 3 = 21, pe_K σ a2 = 20] (481, [some (.inr (.inr 3)), some (.inl x1), some (.inr (.inr a2)), o3, o4, o5], [.inl 0, .inl (pe_I σ a2 11), .inl x1, .inr (.inr (pe_R σ 3 0))], σ) rfl ?_ ?_
  · first
    | (simp (disch := omega) only [pe_all, ll_e0 hL, ll_k3 hL, ll_k4 hL, pe_K_wI, pe_K_wR, pe_R_nej, pe_R_ner, pe_R_wI]; done)
    | (simp (disch := omega) only [pe_all, ll_e0 hL, ll_k3 hL, ll_k4 hL, pe_K_wI, pe_K_wR, pe_R_nej, pe_R_ner, pe_R_wI]; (repeat' apply And.intro) <;> first | assumption | omega | decide)
  · try simp (disch := omega) only [ll_e0 hL, ll_k3 hL, ll_k4 hL, pe_K_wI, pe_K_wR, pe_R_nej, pe_R_ner, pe_R_wI]
    have hrc : pe_K σ 4 = 8 := by first | assumption | (simp (disch := omega) only [ll_e0 hL, ll_k3 hL, ll_k4 hL, pe_K_wI, pe_K_wR, pe_R_nej, pe_R_ner, pe_R_wI]; done) | (simp (disch := omega) only [ll_e0 hL, ll_k3 hL, ll_k4 hL, pe_K_wI, pe_K_wR, pe_R_nej, pe_R_ner, pe_R_wI]; assumption)
    exact pe_cal 238 ck171 rfl rfl rfl ⟨hrc, by decide⟩ k
set_option maxRecDepth 8000 in
theorem b171_484 {d : Nat} {Φ : Option pe_V → pe_H → Prop} {σ : pe_H} {x1 : Int} {o2 : Option pe_V} {o3 : Option pe_V} {o4 : Option pe_V} {o5 : Option pe_V} {s0 : Int} (hL : ll_L σ := by assumption) (w0 : pe_in s0 := by unfold pe_in; omega)  (k1 : s0 = (-1) → pe_X d 171 (490, [some (.inr (.inr 3)), some (.inl x1), o2, o3, o4, o5], [], σ) Φ) (k2 : ¬ (s0 = (-1)) → pe_X d 171 (488, [some (.inr (.inr 3)), some (.inl x1), o2, o3, o4, o5], [], σ) Φ) : pe_X d 171 (484, [some (.inr (.inr 3)), some (.inl x1), o2, o3, o4, o5], [.inl s0], σ) Φ := by
  refine pe_blk 239 2 ck171 [] (cond (decide ((pe_w s0) = (pe_w (-1)))) 490 488, [some (.inr (.inr 3)), some (.inl x1), o2, o3, o4, o5], [], σ) rfl ?_ ?_
  · exact trivial
  · try simp (disch := omega) only [pe_wi w0, pe_wi (x := (-1)) ⟨by decide, by decide⟩]
    exact pe_two k1 k2
set_option maxRecDepth 8000 in
theorem b171_488 {d : Nat} {Φ : Option pe_V → pe_H → Prop} {σ : pe_H} {o1 : Option pe_V} {o2 : Option pe_V} {o3 : Option pe_V} {o4 : Option pe_V} {o5 : Option pe_V} (hL : ll_L σ := by assumption)   (k : Φ (some (.inl 0)) σ) : pe_X d 171 (488, [some (.inr (.inr 3)), o1, o2, o3, o4, o5], [], σ) Φ := by
  refine pe_blk 241 1 ck171 [] (489, [some (.inr (.inr 3)), o1, o2, o3, o4, o5], [.inl 0], σ) rfl ?_ ?_
  · exact trivial
  · exact pe_fine 242 ck171 rfl rfl rfl (Or.inl rfl) k
set_option maxRecDepth 8000 in
theorem b171_490 {d : Nat} {Φ : Option pe_V → pe_H → Prop} {σ : pe_H} {x1 : Int} {o2 : Option pe_V} {o3 : Option pe_V} {o4 : Option pe_V} {o5 : Option pe_V} (hL : ll_L σ := by assumption)   (k : pe_X d 171 (2, [some (.inr (.inr 3)), some (.inl (x1 + 1)), o2, o3, o4, o5], [], σ) Φ) : pe_X d 171 (490, [some (.inr (.inr 3)), some (.inl x1), o2, o3, o4, o5], [], σ) Φ := by
  refine pe_blk 243 2 ck171 [] (2, [some (.inr (.inr 3)), some (.inl (x1 + 1)), o2, o3, o4, o5], [], σ) rfl ?_ ?_
  · exact trivial
  · exact k
set_option maxRecDepth 8000 in
theorem b171_496 {d : Nat} {Φ : Option pe_V → pe_H → Prop} {σ : pe_H} {o1 : Option pe_V} {o2 : Option pe_V} {o3 : Option pe_V} {o4 : Option pe_V} {o5 : Option pe_V} (hL : ll_L σ := by assumption)   (k : pe_X d 171 (500, [some (.inr (.inr 3)), some (.inl 0), some (.inl 0), o3, o4, o5], [], σ) Φ) : pe_X d 171 (496, [some (.inr (.inr 3)), o1, o2, o3, o4, o5], [], σ) Φ := by
  refine pe_blk 245 4 ck171 [] (500, [some (.inr (.inr 3)), some (.inl 0), some (.inl 0), o3, o4, o5], [], σ) rfl ?_ ?_
  · exact trivial
  · exact k
set_option maxRecDepth 8000 in
theorem b171_500 {d : Nat} {Φ : Option pe_V → pe_H → Prop} {σ : pe_H} {x1 : Int} {x2 : Int} {o3 : Option pe_V} {o4 : Option pe_V} {o5 : Option pe_V} (hL : ll_L σ := by assumption) (w0 : pe_in x2 := by unfold pe_in; omega)  (k1 : 6 ≤ x2 → pe_X d 171 (584, [some (.inr (.inr 3)), some (.inl x1), some (.inl x2), o3, o4, o5], [], σ) Φ) (k2 : ¬ (6 ≤ x2) → pe_X d 171 (506, [some (.inr (.inr 3)), some (.inl x1), some (.inl x2), o3, o4, o5], [], σ) Φ) : pe_X d 171 (500, [some (.inr (.inr 3)), some (.inl x1), some (.inl x2), o3, o4, o5], [], σ) Φ := by
  refine pe_blk 249 3 ck171 [] (cond (decide ((pe_w 6) ≤ (pe_w x2))) 584 506, [some (.inr (.inr 3)), some (.inl x1), some (.inl x2), o3, o4, o5], [], σ) rfl ?_ ?_
  · exact trivial
  · try simp (disch := omega) only [pe_wi w0, pe_wi (x := 6) ⟨by decide, by decide⟩]
    exact pe_two k1 k2
set_option maxRecDepth 8000 in
theorem b171_506 {d : Nat} {Φ : Option pe_V → pe_H → Prop} {σ : pe_H} {x1 : Int} {x2 : Int} {o3 : Option pe_V} {o4 : Option pe_V} {o5 : Option pe_V} (hL : ll_L σ := by assumption) (w0 : pe_in x2 := by unfold pe_in; omega) (h0 : ¬ 3 = 0 := by first | assumption | omega) (k : pe_M d 86 [.inr (.inr 4), .inl (Int.tmod x2 3), .inl (-1), .inl (Int.tdiv x2 3)] σ (fun r σ' => pe_X d 171 (520, [some (.inr (.inr 3)), some (.inl x1), some (.inl x2), o3, o4, o5], r.toList ++ [], σ') Φ)) : pe_X d 171 (506, [some (.inr (.inr 3)), some (.inl x1), some (.inl x2), o3, o4, o5], [], σ) Φ := by
  refine pe_blk 252 9 ck171 [pe_K σ 3 = 21, ¬ (pe_w 3) = 0, ¬ (pe_w 3) = 0] (517, [some (.inr (.inr 3)), some (.inl x1), some (.inl x2), o3, o4, o5], [.inl (Int.tdiv (pe_w x2) (pe_w 3)), .inl (-1), .inl (Int.tmod (pe_w x2) (pe_w 3)), .inr (.inr (pe_R σ 3 0))], σ) rfl ?_ ?_
  · first
    | (simp (disch := omega) only [pe_all, pe_wi w0, pe_wi (x := 3) ⟨by decide, by decide⟩, ll_e0 hL, ll_k3 hL, ll_k4 hL, pe_K_wI, pe_K_wR, pe_R_nej, pe_R_ner, pe_R_wI]; done)
    | (simp (disch := omega) only [pe_all, pe_wi w0, pe_wi (x := 3) ⟨by decide, by decide⟩, ll_e0 hL, ll_k3 hL, ll_k4 hL, pe_K_wI, pe_K_wR, pe_R_nej, pe_R_ner, pe_R_wI]; (repeat' apply And.intro) <;> first | assumption | omega | decide)
  · try simp (disch := omega) only [pe_wi w0, pe_wi (x := 3) ⟨by decide, by decide⟩, ll_e0 hL, ll_k3 hL, ll_k4 hL, pe_K_wI, pe_K_wR, pe_R_nej, pe_R_ner, pe_R_wI]
    have hrc : pe_K σ 4 = 8 := by first | assumption | (simp (disch := omega) only [pe_wi w0, pe_wi (x := 3) ⟨by decide, by decide⟩, ll_e0 hL, ll_k3 hL, ll_k4 hL, pe_K_wI, pe_K_wR, pe_R_nej, pe_R_ner, pe_R_wI]; done) | (simp (disch := omega) only [pe_wi w0, pe_wi (x := 3) ⟨by decide, by decide⟩, ll_e0 hL, ll_k3 hL, ll_k4 hL, pe_K_wI, pe_K_wR, pe_R_nej, pe_R_ner, pe_R_wI]; assumption)
    exact pe_cal 261 ck171 rfl rfl rfl ⟨hrc, by decide⟩ k
set_option maxRecDepth 8000 in
theorem b171_520 {d : Nat} {Φ : Option pe_V → pe_H → Prop} {σ : pe_H} {x1 : Int} {x2 : Int} {o3 : Option pe_V} {o4 : Option pe_V} {o5 : Option pe_V} {s0 : Int} (hL : ll_L σ := by assumption) (w0 : pe_in x2 := by unfold pe_in; omega) (w1 : pe_in (pe_L σ (pe_R σ 892 x2)) := by unfold pe_in; omega) (w2 : pe_in s0 := by unfold pe_in; omega) (h0 : 0 ≤ x2 := by first | assumption | omega) (h1 : x2 < 6 := by first | assumption | omega) (h2 : pe_K σ (pe_R σ 892 x2) = 10 ∨ (22 ≤ pe_K σ (pe_R σ 892 x2) ∧ pe_K σ (pe_R σ 892 x2) < 26) := by first | assumption | omega) (k1 : s0 = (pe_L σ (pe_R σ 892 x2)) → pe_X d 171 (532, [some (.inr (.inr 3)), some (.inl x1), some (.inl x2), o3, o4, o5], [], σ) Φ) (k2 : ¬ (s0 = (pe_L σ (pe_R σ 892 x2))) → pe_X d 171 (530, [some (.inr (.inr 3)), some (.inl x1), some (.inl x2), o3, o4, o5], [], σ) Φ) : pe_X d 171 (520, [some (.inr (.inr 3)), some (.inl x1), some (.inl x2), o3, o4, o5], [.inl s0], σ) Φ := by
  refine pe_blk 262 6 ck171 [pe_K σ 3 = 21, 22 ≤ pe_K σ (pe_R σ 3 7) ∧ pe_K σ (pe_R σ 3 7) < 25, 0 ≤ (pe_w x2), (pe_w x2) < pe_L σ (pe_R σ 3 7), pe_K σ (pe_R σ (pe_R σ 3 7) (pe_w x2)) = 10 ∨ (22 ≤ pe_K σ (pe_R σ (pe_R σ 3 7) (pe_w x2)) ∧ pe_K σ (pe_R σ (pe_R σ 3 7) (pe_w x2)) < 26)] (cond (decide ((pe_w s0) = (pe_w (pe_L σ (pe_R σ (pe_R σ 3 7) (pe_w x2)))))) 532 530, [some (.inr (.inr 3)), some (.inl x1), some (.inl x2), o3, o4, o5], [], σ) rfl ?_ ?_
  · first
    | (simp (disch := omega) only [pe_all, pe_wi w0, pe_wi w1, pe_wi w2, ll_e7 hL, ll_k3 hL, ll_k892 hL, ll_n892 hL, pe_K_wI, pe_K_wR, pe_L_wI, pe_L_wR, pe_R_nej, pe_R_ner, pe_R_wI]; done)
    | (simp (disch := omega) only [pe_all, pe_wi w0, pe_wi w1, pe_wi w2, ll_e7 hL, ll_k3 hL, ll_k892 hL, ll_n892 hL, pe_K_wI, pe_K_wR, pe_L_wI, pe_L_wR, pe_R_nej, pe_R_ner, pe_R_wI]; (repeat' apply And.intro) <;> first | assumption | omega | decide)
  · try simp (disch := omega) only [pe_wi w0, pe_wi w1, pe_wi w2, ll_e7 hL, ll_k3 hL, ll_k892 hL, ll_n892 hL, pe_K_wI, pe_K_wR, pe_L_wI, pe_L_wR, pe_R_nej, pe_R_ner, pe_R_wI]
    exact pe_two k1 k2
set_option maxRecDepth 8000 in
theorem b171_530 {d : Nat} {Φ : Option pe_V → pe_H → Prop} {σ : pe_H} {o1 : Option pe_V} {o2 : Option pe_V} {o3 : Option pe_V} {o4 : Option pe_V} {o5 : Option pe_V} (hL : ll_L σ := by assumption)   (k : Φ (some (.inl 0)) σ) : pe_X d 171 (530, [some (.inr (.inr 3)), o1, o2, o3, o4, o5], [], σ) Φ := by
  refine pe_blk 268 1 ck171 [] (531, [some (.inr (.inr 3)), o1, o2, o3, o4, o5], [.inl 0], σ) rfl ?_ ?_
  · exact trivial
  · exact pe_fine 269 ck171 rfl rfl rfl (Or.inl rfl) k
set_option maxRecDepth 8000 in
theorem b171_532 {d : Nat} {Φ : Option pe_V → pe_H → Prop} {σ : pe_H} {x1 : Int} {x2 : Int} {o3 : Option pe_V} {o4 : Option pe_V} {o5 : Option pe_V} (hL : ll_L σ := by assumption)   (k : pe_X d 171 (534, [some (.inr (.inr 3)), some (.inl x1), some (.inl x2), some (.inl 0), o4, o5], [], σ) Φ) : pe_X d 171 (532, [some (.inr (.inr 3)), some (.inl x1), some (.inl x2), o3, o4, o5], [], σ) Φ := by
  refine pe_blk 270 2 ck171 [] (534, [some (.inr (.inr 3)), some (.inl x1), some (.inl x2), some (.inl 0), o4, o5], [], σ) rfl ?_ ?_
  · exact trivial
  · exact k
set_option maxRecDepth 8000 in
theorem b171_534 {d : Nat} {Φ : Option pe_V → pe_H → Prop} {σ : pe_H} {x1 : Int} {x2 : Int} {x3 : Int} {o4 : Option pe_V} {o5 : Option pe_V} (hL : ll_L σ := by assumption) (w0 : pe_in x2 := by unfold pe_in; omega) (w1 : pe_in (pe_L σ (pe_R σ 892 x2)) := by unfold pe_in; omega) (w2 : pe_in x3 := by unfold pe_in; omega) (h0 : 0 ≤ x2 := by first | assumption | omega) (h1 : x2 < 6 := by first | assumption | omega) (h2 : pe_K σ (pe_R σ 892 x2) = 10 ∨ (22 ≤ pe_K σ (pe_R σ 892 x2) ∧ pe_K σ (pe_R σ 892 x2) < 26) := by first | assumption | omega) (k1 : (pe_L σ (pe_R σ 892 x2)) ≤ x3 → pe_X d 171 (578, [some (.inr (.inr 3)), some (.inl x1), some (.inl x2), some (.inl x3), o4, o5], [], σ) Φ) (k2 : ¬ ((pe_L σ (pe_R σ 892 x2)) ≤ x3) → pe_X d 171 (545, [some (.inr (.inr 3)), some (.inl x1), some (.inl x2), some (.inl x3), o4, o5], [], σ) Φ) : pe_X d 171 (534, [some (.inr (.inr 3)), some (.inl x1), some (.inl x2), some (.inl x3), o4, o5], [], σ) Φ := by
  refine pe_blk 272 7 ck171 [pe_K σ 3 = 21, 22 ≤ pe_K σ (pe_R σ 3 7) ∧ pe_K σ (pe_R σ 3 7) < 25, 0 ≤ (pe_w x2), (pe_w x2) < pe_L σ (pe_R σ 3 7), pe_K σ (pe_R σ (pe_R σ 3 7) (pe_w x2)) = 10 ∨ (22 ≤ pe_K σ (pe_R σ (pe_R σ 3 7) (pe_w x2)) ∧ pe_K σ (pe_R σ (pe_R σ 3 7) (pe_w x2)) < 26)] (cond (decide ((pe_w (pe_L σ (pe_R σ (pe_R σ 3 7) (pe_w x2)))) ≤ (pe_w x3))) 578 545, [some (.inr (.inr 3)), some (.inl x1), some (.inl x2), some (.inl x3), o4, o5], [], σ) rfl ?_ ?_
  · first
    | (simp (disch := omega) only [pe_all, pe_wi w0, pe_wi w1, pe_wi w2, ll_e7 hL, ll_k3 hL, ll_k892 hL, ll_n892 hL, pe_K_wI, pe_K_wR, pe_L_wI, pe_L_wR, pe_R_nej, pe_R_ner, pe_R_wI]; done)
    | (simp (disch := omega) only [pe_all, pe_wi w0, pe_wi w1, pe_wi w2, ll_e7 hL, ll_k3 hL, ll_k892 hL, ll_n892 hL, pe_K_wI, pe_K_wR, pe_L_wI, pe_L_wR, pe_R_nej, pe_R_ner, pe_R_wI]; (repeat' apply And.intro) <;> first | assumption | omega | decide)
  · try simp (disch := omega) only [pe_wi w0, pe_wi w1, pe_wi w2, ll_e7 hL, ll_k3 hL, ll_k892 hL, ll_n892 hL, pe_K_wI, pe_K_wR, pe_L_wI, pe_L_wR, pe_R_nej, pe_R_ner, pe_R_wI]
    exact pe_two k1 k2
set_option maxRecDepth 8000 in
theorem b171_545 {d : Nat} {Φ : Option pe_V → pe_H → Prop} {σ : pe_H} {x1 : Int} {x2 : Int} {x3 : Int} {o4 : Option pe_V} {o5 : Option pe_V} (hL : ll_L σ := by assumption) (w0 : pe_in x2 := by unfold pe_in; omega) (h0 : ¬ 3 = 0 := by first | assumption | omega) (k : pe_M d 86 [.inr (.inr 4), .inl (Int.tmod x2 3), .inl x3, .inl (Int.tdiv x2 3)] σ (fun r σ' => pe_X d 171 (559, [some (.inr (.inr 3)), some (.inl x1), some (.inl x2), some (.inl x3), o4, o5], r.toList ++ [], σ') Φ)) : pe_X d 171 (545, [some (.inr (.inr 3)), some (.inl x1), some (.inl x2), some (.inl x3), o4, o5], [], σ) Φ := by
  refine pe_blk 279 9 ck171 [pe_K σ 3 = 21, ¬ (pe_w 3) = 0, ¬ (pe_w 3) = 0] (556, [some (.inr (.inr 3)), some (.inl x1), some (.inl x2), some (.inl x3), o4, o5], [.inl (Int.tdiv (pe_w x2) (pe_w 3)), .inl x3, .inl (Int.tmod (pe_w x2) (pe_w 3)), .inr (.inr (pe_R σ 3 0))], σ) rfl ?_ ?_
  · first
    | (simp (disch := omega) only [pe_all, pe_wi w0, pe_wi (x := 3) ⟨by decide, by decide⟩, ll_e0 hL, ll_k3 hL, ll_k4 hL, pe_K_wI, pe_K_wR, pe_R_nej, pe_R_ner, pe_R_wI]; done)
    | (simp (disch := omega) only [pe_all, pe_wi w0, pe_wi (x := 3) ⟨by decide, by decide⟩, ll_e0 hL, ll_k3 hL, ll_k4 hL, pe_K_wI, pe_K_wR, pe_R_nej, pe_R_ner, pe_R_wI]; (repeat' apply And.intro) <;> first | assumption | omega | decide)
  · try simp (disch := omega) only [pe_wi w0, pe_wi (x := 3) ⟨by decide, by decide⟩, ll_e0 hL, ll_k3 hL, ll_k4 hL, pe_K_wI, pe_K_wR, pe_R_nej, pe_R_ner, pe_R_wI]
    have hrc : pe_K σ 4 = 8 := by first | assumption | (simp (disch := omega) only [pe_wi w0, pe_wi (x := 3) ⟨by decide, by decide⟩, ll_e0 hL, ll_k3 hL, ll_k4 hL, pe_K_wI, pe_K_wR, pe_R_nej, pe_R_ner, pe_R_wI]; done) | (simp (disch := omega) only [pe_wi w0, pe_wi (x := 3) ⟨by decide, by decide⟩, ll_e0 hL, ll_k3 hL, ll_k4 hL, pe_K_wI, pe_K_wR, pe_R_nej, pe_R_ner, pe_R_wI]; assumption)
    exact pe_cal 288 ck171 rfl rfl rfl ⟨hrc, by decide⟩ k
set_option maxRecDepth 8000 in
theorem b171_559 {d : Nat} {Φ : Option pe_V → pe_H → Prop} {σ : pe_H} {x1 : Int} {x2 : Int} {x3 : Int} {o4 : Option pe_V} {o5 : Option pe_V} {s0 : Int} (hL : ll_L σ := by assumption) (w0 : pe_in x2 := by unfold pe_in; omega) (w1 : pe_in x3 := by unfold pe_in; omega) (w2 : pe_in (pe_I σ (pe_R σ 892 x2) x3) := by unfold pe_in; omega) (w3 : pe_in s0 := by unfold pe_in; omega) (h0 : 0 ≤ x2 := by first | assumption | omega) (h1 : x2 < 6 := by first | assumption | omega) (h2 : pe_K σ (pe_R σ 892 x2) = 10 ∨ pe_K σ (pe_R σ 892 x2) = 25 := by first | assumption | omega) (h3 : 0 ≤ x3 := by first | assumption | omega) (h4 : x3 < pe_L σ (pe_R σ 892 x2) := by first | assumption | omega) (k1 : s0 = (pe_I σ (pe_R σ 892 x2) x3) → pe_X d 171 (572, [some (.inr (.inr 3)), some (.inl x1), some (.inl x2), some (.inl x3), o4, o5], [], σ) Φ) (k2 : ¬ (s0 = (pe_I σ (pe_R σ 892 x2) x3)) → pe_X d 171 (570, [some (.inr (.inr 3)), some (.inl x1), some (.inl x2), some (.inl x3), o4, o5], [], σ) Φ) : pe_X d 171 (559, [some (.inr (.inr 3)), some (.inl x1), some (.inl x2), some (.inl x3), o4, o5], [.inl s0], σ) Φ := by
  refine pe_blk 289 7 ck171 [pe_K σ 3 = 21, 22 ≤ pe_K σ (pe_R σ 3 7) ∧ pe_K σ (pe_R σ 3 7) < 25, 0 ≤ (pe_w x2), (pe_w x2) < pe_L σ (pe_R σ 3 7), pe_K σ (pe_R σ (pe_R σ 3 7) (pe_w x2)) = 10 ∨ pe_K σ (pe_R σ (pe_R σ 3 7) (pe_w x2)) = 25, 0 ≤ (pe_w x3), (pe_w x3) < pe_L σ (pe_R σ (pe_R σ 3 7) (pe_w x2))] (cond (decide ((pe_w s0) = (pe_w (pe_I σ (pe_R σ (pe_R σ 3 7) (pe_w x2)) (pe_w x3))))) 572 570, [some (.inr (.inr 3)), some (.inl x1), some (.inl x2), some (.inl x3), o4, o5], [], σ) rfl ?_ ?_
  · first
    | (simp (disch := omega) only [pe_all, pe_wi w0, pe_wi w1, pe_wi w2, pe_wi w3, ll_e7 hL, ll_k3 hL, ll_k892 hL, ll_n892 hL, pe_K_wI, pe_K_wR, pe_L_wI, pe_L_wR, pe_R_nej, pe_R_ner, pe_R_wI]; done)
    | (simp (disch := omega) only [pe_all, pe_wi w0, pe_wi w1, pe_wi w2, pe_wi w3, ll_e7 hL, ll_k3 hL, ll_k892 hL, ll_n892 hL, pe_K_wI, pe_K_wR, pe_L_wI, pe_L_wR, pe_R_nej, pe_R_ner, pe_R_wI]; (repeat' apply And.intro) <;> first | assumption | omega | decide)
  · try simp (disch := omega) only [pe_wi w0, pe_wi w1, pe_wi w2, pe_wi w3, ll_e7 hL, ll_k3 hL, ll_k892 hL, ll_n892 hL, pe_K_wI, pe_K_wR, pe_L_wI, pe_L_wR, pe_R_nej, pe_R_ner, pe_R_wI]
    exact pe_two k1 k2
set_option maxRecDepth 8000 in
theorem b171_570 {d : Nat} {Φ : Option pe_V → pe_H → Prop} {σ : pe_H} {o1 : Option pe_V} {o2 : Option pe_V} {o3 : Option pe_V} {o4 : Option pe_V} {o5 : Option pe_V} (hL : ll_L σ := by assumption)   (k : Φ (some (.inl 0)) σ) : pe_X d 171 (570, [some (.inr (.inr 3)), o1, o2, o3, o4, o5], [], σ) Φ := by
  refine pe_blk 296 1 ck171 [] (571, [some (.inr (.inr 3)), o1, o2, o3, o4, o5], [.inl 0], σ) rfl ?_ ?_
  · exact trivial
  · exact pe_fine 297 ck171 rfl rfl rfl (Or.inl rfl) k
set_option maxRecDepth 8000 in
theorem b171_572 {d : Nat} {Φ : Option pe_V → pe_H → Prop} {σ : pe_H} {x1 : Int} {x2 : Int} {x3 : Int} {o4 : Option pe_V} {o5 : Option pe_V} (hL : ll_L σ := by assumption)   (k : pe_X d 171 (534, [some (.inr (.inr 3)), some (.inl x1), some (.inl x2), some (.inl (x3 + 1)), o4, o5], [], σ) Φ) : pe_X d 171 (572, [some (.inr (.inr 3)), some (.inl x1), some (.inl x2), some (.inl x3), o4, o5], [], σ) Φ := by
  refine pe_blk 298 2 ck171 [] (534, [some (.inr (.inr 3)), some (.inl x1), some (.inl x2), some (.inl (x3 + 1)), o4, o5], [], σ) rfl ?_ ?_
  · exact trivial
  · exact k
set_option maxRecDepth 8000 in
theorem b171_578 {d : Nat} {Φ : Option pe_V → pe_H → Prop} {σ : pe_H} {x1 : Int} {x2 : Int} {o3 : Option pe_V} {o4 : Option pe_V} {o5 : Option pe_V} (hL : ll_L σ := by assumption)   (k : pe_X d 171 (500, [some (.inr (.inr 3)), some (.inl x1), some (.inl (x2 + 1)), o3, o4, o5], [], σ) Φ) : pe_X d 171 (578, [some (.inr (.inr 3)), some (.inl x1), some (.inl x2), o3, o4, o5], [], σ) Φ := by
  refine pe_blk 300 2 ck171 [] (500, [some (.inr (.inr 3)), some (.inl x1), some (.inl (x2 + 1)), o3, o4, o5], [], σ) rfl ?_ ?_
  · exact trivial
  · exact k
set_option maxRecDepth 8000 in
theorem b171_584 {d : Nat} {Φ : Option pe_V → pe_H → Prop} {σ : pe_H} {x1 : Int} {o2 : Option pe_V} {o3 : Option pe_V} {o4 : Option pe_V} {o5 : Option pe_V} (hL : ll_L σ := by assumption)   (k : pe_X d 171 (586, [some (.inr (.inr 3)), some (.inl x1), some (.inl 0), o3, o4, o5], [], σ) Φ) : pe_X d 171 (584, [some (.inr (.inr 3)), some (.inl x1), o2, o3, o4, o5], [], σ) Φ := by
  refine pe_blk 302 2 ck171 [] (586, [some (.inr (.inr 3)), some (.inl x1), some (.inl 0), o3, o4, o5], [], σ) rfl ?_ ?_
  · exact trivial
  · exact k
set_option maxRecDepth 8000 in
theorem b171_586 {d : Nat} {Φ : Option pe_V → pe_H → Prop} {σ : pe_H} {x1 : Int} {x2 : Int} {o3 : Option pe_V} {o4 : Option pe_V} {o5 : Option pe_V} (hL : ll_L σ := by assumption) (w0 : pe_in (pe_I σ 3 3) := by unfold pe_in; omega) (w1 : pe_in x2 := by unfold pe_in; omega)  (k1 : (pe_I σ 3 3) ≤ x2 → pe_X d 171 (637, [some (.inr (.inr 3)), some (.inl x1), some (.inl x2), o3, o4, o5], [], σ) Φ) (k2 : ¬ ((pe_I σ 3 3) ≤ x2) → pe_X d 171 (594, [some (.inr (.inr 3)), some (.inl x1), some (.inl x2), o3, o4, o5], [], σ) Φ) : pe_X d 171 (586, [some (.inr (.inr 3)), some (.inl x1), some (.inl x2), o3, o4, o5], [], σ) Φ := by
  refine pe_blk 304 4 ck171 [pe_K σ 3 = 21] (cond (decide ((pe_w (pe_I σ 3 3)) ≤ (pe_w x2))) 637 594, [some (.inr (.inr 3)), some (.inl x1), some (.inl x2), o3, o4, o5], [], σ) rfl ?_ ?_
  · first
    | (simp (disch := omega) only [pe_all, pe_wi w0, pe_wi w1, ll_k3 hL, pe_K_wI, pe_K_wR]; done)
    | (simp (disch := omega) only [pe_all, pe_wi w0, pe_wi w1, ll_k3 hL, pe_K_wI, pe_K_wR]; (repeat' apply And.intro) <;> first | assumption | omega | decide)
  · try simp (disch := omega) only [pe_wi w0, pe_wi w1, ll_k3 hL, pe_K_wI, pe_K_wR]
    exact pe_two k1 k2
set_option maxRecDepth 8000 in
theorem b171_594 {d : Nat} {Φ : Option pe_V → pe_H → Prop} {σ : pe_H} {x1 : Int} {x2 : Int} {o3 : Option pe_V} {o4 : Option pe_V} {o5 : Option pe_V} (hL : ll_L σ := by assumption) (w0 : pe_in x2 := by unfold pe_in; omega) (w1 : pe_in (pe_I σ (pe_R σ 891 x2) 3) := by unfold pe_in; omega) (h0 : 0 ≤ x2 := by first | assumption | omega) (h1 : x2 < 8 := by first | assumption | omega) (h2 : pe_K σ (pe_R σ 891 x2) = 20 := by first | assumption | omega) (k1 : (pe_I σ (pe_R σ 891 x2) 3) ≤ 2 → pe_X d 171 (628, [some (.inr (.inr 3)), some (.inl x1), some (.inl x2), o3, o4, o5], [.inl x1], σ) Φ) (k2 : ¬ ((pe_I σ (pe_R σ 891 x2) 3) ≤ 2) → pe_X d 171 (608, [some (.inr (.inr 3)), some (.inl x1), some (.inl x2), o3, o4, o5], [.inl x1], σ) Φ) : pe_X d 171 (594, [some (.inr (.inr 3)), some (.inl x1), some (.inl x2), o3, o4, o5], [], σ) Φ := by
  refine pe_blk 308 8 ck171 [pe_K σ 3 = 21, 22 ≤ pe_K σ (pe_R σ 3 6) ∧ pe_K σ (pe_R σ 3 6) < 25, 0 ≤ (pe_w x2), (pe_w x2) < pe_L σ (pe_R σ 3 6), pe_K σ (pe_R σ (pe_R σ 3 6) (pe_w x2)) = 20] (cond (decide ((pe_w (pe_I σ (pe_R σ (pe_R σ 3 6) (pe_w x2)) 3)) ≤ (pe_w 2))) 628 608, [some (.inr (.inr 3)), some (.inl x1), some (.inl x2), o3, o4, o5], [.inl x1], σ) rfl ?_ ?_
  · first
    | (simp (disch := omega) only [pe_all, pe_wi w0, pe_wi w1, pe_wi (x := 2) ⟨by decide, by decide⟩, ll_e6 hL, ll_k3 hL, ll_k891 hL, ll_n891 hL, pe_K_wI, pe_K_wR, pe_L_wI, pe_L_wR, pe_R_nej, pe_R_ner, pe_R_wI]; done)
    | (simp (disch := omega) only [pe_all, pe_wi w0, pe_wi w1, pe_wi (x := 2) ⟨by decide, by decide⟩, ll_e6 hL, ll_k3 hL, ll_k891 hL, ll_n891 hL, pe_K_wI, pe_K_wR, pe_L_wI, pe_L_wR, pe_R_nej, pe_R_ner, pe_R_wI]; (repeat' apply And.intro) <;> first | assumption | omega | decide)
  · try simp (disch := omega) only [pe_wi w0, pe_wi w1, pe_wi (x := 2) ⟨by decide, by decide⟩, ll_e6 hL, ll_k3 hL, ll_k891 hL, ll_n891 hL, pe_K_wI, pe_K_wR, pe_L_wI, pe_L_wR, pe_R_nej, pe_R_ner, pe_R_wI]
    exact pe_two k1 k2
set_option maxRecDepth 8000 in
theorem b171_608 {d : Nat} {Φ : Option pe_V → pe_H → Prop} {σ : pe_H} {o1 : Option pe_V} {x2 : Int} {o3 : Option pe_V} {o4 : Option pe_V} {o5 : Option pe_V} {s0 : Int} (hL : ll_L σ := by assumption) (w0 : pe_in x2 := by unfold pe_in; omega) (w1 : pe_in (pe_I σ (pe_R σ 891 x2) 3) := by unfold pe_in; omega) (h0 : 0 ≤ x2 := by first | assumption | omega) (h1 : x2 < 8 := by first | assumption | omega) (h2 : pe_K σ (pe_R σ 891 x2) = 20 := by first | assumption | omega) (k1 : 6 ≤ (pe_I σ (pe_R σ 891 x2) 3) → pe_X d 171 (628, [some (.inr (.inr 3)), o1, some (.inl x2), o3, o4, o5], [.inl s0], σ) Φ) (k2 : ¬ (6 ≤ (pe_I σ (pe_R σ 891 x2) 3)) → pe_X d 171 (622, [some (.inr (.inr 3)), o1, some (.inl x2), o3, o4, o5], [.inl s0], σ) Φ) : pe_X d 171 (608, [some (.inr (.inr 3)), o1, some (.inl x2), o3, o4, o5], [.inl s0], σ) Φ := by
  refine pe_blk 316 7 ck171 [pe_K σ 3 = 21, 22 ≤ pe_K σ (pe_R σ 3 6) ∧ pe_K σ (pe_R σ 3 6) < 25, 0 ≤ (pe_w x2), (pe_w x2) < pe_L σ (pe_R σ 3 6), pe_K σ (pe_R σ (pe_R σ 3 6) (pe_w x2)) = 20] (cond (decide ((pe_w 6) ≤ (pe_w (pe_I σ (pe_R σ (pe_R σ 3 6) (pe_w x2)) 3)))) 628 622, [some (.inr (.inr 3)), o1, some (.inl x2), o3, o4, o5], [.inl s0], σ) rfl ?_ ?_
  · first
    | (simp (disch := omega) only [pe_all, pe_wi w0, pe_wi w1, pe_wi (x := 6) ⟨by decide, by decide⟩, ll_e6 hL, ll_k3 hL, ll_k891 hL, ll_n891 hL, pe_K_wI, pe_K_wR, pe_L_wI, pe_L_wR, pe_R_nej, pe_R_ner, pe_R_wI]; done)
    | (simp (disch := omega) only [pe_all, pe_wi w0, pe_wi w1, pe_wi (x := 6) ⟨by decide, by decide⟩, ll_e6 hL, ll_k3 hL, ll_k891 hL, ll_n891 hL, pe_K_wI, pe_K_wR, pe_L_wI, pe_L_wR, pe_R_nej, pe_R_ner, pe_R_wI]; (repeat' apply And.intro) <;> first | assumption | omega | decide)
  · try simp (disch := omega) only [pe_wi w0, pe_wi w1, pe_wi (x := 6) ⟨by decide, by decide⟩, ll_e6 hL, ll_k3 hL, ll_k891 hL, ll_n891 hL, pe_K_wI, pe_K_wR, pe_L_wI, pe_L_wR, pe_R_nej, pe_R_ner, pe_R_wI]
    exact pe_two k1 k2
set_option maxRecDepth 8000 in
theorem b171_622 {d : Nat} {Φ : Option pe_V → pe_H → Prop} {σ : pe_H} {o1 : Option pe_V} {x2 : Int} {o3 : Option pe_V} {o4 : Option pe_V} {o5 : Option pe_V} {s0 : Int} (hL : ll_L σ := by assumption)   (k : pe_X d 171 (629, [some (.inr (.inr 3)), o1, some (.inl x2), o3, o4, o5], [.inl (pe_shl 1 x2), .inl s0], σ) Φ) : pe_X d 171 (622, [some (.inr (.inr 3)), o1, some (.inl x2), o3, o4, o5], [.inl s0], σ) Φ := by
  refine pe_blk 323 4 ck171 [] (629, [some (.inr (.inr 3)), o1, some (.inl x2), o3, o4, o5], [.inl (pe_shl 1 x2), .inl s0], σ) rfl ?_ ?_
  · exact trivial
  · exact k
set_option maxRecDepth 8000 in
theorem b171_628 {d : Nat} {Φ : Option pe_V → pe_H → Prop} {σ : pe_H} {o1 : Option pe_V} {x2 : Int} {o3 : Option pe_V} {o4 : Option pe_V} {o5 : Option pe_V} {s0 : Int} (hL : ll_L σ := by assumption)   (k : pe_X d 171 (629, [some (.inr (.inr 3)), o1, some (.inl x2), o3, o4, o5], [.inl 0, .inl s0], σ) Φ) : pe_X d 171 (628, [some (.inr (.inr 3)), o1, some (.inl x2), o3, o4, o5], [.inl s0], σ) Φ := by
  refine pe_blk 327 1 ck171 [] (629, [some (.inr (.inr 3)), o1, some (.inl x2), o3, o4, o5], [.inl 0, .inl s0], σ) rfl ?_ ?_
  · exact trivial
  · exact k
set_option maxRecDepth 8000 in
theorem b171_629 {d : Nat} {Φ : Option pe_V → pe_H → Prop} {σ : pe_H} {o1 : Option pe_V} {x2 : Int} {o3 : Option pe_V} {o4 : Option pe_V} {o5 : Option pe_V} {s0 : Int} {s1 : Int} (hL : ll_L σ := by assumption)   (k : pe_X d 171 (586, [some (.inr (.inr 3)), some (.inl (pe_or s0 s1)), some (.inl (x2 + 1)), o3, o4, o5], [], σ) Φ) : pe_X d 171 (629, [some (.inr (.inr 3)), o1, some (.inl x2), o3, o4, o5], [.inl s1, .inl s0], σ) Φ := by
  refine pe_blk 328 4 ck171 [] (586, [some (.inr (.inr 3)), some (.inl (pe_or s0 s1)), some (.inl (x2 + 1)), o3, o4, o5], [], σ) rfl ?_ ?_
  · exact trivial
  · exact k
set_option maxRecDepth 8000 in
theorem b171_637 {d : Nat} {Φ : Option pe_V → pe_H → Prop} {σ : pe_H} {x1 : Int} {o2 : Option pe_V} {o3 : Option pe_V} {o4 : Option pe_V} {o5 : Option pe_V} (hL : ll_L σ := by assumption)   (k : pe_M d 108 [.inr (.inr 4), .inl 0] σ (fun r σ' => pe_X d 171 (645, [some (.inr (.inr 3)), some (.inl x1), o2, o3, o4, o5], r.toList ++ [], σ') Φ)) : pe_X d 171 (637, [some (.inr (.inr 3)), some (.inl x1), o2, o3, o4, o5], [], σ) Φ := by
  refine pe_blk 332 3 ck171 [pe_K σ 3 = 21] (642, [some (.inr (.inr 3)), some (.inl x1), o2, o3, o4, o5], [.inl 0, .inr (.inr (pe_R σ 3 0))], σ) rfl ?_ ?_
  · first
    | (simp (disch := omega) only [pe_all, ll_e0 hL, ll_k3 hL, ll_k4 hL, pe_K_wI, pe_K_wR, pe_R_nej, pe_R_ner, pe_R_wI]; done)
    | (simp (disch := omega) only [pe_all, ll_e0 hL, ll_k3 hL, ll_k4 hL, pe_K_wI, pe_K_wR, pe_R_nej, pe_R_ner, pe_R_wI]; (repeat' apply And.intro) <;> first | assumption | omega | decide)
  · try simp (disch := omega) only [ll_e0 hL, ll_k3 hL, ll_k4 hL, pe_K_wI, pe_K_wR, pe_R_nej, pe_R_ner, pe_R_wI]
    have hrc : pe_K σ 4 = 8 := by first | assumption | (simp (disch := omega) only [ll_e0 hL, ll_k3 hL, ll_k4 hL, pe_K_wI, pe_K_wR, pe_R_nej, pe_R_ner, pe_R_wI]; done) | (simp (disch := omega) only [ll_e0 hL, ll_k3 hL, ll_k4 hL, pe_K_wI, pe_K_wR, pe_R_nej, pe_R_ner, pe_R_wI]; assumption)
    exact pe_cal 335 ck171 rfl rfl rfl ⟨hrc, by decide⟩ k
set_option maxRecDepth 8000 in
theorem b171_645 {d : Nat} {Φ : Option pe_V → pe_H → Prop} {σ : pe_H} {x1 : Int} {o2 : Option pe_V} {o3 : Option pe_V} {o4 : Option pe_V} {o5 : Option pe_V} {s0 : Int} (hL : ll_L σ := by assumption) (w0 : pe_in (pe_I σ 3 3) := by unfold pe_in; omega) (w1 : pe_in s0 := by unfold pe_in; omega)  (k1 : ¬ s0 = (pe_I σ 3 3) → pe_X d 171 (728, [some (.inr (.inr 3)), some (.inl x1), o2, o3, o4, o5], [], σ) Φ) (k2 : s0 = (pe_I σ 3 3) → pe_X d 171 (652, [some (.inr (.inr 3)), some (.inl x1), o2, o3, o4, o5], [], σ) Φ) : pe_X d 171 (645, [some (.inr (.inr 3)), some (.inl x1), o2, o3, o4, o5], [.inl s0], σ) Φ := by
  refine pe_blk 336 3 ck171 [pe_K σ 3 = 21] (cond (decide (¬ (pe_w s0) = (pe_w (pe_I σ 3 3)))) 728 652, [some (.inr (.inr 3)), some (.inl x1), o2, o3, o4, o5], [], σ) rfl ?_ ?_
  · first
    | (simp (disch := omega) only [pe_all, pe_wi w0, pe_wi w1, ll_k3 hL, pe_K_wI, pe_K_wR]; done)
    | (simp (disch := omega) only [pe_all, pe_wi w0, pe_wi w1, ll_k3 hL, pe_K_wI, pe_K_wR]; (repeat' apply And.intro) <;> first | assumption | omega | decide)
  · try simp (disch := omega) only [pe_wi w0, pe_wi w1, ll_k3 hL, pe_K_wI, pe_K_wR]
    exact pe_two' k1 k2
set_option maxRecDepth 8000 in
theorem b171_652 {d : Nat} {Φ : Option pe_V → pe_H → Prop} {σ : pe_H} {x1 : Int} {o2 : Option pe_V} {o3 : Option pe_V} {o4 : Option pe_V} {o5 : Option pe_V} (hL : ll_L σ := by assumption)   (k : pe_M d 108 [.inr (.inr 4), .inl 1] σ (fun r σ' => pe_X d 171 (660, [some (.inr (.inr 3)), some (.inl x1), o2, o3, o4, o5], r.toList ++ [], σ') Φ)) : pe_X d 171 (652, [some (.inr (.inr 3)), some (.inl x1), o2, o3, o4, o5], [], σ) Φ := by
  refine pe_blk 339 3 ck171 [pe_K σ 3 = 21] (657, [some (.inr (.inr 3)), some (.inl x1), o2, o3, o4, o5], [.inl 1, .inr (.inr (pe_R σ 3 0))], σ) rfl ?_ ?_
  · first
    | (simp (disch := omega) only [pe_all, ll_e0 hL, ll_k3 hL, ll_k4 hL, pe_K_wI, pe_K_wR, pe_R_nej, pe_R_ner, pe_R_wI]; done)
    | (simp (disch := omega) only [pe_all, ll_e0 hL, ll_k3 hL, ll_k4 hL, pe_K_wI, pe_K_wR, pe_R_nej, pe_R_ner, pe_R_wI]; (repeat' apply And.intro) <;> first | assumption | omega | decide)
  · try simp (disch := omega) only [ll_e0 hL, ll_k3 hL, ll_k4 hL, pe_K_wI, pe_K_wR, pe_R_nej, pe_R_ner, pe_R_wI]
    have hrc : pe_K σ 4 = 8 := by first | assumption | (simp (disch := omega) only [ll_e0 hL, ll_k3 hL, ll_k4 hL, pe_K_wI, pe_K_wR, pe_R_nej, pe_R_ner, pe_R_wI]; done) | (simp (disch := omega) only [ll_e0 hL, ll_k3 hL, ll_k4 hL, pe_K_wI, pe_K_wR, pe_R_nej, pe_R_ner, pe_R_wI]; assumption)
    exact pe_cal 342 ck171 rfl rfl rfl ⟨hrc, by decide⟩ k
set_option maxRecDepth 8000 in
theorem b171_660 {d : Nat} {Φ : Option pe_V → pe_H → Prop} {σ : pe_H} {x1 : Int} {o2 : Option pe_V} {o3 : Option pe_V} {o4 : Option pe_V} {o5 : Option pe_V} {s0 : Int} (hL : ll_L σ := by assumption) (w0 : pe_in (pe_I σ 3 5) := by unfold pe_in; omega) (w1 : pe_in s0 := by unfold pe_in; omega)  (k1 : ¬ s0 = (pe_I σ 3 5) → pe_X d 171 (728, [some (.inr (.inr 3)), some (.inl x1), o2, o3, o4, o5], [], σ) Φ) (k2 : s0 = (pe_I σ 3 5) → pe_X d 171 (667, [some (.inr (.inr 3)), some (.inl x1), o2, o3, o4, o5], [], σ) Φ) : pe_X d 171 (660, [some (.inr (.inr 3)), some (.inl x1), o2, o3, o4, o5], [.inl s0], σ) Φ := by
  refine pe_blk 343 3 ck171 [pe_K σ 3 = 21] (cond (decide (¬ (pe_w s0) = (pe_w (pe_I σ 3 5)))) 728 667, [some (.inr (.inr 3)), some (.inl x1), o2, o3, o4, o5], [], σ) rfl ?_ ?_
  · first
    | (simp (disch := omega) only [pe_all, pe_wi w0, pe_wi w1, ll_k3 hL, pe_K_wI, pe_K_wR]; done)
    | (simp (disch := omega) only [pe_all, pe_wi w0, pe_wi w1, ll_k3 hL, pe_K_wI, pe_K_wR]; (repeat' apply And.intro) <;> first | assumption | omega | decide)
  · try simp (disch := omega) only [pe_wi w0, pe_wi w1, ll_k3 hL, pe_K_wI, pe_K_wR]
    exact pe_two' k1 k2
set_option maxRecDepth 8000 in
theorem b171_667 {d : Nat} {Φ : Option pe_V → pe_H → Prop} {σ : pe_H} {x1 : Int} {o2 : Option pe_V} {o3 : Option pe_V} {o4 : Option pe_V} {o5 : Option pe_V} (hL : ll_L σ := by assumption)   (k : pe_M d 108 [.inr (.inr 4), .inl 2] σ (fun r σ' => pe_X d 171 (675, [some (.inr (.inr 3)), some (.inl x1), o2, o3, o4, o5], r.toList ++ [], σ') Φ)) : pe_X d 171 (667, [some (.inr (.inr 3)), some (.inl x1), o2, o3, o4, o5], [], σ) Φ := by
  refine pe_blk 346 3 ck171 [pe_K σ 3 = 21] (672, [some (.inr (.inr 3)), some (.inl x1), o2, o3, o4, o5], [.inl 2, .inr (.inr (pe_R σ 3 0))], σ) rfl ?_ ?_
  · first
    | (simp (disch := omega) only [pe_all, ll_e0 hL, ll_k3 hL, ll_k4 hL, pe_K_wI, pe_K_wR, pe_R_nej, pe_R_ner, pe_R_wI]; done)
    | (simp (disch := omega) only [pe_all, ll_e0 hL, ll_k3 hL, ll_k4 hL, pe_K_wI, pe_K_wR, pe_R_nej, pe_R_ner, pe_R_wI]; (repeat' apply And.intro) <;> first | assumption | omega | decide)
  · try simp (disch := omega) only [ll_e0 hL, ll_k3 hL, ll_k4 hL, pe_K_wI, pe_K_wR, pe_R_nej, pe_R_ner, pe_R_wI]
    have hrc : pe_K σ 4 = 8 := by first | assumption | (simp (disch := omega) only [ll_e0 hL, ll_k3 hL, ll_k4 hL, pe_K_wI, pe_K_wR, pe_R_nej, pe_R_ner, pe_R_wI]; done) | (simp (disch := omega) only [ll_e0 hL, ll_k3 hL, ll_k4 hL, pe_K_wI, pe_K_wR, pe_R_nej, pe_R_ner, pe_R_wI]; assumption)
    exact pe_cal 349 ck171 rfl rfl rfl ⟨hrc, by decide⟩ k
set_option maxRecDepth 8000 in
theorem b171_675 {d : Nat} {Φ : Option pe_V → pe_H → Prop} {σ : pe_H} {x1 : Int} {o2 : Option pe_V} {o3 : Option pe_V} {o4 : Option pe_V} {o5 : Option pe_V} {s0 : Int} (hL : ll_L σ := by assumption) (w0 : pe_in (pe_I σ 3 4) := by unfold pe_in; omega) (w1 : pe_in s0 := by unfold pe_in; omega)  (k1 : ¬ s0 = (pe_I σ 3 4) → pe_X d 171 (728, [some (.inr (.inr 3)), some (.inl x1), o2, o3, o4, o5], [], σ) Φ) (k2 : s0 = (pe_I σ 3 4) → pe_X d 171 (682, [some (.inr (.inr 3)), some (.inl x1), o2, o3, o4, o5], [], σ) Φ) : pe_X d 171 (675, [some (.inr (.inr 3)), some (.inl x1), o2, o3, o4, o5], [.inl s0], σ) Φ := by
  refine pe_blk 350 3 ck171 [pe_K σ 3 = 21] (cond (decide (¬ (pe_w s0) = (pe_w (pe_I σ 3 4)))) 728 682, [some (.inr (.inr 3)), some (.inl x1), o2, o3, o4, o5], [], σ) rfl ?_ ?_
  · first
    | (simp (disch := omega) only [pe_all, pe_wi w0, pe_wi w1, ll_k3 hL, pe_K_wI, pe_K_wR]; done)
    | (simp (disch := omega) only [pe_all, pe_wi w0, pe_wi w1, ll_k3 hL, pe_K_wI, pe_K_wR]; (repeat' apply And.intro) <;> first | assumption | omega | decide)
  · try simp (disch := omega) only [pe_wi w0, pe_wi w1, ll_k3 hL, pe_K_wI, pe_K_wR]
    exact pe_two' k1 k2
set_option maxRecDepth 8000 in
theorem b171_682 {d : Nat} {Φ : Option pe_V → pe_H → Prop} {σ : pe_H} {x1 : Int} {o2 : Option pe_V} {o3 : Option pe_V} {o4 : Option pe_V} {o5 : Option pe_V} (hL : ll_L σ := by assumption)   (k : pe_M d 108 [.inr (.inr 4), .inl 3] σ (fun r σ' => pe_X d 171 (690, [some (.inr (.inr 3)), some (.inl x1), o2, o3, o4, o5], r.toList ++ [], σ') Φ)) : pe_X d 171 (682, [some (.inr (.inr 3)), some (.inl x1), o2, o3, o4, o5], [], σ) Φ := by
  refine pe_blk 353 3 ck171 [pe_K σ 3 = 21] (687, [some (.inr (.inr 3)), some (.inl x1), o2, o3, o4, o5], [.inl 3, .inr (.inr (pe_R σ 3 0))], σ) rfl ?_ ?_
  · first
    | (simp (disch := omega) only [pe_all, ll_e0 hL, ll_k3 hL, ll_k4 hL, pe_K_wI, pe_K_wR, pe_R_nej, pe_R_ner, pe_R_wI]; done)
    | (simp (disch := omega) only [pe_all, ll_e0 hL, ll_k3 hL, ll_k4 hL, pe_K_wI, pe_K_wR, pe_R_nej, pe_R_ner, pe_R_wI]; (repeat' apply And.intro) <;> first | assumption | omega | decide)
  · try simp (disch := omega) only [ll_e0 hL, ll_k3 hL, ll_k4 hL, pe_K_wI, pe_K_wR, pe_R_nej, pe_R_ner, pe_R_wI]
    have hrc : pe_K σ 4 = 8 := by first | assumption | (simp (disch := omega) only [ll_e0 hL, ll_k3 hL, ll_k4 hL, pe_K_wI, pe_K_wR, pe_R_nej, pe_R_ner, pe_R_wI]; done) | (simp (disch := omega) only [ll_e0 hL, ll_k3 hL, ll_k4 hL, pe_K_wI, pe_K_wR, pe_R_nej, pe_R_ner, pe_R_wI]; assumption)
    exact pe_cal 356 ck171 rfl rfl rfl ⟨hrc, by decide⟩ k
set_option maxRecDepth 8000 in
theorem b171_690 {d : Nat} {Φ : Option pe_V → pe_H → Prop} {σ : pe_H} {x1 : Int} {o2 : Option pe_V} {o3 : Option pe_V} {o4 : Option pe_V} {o5 : Option pe_V} {s0 : Int} (hL : ll_L σ := by assumption)   (k : pe_M d 164 [.inr (.inr 3)] σ (fun r σ' => pe_X d 171 (694, [some (.inr (.inr 3)), some (.inl x1), o2, o3, o4, o5], r.toList ++ [.inl s0], σ') Φ)) : pe_X d 171 (690, [some (.inr (.inr 3)), some (.inl x1), o2, o3, o4, o5], [.inl s0], σ) Φ := by
  refine pe_blk 357 1 ck171 [] (691, [some (.inr (.inr 3)), some (.inl x1), o2, o3, o4, o5], [.inr (.inr 3), .inl s0], σ) rfl ?_ ?_
  · exact trivial
  · try simp (disch := omega) only [ll_k3 hL, pe_K_wI, pe_K_wR]
    have hrc : pe_K σ 3 = 21 := by first | assumption | (simp (disch := omega) only [ll_k3 hL, pe_K_wI, pe_K_wR]; done) | (simp (disch := omega) only [ll_k3 hL, pe_K_wI, pe_K_wR]; assumption)
    exact pe_cal 358 ck171 rfl rfl rfl ⟨hrc, by decide⟩ k
set_option maxRecDepth 8000 in
theorem b171_694 {d : Nat} {Φ : Option pe_V → pe_H → Prop} {σ : pe_H} {x1 : Int} {o2 : Option pe_V} {o3 : Option pe_V} {o4 : Option pe_V} {o5 : Option pe_V} {s0 : Int} {s1 : Int} (hL : ll_L σ := by assumption) (w0 : pe_in s1 := by unfold pe_in; omega) (w1 : pe_in s0 := by unfold pe_in; omega)  (k1 : ¬ s0 = s1 → pe_X d 171 (728, [some (.inr (.inr 3)), some (.inl x1), o2, o3, o4, o5], [], σ) Φ) (k2 : s0 = s1 → pe_X d 171 (697, [some (.inr (.inr 3)), some (.inl x1), o2, o3, o4, o5], [], σ) Φ) : pe_X d 171 (694, [some (.inr (.inr 3)), some (.inl x1), o2, o3, o4, o5], [.inl s1, .inl s0], σ) Φ := by
  refine pe_blk 359 1 ck171 [] (cond (decide (¬ (pe_w s0) = (pe_w s1))) 728 697, [some (.inr (.inr 3)), some (.inl x1), o2, o3, o4, o5], [], σ) rfl ?_ ?_
  · exact trivial
  · try simp (disch := omega) only [pe_wi w0, pe_wi w1]
    exact pe_two' k1 k2
set_option maxRecDepth 8000 in
theorem b171_697 {d : Nat} {Φ : Option pe_V → pe_H → Prop} {σ : pe_H} {x1 : Int} {o2 : Option pe_V} {o3 : Option pe_V} {o4 : Option pe_V} {o5 : Option pe_V} (hL : ll_L σ := by assumption)   (k : pe_M d 108 [.inr (.inr 4), .inl 4] σ (fun r σ' => pe_X d 171 (705, [some (.inr (.inr 3)), some (.inl x1), o2, o3, o4, o5], r.toList ++ [], σ') Φ)) : pe_X d 171 (697, [some (.inr (.inr 3)), some (.inl x1), o2, o3, o4, o5], [], σ) Φ := by
  refine pe_blk 360 3 ck171 [pe_K σ 3 = 21] (702, [some (.inr (.inr 3)), some (.inl x1), o2, o3, o4, o5], [.inl 4, .inr (.inr (pe_R σ 3 0))], σ) rfl ?_ ?_
  · first
    | (simp (disch := omega) only [pe_all, ll_e0 hL, ll_k3 hL, ll_k4 hL, pe_K_wI, pe_K_wR, pe_R_nej, pe_R_ner, pe_R_wI]; done)
    | (simp (disch := omega) only [pe_all, ll_e0 hL, ll_k3 hL, ll_k4 hL, pe_K_wI, pe_K_wR, pe_R_nej, pe_R_ner, pe_R_wI]; (repeat' apply And.intro) <;> first | assumption | omega | decide)
  · try simp (disch := omega) only [ll_e0 hL, ll_k3 hL, ll_k4 hL, pe_K_wI, pe_K_wR, pe_R_nej, pe_R_ner, pe_R_wI]
    have hrc : pe_K σ 4 = 8 := by first | assumption | (simp (disch := omega) only [ll_e0 hL, ll_k3 hL, ll_k4 hL, pe_K_wI, pe_K_wR, pe_R_nej, pe_R_ner, pe_R_wI]; done) | (simp (disch := omega) only [ll_e0 hL, ll_k3 hL, ll_k4 hL, pe_K_wI, pe_K_wR, pe_R_nej, pe_R_ner, pe_R_wI]; assumption)
    exact pe_cal 363 ck171 rfl rfl rfl ⟨hrc, by decide⟩ k
set_option maxRecDepth 8000 in
theorem b171_705 {d : Nat} {Φ : Option pe_V → pe_H → Prop} {σ : pe_H} {x1 : Int} {o2 : Option pe_V} {o3 : Option pe_V} {o4 : Option pe_V} {o5 : Option pe_V} {s0 : Int} (hL : ll_L σ := by assumption) (w0 : pe_in x1 := by unfold pe_in; omega) (w1 : pe_in s0 := by unfold pe_in; omega)  (k1 : ¬ s0 = x1 → pe_X d 171 (728, [some (.inr (.inr 3)), some (.inl x1), o2, o3, o4, o5], [], σ) Φ) (k2 : s0 = x1 → pe_X d 171 (709, [some (.inr (.inr 3)), some (.inl x1), o2, o3, o4, o5], [], σ) Φ) : pe_X d 171 (705, [some (.inr (.inr 3)), some (.inl x1), o2, o3, o4, o5], [.inl s0], σ) Φ := by
  refine pe_blk 364 2 ck171 [] (cond (decide (¬ (pe_w s0) = (pe_w x1))) 728 709, [some (.inr (.inr 3)), some (.inl x1), o2, o3, o4, o5], [], σ) rfl ?_ ?_
  · exact trivial
  · try simp (disch := omega) only [pe_wi w0, pe_wi w1]
    exact pe_two' k1 k2
set_option maxRecDepth 8000 in
theorem b171_709 {d : Nat} {Φ : Option pe_V → pe_H → Prop} {σ : pe_H} {o1 : Option pe_V} {o2 : Option pe_V} {o3 : Option pe_V} {o4 : Option pe_V} {o5 : Option pe_V} (hL : ll_L σ := by assumption)   (k : pe_M d 108 [.inr (.inr 4), .inl 5] σ (fun r σ' => pe_X d 171 (717, [some (.inr (.inr 3)), o1, o2, o3, o4, o5], r.toList ++ [], σ') Φ)) : pe_X d 171 (709, [some (.inr (.inr 3)), o1, o2, o3, o4, o5], [], σ) Φ := by
  refine pe_blk 366 3 ck171 [pe_K σ 3 = 21] (714, [some (.inr (.inr 3)), o1, o2, o3, o4, o5], [.inl 5, .inr (.inr (pe_R σ 3 0))], σ) rfl ?_ ?_
  · first
    | (simp (disch := omega) only [pe_all, ll_e0 hL, ll_k3 hL, ll_k4 hL, pe_K_wI, pe_K_wR, pe_R_nej, pe_R_ner, pe_R_wI]; done)
    | (simp (disch := omega) only [pe_all, ll_e0 hL, ll_k3 hL, ll_k4 hL, pe_K_wI, pe_K_wR, pe_R_nej, pe_R_ner, pe_R_wI]; (repeat' apply And.intro) <;> first | assumption | omega | decide)
  · try simp (disch := omega) only [ll_e0 hL, ll_k3 hL, ll_k4 hL, pe_K_wI, pe_K_wR, pe_R_nej, pe_R_ner, pe_R_wI]
    have hrc : pe_K σ 4 = 8 := by first | assumption | (simp (disch := omega) only [ll_e0 hL, ll_k3 hL, ll_k4 hL, pe_K_wI, pe_K_wR, pe_R_nej, pe_R_ner, pe_R_wI]; done) | (simp (disch := omega) only [ll_e0 hL, ll_k3 hL, ll_k4 hL, pe_K_wI, pe_K_wR, pe_R_nej, pe_R_ner, pe_R_wI]; assumption)
    exact pe_cal 369 ck171 rfl rfl rfl ⟨hrc, by decide⟩ k
set_option maxRecDepth 8000 in
theorem b171_717 {d : Nat} {Φ : Option pe_V → pe_H → Prop} {σ : pe_H} {o1 : Option pe_V} {o2 : Option pe_V} {o3 : Option pe_V} {o4 : Option pe_V} {o5 : Option pe_V} {s0 : Int} (hL : ll_L σ := by assumption)   (k : pe_M d 165 [.inr (.inr 3)] σ (fun r σ' => pe_X d 171 (721, [some (.inr (.inr 3)), o1, o2, o3, o4, o5], r.toList ++ [.inl s0], σ') Φ)) : pe_X d 171 (717, [some (.inr (.inr 3)), o1, o2, o3, o4, o5], [.inl s0], σ) Φ := by
  refine pe_blk 370 1 ck171 [] (718, [some (.inr (.inr 3)), o1, o2, o3, o4, o5], [.inr (.inr 3), .inl s0], σ) rfl ?_ ?_
  · exact trivial
  · try simp (disch := omega) only [ll_k3 hL, pe_K_wI, pe_K_wR]
    have hrc : pe_K σ 3 = 21 := by first | assumption | (simp (disch := omega) only [ll_k3 hL, pe_K_wI, pe_K_wR]; done) | (simp (disch := omega) only [ll_k3 hL, pe_K_wI, pe_K_wR]; assumption)
    exact pe_cal 371 ck171 rfl rfl rfl ⟨hrc, by decide⟩ k
set_option maxRecDepth 8000 in
theorem b171_721 {d : Nat} {Φ : Option pe_V → pe_H → Prop} {σ : pe_H} {o1 : Option pe_V} {o2 : Option pe_V} {o3 : Option pe_V} {o4 : Option pe_V} {o5 : Option pe_V} {s0 : Int} {s1 : Int} (hL : ll_L σ := by assumption) (w0 : pe_in s1 := by unfold pe_in; omega) (w1 : pe_in s0 := by unfold pe_in; omega)  (k1 : ¬ s0 = s1 → pe_X d 171 (728, [some (.inr (.inr 3)), o1, o2, o3, o4, o5], [], σ) Φ) (k2 : s0 = s1 → pe_X d 171 (724, [some (.inr (.inr 3)), o1, o2, o3, o4, o5], [], σ) Φ) : pe_X d 171 (721, [some (.inr (.inr 3)), o1, o2, o3, o4, o5], [.inl s1, .inl s0], σ) Φ := by
  refine pe_blk 372 1 ck171 [] (cond (decide (¬ (pe_w s0) = (pe_w s1))) 728 724, [some (.inr (.inr 3)), o1, o2, o3, o4, o5], [], σ) rfl ?_ ?_
  · exact trivial
  · try simp (disch := omega) only [pe_wi w0, pe_wi w1]
    exact pe_two' k1 k2
set_option maxRecDepth 8000 in
theorem b171_724 {d : Nat} {Φ : Option pe_V → pe_H → Prop} {σ : pe_H} {o1 : Option pe_V} {o2 : Option pe_V} {o3 : Option pe_V} {o4 : Option pe_V} {o5 : Option pe_V} (hL : ll_L σ := by assumption)   (k : pe_X d 171 (729, [some (.inr (.inr 3)), o1, o2, o3, o4, o5], [.inl 1], σ) Φ) : pe_X d 171 (724, [some (.inr (.inr 3)), o1, o2, o3, o4, o5], [], σ) Φ := by
  refine pe_blk 373 2 ck171 [] (729, [some (.inr (.inr 3)), o1, o2, o3, o4, o5], [.inl 1], σ) rfl ?_ ?_
  · exact trivial
  · exact k
set_option maxRecDepth 8000 in
theorem b171_728 {d : Nat} {Φ : Option pe_V → pe_H → Prop} {σ : pe_H} {o1 : Option pe_V} {o2 : Option pe_V} {o3 : Option pe_V} {o4 : Option pe_V} {o5 : Option pe_V} (hL : ll_L σ := by assumption)   (k : pe_X d 171 (729, [some (.inr (.inr 3)), o1, o2, o3, o4, o5], [.inl 0], σ) Φ) : pe_X d 171 (728, [some (.inr (.inr 3)), o1, o2, o3, o4, o5], [], σ) Φ := by
  refine pe_blk 375 1 ck171 [] (729, [some (.inr (.inr 3)), o1, o2, o3, o4, o5], [.inl 0], σ) rfl ?_ ?_
  · exact trivial
  · exact k
set_option maxRecDepth 8000 in
theorem b171_729 {d : Nat} {Φ : Option pe_V → pe_H → Prop} {σ : pe_H} {o1 : Option pe_V} {o2 : Option pe_V} {o3 : Option pe_V} {o4 : Option pe_V} {o5 : Option pe_V} {s0 : Int} (hL : ll_L σ := by assumption)  (h0 : s0 = 0 ∨ s0 = 1 := by first | assumption | omega) (k : Φ (some (.inl s0)) σ) : pe_X d 171 (729, [some (.inr (.inr 3)), o1, o2, o3, o4, o5], [.inl s0], σ) Φ := by
  exact pe_fine 376 ck171 rfl rfl rfl h0 k
