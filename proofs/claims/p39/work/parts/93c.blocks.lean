/-! THE LAW, blocks: by program -/
-- StepMachinesLaw.step(IZ)V
def T157 : List (Nat × Instr × Nat) := [(0, .aload_n 0, 1), (1, .getfield 31, 3), (4, .iload_n 1, 1), (5, .aaload, 1), (6, .astore_n 3, 1), (7, .aload_n 3, 1), (8, .invokevirtual 111, 3), (11, .astore 4, 2), (13, .aload 4, 2), (15, .getfield 115, 3), (18, .aload 4, 2), (20, .getfield 118, 3), (23, .arraylength, 1), (24, .if_icmp .lt 13, 3), (27, .aload_n 3, 1), (28, .invokevirtual 120, 3), (31, .aload_n 0, 1), (32, .iload_n 1, 1), (33, .invokevirtual 100, 3), (36, .return_, 1), (37, .aload 4, 2), (39, .getfield 118, 3), (42, .aload 4, 2), (44, .getfield 115, 3), (47, .iaload, 1), (48, .istore 5, 2), (50, .aload 4, 2), (52, .getfield 123, 3), (55, .aload 4, 2), (57, .getfield 115, 3), (60, .iaload, 1), (61, .istore 6, 2), (63, .aload 4, 2), (65, .dup, 1), (66, .getfield 115, 3), (69, .iconst 1, 1), (70, .iadd, 1), (71, .putfield 115, 3), (74, .iload 5, 2), (76, .bipush 121, 2), (78, .if_icmp .eq 38, 3), (81, .iload 5, 2), (83, .bipush 115, 2), (85, .if_icmp .eq 31, 3), (88, .iload 5, 2), (90, .bipush 103, 2), (92, .if_icmp .eq 24, 3), (95, .iload 5, 2), (97, .bipush 106, 2), (99, .if_icmp .eq 17, 3), (102, .iload 5, 2), (104, .bipush 100, 2), (106, .if_icmp .eq 10, 3), (109, .iload 5, 2), (111, .bipush 114, 2), (113, .if_icmp .ne 7, 3), (116, .iconst 1, 1), (117, .goto 4, 3), (120, .iconst 0, 1), (121, .istore 7, 2), (123, .iload 5, 2), (125, .bipush 97, 2), (127, .if_icmp .ne 21, 3), (130, .aload_n 3, 1), (131, .aload_n 3, 1), (132, .getfield 77, 3), (135, .iload 6, 2), (137, .iadd, 1), (138, .sipush 1000, 3), (141, .irem, 1), (142, .putfield 77, 3), (145, .goto 121, 3), (148, .iload 5, 2), (150, .bipush 109, 2), (152, .if_icmp .ne 21, 3), (155, .aload_n 3, 1), (156, .aload_n 3, 1), (157, .getfield 77, 3), (160, .iload 6, 2), (162, .imul, 1), (163, .sipush 1000, 3), (166, .irem, 1), (167, .putfield 77, 3), (170, .goto 96, 3), (173, .iload 5, 2), (175, .bipush 122, 2), (177, .if_icmp .ne 29, 3), (180, .aload 4, 2), (182, .dup, 1), (183, .getfield 115, 3), (186, .aload_n 3, 1), (187, .getfield 77, 3), (190, .ifCond .ne 8, 3), (193, .iload 6, 2), (195, .goto 4, 3), (198, .iconst 0, 1), (199, .iadd, 1), (200, .putfield 115, 3), (203, .goto 63, 3), (206, .iload 5, 2), (208, .bipush 102, 2), (210, .if_icmp .ne 12, 3), (213, .aload 4, 2), (215, .iconst 1, 1), (216, .putfield 125, 3), (219, .goto 47, 3), (222, .iload 5, 2), (224, .bipush 116, 2), (226, .if_icmp .ne 20, 3), (229, .aload_n 3, 1), (230, .new 80, 3), (233, .dup, 1), (234, .iload 6, 2), (236, .aconst_null, 1), (237, .invokespecial 86, 3), (240, .invokevirtual 89, 3), (243, .goto 23, 3), (246, .iload 7, 2), (248, .ifCond .eq 18, 3), (251, .iload_n 2, 1), (252, .ifCond .ne 14, 3), (255, .aload_n 0, 1), (256, .iload_n 1, 1), (257, .aload 4, 2), (259, .iload 5, 2), (261, .iload 6, 2), (263, .invokevirtual 129, 3), (266, .aload_n 0, 1), (267, .iload_n 1, 1), (268, .invokevirtual 100, 3), (271, .return_, 1)]
theorem ck157 : pe_ctx 157 21 false none 8 T157 := ⟨rfl, rfl, rfl, rfl, by decide +kernel, by decide, by decide⟩
theorem b157_0 {d : Nat} {Φ : Option pe_V → pe_H → Prop} {σ : pe_H} {x1 : Int} {x2 : Int} {o3 : Option pe_V} {o4 : Option pe_V} {o5 : Option pe_V} {o6 : Option pe_V} {o7 : Option pe_V} (hL : ll_L σ := by assumption) (w0 : pe_in x1 := by unfold pe_in; omega) (h0 : 0 ≤ x1 := by first | assumption | omega) (h1 : x1 < 8 := by first | assumption | omega) (k : pe_X d 157 (7, [some (.inr (.inr 3)), some (.inl x1), some (.inl x2), some (.inr (.inr (pe_R σ 891 x1))), o4, o5, o6, o7], [], σ) Φ) : pe_X d 157 (0, [some (.inr (.inr 3)), some (.inl x1), some (.inl x2), o3, o4, o5, o6, o7], [], σ) Φ := by
  refine pe_blk 0 5 ck157 [pe_K σ 3 = 21, 22 ≤ pe_K σ (pe_R σ 3 6) ∧ pe_K σ (pe_R σ 3 6) < 25, 0 ≤ (pe_w x1), (pe_w x1) < pe_L σ (pe_R σ 3 6)] (7, [some (.inr (.inr 3)), some (.inl x1), some (.inl x2), some (.inr (.inr (pe_R σ (pe_R σ 3 6) (pe_w x1)))), o4, o5, o6, o7], [], σ) rfl ?_ ?_
  · first
    | (simp (disch := omega) only [pe_all, pe_wi w0, ll_e6 hL, ll_k3 hL, ll_k891 hL, ll_n891 hL, pe_K_wI, pe_K_wR, pe_L_wI, pe_L_wR, pe_R_nej, pe_R_ner, pe_R_wI]; done)
    | (simp (disch := omega) only [pe_all, pe_wi w0, ll_e6 hL, ll_k3 hL, ll_k891 hL, ll_n891 hL, pe_K_wI, pe_K_wR, pe_L_wI, pe_L_wR, pe_R_nej, pe_R_ner, pe_R_wI]; (repeat' apply And.intro) <;> first | assumption | omega | decide)
  · try simp (disch := omega) only [pe_wi w0, ll_e6 hL, ll_k3 hL, ll_k891 hL, ll_n891 hL, pe_K_wI, pe_K_wR, pe_L_wI, pe_L_wR, pe_R_nej, pe_R_ner, pe_R_wI]
    exact k
theorem b157_7 {d : Nat} {Φ : Option pe_V → pe_H → Prop} {σ : pe_H} {x1 : Int} {x2 : Int} {a3 : Nat} {o4 : Option pe_V} {o5 : Option pe_V} {o6 : Option pe_V} {o7 : Option pe_V} (hL : ll_L σ := by assumption)  (h0 : pe_K σ a3 = 20 := by first | assumption | omega) (k : pe_M d 137 [.inr (.inr a3)] σ (fun r σ' => pe_X d 157 (11, [some (.inr (.inr 3)), some (.inl x1), some (.inl x2), some (.inr (.inr a3)), o4, o5, o6, o7], r.toList ++ [], σ') Φ)) : pe_X d 157 (7, [some (.inr (.inr 3)), some (.inl x1), some (.inl x2), some (.inr (.inr a3)), o4, o5, o6, o7], [], σ) Φ := by
  refine pe_blk 5 1 ck157 [] (8, [some (.inr (.inr 3)), some (.inl x1), some (.inl x2), some (.inr (.inr a3)), o4, o5, o6, o7], [.inr (.inr a3)], σ) rfl ?_ ?_
  · exact trivial
  · try simp (disch := omega) only [pe_K_wI, pe_K_wR]
    have hrc : pe_K σ a3 = 20 := by first | assumption | (simp (disch := omega) only [pe_K_wI, pe_K_wR]; done) | (simp (disch := omega) only [pe_K_wI, pe_K_wR]; assumption)
    exact pe_cal 6 ck157 rfl rfl rfl ⟨hrc, by decide⟩ k
theorem b157_11 {d : Nat} {Φ : Option pe_V → pe_H → Prop} {σ : pe_H} {x1 : Int} {x2 : Int} {a3 : Nat} {o4 : Option pe_V} {o5 : Option pe_V} {o6 : Option pe_V} {o7 : Option pe_V} {b0 : Nat} (hL : ll_L σ := by assumption)   (k : pe_X d 157 (13, [some (.inr (.inr 3)), some (.inl x1), some (.inl x2), some (.inr (.inr a3)), some (.inr (.inr b0)), o5, o6, o7], [], σ) Φ) : pe_X d 157 (11, [some (.inr (.inr 3)), some (.inl x1), some (.inl x2), some (.inr (.inr a3)), o4, o5, o6, o7], [.inr (.inr b0)], σ) Φ := by
  refine pe_blk 7 1 ck157 [] (13, [some (.inr (.inr 3)), some (.inl x1), some (.inl x2), some (.inr (.inr a3)), some (.inr (.inr b0)), o5, o6, o7], [], σ) rfl ?_ ?_
  · exact trivial
  · exact k
theorem b157_13 {d : Nat} {Φ : Option pe_V → pe_H → Prop} {σ : pe_H} {x1 : Int} {x2 : Int} {a3 : Nat} {a4 : Nat} {o5 : Option pe_V} {o6 : Option pe_V} {o7 : Option pe_V} (hL : ll_L σ := by assumption) (w0 : pe_in (pe_L σ (pe_R σ a4 1)) := by unfold pe_in; omega) (w1 : pe_in (pe_I σ a4 3) := by unfold pe_in; omega) (h0 : pe_K σ a4 = 19 := by first | assumption | omega) (h1 : pe_K σ (pe_R σ a4 1) = 10 ∨ (22 ≤ pe_K σ (pe_R σ a4 1) ∧ pe_K σ (pe_R σ a4 1) < 26) := by first | assumption | omega) (k1 : (pe_I σ a4 3) < (pe_L σ (pe_R σ a4 1)) → pe_X d 157 (37, [some (.inr (.inr 3)), some (.inl x1), some (.inl x2), some (.inr (.inr a3)), some (.inr (.inr a4)), o5, o6, o7], [], σ) Φ) (k2 : ¬ ((pe_I σ a4 3) < (pe_L σ (pe_R σ a4 1))) → pe_X d 157 (27, [some (.inr (.inr 3)), some (.inl x1), some (.inl x2), some (.inr (.inr a3)), some (.inr (.inr a4)), o5, o6, o7], [], σ) Φ) : pe_X d 157 (13, [some (.inr (.inr 3)), some (.inl x1), some (.inl x2), some (.inr (.inr a3)), some (.inr (.inr a4)), o5, o6, o7], [], σ) Φ := by
  refine pe_blk 8 6 ck157 [pe_K σ a4 = 19, pe_K σ a4 = 19, pe_K σ (pe_R σ a4 1) = 10 ∨ (22 ≤ pe_K σ (pe_R σ a4 1) ∧ pe_K σ (pe_R σ a4 1) < 26)] (cond (decide ((pe_w (pe_I σ a4 3)) < (pe_w (pe_L σ (pe_R σ a4 1))))) 37 27, [some (.inr (.inr 3)), some (.inl x1), some (.inl x2), some (.inr (.inr a3)), some (.inr (.inr a4)), o5, o6, o7], [], σ) rfl ?_ ?_
  · first
    | (simp (disch := omega) only [pe_all, pe_wi w0, pe_wi w1, pe_K_wI, pe_K_wR, pe_L_wI, pe_L_wR]; done)
    | (simp (disch := omega) only [pe_all, pe_wi w0, pe_wi w1, pe_K_wI, pe_K_wR, pe_L_wI, pe_L_wR]; (repeat' apply And.intro) <;> first | assumption | omega | decide)
  · try simp (disch := omega) only [pe_wi w0, pe_wi w1, pe_K_wI, pe_K_wR, pe_L_wI, pe_L_wR]
    exact pe_two k1 k2
theorem b157_27 {d : Nat} {Φ : Option pe_V → pe_H → Prop} {σ : pe_H} {x1 : Int} {o2 : Option pe_V} {a3 : Nat} {o4 : Option pe_V} {o5 : Option pe_V} {o6 : Option pe_V} {o7 : Option pe_V} (hL : ll_L σ := by assumption)  (h0 : pe_K σ a3 = 20 := by first | assumption | omega) (k : pe_M d 141 [.inr (.inr a3)] σ (fun r σ' => pe_X d 157 (31, [some (.inr (.inr 3)), some (.inl x1), o2, some (.inr (.inr a3)), o4, o5, o6, o7], r.toList ++ [], σ') Φ)) : pe_X d 157 (27, [some (.inr (.inr 3)), some (.inl x1), o2, some (.inr (.inr a3)), o4, o5, o6, o7], [], σ) Φ := by
  refine pe_blk 14 1 ck157 [] (28, [some (.inr (.inr 3)), some (.inl x1), o2, some (.inr (.inr a3)), o4, o5, o6, o7], [.inr (.inr a3)], σ) rfl ?_ ?_
  · exact trivial
  · try simp (disch := omega) only [pe_K_wI, pe_K_wR]
    have hrc : pe_K σ a3 = 20 := by first | assumption | (simp (disch := omega) only [pe_K_wI, pe_K_wR]; done) | (simp (disch := omega) only [pe_K_wI, pe_K_wR]; assumption)
    exact pe_cal 15 ck157 rfl rfl rfl ⟨hrc, by decide⟩ k
theorem b157_31 {d : Nat} {Φ : Option pe_V → pe_H → Prop} {σ : pe_H} {x1 : Int} {o2 : Option pe_V} {o3 : Option pe_V} {o4 : Option pe_V} {o5 : Option pe_V} {o6 : Option pe_V} {o7 : Option pe_V} (hL : ll_L σ := by assumption)   (k : pe_M d 155 [.inr (.inr 3), .inl x1] σ (fun r σ' => pe_X d 157 (36, [some (.inr (.inr 3)), some (.inl x1), o2, o3, o4, o5, o6, o7], r.toList ++ [], σ') Φ)) : pe_X d 157 (31, [some (.inr (.inr 3)), some (.inl x1), o2, o3, o4, o5, o6, o7], [], σ) Φ := by
  refine pe_blk 16 2 ck157 [] (33, [some (.inr (.inr 3)), some (.inl x1), o2, o3, o4, o5, o6, o7], [.inl x1, .inr (.inr 3)], σ) rfl ?_ ?_
  · exact trivial
  · try simp (disch := omega) only [ll_k3 hL, pe_K_wI, pe_K_wR]
    have hrc : pe_K σ 3 = 21 := by first | assumption | (simp (disch := omega) only [ll_k3 hL, pe_K_wI, pe_K_wR]; done) | (simp (disch := omega) only [ll_k3 hL, pe_K_wI, pe_K_wR]; assumption)
    exact pe_cal 18 ck157 rfl rfl rfl ⟨hrc, by decide⟩ k
theorem b157_36 {d : Nat} {Φ : Option pe_V → pe_H → Prop} {σ : pe_H} {o1 : Option pe_V} {o2 : Option pe_V} {o3 : Option pe_V} {o4 : Option pe_V} {o5 : Option pe_V} {o6 : Option pe_V} {o7 : Option pe_V} (hL : ll_L σ := by assumption)   (k : Φ none σ) : pe_X d 157 (36, [some (.inr (.inr 3)), o1, o2, o3, o4, o5, o6, o7], [], σ) Φ := by
  exact pe_fine 19 ck157 rfl rfl rfl trivial k
theorem b157_37 {d : Nat} {Φ : Option pe_V → pe_H → Prop} {σ : pe_H} {x1 : Int} {x2 : Int} {a3 : Nat} {a4 : Nat} {o5 : Option pe_V} {o6 : Option pe_V} {o7 : Option pe_V} (hL : ll_L σ := by assumption) (w0 : pe_in (pe_I σ a4 3) := by unfold pe_in; omega) (h0 : pe_K σ a4 = 19 := by first | assumption | omega) (h1 : pe_K σ (pe_R σ a4 1) = 10 ∨ pe_K σ (pe_R σ a4 1) = 25 := by first | assumption | omega) (h2 : 0 ≤ (pe_I σ a4 3) := by first | assumption | omega) (h3 : (pe_I σ a4 3) < pe_L σ (pe_R σ a4 1) := by first | assumption | omega) (h4 : pe_K σ (pe_R σ a4 2) = 10 ∨ pe_K σ (pe_R σ a4 2) = 25 := by first | assumption | omega) (h5 : (pe_I σ a4 3) < pe_L σ (pe_R σ a4 2) := by first | assumption | omega) (k : pe_X d 157 (74, [some (.inr (.inr 3)), some (.inl x1), some (.inl x2), some (.inr (.inr a3)), some (.inr (.inr a4)), some (.inl (pe_I σ (pe_R σ a4 1) (pe_I σ a4 3))), some (.inl (pe_I σ (pe_R σ a4 2) (pe_I σ a4 3))), o7], [], pe_wI σ a4 3 ((pe_I σ a4 3) + 1)) Φ) : pe_X d 157 (37, [some (.inr (.inr 3)), some (.inl x1), some (.inl x2), some (.inr (.inr a3)), some (.inr (.inr a4)), o5, o6, o7], [], σ) Φ := by
  refine pe_blk 20 18 ck157 [pe_K σ a4 = 19, pe_K σ a4 = 19, pe_K σ (pe_R σ a4 1) = 10 ∨ pe_K σ (pe_R σ a4 1) = 25, 0 ≤ (pe_w (pe_I σ a4 3)), (pe_w (pe_I σ a4 3)) < pe_L σ (pe_R σ a4 1), pe_K σ a4 = 19, pe_K σ a4 = 19, pe_K σ (pe_R σ a4 2) = 10 ∨ pe_K σ (pe_R σ a4 2) = 25, 0 ≤ (pe_w (pe_I σ a4 3)), (pe_w (pe_I σ a4 3)) < pe_L σ (pe_R σ a4 2), pe_K σ a4 = 19, pe_K σ a4 = 19] (74, [some (.inr (.inr 3)), some (.inl x1), some (.inl x2), some (.inr (.inr a3)), some (.inr (.inr a4)), some (.inl (pe_I σ (pe_R σ a4 1) (pe_w (pe_I σ a4 3)))), some (.inl (pe_I σ (pe_R σ a4 2) (pe_w (pe_I σ a4 3)))), o7], [], pe_wI σ a4 3 ((pe_I σ a4 3) + 1)) rfl ?_ ?_
  · first
    | (simp (disch := omega) only [pe_all, pe_wi w0, pe_K_wI, pe_K_wR, pe_L_wI, pe_L_wR]; done)
    | (simp (disch := omega) only [pe_all, pe_wi w0, pe_K_wI, pe_K_wR, pe_L_wI, pe_L_wR]; (repeat' apply And.intro) <;> first | assumption | omega | decide)
  · try simp (disch := omega) only [pe_wi w0, pe_K_wI, pe_K_wR, pe_L_wI, pe_L_wR]
    exact k
theorem b157_74 {d : Nat} {Φ : Option pe_V → pe_H → Prop} {σ : pe_H} {x1 : Int} {x2 : Int} {a3 : Nat} {a4 : Nat} {x5 : Int} {x6 : Int} {o7 : Option pe_V} (hL : ll_L σ := by assumption) (w0 : pe_in x5 := by unfold pe_in; omega)  (k1 : x5 = 121 → pe_X d 157 (116, [some (.inr (.inr 3)), some (.inl x1), some (.inl x2), some (.inr (.inr a3)), some (.inr (.inr a4)), some (.inl x5), some (.inl x6), o7], [], σ) Φ) (k2 : ¬ (x5 = 121) → pe_X d 157 (81, [some (.inr (.inr 3)), some (.inl x1), some (.inl x2), some (.inr (.inr a3)), some (.inr (.inr a4)), some (.inl x5), some (.inl x6), o7], [], σ) Φ) : pe_X d 157 (74, [some (.inr (.inr 3)), some (.inl x1), some (.inl x2), some (.inr (.inr a3)), some (.inr (.inr a4)), some (.inl x5), some (.inl x6), o7], [], σ) Φ := by
  refine pe_blk 38 3 ck157 [] (cond (decide ((pe_w x5) = (pe_w 121))) 116 81, [some (.inr (.inr 3)), some (.inl x1), some (.inl x2), some (.inr (.inr a3)), some (.inr (.inr a4)), some (.inl x5), some (.inl x6), o7], [], σ) rfl ?_ ?_
  · exact trivial
  · try simp (disch := omega) only [pe_wi w0, pe_wi (x := 121) ⟨by decide, by decide⟩]
    exact pe_two k1 k2
theorem b157_81 {d : Nat} {Φ : Option pe_V → pe_H → Prop} {σ : pe_H} {x1 : Int} {x2 : Int} {a3 : Nat} {a4 : Nat} {x5 : Int} {x6 : Int} {o7 : Option pe_V} (hL : ll_L σ := by assumption) (w0 : pe_in x5 := by unfold pe_in; omega)  (k1 : x5 = 115 → pe_X d 157 (116, [some (.inr (.inr 3)), some (.inl x1), some (.inl x2), some (.inr (.inr a3)), some (.inr (.inr a4)), some (.inl x5), some (.inl x6), o7], [], σ) Φ) (k2 : ¬ (x5 = 115) → pe_X d 157 (88, [some (.inr (.inr 3)), some (.inl x1), some (.inl x2), some (.inr (.inr a3)), some (.inr (.inr a4)), some (.inl x5), some (.inl x6), o7], [], σ) Φ) : pe_X d 157 (81, [some (.inr (.inr 3)), some (.inl x1), some (.inl x2), some (.inr (.inr a3)), some (.inr (.inr a4)), some (.inl x5), some (.inl x6), o7], [], σ) Φ := by
  refine pe_blk 41 3 ck157 [] (cond (decide ((pe_w x5) = (pe_w 115))) 116 88, [some (.inr (.inr 3)), some (.inl x1), some (.inl x2), some (.inr (.inr a3)), some (.inr (.inr a4)), some (.inl x5), some (.inl x6), o7], [], σ) rfl ?_ ?_
  · exact trivial
  · try simp (disch := omega) only [pe_wi w0, pe_wi (x := 115) ⟨by decide, by decide⟩]
    exact pe_two k1 k2
theorem b157_88 {d : Nat} {Φ : Option pe_V → pe_H → Prop} {σ : pe_H} {x1 : Int} {x2 : Int} {a3 : Nat} {a4 : Nat} {x5 : Int} {x6 : Int} {o7 : Option pe_V} (hL : ll_L σ := by assumption) (w0 : pe_in x5 := by unfold pe_in; omega)  (k1 : x5 = 103 → pe_X d 157 (116, [some (.inr (.inr 3)), some (.inl x1), some (.inl x2), some (.inr (.inr a3)), some (.inr (.inr a4)), some (.inl x5), some (.inl x6), o7], [], σ) Φ) (k2 : ¬ (x5 = 103) → pe_X d 157 (95, [some (.inr (.inr 3)), some (.inl x1), some (.inl x2), some (.inr (.inr a3)), some (.inr (.inr a4)), some (.inl x5), some (.inl x6), o7], [], σ) Φ) : pe_X d 157 (88, [some (.inr (.inr 3)), some (.inl x1), some (.inl x2), some (.inr (.inr a3)), some (.inr (.inr a4)), some (.inl x5), some (.inl x6), o7], [], σ) Φ := by
  refine pe_blk 44 3 ck157 [] (cond (decide ((pe_w x5) = (pe_w 103))) 116 95, [some (.inr (.inr 3)), some (.inl x1), some (.inl x2), some (.inr (.inr a3)), some (.inr (.inr a4)), some (.inl x5), some (.inl x6), o7], [], σ) rfl ?_ ?_
  · exact trivial
  · try simp (disch := omega) only [pe_wi w0, pe_wi (x := 103) ⟨by decide, by decide⟩]
    exact pe_two k1 k2
theorem b157_95 {d : Nat} {Φ : Option pe_V → pe_H → Prop} {σ : pe_H} {x1 : Int} {x2 : Int} {a3 : Nat} {a4 : Nat} {x5 : Int} {x6 : Int} {o7 : Option pe_V} (hL : ll_L σ := by assumption) (w0 : pe_in x5 := by unfold pe_in; omega)  (k1 : x5 = 106 → pe_X d 157 (116, [some (.inr (.inr 3)), some (.inl x1), some (.inl x2), some (.inr (.inr a3)), some (.inr (.inr a4)), some (.inl x5), some (.inl x6), o7], [], σ) Φ) (k2 : ¬ (x5 = 106) → pe_X d 157 (102, [some (.inr (.inr 3)), some (.inl x1), some (.inl x2), some (.inr (.inr a3)), some (.inr (.inr a4)), some (.inl x5), some (.inl x6), o7], [], σ) Φ) : pe_X d 157 (95, [some (.inr (.inr 3)), some (.inl x1), some (.inl x2), some (.inr (.inr a3)), some (.inr (.inr a4)), some (.inl x5), some (.inl x6), o7], [], σ) Φ := by
  refine pe_blk 47 3 ck157 [] (cond (decide ((pe_w x5) = (pe_w 106))) 116 102, [some (.inr (.inr 3)), some (.inl x1), some (.inl x2), some (.inr (.inr a3)), some (.inr (.inr a4)), some (.inl x5), some (.inl x6), o7], [], σ) rfl ?_ ?_
  · exact trivial
  · try simp (disch := omega) only [pe_wi w0, pe_wi (x := 106) ⟨by decide, by decide⟩]
    exact pe_two k1 k2
set_option maxRecDepth 8000 in
theorem b157_102 {d : Nat} {Φ : Option pe_V → pe_H → Prop} {σ : pe_H} {x1 : Int} {x2 : Int} {a3 : Nat} {a4 : Nat} {x5 : Int} {x6 : Int} {o7 : Option pe_V} (hL : ll_L σ := by assumption) (w0 : pe_in x5 := by unfold pe_in; omega)  (k1 : x5 = 100 → pe_X d 157 (116, [some (.inr (.inr 3)), some (.inl x1), some (.inl x2), some (.inr (.inr a3)), some (.inr (.inr a4)), some (.inl x5), some (.inl x6), o7], [], σ) Φ) (k2 : ¬ (x5 = 100) → pe_X d 157 (109, [some (.inr (.inr 3)), some (.inl x1), some (.inl x2), some (.inr (.inr a3)), some (.inr (.inr a4)), some (.inl x5), some (.inl x6), o7], [], σ) Φ) : pe_X d 157 (102, [some (.inr (.inr 3)), some (.inl x1), some (.inl x2), some (.inr (.inr a3)), some (.inr (.inr a4)), some (.inl x5), some (.inl x6), o7], [], σ) Φ := by
  refine pe_blk 50 3 ck157 [] (cond (decide ((pe_w x5) = (pe_w 100))) 116 109, [some (.inr (.inr 3)), some (.inl x1), some (.inl x2), some (.inr (.inr a3)), some (.inr (.inr a4)), some (.inl x5), some (.inl x6), o7], [], σ) rfl ?_ ?_
  · exact trivial
  · try simp (disch := omega) only [pe_wi w0, pe_wi (x := 100) ⟨by decide, by decide⟩]
    exact pe_two k1 k2
set_option maxRecDepth 8000 in
theorem b157_109 {d : Nat} {Φ : Option pe_V → pe_H → Prop} {σ : pe_H} {x1 : Int} {x2 : Int} {a3 : Nat} {a4 : Nat} {x5 : Int} {x6 : Int} {o7 : Option pe_V} (hL : ll_L σ := by assumption) (w0 : pe_in x5 := by unfold pe_in; omega)  (k1 : ¬ x5 = 114 → pe_X d 157 (120, [some (.inr (.inr 3)), some (.inl x1), some (.inl x2), some (.inr (.inr a3)), some (.inr (.inr a4)), some (.inl x5), some (.inl x6), o7], [], σ) Φ) (k2 : x5 = 114 → pe_X d 157 (116, [some (.inr (.inr 3)), some (.inl x1), some (.inl x2), some (.inr (.inr a3)), some (.inr (.inr a4)), some (.inl x5), some (.inl x6), o7], [], σ) Φ) : pe_X d 157 (109, [some (.inr (.inr 3)), some (.inl x1), some (.inl x2), some (.inr (.inr a3)), some (.inr (.inr a4)), some (.inl x5), some (.inl x6), o7], [], σ) Φ := by
  refine pe_blk 53 3 ck157 [] (cond (decide (¬ (pe_w x5) = (pe_w 114))) 120 116, [some (.inr (.inr 3)), some (.inl x1), some (.inl x2), some (.inr (.inr a3)), some (.inr (.inr a4)), some (.inl x5), some (.inl x6), o7], [], σ) rfl ?_ ?_
  · exact trivial
  · try simp (disch := omega) only [pe_wi w0, pe_wi (x := 114) ⟨by decide, by decide⟩]
    exact pe_two' k1 k2
set_option maxRecDepth 8000 in
theorem b157_116 {d : Nat} {Φ : Option pe_V → pe_H → Prop} {σ : pe_H} {x1 : Int} {x2 : Int} {a3 : Nat} {a4 : Nat} {x5 : Int} {x6 : Int} {o7 : Option pe_V} (hL : ll_L σ := by assumption)   (k : pe_X d 157 (121, [some (.inr (.inr 3)), some (.inl x1), some (.inl x2), some (.inr (.inr a3)), some (.inr (.inr a4)), some (.inl x5), some (.inl x6), o7], [.inl 1], σ) Φ) : pe_X d 157 (116, [some (.inr (.inr 3)), some (.inl x1), some (.inl x2), some (.inr (.inr a3)), some (.inr (.inr a4)), some (.inl x5), some (.inl x6), o7], [], σ) Φ := by
  refine pe_blk 56 2 ck157 [] (121, [some (.inr (.inr 3)), some (.inl x1), some (.inl x2), some (.inr (.inr a3)), some (.inr (.inr a4)), some (.inl x5), some (.inl x6), o7], [.inl 1], σ) rfl ?_ ?_
  · exact trivial
  · exact k
set_option maxRecDepth 8000 in
theorem b157_120 {d : Nat} {Φ : Option pe_V → pe_H → Prop} {σ : pe_H} {x1 : Int} {x2 : Int} {a3 : Nat} {a4 : Nat} {x5 : Int} {x6 : Int} {o7 : Option pe_V} (hL : ll_L σ := by assumption)   (k : pe_X d 157 (121, [some (.inr (.inr 3)), some (.inl x1), some (.inl x2), some (.inr (.inr a3)), some (.inr (.inr a4)), some (.inl x5), some (.inl x6), o7], [.inl 0], σ) Φ) : pe_X d 157 (120, [some (.inr (.inr 3)), some (.inl x1), some (.inl x2), some (.inr (.inr a3)), some (.inr (.inr a4)), some (.inl x5), some (.inl x6), o7], [], σ) Φ := by
  refine pe_blk 58 1 ck157 [] (121, [some (.inr (.inr 3)), some (.inl x1), some (.inl x2), some (.inr (.inr a3)), some (.inr (.inr a4)), some (.inl x5), some (.inl x6), o7], [.inl 0], σ) rfl ?_ ?_
  · exact trivial
  · exact k
set_option maxRecDepth 8000 in
theorem b157_121 {d : Nat} {Φ : Option pe_V → pe_H → Prop} {σ : pe_H} {x1 : Int} {x2 : Int} {a3 : Nat} {a4 : Nat} {x5 : Int} {x6 : Int} {o7 : Option pe_V} {s0 : Int} (hL : ll_L σ := by assumption) (w0 : pe_in x5 := by unfold pe_in; omega)  (k1 : ¬ x5 = 97 → pe_X d 157 (148, [some (.inr (.inr 3)), some (.inl x1), some (.inl x2), some (.inr (.inr a3)), some (.inr (.inr a4)), some (.inl x5), some (.inl x6), some (.inl s0)], [], σ) Φ) (k2 : x5 = 97 → pe_X d 157 (130, [some (.inr (.inr 3)), some (.inl x1), some (.inl x2), some (.inr (.inr a3)), some (.inr (.inr a4)), some (.inl x5), some (.inl x6), some (.inl s0)], [], σ) Φ) : pe_X d 157 (121, [some (.inr (.inr 3)), some (.inl x1), some (.inl x2), some (.inr (.inr a3)), some (.inr (.inr a4)), some (.inl x5), some (.inl x6), o7], [.inl s0], σ) Φ := by
  refine pe_blk 59 4 ck157 [] (cond (decide (¬ (pe_w x5) = (pe_w 97))) 148 130, [some (.inr (.inr 3)), some (.inl x1), some (.inl x2), some (.inr (.inr a3)), some (.inr (.inr a4)), some (.inl x5), some (.inl x6), some (.inl s0)], [], σ) rfl ?_ ?_
  · exact trivial
  · try simp (disch := omega) only [pe_wi w0, pe_wi (x := 97) ⟨by decide, by decide⟩]
    exact pe_two' k1 k2
set_option maxRecDepth 8000 in
theorem b157_130 {d : Nat} {Φ : Option pe_V → pe_H → Prop} {σ : pe_H} {x1 : Int} {o2 : Option pe_V} {a3 : Nat} {o4 : Option pe_V} {o5 : Option pe_V} {x6 : Int} {o7 : Option pe_V} (hL : ll_L σ := by assumption) (w0 : pe_in ((pe_I σ a3 4) + x6) := by unfold pe_in; omega) (h0 : pe_K σ a3 = 20 := by first | assumption | omega) (h1 : ¬ 1000 = 0 := by first | assumption | omega) (k : pe_X d 157 (145, [some (.inr (.inr 3)), some (.inl x1), o2, some (.inr (.inr a3)), o4, o5, some (.inl x6), o7], [], pe_wI σ a3 4 (Int.tmod ((pe_I σ a3 4) + x6) 1000)) Φ) : pe_X d 157 (130, [some (.inr (.inr 3)), some (.inl x1), o2, some (.inr (.inr a3)), o4, o5, some (.inl x6), o7], [], σ) Φ := by
  refine pe_blk 63 8 ck157 [pe_K σ a3 = 20, ¬ (pe_w 1000) = 0, pe_K σ a3 = 20] (145, [some (.inr (.inr 3)), some (.inl x1), o2, some (.inr (.inr a3)), o4, o5, some (.inl x6), o7], [], pe_wI σ a3 4 (Int.tmod (pe_w ((pe_I σ a3 4) + x6)) (pe_w 1000))) rfl ?_ ?_
  · first
    | (simp (disch := omega) only [pe_all, pe_wi w0, pe_wi (x := 1000) ⟨by decide, by decide⟩, pe_K_wI, pe_K_wR]; done)
    | (simp (disch := omega) only [pe_all, pe_wi w0, pe_wi (x := 1000) ⟨by decide, by decide⟩, pe_K_wI, pe_K_wR]; (repeat' apply And.intro) <;> first | assumption | omega | decide)
  · try simp (disch := omega) only [pe_wi w0, pe_wi (x := 1000) ⟨by decide, by decide⟩, pe_K_wI, pe_K_wR]
    exact k
set_option maxRecDepth 8000 in
theorem b157_145 {d : Nat} {Φ : Option pe_V → pe_H → Prop} {σ : pe_H} {x1 : Int} {o2 : Option pe_V} {o3 : Option pe_V} {o4 : Option pe_V} {o5 : Option pe_V} {o6 : Option pe_V} {o7 : Option pe_V} (hL : ll_L σ := by assumption)   (k : pe_X d 157 (266, [some (.inr (.inr 3)), some (.inl x1), o2, o3, o4, o5, o6, o7], [], σ) Φ) : pe_X d 157 (145, [some (.inr (.inr 3)), some (.inl x1), o2, o3, o4, o5, o6, o7], [], σ) Φ := by
  refine pe_blk 71 1 ck157 [] (266, [some (.inr (.inr 3)), some (.inl x1), o2, o3, o4, o5, o6, o7], [], σ) rfl ?_ ?_
  · exact trivial
  · exact k
set_option maxRecDepth 8000 in
theorem b157_148 {d : Nat} {Φ : Option pe_V → pe_H → Prop} {σ : pe_H} {x1 : Int} {x2 : Int} {a3 : Nat} {a4 : Nat} {x5 : Int} {x6 : Int} {x7 : Int} (hL : ll_L σ := by assumption) (w0 : pe_in x5 := by unfold pe_in; omega)  (k1 : ¬ x5 = 109 → pe_X d 157 (173, [some (.inr (.inr 3)), some (.inl x1), some (.inl x2), some (.inr (.inr a3)), some (.inr (.inr a4)), some (.inl x5), some (.inl x6), some (.inl x7)], [], σ) Φ) (k2 : x5 = 109 → pe_X d 157 (155, [some (.inr (.inr 3)), some (.inl x1), some (.inl x2), some (.inr (.inr a3)), some (.inr (.inr a4)), some (.inl x5), some (.inl x6), some (.inl x7)], [], σ) Φ) : pe_X d 157 (148, [some (.inr (.inr 3)), some (.inl x1), some (.inl x2), some (.inr (.inr a3)), some (.inr (.inr a4)), some (.inl x5), some (.inl x6), some (.inl x7)], [], σ) Φ := by
  refine pe_blk 72 3 ck157 [] (cond (decide (¬ (pe_w x5) = (pe_w 109))) 173 155, [some (.inr (.inr 3)), some (.inl x1), some (.inl x2), some (.inr (.inr a3)), some (.inr (.inr a4)), some (.inl x5), some (.inl x6), some (.inl x7)], [], σ) rfl ?_ ?_
  · exact trivial
  · try simp (disch := omega) only [pe_wi w0, pe_wi (x := 109) ⟨by decide, by decide⟩]
    exact pe_two' k1 k2
set_option maxRecDepth 8000 in
theorem b157_155 {d : Nat} {Φ : Option pe_V → pe_H → Prop} {σ : pe_H} {x1 : Int} {o2 : Option pe_V} {a3 : Nat} {o4 : Option pe_V} {o5 : Option pe_V} {x6 : Int} {o7 : Option pe_V} (hL : ll_L σ := by assumption) (w0 : pe_in ((pe_I σ a3 4) * x6) := by unfold pe_in; omega) (h0 : pe_K σ a3 = 20 := by first | assumption | omega) (h1 : ¬ 1000 = 0 := by first | assumption | omega) (k : pe_X d 157 (170, [some (.inr (.inr 3)), some (.inl x1), o2, some (.inr (.inr a3)), o4, o5, some (.inl x6), o7], [], pe_wI σ a3 4 (Int.tmod ((pe_I σ a3 4) * x6) 1000)) Φ) : pe_X d 157 (155, [some (.inr (.inr 3)), some (.inl x1), o2, some (.inr (.inr a3)), o4, o5, some (.inl x6), o7], [], σ) Φ := by
  refine pe_blk 75 8 ck157 [pe_K σ a3 = 20, ¬ (pe_w 1000) = 0, pe_K σ a3 = 20] (170, [some (.inr (.inr 3)), some (.inl x1), o2, some (.inr (.inr a3)), o4, o5, some (.inl x6), o7], [], pe_wI σ a3 4 (Int.tmod (pe_w ((pe_I σ a3 4) * x6)) (pe_w 1000))) rfl ?_ ?_
  · first
    | (simp (disch := omega) only [pe_all, pe_wi w0, pe_wi (x := 1000) ⟨by decide, by decide⟩, pe_K_wI, pe_K_wR]; done)
    | (simp (disch := omega) only [pe_all, pe_wi w0, pe_wi (x := 1000) ⟨by decide, by decide⟩, pe_K_wI, pe_K_wR]; (repeat' apply And.intro) <;> first | assumption | omega | decide)
  · try simp (disch := omega) only [pe_wi w0, pe_wi (x := 1000) ⟨by decide, by decide⟩, pe_K_wI, pe_K_wR]
    exact k
set_option maxRecDepth 8000 in
theorem b157_170 {d : Nat} {Φ : Option pe_V → pe_H → Prop} {σ : pe_H} {x1 : Int} {o2 : Option pe_V} {o3 : Option pe_V} {o4 : Option pe_V} {o5 : Option pe_V} {o6 : Option pe_V} {o7 : Option pe_V} (hL : ll_L σ := by assumption)   (k : pe_X d 157 (266, [some (.inr (.inr 3)), some (.inl x1), o2, o3, o4, o5, o6, o7], [], σ) Φ) : pe_X d 157 (170, [some (.inr (.inr 3)), some (.inl x1), o2, o3, o4, o5, o6, o7], [], σ) Φ := by
  refine pe_blk 83 1 ck157 [] (266, [some (.inr (.inr 3)), some (.inl x1), o2, o3, o4, o5, o6, o7], [], σ) rfl ?_ ?_
  · exact trivial
  · exact k
set_option maxRecDepth 8000 in
theorem b157_173 {d : Nat} {Φ : Option pe_V → pe_H → Prop} {σ : pe_H} {x1 : Int} {x2 : Int} {a3 : Nat} {a4 : Nat} {x5 : Int} {x6 : Int} {x7 : Int} (hL : ll_L σ := by assumption) (w0 : pe_in x5 := by unfold pe_in; omega)  (k1 : ¬ x5 = 122 → pe_X d 157 (206, [some (.inr (.inr 3)), some (.inl x1), some (.inl x2), some (.inr (.inr a3)), some (.inr (.inr a4)), some (.inl x5), some (.inl x6), some (.inl x7)], [], σ) Φ) (k2 : x5 = 122 → pe_X d 157 (180, [some (.inr (.inr 3)), some (.inl x1), some (.inl x2), some (.inr (.inr a3)), some (.inr (.inr a4)), some (.inl x5), some (.inl x6), some (.inl x7)], [], σ) Φ) : pe_X d 157 (173, [some (.inr (.inr 3)), some (.inl x1), some (.inl x2), some (.inr (.inr a3)), some (.inr (.inr a4)), some (.inl x5), some (.inl x6), some (.inl x7)], [], σ) Φ := by
  refine pe_blk 84 3 ck157 [] (cond (decide (¬ (pe_w x5) = (pe_w 122))) 206 180, [some (.inr (.inr 3)), some (.inl x1), some (.inl x2), some (.inr (.inr a3)), some (.inr (.inr a4)), some (.inl x5), some (.inl x6), some (.inl x7)], [], σ) rfl ?_ ?_
  · exact trivial
  · try simp (disch := omega) only [pe_wi w0, pe_wi (x := 122) ⟨by decide, by decide⟩]
    exact pe_two' k1 k2
set_option maxRecDepth 8000 in
theorem b157_180 {d : Nat} {Φ : Option pe_V → pe_H → Prop} {σ : pe_H} {x1 : Int} {o2 : Option pe_V} {a3 : Nat} {a4 : Nat} {o5 : Option pe_V} {x6 : Int} {o7 : Option pe_V} (hL : ll_L σ := by assumption) (w0 : pe_in (pe_I σ a3 4) := by unfold pe_in; omega) (h0 : pe_K σ a4 = 19 := by first | assumption | omega) (h1 : pe_K σ a3 = 20 := by first | assumption | omega) (k1 : ¬ (pe_I σ a3 4) = 0 → pe_X d 157 (198, [some (.inr (.inr 3)), some (.inl x1), o2, some (.inr (.inr a3)), some (.inr (.inr a4)), o5, some (.inl x6), o7], [.inl (pe_I σ a4 3), .inr (.inr a4)], σ) Φ) (k2 : (pe_I σ a3 4) = 0 → pe_X d 157 (193, [some (.inr (.inr 3)), some (.inl x1), o2, some (.inr (.inr a3)), some (.inr (.inr a4)), o5, some (.inl x6), o7], [.inl (pe_I σ a4 3), .inr (.inr a4)], σ) Φ) : pe_X d 157 (180, [some (.inr (.inr 3)), some (.inl x1), o2, some (.inr (.inr a3)), some (.inr (.inr a4)), o5, some (.inl x6), o7], [], σ) Φ := by
  refine pe_blk 87 6 ck157 [pe_K σ a4 = 19, pe_K σ a3 = 20] (cond (decide (¬ (pe_w (pe_I σ a3 4)) = 0)) 198 193, [some (.inr (.inr 3)), some (.inl x1), o2, some (.inr (.inr a3)), some (.inr (.inr a4)), o5, some (.inl x6), o7], [.inl (pe_I σ a4 3), .inr (.inr a4)], σ) rfl ?_ ?_
  · first
    | (simp (disch := omega) only [pe_all, pe_wi w0, pe_K_wI, pe_K_wR]; done)
    | (simp (disch := omega) only [pe_all, pe_wi w0, pe_K_wI, pe_K_wR]; (repeat' apply And.intro) <;> first | assumption | omega | decide)
  · try simp (disch := omega) only [pe_wi w0, pe_K_wI, pe_K_wR]
    exact pe_two' k1 k2
set_option maxRecDepth 8000 in
theorem b157_193 {d : Nat} {Φ : Option pe_V → pe_H → Prop} {σ : pe_H} {x1 : Int} {o2 : Option pe_V} {o3 : Option pe_V} {o4 : Option pe_V} {o5 : Option pe_V} {x6 : Int} {o7 : Option pe_V} {b0 : Nat} {s1 : Int} (hL : ll_L σ := by assumption)   (k : pe_X d 157 (199, [some (.inr (.inr 3)), some (.inl x1), o2, o3, o4, o5, some (.inl x6), o7], [.inl x6, .inl s1, .inr (.inr b0)], σ) Φ) : pe_X d 157 (193, [some (.inr (.inr 3)), some (.inl x1), o2, o3, o4, o5, some (.inl x6), o7], [.inl s1, .inr (.inr b0)], σ) Φ := by
  refine pe_blk 93 2 ck157 [] (199, [some (.inr (.inr 3)), some (.inl x1), o2, o3, o4, o5, some (.inl x6), o7], [.inl x6, .inl s1, .inr (.inr b0)], σ) rfl ?_ ?_
  · exact trivial
  · exact k
set_option maxRecDepth 8000 in
theorem b157_198 {d : Nat} {Φ : Option pe_V → pe_H → Prop} {σ : pe_H} {x1 : Int} {o2 : Option pe_V} {o3 : Option pe_V} {o4 : Option pe_V} {o5 : Option pe_V} {o6 : Option pe_V} {o7 : Option pe_V} {b0 : Nat} {s1 : Int} (hL : ll_L σ := by assumption)   (k : pe_X d 157 (199, [some (.inr (.inr 3)), some (.inl x1), o2, o3, o4, o5, o6, o7], [.inl 0, .inl s1, .inr (.inr b0)], σ) Φ) : pe_X d 157 (198, [some (.inr (.inr 3)), some (.inl x1), o2, o3, o4, o5, o6, o7], [.inl s1, .inr (.inr b0)], σ) Φ := by
  refine pe_blk 95 1 ck157 [] (199, [some (.inr (.inr 3)), some (.inl x1), o2, o3, o4, o5, o6, o7], [.inl 0, .inl s1, .inr (.inr b0)], σ) rfl ?_ ?_
  · exact trivial
  · exact k
set_option maxRecDepth 8000 in
theorem b157_199 {d : Nat} {Φ : Option pe_V → pe_H → Prop} {σ : pe_H} {x1 : Int} {o2 : Option pe_V} {o3 : Option pe_V} {o4 : Option pe_V} {o5 : Option pe_V} {o6 : Option pe_V} {o7 : Option pe_V} {b0 : Nat} {s1 : Int} {s2 : Int} (hL : ll_L σ := by assumption)  (h0 : pe_K σ b0 = 19 := by first | assumption | omega) (k : pe_X d 157 (203, [some (.inr (.inr 3)), some (.inl x1), o2, o3, o4, o5, o6, o7], [], pe_wI σ b0 3 (s1 + s2)) Φ) : pe_X d 157 (199, [some (.inr (.inr 3)), some (.inl x1), o2, o3, o4, o5, o6, o7], [.inl s2, .inl s1, .inr (.inr b0)], σ) Φ := by
  refine pe_blk 96 2 ck157 [pe_K σ b0 = 19] (203, [some (.inr (.inr 3)), some (.inl x1), o2, o3, o4, o5, o6, o7], [], pe_wI σ b0 3 (s1 + s2)) rfl ?_ ?_
  · first
    | (simp (disch := omega) only [pe_all, pe_K_wI, pe_K_wR]; done)
    | (simp (disch := omega) only [pe_all, pe_K_wI, pe_K_wR]; (repeat' apply And.intro) <;> first | assumption | omega | decide)
  · try simp (disch := omega) only [pe_K_wI, pe_K_wR]
    exact k
set_option maxRecDepth 8000 in
theorem b157_203 {d : Nat} {Φ : Option pe_V → pe_H → Prop} {σ : pe_H} {x1 : Int} {o2 : Option pe_V} {o3 : Option pe_V} {o4 : Option pe_V} {o5 : Option pe_V} {o6 : Option pe_V} {o7 : Option pe_V} (hL : ll_L σ := by assumption)   (k : pe_X d 157 (266, [some (.inr (.inr 3)), some (.inl x1), o2, o3, o4, o5, o6, o7], [], σ) Φ) : pe_X d 157 (203, [some (.inr (.inr 3)), some (.inl x1), o2, o3, o4, o5, o6, o7], [], σ) Φ := by
  refine pe_blk 98 1 ck157 [] (266, [some (.inr (.inr 3)), some (.inl x1), o2, o3, o4, o5, o6, o7], [], σ) rfl ?_ ?_
  · exact trivial
  · exact k
set_option maxRecDepth 8000 in
theorem b157_206 {d : Nat} {Φ : Option pe_V → pe_H → Prop} {σ : pe_H} {x1 : Int} {x2 : Int} {a3 : Nat} {a4 : Nat} {x5 : Int} {x6 : Int} {x7 : Int} (hL : ll_L σ := by assumption) (w0 : pe_in x5 := by unfold pe_in; omega)  (k1 : ¬ x5 = 102 → pe_X d 157 (222, [some (.inr (.inr 3)), some (.inl x1), some (.inl x2), some (.inr (.inr a3)), some (.inr (.inr a4)), some (.inl x5), some (.inl x6), some (.inl x7)], [], σ) Φ) (k2 : x5 = 102 → pe_X d 157 (213, [some (.inr (.inr 3)), some (.inl x1), some (.inl x2), some (.inr (.inr a3)), some (.inr (.inr a4)), some (.inl x5), some (.inl x6), some (.inl x7)], [], σ) Φ) : pe_X d 157 (206, [some (.inr (.inr 3)), some (.inl x1), some (.inl x2), some (.inr (.inr a3)), some (.inr (.inr a4)), some (.inl x5), some (.inl x6), some (.inl x7)], [], σ) Φ := by
  refine pe_blk 99 3 ck157 [] (cond (decide (¬ (pe_w x5) = (pe_w 102))) 222 213, [some (.inr (.inr 3)), some (.inl x1), some (.inl x2), some (.inr (.inr a3)), some (.inr (.inr a4)), some (.inl x5), some (.inl x6), some (.inl x7)], [], σ) rfl ?_ ?_
  · exact trivial
  · try simp (disch := omega) only [pe_wi w0, pe_wi (x := 102) ⟨by decide, by decide⟩]
    exact pe_two' k1 k2
set_option maxRecDepth 8000 in
theorem b157_213 {d : Nat} {Φ : Option pe_V → pe_H → Prop} {σ : pe_H} {x1 : Int} {o2 : Option pe_V} {o3 : Option pe_V} {a4 : Nat} {o5 : Option pe_V} {o6 : Option pe_V} {o7 : Option pe_V} (hL : ll_L σ := by assumption)  (h0 : pe_K σ a4 = 19 := by first | assumption | omega) (k : pe_X d 157 (219, [some (.inr (.inr 3)), some (.inl x1), o2, o3, some (.inr (.inr a4)), o5, o6, o7], [], pe_wI σ a4 5 1) Φ) : pe_X d 157 (213, [some (.inr (.inr 3)), some (.inl x1), o2, o3, some (.inr (.inr a4)), o5, o6, o7], [], σ) Φ := by
  refine pe_blk 102 3 ck157 [pe_K σ a4 = 19, 1 = 0 ∨ 1 = 1] (219, [some (.inr (.inr 3)), some (.inl x1), o2, o3, some (.inr (.inr a4)), o5, o6, o7], [], pe_wI σ a4 5 1) rfl ?_ ?_
  · first
    | (simp (disch := omega) only [pe_all, pe_K_wI, pe_K_wR]; done)
    | (simp (disch := omega) only [pe_all, pe_K_wI, pe_K_wR]; (repeat' apply And.intro) <;> first | assumption | omega | decide)
  · try simp (disch := omega) only [pe_K_wI, pe_K_wR]
    exact k
set_option maxRecDepth 8000 in
theorem b157_219 {d : Nat} {Φ : Option pe_V → pe_H → Prop} {σ : pe_H} {x1 : Int} {o2 : Option pe_V} {o3 : Option pe_V} {o4 : Option pe_V} {o5 : Option pe_V} {o6 : Option pe_V} {o7 : Option pe_V} (hL : ll_L σ := by assumption)   (k : pe_X d 157 (266, [some (.inr (.inr 3)), some (.inl x1), o2, o3, o4, o5, o6, o7], [], σ) Φ) : pe_X d 157 (219, [some (.inr (.inr 3)), some (.inl x1), o2, o3, o4, o5, o6, o7], [], σ) Φ := by
  refine pe_blk 105 1 ck157 [] (266, [some (.inr (.inr 3)), some (.inl x1), o2, o3, o4, o5, o6, o7], [], σ) rfl ?_ ?_
  · exact trivial
  · exact k
set_option maxRecDepth 8000 in
theorem b157_222 {d : Nat} {Φ : Option pe_V → pe_H → Prop} {σ : pe_H} {x1 : Int} {x2 : Int} {a3 : Nat} {a4 : Nat} {x5 : Int} {x6 : Int} {x7 : Int} (hL : ll_L σ := by assumption) (w0 : pe_in x5 := by unfold pe_in; omega)  (k1 : ¬ x5 = 116 → pe_X d 157 (246, [some (.inr (.inr 3)), some (.inl x1), some (.inl x2), some (.inr (.inr a3)), some (.inr (.inr a4)), some (.inl x5), some (.inl x6), some (.inl x7)], [], σ) Φ) (k2 : x5 = 116 → pe_X d 157 (229, [some (.inr (.inr 3)), some (.inl x1), some (.inl x2), some (.inr (.inr a3)), some (.inr (.inr a4)), some (.inl x5), some (.inl x6), some (.inl x7)], [], σ) Φ) : pe_X d 157 (222, [some (.inr (.inr 3)), some (.inl x1), some (.inl x2), some (.inr (.inr a3)), some (.inr (.inr a4)), some (.inl x5), some (.inl x6), some (.inl x7)], [], σ) Φ := by
  refine pe_blk 106 3 ck157 [] (cond (decide (¬ (pe_w x5) = (pe_w 116))) 246 229, [some (.inr (.inr 3)), some (.inl x1), some (.inl x2), some (.inr (.inr a3)), some (.inr (.inr a4)), some (.inl x5), some (.inl x6), some (.inl x7)], [], σ) rfl ?_ ?_
  · exact trivial
  · try simp (disch := omega) only [pe_wi w0, pe_wi (x := 116) ⟨by decide, by decide⟩]
    exact pe_two' k1 k2
set_option maxRecDepth 8000 in
theorem b157_229 {d : Nat} {Φ : Option pe_V → pe_H → Prop} {σ : pe_H} {x1 : Int} {o2 : Option pe_V} {a3 : Nat} {o4 : Option pe_V} {o5 : Option pe_V} {x6 : Int} {o7 : Option pe_V} (hL : ll_L σ := by assumption)  (h0 : ¬ (pe_n σ) = 0 := by first | assumption | omega) (k : pe_M d 132 [.inr (.inr (pe_n σ)), .inl x6, .inr (.inr 0)] (pe_new σ 9 0 2) (fun r σ' => pe_X d 157 (240, [some (.inr (.inr 3)), some (.inl x1), o2, some (.inr (.inr a3)), o4, o5, some (.inl x6), o7], r.toList ++ [.inr (.inr (pe_n σ)), .inr (.inr a3)], σ') Φ)) : pe_X d 157 (229, [some (.inr (.inr 3)), some (.inl x1), o2, some (.inr (.inr a3)), o4, o5, some (.inl x6), o7], [], σ) Φ := by
  refine pe_blk 109 5 ck157 [] (237, [some (.inr (.inr 3)), some (.inl x1), o2, some (.inr (.inr a3)), o4, o5, some (.inl x6), o7], [.inr (.inr 0), .inl x6, .inr (.inr (pe_n σ)), .inr (.inr (pe_n σ)), .inr (.inr a3)], pe_new σ 9 0 2) rfl ?_ ?_
  · exact trivial
  · exact pe_cal 114 ck157 rfl rfl rfl (show ¬ _ = 0 by assumption) k
set_option maxRecDepth 8000 in
theorem b157_240 {d : Nat} {Φ : Option pe_V → pe_H → Prop} {σ : pe_H} {x1 : Int} {o2 : Option pe_V} {o3 : Option pe_V} {o4 : Option pe_V} {o5 : Option pe_V} {o6 : Option pe_V} {o7 : Option pe_V} {b0 : Nat} {b1 : Nat} (hL : ll_L σ := by assumption)  (h0 : pe_K σ b0 = 20 := by first | assumption | omega) (k : pe_M d 139 [.inr (.inr b0), .inr (.inr b1)] σ (fun r σ' => pe_X d 157 (243, [some (.inr (.inr 3)), some (.inl x1), o2, o3, o4, o5, o6, o7], r.toList ++ [], σ') Φ)) : pe_X d 157 (240, [some (.inr (.inr 3)), some (.inl x1), o2, o3, o4, o5, o6, o7], [.inr (.inr b1), .inr (.inr b0)], σ) Φ := by
  have hrc : pe_K σ b0 = 20 := by first | assumption | (simp (disch := omega) only [pe_K_wI, pe_K_wR]; done) | (simp (disch := omega) only [pe_K_wI, pe_K_wR]; assumption)
  exact pe_cal 115 ck157 rfl rfl rfl ⟨hrc, by decide⟩ k
set_option maxRecDepth 8000 in
theorem b157_243 {d : Nat} {Φ : Option pe_V → pe_H → Prop} {σ : pe_H} {x1 : Int} {o2 : Option pe_V} {o3 : Option pe_V} {o4 : Option pe_V} {o5 : Option pe_V} {o6 : Option pe_V} {o7 : Option pe_V} (hL : ll_L σ := by assumption)   (k : pe_X d 157 (266, [some (.inr (.inr 3)), some (.inl x1), o2, o3, o4, o5, o6, o7], [], σ) Φ) : pe_X d 157 (243, [some (.inr (.inr 3)), some (.inl x1), o2, o3, o4, o5, o6, o7], [], σ) Φ := by
  refine pe_blk 116 1 ck157 [] (266, [some (.inr (.inr 3)), some (.inl x1), o2, o3, o4, o5, o6, o7], [], σ) rfl ?_ ?_
  · exact trivial
  · exact k
set_option maxRecDepth 8000 in
theorem b157_246 {d : Nat} {Φ : Option pe_V → pe_H → Prop} {σ : pe_H} {x1 : Int} {x2 : Int} {o3 : Option pe_V} {a4 : Nat} {x5 : Int} {x6 : Int} {x7 : Int} (hL : ll_L σ := by assumption) (w0 : pe_in x7 := by unfold pe_in; omega)  (k1 : x7 = 0 → pe_X d 157 (266, [some (.inr (.inr 3)), some (.inl x1), some (.inl x2), o3, some (.inr (.inr a4)), some (.inl x5), some (.inl x6), some (.inl x7)], [], σ) Φ) (k2 : ¬ (x7 = 0) → pe_X d 157 (251, [some (.inr (.inr 3)), some (.inl x1), some (.inl x2), o3, some (.inr (.inr a4)), some (.inl x5), some (.inl x6), some (.inl x7)], [], σ) Φ) : pe_X d 157 (246, [some (.inr (.inr 3)), some (.inl x1), some (.inl x2), o3, some (.inr (.inr a4)), some (.inl x5), some (.inl x6), some (.inl x7)], [], σ) Φ := by
  refine pe_blk 117 2 ck157 [] (cond (decide ((pe_w x7) = 0)) 266 251, [some (.inr (.inr 3)), some (.inl x1), some (.inl x2), o3, some (.inr (.inr a4)), some (.inl x5), some (.inl x6), some (.inl x7)], [], σ) rfl ?_ ?_
  · exact trivial
  · try simp (disch := omega) only [pe_wi w0]
    exact pe_two k1 k2
set_option maxRecDepth 8000 in
theorem b157_251 {d : Nat} {Φ : Option pe_V → pe_H → Prop} {σ : pe_H} {x1 : Int} {x2 : Int} {o3 : Option pe_V} {a4 : Nat} {x5 : Int} {x6 : Int} {o7 : Option pe_V} (hL : ll_L σ := by assumption) (w0 : pe_in x2 := by unfold pe_in; omega)  (k1 : ¬ x2 = 0 → pe_X d 157 (266, [some (.inr (.inr 3)), some (.inl x1), some (.inl x2), o3, some (.inr (.inr a4)), some (.inl x5), some (.inl x6), o7], [], σ) Φ) (k2 : x2 = 0 → pe_X d 157 (255, [some (.inr (.inr 3)), some (.inl x1), some (.inl x2), o3, some (.inr (.inr a4)), some (.inl x5), some (.inl x6), o7], [], σ) Φ) : pe_X d 157 (251, [some (.inr (.inr 3)), some (.inl x1), some (.inl x2), o3, some (.inr (.inr a4)), some (.inl x5), some (.inl x6), o7], [], σ) Φ := by
  refine pe_blk 119 2 ck157 [] (cond (decide (¬ (pe_w x2) = 0)) 266 255, [some (.inr (.inr 3)), some (.inl x1), some (.inl x2), o3, some (.inr (.inr a4)), some (.inl x5), some (.inl x6), o7], [], σ) rfl ?_ ?_
  · exact trivial
  · try simp (disch := omega) only [pe_wi w0]
    exact pe_two' k1 k2
set_option maxRecDepth 8000 in
theorem b157_255 {d : Nat} {Φ : Option pe_V → pe_H → Prop} {σ : pe_H} {x1 : Int} {o2 : Option pe_V} {o3 : Option pe_V} {a4 : Nat} {x5 : Int} {x6 : Int} {o7 : Option pe_V} (hL : ll_L σ := by assumption)   (k : pe_M d 158 [.inr (.inr 3), .inl x1, .inr (.inr a4), .inl x5, .inl x6] σ (fun r σ' => pe_X d 157 (266, [some (.inr (.inr 3)), some (.inl x1), o2, o3, some (.inr (.inr a4)), some (.inl x5), some (.inl x6), o7], r.toList ++ [], σ') Φ)) : pe_X d 157 (255, [some (.inr (.inr 3)), some (.inl x1), o2, o3, some (.inr (.inr a4)), some (.inl x5), some (.inl x6), o7], [], σ) Φ := by
  refine pe_blk 121 5 ck157 [] (263, [some (.inr (.inr 3)), some (.inl x1), o2, o3, some (.inr (.inr a4)), some (.inl x5), some (.inl x6), o7], [.inl x6, .inl x5, .inr (.inr a4), .inl x1, .inr (.inr 3)], σ) rfl ?_ ?_
  · exact trivial
  · try simp (disch := omega) only [ll_k3 hL, pe_K_wI, pe_K_wR]
    have hrc : pe_K σ 3 = 21 := by first | assumption | (simp (disch := omega) only [ll_k3 hL, pe_K_wI, pe_K_wR]; done) | (simp (disch := omega) only [ll_k3 hL, pe_K_wI, pe_K_wR]; assumption)
    exact pe_cal 126 ck157 rfl rfl rfl ⟨hrc, by decide⟩ k
set_option maxRecDepth 8000 in
theorem b157_266 {d : Nat} {Φ : Option pe_V → pe_H → Prop} {σ : pe_H} {x1 : Int} {o2 : Option pe_V} {o3 : Option pe_V} {o4 : Option pe_V} {o5 : Option pe_V} {o6 : Option pe_V} {o7 : Option pe_V} (hL : ll_L σ := by assumption)   (k : pe_M d 155 [.inr (.inr 3), .inl x1] σ (fun r σ' => pe_X d 157 (271, [some (.inr (.inr 3)), some (.inl x1), o2, o3, o4, o5, o6, o7], r.toList ++ [], σ') Φ)) : pe_X d 157 (266, [some (.inr (.inr 3)), some (.inl x1), o2, o3, o4, o5, o6, o7], [], σ) Φ := by
  refine pe_blk 127 2 ck157 [] (268, [some (.inr (.inr 3)), some (.inl x1), o2, o3, o4, o5, o6, o7], [.inl x1, .inr (.inr 3)], σ) rfl ?_ ?_
  · exact trivial
  · try simp (disch := omega) only [ll_k3 hL, pe_K_wI, pe_K_wR]
    have hrc : pe_K σ 3 = 21 := by first | assumption | (simp (disch := omega) only [ll_k3 hL, pe_K_wI, pe_K_wR]; done) | (simp (disch := omega) only [ll_k3 hL, pe_K_wI, pe_K_wR]; assumption)
    exact pe_cal 129 ck157 rfl rfl rfl ⟨hrc, by decide⟩ k
set_option maxRecDepth 8000 in
theorem b157_271 {d : Nat} {Φ : Option pe_V → pe_H → Prop} {σ : pe_H} {o1 : Option pe_V} {o2 : Option pe_V} {o3 : Option pe_V} {o4 : Option pe_V} {o5 : Option pe_V} {o6 : Option pe_V} {o7 : Option pe_V} (hL : ll_L σ := by assumption)   (k : Φ none σ) : pe_X d 157 (271, [some (.inr (.inr 3)), o1, o2, o3, o4, o5, o6, o7], [], σ) Φ := by
  exact pe_fine 130 ck157 rfl rfl rfl trivial k
-- StepMachinesLaw.does(ILStepMachinesLaw$Frame;II)V
def T158 : List (Nat × Instr × Nat) := [(0, .aload_n 0, 1), (1, .getfield 31, 3), (4, .iload_n 1, 1), (5, .aaload, 1), (6, .astore 5, 2), (8, .iload_n 3, 1), (9, .bipush 121, 2), (11, .if_icmp .ne 112, 3), (14, .aload 5, 2), (16, .getfield 77, 3), (19, .iload 4, 2), (21, .iadd, 1), (22, .sipush 1000, 3), (25, .irem, 1), (26, .istore 6, 2), (28, .aload 5, 2), (30, .aload 5, 2), (32, .getfield 133, 3), (35, .iconst 3, 1), (36, .if_icmp .ne 18, 3), (39, .iload 6, 2), (41, .aload 5, 2), (43, .getfield 136, 3), (46, .iadd, 1), (47, .sipush 1000, 3), (50, .irem, 1), (51, .goto 30, 3), (54, .aload 5, 2), (56, .getfield 133, 3), (59, .iconst 2, 1), (60, .if_icmp .eq 12, 3), (63, .aload 5, 2), (65, .getfield 133, 3), (68, .iconst 4, 1), (69, .if_icmp .ne 10, 3), (72, .iload 6, 2), (74, .iconst 2, 1), (75, .idiv, 1), (76, .goto 5, 3), (79, .iload 6, 2), (81, .putfield 139, 3), (84, .aload 5, 2), (86, .sipush 999, 3), (89, .aload 5, 2), (91, .getfield 142, 3), (94, .iconst 1, 1), (95, .iadd, 1), (96, .invokestatic 145, 3), (99, .putfield 142, 3), (102, .aload 5, 2), (104, .iconst 2, 1), (105, .putfield 67, 3), (108, .aload_n 0, 1), (109, .dup, 1), (110, .getfield 151, 3), (113, .iconst 1, 1), (114, .iload_n 1, 1), (115, .ishl, 1), (116, .ior, 1), (117, .putfield 151, 3), (120, .goto 137, 3), (123, .iload_n 3, 1), (124, .bipush 114, 2), (126, .if_icmp .ne 37, 3), (129, .aload_n 2, 1), (130, .getfield 125, 3), (133, .ifCond .ne 124, 3), (136, .aload_n 2, 1), (137, .getfield 154, 3), (140, .iload 4, 2), (142, .if_icmp .ge 115, 3), (145, .aload_n 2, 1), (146, .dup, 1), (147, .getfield 154, 3), (150, .iconst 1, 1), (151, .iadd, 1), (152, .putfield 154, 3), (155, .aload_n 2, 1), (156, .iconst 0, 1), (157, .putfield 115, 3), (160, .goto 97, 3), (163, .iload_n 3, 1), (164, .bipush 100, 2), (166, .if_icmp .ne 83, 3), (169, .aload 5, 2), (171, .getfield 157, 3), (174, .bipush 6, 2), (176, .if_icmp .eq 9, 3), (179, .iload 4, 2), (181, .iconst 4, 1), (182, .if_icmp .le 36, 3), (185, .aload 5, 2), (187, .new 80, 3), (190, .dup, 1), (191, .aload 5, 2), (193, .getfield 157, 3), (196, .bipush 6, 2), (198, .if_icmp .ne 8, 3), (201, .bipush 7, 2), (203, .goto 5, 3), (206, .bipush 6, 2), (208, .aconst_null, 1), (209, .invokespecial 86, 3), (212, .invokevirtual 89, 3), (215, .goto 42, 3), (218, .aload 5, 2), (220, .getfield 160, 3), (223, .aload 5, 2), (225, .getfield 157, 3), (228, .aload_n 0, 1), (229, .iload 4, 2), (231, .invokevirtual 164, 3), (234, .aastore, 1), (235, .aload 5, 2), (237, .dup, 1), (238, .getfield 157, 3), (241, .iconst 1, 1), (242, .iadd, 1), (243, .putfield 157, 3), (246, .goto 11, 3), (249, .aload_n 0, 1), (250, .iload_n 1, 1), (251, .iload_n 3, 1), (252, .iload 4, 2), (254, .invokevirtual 168, 3), (257, .return_, 1)]
theorem ck158 : pe_ctx 158 21 false none 7 T158 := ⟨rfl, rfl, rfl, rfl, by decide +kernel, by decide, by decide⟩
theorem b158_0 {d : Nat} {Φ : Option pe_V → pe_H → Prop} {σ : pe_H} {x1 : Int} {a2 : Nat} {x3 : Int} {x4 : Int} {o5 : Option pe_V} {o6 : Option pe_V} (hL : ll_L σ := by assumption) (w0 : pe_in x1 := by unfold pe_in; omega) (h0 : 0 ≤ x1 := by first | assumption | omega) (h1 : x1 < 8 := by first | assumption | omega) (k : pe_X d 158 (8, [some (.inr (.inr 3)), some (.inl x1), some (.inr (.inr a2)), some (.inl x3), some (.inl x4), some (.inr (.inr (pe_R σ 891 x1))), o6], [], σ) Φ) : pe_X d 158 (0, [some (.inr (.inr 3)), some (.inl x1), some (.inr (.inr a2)), some (.inl x3), some (.inl x4), o5, o6], [], σ) Φ := by
  refine pe_blk 0 5 ck158 [pe_K σ 3 = 21, 22 ≤ pe_K σ (pe_R σ 3 6) ∧ pe_K σ (pe_R σ 3 6) < 25, 0 ≤ (pe_w x1), (pe_w x1) < pe_L σ (pe_R σ 3 6)] (8, [some (.inr (.inr 3)), some (.inl x1), some (.inr (.inr a2)), some (.inl x3), some (.inl x4), some (.inr (.inr (pe_R σ (pe_R σ 3 6) (pe_w x1)))), o6], [], σ) rfl ?_ ?_
  · first
    | (simp (disch := omega) only [pe_all, pe_wi w0, ll_e6 hL, ll_k3 hL, ll_k891 hL, ll_n891 hL, pe_K_wI, pe_K_wR, pe_L_wI, pe_L_wR, pe_R_nej, pe_R_ner, pe_R_wI]; done)
    | (simp (disch := omega) only [pe_all, pe_wi w0, ll_e6 hL, ll_k3 hL, ll_k891 hL, ll_n891 hL, pe_K_wI, pe_K_wR, pe_L_wI, pe_L_wR, pe_R_nej, pe_R_ner, pe_R_wI]; (repeat' apply And.intro) <;> first | assumption | omega | decide)
  · try simp (disch := omega) only [pe_wi w0, ll_e6 hL, ll_k3 hL, ll_k891 hL, ll_n891 hL, pe_K_wI, pe_K_wR, pe_L_wI, pe_L_wR, pe_R_nej, pe_R_ner, pe_R_wI]
    exact k
theorem b158_8 {d : Nat} {Φ : Option pe_V → pe_H → Prop} {σ : pe_H} {x1 : Int} {a2 : Nat} {x3 : Int} {x4 : Int} {a5 : Nat} {o6 : Option pe_V} (hL : ll_L σ := by assumption) (w0 : pe_in x3 := by unfold pe_in; omega)  (k1 : ¬ x3 = 121 → pe_X d 158 (123, [some (.inr (.inr 3)), some (.inl x1), some (.inr (.inr a2)), some (.inl x3), some (.inl x4), some (.inr (.inr a5)), o6], [], σ) Φ) (k2 : x3 = 121 → pe_X d 158 (14, [some (.inr (.inr 3)), some (.inl x1), some (.inr (.inr a2)), some (.inl x3), some (.inl x4), some (.inr (.inr a5)), o6], [], σ) Φ) : pe_X d 158 (8, [some (.inr (.inr 3)), some (.inl x1), some (.inr (.inr a2)), some (.inl x3), some (.inl x4), some (.inr (.inr a5)), o6], [], σ) Φ := by
  refine pe_blk 5 3 ck158 [] (cond (decide (¬ (pe_w x3) = (pe_w 121))) 123 14, [some (.inr (.inr 3)), some (.inl x1), some (.inr (.inr a2)), some (.inl x3), some (.inl x4), some (.inr (.inr a5)), o6], [], σ) rfl ?_ ?_
  · exact trivial
  · try simp (disch := omega) only [pe_wi w0, pe_wi (x := 121) ⟨by decide, by decide⟩]
    exact pe_two' k1 k2
theorem b158_14 {d : Nat} {Φ : Option pe_V → pe_H → Prop} {σ : pe_H} {x1 : Int} {o2 : Option pe_V} {o3 : Option pe_V} {x4 : Int} {a5 : Nat} {o6 : Option pe_V} (hL : ll_L σ := by assumption) (w0 : pe_in ((pe_I σ a5 4) + x4) := by unfold pe_in; omega) (w1 : pe_in (pe_I σ a5 1) := by unfold pe_in; omega) (h0 : pe_K σ a5 = 20 := by first | assumption | omega) (h1 : ¬ 1000 = 0 := by first | assumption | omega) (k1 : ¬ (pe_I σ a5 1) = 3 → pe_X d 158 (54, [some (.inr (.inr 3)), some (.inl x1), o2, o3, some (.inl x4), some (.inr (.inr a5)), some (.inl (Int.tmod ((pe_I σ a5 4) + x4) 1000))], [.inr (.inr a5)], σ) Φ) (k2 : (pe_I σ a5 1) = 3 → pe_X d 158 (39, [some (.inr (.inr 3)), some (.inl x1), o2, o3, some (.inl x4), some (.inr (.inr a5)), some (.inl (Int.tmod ((pe_I σ a5 4) + x4) 1000))], [.inr (.inr a5)], σ) Φ) : pe_X d 158 (14, [some (.inr (.inr 3)), some (.inl x1), o2, o3, some (.inl x4), some (.inr (.inr a5)), o6], [], σ) Φ := by
  refine pe_blk 8 12 ck158 [pe_K σ a5 = 20, ¬ (pe_w 1000) = 0, pe_K σ a5 = 20] (cond (decide (¬ (pe_w (pe_I σ a5 1)) = (pe_w 3))) 54 39, [some (.inr (.inr 3)), some (.inl x1), o2, o3, some (.inl x4), some (.inr (.inr a5)), some (.inl (Int.tmod (pe_w ((pe_I σ a5 4) + x4)) (pe_w 1000)))], [.inr (.inr a5)], σ) rfl ?_ ?_
  · first
    | (simp (disch := omega) only [pe_all, pe_wi w0, pe_wi w1, pe_wi (x := 1000) ⟨by decide, by decide⟩, pe_wi (x := 3) ⟨by decide, by decide⟩, pe_K_wI, pe_K_wR]; done)
    | (simp (disch := omega) only [pe_all, pe_wi w0, pe_wi w1, pe_wi (x := 1000) ⟨by decide, by decide⟩, pe_wi (x := 3) ⟨by decide, by decide⟩, pe_K_wI, pe_K_wR]; (repeat' apply And.intro) <;> first | assumption | omega | decide)
  · try simp (disch := omega) only [pe_wi w0, pe_wi w1, pe_wi (x := 1000) ⟨by decide, by decide⟩, pe_wi (x := 3) ⟨by decide, by decide⟩, pe_K_wI, pe_K_wR]
    exact pe_two' k1 k2
theorem b158_39 {d : Nat} {Φ : Option pe_V → pe_H → Prop} {σ : pe_H} {x1 : Int} {o2 : Option pe_V} {o3 : Option pe_V} {o4 : Option pe_V} {a5 : Nat} {x6 : Int} {b0 : Nat} (hL : ll_L σ := by assumption) (w0 : pe_in (x6 + (pe_I σ a5 2)) := by unfold pe_in; omega) (h0 : pe_K σ a5 = 20 := by first | assumption | omega) (h1 : ¬ 1000 = 0 := by first | assumption | omega) (k : pe_X d 158 (81, [some (.inr (.inr 3)), some (.inl x1), o2, o3, o4, some (.inr (.inr a5)), some (.inl x6)], [.inl (Int.tmod (x6 + (pe_I σ a5 2)) 1000), .inr (.inr b0)], σ) Φ) : pe_X d 158 (39, [some (.inr (.inr 3)), some (.inl x1), o2, o3, o4, some (.inr (.inr a5)), some (.inl x6)], [.inr (.inr b0)], σ) Φ := by
  refine pe_blk 20 7 ck158 [pe_K σ a5 = 20, ¬ (pe_w 1000) = 0] (81, [some (.inr (.inr 3)), some (.inl x1), o2, o3, o4, some (.inr (.inr a5)), some (.inl x6)], [.inl (Int.tmod (pe_w (x6 + (pe_I σ a5 2))) (pe_w 1000)), .inr (.inr b0)], σ) rfl ?_ ?_
  · first
    | (simp (disch := omega) only [pe_all, pe_wi w0, pe_wi (x := 1000) ⟨by decide, by decide⟩, pe_K_wI, pe_K_wR]; done)
    | (simp (disch := omega) only [pe_all, pe_wi w0, pe_wi (x := 1000) ⟨by decide, by decide⟩, pe_K_wI, pe_K_wR]; (repeat' apply And.intro) <;> first | assumption | omega | decide)
  · try simp (disch := omega) only [pe_wi w0, pe_wi (x := 1000) ⟨by decide, by decide⟩, pe_K_wI, pe_K_wR]
    exact k
theorem b158_54 {d : Nat} {Φ : Option pe_V → pe_H → Prop} {σ : pe_H} {x1 : Int} {o2 : Option pe_V} {o3 : Option pe_V} {o4 : Option pe_V} {a5 : Nat} {x6 : Int} {b0 : Nat} (hL : ll_L σ := by assumption) (w0 : pe_in (pe_I σ a5 1) := by unfold pe_in; omega) (h0 : pe_K σ a5 = 20 := by first | assumption | omega) (k1 : (pe_I σ a5 1) = 2 → pe_X d 158 (72, [some (.inr (.inr 3)), some (.inl x1), o2, o3, o4, some (.inr (.inr a5)), some (.inl x6)], [.inr (.inr b0)], σ) Φ) (k2 : ¬ ((pe_I σ a5 1) = 2) → pe_X d 158 (63, [some (.inr (.inr 3)), some (.inl x1), o2, o3, o4, some (.inr (.inr a5)), some (.inl x6)], [.inr (.inr b0)], σ) Φ) : pe_X d 158 (54, [some (.inr (.inr 3)), some (.inl x1), o2, o3, o4, some (.inr (.inr a5)), some (.inl x6)], [.inr (.inr b0)], σ) Φ := by
  refine pe_blk 27 4 ck158 [pe_K σ a5 = 20] (cond (decide ((pe_w (pe_I σ a5 1)) = (pe_w 2))) 72 63, [some (.inr (.inr 3)), some (.inl x1), o2, o3, o4, some (.inr (.inr a5)), some (.inl x6)], [.inr (.inr b0)], σ) rfl ?_ ?_
  · first
    | (simp (disch := omega) only [pe_all, pe_wi w0, pe_wi (x := 2) ⟨by decide, by decide⟩, pe_K_wI, pe_K_wR]; done)
    | (simp (disch := omega) only [pe_all, pe_wi w0, pe_wi (x := 2) ⟨by decide, by decide⟩, pe_K_wI, pe_K_wR]; (repeat' apply And.intro) <;> first | assumption | omega | decide)
  · try simp (disch := omega) only [pe_wi w0, pe_wi (x := 2) ⟨by decide, by decide⟩, pe_K_wI, pe_K_wR]
    exact pe_two k1 k2
theorem b158_63 {d : Nat} {Φ : Option pe_V → pe_H → Prop} {σ : pe_H} {x1 : Int} {o2 : Option pe_V} {o3 : Option pe_V} {o4 : Option pe_V} {a5 : Nat} {x6 : Int} {b0 : Nat} (hL : ll_L σ := by assumption) (w0 : pe_in (pe_I σ a5 1) := by unfold pe_in; omega) (h0 : pe_K σ a5 = 20 := by first | assumption | omega) (k1 : ¬ (pe_I σ a5 1) = 4 → pe_X d 158 (79, [some (.inr (.inr 3)), some (.inl x1), o2, o3, o4, some (.inr (.inr a5)), some (.inl x6)], [.inr (.inr b0)], σ) Φ) (k2 : (pe_I σ a5 1) = 4 → pe_X d 158 (72, [some (.inr (.inr 3)), some (.inl x1), o2, o3, o4, some (.inr (.inr a5)), some (.inl x6)], [.inr (.inr b0)], σ) Φ) : pe_X d 158 (63, [some (.inr (.inr 3)), some (.inl x1), o2, o3, o4, some (.inr (.inr a5)), some (.inl x6)], [.inr (.inr b0)], σ) Φ := by
  refine pe_blk 31 4 ck158 [pe_K σ a5 = 20] (cond (decide (¬ (pe_w (pe_I σ a5 1)) = (pe_w 4))) 79 72, [some (.inr (.inr 3)), some (.inl x1), o2, o3, o4, some (.inr (.inr a5)), some (.inl x6)], [.inr (.inr b0)], σ) rfl ?_ ?_
  · first
    | (simp (disch := omega) only [pe_all, pe_wi w0, pe_wi (x := 4) ⟨by decide, by decide⟩, pe_K_wI, pe_K_wR]; done)
    | (simp (disch := omega) only [pe_all, pe_wi w0, pe_wi (x := 4) ⟨by decide, by decide⟩, pe_K_wI, pe_K_wR]; (repeat' apply And.intro) <;> first | assumption | omega | decide)
  · try simp (disch := omega) only [pe_wi w0, pe_wi (x := 4) ⟨by decide, by decide⟩, pe_K_wI, pe_K_wR]
    exact pe_two' k1 k2
theorem b158_72 {d : Nat} {Φ : Option pe_V → pe_H → Prop} {σ : pe_H} {x1 : Int} {o2 : Option pe_V} {o3 : Option pe_V} {o4 : Option pe_V} {a5 : Nat} {x6 : Int} {b0 : Nat} (hL : ll_L σ := by assumption) (w0 : pe_in x6 := by unfold pe_in; omega) (h0 : ¬ 2 = 0 := by first | assumption | omega) (k : pe_X d 158 (81, [some (.inr (.inr 3)), some (.inl x1), o2, o3, o4, some (.inr (.inr a5)), some (.inl x6)], [.inl (Int.tdiv x6 2), .inr (.inr b0)], σ) Φ) : pe_X d 158 (72, [some (.inr (.inr 3)), some (.inl x1), o2, o3, o4, some (.inr (.inr a5)), some (.inl x6)], [.inr (.inr b0)], σ) Φ := by
  refine pe_blk 35 4 ck158 [¬ (pe_w 2) = 0] (81, [some (.inr (.inr 3)), some (.inl x1), o2, o3, o4, some (.inr (.inr a5)), some (.inl x6)], [.inl (Int.tdiv (pe_w x6) (pe_w 2)), .inr (.inr b0)], σ) rfl ?_ ?_
  · first
    | (simp (disch := omega) only [pe_all, pe_wi w0, pe_wi (x := 2) ⟨by decide, by decide⟩]; done)
    | (simp (disch := omega) only [pe_all, pe_wi w0, pe_wi (x := 2) ⟨by decide, by decide⟩]; (repeat' apply And.intro) <;> first | assumption | omega | decide)
  · try simp (disch := omega) only [pe_wi w0, pe_wi (x := 2) ⟨by decide, by decide⟩]
    exact k
theorem b158_79 {d : Nat} {Φ : Option pe_V → pe_H → Prop} {σ : pe_H} {x1 : Int} {o2 : Option pe_V} {o3 : Option pe_V} {o4 : Option pe_V} {a5 : Nat} {x6 : Int} {b0 : Nat} (hL : ll_L σ := by assumption)   (k : pe_X d 158 (81, [some (.inr (.inr 3)), some (.inl x1), o2, o3, o4, some (.inr (.inr a5)), some (.inl x6)], [.inl x6, .inr (.inr b0)], σ) Φ) : pe_X d 158 (79, [some (.inr (.inr 3)), some (.inl x1), o2, o3, o4, some (.inr (.inr a5)), some (.inl x6)], [.inr (.inr b0)], σ) Φ := by
  refine pe_blk 39 1 ck158 [] (81, [some (.inr (.inr 3)), some (.inl x1), o2, o3, o4, some (.inr (.inr a5)), some (.inl x6)], [.inl x6, .inr (.inr b0)], σ) rfl ?_ ?_
  · exact trivial
  · exact k
theorem b158_81 {d : Nat} {Φ : Option pe_V → pe_H → Prop} {σ : pe_H} {x1 : Int} {o2 : Option pe_V} {o3 : Option pe_V} {o4 : Option pe_V} {a5 : Nat} {o6 : Option pe_V} {b0 : Nat} {s1 : Int} (hL : ll_L σ := by assumption)  (h0 : pe_K σ b0 = 20 := by first | assumption | omega) (k : pe_X d 158 (84, [some (.inr (.inr 3)), some (.inl x1), o2, o3, o4, some (.inr (.inr a5)), o6], [], pe_wI σ b0 5 s1) Φ) : pe_X d 158 (81, [some (.inr (.inr 3)), some (.inl x1), o2, o3, o4, some (.inr (.inr a5)), o6], [.inl s1, .inr (.inr b0)], σ) Φ := by
  refine pe_blk 40 1 ck158 [pe_K σ b0 = 20] (84, [some (.inr (.inr 3)), some (.inl x1), o2, o3, o4, some (.inr (.inr a5)), o6], [], pe_wI σ b0 5 s1) rfl ?_ ?_
  · first
    | (simp (disch := omega) only [pe_all, pe_K_wI, pe_K_wR]; done)
    | (simp (disch := omega) only [pe_all, pe_K_wI, pe_K_wR]; (repeat' apply And.intro) <;> first | assumption | omega | decide)
  · try simp (disch := omega) only [pe_K_wI, pe_K_wR]
    exact k
theorem b158_84 {d : Nat} {Φ : Option pe_V → pe_H → Prop} {σ : pe_H} {x1 : Int} {o2 : Option pe_V} {o3 : Option pe_V} {o4 : Option pe_V} {a5 : Nat} {o6 : Option pe_V} (hL : ll_L σ := by assumption) (w0 : pe_in ((pe_I σ a5 6) + 1) := by unfold pe_in; omega) (h0 : pe_K σ a5 = 20 := by first | assumption | omega) (k : pe_X d 158 (102, [some (.inr (.inr 3)), some (.inl x1), o2, o3, o4, some (.inr (.inr a5)), o6], [], pe_wI σ a5 6 (if ((pe_I σ a5 6) + 1) < 999 then ((pe_I σ a5 6) + 1) else 999)) Φ) : pe_X d 158 (84, [some (.inr (.inr 3)), some (.inl x1), o2, o3, o4, some (.inr (.inr a5)), o6], [], σ) Φ := by
  refine pe_blk 41 8 ck158 [pe_K σ a5 = 20, pe_K σ a5 = 20] (102, [some (.inr (.inr 3)), some (.inl x1), o2, o3, o4, some (.inr (.inr a5)), o6], [], pe_wI σ a5 6 (if (pe_w ((pe_I σ a5 6) + 1)) < (pe_w 999) then ((pe_I σ a5 6) + 1) else 999)) rfl ?_ ?_
  · first
    | (simp (disch := omega) only [pe_all, pe_wi w0, pe_wi (x := 999) ⟨by decide, by decide⟩, pe_K_wI, pe_K_wR]; done)
    | (simp (disch := omega) only [pe_all, pe_wi w0, pe_wi (x := 999) ⟨by decide, by decide⟩, pe_K_wI, pe_K_wR]; (repeat' apply And.intro) <;> first | assumption | omega | decide)
  · try simp (disch := omega) only [pe_wi w0, pe_wi (x := 999) ⟨by decide, by decide⟩, pe_K_wI, pe_K_wR]
    exact k
set_option maxRecDepth 8000 in
theorem b158_102 {d : Nat} {Φ : Option pe_V → pe_H → Prop} {σ : pe_H} {x1 : Int} {o2 : Option pe_V} {o3 : Option pe_V} {o4 : Option pe_V} {a5 : Nat} {o6 : Option pe_V} (hL : ll_L σ := by assumption)  (h0 : pe_K σ a5 = 20 := by first | assumption | omega) (k : pe_X d 158 (108, [some (.inr (.inr 3)), some (.inl x1), o2, o3, o4, some (.inr (.inr a5)), o6], [], pe_wI σ a5 3 2) Φ) : pe_X d 158 (102, [some (.inr (.inr 3)), some (.inl x1), o2, o3, o4, some (.inr (.inr a5)), o6], [], σ) Φ := by
  refine pe_blk 49 3 ck158 [pe_K σ a5 = 20] (108, [some (.inr (.inr 3)), some (.inl x1), o2, o3, o4, some (.inr (.inr a5)), o6], [], pe_wI σ a5 3 2) rfl ?_ ?_
  · first
    | (simp (disch := omega) only [pe_all, pe_K_wI, pe_K_wR]; done)
    | (simp (disch := omega) only [pe_all, pe_K_wI, pe_K_wR]; (repeat' apply And.intro) <;> first | assumption | omega | decide)
  · try simp (disch := omega) only [pe_K_wI, pe_K_wR]
    exact k
set_option maxRecDepth 8000 in
theorem b158_108 {d : Nat} {Φ : Option pe_V → pe_H → Prop} {σ : pe_H} {x1 : Int} {o2 : Option pe_V} {o3 : Option pe_V} {o4 : Option pe_V} {o5 : Option pe_V} {o6 : Option pe_V} (hL : ll_L σ := by assumption)   (k : pe_X d 158 (120, [some (.inr (.inr 3)), some (.inl x1), o2, o3, o4, o5, o6], [], pe_wI σ 3 8 (pe_or (pe_I σ 3 8) (pe_shl 1 x1))) Φ) : pe_X d 158 (108, [some (.inr (.inr 3)), some (.inl x1), o2, o3, o4, o5, o6], [], σ) Φ := by
  refine pe_blk 52 8 ck158 [pe_K σ 3 = 21, pe_K σ 3 = 21] (120, [some (.inr (.inr 3)), some (.inl x1), o2, o3, o4, o5, o6], [], pe_wI σ 3 8 (pe_or (pe_I σ 3 8) (pe_shl 1 x1))) rfl ?_ ?_
  · first
    | (simp (disch := omega) only [pe_all, ll_k3 hL, pe_K_wI, pe_K_wR]; done)
    | (simp (disch := omega) only [pe_all, ll_k3 hL, pe_K_wI, pe_K_wR]; (repeat' apply And.intro) <;> first | assumption | omega | decide)
  · try simp (disch := omega) only [ll_k3 hL, pe_K_wI, pe_K_wR]
    exact k
set_option maxRecDepth 8000 in
theorem b158_120 {d : Nat} {Φ : Option pe_V → pe_H → Prop} {σ : pe_H} {o1 : Option pe_V} {o2 : Option pe_V} {o3 : Option pe_V} {o4 : Option pe_V} {o5 : Option pe_V} {o6 : Option pe_V} (hL : ll_L σ := by assumption)   (k : pe_X d 158 (257, [some (.inr (.inr 3)), o1, o2, o3, o4, o5, o6], [], σ) Φ) : pe_X d 158 (120, [some (.inr (.inr 3)), o1, o2, o3, o4, o5, o6], [], σ) Φ := by
  refine pe_blk 60 1 ck158 [] (257, [some (.inr (.inr 3)), o1, o2, o3, o4, o5, o6], [], σ) rfl ?_ ?_
  · exact trivial
  · exact k
set_option maxRecDepth 8000 in
theorem b158_123 {d : Nat} {Φ : Option pe_V → pe_H → Prop} {σ : pe_H} {x1 : Int} {a2 : Nat} {x3 : Int} {x4 : Int} {a5 : Nat} {o6 : Option pe_V} (hL : ll_L σ := by assumption) (w0 : pe_in x3 := by unfold pe_in; omega)  (k1 : ¬ x3 = 114 → pe_X d 158 (163, [some (.inr (.inr 3)), some (.inl x1), some (.inr (.inr a2)), some (.inl x3), some (.inl x4), some (.inr (.inr a5)), o6], [], σ) Φ) (k2 : x3 = 114 → pe_X d 158 (129, [some (.inr (.inr 3)), some (.inl x1), some (.inr (.inr a2)), some (.inl x3), some (.inl x4), some (.inr (.inr a5)), o6], [], σ) Φ) : pe_X d 158 (123, [some (.inr (.inr 3)), some (.inl x1), some (.inr (.inr a2)), some (.inl x3), some (.inl x4), some (.inr (.inr a5)), o6], [], σ) Φ := by
  refine pe_blk 61 3 ck158 [] (cond (decide (¬ (pe_w x3) = (pe_w 114))) 163 129, [some (.inr (.inr 3)), some (.inl x1), some (.inr (.inr a2)), some (.inl x3), some (.inl x4), some (.inr (.inr a5)), o6], [], σ) rfl ?_ ?_
  · exact trivial
  · try simp (disch := omega) only [pe_wi w0, pe_wi (x := 114) ⟨by decide, by decide⟩]
    exact pe_two' k1 k2
set_option maxRecDepth 8000 in
theorem b158_129 {d : Nat} {Φ : Option pe_V → pe_H → Prop} {σ : pe_H} {o1 : Option pe_V} {a2 : Nat} {o3 : Option pe_V} {x4 : Int} {o5 : Option pe_V} {o6 : Option pe_V} (hL : ll_L σ := by assumption) (w0 : pe_in (pe_I σ a2 5) := by unfold pe_in; omega) (h0 : pe_K σ a2 = 19 := by first | assumption | omega) (k1 : ¬ (pe_I σ a2 5) = 0 → pe_X d 158 (257, [some (.inr (.inr 3)), o1, some (.inr (.inr a2)), o3, some (.inl x4), o5, o6], [], σ) Φ) (k2 : (pe_I σ a2 5) = 0 → pe_X d 158 (136, [some (.inr (.inr 3)), o1, some (.inr (.inr a2)), o3, some (.inl x4), o5, o6], [], σ) Φ) : pe_X d 158 (129, [some (.inr (.inr 3)), o1, some (.inr (.inr a2)), o3, some (.inl x4), o5, o6], [], σ) Φ := by
  refine pe_blk 64 3 ck158 [pe_K σ a2 = 19] (cond (decide (¬ (pe_w (pe_I σ a2 5)) = 0)) 257 136, [some (.inr (.inr 3)), o1, some (.inr (.inr a2)), o3, some (.inl x4), o5, o6], [], σ) rfl ?_ ?_
  · first
    | (simp (disch := omega) only [pe_all, pe_wi w0, pe_K_wI, pe_K_wR]; done)
    | (simp (disch := omega) only [pe_all, pe_wi w0, pe_K_wI, pe_K_wR]; (repeat' apply And.intro) <;> first | assumption | omega | decide)
  · try simp (disch := omega) only [pe_wi w0, pe_K_wI, pe_K_wR]
    exact pe_two' k1 k2
set_option maxRecDepth 8000 in
theorem b158_136 {d : Nat} {Φ : Option pe_V → pe_H → Prop} {σ : pe_H} {o1 : Option pe_V} {a2 : Nat} {o3 : Option pe_V} {x4 : Int} {o5 : Option pe_V} {o6 : Option pe_V} (hL : ll_L σ := by assumption) (w0 : pe_in x4 := by unfold pe_in; omega) (w1 : pe_in (pe_I σ a2 4) := by unfold pe_in; omega) (h0 : pe_K σ a2 = 19 := by first | assumption | omega) (k1 : x4 ≤ (pe_I σ a2 4) → pe_X d 158 (257, [some (.inr (.inr 3)), o1, some (.inr (.inr a2)), o3, some (.inl x4), o5, o6], [], σ) Φ) (k2 : ¬ (x4 ≤ (pe_I σ a2 4)) → pe_X d 158 (145, [some (.inr (.inr 3)), o1, some (.inr (.inr a2)), o3, some (.inl x4), o5, o6], [], σ) Φ) : pe_X d 158 (136, [some (.inr (.inr 3)), o1, some (.inr (.inr a2)), o3, some (.inl x4), o5, o6], [], σ) Φ := by
  refine pe_blk 67 4 ck158 [pe_K σ a2 = 19] (cond (decide ((pe_w x4) ≤ (pe_w (pe_I σ a2 4)))) 257 145, [some (.inr (.inr 3)), o1, some (.inr (.inr a2)), o3, some (.inl x4), o5, o6], [], σ) rfl ?_ ?_
  · first
    | (simp (disch := omega) only [pe_all, pe_wi w0, pe_wi w1, pe_K_wI, pe_K_wR]; done)
    | (simp (disch := omega) only [pe_all, pe_wi w0, pe_wi w1, pe_K_wI, pe_K_wR]; (repeat' apply And.intro) <;> first | assumption | omega | decide)
  · try simp (disch := omega) only [pe_wi w0, pe_wi w1, pe_K_wI, pe_K_wR]
    exact pe_two k1 k2
set_option maxRecDepth 8000 in
theorem b158_145 {d : Nat} {Φ : Option pe_V → pe_H → Prop} {σ : pe_H} {o1 : Option pe_V} {a2 : Nat} {o3 : Option pe_V} {o4 : Option pe_V} {o5 : Option pe_V} {o6 : Option pe_V} (hL : ll_L σ := by assumption)  (h0 : pe_K σ a2 = 19 := by first | assumption | omega) (k : pe_X d 158 (155, [some (.inr (.inr 3)), o1, some (.inr (.inr a2)), o3, o4, o5, o6], [], pe_wI σ a2 4 ((pe_I σ a2 4) + 1)) Φ) : pe_X d 158 (145, [some (.inr (.inr 3)), o1, some (.inr (.inr a2)), o3, o4, o5, o6], [], σ) Φ := by
  refine pe_blk 71 6 ck158 [pe_K σ a2 = 19, pe_K σ a2 = 19] (155, [some (.inr (.inr 3)), o1, some (.inr (.inr a2)), o3, o4, o5, o6], [], pe_wI σ a2 4 ((pe_I σ a2 4) + 1)) rfl ?_ ?_
  · first
    | (simp (disch := omega) only [pe_all, pe_K_wI, pe_K_wR]; done)
    | (simp (disch := omega) only [pe_all, pe_K_wI, pe_K_wR]; (repeat' apply And.intro) <;> first | assumption | omega | decide)
  · try simp (disch := omega) only [pe_K_wI, pe_K_wR]
    exact k
set_option maxRecDepth 8000 in
theorem b158_155 {d : Nat} {Φ : Option pe_V → pe_H → Prop} {σ : pe_H} {o1 : Option pe_V} {a2 : Nat} {o3 : Option pe_V} {o4 : Option pe_V} {o5 : Option pe_V} {o6 : Option pe_V} (hL : ll_L σ := by assumption)  (h0 : pe_K σ a2 = 19 := by first | assumption | omega) (k : pe_X d 158 (160, [some (.inr (.inr 3)), o1, some (.inr (.inr a2)), o3, o4, o5, o6], [], pe_wI σ a2 3 0) Φ) : pe_X d 158 (155, [some (.inr (.inr 3)), o1, some (.inr (.inr a2)), o3, o4, o5, o6], [], σ) Φ := by
  refine pe_blk 77 3 ck158 [pe_K σ a2 = 19] (160, [some (.inr (.inr 3)), o1, some (.inr (.inr a2)), o3, o4, o5, o6], [], pe_wI σ a2 3 0) rfl ?_ ?_
  · first
    | (simp (disch := omega) only [pe_all, pe_K_wI, pe_K_wR]; done)
    | (simp (disch := omega) only [pe_all, pe_K_wI, pe_K_wR]; (repeat' apply And.intro) <;> first | assumption | omega | decide)
  · try simp (disch := omega) only [pe_K_wI, pe_K_wR]
    exact k
set_option maxRecDepth 8000 in
theorem b158_160 {d : Nat} {Φ : Option pe_V → pe_H → Prop} {σ : pe_H} {o1 : Option pe_V} {o2 : Option pe_V} {o3 : Option pe_V} {o4 : Option pe_V} {o5 : Option pe_V} {o6 : Option pe_V} (hL : ll_L σ := by assumption)   (k : pe_X d 158 (257, [some (.inr (.inr 3)), o1, o2, o3, o4, o5, o6], [], σ) Φ) : pe_X d 158 (160, [some (.inr (.inr 3)), o1, o2, o3, o4, o5, o6], [], σ) Φ := by
  refine pe_blk 80 1 ck158 [] (257, [some (.inr (.inr 3)), o1, o2, o3, o4, o5, o6], [], σ) rfl ?_ ?_
  · exact trivial
  · exact k
set_option maxRecDepth 8000 in
theorem b158_163 {d : Nat} {Φ : Option pe_V → pe_H → Prop} {σ : pe_H} {x1 : Int} {o2 : Option pe_V} {x3 : Int} {x4 : Int} {a5 : Nat} {o6 : Option pe_V} (hL : ll_L σ := by assumption) (w0 : pe_in x3 := by unfold pe_in; omega)  (k1 : ¬ x3 = 100 → pe_X d 158 (249, [some (.inr (.inr 3)), some (.inl x1), o2, some (.inl x3), some (.inl x4), some (.inr (.inr a5)), o6], [], σ) Φ) (k2 : x3 = 100 → pe_X d 158 (169, [some (.inr (.inr 3)), some (.inl x1), o2, some (.inl x3), some (.inl x4), some (.inr (.inr a5)), o6], [], σ) Φ) : pe_X d 158 (163, [some (.inr (.inr 3)), some (.inl x1), o2, some (.inl x3), some (.inl x4), some (.inr (.inr a5)), o6], [], σ) Φ := by
  refine pe_blk 81 3 ck158 [] (cond (decide (¬ (pe_w x3) = (pe_w 100))) 249 169, [some (.inr (.inr 3)), some (.inl x1), o2, some (.inl x3), some (.inl x4), some (.inr (.inr a5)), o6], [], σ) rfl ?_ ?_
  · exact trivial
  · try simp (disch := omega) only [pe_wi w0, pe_wi (x := 100) ⟨by decide, by decide⟩]
    exact pe_two' k1 k2
set_option maxRecDepth 8000 in
theorem b158_169 {d : Nat} {Φ : Option pe_V → pe_H → Prop} {σ : pe_H} {o1 : Option pe_V} {o2 : Option pe_V} {o3 : Option pe_V} {x4 : Int} {a5 : Nat} {o6 : Option pe_V} (hL : ll_L σ := by assumption) (w0 : pe_in (pe_I σ a5 11) := by unfold pe_in; omega) (h0 : pe_K σ a5 = 20 := by first | assumption | omega) (k1 : (pe_I σ a5 11) = 6 → pe_X d 158 (185, [some (.inr (.inr 3)), o1, o2, o3, some (.inl x4), some (.inr (.inr a5)), o6], [], σ) Φ) (k2 : ¬ ((pe_I σ a5 11) = 6) → pe_X d 158 (179, [some (.inr (.inr 3)), o1, o2, o3, some (.inl x4), some (.inr (.inr a5)), o6], [], σ) Φ) : pe_X d 158 (169, [some (.inr (.inr 3)), o1, o2, o3, some (.inl x4), some (.inr (.inr a5)), o6], [], σ) Φ := by
  refine pe_blk 84 4 ck158 [pe_K σ a5 = 20] (cond (decide ((pe_w (pe_I σ a5 11)) = (pe_w 6))) 185 179, [some (.inr (.inr 3)), o1, o2, o3, some (.inl x4), some (.inr (.inr a5)), o6], [], σ) rfl ?_ ?_
  · first
    | (simp (disch := omega) only [pe_all, pe_wi w0, pe_wi (x := 6) ⟨by decide, by decide⟩, pe_K_wI, pe_K_wR]; done)
    | (simp (disch := omega) only [pe_all, pe_wi w0, pe_wi (x := 6) ⟨by decide, by decide⟩, pe_K_wI, pe_K_wR]; (repeat' apply And.intro) <;> first | assumption | omega | decide)
  · try simp (disch := omega) only [pe_wi w0, pe_wi (x := 6) ⟨by decide, by decide⟩, pe_K_wI, pe_K_wR]
    exact pe_two k1 k2
set_option maxRecDepth 8000 in
theorem b158_179 {d : Nat} {Φ : Option pe_V → pe_H → Prop} {σ : pe_H} {o1 : Option pe_V} {o2 : Option pe_V} {o3 : Option pe_V} {x4 : Int} {a5 : Nat} {o6 : Option pe_V} (hL : ll_L σ := by assumption) (w0 : pe_in x4 := by unfold pe_in; omega)  (k1 : x4 ≤ 4 → pe_X d 158 (218, [some (.inr (.inr 3)), o1, o2, o3, some (.inl x4), some (.inr (.inr a5)), o6], [], σ) Φ) (k2 : ¬ (x4 ≤ 4) → pe_X d 158 (185, [some (.inr (.inr 3)), o1, o2, o3, some (.inl x4), some (.inr (.inr a5)), o6], [], σ) Φ) : pe_X d 158 (179, [some (.inr (.inr 3)), o1, o2, o3, some (.inl x4), some (.inr (.inr a5)), o6], [], σ) Φ := by
  refine pe_blk 88 3 ck158 [] (cond (decide ((pe_w x4) ≤ (pe_w 4))) 218 185, [some (.inr (.inr 3)), o1, o2, o3, some (.inl x4), some (.inr (.inr a5)), o6], [], σ) rfl ?_ ?_
  · exact trivial
  · try simp (disch := omega) only [pe_wi w0, pe_wi (x := 4) ⟨by decide, by decide⟩]
    exact pe_two k1 k2
set_option maxRecDepth 8000 in
theorem b158_185 {d : Nat} {Φ : Option pe_V → pe_H → Prop} {σ : pe_H} {o1 : Option pe_V} {o2 : Option pe_V} {o3 : Option pe_V} {o4 : Option pe_V} {a5 : Nat} {o6 : Option pe_V} (hL : ll_L σ := by assumption) (w0 : pe_in (pe_I (pe_new σ 9 0 2) a5 11) := by unfold pe_in; omega) (h0 : pe_K (pe_new σ 9 0 2) a5 = 20 := by first | assumption | omega) (k1 : ¬ (pe_I (pe_new σ 9 0 2) a5 11) = 6 → pe_X d 158 (206, [some (.inr (.inr 3)), o1, o2, o3, o4, some (.inr (.inr a5)), o6], [.inr (.inr (pe_n σ)), .inr (.inr (pe_n σ)), .inr (.inr a5)], pe_new σ 9 0 2) Φ) (k2 : (pe_I (pe_new σ 9 0 2) a5 11) = 6 → pe_X d 158 (201, [some (.inr (.inr 3)), o1, o2, o3, o4, some (.inr (.inr a5)), o6], [.inr (.inr (pe_n σ)), .inr (.inr (pe_n σ)), .inr (.inr a5)], pe_new σ 9 0 2) Φ) : pe_X d 158 (185, [some (.inr (.inr 3)), o1, o2, o3, o4, some (.inr (.inr a5)), o6], [], σ) Φ := by
  refine pe_blk 91 7 ck158 [pe_K (pe_new σ 9 0 2) a5 = 20] (cond (decide (¬ (pe_w (pe_I (pe_new σ 9 0 2) a5 11)) = (pe_w 6))) 206 201, [some (.inr (.inr 3)), o1, o2, o3, o4, some (.inr (.inr a5)), o6], [.inr (.inr (pe_n σ)), .inr (.inr (pe_n σ)), .inr (.inr a5)], pe_new σ 9 0 2) rfl ?_ ?_
  · first
    | (simp (disch := omega) only [pe_all, pe_wi w0, pe_wi (x := 6) ⟨by decide, by decide⟩, pe_K_wI, pe_K_wR]; done)
    | (simp (disch := omega) only [pe_all, pe_wi w0, pe_wi (x := 6) ⟨by decide, by decide⟩, pe_K_wI, pe_K_wR]; (repeat' apply And.intro) <;> first | assumption | omega | decide)
  · try simp (disch := omega) only [pe_wi w0, pe_wi (x := 6) ⟨by decide, by decide⟩, pe_K_wI, pe_K_wR]
    exact pe_two' k1 k2
set_option maxRecDepth 8000 in
theorem b158_201 {d : Nat} {Φ : Option pe_V → pe_H → Prop} {σ : pe_H} {o1 : Option pe_V} {o2 : Option pe_V} {o3 : Option pe_V} {o4 : Option pe_V} {o5 : Option pe_V} {o6 : Option pe_V} {b0 : Nat} {b1 : Nat} {b2 : Nat} (hL : ll_L σ := by assumption)   (k : pe_X d 158 (208, [some (.inr (.inr 3)), o1, o2, o3, o4, o5, o6], [.inl 7, .inr (.inr b2), .inr (.inr b1), .inr (.inr b0)], σ) Φ) : pe_X d 158 (201, [some (.inr (.inr 3)), o1, o2, o3, o4, o5, o6], [.inr (.inr b2), .inr (.inr b1), .inr (.inr b0)], σ) Φ := by
  refine pe_blk 98 2 ck158 [] (208, [some (.inr (.inr 3)), o1, o2, o3, o4, o5, o6], [.inl 7, .inr (.inr b2), .inr (.inr b1), .inr (.inr b0)], σ) rfl ?_ ?_
  · exact trivial
  · exact k
set_option maxRecDepth 8000 in
theorem b158_206 {d : Nat} {Φ : Option pe_V → pe_H → Prop} {σ : pe_H} {o1 : Option pe_V} {o2 : Option pe_V} {o3 : Option pe_V} {o4 : Option pe_V} {o5 : Option pe_V} {o6 : Option pe_V} {b0 : Nat} {b1 : Nat} {b2 : Nat} (hL : ll_L σ := by assumption)   (k : pe_X d 158 (208, [some (.inr (.inr 3)), o1, o2, o3, o4, o5, o6], [.inl 6, .inr (.inr b2), .inr (.inr b1), .inr (.inr b0)], σ) Φ) : pe_X d 158 (206, [some (.inr (.inr 3)), o1, o2, o3, o4, o5, o6], [.inr (.inr b2), .inr (.inr b1), .inr (.inr b0)], σ) Φ := by
  refine pe_blk 100 1 ck158 [] (208, [some (.inr (.inr 3)), o1, o2, o3, o4, o5, o6], [.inl 6, .inr (.inr b2), .inr (.inr b1), .inr (.inr b0)], σ) rfl ?_ ?_
  · exact trivial
  · exact k
set_option maxRecDepth 8000 in
theorem b158_208 {d : Nat} {Φ : Option pe_V → pe_H → Prop} {σ : pe_H} {o1 : Option pe_V} {o2 : Option pe_V} {o3 : Option pe_V} {o4 : Option pe_V} {o5 : Option pe_V} {o6 : Option pe_V} {b0 : Nat} {b1 : Nat} {b2 : Nat} {s3 : Int} (hL : ll_L σ := by assumption)  (h0 : ¬ b2 = 0 := by first | assumption | omega) (k : pe_M d 132 [.inr (.inr b2), .inl s3, .inr (.inr 0)] σ (fun r σ' => pe_X d 158 (212, [some (.inr (.inr 3)), o1, o2, o3, o4, o5, o6], r.toList ++ [.inr (.inr b1), .inr (.inr b0)], σ') Φ)) : pe_X d 158 (208, [some (.inr (.inr 3)), o1, o2, o3, o4, o5, o6], [.inl s3, .inr (.inr b2), .inr (.inr b1), .inr (.inr b0)], σ) Φ := by
  refine pe_blk 101 1 ck158 [] (209, [some (.inr (.inr 3)), o1, o2, o3, o4, o5, o6], [.inr (.inr 0), .inl s3, .inr (.inr b2), .inr (.inr b1), .inr (.inr b0)], σ) rfl ?_ ?_
  · exact trivial
  · exact pe_cal 102 ck158 rfl rfl rfl (show ¬ _ = 0 by assumption) k
set_option maxRecDepth 8000 in
theorem b158_212 {d : Nat} {Φ : Option pe_V → pe_H → Prop} {σ : pe_H} {o1 : Option pe_V} {o2 : Option pe_V} {o3 : Option pe_V} {o4 : Option pe_V} {o5 : Option pe_V} {o6 : Option pe_V} {b0 : Nat} {b1 : Nat} (hL : ll_L σ := by assumption)  (h0 : pe_K σ b0 = 20 := by first | assumption | omega) (k : pe_M d 139 [.inr (.inr b0), .inr (.inr b1)] σ (fun r σ' => pe_X d 158 (215, [some (.inr (.inr 3)), o1, o2, o3, o4, o5, o6], r.toList ++ [], σ') Φ)) : pe_X d 158 (212, [some (.inr (.inr 3)), o1, o2, o3, o4, o5, o6], [.inr (.inr b1), .inr (.inr b0)], σ) Φ := by
  have hrc : pe_K σ b0 = 20 := by first | assumption | (simp (disch := omega) only [pe_K_wI, pe_K_wR]; done) | (simp (disch := omega) only [pe_K_wI, pe_K_wR]; assumption)
  exact pe_cal 103 ck158 rfl rfl rfl ⟨hrc, by decide⟩ k
set_option maxRecDepth 8000 in
theorem b158_215 {d : Nat} {Φ : Option pe_V → pe_H → Prop} {σ : pe_H} {o1 : Option pe_V} {o2 : Option pe_V} {o3 : Option pe_V} {o4 : Option pe_V} {o5 : Option pe_V} {o6 : Option pe_V} (hL : ll_L σ := by assumption)   (k : pe_X d 158 (257, [some (.inr (.inr 3)), o1, o2, o3, o4, o5, o6], [], σ) Φ) : pe_X d 158 (215, [some (.inr (.inr 3)), o1, o2, o3, o4, o5, o6], [], σ) Φ := by
  refine pe_blk 104 1 ck158 [] (257, [some (.inr (.inr 3)), o1, o2, o3, o4, o5, o6], [], σ) rfl ?_ ?_
  · exact trivial
  · exact k
set_option maxRecDepth 8000 in
theorem b158_218 {d : Nat} {Φ : Option pe_V → pe_H → Prop} {σ : pe_H} {o1 : Option pe_V} {o2 : Option pe_V} {o3 : Option pe_V} {x4 : Int} {a5 : Nat} {o6 : Option pe_V} (hL : ll_L σ := by assumption)  (h0 : pe_K σ a5 = 20 := by first | assumption | omega) (k : pe_M d 150 [.inr (.inr 3), .inl x4] σ (fun r σ' => pe_X d 158 (234, [some (.inr (.inr 3)), o1, o2, o3, some (.inl x4), some (.inr (.inr a5)), o6], r.toList ++ [.inl (pe_I σ a5 11), .inr (.inr (pe_R σ a5 10))], σ') Φ)) : pe_X d 158 (218, [some (.inr (.inr 3)), o1, o2, o3, some (.inl x4), some (.inr (.inr a5)), o6], [], σ) Φ := by
  refine pe_blk 105 6 ck158 [pe_K σ a5 = 20, pe_K σ a5 = 20] (231, [some (.inr (.inr 3)), o1, o2, o3, some (.inl x4), some (.inr (.inr a5)), o6], [.inl x4, .inr (.inr 3), .inl (pe_I σ a5 11), .inr (.inr (pe_R σ a5 10))], σ) rfl ?_ ?_
  · first
    | (simp (disch := omega) only [pe_all, ll_k3 hL, pe_K_wI, pe_K_wR]; done)
    | (simp (disch := omega) only [pe_all, ll_k3 hL, pe_K_wI, pe_K_wR]; (repeat' apply And.intro) <;> first | assumption | omega | decide)
  · try simp (disch := omega) only [ll_k3 hL, pe_K_wI, pe_K_wR]
    have hrc : pe_K σ 3 = 21 := by first | assumption | (simp (disch := omega) only [ll_k3 hL, pe_K_wI, pe_K_wR]; done) | (simp (disch := omega) only [ll_k3 hL, pe_K_wI, pe_K_wR]; assumption)
    exact pe_cal 111 ck158 rfl rfl rfl ⟨hrc, by decide⟩ k
set_option maxRecDepth 8000 in
theorem b158_234 {d : Nat} {Φ : Option pe_V → pe_H → Prop} {σ : pe_H} {o1 : Option pe_V} {o2 : Option pe_V} {o3 : Option pe_V} {o4 : Option pe_V} {a5 : Nat} {o6 : Option pe_V} {b0 : Nat} {s1 : Int} {b2 : Nat} (hL : ll_L σ := by assumption) (w0 : pe_in s1 := by unfold pe_in; omega) (h0 : 22 ≤ pe_K σ b0 ∧ pe_K σ b0 < 25 := by first | assumption | omega) (h1 : b2 = 0 ∨ (3 ≤ b2 ∧ pe_K σ b2 = pe_ek (pe_K σ b0)) := by first | assumption | omega) (h2 : 0 ≤ s1 := by first | assumption | omega) (h3 : s1 < pe_L σ b0 := by first | assumption | omega) (h4 : 3 ≤ b0 := by first | assumption | omega) (k : pe_X d 158 (235, [some (.inr (.inr 3)), o1, o2, o3, o4, some (.inr (.inr a5)), o6], [], pe_wR σ b0 s1 b2) Φ) : pe_X d 158 (234, [some (.inr (.inr 3)), o1, o2, o3, o4, some (.inr (.inr a5)), o6], [.inr (.inr b2), .inl s1, .inr (.inr b0)], σ) Φ := by
  refine pe_blk 112 1 ck158 [22 ≤ pe_K σ b0 ∧ pe_K σ b0 < 25, b2 = 0 ∨ (3 ≤ b2 ∧ pe_K σ b2 = pe_ek (pe_K σ b0)), 0 ≤ (pe_w s1), (pe_w s1) < pe_L σ b0, 3 ≤ b0] (235, [some (.inr (.inr 3)), o1, o2, o3, o4, some (.inr (.inr a5)), o6], [], pe_wR σ b0 (pe_w s1) b2) rfl ?_ ?_
  · first
    | (simp (disch := omega) only [pe_all, pe_wi w0, pe_K_wI, pe_K_wR, pe_L_wI, pe_L_wR]; done)
    | (simp (disch := omega) only [pe_all, pe_wi w0, pe_K_wI, pe_K_wR, pe_L_wI, pe_L_wR]; (repeat' apply And.intro) <;> first | assumption | omega | decide)
  · try simp (disch := omega) only [pe_wi w0, pe_K_wI, pe_K_wR, pe_L_wI, pe_L_wR]
    exact k
set_option maxRecDepth 8000 in
theorem b158_235 {d : Nat} {Φ : Option pe_V → pe_H → Prop} {σ : pe_H} {o1 : Option pe_V} {o2 : Option pe_V} {o3 : Option pe_V} {o4 : Option pe_V} {a5 : Nat} {o6 : Option pe_V} (hL : ll_L σ := by assumption)  (h0 : pe_K σ a5 = 20 := by first | assumption | omega) (k : pe_X d 158 (246, [some (.inr (.inr 3)), o1, o2, o3, o4, some (.inr (.inr a5)), o6], [], pe_wI σ a5 11 ((pe_I σ a5 11) + 1)) Φ) : pe_X d 158 (235, [some (.inr (.inr 3)), o1, o2, o3, o4, some (.inr (.inr a5)), o6], [], σ) Φ := by
  refine pe_blk 113 6 ck158 [pe_K σ a5 = 20, pe_K σ a5 = 20] (246, [some (.inr (.inr 3)), o1, o2, o3, o4, some (.inr (.inr a5)), o6], [], pe_wI σ a5 11 ((pe_I σ a5 11) + 1)) rfl ?_ ?_
  · first
    | (simp (disch := omega) only [pe_all, pe_K_wI, pe_K_wR]; done)
    | (simp (disch := omega) only [pe_all, pe_K_wI, pe_K_wR]; (repeat' apply And.intro) <;> first | assumption | omega | decide)
  · try simp (disch := omega) only [pe_K_wI, pe_K_wR]
    exact k
set_option maxRecDepth 8000 in
theorem b158_246 {d : Nat} {Φ : Option pe_V → pe_H → Prop} {σ : pe_H} {o1 : Option pe_V} {o2 : Option pe_V} {o3 : Option pe_V} {o4 : Option pe_V} {o5 : Option pe_V} {o6 : Option pe_V} (hL : ll_L σ := by assumption)   (k : pe_X d 158 (257, [some (.inr (.inr 3)), o1, o2, o3, o4, o5, o6], [], σ) Φ) : pe_X d 158 (246, [some (.inr (.inr 3)), o1, o2, o3, o4, o5, o6], [], σ) Φ := by
  refine pe_blk 119 1 ck158 [] (257, [some (.inr (.inr 3)), o1, o2, o3, o4, o5, o6], [], σ) rfl ?_ ?_
  · exact trivial
  · exact k
set_option maxRecDepth 8000 in
theorem b158_249 {d : Nat} {Φ : Option pe_V → pe_H → Prop} {σ : pe_H} {x1 : Int} {o2 : Option pe_V} {x3 : Int} {x4 : Int} {o5 : Option pe_V} {o6 : Option pe_V} (hL : ll_L σ := by assumption)   (k : pe_M d 156 [.inr (.inr 3), .inl x1, .inl x3, .inl x4] σ (fun r σ' => pe_X d 158 (257, [some (.inr (.inr 3)), some (.inl x1), o2, some (.inl x3), some (.inl x4), o5, o6], r.toList ++ [], σ') Φ)) : pe_X d 158 (249, [some (.inr (.inr 3)), some (.inl x1), o2, some (.inl x3), some (.inl x4), o5, o6], [], σ) Φ := by
  refine pe_blk 120 4 ck158 [] (254, [some (.inr (.inr 3)), some (.inl x1), o2, some (.inl x3), some (.inl x4), o5, o6], [.inl x4, .inl x3, .inl x1, .inr (.inr 3)], σ) rfl ?_ ?_
  · exact trivial
  · try simp (disch := omega) only [ll_k3 hL, pe_K_wI, pe_K_wR]
    have hrc : pe_K σ 3 = 21 := by first | assumption | (simp (disch := omega) only [ll_k3 hL, pe_K_wI, pe_K_wR]; done) | (simp (disch := omega) only [ll_k3 hL, pe_K_wI, pe_K_wR]; assumption)
    exact pe_cal 124 ck158 rfl rfl rfl ⟨hrc, by decide⟩ k
set_option maxRecDepth 8000 in
theorem b158_257 {d : Nat} {Φ : Option pe_V → pe_H → Prop} {σ : pe_H} {o1 : Option pe_V} {o2 : Option pe_V} {o3 : Option pe_V} {o4 : Option pe_V} {o5 : Option pe_V} {o6 : Option pe_V} (hL : ll_L σ := by assumption)   (k : Φ none σ) : pe_X d 158 (257, [some (.inr (.inr 3)), o1, o2, o3, o4, o5, o6], [], σ) Φ := by
  exact pe_fine 125 ck158 rfl rfl rfl trivial k
-- StepMachinesLaw.could(I)Z
def T159 : List (Nat × Instr × Nat) := [(0, .aload_n 0, 1), (1, .getfield 31, 3), (4, .iload_n 1, 1), (5, .aaload, 1), (6, .getfield 67, 3), (9, .iconst 3, 1), (10, .if_icmp .ge 7, 3), (13, .iconst 1, 1), (14, .goto 4, 3), (17, .iconst 0, 1), (18, .ireturn, 1)]
theorem ck159 : pe_ctx 159 21 false (some .boolean) 2 T159 := ⟨rfl, rfl, rfl, rfl, by decide +kernel, by decide, by decide⟩
theorem b159_0 {d : Nat} {Φ : Option pe_V → pe_H → Prop} {σ : pe_H} {x1 : Int} (hL : ll_L σ := by assumption) (w0 : pe_in x1 := by unfold pe_in; omega) (w1 : pe_in (pe_I σ (pe_R σ 891 x1) 3) := by unfold pe_in; omega) (h0 : 0 ≤ x1 := by first | assumption | omega) (h1 : x1 < 8 := by first | assumption | omega) (h2 : pe_K σ (pe_R σ 891 x1) = 20 := by first | assumption | omega) (k1 : 3 ≤ (pe_I σ (pe_R σ 891 x1) 3) → pe_X d 159 (17, [some (.inr (.inr 3)), some (.inl x1)], [], σ) Φ) (k2 : ¬ (3 ≤ (pe_I σ (pe_R σ 891 x1) 3)) → pe_X d 159 (13, [some (.inr (.inr 3)), some (.inl x1)], [], σ) Φ) : pe_X d 159 (0, [some (.inr (.inr 3)), some (.inl x1)], [], σ) Φ := by
  refine pe_blk 0 7 ck159 [pe_K σ 3 = 21, 22 ≤ pe_K σ (pe_R σ 3 6) ∧ pe_K σ (pe_R σ 3 6) < 25, 0 ≤ (pe_w x1), (pe_w x1) < pe_L σ (pe_R σ 3 6), pe_K σ (pe_R σ (pe_R σ 3 6) (pe_w x1)) = 20] (cond (decide ((pe_w 3) ≤ (pe_w (pe_I σ (pe_R σ (pe_R σ 3 6) (pe_w x1)) 3)))) 17 13, [some (.inr (.inr 3)), some (.inl x1)], [], σ) rfl ?_ ?_
  · first
    | (simp (disch := omega) only [pe_all, pe_wi w0, pe_wi w1, pe_wi (x := 3) ⟨by decide, by decide⟩, ll_e6 hL, ll_k3 hL, ll_k891 hL, ll_n891 hL, pe_K_wI, pe_K_wR, pe_L_wI, pe_L_wR, pe_R_nej, pe_R_ner, pe_R_wI]; done)
    | (simp (disch := omega) only [pe_all, pe_wi w0, pe_wi w1, pe_wi (x := 3) ⟨by decide, by decide⟩, ll_e6 hL, ll_k3 hL, ll_k891 hL, ll_n891 hL, pe_K_wI, pe_K_wR, pe_L_wI, pe_L_wR, pe_R_nej, pe_R_ner, pe_R_wI]; (repeat' apply And.intro) <;> first | assumption | omega | decide)
  · try simp (disch := omega) only [pe_wi w0, pe_wi w1, pe_wi (x := 3) ⟨by decide, by decide⟩, ll_e6 hL, ll_k3 hL, ll_k891 hL, ll_n891 hL, pe_K_wI, pe_K_wR, pe_L_wI, pe_L_wR, pe_R_nej, pe_R_ner, pe_R_wI]
    exact pe_two k1 k2
theorem b159_13 {d : Nat} {Φ : Option pe_V → pe_H → Prop} {σ : pe_H} {o1 : Option pe_V} (hL : ll_L σ := by assumption)   (k : pe_X d 159 (18, [some (.inr (.inr 3)), o1], [.inl 1], σ) Φ) : pe_X d 159 (13, [some (.inr (.inr 3)), o1], [], σ) Φ := by
  refine pe_blk 7 2 ck159 [] (18, [some (.inr (.inr 3)), o1], [.inl 1], σ) rfl ?_ ?_
  · exact trivial
  · exact k
theorem b159_17 {d : Nat} {Φ : Option pe_V → pe_H → Prop} {σ : pe_H} {o1 : Option pe_V} (hL : ll_L σ := by assumption)   (k : pe_X d 159 (18, [some (.inr (.inr 3)), o1], [.inl 0], σ) Φ) : pe_X d 159 (17, [some (.inr (.inr 3)), o1], [], σ) Φ := by
  refine pe_blk 9 1 ck159 [] (18, [some (.inr (.inr 3)), o1], [.inl 0], σ) rfl ?_ ?_
  · exact trivial
  · exact k
theorem b159_18 {d : Nat} {Φ : Option pe_V → pe_H → Prop} {σ : pe_H} {o1 : Option pe_V} {s0 : Int} (hL : ll_L σ := by assumption)  (h0 : s0 = 0 ∨ s0 = 1 := by first | assumption | omega) (k : Φ (some (.inl s0)) σ) : pe_X d 159 (18, [some (.inr (.inr 3)), o1], [.inl s0], σ) Φ := by
  exact pe_fine 10 ck159 rfl rfl rfl h0 k
-- StepMachinesLaw.send(II)V
def T160 : List (Nat × Instr × Nat) := [(0, .aload_n 0, 1), (1, .getfield 31, 3), (4, .iload_n 1, 1), (5, .aaload, 1), (6, .iload_n 2, 1), (7, .invokevirtual 172, 3), (10, .iconst 0, 1), (11, .istore_n 3, 1), (12, .iload_n 3, 1), (13, .bipush 40, 2), (15, .if_icmp .ge 28, 3), (18, .aload_n 0, 1), (19, .getfield 31, 3), (22, .iload_n 1, 1), (23, .aaload, 1), (24, .getfield 67, 3), (27, .iconst 1, 1), (28, .if_icmp .ne 15, 3), (31, .aload_n 0, 1), (32, .iload_n 1, 1), (33, .iconst 0, 1), (34, .invokevirtual 175, 3), (37, .iinc 3 1, 3), (40, .goto (-28), 3), (43, .return_, 1)]
theorem ck160 : pe_ctx 160 21 false none 4 T160 := ⟨rfl, rfl, rfl, rfl, by decide +kernel, by decide, by decide⟩
theorem b160_0 {d : Nat} {Φ : Option pe_V → pe_H → Prop} {σ : pe_H} {x1 : Int} {x2 : Int} {o3 : Option pe_V} (hL : ll_L σ := by assumption) (w0 : pe_in x1 := by unfold pe_in; omega) (h0 : 0 ≤ x1 := by first | assumption | omega) (h1 : x1 < 8 := by first | assumption | omega) (h2 : pe_K σ (pe_R σ 891 x1) = 20 := by first | assumption | omega) (k : pe_M d 142 [.inr (.inr (pe_R σ 891 x1)), .inl x2] σ (fun r σ' => pe_X d 160 (10, [some (.inr (.inr 3)), some (.inl x1), some (.inl x2), o3], r.toList ++ [], σ') Φ)) : pe_X d 160 (0, [some (.inr (.inr 3)), some (.inl x1), some (.inl x2), o3], [], σ) Φ := by
  refine pe_blk 0 5 ck160 [pe_K σ 3 = 21, 22 ≤ pe_K σ (pe_R σ 3 6) ∧ pe_K σ (pe_R σ 3 6) < 25, 0 ≤ (pe_w x1), (pe_w x1) < pe_L σ (pe_R σ 3 6)] (7, [some (.inr (.inr 3)), some (.inl x1), some (.inl x2), o3], [.inl x2, .inr (.inr (pe_R σ (pe_R σ 3 6) (pe_w x1)))], σ) rfl ?_ ?_
  · first
    | (simp (disch := omega) only [pe_all, pe_wi w0, ll_e6 hL, ll_k3 hL, ll_k891 hL, ll_n891 hL, pe_K_wI, pe_K_wR, pe_L_wI, pe_L_wR, pe_R_nej, pe_R_ner, pe_R_wI]; done)
    | (simp (disch := omega) only [pe_all, pe_wi w0, ll_e6 hL, ll_k3 hL, ll_k891 hL, ll_n891 hL, pe_K_wI, pe_K_wR, pe_L_wI, pe_L_wR, pe_R_nej, pe_R_ner, pe_R_wI]; (repeat' apply And.intro) <;> first | assumption | omega | decide)
  · try simp (disch := omega) only [pe_wi w0, ll_e6 hL, ll_k3 hL, ll_k891 hL, ll_n891 hL, pe_K_wI, pe_K_wR, pe_L_wI, pe_L_wR, pe_R_nej, pe_R_ner, pe_R_wI]
    have hrc : pe_K σ (pe_R σ 891 x1) = 20 := by first | assumption | (simp (disch := omega) only [pe_wi w0, ll_e6 hL, ll_k3 hL, ll_k891 hL, ll_n891 hL, pe_K_wI, pe_K_wR, pe_L_wI, pe_L_wR, pe_R_nej, pe_R_ner, pe_R_wI]; done) | (simp (disch := omega) only [pe_wi w0, ll_e6 hL, ll_k3 hL, ll_k891 hL, ll_n891 hL, pe_K_wI, pe_K_wR, pe_L_wI, pe_L_wR, pe_R_nej, pe_R_ner, pe_R_wI]; assumption)
    exact pe_cal 5 ck160 rfl rfl rfl ⟨hrc, by decide⟩ k
theorem b160_10 {d : Nat} {Φ : Option pe_V → pe_H → Prop} {σ : pe_H} {x1 : Int} {o2 : Option pe_V} {o3 : Option pe_V} (hL : ll_L σ := by assumption)   (k : pe_X d 160 (12, [some (.inr (.inr 3)), some (.inl x1), pe_nl o2, some (.inl 0)], [], σ) Φ) : pe_X d 160 (10, [some (.inr (.inr 3)), some (.inl x1), o2, o3], [], σ) Φ := by
  refine pe_blk 6 2 ck160 [] (12, [some (.inr (.inr 3)), some (.inl x1), pe_nl o2, some (.inl 0)], [], σ) rfl ?_ ?_
  · exact trivial
  · exact k
theorem b160_12 {d : Nat} {Φ : Option pe_V → pe_H → Prop} {σ : pe_H} {x1 : Int} {o2 : Option pe_V} {x3 : Int} (hL : ll_L σ := by assumption) (w0 : pe_in x3 := by unfold pe_in; omega)  (k1 : 40 ≤ x3 → pe_X d 160 (43, [some (.inr (.inr 3)), some (.inl x1), o2, some (.inl x3)], [], σ) Φ) (k2 : ¬ (40 ≤ x3) → pe_X d 160 (18, [some (.inr (.inr 3)), some (.inl x1), o2, some (.inl x3)], [], σ) Φ) : pe_X d 160 (12, [some (.inr (.inr 3)), some (.inl x1), o2, some (.inl x3)], [], σ) Φ := by
  refine pe_blk 8 3 ck160 [] (cond (decide ((pe_w 40) ≤ (pe_w x3))) 43 18, [some (.inr (.inr 3)), some (.inl x1), o2, some (.inl x3)], [], σ) rfl ?_ ?_
  · exact trivial
  · try simp (disch := omega) only [pe_wi w0, pe_wi (x := 40) ⟨by decide, by decide⟩]
    exact pe_two k1 k2
theorem b160_18 {d : Nat} {Φ : Option pe_V → pe_H → Prop} {σ : pe_H} {x1 : Int} {o2 : Option pe_V} {x3 : Int} (hL : ll_L σ := by assumption) (w0 : pe_in x1 := by unfold pe_in; omega) (w1 : pe_in (pe_I σ (pe_R σ 891 x1) 3) := by unfold pe_in; omega) (h0 : 0 ≤ x1 := by first | assumption | omega) (h1 : x1 < 8 := by first | assumption | omega) (h2 : pe_K σ (pe_R σ 891 x1) = 20 := by first | assumption | omega) (k1 : ¬ (pe_I σ (pe_R σ 891 x1) 3) = 1 → pe_X d 160 (43, [some (.inr (.inr 3)), some (.inl x1), o2, some (.inl x3)], [], σ) Φ) (k2 : (pe_I σ (pe_R σ 891 x1) 3) = 1 → pe_X d 160 (31, [some (.inr (.inr 3)), some (.inl x1), o2, some (.inl x3)], [], σ) Φ) : pe_X d 160 (18, [some (.inr (.inr 3)), some (.inl x1), o2, some (.inl x3)], [], σ) Φ := by
  refine pe_blk 11 7 ck160 [pe_K σ 3 = 21, 22 ≤ pe_K σ (pe_R σ 3 6) ∧ pe_K σ (pe_R σ 3 6) < 25, 0 ≤ (pe_w x1), (pe_w x1) < pe_L σ (pe_R σ 3 6), pe_K σ (pe_R σ (pe_R σ 3 6) (pe_w x1)) = 20] (cond (decide (¬ (pe_w (pe_I σ (pe_R σ (pe_R σ 3 6) (pe_w x1)) 3)) = (pe_w 1))) 43 31, [some (.inr (.inr 3)), some (.inl x1), o2, some (.inl x3)], [], σ) rfl ?_ ?_
  · first
    | (simp (disch := omega) only [pe_all, pe_wi w0, pe_wi w1, pe_wi (x := 1) ⟨by decide, by decide⟩, ll_e6 hL, ll_k3 hL, ll_k891 hL, ll_n891 hL, pe_K_wI, pe_K_wR, pe_L_wI, pe_L_wR, pe_R_nej, pe_R_ner, pe_R_wI]; done)
    | (simp (disch := omega) only [pe_all, pe_wi w0, pe_wi w1, pe_wi (x := 1) ⟨by decide, by decide⟩, ll_e6 hL, ll_k3 hL, ll_k891 hL, ll_n891 hL, pe_K_wI, pe_K_wR, pe_L_wI, pe_L_wR, pe_R_nej, pe_R_ner, pe_R_wI]; (repeat' apply And.intro) <;> first | assumption | omega | decide)
  · try simp (disch := omega) only [pe_wi w0, pe_wi w1, pe_wi (x := 1) ⟨by decide, by decide⟩, ll_e6 hL, ll_k3 hL, ll_k891 hL, ll_n891 hL, pe_K_wI, pe_K_wR, pe_L_wI, pe_L_wR, pe_R_nej, pe_R_ner, pe_R_wI]
    exact pe_two' k1 k2
theorem b160_31 {d : Nat} {Φ : Option pe_V → pe_H → Prop} {σ : pe_H} {x1 : Int} {o2 : Option pe_V} {x3 : Int} (hL : ll_L σ := by assumption)   (k : pe_M d 157 [.inr (.inr 3), .inl x1, .inl 0] σ (fun r σ' => pe_X d 160 (37, [some (.inr (.inr 3)), some (.inl x1), o2, some (.inl x3)], r.toList ++ [], σ') Φ)) : pe_X d 160 (31, [some (.inr (.inr 3)), some (.inl x1), o2, some (.inl x3)], [], σ) Φ := by
  refine pe_blk 18 3 ck160 [] (34, [some (.inr (.inr 3)), some (.inl x1), o2, some (.inl x3)], [.inl 0, .inl x1, .inr (.inr 3)], σ) rfl ?_ ?_
  · exact trivial
  · try simp (disch := omega) only [ll_k3 hL, pe_K_wI, pe_K_wR]
    have hrc : pe_K σ 3 = 21 := by first | assumption | (simp (disch := omega) only [ll_k3 hL, pe_K_wI, pe_K_wR]; done) | (simp (disch := omega) only [ll_k3 hL, pe_K_wI, pe_K_wR]; assumption)
    exact pe_cal 21 ck160 rfl rfl rfl ⟨hrc, by decide⟩ k
theorem b160_37 {d : Nat} {Φ : Option pe_V → pe_H → Prop} {σ : pe_H} {x1 : Int} {o2 : Option pe_V} {x3 : Int} (hL : ll_L σ := by assumption)   (k : pe_X d 160 (12, [some (.inr (.inr 3)), some (.inl x1), pe_nl o2, some (.inl (x3 + 1))], [], σ) Φ) : pe_X d 160 (37, [some (.inr (.inr 3)), some (.inl x1), o2, some (.inl x3)], [], σ) Φ := by
  refine pe_blk 22 2 ck160 [] (12, [some (.inr (.inr 3)), some (.inl x1), pe_nl o2, some (.inl (x3 + 1))], [], σ) rfl ?_ ?_
  · exact trivial
  · exact k
theorem b160_43 {d : Nat} {Φ : Option pe_V → pe_H → Prop} {σ : pe_H} {o1 : Option pe_V} {o2 : Option pe_V} {o3 : Option pe_V} (hL : ll_L σ := by assumption)   (k : Φ none σ) : pe_X d 160 (43, [some (.inr (.inr 3)), o1, o2, o3], [], σ) Φ := by
  exact pe_fine 24 ck160 rfl rfl rfl trivial k
-- StepMachinesLaw.close(I)V
def T161 : List (Nat × Instr × Nat) := [(0, .aload_n 0, 1), (1, .iload_n 1, 1), (2, .invokevirtual 73, 3), (5, .aload_n 0, 1), (6, .getfield 31, 3), (9, .iload_n 1, 1), (10, .aaload, 1), (11, .iconst 1, 1), (12, .putfield 67, 3), (15, .aload_n 0, 1), (16, .getfield 31, 3), (19, .iload_n 1, 1), (20, .aaload, 1), (21, .invokevirtual 179, 3), (24, .aload_n 0, 1), (25, .getfield 31, 3), (28, .iload_n 1, 1), (29, .aaload, 1), (30, .getfield 67, 3), (33, .bipush 6, 2), (35, .if_icmp .ge 12, 3), (38, .aload_n 0, 1), (39, .iload_n 1, 1), (40, .iconst 1, 1), (41, .invokevirtual 175, 3), (44, .goto (-20), 3), (47, .aload_n 0, 1), (48, .iload_n 1, 1), (49, .invokevirtual 100, 3), (52, .return_, 1)]
theorem ck161 : pe_ctx 161 21 false none 2 T161 := ⟨rfl, rfl, rfl, rfl, by decide +kernel, by decide, by decide⟩
theorem b161_0 {d : Nat} {Φ : Option pe_V → pe_H → Prop} {σ : pe_H} {x1 : Int} (hL : ll_L σ := by assumption)   (k : pe_M d 152 [.inr (.inr 3), .inl x1] σ (fun r σ' => pe_X d 161 (5, [some (.inr (.inr 3)), some (.inl x1)], r.toList ++ [], σ') Φ)) : pe_X d 161 (0, [some (.inr (.inr 3)), some (.inl x1)], [], σ) Φ := by
  refine pe_blk 0 2 ck161 [] (2, [some (.inr (.inr 3)), some (.inl x1)], [.inl x1, .inr (.inr 3)], σ) rfl ?_ ?_
  · exact trivial
  · try simp (disch := omega) only [ll_k3 hL, pe_K_wI, pe_K_wR]
    have hrc : pe_K σ 3 = 21 := by first | assumption | (simp (disch := omega) only [ll_k3 hL, pe_K_wI, pe_K_wR]; done) | (simp (disch := omega) only [ll_k3 hL, pe_K_wI, pe_K_wR]; assumption)
    exact pe_cal 2 ck161 rfl rfl rfl ⟨hrc, by decide⟩ k
theorem b161_5 {d : Nat} {Φ : Option pe_V → pe_H → Prop} {σ : pe_H} {x1 : Int} (hL : ll_L σ := by assumption) (w0 : pe_in x1 := by unfold pe_in; omega) (h0 : 0 ≤ x1 := by first | assumption | omega) (h1 : x1 < 8 := by first | assumption | omega) (h2 : pe_K σ (pe_R σ 891 x1) = 20 := by first | assumption | omega) (k : pe_X d 161 (15, [some (.inr (.inr 3)), some (.inl x1)], [], pe_wI σ (pe_R σ 891 x1) 3 1) Φ) : pe_X d 161 (5, [some (.inr (.inr 3)), some (.inl x1)], [], σ) Φ := by
  refine pe_blk 3 6 ck161 [pe_K σ 3 = 21, 22 ≤ pe_K σ (pe_R σ 3 6) ∧ pe_K σ (pe_R σ 3 6) < 25, 0 ≤ (pe_w x1), (pe_w x1) < pe_L σ (pe_R σ 3 6), pe_K σ (pe_R σ (pe_R σ 3 6) (pe_w x1)) = 20] (15, [some (.inr (.inr 3)), some (.inl x1)], [], pe_wI σ (pe_R σ (pe_R σ 3 6) (pe_w x1)) 3 1) rfl ?_ ?_
  · first
    | (simp (disch := omega) only [pe_all, pe_wi w0, ll_e6 hL, ll_k3 hL, ll_k891 hL, ll_n891 hL, pe_K_wI, pe_K_wR, pe_L_wI, pe_L_wR, pe_R_nej, pe_R_ner, pe_R_wI]; done)
    | (simp (disch := omega) only [pe_all, pe_wi w0, ll_e6 hL, ll_k3 hL, ll_k891 hL, ll_n891 hL, pe_K_wI, pe_K_wR, pe_L_wI, pe_L_wR, pe_R_nej, pe_R_ner, pe_R_wI]; (repeat' apply And.intro) <;> first | assumption | omega | decide)
  · try simp (disch := omega) only [pe_wi w0, ll_e6 hL, ll_k3 hL, ll_k891 hL, ll_n891 hL, pe_K_wI, pe_K_wR, pe_L_wI, pe_L_wR, pe_R_nej, pe_R_ner, pe_R_wI]
    exact k
theorem b161_15 {d : Nat} {Φ : Option pe_V → pe_H → Prop} {σ : pe_H} {x1 : Int} (hL : ll_L σ := by assumption) (w0 : pe_in x1 := by unfold pe_in; omega) (h0 : 0 ≤ x1 := by first | assumption | omega) (h1 : x1 < 8 := by first | assumption | omega) (h2 : pe_K σ (pe_R σ 891 x1) = 20 := by first | assumption | omega) (k : pe_M d 140 [.inr (.inr (pe_R σ 891 x1))] σ (fun r σ' => pe_X d 161 (24, [some (.inr (.inr 3)), some (.inl x1)], r.toList ++ [], σ') Φ)) : pe_X d 161 (15, [some (.inr (.inr 3)), some (.inl x1)], [], σ) Φ := by
  refine pe_blk 9 4 ck161 [pe_K σ 3 = 21, 22 ≤ pe_K σ (pe_R σ 3 6) ∧ pe_K σ (pe_R σ 3 6) < 25, 0 ≤ (pe_w x1), (pe_w x1) < pe_L σ (pe_R σ 3 6)] (21, [some (.inr (.inr 3)), some (.inl x1)], [.inr (.inr (pe_R σ (pe_R σ 3 6) (pe_w x1)))], σ) rfl ?_ ?_
  · first
    | (simp (disch := omega) only [pe_all, pe_wi w0, ll_e6 hL, ll_k3 hL, ll_k891 hL, ll_n891 hL, pe_K_wI, pe_K_wR, pe_L_wI, pe_L_wR, pe_R_nej, pe_R_ner, pe_R_wI]; done)
    | (simp (disch := omega) only [pe_all, pe_wi w0, ll_e6 hL, ll_k3 hL, ll_k891 hL, ll_n891 hL, pe_K_wI, pe_K_wR, pe_L_wI, pe_L_wR, pe_R_nej, pe_R_ner, pe_R_wI]; (repeat' apply And.intro) <;> first | assumption | omega | decide)
  · try simp (disch := omega) only [pe_wi w0, ll_e6 hL, ll_k3 hL, ll_k891 hL, ll_n891 hL, pe_K_wI, pe_K_wR, pe_L_wI, pe_L_wR, pe_R_nej, pe_R_ner, pe_R_wI]
    have hrc : pe_K σ (pe_R σ 891 x1) = 20 := by first | assumption | (simp (disch := omega) only [pe_wi w0, ll_e6 hL, ll_k3 hL, ll_k891 hL, ll_n891 hL, pe_K_wI, pe_K_wR, pe_L_wI, pe_L_wR, pe_R_nej, pe_R_ner, pe_R_wI]; done) | (simp (disch := omega) only [pe_wi w0, ll_e6 hL, ll_k3 hL, ll_k891 hL, ll_n891 hL, pe_K_wI, pe_K_wR, pe_L_wI, pe_L_wR, pe_R_nej, pe_R_ner, pe_R_wI]; assumption)
    exact pe_cal 13 ck161 rfl rfl rfl ⟨hrc, by decide⟩ k
theorem b161_24 {d : Nat} {Φ : Option pe_V → pe_H → Prop} {σ : pe_H} {x1 : Int} (hL : ll_L σ := by assumption) (w0 : pe_in x1 := by unfold pe_in; omega) (w1 : pe_in (pe_I σ (pe_R σ 891 x1) 3) := by unfold pe_in; omega) (h0 : 0 ≤ x1 := by first | assumption | omega) (h1 : x1 < 8 := by first | assumption | omega) (h2 : pe_K σ (pe_R σ 891 x1) = 20 := by first | assumption | omega) (k1 : 6 ≤ (pe_I σ (pe_R σ 891 x1) 3) → pe_X d 161 (47, [some (.inr (.inr 3)), some (.inl x1)], [], σ) Φ) (k2 : ¬ (6 ≤ (pe_I σ (pe_R σ 891 x1) 3)) → pe_X d 161 (38, [some (.inr (.inr 3)), some (.inl x1)], [], σ) Φ) : pe_X d 161 (24, [some (.inr (.inr 3)), some (.inl x1)], [], σ) Φ := by
  refine pe_blk 14 7 ck161 [pe_K σ 3 = 21, 22 ≤ pe_K σ (pe_R σ 3 6) ∧ pe_K σ (pe_R σ 3 6) < 25, 0 ≤ (pe_w x1), (pe_w x1) < pe_L σ (pe_R σ 3 6), pe_K σ (pe_R σ (pe_R σ 3 6) (pe_w x1)) = 20] (cond (decide ((pe_w 6) ≤ (pe_w (pe_I σ (pe_R σ (pe_R σ 3 6) (pe_w x1)) 3)))) 47 38, [some (.inr (.inr 3)), some (.inl x1)], [], σ) rfl ?_ ?_
  · first
    | (simp (disch := omega) only [pe_all, pe_wi w0, pe_wi w1, pe_wi (x := 6) ⟨by decide, by decide⟩, ll_e6 hL, ll_k3 hL, ll_k891 hL, ll_n891 hL, pe_K_wI, pe_K_wR, pe_L_wI, pe_L_wR, pe_R_nej, pe_R_ner, pe_R_wI]; done)
    | (simp (disch := omega) only [pe_all, pe_wi w0, pe_wi w1, pe_wi (x := 6) ⟨by decide, by decide⟩, ll_e6 hL, ll_k3 hL, ll_k891 hL, ll_n891 hL, pe_K_wI, pe_K_wR, pe_L_wI, pe_L_wR, pe_R_nej, pe_R_ner, pe_R_wI]; (repeat' apply And.intro) <;> first | assumption | omega | decide)
  · try simp (disch := omega) only [pe_wi w0, pe_wi w1, pe_wi (x := 6) ⟨by decide, by decide⟩, ll_e6 hL, ll_k3 hL, ll_k891 hL, ll_n891 hL, pe_K_wI, pe_K_wR, pe_L_wI, pe_L_wR, pe_R_nej, pe_R_ner, pe_R_wI]
    exact pe_two k1 k2
theorem b161_38 {d : Nat} {Φ : Option pe_V → pe_H → Prop} {σ : pe_H} {x1 : Int} (hL : ll_L σ := by assumption)   (k : pe_M d 157 [.inr (.inr 3), .inl x1, .inl 1] σ (fun r σ' => pe_X d 161 (44, [some (.inr (.inr 3)), some (.inl x1)], r.toList ++ [], σ') Φ)) : pe_X d 161 (38, [some (.inr (.inr 3)), some (.inl x1)], [], σ) Φ := by
  refine pe_blk 21 3 ck161 [] (41, [some (.inr (.inr 3)), some (.inl x1)], [.inl 1, .inl x1, .inr (.inr 3)], σ) rfl ?_ ?_
  · exact trivial
  · try simp (disch := omega) only [ll_k3 hL, pe_K_wI, pe_K_wR]
    have hrc : pe_K σ 3 = 21 := by first | assumption | (simp (disch := omega) only [ll_k3 hL, pe_K_wI, pe_K_wR]; done) | (simp (disch := omega) only [ll_k3 hL, pe_K_wI, pe_K_wR]; assumption)
    exact pe_cal 24 ck161 rfl rfl rfl ⟨hrc, by decide⟩ k
theorem b161_44 {d : Nat} {Φ : Option pe_V → pe_H → Prop} {σ : pe_H} {x1 : Int} (hL : ll_L σ := by assumption)   (k : pe_X d 161 (24, [some (.inr (.inr 3)), some (.inl x1)], [], σ) Φ) : pe_X d 161 (44, [some (.inr (.inr 3)), some (.inl x1)], [], σ) Φ := by
  refine pe_blk 25 1 ck161 [] (24, [some (.inr (.inr 3)), some (.inl x1)], [], σ) rfl ?_ ?_
  · exact trivial
  · exact k
theorem b161_47 {d : Nat} {Φ : Option pe_V → pe_H → Prop} {σ : pe_H} {x1 : Int} (hL : ll_L σ := by assumption)   (k : pe_M d 155 [.inr (.inr 3), .inl x1] σ (fun r σ' => pe_X d 161 (52, [some (.inr (.inr 3)), some (.inl x1)], r.toList ++ [], σ') Φ)) : pe_X d 161 (47, [some (.inr (.inr 3)), some (.inl x1)], [], σ) Φ := by
  refine pe_blk 26 2 ck161 [] (49, [some (.inr (.inr 3)), some (.inl x1)], [.inl x1, .inr (.inr 3)], σ) rfl ?_ ?_
  · exact trivial
  · try simp (disch := omega) only [ll_k3 hL, pe_K_wI, pe_K_wR]
    have hrc : pe_K σ 3 = 21 := by first | assumption | (simp (disch := omega) only [ll_k3 hL, pe_K_wI, pe_K_wR]; done) | (simp (disch := omega) only [ll_k3 hL, pe_K_wI, pe_K_wR]; assumption)
    exact pe_cal 28 ck161 rfl rfl rfl ⟨hrc, by decide⟩ k
theorem b161_52 {d : Nat} {Φ : Option pe_V → pe_H → Prop} {σ : pe_H} {o1 : Option pe_V} (hL : ll_L σ := by assumption)   (k : Φ none σ) : pe_X d 161 (52, [some (.inr (.inr 3)), o1], [], σ) Φ := by
  exact pe_fine 29 ck161 rfl rfl rfl trivial k
-- StepMachinesLaw.round(Z)V
def T162 : List (Nat × Instr × Nat) := [(0, .aload_n 0, 1), (1, .dup, 1), (2, .getfield 182, 3), (5, .iconst 1, 1), (6, .iadd, 1), (7, .putfield 182, 3), (10, .aload_n 0, 1), (11, .iconst 0, 1), (12, .putfield 151, 3), (15, .iconst 0, 1), (16, .istore_n 2, 1), (17, .iconst 0, 1), (18, .istore_n 3, 1), (19, .iload_n 3, 1), (20, .aload_n 0, 1), (21, .getfield 93, 3), (24, .if_icmp .ge 27, 3), (27, .iload_n 2, 1), (28, .aload_n 0, 1), (29, .iload_n 3, 1), (30, .invokevirtual 185, 3), (33, .ifCond .eq 9, 3), (36, .iconst 1, 1), (37, .iload_n 3, 1), (38, .ishl, 1), (39, .goto 4, 3), (42, .iconst 0, 1), (43, .ior, 1), (44, .istore_n 2, 1), (45, .iinc 3 1, 3), (48, .goto (-29), 3), (51, .iconst 0, 1), (52, .istore_n 3, 1), (53, .iconst 0, 1), (54, .istore 4, 2), (56, .iload 4, 2), (58, .aload_n 0, 1), (59, .getfield 25, 3), (62, .if_icmp .ge 125, 3), (65, .iload_n 1, 1), (66, .ifCond .ne 121, 3), (69, .iconst (-1), 1), (70, .istore 5, 2), (72, .sipush (-9999), 3), (75, .istore 6, 2), (77, .iconst 0, 1), (78, .istore 7, 2), (80, .iload 7, 2), (82, .aload_n 0, 1), (83, .getfield 93, 3), (86, .if_icmp .ge 65, 3), (89, .aload_n 0, 1), (90, .getfield 31, 3), (93, .iload 7, 2), (95, .aaload, 1), (96, .getfield 189, 3), (99, .aload_n 0, 1), (100, .getfield 31, 3), (103, .iload 7, 2), (105, .aaload, 1), (106, .invokevirtual 192, 3), (109, .iadd, 1), (110, .istore 8, 2), (112, .iload_n 2, 1), (113, .iload 7, 2), (115, .invokestatic 196, 3), (118, .ifCond .eq 27, 3), (121, .iload_n 3, 1), (122, .iload 7, 2), (124, .invokestatic 196, 3), (127, .ifCond .ne 18, 3), (130, .iload 8, 2), (132, .iload 6, 2), (134, .if_icmp .le 11, 3), (137, .iload 8, 2), (139, .istore 6, 2), (141, .iload 7, 2), (143, .istore 5, 2), (145, .iinc 7 1, 3), (148, .goto (-68), 3), (151, .iload 5, 2), (153, .ifCond .lt 28, 3), (156, .iload_n 3, 1), (157, .iconst 1, 1), (158, .iload 5, 2), (160, .ishl, 1), (161, .ior, 1), (162, .istore_n 3, 1), (163, .aload_n 0, 1), (164, .getfield 31, 3), (167, .iload 5, 2), (169, .aaload, 1), (170, .iconst 0, 1), (171, .invokevirtual 172, 3), (174, .aload_n 0, 1), (175, .iload 5, 2), (177, .iconst 0, 1), (178, .invokevirtual 175, 3), (181, .iinc 4 1, 3), (184, .goto (-128), 3), (187, .iconst 0, 1), (188, .istore 4, 2), (190, .iload 4, 2), (192, .aload_n 0, 1), (193, .getfield 93, 3), (196, .if_icmp .ge 59, 3), (199, .iload_n 2, 1), (200, .iload 4, 2), (202, .invokestatic 196, 3), (205, .ifCond .eq 44, 3), (208, .aload_n 0, 1), (209, .getfield 31, 3), (212, .iload 4, 2), (214, .aaload, 1), (215, .iload_n 3, 1), (216, .iload 4, 2), (218, .invokestatic 196, 3), (221, .ifCond .eq 7, 3), (224, .iconst 0, 1), (225, .goto 21, 3), (228, .sipush 999, 3), (231, .aload_n 0, 1), (232, .getfield 31, 3), (235, .iload 4, 2), (237, .aaload, 1), (238, .getfield 189, 3), (241, .iconst 1, 1), (242, .iadd, 1), (243, .invokestatic 145, 3), (246, .putfield 189, 3), (249, .iinc 4 1, 3), (252, .goto (-62), 3), (255, .return_, 1)]
theorem ck162 : pe_ctx 162 21 false none 9 T162 := ⟨rfl, rfl, rfl, rfl, by decide +kernel, by decide, by decide⟩
theorem b162_0 {d : Nat} {Φ : Option pe_V → pe_H → Prop} {σ : pe_H} {x1 : Int} {o2 : Option pe_V} {o3 : Option pe_V} {o4 : Option pe_V} {o5 : Option pe_V} {o6 : Option pe_V} {o7 : Option pe_V} {o8 : Option pe_V} (hL : ll_L σ := by assumption)   (k : pe_X d 162 (10, [some (.inr (.inr 3)), some (.inl x1), o2, o3, o4, o5, o6, o7, o8], [], pe_wI σ 3 5 ((pe_I σ 3 5) + 1)) Φ) : pe_X d 162 (0, [some (.inr (.inr 3)), some (.inl x1), o2, o3, o4, o5, o6, o7, o8], [], σ) Φ := by
  refine pe_blk 0 6 ck162 [pe_K σ 3 = 21, pe_K σ 3 = 21] (10, [some (.inr (.inr 3)), some (.inl x1), o2, o3, o4, o5, o6, o7, o8], [], pe_wI σ 3 5 ((pe_I σ 3 5) + 1)) rfl ?_ ?_
  · first
    | (simp (disch := omega) only [pe_all, ll_k3 hL, pe_K_wI, pe_K_wR]; done)
    | (simp (disch := omega) only [pe_all, ll_k3 hL, pe_K_wI, pe_K_wR]; (repeat' apply And.intro) <;> first | assumption | omega | decide)
  · try simp (disch := omega) only [ll_k3 hL, pe_K_wI, pe_K_wR]
    exact k
theorem b162_10 {d : Nat} {Φ : Option pe_V → pe_H → Prop} {σ : pe_H} {x1 : Int} {o2 : Option pe_V} {o3 : Option pe_V} {o4 : Option pe_V} {o5 : Option pe_V} {o6 : Option pe_V} {o7 : Option pe_V} {o8 : Option pe_V} (hL : ll_L σ := by assumption)   (k : pe_X d 162 (15, [some (.inr (.inr 3)), some (.inl x1), o2, o3, o4, o5, o6, o7, o8], [], pe_wI σ 3 8 0) Φ) : pe_X d 162 (10, [some (.inr (.inr 3)), some (.inl x1), o2, o3, o4, o5, o6, o7, o8], [], σ) Φ := by
  refine pe_blk 6 3 ck162 [pe_K σ 3 = 21] (15, [some (.inr (.inr 3)), some (.inl x1), o2, o3, o4, o5, o6, o7, o8], [], pe_wI σ 3 8 0) rfl ?_ ?_
  · first
    | (simp (disch := omega) only [pe_all, ll_k3 hL, pe_K_wI, pe_K_wR]; done)
    | (simp (disch := omega) only [pe_all, ll_k3 hL, pe_K_wI, pe_K_wR]; (repeat' apply And.intro) <;> first | assumption | omega | decide)
  · try simp (disch := omega) only [ll_k3 hL, pe_K_wI, pe_K_wR]
    exact k
theorem b162_15 {d : Nat} {Φ : Option pe_V → pe_H → Prop} {σ : pe_H} {x1 : Int} {o2 : Option pe_V} {o3 : Option pe_V} {o4 : Option pe_V} {o5 : Option pe_V} {o6 : Option pe_V} {o7 : Option pe_V} {o8 : Option pe_V} (hL : ll_L σ := by assumption)   (k : pe_X d 162 (19, [some (.inr (.inr 3)), some (.inl x1), some (.inl 0), some (.inl 0), o4, o5, o6, o7, o8], [], σ) Φ) : pe_X d 162 (15, [some (.inr (.inr 3)), some (.inl x1), o2, o3, o4, o5, o6, o7, o8], [], σ) Φ := by
  refine pe_blk 9 4 ck162 [] (19, [some (.inr (.inr 3)), some (.inl x1), some (.inl 0), some (.inl 0), o4, o5, o6, o7, o8], [], σ) rfl ?_ ?_
  · exact trivial
  · exact k
theorem b162_19 {d : Nat} {Φ : Option pe_V → pe_H → Prop} {σ : pe_H} {x1 : Int} {x2 : Int} {x3 : Int} {o4 : Option pe_V} {o5 : Option pe_V} {o6 : Option pe_V} {o7 : Option pe_V} {o8 : Option pe_V} (hL : ll_L σ := by assumption) (w0 : pe_in (pe_I σ 3 3) := by unfold pe_in; omega) (w1 : pe_in x3 := by unfold pe_in; omega)  (k1 : (pe_I σ 3 3) ≤ x3 → pe_X d 162 (51, [some (.inr (.inr 3)), some (.inl x1), some (.inl x2), some (.inl x3), o4, o5, o6, o7, o8], [], σ) Φ) (k2 : ¬ ((pe_I σ 3 3) ≤ x3) → pe_X d 162 (27, [some (.inr (.inr 3)), some (.inl x1), some (.inl x2), some (.inl x3), o4, o5, o6, o7, o8], [], σ) Φ) : pe_X d 162 (19, [some (.inr (.inr 3)), some (.inl x1), some (.inl x2), some (.inl x3), o4, o5, o6, o7, o8], [], σ) Φ := by
  refine pe_blk 13 4 ck162 [pe_K σ 3 = 21] (cond (decide ((pe_w (pe_I σ 3 3)) ≤ (pe_w x3))) 51 27, [some (.inr (.inr 3)), some (.inl x1), some (.inl x2), some (.inl x3), o4, o5, o6, o7, o8], [], σ) rfl ?_ ?_
  · first
    | (simp (disch := omega) only [pe_all, pe_wi w0, pe_wi w1, ll_k3 hL, pe_K_wI, pe_K_wR]; done)
    | (simp (disch := omega) only [pe_all, pe_wi w0, pe_wi w1, ll_k3 hL, pe_K_wI, pe_K_wR]; (repeat' apply And.intro) <;> first | assumption | omega | decide)
  · try simp (disch := omega) only [pe_wi w0, pe_wi w1, ll_k3 hL, pe_K_wI, pe_K_wR]
    exact pe_two k1 k2
theorem b162_27 {d : Nat} {Φ : Option pe_V → pe_H → Prop} {σ : pe_H} {x1 : Int} {x2 : Int} {x3 : Int} {o4 : Option pe_V} {o5 : Option pe_V} {o6 : Option pe_V} {o7 : Option pe_V} {o8 : Option pe_V} (hL : ll_L σ := by assumption)   (k : pe_M d 159 [.inr (.inr 3), .inl x3] σ (fun r σ' => pe_X d 162 (33, [some (.inr (.inr 3)), some (.inl x1), some (.inl x2), some (.inl x3), o4, o5, o6, o7, o8], r.toList ++ [.inl x2], σ') Φ)) : pe_X d 162 (27, [some (.inr (.inr 3)), some (.inl x1), some (.inl x2), some (.inl x3), o4, o5, o6, o7, o8], [], σ) Φ := by
  refine pe_blk 17 3 ck162 [] (30, [some (.inr (.inr 3)), some (.inl x1), some (.inl x2), some (.inl x3), o4, o5, o6, o7, o8], [.inl x3, .inr (.inr 3), .inl x2], σ) rfl ?_ ?_
  · exact trivial
  · try simp (disch := omega) only [ll_k3 hL, pe_K_wI, pe_K_wR]
    have hrc : pe_K σ 3 = 21 := by first | assumption | (simp (disch := omega) only [ll_k3 hL, pe_K_wI, pe_K_wR]; done) | (simp (disch := omega) only [ll_k3 hL, pe_K_wI, pe_K_wR]; assumption)
    exact pe_cal 20 ck162 rfl rfl rfl ⟨hrc, by decide⟩ k
theorem b162_33 {d : Nat} {Φ : Option pe_V → pe_H → Prop} {σ : pe_H} {x1 : Int} {o2 : Option pe_V} {x3 : Int} {o4 : Option pe_V} {o5 : Option pe_V} {o6 : Option pe_V} {o7 : Option pe_V} {o8 : Option pe_V} {s0 : Int} {s1 : Int} (hL : ll_L σ := by assumption) (w0 : pe_in s1 := by unfold pe_in; omega)  (k1 : s1 = 0 → pe_X d 162 (42, [some (.inr (.inr 3)), some (.inl x1), o2, some (.inl x3), o4, o5, o6, o7, o8], [.inl s0], σ) Φ) (k2 : ¬ (s1 = 0) → pe_X d 162 (36, [some (.inr (.inr 3)), some (.inl x1), o2, some (.inl x3), o4, o5, o6, o7, o8], [.inl s0], σ) Φ) : pe_X d 162 (33, [some (.inr (.inr 3)), some (.inl x1), o2, some (.inl x3), o4, o5, o6, o7, o8], [.inl s1, .inl s0], σ) Φ := by
  refine pe_blk 21 1 ck162 [] (cond (decide ((pe_w s1) = 0)) 42 36, [some (.inr (.inr 3)), some (.inl x1), o2, some (.inl x3), o4, o5, o6, o7, o8], [.inl s0], σ) rfl ?_ ?_
  · exact trivial
  · try simp (disch := omega) only [pe_wi w0]
    exact pe_two k1 k2
theorem b162_36 {d : Nat} {Φ : Option pe_V → pe_H → Prop} {σ : pe_H} {x1 : Int} {o2 : Option pe_V} {x3 : Int} {o4 : Option pe_V} {o5 : Option pe_V} {o6 : Option pe_V} {o7 : Option pe_V} {o8 : Option pe_V} {s0 : Int} (hL : ll_L σ := by assumption)   (k : pe_X d 162 (43, [some (.inr (.inr 3)), some (.inl x1), o2, some (.inl x3), o4, o5, o6, o7, o8], [.inl (pe_shl 1 x3), .inl s0], σ) Φ) : pe_X d 162 (36, [some (.inr (.inr 3)), some (.inl x1), o2, some (.inl x3), o4, o5, o6, o7, o8], [.inl s0], σ) Φ := by
  refine pe_blk 22 4 ck162 [] (43, [some (.inr (.inr 3)), some (.inl x1), o2, some (.inl x3), o4, o5, o6, o7, o8], [.inl (pe_shl 1 x3), .inl s0], σ) rfl ?_ ?_
  · exact trivial
  · exact k
theorem b162_42 {d : Nat} {Φ : Option pe_V → pe_H → Prop} {σ : pe_H} {x1 : Int} {o2 : Option pe_V} {x3 : Int} {o4 : Option pe_V} {o5 : Option pe_V} {o6 : Option pe_V} {o7 : Option pe_V} {o8 : Option pe_V} {s0 : Int} (hL : ll_L σ := by assumption)   (k : pe_X d 162 (43, [some (.inr (.inr 3)), some (.inl x1), o2, some (.inl x3), o4, o5, o6, o7, o8], [.inl 0, .inl s0], σ) Φ) : pe_X d 162 (42, [some (.inr (.inr 3)), some (.inl x1), o2, some (.inl x3), o4, o5, o6, o7, o8], [.inl s0], σ) Φ := by
  refine pe_blk 26 1 ck162 [] (43, [some (.inr (.inr 3)), some (.inl x1), o2, some (.inl x3), o4, o5, o6, o7, o8], [.inl 0, .inl s0], σ) rfl ?_ ?_
  · exact trivial
  · exact k
theorem b162_43 {d : Nat} {Φ : Option pe_V → pe_H → Prop} {σ : pe_H} {x1 : Int} {o2 : Option pe_V} {x3 : Int} {o4 : Option pe_V} {o5 : Option pe_V} {o6 : Option pe_V} {o7 : Option pe_V} {o8 : Option pe_V} {s0 : Int} {s1 : Int} (hL : ll_L σ := by assumption)   (k : pe_X d 162 (19, [some (.inr (.inr 3)), some (.inl x1), some (.inl (pe_or s0 s1)), some (.inl (x3 + 1)), o4, o5, o6, o7, o8], [], σ) Φ) : pe_X d 162 (43, [some (.inr (.inr 3)), some (.inl x1), o2, some (.inl x3), o4, o5, o6, o7, o8], [.inl s1, .inl s0], σ) Φ := by
  refine pe_blk 27 4 ck162 [] (19, [some (.inr (.inr 3)), some (.inl x1), some (.inl (pe_or s0 s1)), some (.inl (x3 + 1)), o4, o5, o6, o7, o8], [], σ) rfl ?_ ?_
  · exact trivial
  · exact k
theorem b162_51 {d : Nat} {Φ : Option pe_V → pe_H → Prop} {σ : pe_H} {x1 : Int} {x2 : Int} {o3 : Option pe_V} {o4 : Option pe_V} {o5 : Option pe_V} {o6 : Option pe_V} {o7 : Option pe_V} {o8 : Option pe_V} (hL : ll_L σ := by assumption)   (k : pe_X d 162 (56, [some (.inr (.inr 3)), some (.inl x1), some (.inl x2), some (.inl 0), some (.inl 0), o5, o6, o7, o8], [], σ) Φ) : pe_X d 162 (51, [some (.inr (.inr 3)), some (.inl x1), some (.inl x2), o3, o4, o5, o6, o7, o8], [], σ) Φ := by
  refine pe_blk 31 4 ck162 [] (56, [some (.inr (.inr 3)), some (.inl x1), some (.inl x2), some (.inl 0), some (.inl 0), o5, o6, o7, o8], [], σ) rfl ?_ ?_
  · exact trivial
  · exact k
theorem b162_56 {d : Nat} {Φ : Option pe_V → pe_H → Prop} {σ : pe_H} {x1 : Int} {x2 : Int} {x3 : Int} {x4 : Int} {o5 : Option pe_V} {o6 : Option pe_V} {o7 : Option pe_V} {o8 : Option pe_V} (hL : ll_L σ := by assumption) (w0 : pe_in (pe_I σ 3 4) := by unfold pe_in; omega) (w1 : pe_in x4 := by unfold pe_in; omega)  (k1 : (pe_I σ 3 4) ≤ x4 → pe_X d 162 (187, [some (.inr (.inr 3)), some (.inl x1), some (.inl x2), some (.inl x3), some (.inl x4), o5, o6, o7, o8], [], σ) Φ) (k2 : ¬ ((pe_I σ 3 4) ≤ x4) → pe_X d 162 (65, [some (.inr (.inr 3)), some (.inl x1), some (.inl x2), some (.inl x3), some (.inl x4), o5, o6, o7, o8], [], σ) Φ) : pe_X d 162 (56, [some (.inr (.inr 3)), some (.inl x1), some (.inl x2), some (.inl x3), some (.inl x4), o5, o6, o7, o8], [], σ) Φ := by
  refine pe_blk 35 4 ck162 [pe_K σ 3 = 21] (cond (decide ((pe_w (pe_I σ 3 4)) ≤ (pe_w x4))) 187 65, [some (.inr (.inr 3)), some (.inl x1), some (.inl x2), some (.inl x3), some (.inl x4), o5, o6, o7, o8], [], σ) rfl ?_ ?_
  · first
    | (simp (disch := omega) only [pe_all, pe_wi w0, pe_wi w1, ll_k3 hL, pe_K_wI, pe_K_wR]; done)
    | (simp (disch := omega) only [pe_all, pe_wi w0, pe_wi w1, ll_k3 hL, pe_K_wI, pe_K_wR]; (repeat' apply And.intro) <;> first | assumption | omega | decide)
  · try simp (disch := omega) only [pe_wi w0, pe_wi w1, ll_k3 hL, pe_K_wI, pe_K_wR]
    exact pe_two k1 k2
theorem b162_65 {d : Nat} {Φ : Option pe_V → pe_H → Prop} {σ : pe_H} {x1 : Int} {x2 : Int} {x3 : Int} {x4 : Int} {o5 : Option pe_V} {o6 : Option pe_V} {o7 : Option pe_V} {o8 : Option pe_V} (hL : ll_L σ := by assumption) (w0 : pe_in x1 := by unfold pe_in; omega)  (k1 : ¬ x1 = 0 → pe_X d 162 (187, [some (.inr (.inr 3)), some (.inl x1), some (.inl x2), some (.inl x3), some (.inl x4), o5, o6, o7, o8], [], σ) Φ) (k2 : x1 = 0 → pe_X d 162 (69, [some (.inr (.inr 3)), some (.inl x1), some (.inl x2), some (.inl x3), some (.inl x4), o5, o6, o7, o8], [], σ) Φ) : pe_X d 162 (65, [some (.inr (.inr 3)), some (.inl x1), some (.inl x2), some (.inl x3), some (.inl x4), o5, o6, o7, o8], [], σ) Φ := by
  refine pe_blk 39 2 ck162 [] (cond (decide (¬ (pe_w x1) = 0)) 187 69, [some (.inr (.inr 3)), some (.inl x1), some (.inl x2), some (.inl x3), some (.inl x4), o5, o6, o7, o8], [], σ) rfl ?_ ?_
  · exact trivial
  · try simp (disch := omega) only [pe_wi w0]
    exact pe_two' k1 k2
theorem b162_69 {d : Nat} {Φ : Option pe_V → pe_H → Prop} {σ : pe_H} {x1 : Int} {x2 : Int} {x3 : Int} {x4 : Int} {o5 : Option pe_V} {o6 : Option pe_V} {o7 : Option pe_V} {o8 : Option pe_V} (hL : ll_L σ := by assumption)   (k : pe_X d 162 (80, [some (.inr (.inr 3)), some (.inl x1), some (.inl x2), some (.inl x3), some (.inl x4), some (.inl (-1)), some (.inl (-9999)), some (.inl 0), o8], [], σ) Φ) : pe_X d 162 (69, [some (.inr (.inr 3)), some (.inl x1), some (.inl x2), some (.inl x3), some (.inl x4), o5, o6, o7, o8], [], σ) Φ := by
  refine pe_blk 41 6 ck162 [] (80, [some (.inr (.inr 3)), some (.inl x1), some (.inl x2), some (.inl x3), some (.inl x4), some (.inl (-1)), some (.inl (-9999)), some (.inl 0), o8], [], σ) rfl ?_ ?_
  · exact trivial
  · exact k
set_option maxRecDepth 8000 in
theorem b162_80 {d : Nat} {Φ : Option pe_V → pe_H → Prop} {σ : pe_H} {x1 : Int} {x2 : Int} {x3 : Int} {x4 : Int} {x5 : Int} {x6 : Int} {x7 : Int} {o8 : Option pe_V} (hL : ll_L σ := by assumption) (w0 : pe_in (pe_I σ 3 3) := by unfold pe_in; omega) (w1 : pe_in x7 := by unfold pe_in; omega)  (k1 : (pe_I σ 3 3) ≤ x7 → pe_X d 162 (151, [some (.inr (.inr 3)), some (.inl x1), some (.inl x2), some (.inl x3), some (.inl x4), some (.inl x5), some (.inl x6), some (.inl x7), o8], [], σ) Φ) (k2 : ¬ ((pe_I σ 3 3) ≤ x7) → pe_X d 162 (89, [some (.inr (.inr 3)), some (.inl x1), some (.inl x2), some (.inl x3), some (.inl x4), some (.inl x5), some (.inl x6), some (.inl x7), o8], [], σ) Φ) : pe_X d 162 (80, [some (.inr (.inr 3)), some (.inl x1), some (.inl x2), some (.inl x3), some (.inl x4), some (.inl x5), some (.inl x6), some (.inl x7), o8], [], σ) Φ := by
  refine pe_blk 47 4 ck162 [pe_K σ 3 = 21] (cond (decide ((pe_w (pe_I σ 3 3)) ≤ (pe_w x7))) 151 89, [some (.inr (.inr 3)), some (.inl x1), some (.inl x2), some (.inl x3), some (.inl x4), some (.inl x5), some (.inl x6), some (.inl x7), o8], [], σ) rfl ?_ ?_
  · first
    | (simp (disch := omega) only [pe_all, pe_wi w0, pe_wi w1, ll_k3 hL, pe_K_wI, pe_K_wR]; done)
    | (simp (disch := omega) only [pe_all, pe_wi w0, pe_wi w1, ll_k3 hL, pe_K_wI, pe_K_wR]; (repeat' apply And.intro) <;> first | assumption | omega | decide)
  · try simp (disch := omega) only [pe_wi w0, pe_wi w1, ll_k3 hL, pe_K_wI, pe_K_wR]
    exact pe_two k1 k2
set_option maxRecDepth 8000 in
theorem b162_89 {d : Nat} {Φ : Option pe_V → pe_H → Prop} {σ : pe_H} {x1 : Int} {x2 : Int} {x3 : Int} {x4 : Int} {x5 : Int} {x6 : Int} {x7 : Int} {o8 : Option pe_V} (hL : ll_L σ := by assumption) (w0 : pe_in x7 := by unfold pe_in; omega) (h0 : 0 ≤ x7 := by first | assumption | omega) (h1 : x7 < 8 := by first | assumption | omega) (h2 : pe_K σ (pe_R σ 891 x7) = 20 := by first | assumption | omega) (k : pe_M d 138 [.inr (.inr (pe_R σ 891 x7))] σ (fun r σ' => pe_X d 162 (109, [some (.inr (.inr 3)), some (.inl x1), some (.inl x2), some (.inl x3), some (.inl x4), some (.inl x5), some (.inl x6), some (.inl x7), o8], r.toList ++ [.inl (pe_I σ (pe_R σ 891 x7) 7)], σ') Φ)) : pe_X d 162 (89, [some (.inr (.inr 3)), some (.inl x1), some (.inl x2), some (.inl x3), some (.inl x4), some (.inl x5), some (.inl x6), some (.inl x7), o8], [], σ) Φ := by
  refine pe_blk 51 9 ck162 [pe_K σ 3 = 21, 22 ≤ pe_K σ (pe_R σ 3 6) ∧ pe_K σ (pe_R σ 3 6) < 25, 0 ≤ (pe_w x7), (pe_w x7) < pe_L σ (pe_R σ 3 6), pe_K σ (pe_R σ (pe_R σ 3 6) (pe_w x7)) = 20, pe_K σ 3 = 21, 22 ≤ pe_K σ (pe_R σ 3 6) ∧ pe_K σ (pe_R σ 3 6) < 25, 0 ≤ (pe_w x7), (pe_w x7) < pe_L σ (pe_R σ 3 6)] (106, [some (.inr (.inr 3)), some (.inl x1), some (.inl x2), some (.inl x3), some (.inl x4), some (.inl x5), some (.inl x6), some (.inl x7), o8], [.inr (.inr (pe_R σ (pe_R σ 3 6) (pe_w x7))), .inl (pe_I σ (pe_R σ (pe_R σ 3 6) (pe_w x7)) 7)], σ) rfl ?_ ?_
  · first
    | (simp (disch := omega) only [pe_all, pe_wi w0, ll_e6 hL, ll_k3 hL, ll_k891 hL, ll_n891 hL, pe_K_wI, pe_K_wR, pe_L_wI, pe_L_wR, pe_R_nej, pe_R_ner, pe_R_wI]; done)
    | (simp (disch := omega) only [pe_all, pe_wi w0, ll_e6 hL, ll_k3 hL, ll_k891 hL, ll_n891 hL, pe_K_wI, pe_K_wR, pe_L_wI, pe_L_wR, pe_R_nej, pe_R_ner, pe_R_wI]; (repeat' apply And.intro) <;> first | assumption | omega | decide)
  · try simp (disch := omega) only [pe_wi w0, ll_e6 hL, ll_k3 hL, ll_k891 hL, ll_n891 hL, pe_K_wI, pe_K_wR, pe_L_wI, pe_L_wR, pe_R_nej, pe_R_ner, pe_R_wI]
    have hrc : pe_K σ (pe_R σ 891 x7) = 20 := by first | assumption | (simp (disch := omega) only [pe_wi w0, ll_e6 hL, ll_k3 hL, ll_k891 hL, ll_n891 hL, pe_K_wI, pe_K_wR, pe_L_wI, pe_L_wR, pe_R_nej, pe_R_ner, pe_R_wI]; done) | (simp (disch := omega) only [pe_wi w0, ll_e6 hL, ll_k3 hL, ll_k891 hL, ll_n891 hL, pe_K_wI, pe_K_wR, pe_L_wI, pe_L_wR, pe_R_nej, pe_R_ner, pe_R_wI]; assumption)
    exact pe_cal 60 ck162 rfl rfl rfl ⟨hrc, by decide⟩ k
set_option maxRecDepth 8000 in
theorem b162_109 {d : Nat} {Φ : Option pe_V → pe_H → Prop} {σ : pe_H} {x1 : Int} {x2 : Int} {x3 : Int} {x4 : Int} {x5 : Int} {x6 : Int} {x7 : Int} {o8 : Option pe_V} {s0 : Int} {s1 : Int} (hL : ll_L σ := by assumption)   (k : pe_M d 148 [.inl x2, .inl x7] σ (fun r σ' => pe_X d 162 (118, [some (.inr (.inr 3)), some (.inl x1), some (.inl x2), some (.inl x3), some (.inl x4), some (.inl x5), some (.inl x6), some (.inl x7), some (.inl (s0 + s1))], r.toList ++ [], σ') Φ)) : pe_X d 162 (109, [some (.inr (.inr 3)), some (.inl x1), some (.inl x2), some (.inl x3), some (.inl x4), some (.inl x5), some (.inl x6), some (.inl x7), o8], [.inl s1, .inl s0], σ) Φ := by
  refine pe_blk 61 4 ck162 [] (115, [some (.inr (.inr 3)), some (.inl x1), some (.inl x2), some (.inl x3), some (.inl x4), some (.inl x5), some (.inl x6), some (.inl x7), some (.inl (s0 + s1))], [.inl x7, .inl x2], σ) rfl ?_ ?_
  · exact trivial
  · exact pe_cal 65 ck162 rfl rfl rfl trivial k
set_option maxRecDepth 8000 in
theorem b162_118 {d : Nat} {Φ : Option pe_V → pe_H → Prop} {σ : pe_H} {x1 : Int} {x2 : Int} {x3 : Int} {x4 : Int} {x5 : Int} {x6 : Int} {x7 : Int} {x8 : Int} {s0 : Int} (hL : ll_L σ := by assumption) (w0 : pe_in s0 := by unfold pe_in; omega)  (k1 : s0 = 0 → pe_X d 162 (145, [some (.inr (.inr 3)), some (.inl x1), some (.inl x2), some (.inl x3), some (.inl x4), some (.inl x5), some (.inl x6), some (.inl x7), some (.inl x8)], [], σ) Φ) (k2 : ¬ (s0 = 0) → pe_X d 162 (121, [some (.inr (.inr 3)), some (.inl x1), some (.inl x2), some (.inl x3), some (.inl x4), some (.inl x5), some (.inl x6), some (.inl x7), some (.inl x8)], [], σ) Φ) : pe_X d 162 (118, [some (.inr (.inr 3)), some (.inl x1), some (.inl x2), some (.inl x3), some (.inl x4), some (.inl x5), some (.inl x6), some (.inl x7), some (.inl x8)], [.inl s0], σ) Φ := by
  refine pe_blk 66 1 ck162 [] (cond (decide ((pe_w s0) = 0)) 145 121, [some (.inr (.inr 3)), some (.inl x1), some (.inl x2), some (.inl x3), some (.inl x4), some (.inl x5), some (.inl x6), some (.inl x7), some (.inl x8)], [], σ) rfl ?_ ?_
  · exact trivial
  · try simp (disch := omega) only [pe_wi w0]
    exact pe_two k1 k2
set_option maxRecDepth 8000 in
theorem b162_121 {d : Nat} {Φ : Option pe_V → pe_H → Prop} {σ : pe_H} {x1 : Int} {x2 : Int} {x3 : Int} {x4 : Int} {x5 : Int} {x6 : Int} {x7 : Int} {x8 : Int} (hL : ll_L σ := by assumption)   (k : pe_M d 148 [.inl x3, .inl x7] σ (fun r σ' => pe_X d 162 (127, [some (.inr (.inr 3)), some (.inl x1), some (.inl x2), some (.inl x3), some (.inl x4), some (.inl x5), some (.inl x6), some (.inl x7), some (.inl x8)], r.toList ++ [], σ') Φ)) : pe_X d 162 (121, [some (.inr (.inr 3)), some (.inl x1), some (.inl x2), some (.inl x3), some (.inl x4), some (.inl x5), some (.inl x6), some (.inl x7), some (.inl x8)], [], σ) Φ := by
  refine pe_blk 67 2 ck162 [] (124, [some (.inr (.inr 3)), some (.inl x1), some (.inl x2), some (.inl x3), some (.inl x4), some (.inl x5), some (.inl x6), some (.inl x7), some (.inl x8)], [.inl x7, .inl x3], σ) rfl ?_ ?_
  · exact trivial
  · exact pe_cal 69 ck162 rfl rfl rfl trivial k
set_option maxRecDepth 8000 in
theorem b162_127 {d : Nat} {Φ : Option pe_V → pe_H → Prop} {σ : pe_H} {x1 : Int} {x2 : Int} {x3 : Int} {x4 : Int} {x5 : Int} {x6 : Int} {x7 : Int} {x8 : Int} {s0 : Int} (hL : ll_L σ := by assumption) (w0 : pe_in s0 := by unfold pe_in; omega)  (k1 : ¬ s0 = 0 → pe_X d 162 (145, [some (.inr (.inr 3)), some (.inl x1), some (.inl x2), some (.inl x3), some (.inl x4), some (.inl x5), some (.inl x6), some (.inl x7), some (.inl x8)], [], σ) Φ) (k2 : s0 = 0 → pe_X d 162 (130, [some (.inr (.inr 3)), some (.inl x1), some (.inl x2), some (.inl x3), some (.inl x4), some (.inl x5), some (.inl x6), some (.inl x7), some (.inl x8)], [], σ) Φ) : pe_X d 162 (127, [some (.inr (.inr 3)), some (.inl x1), some (.inl x2), some (.inl x3), some (.inl x4), some (.inl x5), some (.inl x6), some (.inl x7), some (.inl x8)], [.inl s0], σ) Φ := by
  refine pe_blk 70 1 ck162 [] (cond (decide (¬ (pe_w s0) = 0)) 145 130, [some (.inr (.inr 3)), some (.inl x1), some (.inl x2), some (.inl x3), some (.inl x4), some (.inl x5), some (.inl x6), some (.inl x7), some (.inl x8)], [], σ) rfl ?_ ?_
  · exact trivial
  · try simp (disch := omega) only [pe_wi w0]
    exact pe_two' k1 k2
set_option maxRecDepth 8000 in
theorem b162_130 {d : Nat} {Φ : Option pe_V → pe_H → Prop} {σ : pe_H} {x1 : Int} {x2 : Int} {x3 : Int} {x4 : Int} {x5 : Int} {x6 : Int} {x7 : Int} {x8 : Int} (hL : ll_L σ := by assumption) (w0 : pe_in x6 := by unfold pe_in; omega) (w1 : pe_in x8 := by unfold pe_in; omega)  (k1 : x8 ≤ x6 → pe_X d 162 (145, [some (.inr (.inr 3)), some (.inl x1), some (.inl x2), some (.inl x3), some (.inl x4), some (.inl x5), some (.inl x6), some (.inl x7), some (.inl x8)], [], σ) Φ) (k2 : ¬ (x8 ≤ x6) → pe_X d 162 (137, [some (.inr (.inr 3)), some (.inl x1), some (.inl x2), some (.inl x3), some (.inl x4), some (.inl x5), some (.inl x6), some (.inl x7), some (.inl x8)], [], σ) Φ) : pe_X d 162 (130, [some (.inr (.inr 3)), some (.inl x1), some (.inl x2), some (.inl x3), some (.inl x4), some (.inl x5), some (.inl x6), some (.inl x7), some (.inl x8)], [], σ) Φ := by
  refine pe_blk 71 3 ck162 [] (cond (decide ((pe_w x8) ≤ (pe_w x6))) 145 137, [some (.inr (.inr 3)), some (.inl x1), some (.inl x2), some (.inl x3), some (.inl x4), some (.inl x5), some (.inl x6), some (.inl x7), some (.inl x8)], [], σ) rfl ?_ ?_
  · exact trivial
  · try simp (disch := omega) only [pe_wi w0, pe_wi w1]
    exact pe_two k1 k2
set_option maxRecDepth 8000 in
theorem b162_137 {d : Nat} {Φ : Option pe_V → pe_H → Prop} {σ : pe_H} {x1 : Int} {x2 : Int} {x3 : Int} {x4 : Int} {o5 : Option pe_V} {o6 : Option pe_V} {x7 : Int} {x8 : Int} (hL : ll_L σ := by assumption)   (k : pe_X d 162 (145, [some (.inr (.inr 3)), some (.inl x1), some (.inl x2), some (.inl x3), some (.inl x4), some (.inl x7), some (.inl x8), some (.inl x7), some (.inl x8)], [], σ) Φ) : pe_X d 162 (137, [some (.inr (.inr 3)), some (.inl x1), some (.inl x2), some (.inl x3), some (.inl x4), o5, o6, some (.inl x7), some (.inl x8)], [], σ) Φ := by
  refine pe_blk 74 4 ck162 [] (145, [some (.inr (.inr 3)), some (.inl x1), some (.inl x2), some (.inl x3), some (.inl x4), some (.inl x7), some (.inl x8), some (.inl x7), some (.inl x8)], [], σ) rfl ?_ ?_
  · exact trivial
  · exact k
set_option maxRecDepth 8000 in
theorem b162_145 {d : Nat} {Φ : Option pe_V → pe_H → Prop} {σ : pe_H} {x1 : Int} {x2 : Int} {x3 : Int} {x4 : Int} {x5 : Int} {x6 : Int} {x7 : Int} {o8 : Option pe_V} (hL : ll_L σ := by assumption)   (k : pe_X d 162 (80, [some (.inr (.inr 3)), some (.inl x1), some (.inl x2), some (.inl x3), some (.inl x4), some (.inl x5), some (.inl x6), some (.inl (x7 + 1)), o8], [], σ) Φ) : pe_X d 162 (145, [some (.inr (.inr 3)), some (.inl x1), some (.inl x2), some (.inl x3), some (.inl x4), some (.inl x5), some (.inl x6), some (.inl x7), o8], [], σ) Φ := by
  refine pe_blk 78 2 ck162 [] (80, [some (.inr (.inr 3)), some (.inl x1), some (.inl x2), some (.inl x3), some (.inl x4), some (.inl x5), some (.inl x6), some (.inl (x7 + 1)), o8], [], σ) rfl ?_ ?_
  · exact trivial
  · exact k
set_option maxRecDepth 8000 in
theorem b162_151 {d : Nat} {Φ : Option pe_V → pe_H → Prop} {σ : pe_H} {x1 : Int} {x2 : Int} {x3 : Int} {x4 : Int} {x5 : Int} {o6 : Option pe_V} {o7 : Option pe_V} {o8 : Option pe_V} (hL : ll_L σ := by assumption) (w0 : pe_in x5 := by unfold pe_in; omega)  (k1 : x5 < 0 → pe_X d 162 (181, [some (.inr (.inr 3)), some (.inl x1), some (.inl x2), some (.inl x3), some (.inl x4), some (.inl x5), o6, o7, o8], [], σ) Φ) (k2 : ¬ (x5 < 0) → pe_X d 162 (156, [some (.inr (.inr 3)), some (.inl x1), some (.inl x2), some (.inl x3), some (.inl x4), some (.inl x5), o6, o7, o8], [], σ) Φ) : pe_X d 162 (151, [some (.inr (.inr 3)), some (.inl x1), some (.inl x2), some (.inl x3), some (.inl x4), some (.inl x5), o6, o7, o8], [], σ) Φ := by
  refine pe_blk 80 2 ck162 [] (cond (decide ((pe_w x5) < 0)) 181 156, [some (.inr (.inr 3)), some (.inl x1), some (.inl x2), some (.inl x3), some (.inl x4), some (.inl x5), o6, o7, o8], [], σ) rfl ?_ ?_
  · exact trivial
  · try simp (disch := omega) only [pe_wi w0]
    exact pe_two k1 k2
set_option maxRecDepth 8000 in
theorem b162_156 {d : Nat} {Φ : Option pe_V → pe_H → Prop} {σ : pe_H} {x1 : Int} {x2 : Int} {x3 : Int} {x4 : Int} {x5 : Int} {o6 : Option pe_V} {o7 : Option pe_V} {o8 : Option pe_V} (hL : ll_L σ := by assumption) (w0 : pe_in x5 := by unfold pe_in; omega) (h0 : 0 ≤ x5 := by first | assumption | omega) (h1 : x5 < 8 := by first | assumption | omega) (h2 : pe_K σ (pe_R σ 891 x5) = 20 := by first | assumption | omega) (k : pe_M d 142 [.inr (.inr (pe_R σ 891 x5)), .inl 0] σ (fun r σ' => pe_X d 162 (174, [some (.inr (.inr 3)), some (.inl x1), some (.inl x2), some (.inl (pe_or x3 (pe_shl 1 x5))), some (.inl x4), some (.inl x5), o6, o7, o8], r.toList ++ [], σ') Φ)) : pe_X d 162 (156, [some (.inr (.inr 3)), some (.inl x1), some (.inl x2), some (.inl x3), some (.inl x4), some (.inl x5), o6, o7, o8], [], σ) Φ := by
  refine pe_blk 82 11 ck162 [pe_K σ 3 = 21, 22 ≤ pe_K σ (pe_R σ 3 6) ∧ pe_K σ (pe_R σ 3 6) < 25, 0 ≤ (pe_w x5), (pe_w x5) < pe_L σ (pe_R σ 3 6)] (171, [some (.inr (.inr 3)), some (.inl x1), some (.inl x2), some (.inl (pe_or x3 (pe_shl 1 x5))), some (.inl x4), some (.inl x5), o6, o7, o8], [.inl 0, .inr (.inr (pe_R σ (pe_R σ 3 6) (pe_w x5)))], σ) rfl ?_ ?_
  · first
    | (simp (disch := omega) only [pe_all, pe_wi w0, ll_e6 hL, ll_k3 hL, ll_k891 hL, ll_n891 hL, pe_K_wI, pe_K_wR, pe_L_wI, pe_L_wR, pe_R_nej, pe_R_ner, pe_R_wI]; done)
    | (simp (disch := omega) only [pe_all, pe_wi w0, ll_e6 hL, ll_k3 hL, ll_k891 hL, ll_n891 hL, pe_K_wI, pe_K_wR, pe_L_wI, pe_L_wR, pe_R_nej, pe_R_ner, pe_R_wI]; (repeat' apply And.intro) <;> first | assumption | omega | decide)
  · try simp (disch := omega) only [pe_wi w0, ll_e6 hL, ll_k3 hL, ll_k891 hL, ll_n891 hL, pe_K_wI, pe_K_wR, pe_L_wI, pe_L_wR, pe_R_nej, pe_R_ner, pe_R_wI]
    have hrc : pe_K σ (pe_R σ 891 x5) = 20 := by first | assumption | (simp (disch := omega) only [pe_wi w0, ll_e6 hL, ll_k3 hL, ll_k891 hL, ll_n891 hL, pe_K_wI, pe_K_wR, pe_L_wI, pe_L_wR, pe_R_nej, pe_R_ner, pe_R_wI]; done) | (simp (disch := omega) only [pe_wi w0, ll_e6 hL, ll_k3 hL, ll_k891 hL, ll_n891 hL, pe_K_wI, pe_K_wR, pe_L_wI, pe_L_wR, pe_R_nej, pe_R_ner, pe_R_wI]; assumption)
    exact pe_cal 93 ck162 rfl rfl rfl ⟨hrc, by decide⟩ k
set_option maxRecDepth 8000 in
theorem b162_174 {d : Nat} {Φ : Option pe_V → pe_H → Prop} {σ : pe_H} {x1 : Int} {x2 : Int} {x3 : Int} {x4 : Int} {x5 : Int} {o6 : Option pe_V} {o7 : Option pe_V} {o8 : Option pe_V} (hL : ll_L σ := by assumption)   (k : pe_M d 157 [.inr (.inr 3), .inl x5, .inl 0] σ (fun r σ' => pe_X d 162 (181, [some (.inr (.inr 3)), some (.inl x1), some (.inl x2), some (.inl x3), some (.inl x4), some (.inl x5), o6, o7, o8], r.toList ++ [], σ') Φ)) : pe_X d 162 (174, [some (.inr (.inr 3)), some (.inl x1), some (.inl x2), some (.inl x3), some (.inl x4), some (.inl x5), o6, o7, o8], [], σ) Φ := by
  refine pe_blk 94 3 ck162 [] (178, [some (.inr (.inr 3)), some (.inl x1), some (.inl x2), some (.inl x3), some (.inl x4), some (.inl x5), o6, o7, o8], [.inl 0, .inl x5, .inr (.inr 3)], σ) rfl ?_ ?_
  · exact trivial
  · try simp (disch := omega) only [ll_k3 hL, pe_K_wI, pe_K_wR]
    have hrc : pe_K σ 3 = 21 := by first | assumption | (simp (disch := omega) only [ll_k3 hL, pe_K_wI, pe_K_wR]; done) | (simp (disch := omega) only [ll_k3 hL, pe_K_wI, pe_K_wR]; assumption)
    exact pe_cal 97 ck162 rfl rfl rfl ⟨hrc, by decide⟩ k
set_option maxRecDepth 8000 in
theorem b162_181 {d : Nat} {Φ : Option pe_V → pe_H → Prop} {σ : pe_H} {x1 : Int} {x2 : Int} {x3 : Int} {x4 : Int} {o5 : Option pe_V} {o6 : Option pe_V} {o7 : Option pe_V} {o8 : Option pe_V} (hL : ll_L σ := by assumption)   (k : pe_X d 162 (56, [some (.inr (.inr 3)), some (.inl x1), some (.inl x2), some (.inl x3), some (.inl (x4 + 1)), o5, o6, o7, o8], [], σ) Φ) : pe_X d 162 (181, [some (.inr (.inr 3)), some (.inl x1), some (.inl x2), some (.inl x3), some (.inl x4), o5, o6, o7, o8], [], σ) Φ := by
  refine pe_blk 98 2 ck162 [] (56, [some (.inr (.inr 3)), some (.inl x1), some (.inl x2), some (.inl x3), some (.inl (x4 + 1)), o5, o6, o7, o8], [], σ) rfl ?_ ?_
  · exact trivial
  · exact k
set_option maxRecDepth 8000 in
theorem b162_187 {d : Nat} {Φ : Option pe_V → pe_H → Prop} {σ : pe_H} {o1 : Option pe_V} {x2 : Int} {x3 : Int} {o4 : Option pe_V} {o5 : Option pe_V} {o6 : Option pe_V} {o7 : Option pe_V} {o8 : Option pe_V} (hL : ll_L σ := by assumption)   (k : pe_X d 162 (190, [some (.inr (.inr 3)), o1, some (.inl x2), some (.inl x3), some (.inl 0), o5, o6, o7, o8], [], σ) Φ) : pe_X d 162 (187, [some (.inr (.inr 3)), o1, some (.inl x2), some (.inl x3), o4, o5, o6, o7, o8], [], σ) Φ := by
  refine pe_blk 100 2 ck162 [] (190, [some (.inr (.inr 3)), o1, some (.inl x2), some (.inl x3), some (.inl 0), o5, o6, o7, o8], [], σ) rfl ?_ ?_
  · exact trivial
  · exact k
set_option maxRecDepth 8000 in
theorem b162_190 {d : Nat} {Φ : Option pe_V → pe_H → Prop} {σ : pe_H} {o1 : Option pe_V} {x2 : Int} {x3 : Int} {x4 : Int} {o5 : Option pe_V} {o6 : Option pe_V} {o7 : Option pe_V} {o8 : Option pe_V} (hL : ll_L σ := by assumption) (w0 : pe_in (pe_I σ 3 3) := by unfold pe_in; omega) (w1 : pe_in x4 := by unfold pe_in; omega)  (k1 : (pe_I σ 3 3) ≤ x4 → pe_X d 162 (255, [some (.inr (.inr 3)), o1, some (.inl x2), some (.inl x3), some (.inl x4), o5, o6, o7, o8], [], σ) Φ) (k2 : ¬ ((pe_I σ 3 3) ≤ x4) → pe_X d 162 (199, [some (.inr (.inr 3)), o1, some (.inl x2), some (.inl x3), some (.inl x4), o5, o6, o7, o8], [], σ) Φ) : pe_X d 162 (190, [some (.inr (.inr 3)), o1, some (.inl x2), some (.inl x3), some (.inl x4), o5, o6, o7, o8], [], σ) Φ := by
  refine pe_blk 102 4 ck162 [pe_K σ 3 = 21] (cond (decide ((pe_w (pe_I σ 3 3)) ≤ (pe_w x4))) 255 199, [some (.inr (.inr 3)), o1, some (.inl x2), some (.inl x3), some (.inl x4), o5, o6, o7, o8], [], σ) rfl ?_ ?_
  · first
    | (simp (disch := omega) only [pe_all, pe_wi w0, pe_wi w1, ll_k3 hL, pe_K_wI, pe_K_wR]; done)
    | (simp (disch := omega) only [pe_all, pe_wi w0, pe_wi w1, ll_k3 hL, pe_K_wI, pe_K_wR]; (repeat' apply And.intro) <;> first | assumption | omega | decide)
  · try simp (disch := omega) only [pe_wi w0, pe_wi w1, ll_k3 hL, pe_K_wI, pe_K_wR]
    exact pe_two k1 k2
set_option maxRecDepth 8000 in
theorem b162_199 {d : Nat} {Φ : Option pe_V → pe_H → Prop} {σ : pe_H} {o1 : Option pe_V} {x2 : Int} {x3 : Int} {x4 : Int} {o5 : Option pe_V} {o6 : Option pe_V} {o7 : Option pe_V} {o8 : Option pe_V} (hL : ll_L σ := by assumption)   (k : pe_M d 148 [.inl x2, .inl x4] σ (fun r σ' => pe_X d 162 (205, [some (.inr (.inr 3)), o1, some (.inl x2), some (.inl x3), some (.inl x4), o5, o6, o7, o8], r.toList ++ [], σ') Φ)) : pe_X d 162 (199, [some (.inr (.inr 3)), o1, some (.inl x2), some (.inl x3), some (.inl x4), o5, o6, o7, o8], [], σ) Φ := by
  refine pe_blk 106 2 ck162 [] (202, [some (.inr (.inr 3)), o1, some (.inl x2), some (.inl x3), some (.inl x4), o5, o6, o7, o8], [.inl x4, .inl x2], σ) rfl ?_ ?_
  · exact trivial
  · exact pe_cal 108 ck162 rfl rfl rfl trivial k
set_option maxRecDepth 8000 in
theorem b162_205 {d : Nat} {Φ : Option pe_V → pe_H → Prop} {σ : pe_H} {o1 : Option pe_V} {x2 : Int} {x3 : Int} {x4 : Int} {o5 : Option pe_V} {o6 : Option pe_V} {o7 : Option pe_V} {o8 : Option pe_V} {s0 : Int} (hL : ll_L σ := by assumption) (w0 : pe_in s0 := by unfold pe_in; omega)  (k1 : s0 = 0 → pe_X d 162 (249, [some (.inr (.inr 3)), o1, some (.inl x2), some (.inl x3), some (.inl x4), o5, o6, o7, o8], [], σ) Φ) (k2 : ¬ (s0 = 0) → pe_X d 162 (208, [some (.inr (.inr 3)), o1, some (.inl x2), some (.inl x3), some (.inl x4), o5, o6, o7, o8], [], σ) Φ) : pe_X d 162 (205, [some (.inr (.inr 3)), o1, some (.inl x2), some (.inl x3), some (.inl x4), o5, o6, o7, o8], [.inl s0], σ) Φ := by
  refine pe_blk 109 1 ck162 [] (cond (decide ((pe_w s0) = 0)) 249 208, [some (.inr (.inr 3)), o1, some (.inl x2), some (.inl x3), some (.inl x4), o5, o6, o7, o8], [], σ) rfl ?_ ?_
  · exact trivial
  · try simp (disch := omega) only [pe_wi w0]
    exact pe_two k1 k2
set_option maxRecDepth 8000 in
theorem b162_208 {d : Nat} {Φ : Option pe_V → pe_H → Prop} {σ : pe_H} {o1 : Option pe_V} {x2 : Int} {x3 : Int} {x4 : Int} {o5 : Option pe_V} {o6 : Option pe_V} {o7 : Option pe_V} {o8 : Option pe_V} (hL : ll_L σ := by assumption) (w0 : pe_in x4 := by unfold pe_in; omega) (h0 : 0 ≤ x4 := by first | assumption | omega) (h1 : x4 < 8 := by first | assumption | omega) (k : pe_M d 148 [.inl x3, .inl x4] σ (fun r σ' => pe_X d 162 (221, [some (.inr (.inr 3)), o1, some (.inl x2), some (.inl x3), some (.inl x4), o5, o6, o7, o8], r.toList ++ [.inr (.inr (pe_R σ 891 x4))], σ') Φ)) : pe_X d 162 (208, [some (.inr (.inr 3)), o1, some (.inl x2), some (.inl x3), some (.inl x4), o5, o6, o7, o8], [], σ) Φ := by
  refine pe_blk 110 6 ck162 [pe_K σ 3 = 21, 22 ≤ pe_K σ (pe_R σ 3 6) ∧ pe_K σ (pe_R σ 3 6) < 25, 0 ≤ (pe_w x4), (pe_w x4) < pe_L σ (pe_R σ 3 6)] (218, [some (.inr (.inr 3)), o1, some (.inl x2), some (.inl x3), some (.inl x4), o5, o6, o7, o8], [.inl x4, .inl x3, .inr (.inr (pe_R σ (pe_R σ 3 6) (pe_w x4)))], σ) rfl ?_ ?_
  · first
    | (simp (disch := omega) only [pe_all, pe_wi w0, ll_e6 hL, ll_k3 hL, ll_k891 hL, ll_n891 hL, pe_K_wI, pe_K_wR, pe_L_wI, pe_L_wR, pe_R_nej, pe_R_ner, pe_R_wI]; done)
    | (simp (disch := omega) only [pe_all, pe_wi w0, ll_e6 hL, ll_k3 hL, ll_k891 hL, ll_n891 hL, pe_K_wI, pe_K_wR, pe_L_wI, pe_L_wR, pe_R_nej, pe_R_ner, pe_R_wI]; (repeat' apply And.intro) <;> first | assumption | omega | decide)
  · try simp (disch := omega) only [pe_wi w0, ll_e6 hL, ll_k3 hL, ll_k891 hL, ll_n891 hL, pe_K_wI, pe_K_wR, pe_L_wI, pe_L_wR, pe_R_nej, pe_R_ner, pe_R_wI]
    exact pe_cal 116 ck162 rfl rfl rfl trivial k
set_option maxRecDepth 8000 in
theorem b162_221 {d : Nat} {Φ : Option pe_V → pe_H → Prop} {σ : pe_H} {o1 : Option pe_V} {x2 : Int} {x3 : Int} {x4 : Int} {o5 : Option pe_V} {o6 : Option pe_V} {o7 : Option pe_V} {o8 : Option pe_V} {b0 : Nat} {s1 : Int} (hL : ll_L σ := by assumption) (w0 : pe_in s1 := by unfold pe_in; omega)  (k1 : s1 = 0 → pe_X d 162 (228, [some (.inr (.inr 3)), o1, some (.inl x2), some (.inl x3), some (.inl x4), o5, o6, o7, o8], [.inr (.inr b0)], σ) Φ) (k2 : ¬ (s1 = 0) → pe_X d 162 (224, [some (.inr (.inr 3)), o1, some (.inl x2), some (.inl x3), some (.inl x4), o5, o6, o7, o8], [.inr (.inr b0)], σ) Φ) : pe_X d 162 (221, [some (.inr (.inr 3)), o1, some (.inl x2), some (.inl x3), some (.inl x4), o5, o6, o7, o8], [.inl s1, .inr (.inr b0)], σ) Φ := by
  refine pe_blk 117 1 ck162 [] (cond (decide ((pe_w s1) = 0)) 228 224, [some (.inr (.inr 3)), o1, some (.inl x2), some (.inl x3), some (.inl x4), o5, o6, o7, o8], [.inr (.inr b0)], σ) rfl ?_ ?_
  · exact trivial
  · try simp (disch := omega) only [pe_wi w0]
    exact pe_two k1 k2
set_option maxRecDepth 8000 in
theorem b162_224 {d : Nat} {Φ : Option pe_V → pe_H → Prop} {σ : pe_H} {o1 : Option pe_V} {x2 : Int} {x3 : Int} {x4 : Int} {o5 : Option pe_V} {o6 : Option pe_V} {o7 : Option pe_V} {o8 : Option pe_V} {b0 : Nat} (hL : ll_L σ := by assumption)   (k : pe_X d 162 (246, [some (.inr (.inr 3)), o1, some (.inl x2), some (.inl x3), some (.inl x4), o5, o6, o7, o8], [.inl 0, .inr (.inr b0)], σ) Φ) : pe_X d 162 (224, [some (.inr (.inr 3)), o1, some (.inl x2), some (.inl x3), some (.inl x4), o5, o6, o7, o8], [.inr (.inr b0)], σ) Φ := by
  refine pe_blk 118 2 ck162 [] (246, [some (.inr (.inr 3)), o1, some (.inl x2), some (.inl x3), some (.inl x4), o5, o6, o7, o8], [.inl 0, .inr (.inr b0)], σ) rfl ?_ ?_
  · exact trivial
  · exact k
set_option maxRecDepth 8000 in
theorem b162_228 {d : Nat} {Φ : Option pe_V → pe_H → Prop} {σ : pe_H} {o1 : Option pe_V} {x2 : Int} {x3 : Int} {x4 : Int} {o5 : Option pe_V} {o6 : Option pe_V} {o7 : Option pe_V} {o8 : Option pe_V} {b0 : Nat} (hL : ll_L σ := by assumption) (w0 : pe_in x4 := by unfold pe_in; omega) (w1 : pe_in ((pe_I σ (pe_R σ 891 x4) 7) + 1) := by unfold pe_in; omega) (h0 : 0 ≤ x4 := by first | assumption | omega) (h1 : x4 < 8 := by first | assumption | omega) (h2 : pe_K σ (pe_R σ 891 x4) = 20 := by first | assumption | omega) (k : pe_X d 162 (246, [some (.inr (.inr 3)), o1, some (.inl x2), some (.inl x3), some (.inl x4), o5, o6, o7, o8], [.inl (if ((pe_I σ (pe_R σ 891 x4) 7) + 1) < 999 then ((pe_I σ (pe_R σ 891 x4) 7) + 1) else 999), .inr (.inr b0)], σ) Φ) : pe_X d 162 (228, [some (.inr (.inr 3)), o1, some (.inl x2), some (.inl x3), some (.inl x4), o5, o6, o7, o8], [.inr (.inr b0)], σ) Φ := by
  refine pe_blk 120 9 ck162 [pe_K σ 3 = 21, 22 ≤ pe_K σ (pe_R σ 3 6) ∧ pe_K σ (pe_R σ 3 6) < 25, 0 ≤ (pe_w x4), (pe_w x4) < pe_L σ (pe_R σ 3 6), pe_K σ (pe_R σ (pe_R σ 3 6) (pe_w x4)) = 20] (246, [some (.inr (.inr 3)), o1, some (.inl x2), some (.inl x3), some (.inl x4), o5, o6, o7, o8], [.inl (if (pe_w ((pe_I σ (pe_R σ (pe_R σ 3 6) (pe_w x4)) 7) + 1)) < (pe_w 999) then ((pe_I σ (pe_R σ (pe_R σ 3 6) (pe_w x4)) 7) + 1) else 999), .inr (.inr b0)], σ) rfl ?_ ?_
  · first
    | (simp (disch := omega) only [pe_all, pe_wi w0, pe_wi w1, pe_wi (x := 999) ⟨by decide, by decide⟩, ll_e6 hL, ll_k3 hL, ll_k891 hL, ll_n891 hL, pe_K_wI, pe_K_wR, pe_L_wI, pe_L_wR, pe_R_nej, pe_R_ner, pe_R_wI]; done)
    | (simp (disch := omega) only [pe_all, pe_wi w0, pe_wi w1, pe_wi (x := 999) ⟨by decide, by decide⟩, ll_e6 hL, ll_k3 hL, ll_k891 hL, ll_n891 hL, pe_K_wI, pe_K_wR, pe_L_wI, pe_L_wR, pe_R_nej, pe_R_ner, pe_R_wI]; (repeat' apply And.intro) <;> first | assumption | omega | decide)
  · try simp (disch := omega) only [pe_wi w0, pe_wi w1, pe_wi (x := 999) ⟨by decide, by decide⟩, ll_e6 hL, ll_k3 hL, ll_k891 hL, ll_n891 hL, pe_K_wI, pe_K_wR, pe_L_wI, pe_L_wR, pe_R_nej, pe_R_ner, pe_R_wI]
    exact k
set_option maxRecDepth 8000 in
theorem b162_246 {d : Nat} {Φ : Option pe_V → pe_H → Prop} {σ : pe_H} {o1 : Option pe_V} {x2 : Int} {x3 : Int} {x4 : Int} {o5 : Option pe_V} {o6 : Option pe_V} {o7 : Option pe_V} {o8 : Option pe_V} {b0 : Nat} {s1 : Int} (hL : ll_L σ := by assumption)  (h0 : pe_K σ b0 = 20 := by first | assumption | omega) (k : pe_X d 162 (249, [some (.inr (.inr 3)), o1, some (.inl x2), some (.inl x3), some (.inl x4), o5, o6, o7, o8], [], pe_wI σ b0 7 s1) Φ) : pe_X d 162 (246, [some (.inr (.inr 3)), o1, some (.inl x2), some (.inl x3), some (.inl x4), o5, o6, o7, o8], [.inl s1, .inr (.inr b0)], σ) Φ := by
  refine pe_blk 129 1 ck162 [pe_K σ b0 = 20] (249, [some (.inr (.inr 3)), o1, some (.inl x2), some (.inl x3), some (.inl x4), o5, o6, o7, o8], [], pe_wI σ b0 7 s1) rfl ?_ ?_
  · first
    | (simp (disch := omega) only [pe_all, pe_K_wI, pe_K_wR]; done)
    | (simp (disch := omega) only [pe_all, pe_K_wI, pe_K_wR]; (repeat' apply And.intro) <;> first | assumption | omega | decide)
  · try simp (disch := omega) only [pe_K_wI, pe_K_wR]
    exact k
set_option maxRecDepth 8000 in
theorem b162_249 {d : Nat} {Φ : Option pe_V → pe_H → Prop} {σ : pe_H} {o1 : Option pe_V} {x2 : Int} {x3 : Int} {x4 : Int} {o5 : Option pe_V} {o6 : Option pe_V} {o7 : Option pe_V} {o8 : Option pe_V} (hL : ll_L σ := by assumption)   (k : pe_X d 162 (190, [some (.inr (.inr 3)), o1, some (.inl x2), some (.inl x3), some (.inl (x4 + 1)), o5, o6, o7, o8], [], σ) Φ) : pe_X d 162 (249, [some (.inr (.inr 3)), o1, some (.inl x2), some (.inl x3), some (.inl x4), o5, o6, o7, o8], [], σ) Φ := by
  refine pe_blk 130 2 ck162 [] (190, [some (.inr (.inr 3)), o1, some (.inl x2), some (.inl x3), some (.inl (x4 + 1)), o5, o6, o7, o8], [], σ) rfl ?_ ?_
  · exact trivial
  · exact k
set_option maxRecDepth 8000 in
theorem b162_255 {d : Nat} {Φ : Option pe_V → pe_H → Prop} {σ : pe_H} {o1 : Option pe_V} {o2 : Option pe_V} {o3 : Option pe_V} {o4 : Option pe_V} {o5 : Option pe_V} {o6 : Option pe_V} {o7 : Option pe_V} {o8 : Option pe_V} (hL : ll_L σ := by assumption)   (k : Φ none σ) : pe_X d 162 (255, [some (.inr (.inr 3)), o1, o2, o3, o4, o5, o6, o7, o8], [], σ) Φ := by
  exact pe_fine 132 ck162 rfl rfl rfl trivial k
-- StepMachinesLaw.go(I)V
def T163 : List (Nat × Instr × Nat) := [(0, .iconst 0, 1), (1, .istore_n 2, 1), (2, .iload_n 2, 1), (3, .iload_n 1, 1), (4, .if_icmp .ge 14, 3), (7, .aload_n 0, 1), (8, .iconst 0, 1), (9, .invokevirtual 200, 3), (12, .iinc 2 1, 3), (15, .goto (-13), 3), (18, .return_, 1)]
theorem ck163 : pe_ctx 163 21 false none 3 T163 := ⟨rfl, rfl, rfl, rfl, by decide +kernel, by decide, by decide⟩
theorem b163_0 {d : Nat} {Φ : Option pe_V → pe_H → Prop} {σ : pe_H} {x1 : Int} {o2 : Option pe_V} (hL : ll_L σ := by assumption)   (k : pe_X d 163 (2, [some (.inr (.inr 3)), some (.inl x1), some (.inl 0)], [], σ) Φ) : pe_X d 163 (0, [some (.inr (.inr 3)), some (.inl x1), o2], [], σ) Φ := by
  refine pe_blk 0 2 ck163 [] (2, [some (.inr (.inr 3)), some (.inl x1), some (.inl 0)], [], σ) rfl ?_ ?_
  · exact trivial
  · exact k
theorem b163_2 {d : Nat} {Φ : Option pe_V → pe_H → Prop} {σ : pe_H} {x1 : Int} {x2 : Int} (hL : ll_L σ := by assumption) (w0 : pe_in x1 := by unfold pe_in; omega) (w1 : pe_in x2 := by unfold pe_in; omega)  (k1 : x1 ≤ x2 → pe_X d 163 (18, [some (.inr (.inr 3)), some (.inl x1), some (.inl x2)], [], σ) Φ) (k2 : ¬ (x1 ≤ x2) → pe_X d 163 (7, [some (.inr (.inr 3)), some (.inl x1), some (.inl x2)], [], σ) Φ) : pe_X d 163 (2, [some (.inr (.inr 3)), some (.inl x1), some (.inl x2)], [], σ) Φ := by
  refine pe_blk 2 3 ck163 [] (cond (decide ((pe_w x1) ≤ (pe_w x2))) 18 7, [some (.inr (.inr 3)), some (.inl x1), some (.inl x2)], [], σ) rfl ?_ ?_
  · exact trivial
  · try simp (disch := omega) only [pe_wi w0, pe_wi w1]
    exact pe_two k1 k2
theorem b163_7 {d : Nat} {Φ : Option pe_V → pe_H → Prop} {σ : pe_H} {x1 : Int} {x2 : Int} (hL : ll_L σ := by assumption)   (k : pe_M d 162 [.inr (.inr 3), .inl 0] σ (fun r σ' => pe_X d 163 (12, [some (.inr (.inr 3)), some (.inl x1), some (.inl x2)], r.toList ++ [], σ') Φ)) : pe_X d 163 (7, [some (.inr (.inr 3)), some (.inl x1), some (.inl x2)], [], σ) Φ := by
  refine pe_blk 5 2 ck163 [] (9, [some (.inr (.inr 3)), some (.inl x1), some (.inl x2)], [.inl 0, .inr (.inr 3)], σ) rfl ?_ ?_
  · exact trivial
  · try simp (disch := omega) only [ll_k3 hL, pe_K_wI, pe_K_wR]
    have hrc : pe_K σ 3 = 21 := by first | assumption | (simp (disch := omega) only [ll_k3 hL, pe_K_wI, pe_K_wR]; done) | (simp (disch := omega) only [ll_k3 hL, pe_K_wI, pe_K_wR]; assumption)
    exact pe_cal 7 ck163 rfl rfl rfl ⟨hrc, by decide⟩ k
theorem b163_12 {d : Nat} {Φ : Option pe_V → pe_H → Prop} {σ : pe_H} {x1 : Int} {x2 : Int} (hL : ll_L σ := by assumption)   (k : pe_X d 163 (2, [some (.inr (.inr 3)), some (.inl x1), some (.inl (x2 + 1))], [], σ) Φ) : pe_X d 163 (12, [some (.inr (.inr 3)), some (.inl x1), some (.inl x2)], [], σ) Φ := by
  refine pe_blk 8 2 ck163 [] (2, [some (.inr (.inr 3)), some (.inl x1), some (.inl (x2 + 1))], [], σ) rfl ?_ ?_
  · exact trivial
  · exact k
theorem b163_18 {d : Nat} {Φ : Option pe_V → pe_H → Prop} {σ : pe_H} {o1 : Option pe_V} {o2 : Option pe_V} (hL : ll_L σ := by assumption)   (k : Φ none σ) : pe_X d 163 (18, [some (.inr (.inr 3)), o1, o2], [], σ) Φ := by
  exact pe_fine 10 ck163 rfl rfl rfl trivial k
-- StepMachinesLaw.ended()I
def T164 : List (Nat × Instr × Nat) := [(0, .iconst 0, 1), (1, .istore_n 1, 1), (2, .iconst 0, 1), (3, .istore_n 2, 1), (4, .iload_n 2, 1), (5, .aload_n 0, 1), (6, .getfield 93, 3), (9, .if_icmp .ge 32, 3), (12, .iload_n 1, 1), (13, .aload_n 0, 1), (14, .getfield 31, 3), (17, .iload_n 2, 1), (18, .aaload, 1), (19, .getfield 67, 3), (22, .iconst 5, 1), (23, .if_icmp .le 9, 3), (26, .iconst 1, 1), (27, .iload_n 2, 1), (28, .ishl, 1), (29, .goto 4, 3), (32, .iconst 0, 1), (33, .ior, 1), (34, .istore_n 1, 1), (35, .iinc 2 1, 3), (38, .goto (-34), 3), (41, .iload_n 1, 1), (42, .ireturn, 1)]
theorem ck164 : pe_ctx 164 21 false (some .int) 3 T164 := ⟨rfl, rfl, rfl, rfl, by decide +kernel, by decide, by decide⟩
theorem b164_0 {d : Nat} {Φ : Option pe_V → pe_H → Prop} {σ : pe_H} {o1 : Option pe_V} {o2 : Option pe_V} (hL : ll_L σ := by assumption)   (k : pe_X d 164 (4, [some (.inr (.inr 3)), some (.inl 0), some (.inl 0)], [], σ) Φ) : pe_X d 164 (0, [some (.inr (.inr 3)), o1, o2], [], σ) Φ := by
  refine pe_blk 0 4 ck164 [] (4, [some (.inr (.inr 3)), some (.inl 0), some (.inl 0)], [], σ) rfl ?_ ?_
  · exact trivial
  · exact k
theorem b164_4 {d : Nat} {Φ : Option pe_V → pe_H → Prop} {σ : pe_H} {x1 : Int} {x2 : Int} (hL : ll_L σ := by assumption) (w0 : pe_in (pe_I σ 3 3) := by unfold pe_in; omega) (w1 : pe_in x2 := by unfold pe_in; omega)  (k1 : (pe_I σ 3 3) ≤ x2 → pe_X d 164 (41, [some (.inr (.inr 3)), some (.inl x1), some (.inl x2)], [], σ) Φ) (k2 : ¬ ((pe_I σ 3 3) ≤ x2) → pe_X d 164 (12, [some (.inr (.inr 3)), some (.inl x1), some (.inl x2)], [], σ) Φ) : pe_X d 164 (4, [some (.inr (.inr 3)), some (.inl x1), some (.inl x2)], [], σ) Φ := by
  refine pe_blk 4 4 ck164 [pe_K σ 3 = 21] (cond (decide ((pe_w (pe_I σ 3 3)) ≤ (pe_w x2))) 41 12, [some (.inr (.inr 3)), some (.inl x1), some (.inl x2)], [], σ) rfl ?_ ?_
  · first
    | (simp (disch := omega) only [pe_all, pe_wi w0, pe_wi w1, ll_k3 hL, pe_K_wI, pe_K_wR]; done)
    | (simp (disch := omega) only [pe_all, pe_wi w0, pe_wi w1, ll_k3 hL, pe_K_wI, pe_K_wR]; (repeat' apply And.intro) <;> first | assumption | omega | decide)
  · try simp (disch := omega) only [pe_wi w0, pe_wi w1, ll_k3 hL, pe_K_wI, pe_K_wR]
    exact pe_two k1 k2
theorem b164_12 {d : Nat} {Φ : Option pe_V → pe_H → Prop} {σ : pe_H} {x1 : Int} {x2 : Int} (hL : ll_L σ := by assumption) (w0 : pe_in x2 := by unfold pe_in; omega) (w1 : pe_in (pe_I σ (pe_R σ 891 x2) 3) := by unfold pe_in; omega) (h0 : 0 ≤ x2 := by first | assumption | omega) (h1 : x2 < 8 := by first | assumption | omega) (h2 : pe_K σ (pe_R σ 891 x2) = 20 := by first | assumption | omega) (k1 : (pe_I σ (pe_R σ 891 x2) 3) ≤ 5 → pe_X d 164 (32, [some (.inr (.inr 3)), some (.inl x1), some (.inl x2)], [.inl x1], σ) Φ) (k2 : ¬ ((pe_I σ (pe_R σ 891 x2) 3) ≤ 5) → pe_X d 164 (26, [some (.inr (.inr 3)), some (.inl x1), some (.inl x2)], [.inl x1], σ) Φ) : pe_X d 164 (12, [some (.inr (.inr 3)), some (.inl x1), some (.inl x2)], [], σ) Φ := by
  refine pe_blk 8 8 ck164 [pe_K σ 3 = 21, 22 ≤ pe_K σ (pe_R σ 3 6) ∧ pe_K σ (pe_R σ 3 6) < 25, 0 ≤ (pe_w x2), (pe_w x2) < pe_L σ (pe_R σ 3 6), pe_K σ (pe_R σ (pe_R σ 3 6) (pe_w x2)) = 20] (cond (decide ((pe_w (pe_I σ (pe_R σ (pe_R σ 3 6) (pe_w x2)) 3)) ≤ (pe_w 5))) 32 26, [some (.inr (.inr 3)), some (.inl x1), some (.inl x2)], [.inl x1], σ) rfl ?_ ?_
  · first
    | (simp (disch := omega) only [pe_all, pe_wi w0, pe_wi w1, pe_wi (x := 5) ⟨by decide, by decide⟩, ll_e6 hL, ll_k3 hL, ll_k891 hL, ll_n891 hL, pe_K_wI, pe_K_wR, pe_L_wI, pe_L_wR, pe_R_nej, pe_R_ner, pe_R_wI]; done)
    | (simp (disch := omega) only [pe_all, pe_wi w0, pe_wi w1, pe_wi (x := 5) ⟨by decide, by decide⟩, ll_e6 hL, ll_k3 hL, ll_k891 hL, ll_n891 hL, pe_K_wI, pe_K_wR, pe_L_wI, pe_L_wR, pe_R_nej, pe_R_ner, pe_R_wI]; (repeat' apply And.intro) <;> first | assumption | omega | decide)
  · try simp (disch := omega) only [pe_wi w0, pe_wi w1, pe_wi (x := 5) ⟨by decide, by decide⟩, ll_e6 hL, ll_k3 hL, ll_k891 hL, ll_n891 hL, pe_K_wI, pe_K_wR, pe_L_wI, pe_L_wR, pe_R_nej, pe_R_ner, pe_R_wI]
    exact pe_two k1 k2
theorem b164_26 {d : Nat} {Φ : Option pe_V → pe_H → Prop} {σ : pe_H} {o1 : Option pe_V} {x2 : Int} {s0 : Int} (hL : ll_L σ := by assumption)   (k : pe_X d 164 (33, [some (.inr (.inr 3)), o1, some (.inl x2)], [.inl (pe_shl 1 x2), .inl s0], σ) Φ) : pe_X d 164 (26, [some (.inr (.inr 3)), o1, some (.inl x2)], [.inl s0], σ) Φ := by
  refine pe_blk 16 4 ck164 [] (33, [some (.inr (.inr 3)), o1, some (.inl x2)], [.inl (pe_shl 1 x2), .inl s0], σ) rfl ?_ ?_
  · exact trivial
  · exact k
theorem b164_32 {d : Nat} {Φ : Option pe_V → pe_H → Prop} {σ : pe_H} {o1 : Option pe_V} {x2 : Int} {s0 : Int} (hL : ll_L σ := by assumption)   (k : pe_X d 164 (33, [some (.inr (.inr 3)), o1, some (.inl x2)], [.inl 0, .inl s0], σ) Φ) : pe_X d 164 (32, [some (.inr (.inr 3)), o1, some (.inl x2)], [.inl s0], σ) Φ := by
  refine pe_blk 20 1 ck164 [] (33, [some (.inr (.inr 3)), o1, some (.inl x2)], [.inl 0, .inl s0], σ) rfl ?_ ?_
  · exact trivial
  · exact k
theorem b164_33 {d : Nat} {Φ : Option pe_V → pe_H → Prop} {σ : pe_H} {o1 : Option pe_V} {x2 : Int} {s0 : Int} {s1 : Int} (hL : ll_L σ := by assumption)   (k : pe_X d 164 (4, [some (.inr (.inr 3)), some (.inl (pe_or s0 s1)), some (.inl (x2 + 1))], [], σ) Φ) : pe_X d 164 (33, [some (.inr (.inr 3)), o1, some (.inl x2)], [.inl s1, .inl s0], σ) Φ := by
  refine pe_blk 21 4 ck164 [] (4, [some (.inr (.inr 3)), some (.inl (pe_or s0 s1)), some (.inl (x2 + 1))], [], σ) rfl ?_ ?_
  · exact trivial
  · exact k
theorem b164_41 {d : Nat} {Φ : Option pe_V → pe_H → Prop} {σ : pe_H} {x1 : Int} {o2 : Option pe_V} (hL : ll_L σ := by assumption)   (k : Φ (some (.inl x1)) σ) : pe_X d 164 (41, [some (.inr (.inr 3)), some (.inl x1), o2], [], σ) Φ := by
  refine pe_blk 25 1 ck164 [] (42, [some (.inr (.inr 3)), some (.inl x1), o2], [.inl x1], σ) rfl ?_ ?_
  · exact trivial
  · exact pe_fine 26 ck164 rfl rfl rfl trivial k
