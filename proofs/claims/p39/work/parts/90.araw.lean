def T0 : List (Nat × Instr × Nat) := [(0, .aload_n 0, 1), (1, .invokespecial 3, 3), (4, .aload_n 0, 1), (5, .bipush 6, 2), (7, .anewarray 9, 3), (10, .putfield 11, 3), (13, .iconst 0, 1), (14, .istore_n 1, 1), (15, .iload_n 1, 1), (16, .bipush 6, 2), (18, .if_icmp .ge 22, 3), (21, .aload_n 0, 1), (22, .getfield 11, 3), (25, .iload_n 1, 1), (26, .new 9, 3), (29, .dup, 1), (30, .invokespecial 17, 3), (33, .aastore, 1), (34, .iinc 1 1, 3), (37, .goto (-22), 3), (40, .return_, 1)]
theorem ck0 : pe_ctx 0 0 true none 2 T0 := ⟨rfl, rfl, rfl, rfl, by decide +kernel, by decide, by decide⟩
theorem rb0_0 {d : Nat} {Φ : Option pe_V → pe_H → Prop} {σ : pe_H} {a0 : Nat} {o1 : Option pe_V}   (h0 : ¬ a0 = 0 := by first | assumption | omega) (k : pe_X d 0 (4, [some (.inr (.inr a0)), o1], [], σ) Φ) : pe_X d 0 (0, [some (.inr (.inr a0)), o1], [], σ) Φ := by
  refine pe_blk 0 2 ck0 [¬ a0 = 0] (4, [some (.inr (.inr a0)), o1], [], σ) rfl ?_ ?_
  · first
    | (simp (disch := omega) only [pe_all, ]; done)
    | (simp (disch := omega) only [pe_all, ]; (repeat' apply And.intro) <;> first | assumption | omega | decide)
  · exact k
theorem rb0_4 {d : Nat} {Φ : Option pe_V → pe_H → Prop} {σ : pe_H} {a0 : Nat} {o1 : Option pe_V}   (h0 : pe_K (pe_new σ 13 6 ((6 : Int).toNat)) a0 = 0 := by first | assumption | omega) (k : pe_X d 0 (13, [some (.inr (.inr a0)), o1], [], pe_wR (pe_new σ 13 6 ((6 : Int).toNat)) a0 10 (pe_n σ)) Φ) : pe_X d 0 (4, [some (.inr (.inr a0)), o1], [], σ) Φ := by
  refine pe_blk 2 4 ck0 [0 ≤ (pe_w 6), (pe_w 6) ≤ 10000, pe_K (pe_new σ 13 (pe_w 6) ((pe_w 6).toNat)) a0 = 0] (13, [some (.inr (.inr a0)), o1], [], pe_wR (pe_new σ 13 (pe_w 6) ((pe_w 6).toNat)) a0 10 (pe_n σ)) rfl ?_ ?_
  · first
    | (simp (disch := omega) only [pe_all, pe_wi (x := 6) ⟨by decide, by decide⟩, pe_K_wI, pe_K_wR]; done)
    | (simp (disch := omega) only [pe_all, pe_wi (x := 6) ⟨by decide, by decide⟩, pe_K_wI, pe_K_wR]; (repeat' apply And.intro) <;> first | assumption | omega | decide)
  · try simp (disch := omega) only [pe_wi (x := 6) ⟨by decide, by decide⟩, pe_K_wI, pe_K_wR]
    exact k
theorem rb0_13 {d : Nat} {Φ : Option pe_V → pe_H → Prop} {σ : pe_H} {a0 : Nat} {o1 : Option pe_V}    (k : pe_X d 0 (15, [some (.inr (.inr a0)), some (.inl 0)], [], σ) Φ) : pe_X d 0 (13, [some (.inr (.inr a0)), o1], [], σ) Φ := by
  refine pe_blk 6 2 ck0 [] (15, [some (.inr (.inr a0)), some (.inl 0)], [], σ) rfl ?_ ?_
  · exact trivial
  · exact k
theorem rb0_15 {d : Nat} {Φ : Option pe_V → pe_H → Prop} {σ : pe_H} {a0 : Nat} {x1 : Int}  (w0 : pe_in x1 := by unfold pe_in; omega)  (k1 : 6 ≤ x1 → pe_X d 0 (40, [some (.inr (.inr a0)), some (.inl x1)], [], σ) Φ) (k2 : ¬ (6 ≤ x1) → pe_X d 0 (21, [some (.inr (.inr a0)), some (.inl x1)], [], σ) Φ) : pe_X d 0 (15, [some (.inr (.inr a0)), some (.inl x1)], [], σ) Φ := by
  refine pe_blk 8 3 ck0 [] (cond (decide ((pe_w 6) ≤ (pe_w x1))) 40 21, [some (.inr (.inr a0)), some (.inl x1)], [], σ) rfl ?_ ?_
  · exact trivial
  · try simp (disch := omega) only [pe_wi w0, pe_wi (x := 6) ⟨by decide, by decide⟩]
    exact pe_two k1 k2
theorem rb0_21 {d : Nat} {Φ : Option pe_V → pe_H → Prop} {σ : pe_H} {a0 : Nat} {x1 : Int}   (h0 : pe_K σ a0 = 0 := by first | assumption | omega) (h1 : ¬ (pe_n σ) = 0 := by first | assumption | omega) (k : pe_M d 11 [.inr (.inr (pe_n σ))] (pe_new σ 1 0 6) (fun r σ' => pe_X d 0 (33, [some (.inr (.inr a0)), some (.inl x1)], r.toList ++ [.inr (.inr (pe_n σ)), .inl x1, .inr (.inr (pe_R σ a0 10))], σ') Φ)) : pe_X d 0 (21, [some (.inr (.inr a0)), some (.inl x1)], [], σ) Φ := by
  refine pe_blk 11 5 ck0 [pe_K σ a0 = 0] (30, [some (.inr (.inr a0)), some (.inl x1)], [.inr (.inr (pe_n σ)), .inr (.inr (pe_n σ)), .inl x1, .inr (.inr (pe_R σ a0 10))], pe_new σ 1 0 6) rfl ?_ ?_
  · first
    | (simp (disch := omega) only [pe_all, pe_K_wI, pe_K_wR]; done)
    | (simp (disch := omega) only [pe_all, pe_K_wI, pe_K_wR]; (repeat' apply And.intro) <;> first | assumption | omega | decide)
  · try simp (disch := omega) only [pe_K_wI, pe_K_wR]
    exact pe_cal 16 ck0 rfl rfl rfl (show ¬ _ = 0 by assumption) k
theorem rb0_33 {d : Nat} {Φ : Option pe_V → pe_H → Prop} {σ : pe_H} {a0 : Nat} {x1 : Int} {b0 : Nat} {s1 : Int} {b2 : Nat}  (w0 : pe_in s1 := by unfold pe_in; omega) (h0 : 12 ≤ pe_K σ b0 ∧ pe_K σ b0 < 19 := by first | assumption | omega) (h1 : b2 = 0 ∨ pe_K σ b0 = pe_ak (pe_K σ b2) := by first | assumption | omega) (h2 : 0 ≤ s1 := by first | assumption | omega) (h3 : s1 < pe_L σ b0 := by first | assumption | omega) (h4 : 2 ≤ b0 := by first | assumption | omega) (k : pe_X d 0 (15, [some (.inr (.inr a0)), some (.inl (x1 + 1))], [], pe_wR σ b0 s1 b2) Φ) : pe_X d 0 (33, [some (.inr (.inr a0)), some (.inl x1)], [.inr (.inr b2), .inl s1, .inr (.inr b0)], σ) Φ := by
  refine pe_blk 17 3 ck0 [12 ≤ pe_K σ b0 ∧ pe_K σ b0 < 19, b2 = 0 ∨ pe_K σ b0 = pe_ak (pe_K σ b2), 0 ≤ (pe_w s1), (pe_w s1) < pe_L σ b0, 2 ≤ b0] (15, [some (.inr (.inr a0)), some (.inl (x1 + 1))], [], pe_wR σ b0 (pe_w s1) b2) rfl ?_ ?_
  · first
    | (simp (disch := omega) only [pe_all, pe_wi w0, pe_K_wI, pe_K_wR, pe_L_wI, pe_L_wR]; done)
    | (simp (disch := omega) only [pe_all, pe_wi w0, pe_K_wI, pe_K_wR, pe_L_wI, pe_L_wR]; (repeat' apply And.intro) <;> first | assumption | omega | decide)
  · try simp (disch := omega) only [pe_wi w0, pe_K_wI, pe_K_wR, pe_L_wI, pe_L_wR]
    exact k
theorem rb0_40 {d : Nat} {Φ : Option pe_V → pe_H → Prop} {σ : pe_H} {o0 : Option pe_V} {o1 : Option pe_V}    (k : Φ none σ) : pe_X d 0 (40, [o0, o1], [], σ) Φ := by
  exact pe_fine 20 ck0 rfl rfl rfl trivial k
def T14 : List (Nat × Instr × Nat) := [(0, .aload_n 0, 1), (1, .invokespecial 3, 3), (4, .aload_n 0, 1), (5, .iconst 5, 1), (6, .anewarray 9, 3), (9, .putfield 11, 3), (12, .aload_n 0, 1), (13, .bipush 8, 2), (15, .anewarray 17, 3), (18, .putfield 19, 3), (21, .aload_n 0, 1), (22, .iconst 3, 1), (23, .anewarray 23, 3), (26, .putfield 25, 3), (29, .aload_n 0, 1), (30, .iconst 3, 1), (31, .anewarray 23, 3), (34, .putfield 29, 3), (37, .aload_n 0, 1), (38, .iconst 0, 1), (39, .putfield 32, 3), (42, .aload_n 0, 1), (43, .bipush 8, 2), (45, .putfield 36, 3), (48, .aload_n 0, 1), (49, .iconst 0, 1), (50, .putfield 39, 3), (53, .aload_n 0, 1), (54, .iconst 0, 1), (55, .putfield 42, 3), (58, .aload_n 0, 1), (59, .bipush 8, 2), (61, .newarray .int, 2), (63, .putfield 45, 3), (66, .aload_n 0, 1), (67, .bipush 8, 2), (69, .newarray .int, 2), (71, .putfield 49, 3), (74, .aload_n 0, 1), (75, .sipush 512, 3), (78, .newarray .int, 2), (80, .putfield 52, 3), (83, .aload_n 0, 1), (84, .sipush 512, 3), (87, .newarray .int, 2), (89, .putfield 55, 3), (92, .aload_n 0, 1), (93, .iconst 0, 1), (94, .putfield 58, 3), (97, .new 9, 3), (100, .dup, 1), (101, .iconst 0, 1), (102, .newarray .int, 2), (104, .iconst (-1), 1), (105, .invokespecial 61, 3), (108, .astore_n 1, 1), (109, .iconst 0, 1), (110, .istore_n 2, 1), (111, .iload_n 2, 1), (112, .iconst 5, 1), (113, .if_icmp .ge 16, 3), (116, .aload_n 0, 1), (117, .getfield 11, 3), (120, .iload_n 2, 1), (121, .aload_n 1, 1), (122, .aastore, 1), (123, .iinc 2 1, 3), (126, .goto (-15), 3), (129, .iconst 0, 1), (130, .istore_n 2, 1), (131, .iload_n 2, 1), (132, .bipush 8, 2), (134, .if_icmp .ge 22, 3), (137, .aload_n 0, 1), (138, .getfield 19, 3), (141, .iload_n 2, 1), (142, .new 17, 3), (145, .dup, 1), (146, .invokespecial 64, 3), (149, .aastore, 1), (150, .iinc 2 1, 3), (153, .goto (-22), 3), (156, .iconst 0, 1), (157, .istore_n 2, 1), (158, .iload_n 2, 1), (159, .iconst 3, 1), (160, .if_icmp .ge 35, 3), (163, .aload_n 0, 1), (164, .getfield 25, 3), (167, .iload_n 2, 1), (168, .new 23, 3), (171, .dup, 1), (172, .invokespecial 65, 3), (175, .aastore, 1), (176, .aload_n 0, 1), (177, .getfield 29, 3), (180, .iload_n 2, 1), (181, .new 23, 3), (184, .dup, 1), (185, .invokespecial 65, 3), (188, .aastore, 1), (189, .iinc 2 1, 3), (192, .goto (-34), 3), (195, .return_, 1)]
theorem ck14 : pe_ctx 14 2 true none 3 T14 := ⟨rfl, rfl, rfl, rfl, by decide +kernel, by decide, by decide⟩
theorem rb14_0 {d : Nat} {Φ : Option pe_V → pe_H → Prop} {σ : pe_H} {a0 : Nat} {o1 : Option pe_V} {o2 : Option pe_V}   (h0 : ¬ a0 = 0 := by first | assumption | omega) (k : pe_X d 14 (4, [some (.inr (.inr a0)), o1, o2], [], σ) Φ) : pe_X d 14 (0, [some (.inr (.inr a0)), o1, o2], [], σ) Φ := by
  refine pe_blk 0 2 ck14 [¬ a0 = 0] (4, [some (.inr (.inr a0)), o1, o2], [], σ) rfl ?_ ?_
  · first
    | (simp (disch := omega) only [pe_all, ]; done)
    | (simp (disch := omega) only [pe_all, ]; (repeat' apply And.intro) <;> first | assumption | omega | decide)
  · exact k
theorem rb14_4 {d : Nat} {Φ : Option pe_V → pe_H → Prop} {σ : pe_H} {a0 : Nat} {o1 : Option pe_V} {o2 : Option pe_V}   (h0 : pe_K (pe_new σ 16 5 ((5 : Int).toNat)) a0 = 2 := by first | assumption | omega) (k : pe_X d 14 (12, [some (.inr (.inr a0)), o1, o2], [], pe_wR (pe_new σ 16 5 ((5 : Int).toNat)) a0 0 (pe_n σ)) Φ) : pe_X d 14 (4, [some (.inr (.inr a0)), o1, o2], [], σ) Φ := by
  refine pe_blk 2 4 ck14 [0 ≤ (pe_w 5), (pe_w 5) ≤ 10000, pe_K (pe_new σ 16 (pe_w 5) ((pe_w 5).toNat)) a0 = 2] (12, [some (.inr (.inr a0)), o1, o2], [], pe_wR (pe_new σ 16 (pe_w 5) ((pe_w 5).toNat)) a0 0 (pe_n σ)) rfl ?_ ?_
  · first
    | (simp (disch := omega) only [pe_all, pe_wi (x := 5) ⟨by decide, by decide⟩, pe_K_wI, pe_K_wR]; done)
    | (simp (disch := omega) only [pe_all, pe_wi (x := 5) ⟨by decide, by decide⟩, pe_K_wI, pe_K_wR]; (repeat' apply And.intro) <;> first | assumption | omega | decide)
  · try simp (disch := omega) only [pe_wi (x := 5) ⟨by decide, by decide⟩, pe_K_wI, pe_K_wR]
    exact k
theorem rb14_12 {d : Nat} {Φ : Option pe_V → pe_H → Prop} {σ : pe_H} {a0 : Nat} {o1 : Option pe_V} {o2 : Option pe_V}   (h0 : pe_K (pe_new σ 12 8 ((8 : Int).toNat)) a0 = 2 := by first | assumption | omega) (k : pe_X d 14 (21, [some (.inr (.inr a0)), o1, o2], [], pe_wR (pe_new σ 12 8 ((8 : Int).toNat)) a0 1 (pe_n σ)) Φ) : pe_X d 14 (12, [some (.inr (.inr a0)), o1, o2], [], σ) Φ := by
  refine pe_blk 6 4 ck14 [0 ≤ (pe_w 8), (pe_w 8) ≤ 10000, pe_K (pe_new σ 12 (pe_w 8) ((pe_w 8).toNat)) a0 = 2] (21, [some (.inr (.inr a0)), o1, o2], [], pe_wR (pe_new σ 12 (pe_w 8) ((pe_w 8).toNat)) a0 1 (pe_n σ)) rfl ?_ ?_
  · first
    | (simp (disch := omega) only [pe_all, pe_wi (x := 8) ⟨by decide, by decide⟩, pe_K_wI, pe_K_wR]; done)
    | (simp (disch := omega) only [pe_all, pe_wi (x := 8) ⟨by decide, by decide⟩, pe_K_wI, pe_K_wR]; (repeat' apply And.intro) <;> first | assumption | omega | decide)
  · try simp (disch := omega) only [pe_wi (x := 8) ⟨by decide, by decide⟩, pe_K_wI, pe_K_wR]
    exact k
theorem rb14_21 {d : Nat} {Φ : Option pe_V → pe_H → Prop} {σ : pe_H} {a0 : Nat} {o1 : Option pe_V} {o2 : Option pe_V}   (h0 : pe_K (pe_new σ 17 3 ((3 : Int).toNat)) a0 = 2 := by first | assumption | omega) (k : pe_X d 14 (29, [some (.inr (.inr a0)), o1, o2], [], pe_wR (pe_new σ 17 3 ((3 : Int).toNat)) a0 2 (pe_n σ)) Φ) : pe_X d 14 (21, [some (.inr (.inr a0)), o1, o2], [], σ) Φ := by
  refine pe_blk 10 4 ck14 [0 ≤ (pe_w 3), (pe_w 3) ≤ 10000, pe_K (pe_new σ 17 (pe_w 3) ((pe_w 3).toNat)) a0 = 2] (29, [some (.inr (.inr a0)), o1, o2], [], pe_wR (pe_new σ 17 (pe_w 3) ((pe_w 3).toNat)) a0 2 (pe_n σ)) rfl ?_ ?_
  · first
    | (simp (disch := omega) only [pe_all, pe_wi (x := 3) ⟨by decide, by decide⟩, pe_K_wI, pe_K_wR]; done)
    | (simp (disch := omega) only [pe_all, pe_wi (x := 3) ⟨by decide, by decide⟩, pe_K_wI, pe_K_wR]; (repeat' apply And.intro) <;> first | assumption | omega | decide)
  · try simp (disch := omega) only [pe_wi (x := 3) ⟨by decide, by decide⟩, pe_K_wI, pe_K_wR]
    exact k
theorem rb14_29 {d : Nat} {Φ : Option pe_V → pe_H → Prop} {σ : pe_H} {a0 : Nat} {o1 : Option pe_V} {o2 : Option pe_V}   (h0 : pe_K (pe_new σ 17 3 ((3 : Int).toNat)) a0 = 2 := by first | assumption | omega) (k : pe_X d 14 (37, [some (.inr (.inr a0)), o1, o2], [], pe_wR (pe_new σ 17 3 ((3 : Int).toNat)) a0 3 (pe_n σ)) Φ) : pe_X d 14 (29, [some (.inr (.inr a0)), o1, o2], [], σ) Φ := by
  refine pe_blk 14 4 ck14 [0 ≤ (pe_w 3), (pe_w 3) ≤ 10000, pe_K (pe_new σ 17 (pe_w 3) ((pe_w 3).toNat)) a0 = 2] (37, [some (.inr (.inr a0)), o1, o2], [], pe_wR (pe_new σ 17 (pe_w 3) ((pe_w 3).toNat)) a0 3 (pe_n σ)) rfl ?_ ?_
  · first
    | (simp (disch := omega) only [pe_all, pe_wi (x := 3) ⟨by decide, by decide⟩, pe_K_wI, pe_K_wR]; done)
    | (simp (disch := omega) only [pe_all, pe_wi (x := 3) ⟨by decide, by decide⟩, pe_K_wI, pe_K_wR]; (repeat' apply And.intro) <;> first | assumption | omega | decide)
  · try simp (disch := omega) only [pe_wi (x := 3) ⟨by decide, by decide⟩, pe_K_wI, pe_K_wR]
    exact k
theorem rb14_37 {d : Nat} {Φ : Option pe_V → pe_H → Prop} {σ : pe_H} {a0 : Nat} {o1 : Option pe_V} {o2 : Option pe_V}   (h0 : pe_K σ a0 = 2 := by first | assumption | omega) (k : pe_X d 14 (42, [some (.inr (.inr a0)), o1, o2], [], pe_wI σ a0 4 0) Φ) : pe_X d 14 (37, [some (.inr (.inr a0)), o1, o2], [], σ) Φ := by
  refine pe_blk 18 3 ck14 [pe_K σ a0 = 2] (42, [some (.inr (.inr a0)), o1, o2], [], pe_wI σ a0 4 0) rfl ?_ ?_
  · first
    | (simp (disch := omega) only [pe_all, pe_K_wI, pe_K_wR]; done)
    | (simp (disch := omega) only [pe_all, pe_K_wI, pe_K_wR]; (repeat' apply And.intro) <;> first | assumption | omega | decide)
  · try simp (disch := omega) only [pe_K_wI, pe_K_wR]
    exact k
theorem rb14_42 {d : Nat} {Φ : Option pe_V → pe_H → Prop} {σ : pe_H} {a0 : Nat} {o1 : Option pe_V} {o2 : Option pe_V}   (h0 : pe_K σ a0 = 2 := by first | assumption | omega) (k : pe_X d 14 (48, [some (.inr (.inr a0)), o1, o2], [], pe_wI σ a0 5 8) Φ) : pe_X d 14 (42, [some (.inr (.inr a0)), o1, o2], [], σ) Φ := by
  refine pe_blk 21 3 ck14 [pe_K σ a0 = 2] (48, [some (.inr (.inr a0)), o1, o2], [], pe_wI σ a0 5 8) rfl ?_ ?_
  · first
    | (simp (disch := omega) only [pe_all, pe_K_wI, pe_K_wR]; done)
    | (simp (disch := omega) only [pe_all, pe_K_wI, pe_K_wR]; (repeat' apply And.intro) <;> first | assumption | omega | decide)
  · try simp (disch := omega) only [pe_K_wI, pe_K_wR]
    exact k
theorem rb14_48 {d : Nat} {Φ : Option pe_V → pe_H → Prop} {σ : pe_H} {a0 : Nat} {o1 : Option pe_V} {o2 : Option pe_V}   (h0 : pe_K σ a0 = 2 := by first | assumption | omega) (k : pe_X d 14 (53, [some (.inr (.inr a0)), o1, o2], [], pe_wI σ a0 6 0) Φ) : pe_X d 14 (48, [some (.inr (.inr a0)), o1, o2], [], σ) Φ := by
  refine pe_blk 24 3 ck14 [pe_K σ a0 = 2] (53, [some (.inr (.inr a0)), o1, o2], [], pe_wI σ a0 6 0) rfl ?_ ?_
  · first
    | (simp (disch := omega) only [pe_all, pe_K_wI, pe_K_wR]; done)
    | (simp (disch := omega) only [pe_all, pe_K_wI, pe_K_wR]; (repeat' apply And.intro) <;> first | assumption | omega | decide)
  · try simp (disch := omega) only [pe_K_wI, pe_K_wR]
    exact k
theorem rb14_53 {d : Nat} {Φ : Option pe_V → pe_H → Prop} {σ : pe_H} {a0 : Nat} {o1 : Option pe_V} {o2 : Option pe_V}   (h0 : pe_K σ a0 = 2 := by first | assumption | omega) (k : pe_X d 14 (58, [some (.inr (.inr a0)), o1, o2], [], pe_wI σ a0 7 0) Φ) : pe_X d 14 (53, [some (.inr (.inr a0)), o1, o2], [], σ) Φ := by
  refine pe_blk 27 3 ck14 [pe_K σ a0 = 2] (58, [some (.inr (.inr a0)), o1, o2], [], pe_wI σ a0 7 0) rfl ?_ ?_
  · first
    | (simp (disch := omega) only [pe_all, pe_K_wI, pe_K_wR]; done)
    | (simp (disch := omega) only [pe_all, pe_K_wI, pe_K_wR]; (repeat' apply And.intro) <;> first | assumption | omega | decide)
  · try simp (disch := omega) only [pe_K_wI, pe_K_wR]
    exact k
theorem rb14_58 {d : Nat} {Φ : Option pe_V → pe_H → Prop} {σ : pe_H} {a0 : Nat} {o1 : Option pe_V} {o2 : Option pe_V}   (h0 : pe_K (pe_new σ 10 8 ((8 : Int).toNat)) a0 = 2 := by first | assumption | omega) (k : pe_X d 14 (66, [some (.inr (.inr a0)), o1, o2], [], pe_wR (pe_new σ 10 8 ((8 : Int).toNat)) a0 8 (pe_n σ)) Φ) : pe_X d 14 (58, [some (.inr (.inr a0)), o1, o2], [], σ) Φ := by
  refine pe_blk 30 4 ck14 [0 ≤ (pe_w 8), (pe_w 8) ≤ 10000, pe_K (pe_new σ 10 (pe_w 8) ((pe_w 8).toNat)) a0 = 2] (66, [some (.inr (.inr a0)), o1, o2], [], pe_wR (pe_new σ 10 (pe_w 8) ((pe_w 8).toNat)) a0 8 (pe_n σ)) rfl ?_ ?_
  · first
    | (simp (disch := omega) only [pe_all, pe_wi (x := 8) ⟨by decide, by decide⟩, pe_K_wI, pe_K_wR]; done)
    | (simp (disch := omega) only [pe_all, pe_wi (x := 8) ⟨by decide, by decide⟩, pe_K_wI, pe_K_wR]; (repeat' apply And.intro) <;> first | assumption | omega | decide)
  · try simp (disch := omega) only [pe_wi (x := 8) ⟨by decide, by decide⟩, pe_K_wI, pe_K_wR]
    exact k
theorem rb14_66 {d : Nat} {Φ : Option pe_V → pe_H → Prop} {σ : pe_H} {a0 : Nat} {o1 : Option pe_V} {o2 : Option pe_V}   (h0 : pe_K (pe_new σ 10 8 ((8 : Int).toNat)) a0 = 2 := by first | assumption | omega) (k : pe_X d 14 (74, [some (.inr (.inr a0)), o1, o2], [], pe_wR (pe_new σ 10 8 ((8 : Int).toNat)) a0 9 (pe_n σ)) Φ) : pe_X d 14 (66, [some (.inr (.inr a0)), o1, o2], [], σ) Φ := by
  refine pe_blk 34 4 ck14 [0 ≤ (pe_w 8), (pe_w 8) ≤ 10000, pe_K (pe_new σ 10 (pe_w 8) ((pe_w 8).toNat)) a0 = 2] (74, [some (.inr (.inr a0)), o1, o2], [], pe_wR (pe_new σ 10 (pe_w 8) ((pe_w 8).toNat)) a0 9 (pe_n σ)) rfl ?_ ?_
  · first
    | (simp (disch := omega) only [pe_all, pe_wi (x := 8) ⟨by decide, by decide⟩, pe_K_wI, pe_K_wR]; done)
    | (simp (disch := omega) only [pe_all, pe_wi (x := 8) ⟨by decide, by decide⟩, pe_K_wI, pe_K_wR]; (repeat' apply And.intro) <;> first | assumption | omega | decide)
  · try simp (disch := omega) only [pe_wi (x := 8) ⟨by decide, by decide⟩, pe_K_wI, pe_K_wR]
    exact k
theorem rb14_74 {d : Nat} {Φ : Option pe_V → pe_H → Prop} {σ : pe_H} {a0 : Nat} {o1 : Option pe_V} {o2 : Option pe_V}   (h0 : pe_K (pe_new σ 10 512 ((512 : Int).toNat)) a0 = 2 := by first | assumption | omega) (k : pe_X d 14 (83, [some (.inr (.inr a0)), o1, o2], [], pe_wR (pe_new σ 10 512 ((512 : Int).toNat)) a0 10 (pe_n σ)) Φ) : pe_X d 14 (74, [some (.inr (.inr a0)), o1, o2], [], σ) Φ := by
  refine pe_blk 38 4 ck14 [0 ≤ (pe_w 512), (pe_w 512) ≤ 10000, pe_K (pe_new σ 10 (pe_w 512) ((pe_w 512).toNat)) a0 = 2] (83, [some (.inr (.inr a0)), o1, o2], [], pe_wR (pe_new σ 10 (pe_w 512) ((pe_w 512).toNat)) a0 10 (pe_n σ)) rfl ?_ ?_
  · first
    | (simp (disch := omega) only [pe_all, pe_wi (x := 512) ⟨by decide, by decide⟩, pe_K_wI, pe_K_wR]; done)
    | (simp (disch := omega) only [pe_all, pe_wi (x := 512) ⟨by decide, by decide⟩, pe_K_wI, pe_K_wR]; (repeat' apply And.intro) <;> first | assumption | omega | decide)
  · try simp (disch := omega) only [pe_wi (x := 512) ⟨by decide, by decide⟩, pe_K_wI, pe_K_wR]
    exact k
theorem rb14_83 {d : Nat} {Φ : Option pe_V → pe_H → Prop} {σ : pe_H} {a0 : Nat} {o1 : Option pe_V} {o2 : Option pe_V}   (h0 : pe_K (pe_new σ 10 512 ((512 : Int).toNat)) a0 = 2 := by first | assumption | omega) (k : pe_X d 14 (92, [some (.inr (.inr a0)), o1, o2], [], pe_wR (pe_new σ 10 512 ((512 : Int).toNat)) a0 11 (pe_n σ)) Φ) : pe_X d 14 (83, [some (.inr (.inr a0)), o1, o2], [], σ) Φ := by
  refine pe_blk 42 4 ck14 [0 ≤ (pe_w 512), (pe_w 512) ≤ 10000, pe_K (pe_new σ 10 (pe_w 512) ((pe_w 512).toNat)) a0 = 2] (92, [some (.inr (.inr a0)), o1, o2], [], pe_wR (pe_new σ 10 (pe_w 512) ((pe_w 512).toNat)) a0 11 (pe_n σ)) rfl ?_ ?_
  · first
    | (simp (disch := omega) only [pe_all, pe_wi (x := 512) ⟨by decide, by decide⟩, pe_K_wI, pe_K_wR]; done)
    | (simp (disch := omega) only [pe_all, pe_wi (x := 512) ⟨by decide, by decide⟩, pe_K_wI, pe_K_wR]; (repeat' apply And.intro) <;> first | assumption | omega | decide)
  · try simp (disch := omega) only [pe_wi (x := 512) ⟨by decide, by decide⟩, pe_K_wI, pe_K_wR]
    exact k
theorem rb14_92 {d : Nat} {Φ : Option pe_V → pe_H → Prop} {σ : pe_H} {a0 : Nat} {o1 : Option pe_V} {o2 : Option pe_V}   (h0 : pe_K σ a0 = 2 := by first | assumption | omega) (k : pe_X d 14 (97, [some (.inr (.inr a0)), o1, o2], [], pe_wI σ a0 12 0) Φ) : pe_X d 14 (92, [some (.inr (.inr a0)), o1, o2], [], σ) Φ := by
  refine pe_blk 46 3 ck14 [pe_K σ a0 = 2] (97, [some (.inr (.inr a0)), o1, o2], [], pe_wI σ a0 12 0) rfl ?_ ?_
  · first
    | (simp (disch := omega) only [pe_all, pe_K_wI, pe_K_wR]; done)
    | (simp (disch := omega) only [pe_all, pe_K_wI, pe_K_wR]; (repeat' apply And.intro) <;> first | assumption | omega | decide)
  · try simp (disch := omega) only [pe_K_wI, pe_K_wR]
    exact k
set_option maxRecDepth 8000 in
theorem rb14_97 {d : Nat} {Φ : Option pe_V → pe_H → Prop} {σ : pe_H} {a0 : Nat} {o1 : Option pe_V} {o2 : Option pe_V}   (h0 : ¬ (pe_n σ) = 0 := by first | assumption | omega) (k : pe_M d 48 [.inr (.inr (pe_n σ)), .inr (.inr (pe_n (pe_new σ 4 0 2))), .inl (-1)] (pe_new (pe_new σ 4 0 2) 10 0 ((0 : Int).toNat)) (fun r σ' => pe_X d 14 (108, [some (.inr (.inr a0)), o1, o2], r.toList ++ [.inr (.inr (pe_n σ))], σ') Φ)) : pe_X d 14 (97, [some (.inr (.inr a0)), o1, o2], [], σ) Φ := by
  refine pe_blk 49 5 ck14 [0 ≤ (pe_w 0), (pe_w 0) ≤ 10000] (105, [some (.inr (.inr a0)), o1, o2], [.inl (-1), .inr (.inr (pe_n (pe_new σ 4 0 2))), .inr (.inr (pe_n σ)), .inr (.inr (pe_n σ))], pe_new (pe_new σ 4 0 2) 10 (pe_w 0) ((pe_w 0).toNat)) rfl ?_ ?_
  · first
    | (simp (disch := omega) only [pe_all, pe_wi (x := 0) ⟨by decide, by decide⟩]; done)
    | (simp (disch := omega) only [pe_all, pe_wi (x := 0) ⟨by decide, by decide⟩]; (repeat' apply And.intro) <;> first | assumption | omega | decide)
  · try simp (disch := omega) only [pe_wi (x := 0) ⟨by decide, by decide⟩]
    exact pe_cal 54 ck14 rfl rfl rfl (show ¬ _ = 0 by assumption) k
set_option maxRecDepth 8000 in
theorem rb14_108 {d : Nat} {Φ : Option pe_V → pe_H → Prop} {σ : pe_H} {a0 : Nat} {o1 : Option pe_V} {o2 : Option pe_V} {b0 : Nat}    (k : pe_X d 14 (111, [some (.inr (.inr a0)), some (.inr (.inr b0)), some (.inl 0)], [], σ) Φ) : pe_X d 14 (108, [some (.inr (.inr a0)), o1, o2], [.inr (.inr b0)], σ) Φ := by
  refine pe_blk 55 3 ck14 [] (111, [some (.inr (.inr a0)), some (.inr (.inr b0)), some (.inl 0)], [], σ) rfl ?_ ?_
  · exact trivial
  · exact k
set_option maxRecDepth 8000 in
theorem rb14_111 {d : Nat} {Φ : Option pe_V → pe_H → Prop} {σ : pe_H} {a0 : Nat} {a1 : Nat} {x2 : Int}  (w0 : pe_in x2 := by unfold pe_in; omega)  (k1 : 5 ≤ x2 → pe_X d 14 (129, [some (.inr (.inr a0)), some (.inr (.inr a1)), some (.inl x2)], [], σ) Φ) (k2 : ¬ (5 ≤ x2) → pe_X d 14 (116, [some (.inr (.inr a0)), some (.inr (.inr a1)), some (.inl x2)], [], σ) Φ) : pe_X d 14 (111, [some (.inr (.inr a0)), some (.inr (.inr a1)), some (.inl x2)], [], σ) Φ := by
  refine pe_blk 58 3 ck14 [] (cond (decide ((pe_w 5) ≤ (pe_w x2))) 129 116, [some (.inr (.inr a0)), some (.inr (.inr a1)), some (.inl x2)], [], σ) rfl ?_ ?_
  · exact trivial
  · try simp (disch := omega) only [pe_wi w0, pe_wi (x := 5) ⟨by decide, by decide⟩]
    exact pe_two k1 k2
set_option maxRecDepth 8000 in
theorem rb14_116 {d : Nat} {Φ : Option pe_V → pe_H → Prop} {σ : pe_H} {a0 : Nat} {a1 : Nat} {x2 : Int}  (w0 : pe_in x2 := by unfold pe_in; omega) (h0 : pe_K σ a0 = 2 := by first | assumption | omega) (h1 : 12 ≤ pe_K σ (pe_R σ a0 0) ∧ pe_K σ (pe_R σ a0 0) < 19 := by first | assumption | omega) (h2 : a1 = 0 ∨ pe_K σ (pe_R σ a0 0) = pe_ak (pe_K σ a1) := by first | assumption | omega) (h3 : 0 ≤ x2 := by first | assumption | omega) (h4 : x2 < pe_L σ (pe_R σ a0 0) := by first | assumption | omega) (h5 : 2 ≤ (pe_R σ a0 0) := by first | assumption | omega) (k : pe_X d 14 (111, [some (.inr (.inr a0)), some (.inr (.inr a1)), some (.inl (x2 + 1))], [], pe_wR σ (pe_R σ a0 0) x2 a1) Φ) : pe_X d 14 (116, [some (.inr (.inr a0)), some (.inr (.inr a1)), some (.inl x2)], [], σ) Φ := by
  refine pe_blk 61 7 ck14 [pe_K σ a0 = 2, 12 ≤ pe_K σ (pe_R σ a0 0) ∧ pe_K σ (pe_R σ a0 0) < 19, a1 = 0 ∨ pe_K σ (pe_R σ a0 0) = pe_ak (pe_K σ a1), 0 ≤ (pe_w x2), (pe_w x2) < pe_L σ (pe_R σ a0 0), 2 ≤ (pe_R σ a0 0)] (111, [some (.inr (.inr a0)), some (.inr (.inr a1)), some (.inl (x2 + 1))], [], pe_wR σ (pe_R σ a0 0) (pe_w x2) a1) rfl ?_ ?_
  · first
    | (simp (disch := omega) only [pe_all, pe_wi w0, pe_K_wI, pe_K_wR, pe_L_wI, pe_L_wR]; done)
    | (simp (disch := omega) only [pe_all, pe_wi w0, pe_K_wI, pe_K_wR, pe_L_wI, pe_L_wR]; (repeat' apply And.intro) <;> first | assumption | omega | decide)
  · try simp (disch := omega) only [pe_wi w0, pe_K_wI, pe_K_wR, pe_L_wI, pe_L_wR]
    exact k
set_option maxRecDepth 8000 in
theorem rb14_129 {d : Nat} {Φ : Option pe_V → pe_H → Prop} {σ : pe_H} {a0 : Nat} {o1 : Option pe_V} {o2 : Option pe_V}    (k : pe_X d 14 (131, [some (.inr (.inr a0)), pe_nl o1, some (.inl 0)], [], σ) Φ) : pe_X d 14 (129, [some (.inr (.inr a0)), o1, o2], [], σ) Φ := by
  refine pe_blk 68 2 ck14 [] (131, [some (.inr (.inr a0)), pe_nl o1, some (.inl 0)], [], σ) rfl ?_ ?_
  · exact trivial
  · exact k
set_option maxRecDepth 8000 in
theorem rb14_131 {d : Nat} {Φ : Option pe_V → pe_H → Prop} {σ : pe_H} {a0 : Nat} {o1 : Option pe_V} {x2 : Int}  (w0 : pe_in x2 := by unfold pe_in; omega)  (k1 : 8 ≤ x2 → pe_X d 14 (156, [some (.inr (.inr a0)), o1, some (.inl x2)], [], σ) Φ) (k2 : ¬ (8 ≤ x2) → pe_X d 14 (137, [some (.inr (.inr a0)), o1, some (.inl x2)], [], σ) Φ) : pe_X d 14 (131, [some (.inr (.inr a0)), o1, some (.inl x2)], [], σ) Φ := by
  refine pe_blk 70 3 ck14 [] (cond (decide ((pe_w 8) ≤ (pe_w x2))) 156 137, [some (.inr (.inr a0)), o1, some (.inl x2)], [], σ) rfl ?_ ?_
  · exact trivial
  · try simp (disch := omega) only [pe_wi w0, pe_wi (x := 8) ⟨by decide, by decide⟩]
    exact pe_two k1 k2
set_option maxRecDepth 8000 in
theorem rb14_137 {d : Nat} {Φ : Option pe_V → pe_H → Prop} {σ : pe_H} {a0 : Nat} {o1 : Option pe_V} {x2 : Int}   (h0 : pe_K σ a0 = 2 := by first | assumption | omega) (h1 : ¬ (pe_n σ) = 0 := by first | assumption | omega) (k : pe_M d 0 [.inr (.inr (pe_n σ))] (pe_new σ 0 0 11) (fun r σ' => pe_X d 14 (149, [some (.inr (.inr a0)), o1, some (.inl x2)], r.toList ++ [.inr (.inr (pe_n σ)), .inl x2, .inr (.inr (pe_R σ a0 1))], σ') Φ)) : pe_X d 14 (137, [some (.inr (.inr a0)), o1, some (.inl x2)], [], σ) Φ := by
  refine pe_blk 73 5 ck14 [pe_K σ a0 = 2] (146, [some (.inr (.inr a0)), o1, some (.inl x2)], [.inr (.inr (pe_n σ)), .inr (.inr (pe_n σ)), .inl x2, .inr (.inr (pe_R σ a0 1))], pe_new σ 0 0 11) rfl ?_ ?_
  · first
    | (simp (disch := omega) only [pe_all, pe_K_wI, pe_K_wR]; done)
    | (simp (disch := omega) only [pe_all, pe_K_wI, pe_K_wR]; (repeat' apply And.intro) <;> first | assumption | omega | decide)
  · try simp (disch := omega) only [pe_K_wI, pe_K_wR]
    exact pe_cal 78 ck14 rfl rfl rfl (show ¬ _ = 0 by assumption) k
set_option maxRecDepth 8000 in
theorem rb14_149 {d : Nat} {Φ : Option pe_V → pe_H → Prop} {σ : pe_H} {a0 : Nat} {o1 : Option pe_V} {x2 : Int} {b0 : Nat} {s1 : Int} {b2 : Nat}  (w0 : pe_in s1 := by unfold pe_in; omega) (h0 : 12 ≤ pe_K σ b0 ∧ pe_K σ b0 < 19 := by first | assumption | omega) (h1 : b2 = 0 ∨ pe_K σ b0 = pe_ak (pe_K σ b2) := by first | assumption | omega) (h2 : 0 ≤ s1 := by first | assumption | omega) (h3 : s1 < pe_L σ b0 := by first | assumption | omega) (h4 : 2 ≤ b0 := by first | assumption | omega) (k : pe_X d 14 (131, [some (.inr (.inr a0)), pe_nl o1, some (.inl (x2 + 1))], [], pe_wR σ b0 s1 b2) Φ) : pe_X d 14 (149, [some (.inr (.inr a0)), o1, some (.inl x2)], [.inr (.inr b2), .inl s1, .inr (.inr b0)], σ) Φ := by
  refine pe_blk 79 3 ck14 [12 ≤ pe_K σ b0 ∧ pe_K σ b0 < 19, b2 = 0 ∨ pe_K σ b0 = pe_ak (pe_K σ b2), 0 ≤ (pe_w s1), (pe_w s1) < pe_L σ b0, 2 ≤ b0] (131, [some (.inr (.inr a0)), pe_nl o1, some (.inl (x2 + 1))], [], pe_wR σ b0 (pe_w s1) b2) rfl ?_ ?_
  · first
    | (simp (disch := omega) only [pe_all, pe_wi w0, pe_K_wI, pe_K_wR, pe_L_wI, pe_L_wR]; done)
    | (simp (disch := omega) only [pe_all, pe_wi w0, pe_K_wI, pe_K_wR, pe_L_wI, pe_L_wR]; (repeat' apply And.intro) <;> first | assumption | omega | decide)
  · try simp (disch := omega) only [pe_wi w0, pe_K_wI, pe_K_wR, pe_L_wI, pe_L_wR]
    exact k
set_option maxRecDepth 8000 in
theorem rb14_156 {d : Nat} {Φ : Option pe_V → pe_H → Prop} {σ : pe_H} {a0 : Nat} {o1 : Option pe_V} {o2 : Option pe_V}    (k : pe_X d 14 (158, [some (.inr (.inr a0)), pe_nl o1, some (.inl 0)], [], σ) Φ) : pe_X d 14 (156, [some (.inr (.inr a0)), o1, o2], [], σ) Φ := by
  refine pe_blk 82 2 ck14 [] (158, [some (.inr (.inr a0)), pe_nl o1, some (.inl 0)], [], σ) rfl ?_ ?_
  · exact trivial
  · exact k
set_option maxRecDepth 8000 in
theorem rb14_158 {d : Nat} {Φ : Option pe_V → pe_H → Prop} {σ : pe_H} {a0 : Nat} {o1 : Option pe_V} {x2 : Int}  (w0 : pe_in x2 := by unfold pe_in; omega)  (k1 : 3 ≤ x2 → pe_X d 14 (195, [some (.inr (.inr a0)), o1, some (.inl x2)], [], σ) Φ) (k2 : ¬ (3 ≤ x2) → pe_X d 14 (163, [some (.inr (.inr a0)), o1, some (.inl x2)], [], σ) Φ) : pe_X d 14 (158, [some (.inr (.inr a0)), o1, some (.inl x2)], [], σ) Φ := by
  refine pe_blk 84 3 ck14 [] (cond (decide ((pe_w 3) ≤ (pe_w x2))) 195 163, [some (.inr (.inr a0)), o1, some (.inl x2)], [], σ) rfl ?_ ?_
  · exact trivial
  · try simp (disch := omega) only [pe_wi w0, pe_wi (x := 3) ⟨by decide, by decide⟩]
    exact pe_two k1 k2
set_option maxRecDepth 8000 in
theorem rb14_163 {d : Nat} {Φ : Option pe_V → pe_H → Prop} {σ : pe_H} {a0 : Nat} {o1 : Option pe_V} {x2 : Int}   (h0 : pe_K σ a0 = 2 := by first | assumption | omega) (h1 : ¬ (pe_n σ) = 0 := by first | assumption | omega) (k : pe_M d 52 [.inr (.inr (pe_n σ))] (pe_new σ 5 0 2) (fun r σ' => pe_X d 14 (175, [some (.inr (.inr a0)), o1, some (.inl x2)], r.toList ++ [.inr (.inr (pe_n σ)), .inl x2, .inr (.inr (pe_R σ a0 2))], σ') Φ)) : pe_X d 14 (163, [some (.inr (.inr a0)), o1, some (.inl x2)], [], σ) Φ := by
  refine pe_blk 87 5 ck14 [pe_K σ a0 = 2] (172, [some (.inr (.inr a0)), o1, some (.inl x2)], [.inr (.inr (pe_n σ)), .inr (.inr (pe_n σ)), .inl x2, .inr (.inr (pe_R σ a0 2))], pe_new σ 5 0 2) rfl ?_ ?_
  · first
    | (simp (disch := omega) only [pe_all, pe_K_wI, pe_K_wR]; done)
    | (simp (disch := omega) only [pe_all, pe_K_wI, pe_K_wR]; (repeat' apply And.intro) <;> first | assumption | omega | decide)
  · try simp (disch := omega) only [pe_K_wI, pe_K_wR]
    exact pe_cal 92 ck14 rfl rfl rfl (show ¬ _ = 0 by assumption) k
set_option maxRecDepth 8000 in
theorem rb14_175 {d : Nat} {Φ : Option pe_V → pe_H → Prop} {σ : pe_H} {a0 : Nat} {o1 : Option pe_V} {x2 : Int} {b0 : Nat} {s1 : Int} {b2 : Nat}  (w0 : pe_in s1 := by unfold pe_in; omega) (h0 : 12 ≤ pe_K σ b0 ∧ pe_K σ b0 < 19 := by first | assumption | omega) (h1 : b2 = 0 ∨ pe_K σ b0 = pe_ak (pe_K σ b2) := by first | assumption | omega) (h2 : 0 ≤ s1 := by first | assumption | omega) (h3 : s1 < pe_L σ b0 := by first | assumption | omega) (h4 : 2 ≤ b0 := by first | assumption | omega) (h5 : pe_K σ a0 = 2 := by first | assumption | omega) (h6 : ¬ (pe_n (pe_wR σ b0 s1 b2)) = 0 := by first | assumption | omega) (k : pe_M d 52 [.inr (.inr (pe_n (pe_wR σ b0 s1 b2)))] (pe_new (pe_wR σ b0 s1 b2) 5 0 2) (fun r σ' => pe_X d 14 (188, [some (.inr (.inr a0)), o1, some (.inl x2)], r.toList ++ [.inr (.inr (pe_n (pe_wR σ b0 s1 b2))), .inl x2, .inr (.inr (pe_R (pe_wR σ b0 s1 b2) a0 3))], σ') Φ)) : pe_X d 14 (175, [some (.inr (.inr a0)), o1, some (.inl x2)], [.inr (.inr b2), .inl s1, .inr (.inr b0)], σ) Φ := by
  refine pe_blk 93 6 ck14 [12 ≤ pe_K σ b0 ∧ pe_K σ b0 < 19, b2 = 0 ∨ pe_K σ b0 = pe_ak (pe_K σ b2), 0 ≤ (pe_w s1), (pe_w s1) < pe_L σ b0, 2 ≤ b0, pe_K (pe_wR σ b0 (pe_w s1) b2) a0 = 2] (185, [some (.inr (.inr a0)), o1, some (.inl x2)], [.inr (.inr (pe_n (pe_wR σ b0 (pe_w s1) b2))), .inr (.inr (pe_n (pe_wR σ b0 (pe_w s1) b2))), .inl x2, .inr (.inr (pe_R (pe_wR σ b0 (pe_w s1) b2) a0 3))], pe_new (pe_wR σ b0 (pe_w s1) b2) 5 0 2) rfl ?_ ?_
  · first
    | (simp (disch := omega) only [pe_all, pe_wi w0, pe_K_wI, pe_K_wR, pe_L_wI, pe_L_wR]; done)
    | (simp (disch := omega) only [pe_all, pe_wi w0, pe_K_wI, pe_K_wR, pe_L_wI, pe_L_wR]; (repeat' apply And.intro) <;> first | assumption | omega | decide)
  · try simp (disch := omega) only [pe_wi w0, pe_K_wI, pe_K_wR, pe_L_wI, pe_L_wR]
    exact pe_cal 99 ck14 rfl rfl rfl (show ¬ _ = 0 by assumption) k
set_option maxRecDepth 8000 in
theorem rb14_188 {d : Nat} {Φ : Option pe_V → pe_H → Prop} {σ : pe_H} {a0 : Nat} {o1 : Option pe_V} {x2 : Int} {b0 : Nat} {s1 : Int} {b2 : Nat}  (w0 : pe_in s1 := by unfold pe_in; omega) (h0 : 12 ≤ pe_K σ b0 ∧ pe_K σ b0 < 19 := by first | assumption | omega) (h1 : b2 = 0 ∨ pe_K σ b0 = pe_ak (pe_K σ b2) := by first | assumption | omega) (h2 : 0 ≤ s1 := by first | assumption | omega) (h3 : s1 < pe_L σ b0 := by first | assumption | omega) (h4 : 2 ≤ b0 := by first | assumption | omega) (k : pe_X d 14 (158, [some (.inr (.inr a0)), pe_nl o1, some (.inl (x2 + 1))], [], pe_wR σ b0 s1 b2) Φ) : pe_X d 14 (188, [some (.inr (.inr a0)), o1, some (.inl x2)], [.inr (.inr b2), .inl s1, .inr (.inr b0)], σ) Φ := by
  refine pe_blk 100 3 ck14 [12 ≤ pe_K σ b0 ∧ pe_K σ b0 < 19, b2 = 0 ∨ pe_K σ b0 = pe_ak (pe_K σ b2), 0 ≤ (pe_w s1), (pe_w s1) < pe_L σ b0, 2 ≤ b0] (158, [some (.inr (.inr a0)), pe_nl o1, some (.inl (x2 + 1))], [], pe_wR σ b0 (pe_w s1) b2) rfl ?_ ?_
  · first
    | (simp (disch := omega) only [pe_all, pe_wi w0, pe_K_wI, pe_K_wR, pe_L_wI, pe_L_wR]; done)
    | (simp (disch := omega) only [pe_all, pe_wi w0, pe_K_wI, pe_K_wR, pe_L_wI, pe_L_wR]; (repeat' apply And.intro) <;> first | assumption | omega | decide)
  · try simp (disch := omega) only [pe_wi w0, pe_K_wI, pe_K_wR, pe_L_wI, pe_L_wR]
    exact k
set_option maxRecDepth 8000 in
theorem rb14_195 {d : Nat} {Φ : Option pe_V → pe_H → Prop} {σ : pe_H} {o0 : Option pe_V} {o1 : Option pe_V} {o2 : Option pe_V}    (k : Φ none σ) : pe_X d 14 (195, [o0, o1, o2], [], σ) Φ := by
  exact pe_fine 103 ck14 rfl rfl rfl trivial k
theorem rb52_0 {d : Nat} {Φ : Option pe_V → pe_H → Prop} {σ : pe_H} {a0 : Nat}   (h0 : ¬ a0 = 0 := by first | assumption | omega) (k : pe_X d 52 (4, [some (.inr (.inr a0))], [], σ) Φ) : pe_X d 52 (0, [some (.inr (.inr a0))], [], σ) Φ := by
  refine pe_blk 0 2 ck52 [¬ a0 = 0] (4, [some (.inr (.inr a0))], [], σ) rfl ?_ ?_
  · first
    | (simp (disch := omega) only [pe_all, ]; done)
    | (simp (disch := omega) only [pe_all, ]; (repeat' apply And.intro) <;> first | assumption | omega | decide)
  · exact k
theorem rb52_4 {d : Nat} {Φ : Option pe_V → pe_H → Prop} {σ : pe_H} {a0 : Nat}   (h0 : pe_K (pe_new σ 10 8 ((8 : Int).toNat)) a0 = 5 := by first | assumption | omega) (k : pe_X d 52 (12, [some (.inr (.inr a0))], [], pe_wR (pe_new σ 10 8 ((8 : Int).toNat)) a0 0 (pe_n σ)) Φ) : pe_X d 52 (4, [some (.inr (.inr a0))], [], σ) Φ := by
  refine pe_blk 2 4 ck52 [0 ≤ (pe_w 8), (pe_w 8) ≤ 10000, pe_K (pe_new σ 10 (pe_w 8) ((pe_w 8).toNat)) a0 = 5] (12, [some (.inr (.inr a0))], [], pe_wR (pe_new σ 10 (pe_w 8) ((pe_w 8).toNat)) a0 0 (pe_n σ)) rfl ?_ ?_
  · first
    | (simp (disch := omega) only [pe_all, pe_wi (x := 8) ⟨by decide, by decide⟩, pe_K_wI, pe_K_wR]; done)
    | (simp (disch := omega) only [pe_all, pe_wi (x := 8) ⟨by decide, by decide⟩, pe_K_wI, pe_K_wR]; (repeat' apply And.intro) <;> first | assumption | omega | decide)
  · try simp (disch := omega) only [pe_wi (x := 8) ⟨by decide, by decide⟩, pe_K_wI, pe_K_wR]
    exact k
theorem rb52_12 {d : Nat} {Φ : Option pe_V → pe_H → Prop} {σ : pe_H} {a0 : Nat}   (h0 : pe_K σ a0 = 5 := by first | assumption | omega) (k : pe_X d 52 (17, [some (.inr (.inr a0))], [], pe_wI σ a0 1 0) Φ) : pe_X d 52 (12, [some (.inr (.inr a0))], [], σ) Φ := by
  refine pe_blk 6 3 ck52 [pe_K σ a0 = 5] (17, [some (.inr (.inr a0))], [], pe_wI σ a0 1 0) rfl ?_ ?_
  · first
    | (simp (disch := omega) only [pe_all, pe_K_wI, pe_K_wR]; done)
    | (simp (disch := omega) only [pe_all, pe_K_wI, pe_K_wR]; (repeat' apply And.intro) <;> first | assumption | omega | decide)
  · try simp (disch := omega) only [pe_K_wI, pe_K_wR]
    exact k
theorem rb52_17 {d : Nat} {Φ : Option pe_V → pe_H → Prop} {σ : pe_H} {o0 : Option pe_V}    (k : Φ none σ) : pe_X d 52 (17, [o0], [], σ) Φ := by
  exact pe_fine 9 ck52 rfl rfl rfl trivial k
def T79 : List (Nat × Instr × Nat) := [(0, .aload_n 0, 1), (1, .invokespecial 1, 3), (4, .aload_n 0, 1), (5, .new 7, 3), (8, .dup, 1), (9, .invokespecial 9, 3), (12, .putfield 10, 3), (15, .aload_n 0, 1), (16, .new 7, 3), (19, .dup, 1), (20, .invokespecial 9, 3), (23, .putfield 16, 3), (26, .aload_n 0, 1), (27, .bipush 8, 2), (29, .anewarray 7, 3), (32, .putfield 19, 3), (35, .aload_n 0, 1), (36, .bipush 8, 2), (38, .anewarray 23, 3), (41, .putfield 25, 3), (44, .aload_n 0, 1), (45, .bipush 8, 2), (47, .anewarray 29, 3), (50, .putfield 31, 3), (53, .aload_n 0, 1), (54, .new 23, 3), (57, .dup, 1), (58, .iconst 0, 1), (59, .iconst 0, 1), (60, .invokespecial 35, 3), (63, .putfield 38, 3), (66, .aload_n 0, 1), (67, .iconst 0, 1), (68, .putfield 42, 3), (71, .aload_n 0, 1), (72, .iconst 0, 1), (73, .putfield 46, 3), (76, .iconst 0, 1), (77, .istore_n 1, 1), (78, .iload_n 1, 1), (79, .aload_n 0, 1), (80, .getfield 19, 3), (83, .arraylength, 1), (84, .if_icmp .ge 22, 3), (87, .aload_n 0, 1), (88, .getfield 19, 3), (91, .iload_n 1, 1), (92, .new 7, 3), (95, .dup, 1), (96, .invokespecial 9, 3), (99, .aastore, 1), (100, .iinc 1 1, 3), (103, .goto (-25), 3), (106, .return_, 1)]
theorem ck79 : pe_ctx 79 8 true none 2 T79 := ⟨rfl, rfl, rfl, rfl, by decide +kernel, by decide, by decide⟩
theorem rb79_0 {d : Nat} {Φ : Option pe_V → pe_H → Prop} {σ : pe_H} {a0 : Nat} {o1 : Option pe_V}   (h0 : ¬ a0 = 0 := by first | assumption | omega) (k : pe_X d 79 (4, [some (.inr (.inr a0)), o1], [], σ) Φ) : pe_X d 79 (0, [some (.inr (.inr a0)), o1], [], σ) Φ := by
  refine pe_blk 0 2 ck79 [¬ a0 = 0] (4, [some (.inr (.inr a0)), o1], [], σ) rfl ?_ ?_
  · first
    | (simp (disch := omega) only [pe_all, ]; done)
    | (simp (disch := omega) only [pe_all, ]; (repeat' apply And.intro) <;> first | assumption | omega | decide)
  · exact k
theorem rb79_4 {d : Nat} {Φ : Option pe_V → pe_H → Prop} {σ : pe_H} {a0 : Nat} {o1 : Option pe_V}   (h0 : ¬ (pe_n σ) = 0 := by first | assumption | omega) (k : pe_M d 14 [.inr (.inr (pe_n σ))] (pe_new σ 2 0 13) (fun r σ' => pe_X d 79 (12, [some (.inr (.inr a0)), o1], r.toList ++ [.inr (.inr (pe_n σ)), .inr (.inr a0)], σ') Φ)) : pe_X d 79 (4, [some (.inr (.inr a0)), o1], [], σ) Φ := by
  refine pe_blk 2 3 ck79 [] (9, [some (.inr (.inr a0)), o1], [.inr (.inr (pe_n σ)), .inr (.inr (pe_n σ)), .inr (.inr a0)], pe_new σ 2 0 13) rfl ?_ ?_
  · exact trivial
  · exact pe_cal 5 ck79 rfl rfl rfl (show ¬ _ = 0 by assumption) k
theorem rb79_12 {d : Nat} {Φ : Option pe_V → pe_H → Prop} {σ : pe_H} {a0 : Nat} {o1 : Option pe_V} {b0 : Nat} {b1 : Nat}   (h0 : pe_K σ b0 = 8 := by first | assumption | omega) (k : pe_X d 79 (15, [some (.inr (.inr a0)), o1], [], pe_wR σ b0 0 b1) Φ) : pe_X d 79 (12, [some (.inr (.inr a0)), o1], [.inr (.inr b1), .inr (.inr b0)], σ) Φ := by
  refine pe_blk 6 1 ck79 [pe_K σ b0 = 8] (15, [some (.inr (.inr a0)), o1], [], pe_wR σ b0 0 b1) rfl ?_ ?_
  · first
    | (simp (disch := omega) only [pe_all, pe_K_wI, pe_K_wR]; done)
    | (simp (disch := omega) only [pe_all, pe_K_wI, pe_K_wR]; (repeat' apply And.intro) <;> first | assumption | omega | decide)
  · try simp (disch := omega) only [pe_K_wI, pe_K_wR]
    exact k
theorem rb79_15 {d : Nat} {Φ : Option pe_V → pe_H → Prop} {σ : pe_H} {a0 : Nat} {o1 : Option pe_V}   (h0 : ¬ (pe_n σ) = 0 := by first | assumption | omega) (k : pe_M d 14 [.inr (.inr (pe_n σ))] (pe_new σ 2 0 13) (fun r σ' => pe_X d 79 (23, [some (.inr (.inr a0)), o1], r.toList ++ [.inr (.inr (pe_n σ)), .inr (.inr a0)], σ') Φ)) : pe_X d 79 (15, [some (.inr (.inr a0)), o1], [], σ) Φ := by
  refine pe_blk 7 3 ck79 [] (20, [some (.inr (.inr a0)), o1], [.inr (.inr (pe_n σ)), .inr (.inr (pe_n σ)), .inr (.inr a0)], pe_new σ 2 0 13) rfl ?_ ?_
  · exact trivial
  · exact pe_cal 10 ck79 rfl rfl rfl (show ¬ _ = 0 by assumption) k
theorem rb79_23 {d : Nat} {Φ : Option pe_V → pe_H → Prop} {σ : pe_H} {a0 : Nat} {o1 : Option pe_V} {b0 : Nat} {b1 : Nat}   (h0 : pe_K σ b0 = 8 := by first | assumption | omega) (k : pe_X d 79 (26, [some (.inr (.inr a0)), o1], [], pe_wR σ b0 1 b1) Φ) : pe_X d 79 (23, [some (.inr (.inr a0)), o1], [.inr (.inr b1), .inr (.inr b0)], σ) Φ := by
  refine pe_blk 11 1 ck79 [pe_K σ b0 = 8] (26, [some (.inr (.inr a0)), o1], [], pe_wR σ b0 1 b1) rfl ?_ ?_
  · first
    | (simp (disch := omega) only [pe_all, pe_K_wI, pe_K_wR]; done)
    | (simp (disch := omega) only [pe_all, pe_K_wI, pe_K_wR]; (repeat' apply And.intro) <;> first | assumption | omega | decide)
  · try simp (disch := omega) only [pe_K_wI, pe_K_wR]
    exact k
theorem rb79_26 {d : Nat} {Φ : Option pe_V → pe_H → Prop} {σ : pe_H} {a0 : Nat} {o1 : Option pe_V}   (h0 : pe_K (pe_new σ 14 8 ((8 : Int).toNat)) a0 = 8 := by first | assumption | omega) (k : pe_X d 79 (35, [some (.inr (.inr a0)), o1], [], pe_wR (pe_new σ 14 8 ((8 : Int).toNat)) a0 2 (pe_n σ)) Φ) : pe_X d 79 (26, [some (.inr (.inr a0)), o1], [], σ) Φ := by
  refine pe_blk 12 4 ck79 [0 ≤ (pe_w 8), (pe_w 8) ≤ 10000, pe_K (pe_new σ 14 (pe_w 8) ((pe_w 8).toNat)) a0 = 8] (35, [some (.inr (.inr a0)), o1], [], pe_wR (pe_new σ 14 (pe_w 8) ((pe_w 8).toNat)) a0 2 (pe_n σ)) rfl ?_ ?_
  · first
    | (simp (disch := omega) only [pe_all, pe_wi (x := 8) ⟨by decide, by decide⟩, pe_K_wI, pe_K_wR]; done)
    | (simp (disch := omega) only [pe_all, pe_wi (x := 8) ⟨by decide, by decide⟩, pe_K_wI, pe_K_wR]; (repeat' apply And.intro) <;> first | assumption | omega | decide)
  · try simp (disch := omega) only [pe_wi (x := 8) ⟨by decide, by decide⟩, pe_K_wI, pe_K_wR]
    exact k
theorem rb79_35 {d : Nat} {Φ : Option pe_V → pe_H → Prop} {σ : pe_H} {a0 : Nat} {o1 : Option pe_V}   (h0 : pe_K (pe_new σ 15 8 ((8 : Int).toNat)) a0 = 8 := by first | assumption | omega) (k : pe_X d 79 (44, [some (.inr (.inr a0)), o1], [], pe_wR (pe_new σ 15 8 ((8 : Int).toNat)) a0 3 (pe_n σ)) Φ) : pe_X d 79 (35, [some (.inr (.inr a0)), o1], [], σ) Φ := by
  refine pe_blk 16 4 ck79 [0 ≤ (pe_w 8), (pe_w 8) ≤ 10000, pe_K (pe_new σ 15 (pe_w 8) ((pe_w 8).toNat)) a0 = 8] (44, [some (.inr (.inr a0)), o1], [], pe_wR (pe_new σ 15 (pe_w 8) ((pe_w 8).toNat)) a0 3 (pe_n σ)) rfl ?_ ?_
  · first
    | (simp (disch := omega) only [pe_all, pe_wi (x := 8) ⟨by decide, by decide⟩, pe_K_wI, pe_K_wR]; done)
    | (simp (disch := omega) only [pe_all, pe_wi (x := 8) ⟨by decide, by decide⟩, pe_K_wI, pe_K_wR]; (repeat' apply And.intro) <;> first | assumption | omega | decide)
  · try simp (disch := omega) only [pe_wi (x := 8) ⟨by decide, by decide⟩, pe_K_wI, pe_K_wR]
    exact k
theorem rb79_44 {d : Nat} {Φ : Option pe_V → pe_H → Prop} {σ : pe_H} {a0 : Nat} {o1 : Option pe_V}   (h0 : pe_K (pe_new σ 18 8 ((8 : Int).toNat)) a0 = 8 := by first | assumption | omega) (k : pe_X d 79 (53, [some (.inr (.inr a0)), o1], [], pe_wR (pe_new σ 18 8 ((8 : Int).toNat)) a0 4 (pe_n σ)) Φ) : pe_X d 79 (44, [some (.inr (.inr a0)), o1], [], σ) Φ := by
  refine pe_blk 20 4 ck79 [0 ≤ (pe_w 8), (pe_w 8) ≤ 10000, pe_K (pe_new σ 18 (pe_w 8) ((pe_w 8).toNat)) a0 = 8] (53, [some (.inr (.inr a0)), o1], [], pe_wR (pe_new σ 18 (pe_w 8) ((pe_w 8).toNat)) a0 4 (pe_n σ)) rfl ?_ ?_
  · first
    | (simp (disch := omega) only [pe_all, pe_wi (x := 8) ⟨by decide, by decide⟩, pe_K_wI, pe_K_wR]; done)
    | (simp (disch := omega) only [pe_all, pe_wi (x := 8) ⟨by decide, by decide⟩, pe_K_wI, pe_K_wR]; (repeat' apply And.intro) <;> first | assumption | omega | decide)
  · try simp (disch := omega) only [pe_wi (x := 8) ⟨by decide, by decide⟩, pe_K_wI, pe_K_wR]
    exact k
theorem rb79_53 {d : Nat} {Φ : Option pe_V → pe_H → Prop} {σ : pe_H} {a0 : Nat} {o1 : Option pe_V}   (h0 : ¬ (pe_n σ) = 0 := by first | assumption | omega) (k : pe_M d 41 [.inr (.inr (pe_n σ)), .inl 0, .inl 0] (pe_new σ 3 0 2) (fun r σ' => pe_X d 79 (63, [some (.inr (.inr a0)), o1], r.toList ++ [.inr (.inr (pe_n σ)), .inr (.inr a0)], σ') Φ)) : pe_X d 79 (53, [some (.inr (.inr a0)), o1], [], σ) Φ := by
  refine pe_blk 24 5 ck79 [] (60, [some (.inr (.inr a0)), o1], [.inl 0, .inl 0, .inr (.inr (pe_n σ)), .inr (.inr (pe_n σ)), .inr (.inr a0)], pe_new σ 3 0 2) rfl ?_ ?_
  · exact trivial
  · exact pe_cal 29 ck79 rfl rfl rfl (show ¬ _ = 0 by assumption) k
theorem rb79_63 {d : Nat} {Φ : Option pe_V → pe_H → Prop} {σ : pe_H} {a0 : Nat} {o1 : Option pe_V} {b0 : Nat} {b1 : Nat}   (h0 : pe_K σ b0 = 8 := by first | assumption | omega) (k : pe_X d 79 (66, [some (.inr (.inr a0)), o1], [], pe_wR σ b0 5 b1) Φ) : pe_X d 79 (63, [some (.inr (.inr a0)), o1], [.inr (.inr b1), .inr (.inr b0)], σ) Φ := by
  refine pe_blk 30 1 ck79 [pe_K σ b0 = 8] (66, [some (.inr (.inr a0)), o1], [], pe_wR σ b0 5 b1) rfl ?_ ?_
  · first
    | (simp (disch := omega) only [pe_all, pe_K_wI, pe_K_wR]; done)
    | (simp (disch := omega) only [pe_all, pe_K_wI, pe_K_wR]; (repeat' apply And.intro) <;> first | assumption | omega | decide)
  · try simp (disch := omega) only [pe_K_wI, pe_K_wR]
    exact k
theorem rb79_66 {d : Nat} {Φ : Option pe_V → pe_H → Prop} {σ : pe_H} {a0 : Nat} {o1 : Option pe_V}   (h0 : pe_K σ a0 = 8 := by first | assumption | omega) (k : pe_X d 79 (71, [some (.inr (.inr a0)), o1], [], pe_wI σ a0 6 0) Φ) : pe_X d 79 (66, [some (.inr (.inr a0)), o1], [], σ) Φ := by
  refine pe_blk 31 3 ck79 [pe_K σ a0 = 8, 0 = 0 ∨ 0 = 1] (71, [some (.inr (.inr a0)), o1], [], pe_wI σ a0 6 0) rfl ?_ ?_
  · first
    | (simp (disch := omega) only [pe_all, pe_K_wI, pe_K_wR]; done)
    | (simp (disch := omega) only [pe_all, pe_K_wI, pe_K_wR]; (repeat' apply And.intro) <;> first | assumption | omega | decide)
  · try simp (disch := omega) only [pe_K_wI, pe_K_wR]
    exact k
theorem rb79_71 {d : Nat} {Φ : Option pe_V → pe_H → Prop} {σ : pe_H} {a0 : Nat} {o1 : Option pe_V}   (h0 : pe_K σ a0 = 8 := by first | assumption | omega) (k : pe_X d 79 (76, [some (.inr (.inr a0)), o1], [], pe_wI σ a0 7 0) Φ) : pe_X d 79 (71, [some (.inr (.inr a0)), o1], [], σ) Φ := by
  refine pe_blk 34 3 ck79 [pe_K σ a0 = 8] (76, [some (.inr (.inr a0)), o1], [], pe_wI σ a0 7 0) rfl ?_ ?_
  · first
    | (simp (disch := omega) only [pe_all, pe_K_wI, pe_K_wR]; done)
    | (simp (disch := omega) only [pe_all, pe_K_wI, pe_K_wR]; (repeat' apply And.intro) <;> first | assumption | omega | decide)
  · try simp (disch := omega) only [pe_K_wI, pe_K_wR]
    exact k
theorem rb79_76 {d : Nat} {Φ : Option pe_V → pe_H → Prop} {σ : pe_H} {a0 : Nat} {o1 : Option pe_V}    (k : pe_X d 79 (78, [some (.inr (.inr a0)), some (.inl 0)], [], σ) Φ) : pe_X d 79 (76, [some (.inr (.inr a0)), o1], [], σ) Φ := by
  refine pe_blk 37 2 ck79 [] (78, [some (.inr (.inr a0)), some (.inl 0)], [], σ) rfl ?_ ?_
  · exact trivial
  · exact k
theorem rb79_78 {d : Nat} {Φ : Option pe_V → pe_H → Prop} {σ : pe_H} {a0 : Nat} {x1 : Int}  (w0 : pe_in (pe_L σ (pe_R σ a0 2)) := by unfold pe_in; omega) (w1 : pe_in x1 := by unfold pe_in; omega) (h0 : pe_K σ a0 = 8 := by first | assumption | omega) (h1 : 10 ≤ pe_K σ (pe_R σ a0 2) ∧ pe_K σ (pe_R σ a0 2) < 19 := by first | assumption | omega) (k1 : (pe_L σ (pe_R σ a0 2)) ≤ x1 → pe_X d 79 (106, [some (.inr (.inr a0)), some (.inl x1)], [], σ) Φ) (k2 : ¬ ((pe_L σ (pe_R σ a0 2)) ≤ x1) → pe_X d 79 (87, [some (.inr (.inr a0)), some (.inl x1)], [], σ) Φ) : pe_X d 79 (78, [some (.inr (.inr a0)), some (.inl x1)], [], σ) Φ := by
  refine pe_blk 39 5 ck79 [pe_K σ a0 = 8, 10 ≤ pe_K σ (pe_R σ a0 2) ∧ pe_K σ (pe_R σ a0 2) < 19] (cond (decide ((pe_w (pe_L σ (pe_R σ a0 2))) ≤ (pe_w x1))) 106 87, [some (.inr (.inr a0)), some (.inl x1)], [], σ) rfl ?_ ?_
  · first
    | (simp (disch := omega) only [pe_all, pe_wi w0, pe_wi w1, pe_K_wI, pe_K_wR, pe_L_wI, pe_L_wR]; done)
    | (simp (disch := omega) only [pe_all, pe_wi w0, pe_wi w1, pe_K_wI, pe_K_wR, pe_L_wI, pe_L_wR]; (repeat' apply And.intro) <;> first | assumption | omega | decide)
  · try simp (disch := omega) only [pe_wi w0, pe_wi w1, pe_K_wI, pe_K_wR, pe_L_wI, pe_L_wR]
    exact pe_two k1 k2
theorem rb79_87 {d : Nat} {Φ : Option pe_V → pe_H → Prop} {σ : pe_H} {a0 : Nat} {x1 : Int}   (h0 : pe_K σ a0 = 8 := by first | assumption | omega) (h1 : ¬ (pe_n σ) = 0 := by first | assumption | omega) (k : pe_M d 14 [.inr (.inr (pe_n σ))] (pe_new σ 2 0 13) (fun r σ' => pe_X d 79 (99, [some (.inr (.inr a0)), some (.inl x1)], r.toList ++ [.inr (.inr (pe_n σ)), .inl x1, .inr (.inr (pe_R σ a0 2))], σ') Φ)) : pe_X d 79 (87, [some (.inr (.inr a0)), some (.inl x1)], [], σ) Φ := by
  refine pe_blk 44 5 ck79 [pe_K σ a0 = 8] (96, [some (.inr (.inr a0)), some (.inl x1)], [.inr (.inr (pe_n σ)), .inr (.inr (pe_n σ)), .inl x1, .inr (.inr (pe_R σ a0 2))], pe_new σ 2 0 13) rfl ?_ ?_
  · first
    | (simp (disch := omega) only [pe_all, pe_K_wI, pe_K_wR]; done)
    | (simp (disch := omega) only [pe_all, pe_K_wI, pe_K_wR]; (repeat' apply And.intro) <;> first | assumption | omega | decide)
  · try simp (disch := omega) only [pe_K_wI, pe_K_wR]
    exact pe_cal 49 ck79 rfl rfl rfl (show ¬ _ = 0 by assumption) k
set_option maxRecDepth 8000 in
theorem rb79_99 {d : Nat} {Φ : Option pe_V → pe_H → Prop} {σ : pe_H} {a0 : Nat} {x1 : Int} {b0 : Nat} {s1 : Int} {b2 : Nat}  (w0 : pe_in s1 := by unfold pe_in; omega) (h0 : 12 ≤ pe_K σ b0 ∧ pe_K σ b0 < 19 := by first | assumption | omega) (h1 : b2 = 0 ∨ pe_K σ b0 = pe_ak (pe_K σ b2) := by first | assumption | omega) (h2 : 0 ≤ s1 := by first | assumption | omega) (h3 : s1 < pe_L σ b0 := by first | assumption | omega) (h4 : 2 ≤ b0 := by first | assumption | omega) (k : pe_X d 79 (78, [some (.inr (.inr a0)), some (.inl (x1 + 1))], [], pe_wR σ b0 s1 b2) Φ) : pe_X d 79 (99, [some (.inr (.inr a0)), some (.inl x1)], [.inr (.inr b2), .inl s1, .inr (.inr b0)], σ) Φ := by
  refine pe_blk 50 3 ck79 [12 ≤ pe_K σ b0 ∧ pe_K σ b0 < 19, b2 = 0 ∨ pe_K σ b0 = pe_ak (pe_K σ b2), 0 ≤ (pe_w s1), (pe_w s1) < pe_L σ b0, 2 ≤ b0] (78, [some (.inr (.inr a0)), some (.inl (x1 + 1))], [], pe_wR σ b0 (pe_w s1) b2) rfl ?_ ?_
  · first
    | (simp (disch := omega) only [pe_all, pe_wi w0, pe_K_wI, pe_K_wR, pe_L_wI, pe_L_wR]; done)
    | (simp (disch := omega) only [pe_all, pe_wi w0, pe_K_wI, pe_K_wR, pe_L_wI, pe_L_wR]; (repeat' apply And.intro) <;> first | assumption | omega | decide)
  · try simp (disch := omega) only [pe_wi w0, pe_K_wI, pe_K_wR, pe_L_wI, pe_L_wR]
    exact k
set_option maxRecDepth 8000 in
theorem rb79_106 {d : Nat} {Φ : Option pe_V → pe_H → Prop} {σ : pe_H} {o0 : Option pe_V} {o1 : Option pe_V}    (k : Φ none σ) : pe_X d 79 (106, [o0, o1], [], σ) Φ := by
  exact pe_fine 53 ck79 rfl rfl rfl trivial k


