/-! THE CLASS, blocks 1: by program -/
-- StepMachines$Coroutine.begin(LStepMachines$Program;ILStepMachines$Manner;)V
def T1 : List (Nat × Instr × Nat) := [(0, .aload_n 0, 1), (1, .iload_n 2, 1), (2, .putfield 18, 3), (5, .aload_n 0, 1), (6, .aload_n 3, 1), (7, .putfield 22, 3), (10, .aload_n 0, 1), (11, .iconst 0, 1), (12, .putfield 26, 3), (15, .aload_n 0, 1), (16, .iconst 0, 1), (17, .putfield 29, 3), (20, .aload_n 0, 1), (21, .bipush (-4), 2), (23, .putfield 32, 3), (26, .aload_n 0, 1), (27, .iconst 0, 1), (28, .putfield 35, 3), (31, .aload_n 0, 1), (32, .iconst 0, 1), (33, .putfield 38, 3), (36, .aload_n 0, 1), (37, .bipush (-4), 2), (39, .putfield 41, 3), (42, .aload_n 0, 1), (43, .iconst (-1), 1), (44, .putfield 44, 3), (47, .aload_n 0, 1), (48, .iconst 1, 1), (49, .putfield 47, 3), (52, .aload_n 0, 1), (53, .getfield 11, 3), (56, .iconst 0, 1), (57, .aaload, 1), (58, .aload_n 1, 1), (59, .iload_n 2, 1), (60, .invokevirtual 50, 3), (63, .return_, 1)]
theorem ck1 : pe_ctx 1 0 false none 4 T1 := ⟨rfl, rfl, rfl, rfl, by decide +kernel, by decide, by decide⟩
set_option maxHeartbeats 8000000 in
theorem b1_0 {d : Nat} {Φ : Option pe_V → pe_H → Prop} {σ : pe_H} {a0 : Nat} {a1 : Nat} {x2 : Int} {a3 : Nat} (f_a0 : pk_Fo a0 σ := by assumption)   (k : pe_X d 1 (42, [some (.inr (.inr a0)), some (.inr (.inr a1)), some (.inl x2), some (.inr (.inr a3))], [], pe_wI (pe_wI (pe_wI (pe_wI (pe_wI (pe_wI (pe_wR (pe_wI σ a0 0 x2) a0 1 a3) a0 2 0) a0 3 0) a0 4 (-4)) a0 5 0) a0 6 0) a0 7 (-4)) Φ) : pe_X d 1 (0, [some (.inr (.inr a0)), some (.inr (.inr a1)), some (.inl x2), some (.inr (.inr a3))], [], σ) Φ := by
  refine pe_blk 0 24 ck1 [pe_K σ a0 = 0, pe_K (pe_wI σ a0 0 x2) a0 = 0, pe_K (pe_wR (pe_wI σ a0 0 x2) a0 1 a3) a0 = 0, pe_K (pe_wI (pe_wR (pe_wI σ a0 0 x2) a0 1 a3) a0 2 0) a0 = 0, pe_K (pe_wI (pe_wI (pe_wR (pe_wI σ a0 0 x2) a0 1 a3) a0 2 0) a0 3 0) a0 = 0, pe_K (pe_wI (pe_wI (pe_wI (pe_wR (pe_wI σ a0 0 x2) a0 1 a3) a0 2 0) a0 3 0) a0 4 (-4)) a0 = 0, pe_K (pe_wI (pe_wI (pe_wI (pe_wI (pe_wR (pe_wI σ a0 0 x2) a0 1 a3) a0 2 0) a0 3 0) a0 4 (-4)) a0 5 0) a0 = 0, pe_K (pe_wI (pe_wI (pe_wI (pe_wI (pe_wI (pe_wR (pe_wI σ a0 0 x2) a0 1 a3) a0 2 0) a0 3 0) a0 4 (-4)) a0 5 0) a0 6 0) a0 = 0] (42, [some (.inr (.inr a0)), some (.inr (.inr a1)), some (.inl x2), some (.inr (.inr a3))], [], pe_wI (pe_wI (pe_wI (pe_wI (pe_wI (pe_wI (pe_wR (pe_wI σ a0 0 x2) a0 1 a3) a0 2 0) a0 3 0) a0 4 (-4)) a0 5 0) a0 6 0) a0 7 (-4)) rfl ?_ ?_
  · first
    | (simp (disch := omega) only [pe_all, pe_K_wI, pe_K_wR, pk_oK f_a0]; done)
    | (simp (disch := omega) only [pe_all, pe_K_wI, pe_K_wR, pk_oK f_a0]; (repeat' apply And.intro) <;> first | assumption | omega | decide)
  · try simp (disch := omega) only [pe_K_wI, pe_K_wR, pk_oK f_a0]
    exact k
theorem b1_42 {d : Nat} {Φ : Option pe_V → pe_H → Prop} {σ : pe_H} {a0 : Nat} {a1 : Nat} {x2 : Int} {o3 : Option pe_V} (f_a0 : pk_Fo a0 σ := by assumption)   (k : pe_M d 12 [.inr (.inr (pk_f a0 0)), .inr (.inr a1), .inl x2] (pe_wI (pe_wI σ a0 8 (-1)) a0 9 1) (fun r σ' => pe_X d 1 (63, [some (.inr (.inr a0)), some (.inr (.inr a1)), some (.inl x2), o3], r.toList ++ [], σ') Φ)) : pe_X d 1 (42, [some (.inr (.inr a0)), some (.inr (.inr a1)), some (.inl x2), o3], [], σ) Φ := by
  refine pe_blk 24 12 ck1 [pe_K σ a0 = 0, pe_K (pe_wI σ a0 8 (-1)) a0 = 0, pe_K (pe_wI (pe_wI σ a0 8 (-1)) a0 9 1) a0 = 0, 12 ≤ pe_K (pe_wI (pe_wI σ a0 8 (-1)) a0 9 1) (pe_R (pe_wI (pe_wI σ a0 8 (-1)) a0 9 1) a0 10) ∧ pe_K (pe_wI (pe_wI σ a0 8 (-1)) a0 9 1) (pe_R (pe_wI (pe_wI σ a0 8 (-1)) a0 9 1) a0 10) < 19, 0 ≤ (pe_w 0), (pe_w 0) < pe_L (pe_wI (pe_wI σ a0 8 (-1)) a0 9 1) (pe_R (pe_wI (pe_wI σ a0 8 (-1)) a0 9 1) a0 10)] (60, [some (.inr (.inr a0)), some (.inr (.inr a1)), some (.inl x2), o3], [.inl x2, .inr (.inr a1), .inr (.inr (pe_R (pe_wI (pe_wI σ a0 8 (-1)) a0 9 1) (pe_R (pe_wI (pe_wI σ a0 8 (-1)) a0 9 1) a0 10) (pe_w 0)))], pe_wI (pe_wI σ a0 8 (-1)) a0 9 1) rfl ?_ ?_
  · first
    | (simp (disch := omega) only [pe_all, pe_wi (x := 0) ⟨by decide, by decide⟩, pe_K_wI, pe_K_wR, pe_L_wI, pe_L_wR, pe_R_nej, pe_R_ner, pe_R_wI, pk_oE f_a0 (i := 0) (by omega) (by omega), pk_oEK f_a0 (i := 0) (by omega) (by omega), pk_oK f_a0, pk_oK1 f_a0, pk_oL1 f_a0, pk_oR f_a0]; done)
    | (simp (disch := omega) only [pe_all, pe_wi (x := 0) ⟨by decide, by decide⟩, pe_K_wI, pe_K_wR, pe_L_wI, pe_L_wR, pe_R_nej, pe_R_ner, pe_R_wI, pk_oE f_a0 (i := 0) (by omega) (by omega), pk_oEK f_a0 (i := 0) (by omega) (by omega), pk_oK f_a0, pk_oK1 f_a0, pk_oL1 f_a0, pk_oR f_a0]; (repeat' apply And.intro) <;> first | assumption | omega | decide)
  · try simp (disch := omega) only [pe_wi (x := 0) ⟨by decide, by decide⟩, pe_K_wI, pe_K_wR, pe_L_wI, pe_L_wR, pe_R_nej, pe_R_ner, pe_R_wI, pk_oE f_a0 (i := 0) (by omega) (by omega), pk_oEK f_a0 (i := 0) (by omega) (by omega), pk_oK f_a0, pk_oK1 f_a0, pk_oL1 f_a0, pk_oR f_a0]
    have hrc : pe_K (pe_wI (pe_wI σ a0 8 (-1)) a0 9 1) (pk_f a0 0) = 1 := by first | assumption | (simp (disch := omega) only [pe_wi (x := 0) ⟨by decide, by decide⟩, pe_K_wI, pe_K_wR, pe_L_wI, pe_L_wR, pe_R_nej, pe_R_ner, pe_R_wI, pk_oE f_a0 (i := 0) (by omega) (by omega), pk_oEK f_a0 (i := 0) (by omega) (by omega), pk_oK f_a0, pk_oK1 f_a0, pk_oL1 f_a0, pk_oR f_a0]; done) | (simp (disch := omega) only [pe_wi (x := 0) ⟨by decide, by decide⟩, pe_K_wI, pe_K_wR, pe_L_wI, pe_L_wR, pe_R_nej, pe_R_ner, pe_R_wI, pk_oE f_a0 (i := 0) (by omega) (by omega), pk_oEK f_a0 (i := 0) (by omega) (by omega), pk_oK f_a0, pk_oK1 f_a0, pk_oL1 f_a0, pk_oR f_a0]; assumption)
    exact pe_cal 36 ck1 rfl rfl rfl ⟨hrc, by decide⟩ k
theorem b1_63 {d : Nat} {Φ : Option pe_V → pe_H → Prop} {σ : pe_H} {o0 : Option pe_V} {o1 : Option pe_V} {o2 : Option pe_V} {o3 : Option pe_V}    (k : Φ none σ) : pe_X d 1 (63, [o0, o1, o2, o3], [], σ) Φ := by
  exact pe_fine 37 ck1 rfl rfl rfl trivial k
-- StepMachines$Coroutine.become(LStepMachines$Coroutine;)V
def T2 : List (Nat × Instr × Nat) := [(0, .aload_n 0, 1), (1, .aload_n 1, 1), (2, .getfield 18, 3), (5, .putfield 18, 3), (8, .aload_n 0, 1), (9, .aload_n 1, 1), (10, .getfield 22, 3), (13, .putfield 22, 3), (16, .aload_n 0, 1), (17, .aload_n 1, 1), (18, .getfield 26, 3), (21, .putfield 26, 3), (24, .aload_n 0, 1), (25, .aload_n 1, 1), (26, .getfield 29, 3), (29, .putfield 29, 3), (32, .aload_n 0, 1), (33, .aload_n 1, 1), (34, .getfield 32, 3), (37, .putfield 32, 3), (40, .aload_n 0, 1), (41, .aload_n 1, 1), (42, .getfield 35, 3), (45, .putfield 35, 3), (48, .aload_n 0, 1), (49, .aload_n 1, 1), (50, .getfield 38, 3), (53, .putfield 38, 3), (56, .aload_n 0, 1), (57, .aload_n 1, 1), (58, .getfield 41, 3), (61, .putfield 41, 3), (64, .aload_n 0, 1), (65, .aload_n 1, 1), (66, .getfield 44, 3), (69, .putfield 44, 3), (72, .aload_n 0, 1), (73, .aload_n 1, 1), (74, .getfield 47, 3), (77, .putfield 47, 3), (80, .iconst 0, 1), (81, .istore_n 2, 1), (82, .iload_n 2, 1), (83, .aload_n 0, 1), (84, .getfield 47, 3), (87, .if_icmp .ge 24, 3), (90, .aload_n 0, 1), (91, .getfield 11, 3), (94, .iload_n 2, 1), (95, .aaload, 1), (96, .aload_n 1, 1), (97, .getfield 11, 3), (100, .iload_n 2, 1), (101, .aaload, 1), (102, .invokevirtual 54, 3), (105, .iinc 2 1, 3), (108, .goto (-26), 3), (111, .return_, 1)]
theorem ck2 : pe_ctx 2 0 false none 3 T2 := ⟨rfl, rfl, rfl, rfl, by decide +kernel, by decide, by decide⟩
set_option maxHeartbeats 8000000 in
theorem b2_0 {d : Nat} {Φ : Option pe_V → pe_H → Prop} {σ : pe_H} {a0 : Nat} {a1 : Nat} {o2 : Option pe_V} (f_a0 : pk_Fo a0 σ := by assumption) (f_a1 : pk_Fo a1 σ := by assumption)   (k : pe_X d 2 (48, [some (.inr (.inr a0)), some (.inr (.inr a1)), o2], [], pe_wI (pe_wI (pe_wI (pe_wI (pe_wR (pe_wI σ a0 0 (pe_I σ a1 0)) a0 1 (pe_R σ a1 1)) a0 2 (pe_I σ a1 2)) a0 3 (pe_I σ a1 3)) a0 4 (pe_I σ a1 4)) a0 5 (pe_I σ a1 5)) Φ) : pe_X d 2 (0, [some (.inr (.inr a0)), some (.inr (.inr a1)), o2], [], σ) Φ := by
  refine pe_blk 0 24 ck2 [pe_K σ a1 = 0, pe_K σ a0 = 0, pe_K (pe_wI σ a0 0 (pe_I σ a1 0)) a1 = 0, pe_K (pe_wI σ a0 0 (pe_I σ a1 0)) a0 = 0, pe_K (pe_wR (pe_wI σ a0 0 (pe_I σ a1 0)) a0 1 (pe_R (pe_wI σ a0 0 (pe_I σ a1 0)) a1 1)) a1 = 0, pe_K (pe_wR (pe_wI σ a0 0 (pe_I σ a1 0)) a0 1 (pe_R (pe_wI σ a0 0 (pe_I σ a1 0)) a1 1)) a0 = 0, pe_K (pe_wI (pe_wR (pe_wI σ a0 0 (pe_I σ a1 0)) a0 1 (pe_R (pe_wI σ a0 0 (pe_I σ a1 0)) a1 1)) a0 2 (pe_I (pe_wR (pe_wI σ a0 0 (pe_I σ a1 0)) a0 1 (pe_R (pe_wI σ a0 0 (pe_I σ a1 0)) a1 1)) a1 2)) a1 = 0, pe_K (pe_wI (pe_wR (pe_wI σ a0 0 (pe_I σ a1 0)) a0 1 (pe_R (pe_wI σ a0 0 (pe_I σ a1 0)) a1 1)) a0 2 (pe_I (pe_wR (pe_wI σ a0 0 (pe_I σ a1 0)) a0 1 (pe_R (pe_wI σ a0 0 (pe_I σ a1 0)) a1 1)) a1 2)) a0 = 0, pe_K (pe_wI (pe_wI (pe_wR (pe_wI σ a0 0 (pe_I σ a1 0)) a0 1 (pe_R (pe_wI σ a0 0 (pe_I σ a1 0)) a1 1)) a0 2 (pe_I (pe_wR (pe_wI σ a0 0 (pe_I σ a1 0)) a0 1 (pe_R (pe_wI σ a0 0 (pe_I σ a1 0)) a1 1)) a1 2)) a0 3 (pe_I (pe_wI (pe_wR (pe_wI σ a0 0 (pe_I σ a1 0)) a0 1 (pe_R (pe_wI σ a0 0 (pe_I σ a1 0)) a1 1)) a0 2 (pe_I (pe_wR (pe_wI σ a0 0 (pe_I σ a1 0)) a0 1 (pe_R (pe_wI σ a0 0 (pe_I σ a1 0)) a1 1)) a1 2)) a1 3)) a1 = 0, pe_K (pe_wI (pe_wI (pe_wR (pe_wI σ a0 0 (pe_I σ a1 0)) a0 1 (pe_R (pe_wI σ a0 0 (pe_I σ a1 0)) a1 1)) a0 2 (pe_I (pe_wR (pe_wI σ a0 0 (pe_I σ a1 0)) a0 1 (pe_R (pe_wI σ a0 0 (pe_I σ a1 0)) a1 1)) a1 2)) a0 3 (pe_I (pe_wI (pe_wR (pe_wI σ a0 0 (pe_I σ a1 0)) a0 1 (pe_R (pe_wI σ a0 0 (pe_I σ a1 0)) a1 1)) a0 2 (pe_I (pe_wR (pe_wI σ a0 0 (pe_I σ a1 0)) a0 1 (pe_R (pe_wI σ a0 0 (pe_I σ a1 0)) a1 1)) a1 2)) a1 3)) a0 = 0, pe_K (pe_wI (pe_wI (pe_wI (pe_wR (pe_wI σ a0 0 (pe_I σ a1 0)) a0 1 (pe_R (pe_wI σ a0 0 (pe_I σ a1 0)) a1 1)) a0 2 (pe_I (pe_wR (pe_wI σ a0 0 (pe_I σ a1 0)) a0 1 (pe_R (pe_wI σ a0 0 (pe_I σ a1 0)) a1 1)) a1 2)) a0 3 (pe_I (pe_wI (pe_wR (pe_wI σ a0 0 (pe_I σ a1 0)) a0 1 (pe_R (pe_wI σ a0 0 (pe_I σ a1 0)) a1 1)) a0 2 (pe_I (pe_wR (pe_wI σ a0 0 (pe_I σ a1 0)) a0 1 (pe_R (pe_wI σ a0 0 (pe_I σ a1 0)) a1 1)) a1 2)) a1 3)) a0 4 (pe_I (pe_wI (pe_wI (pe_wR (pe_wI σ a0 0 (pe_I σ a1 0)) a0 1 (pe_R (pe_wI σ a0 0 (pe_I σ a1 0)) a1 1)) a0 2 (pe_I (pe_wR (pe_wI σ a0 0 (pe_I σ a1 0)) a0 1 (pe_R (pe_wI σ a0 0 (pe_I σ a1 0)) a1 1)) a1 2)) a0 3 (pe_I (pe_wI (pe_wR (pe_wI σ a0 0 (pe_I σ a1 0)) a0 1 (pe_R (pe_wI σ a0 0 (pe_I σ a1 0)) a1 1)) a0 2 (pe_I (pe_wR (pe_wI σ a0 0 (pe_I σ a1 0)) a0 1 (pe_R (pe_wI σ a0 0 (pe_I σ a1 0)) a1 1)) a1 2)) a1 3)) a1 4)) a1 = 0, pe_K (pe_wI (pe_wI (pe_wI (pe_wR (pe_wI σ a0 0 (pe_I σ a1 0)) a0 1 (pe_R (pe_wI σ a0 0 (pe_I σ a1 0)) a1 1)) a0 2 (pe_I (pe_wR (pe_wI σ a0 0 (pe_I σ a1 0)) a0 1 (pe_R (pe_wI σ a0 0 (pe_I σ a1 0)) a1 1)) a1 2)) a0 3 (pe_I (pe_wI (pe_wR (pe_wI σ a0 0 (pe_I σ a1 0)) a0 1 (pe_R (pe_wI σ a0 0 (pe_I σ a1 0)) a1 1)) a0 2 (pe_I (pe_wR (pe_wI σ a0 0 (pe_I σ a1 0)) a0 1 (pe_R (pe_wI σ a0 0 (pe_I σ a1 0)) a1 1)) a1 2)) a1 3)) a0 4 (pe_I (pe_wI (pe_wI (pe_wR (pe_wI σ a0 0 (pe_I σ a1 0)) a0 1 (pe_R (pe_wI σ a0 0 (pe_I σ a1 0)) a1 1)) a0 2 (pe_I (pe_wR (pe_wI σ a0 0 (pe_I σ a1 0)) a0 1 (pe_R (pe_wI σ a0 0 (pe_I σ a1 0)) a1 1)) a1 2)) a0 3 (pe_I (pe_wI (pe_wR (pe_wI σ a0 0 (pe_I σ a1 0)) a0 1 (pe_R (pe_wI σ a0 0 (pe_I σ a1 0)) a1 1)) a0 2 (pe_I (pe_wR (pe_wI σ a0 0 (pe_I σ a1 0)) a0 1 (pe_R (pe_wI σ a0 0 (pe_I σ a1 0)) a1 1)) a1 2)) a1 3)) a1 4)) a0 = 0] (48, [some (.inr (.inr a0)), some (.inr (.inr a1)), o2], [], pe_wI (pe_wI (pe_wI (pe_wI (pe_wR (pe_wI σ a0 0 (pe_I σ a1 0)) a0 1 (pe_R (pe_wI σ a0 0 (pe_I σ a1 0)) a1 1)) a0 2 (pe_I (pe_wR (pe_wI σ a0 0 (pe_I σ a1 0)) a0 1 (pe_R (pe_wI σ a0 0 (pe_I σ a1 0)) a1 1)) a1 2)) a0 3 (pe_I (pe_wI (pe_wR (pe_wI σ a0 0 (pe_I σ a1 0)) a0 1 (pe_R (pe_wI σ a0 0 (pe_I σ a1 0)) a1 1)) a0 2 (pe_I (pe_wR (pe_wI σ a0 0 (pe_I σ a1 0)) a0 1 (pe_R (pe_wI σ a0 0 (pe_I σ a1 0)) a1 1)) a1 2)) a1 3)) a0 4 (pe_I (pe_wI (pe_wI (pe_wR (pe_wI σ a0 0 (pe_I σ a1 0)) a0 1 (pe_R (pe_wI σ a0 0 (pe_I σ a1 0)) a1 1)) a0 2 (pe_I (pe_wR (pe_wI σ a0 0 (pe_I σ a1 0)) a0 1 (pe_R (pe_wI σ a0 0 (pe_I σ a1 0)) a1 1)) a1 2)) a0 3 (pe_I (pe_wI (pe_wR (pe_wI σ a0 0 (pe_I σ a1 0)) a0 1 (pe_R (pe_wI σ a0 0 (pe_I σ a1 0)) a1 1)) a0 2 (pe_I (pe_wR (pe_wI σ a0 0 (pe_I σ a1 0)) a0 1 (pe_R (pe_wI σ a0 0 (pe_I σ a1 0)) a1 1)) a1 2)) a1 3)) a1 4)) a0 5 (pe_I (pe_wI (pe_wI (pe_wI (pe_wR (pe_wI σ a0 0 (pe_I σ a1 0)) a0 1 (pe_R (pe_wI σ a0 0 (pe_I σ a1 0)) a1 1)) a0 2 (pe_I (pe_wR (pe_wI σ a0 0 (pe_I σ a1 0)) a0 1 (pe_R (pe_wI σ a0 0 (pe_I σ a1 0)) a1 1)) a1 2)) a0 3 (pe_I (pe_wI (pe_wR (pe_wI σ a0 0 (pe_I σ a1 0)) a0 1 (pe_R (pe_wI σ a0 0 (pe_I σ a1 0)) a1 1)) a0 2 (pe_I (pe_wR (pe_wI σ a0 0 (pe_I σ a1 0)) a0 1 (pe_R (pe_wI σ a0 0 (pe_I σ a1 0)) a1 1)) a1 2)) a1 3)) a0 4 (pe_I (pe_wI (pe_wI (pe_wR (pe_wI σ a0 0 (pe_I σ a1 0)) a0 1 (pe_R (pe_wI σ a0 0 (pe_I σ a1 0)) a1 1)) a0 2 (pe_I (pe_wR (pe_wI σ a0 0 (pe_I σ a1 0)) a0 1 (pe_R (pe_wI σ a0 0 (pe_I σ a1 0)) a1 1)) a1 2)) a0 3 (pe_I (pe_wI (pe_wR (pe_wI σ a0 0 (pe_I σ a1 0)) a0 1 (pe_R (pe_wI σ a0 0 (pe_I σ a1 0)) a1 1)) a0 2 (pe_I (pe_wR (pe_wI σ a0 0 (pe_I σ a1 0)) a0 1 (pe_R (pe_wI σ a0 0 (pe_I σ a1 0)) a1 1)) a1 2)) a1 3)) a1 4)) a1 5)) rfl ?_ ?_
  · first
    | (simp (disch := omega) only [pe_all, pe_I_nej, pe_I_wR, pe_K_wI, pe_K_wR, pe_R_cpy, pe_R_wI, pk_oK f_a0, pk_oK f_a1]; done)
    | (simp (disch := omega) only [pe_all, pe_I_nej, pe_I_wR, pe_K_wI, pe_K_wR, pe_R_cpy, pe_R_wI, pk_oK f_a0, pk_oK f_a1]; (repeat' apply And.intro) <;> first | assumption | omega | decide)
  · try simp (disch := omega) only [pe_I_nej, pe_I_wR, pe_K_wI, pe_K_wR, pe_R_cpy, pe_R_wI, pk_oK f_a0, pk_oK f_a1]
    exact k
theorem b2_48 {d : Nat} {Φ : Option pe_V → pe_H → Prop} {σ : pe_H} {a0 : Nat} {a1 : Nat} {o2 : Option pe_V} (f_a0 : pk_Fo a0 σ := by assumption) (f_a1 : pk_Fo a1 σ := by assumption)   (k : pe_X d 2 (82, [some (.inr (.inr a0)), some (.inr (.inr a1)), some (.inl 0)], [], pe_wI (pe_wI (pe_wI (pe_wI σ a0 6 (pe_I σ a1 6)) a0 7 (pe_I σ a1 7)) a0 8 (pe_I σ a1 8)) a0 9 (pe_I σ a1 9)) Φ) : pe_X d 2 (48, [some (.inr (.inr a0)), some (.inr (.inr a1)), o2], [], σ) Φ := by
  refine pe_blk 24 18 ck2 [pe_K σ a1 = 0, pe_K σ a0 = 0, pe_K (pe_wI σ a0 6 (pe_I σ a1 6)) a1 = 0, pe_K (pe_wI σ a0 6 (pe_I σ a1 6)) a0 = 0, pe_K (pe_wI (pe_wI σ a0 6 (pe_I σ a1 6)) a0 7 (pe_I (pe_wI σ a0 6 (pe_I σ a1 6)) a1 7)) a1 = 0, pe_K (pe_wI (pe_wI σ a0 6 (pe_I σ a1 6)) a0 7 (pe_I (pe_wI σ a0 6 (pe_I σ a1 6)) a1 7)) a0 = 0, pe_K (pe_wI (pe_wI (pe_wI σ a0 6 (pe_I σ a1 6)) a0 7 (pe_I (pe_wI σ a0 6 (pe_I σ a1 6)) a1 7)) a0 8 (pe_I (pe_wI (pe_wI σ a0 6 (pe_I σ a1 6)) a0 7 (pe_I (pe_wI σ a0 6 (pe_I σ a1 6)) a1 7)) a1 8)) a1 = 0, pe_K (pe_wI (pe_wI (pe_wI σ a0 6 (pe_I σ a1 6)) a0 7 (pe_I (pe_wI σ a0 6 (pe_I σ a1 6)) a1 7)) a0 8 (pe_I (pe_wI (pe_wI σ a0 6 (pe_I σ a1 6)) a0 7 (pe_I (pe_wI σ a0 6 (pe_I σ a1 6)) a1 7)) a1 8)) a0 = 0] (82, [some (.inr (.inr a0)), some (.inr (.inr a1)), some (.inl 0)], [], pe_wI (pe_wI (pe_wI (pe_wI σ a0 6 (pe_I σ a1 6)) a0 7 (pe_I (pe_wI σ a0 6 (pe_I σ a1 6)) a1 7)) a0 8 (pe_I (pe_wI (pe_wI σ a0 6 (pe_I σ a1 6)) a0 7 (pe_I (pe_wI σ a0 6 (pe_I σ a1 6)) a1 7)) a1 8)) a0 9 (pe_I (pe_wI (pe_wI (pe_wI σ a0 6 (pe_I σ a1 6)) a0 7 (pe_I (pe_wI σ a0 6 (pe_I σ a1 6)) a1 7)) a0 8 (pe_I (pe_wI (pe_wI σ a0 6 (pe_I σ a1 6)) a0 7 (pe_I (pe_wI σ a0 6 (pe_I σ a1 6)) a1 7)) a1 8)) a1 9)) rfl ?_ ?_
  · first
    | (simp (disch := omega) only [pe_all, pe_I_nej, pe_K_wI, pe_K_wR, pk_oK f_a0, pk_oK f_a1]; done)
    | (simp (disch := omega) only [pe_all, pe_I_nej, pe_K_wI, pe_K_wR, pk_oK f_a0, pk_oK f_a1]; (repeat' apply And.intro) <;> first | assumption | omega | decide)
  · try simp (disch := omega) only [pe_I_nej, pe_K_wI, pe_K_wR, pk_oK f_a0, pk_oK f_a1]
    exact k
theorem b2_82 {d : Nat} {Φ : Option pe_V → pe_H → Prop} {σ : pe_H} {a0 : Nat} {a1 : Nat} {x2 : Int} (f_a0 : pk_Fo a0 σ := by assumption) (f_a1 : pk_Fo a1 σ := by assumption) (w0 : pe_in (pe_I σ a0 9) := by unfold pe_in; omega) (w1 : pe_in x2 := by unfold pe_in; omega)  (k1 : (pe_I σ a0 9) ≤ x2 → pe_X d 2 (111, [some (.inr (.inr a0)), some (.inr (.inr a1)), some (.inl x2)], [], σ) Φ) (k2 : ¬ ((pe_I σ a0 9) ≤ x2) → pe_X d 2 (90, [some (.inr (.inr a0)), some (.inr (.inr a1)), some (.inl x2)], [], σ) Φ) : pe_X d 2 (82, [some (.inr (.inr a0)), some (.inr (.inr a1)), some (.inl x2)], [], σ) Φ := by
  refine pe_blk 42 4 ck2 [pe_K σ a0 = 0] (cond (decide ((pe_w (pe_I σ a0 9)) ≤ (pe_w x2))) 111 90, [some (.inr (.inr a0)), some (.inr (.inr a1)), some (.inl x2)], [], σ) rfl ?_ ?_
  · first
    | (simp (disch := omega) only [pe_all, pe_wi w0, pe_wi w1, pe_K_wI, pe_K_wR, pk_oK f_a0]; done)
    | (simp (disch := omega) only [pe_all, pe_wi w0, pe_wi w1, pe_K_wI, pe_K_wR, pk_oK f_a0]; (repeat' apply And.intro) <;> first | assumption | omega | decide)
  · try simp (disch := omega) only [pe_wi w0, pe_wi w1, pe_K_wI, pe_K_wR, pk_oK f_a0]
    exact pe_two k1 k2
set_option maxRecDepth 8000 in
theorem b2_90 {d : Nat} {Φ : Option pe_V → pe_H → Prop} {σ : pe_H} {a0 : Nat} {a1 : Nat} {x2 : Int} (f_a0 : pk_Fo a0 σ := by assumption) (f_a1 : pk_Fo a1 σ := by assumption) (w0 : pe_in x2 := by unfold pe_in; omega) (h0 : 0 ≤ x2 := by first | assumption | omega) (h1 : x2 < 6 := by first | assumption | omega) (k : pe_M d 13 [.inr (.inr (pk_f a0 x2)), .inr (.inr (pk_f a1 x2))] σ (fun r σ' => pe_X d 2 (105, [some (.inr (.inr a0)), some (.inr (.inr a1)), some (.inl x2)], r.toList ++ [], σ') Φ)) : pe_X d 2 (90, [some (.inr (.inr a0)), some (.inr (.inr a1)), some (.inl x2)], [], σ) Φ := by
  refine pe_blk 46 8 ck2 [pe_K σ a0 = 0, 12 ≤ pe_K σ (pe_R σ a0 10) ∧ pe_K σ (pe_R σ a0 10) < 19, 0 ≤ (pe_w x2), (pe_w x2) < pe_L σ (pe_R σ a0 10), pe_K σ a1 = 0, 12 ≤ pe_K σ (pe_R σ a1 10) ∧ pe_K σ (pe_R σ a1 10) < 19, 0 ≤ (pe_w x2), (pe_w x2) < pe_L σ (pe_R σ a1 10)] (102, [some (.inr (.inr a0)), some (.inr (.inr a1)), some (.inl x2)], [.inr (.inr (pe_R σ (pe_R σ a1 10) (pe_w x2))), .inr (.inr (pe_R σ (pe_R σ a0 10) (pe_w x2)))], σ) rfl ?_ ?_
  · first
    | (simp (disch := omega) only [pe_all, pe_wi w0, pe_K_wI, pe_K_wR, pe_L_wI, pe_L_wR, pe_R_nej, pe_R_ner, pe_R_wI, pk_oE f_a0 (i := x2) (by omega) (by omega), pk_oE f_a1 (i := x2) (by omega) (by omega), pk_oEK f_a0 (i := x2) (by omega) (by omega), pk_oK f_a0, pk_oK f_a1, pk_oK1 f_a0, pk_oK1 f_a1, pk_oL1 f_a0, pk_oL1 f_a1, pk_oR f_a0, pk_oR f_a1]; done)
    | (simp (disch := omega) only [pe_all, pe_wi w0, pe_K_wI, pe_K_wR, pe_L_wI, pe_L_wR, pe_R_nej, pe_R_ner, pe_R_wI, pk_oE f_a0 (i := x2) (by omega) (by omega), pk_oE f_a1 (i := x2) (by omega) (by omega), pk_oEK f_a0 (i := x2) (by omega) (by omega), pk_oK f_a0, pk_oK f_a1, pk_oK1 f_a0, pk_oK1 f_a1, pk_oL1 f_a0, pk_oL1 f_a1, pk_oR f_a0, pk_oR f_a1]; (repeat' apply And.intro) <;> first | assumption | omega | decide)
  · try simp (disch := omega) only [pe_wi w0, pe_K_wI, pe_K_wR, pe_L_wI, pe_L_wR, pe_R_nej, pe_R_ner, pe_R_wI, pk_oE f_a0 (i := x2) (by omega) (by omega), pk_oE f_a1 (i := x2) (by omega) (by omega), pk_oEK f_a0 (i := x2) (by omega) (by omega), pk_oK f_a0, pk_oK f_a1, pk_oK1 f_a0, pk_oK1 f_a1, pk_oL1 f_a0, pk_oL1 f_a1, pk_oR f_a0, pk_oR f_a1]
    have hrc : pe_K σ (pk_f a0 x2) = 1 := by first | assumption | (simp (disch := omega) only [pe_wi w0, pe_K_wI, pe_K_wR, pe_L_wI, pe_L_wR, pe_R_nej, pe_R_ner, pe_R_wI, pk_oE f_a0 (i := x2) (by omega) (by omega), pk_oE f_a1 (i := x2) (by omega) (by omega), pk_oEK f_a0 (i := x2) (by omega) (by omega), pk_oK f_a0, pk_oK f_a1, pk_oK1 f_a0, pk_oK1 f_a1, pk_oL1 f_a0, pk_oL1 f_a1, pk_oR f_a0, pk_oR f_a1]; done) | (simp (disch := omega) only [pe_wi w0, pe_K_wI, pe_K_wR, pe_L_wI, pe_L_wR, pe_R_nej, pe_R_ner, pe_R_wI, pk_oE f_a0 (i := x2) (by omega) (by omega), pk_oE f_a1 (i := x2) (by omega) (by omega), pk_oEK f_a0 (i := x2) (by omega) (by omega), pk_oK f_a0, pk_oK f_a1, pk_oK1 f_a0, pk_oK1 f_a1, pk_oL1 f_a0, pk_oL1 f_a1, pk_oR f_a0, pk_oR f_a1]; assumption)
    exact pe_cal 54 ck2 rfl rfl rfl ⟨hrc, by decide⟩ k
set_option maxRecDepth 8000 in
theorem b2_105 {d : Nat} {Φ : Option pe_V → pe_H → Prop} {σ : pe_H} {a0 : Nat} {a1 : Nat} {x2 : Int} (f_a0 : pk_Fo a0 σ := by assumption) (f_a1 : pk_Fo a1 σ := by assumption)   (k : pe_X d 2 (82, [some (.inr (.inr a0)), some (.inr (.inr a1)), some (.inl (x2 + 1))], [], σ) Φ) : pe_X d 2 (105, [some (.inr (.inr a0)), some (.inr (.inr a1)), some (.inl x2)], [], σ) Φ := by
  refine pe_blk 55 2 ck2 [] (82, [some (.inr (.inr a0)), some (.inr (.inr a1)), some (.inl (x2 + 1))], [], σ) rfl ?_ ?_
  · exact trivial
  · exact k
set_option maxRecDepth 8000 in
theorem b2_111 {d : Nat} {Φ : Option pe_V → pe_H → Prop} {σ : pe_H} {o0 : Option pe_V} {o1 : Option pe_V} {o2 : Option pe_V}    (k : Φ none σ) : pe_X d 2 (111, [o0, o1, o2], [], σ) Φ := by
  exact pe_fine 57 ck2 rfl rfl rfl trivial k
-- StepMachines$Coroutine.isEnded()Z
def T3 : List (Nat × Instr × Nat) := [(0, .aload_n 0, 1), (1, .getfield 26, 3), (4, .bipush 6, 2), (6, .if_icmp .lt 7, 3), (9, .iconst 1, 1), (10, .goto 4, 3), (13, .iconst 0, 1), (14, .ireturn, 1)]
theorem ck3 : pe_ctx 3 0 false (some .boolean) 1 T3 := ⟨rfl, rfl, rfl, rfl, by decide +kernel, by decide, by decide⟩
theorem b3_0 {d : Nat} {Φ : Option pe_V → pe_H → Prop} {σ : pe_H} {a0 : Nat} (f_a0 : pk_Fo a0 σ := by assumption) (w0 : pe_in (pe_I σ a0 2) := by unfold pe_in; omega)  (k1 : (pe_I σ a0 2) < 6 → pe_X d 3 (13, [some (.inr (.inr a0))], [], σ) Φ) (k2 : ¬ ((pe_I σ a0 2) < 6) → pe_X d 3 (9, [some (.inr (.inr a0))], [], σ) Φ) : pe_X d 3 (0, [some (.inr (.inr a0))], [], σ) Φ := by
  refine pe_blk 0 4 ck3 [pe_K σ a0 = 0] (cond (decide ((pe_w (pe_I σ a0 2)) < (pe_w 6))) 13 9, [some (.inr (.inr a0))], [], σ) rfl ?_ ?_
  · first
    | (simp (disch := omega) only [pe_all, pe_wi w0, pe_wi (x := 6) ⟨by decide, by decide⟩, pe_K_wI, pe_K_wR, pk_oK f_a0]; done)
    | (simp (disch := omega) only [pe_all, pe_wi w0, pe_wi (x := 6) ⟨by decide, by decide⟩, pe_K_wI, pe_K_wR, pk_oK f_a0]; (repeat' apply And.intro) <;> first | assumption | omega | decide)
  · try simp (disch := omega) only [pe_wi w0, pe_wi (x := 6) ⟨by decide, by decide⟩, pe_K_wI, pe_K_wR, pk_oK f_a0]
    exact pe_two k1 k2
theorem b3_9 {d : Nat} {Φ : Option pe_V → pe_H → Prop} {σ : pe_H} {o0 : Option pe_V}    (k : pe_X d 3 (14, [o0], [.inl 1], σ) Φ) : pe_X d 3 (9, [o0], [], σ) Φ := by
  refine pe_blk 4 2 ck3 [] (14, [o0], [.inl 1], σ) rfl ?_ ?_
  · exact trivial
  · exact k
theorem b3_13 {d : Nat} {Φ : Option pe_V → pe_H → Prop} {σ : pe_H} {o0 : Option pe_V}    (k : pe_X d 3 (14, [o0], [.inl 0], σ) Φ) : pe_X d 3 (13, [o0], [], σ) Φ := by
  refine pe_blk 6 1 ck3 [] (14, [o0], [.inl 0], σ) rfl ?_ ?_
  · exact trivial
  · exact k
theorem b3_14 {d : Nat} {Φ : Option pe_V → pe_H → Prop} {σ : pe_H} {o0 : Option pe_V} {s0 : Int}   (h0 : s0 = 0 ∨ s0 = 1 := by first | assumption | omega) (k : Φ (some (.inl s0)) σ) : pe_X d 3 (14, [o0], [.inl s0], σ) Φ := by
  exact pe_fine 7 ck3 rfl rfl rfl h0 k
-- StepMachines$Coroutine.canGo()Z
def T4 : List (Nat × Instr × Nat) := [(0, .aload_n 0, 1), (1, .getfield 26, 3), (4, .iconst 2, 1), (5, .if_icmp .gt 7, 3), (8, .iconst 1, 1), (9, .goto 4, 3), (12, .iconst 0, 1), (13, .ireturn, 1)]
theorem ck4 : pe_ctx 4 0 false (some .boolean) 1 T4 := ⟨rfl, rfl, rfl, rfl, by decide +kernel, by decide, by decide⟩
theorem b4_0 {d : Nat} {Φ : Option pe_V → pe_H → Prop} {σ : pe_H} {a0 : Nat} (f_a0 : pk_Fo a0 σ := by assumption) (w0 : pe_in (pe_I σ a0 2) := by unfold pe_in; omega)  (k1 : 2 < (pe_I σ a0 2) → pe_X d 4 (12, [some (.inr (.inr a0))], [], σ) Φ) (k2 : ¬ (2 < (pe_I σ a0 2)) → pe_X d 4 (8, [some (.inr (.inr a0))], [], σ) Φ) : pe_X d 4 (0, [some (.inr (.inr a0))], [], σ) Φ := by
  refine pe_blk 0 4 ck4 [pe_K σ a0 = 0] (cond (decide ((pe_w 2) < (pe_w (pe_I σ a0 2)))) 12 8, [some (.inr (.inr a0))], [], σ) rfl ?_ ?_
  · first
    | (simp (disch := omega) only [pe_all, pe_wi w0, pe_wi (x := 2) ⟨by decide, by decide⟩, pe_K_wI, pe_K_wR, pk_oK f_a0]; done)
    | (simp (disch := omega) only [pe_all, pe_wi w0, pe_wi (x := 2) ⟨by decide, by decide⟩, pe_K_wI, pe_K_wR, pk_oK f_a0]; (repeat' apply And.intro) <;> first | assumption | omega | decide)
  · try simp (disch := omega) only [pe_wi w0, pe_wi (x := 2) ⟨by decide, by decide⟩, pe_K_wI, pe_K_wR, pk_oK f_a0]
    exact pe_two k1 k2
theorem b4_8 {d : Nat} {Φ : Option pe_V → pe_H → Prop} {σ : pe_H} {o0 : Option pe_V}    (k : pe_X d 4 (13, [o0], [.inl 1], σ) Φ) : pe_X d 4 (8, [o0], [], σ) Φ := by
  refine pe_blk 4 2 ck4 [] (13, [o0], [.inl 1], σ) rfl ?_ ?_
  · exact trivial
  · exact k
theorem b4_12 {d : Nat} {Φ : Option pe_V → pe_H → Prop} {σ : pe_H} {o0 : Option pe_V}    (k : pe_X d 4 (13, [o0], [.inl 0], σ) Φ) : pe_X d 4 (12, [o0], [], σ) Φ := by
  refine pe_blk 6 1 ck4 [] (13, [o0], [.inl 0], σ) rfl ?_ ?_
  · exact trivial
  · exact k
theorem b4_13 {d : Nat} {Φ : Option pe_V → pe_H → Prop} {σ : pe_H} {o0 : Option pe_V} {s0 : Int}   (h0 : s0 = 0 ∨ s0 = 1 := by first | assumption | omega) (k : Φ (some (.inl s0)) σ) : pe_X d 4 (13, [o0], [.inl s0], σ) Φ := by
  exact pe_fine 7 ck4 rfl rfl rfl h0 k
-- StepMachines$Coroutine.takeIn(I)V
def T5 : List (Nat × Instr × Nat) := [(0, .aload_n 0, 1), (1, .getfield 26, 3), (4, .iconst 2, 1), (5, .if_icmp .ne 19, 3), (8, .aload_n 0, 1), (9, .aload_n 0, 1), (10, .getfield 22, 3), (13, .iload_n 1, 1), (14, .aload_n 0, 1), (15, .getfield 29, 3), (18, .invokevirtual 58, 3), (21, .putfield 29, 3), (24, .aload_n 0, 1), (25, .iconst 1, 1), (26, .putfield 26, 3), (29, .return_, 1)]
theorem ck5 : pe_ctx 5 0 false none 2 T5 := ⟨rfl, rfl, rfl, rfl, by decide +kernel, by decide, by decide⟩
theorem b5_0 {d : Nat} {Φ : Option pe_V → pe_H → Prop} {σ : pe_H} {a0 : Nat} {x1 : Int} (f_a0 : pk_Fo a0 σ := by assumption) (w0 : pe_in (pe_I σ a0 2) := by unfold pe_in; omega)  (k1 : ¬ (pe_I σ a0 2) = 2 → pe_X d 5 (24, [some (.inr (.inr a0)), some (.inl x1)], [], σ) Φ) (k2 : (pe_I σ a0 2) = 2 → pe_X d 5 (8, [some (.inr (.inr a0)), some (.inl x1)], [], σ) Φ) : pe_X d 5 (0, [some (.inr (.inr a0)), some (.inl x1)], [], σ) Φ := by
  refine pe_blk 0 4 ck5 [pe_K σ a0 = 0] (cond (decide (¬ (pe_w (pe_I σ a0 2)) = (pe_w 2))) 24 8, [some (.inr (.inr a0)), some (.inl x1)], [], σ) rfl ?_ ?_
  · first
    | (simp (disch := omega) only [pe_all, pe_wi w0, pe_wi (x := 2) ⟨by decide, by decide⟩, pe_K_wI, pe_K_wR, pk_oK f_a0]; done)
    | (simp (disch := omega) only [pe_all, pe_wi w0, pe_wi (x := 2) ⟨by decide, by decide⟩, pe_K_wI, pe_K_wR, pk_oK f_a0]; (repeat' apply And.intro) <;> first | assumption | omega | decide)
  · try simp (disch := omega) only [pe_wi w0, pe_wi (x := 2) ⟨by decide, by decide⟩, pe_K_wI, pe_K_wR, pk_oK f_a0]
    exact pe_two' k1 k2
theorem b5_8 {d : Nat} {Φ : Option pe_V → pe_H → Prop} {σ : pe_H} {a0 : Nat} {x1 : Int} (f_a0 : pk_Fo a0 σ := by assumption)  (h0 : pe_K σ (pe_R σ a0 1) = 3 := by first | assumption | omega) (k : pe_M d 44 [.inr (.inr (pe_R σ a0 1)), .inl x1, .inl (pe_I σ a0 3)] σ (fun r σ' => pe_X d 5 (21, [some (.inr (.inr a0)), some (.inl x1)], r.toList ++ [.inr (.inr a0)], σ') Φ)) : pe_X d 5 (8, [some (.inr (.inr a0)), some (.inl x1)], [], σ) Φ := by
  refine pe_blk 4 6 ck5 [pe_K σ a0 = 0, pe_K σ a0 = 0] (18, [some (.inr (.inr a0)), some (.inl x1)], [.inl (pe_I σ a0 3), .inl x1, .inr (.inr (pe_R σ a0 1)), .inr (.inr a0)], σ) rfl ?_ ?_
  · first
    | (simp (disch := omega) only [pe_all, pe_K_wI, pe_K_wR, pk_oK f_a0]; done)
    | (simp (disch := omega) only [pe_all, pe_K_wI, pe_K_wR, pk_oK f_a0]; (repeat' apply And.intro) <;> first | assumption | omega | decide)
  · try simp (disch := omega) only [pe_K_wI, pe_K_wR, pk_oK f_a0]
    have hrc : pe_K σ (pe_R σ a0 1) = 3 := by first | assumption | (simp (disch := omega) only [pe_K_wI, pe_K_wR, pk_oK f_a0]; done) | (simp (disch := omega) only [pe_K_wI, pe_K_wR, pk_oK f_a0]; assumption)
    exact pe_cal 10 ck5 rfl rfl rfl ⟨hrc, by decide⟩ k
theorem b5_21 {d : Nat} {Φ : Option pe_V → pe_H → Prop} {σ : pe_H} {a0 : Nat} {o1 : Option pe_V} {b0 : Nat} {s1 : Int} (f_a0 : pk_Fo a0 σ := by assumption) (f_b0 : pk_Fo b0 σ := by assumption)   (k : pe_X d 5 (24, [some (.inr (.inr a0)), o1], [], pe_wI σ b0 3 s1) Φ) : pe_X d 5 (21, [some (.inr (.inr a0)), o1], [.inl s1, .inr (.inr b0)], σ) Φ := by
  refine pe_blk 11 1 ck5 [pe_K σ b0 = 0] (24, [some (.inr (.inr a0)), o1], [], pe_wI σ b0 3 s1) rfl ?_ ?_
  · first
    | (simp (disch := omega) only [pe_all, pe_K_wI, pe_K_wR, pk_oK f_b0]; done)
    | (simp (disch := omega) only [pe_all, pe_K_wI, pe_K_wR, pk_oK f_b0]; (repeat' apply And.intro) <;> first | assumption | omega | decide)
  · try simp (disch := omega) only [pe_K_wI, pe_K_wR, pk_oK f_b0]
    exact k
theorem b5_24 {d : Nat} {Φ : Option pe_V → pe_H → Prop} {σ : pe_H} {a0 : Nat} {o1 : Option pe_V} (f_a0 : pk_Fo a0 σ := by assumption)   (k : Φ none (pe_wI σ a0 2 1)) : pe_X d 5 (24, [some (.inr (.inr a0)), o1], [], σ) Φ := by
  refine pe_blk 12 3 ck5 [pe_K σ a0 = 0] (29, [some (.inr (.inr a0)), o1], [], pe_wI σ a0 2 1) rfl ?_ ?_
  · first
    | (simp (disch := omega) only [pe_all, pe_K_wI, pe_K_wR, pk_oK f_a0]; done)
    | (simp (disch := omega) only [pe_all, pe_K_wI, pe_K_wR, pk_oK f_a0]; (repeat' apply And.intro) <;> first | assumption | omega | decide)
  · try simp (disch := omega) only [pe_K_wI, pe_K_wR, pk_oK f_a0]
    exact pe_fine 15 ck5 rfl rfl rfl trivial k
-- StepMachines$Coroutine.growOlder()V
def T6 : List (Nat × Instr × Nat) := [(0, .aload_n 0, 1), (1, .getfield 38, 3), (4, .sipush 999, 3), (7, .if_icmp .ge 13, 3), (10, .aload_n 0, 1), (11, .dup, 1), (12, .getfield 38, 3), (15, .iconst 1, 1), (16, .iadd, 1), (17, .putfield 38, 3), (20, .return_, 1)]
theorem ck6 : pe_ctx 6 0 false none 1 T6 := ⟨rfl, rfl, rfl, rfl, by decide +kernel, by decide, by decide⟩
theorem b6_0 {d : Nat} {Φ : Option pe_V → pe_H → Prop} {σ : pe_H} {a0 : Nat} (f_a0 : pk_Fo a0 σ := by assumption) (w0 : pe_in (pe_I σ a0 6) := by unfold pe_in; omega)  (k1 : 999 ≤ (pe_I σ a0 6) → pe_X d 6 (20, [some (.inr (.inr a0))], [], σ) Φ) (k2 : ¬ (999 ≤ (pe_I σ a0 6)) → pe_X d 6 (10, [some (.inr (.inr a0))], [], σ) Φ) : pe_X d 6 (0, [some (.inr (.inr a0))], [], σ) Φ := by
  refine pe_blk 0 4 ck6 [pe_K σ a0 = 0] (cond (decide ((pe_w 999) ≤ (pe_w (pe_I σ a0 6)))) 20 10, [some (.inr (.inr a0))], [], σ) rfl ?_ ?_
  · first
    | (simp (disch := omega) only [pe_all, pe_wi w0, pe_wi (x := 999) ⟨by decide, by decide⟩, pe_K_wI, pe_K_wR, pk_oK f_a0]; done)
    | (simp (disch := omega) only [pe_all, pe_wi w0, pe_wi (x := 999) ⟨by decide, by decide⟩, pe_K_wI, pe_K_wR, pk_oK f_a0]; (repeat' apply And.intro) <;> first | assumption | omega | decide)
  · try simp (disch := omega) only [pe_wi w0, pe_wi (x := 999) ⟨by decide, by decide⟩, pe_K_wI, pe_K_wR, pk_oK f_a0]
    exact pe_two k1 k2
theorem b6_10 {d : Nat} {Φ : Option pe_V → pe_H → Prop} {σ : pe_H} {a0 : Nat} (f_a0 : pk_Fo a0 σ := by assumption)   (k : pe_X d 6 (20, [some (.inr (.inr a0))], [], pe_wI σ a0 6 ((pe_I σ a0 6) + 1)) Φ) : pe_X d 6 (10, [some (.inr (.inr a0))], [], σ) Φ := by
  refine pe_blk 4 6 ck6 [pe_K σ a0 = 0, pe_K σ a0 = 0] (20, [some (.inr (.inr a0))], [], pe_wI σ a0 6 ((pe_I σ a0 6) + 1)) rfl ?_ ?_
  · first
    | (simp (disch := omega) only [pe_all, pe_K_wI, pe_K_wR, pk_oK f_a0]; done)
    | (simp (disch := omega) only [pe_all, pe_K_wI, pe_K_wR, pk_oK f_a0]; (repeat' apply And.intro) <;> first | assumption | omega | decide)
  · try simp (disch := omega) only [pe_K_wI, pe_K_wR, pk_oK f_a0]
    exact k
theorem b6_20 {d : Nat} {Φ : Option pe_V → pe_H → Prop} {σ : pe_H} {o0 : Option pe_V}    (k : Φ none σ) : pe_X d 6 (20, [o0], [], σ) Φ := by
  exact pe_fine 10 ck6 rfl rfl rfl trivial k
-- StepMachines$Coroutine.waitFor(II)V
def T7 : List (Nat × Instr × Nat) := [(0, .aload_n 0, 1), (1, .iload_n 2, 1), (2, .putfield 26, 3), (5, .aload_n 0, 1), (6, .iload_n 1, 1), (7, .putfield 41, 3), (10, .return_, 1)]
theorem ck7 : pe_ctx 7 0 false none 3 T7 := ⟨rfl, rfl, rfl, rfl, by decide +kernel, by decide, by decide⟩
theorem b7_0 {d : Nat} {Φ : Option pe_V → pe_H → Prop} {σ : pe_H} {a0 : Nat} {x1 : Int} {x2 : Int} (f_a0 : pk_Fo a0 σ := by assumption)   (k : Φ none (pe_wI (pe_wI σ a0 2 x2) a0 7 x1)) : pe_X d 7 (0, [some (.inr (.inr a0)), some (.inl x1), some (.inl x2)], [], σ) Φ := by
  refine pe_blk 0 6 ck7 [pe_K σ a0 = 0, pe_K (pe_wI σ a0 2 x2) a0 = 0] (10, [some (.inr (.inr a0)), some (.inl x1), some (.inl x2)], [], pe_wI (pe_wI σ a0 2 x2) a0 7 x1) rfl ?_ ?_
  · first
    | (simp (disch := omega) only [pe_all, pe_K_wI, pe_K_wR, pk_oK f_a0]; done)
    | (simp (disch := omega) only [pe_all, pe_K_wI, pe_K_wR, pk_oK f_a0]; (repeat' apply And.intro) <;> first | assumption | omega | decide)
  · try simp (disch := omega) only [pe_K_wI, pe_K_wR, pk_oK f_a0]
    exact pe_fine 6 ck7 rfl rfl rfl trivial k
-- StepMachines$Coroutine.goOn()V
def T8 : List (Nat × Instr × Nat) := [(0, .aload_n 0, 1), (1, .iconst 1, 1), (2, .putfield 26, 3), (5, .aload_n 0, 1), (6, .bipush (-4), 2), (8, .putfield 41, 3), (11, .return_, 1)]
theorem ck8 : pe_ctx 8 0 false none 1 T8 := ⟨rfl, rfl, rfl, rfl, by decide +kernel, by decide, by decide⟩
theorem b8_0 {d : Nat} {Φ : Option pe_V → pe_H → Prop} {σ : pe_H} {a0 : Nat} (f_a0 : pk_Fo a0 σ := by assumption)   (k : Φ none (pe_wI (pe_wI σ a0 2 1) a0 7 (-4))) : pe_X d 8 (0, [some (.inr (.inr a0))], [], σ) Φ := by
  refine pe_blk 0 6 ck8 [pe_K σ a0 = 0, pe_K (pe_wI σ a0 2 1) a0 = 0] (11, [some (.inr (.inr a0))], [], pe_wI (pe_wI σ a0 2 1) a0 7 (-4)) rfl ?_ ?_
  · first
    | (simp (disch := omega) only [pe_all, pe_K_wI, pe_K_wR, pk_oK f_a0]; done)
    | (simp (disch := omega) only [pe_all, pe_K_wI, pe_K_wR, pk_oK f_a0]; (repeat' apply And.intro) <;> first | assumption | omega | decide)
  · try simp (disch := omega) only [pe_K_wI, pe_K_wR, pk_oK f_a0]
    exact pe_fine 6 ck8 rfl rfl rfl trivial k
-- StepMachines$Coroutine.figureTold(I)I
def T9 : List (Nat × Instr × Nat) := [(0, .iload_n 1, 1), (1, .tableswitch 51 0 3 #[31, 36, 41, 46], 31), (32, .aload_n 0, 1), (33, .getfield 26, 3), (36, .ireturn, 1), (37, .aload_n 0, 1), (38, .getfield 29, 3), (41, .ireturn, 1), (42, .aload_n 0, 1), (43, .getfield 32, 3), (46, .ireturn, 1), (47, .aload_n 0, 1), (48, .getfield 35, 3), (51, .ireturn, 1), (52, .aload_n 0, 1), (53, .getfield 38, 3), (56, .ireturn, 1)]
theorem ck9 : pe_ctx 9 0 false (some .int) 2 T9 := ⟨rfl, rfl, rfl, rfl, by decide +kernel, by decide, by decide⟩
theorem b9_0 {d : Nat} {Φ : Option pe_V → pe_H → Prop} {σ : pe_H} {a0 : Nat} {x1 : Int} (f_a0 : pk_Fo a0 σ := by assumption) (w0 : pe_in x1 := by unfold pe_in; omega)  (k0 : x1 = 0 → pe_X d 9 (32, [some (.inr (.inr a0)), some (.inl x1)], [], σ) Φ) (k1 : x1 = 1 → pe_X d 9 (37, [some (.inr (.inr a0)), some (.inl x1)], [], σ) Φ) (k2 : x1 = 2 → pe_X d 9 (42, [some (.inr (.inr a0)), some (.inl x1)], [], σ) Φ) (k3 : x1 = 3 → pe_X d 9 (47, [some (.inr (.inr a0)), some (.inl x1)], [], σ) Φ) (kd : ¬ x1 = 0 → ¬ x1 = 1 → ¬ x1 = 2 → ¬ x1 = 3 → pe_X d 9 (52, [some (.inr (.inr a0)), some (.inl x1)], [], σ) Φ) : pe_X d 9 (0, [some (.inr (.inr a0)), some (.inl x1)], [], σ) Φ := by
  refine pe_blk 0 2 ck9 [] ((((1 : Nat) : Int) + pe_sw 51 [(0, 31), (1, 36), (2, 41), (3, 46)] (pe_w x1)).toNat, [some (.inr (.inr a0)), some (.inl x1)], [], σ) rfl ?_ ?_
  · exact trivial
  · try simp (disch := omega) only [pe_wi w0]
    by_cases q0 : x1 = 0
    · have e : pe_sw 51 [(0, 31), (1, 36), (2, 41), (3, 46)] x1 = 31 := by rw [q0]; rfl
      rw [e]; exact k0 q0
    by_cases q1 : x1 = 1
    · have e : pe_sw 51 [(0, 31), (1, 36), (2, 41), (3, 46)] x1 = 36 := by rw [q1]; rfl
      rw [e]; exact k1 q1
    by_cases q2 : x1 = 2
    · have e : pe_sw 51 [(0, 31), (1, 36), (2, 41), (3, 46)] x1 = 41 := by rw [q2]; rfl
      rw [e]; exact k2 q2
    by_cases q3 : x1 = 3
    · have e : pe_sw 51 [(0, 31), (1, 36), (2, 41), (3, 46)] x1 = 46 := by rw [q3]; rfl
      rw [e]; exact k3 q3
    have e : pe_sw 51 [(0, 31), (1, 36), (2, 41), (3, 46)] x1 = 51 := by simp only [pe_sw, if_neg q0, if_neg q1, if_neg q2, if_neg q3]
    rw [e]; exact kd q0 q1 q2 q3
theorem b9_32 {d : Nat} {Φ : Option pe_V → pe_H → Prop} {σ : pe_H} {a0 : Nat} {o1 : Option pe_V} (f_a0 : pk_Fo a0 σ := by assumption)   (k : Φ (some (.inl (pe_I σ a0 2))) σ) : pe_X d 9 (32, [some (.inr (.inr a0)), o1], [], σ) Φ := by
  refine pe_blk 2 2 ck9 [pe_K σ a0 = 0] (36, [some (.inr (.inr a0)), o1], [.inl (pe_I σ a0 2)], σ) rfl ?_ ?_
  · first
    | (simp (disch := omega) only [pe_all, pe_K_wI, pe_K_wR, pk_oK f_a0]; done)
    | (simp (disch := omega) only [pe_all, pe_K_wI, pe_K_wR, pk_oK f_a0]; (repeat' apply And.intro) <;> first | assumption | omega | decide)
  · try simp (disch := omega) only [pe_K_wI, pe_K_wR, pk_oK f_a0]
    exact pe_fine 4 ck9 rfl rfl rfl trivial k
theorem b9_37 {d : Nat} {Φ : Option pe_V → pe_H → Prop} {σ : pe_H} {a0 : Nat} {o1 : Option pe_V} (f_a0 : pk_Fo a0 σ := by assumption)   (k : Φ (some (.inl (pe_I σ a0 3))) σ) : pe_X d 9 (37, [some (.inr (.inr a0)), o1], [], σ) Φ := by
  refine pe_blk 5 2 ck9 [pe_K σ a0 = 0] (41, [some (.inr (.inr a0)), o1], [.inl (pe_I σ a0 3)], σ) rfl ?_ ?_
  · first
    | (simp (disch := omega) only [pe_all, pe_K_wI, pe_K_wR, pk_oK f_a0]; done)
    | (simp (disch := omega) only [pe_all, pe_K_wI, pe_K_wR, pk_oK f_a0]; (repeat' apply And.intro) <;> first | assumption | omega | decide)
  · try simp (disch := omega) only [pe_K_wI, pe_K_wR, pk_oK f_a0]
    exact pe_fine 7 ck9 rfl rfl rfl trivial k
theorem b9_42 {d : Nat} {Φ : Option pe_V → pe_H → Prop} {σ : pe_H} {a0 : Nat} {o1 : Option pe_V} (f_a0 : pk_Fo a0 σ := by assumption)   (k : Φ (some (.inl (pe_I σ a0 4))) σ) : pe_X d 9 (42, [some (.inr (.inr a0)), o1], [], σ) Φ := by
  refine pe_blk 8 2 ck9 [pe_K σ a0 = 0] (46, [some (.inr (.inr a0)), o1], [.inl (pe_I σ a0 4)], σ) rfl ?_ ?_
  · first
    | (simp (disch := omega) only [pe_all, pe_K_wI, pe_K_wR, pk_oK f_a0]; done)
    | (simp (disch := omega) only [pe_all, pe_K_wI, pe_K_wR, pk_oK f_a0]; (repeat' apply And.intro) <;> first | assumption | omega | decide)
  · try simp (disch := omega) only [pe_K_wI, pe_K_wR, pk_oK f_a0]
    exact pe_fine 10 ck9 rfl rfl rfl trivial k
theorem b9_47 {d : Nat} {Φ : Option pe_V → pe_H → Prop} {σ : pe_H} {a0 : Nat} {o1 : Option pe_V} (f_a0 : pk_Fo a0 σ := by assumption)   (k : Φ (some (.inl (pe_I σ a0 5))) σ) : pe_X d 9 (47, [some (.inr (.inr a0)), o1], [], σ) Φ := by
  refine pe_blk 11 2 ck9 [pe_K σ a0 = 0] (51, [some (.inr (.inr a0)), o1], [.inl (pe_I σ a0 5)], σ) rfl ?_ ?_
  · first
    | (simp (disch := omega) only [pe_all, pe_K_wI, pe_K_wR, pk_oK f_a0]; done)
    | (simp (disch := omega) only [pe_all, pe_K_wI, pe_K_wR, pk_oK f_a0]; (repeat' apply And.intro) <;> first | assumption | omega | decide)
  · try simp (disch := omega) only [pe_K_wI, pe_K_wR, pk_oK f_a0]
    exact pe_fine 13 ck9 rfl rfl rfl trivial k
theorem b9_52 {d : Nat} {Φ : Option pe_V → pe_H → Prop} {σ : pe_H} {a0 : Nat} {o1 : Option pe_V} (f_a0 : pk_Fo a0 σ := by assumption)   (k : Φ (some (.inl (pe_I σ a0 6))) σ) : pe_X d 9 (52, [some (.inr (.inr a0)), o1], [], σ) Φ := by
  refine pe_blk 14 2 ck9 [pe_K σ a0 = 0] (56, [some (.inr (.inr a0)), o1], [.inl (pe_I σ a0 6)], σ) rfl ?_ ?_
  · first
    | (simp (disch := omega) only [pe_all, pe_K_wI, pe_K_wR, pk_oK f_a0]; done)
    | (simp (disch := omega) only [pe_all, pe_K_wI, pe_K_wR, pk_oK f_a0]; (repeat' apply And.intro) <;> first | assumption | omega | decide)
  · try simp (disch := omega) only [pe_K_wI, pe_K_wR, pk_oK f_a0]
    exact pe_fine 16 ck9 rfl rfl rfl trivial k
-- StepMachines$Coroutine.closeTop()V
def T10 : List (Nat × Instr × Nat) := [(0, .aload_n 0, 1), (1, .getfield 47, 3), (4, .ifCond .le 88, 3), (7, .aload_n 0, 1), (8, .getfield 11, 3), (11, .aload_n 0, 1), (12, .getfield 47, 3), (15, .iconst 1, 1), (16, .isub, 1), (17, .aaload, 1), (18, .astore_n 1, 1), (19, .aload_n 1, 1), (20, .getfield 64, 3), (23, .ifCond .eq 18, 3), (26, .aload_n 1, 1), (27, .getfield 68, 3), (30, .bipush (-2), 2), (32, .if_icmp .ne 8, 3), (35, .aload_n 1, 1), (36, .iconst (-1), 1), (37, .putfield 68, 3), (40, .return_, 1), (41, .aload_n 1, 1), (42, .getfield 71, 3), (45, .getfield 74, 3), (48, .aload_n 1, 1), (49, .getfield 79, 3), (52, .if_icmp .lt 27, 3), (55, .aload_n 1, 1), (56, .iconst (-1), 1), (57, .putfield 68, 3), (60, .aload_n 1, 1), (61, .iconst 1, 1), (62, .putfield 64, 3), (65, .aload_n 1, 1), (66, .aload_n 1, 1), (67, .getfield 71, 3), (70, .getfield 74, 3), (73, .iconst 1, 1), (74, .iadd, 1), (75, .putfield 79, 3), (78, .return_, 1), (79, .aload_n 0, 1), (80, .dup, 1), (81, .getfield 47, 3), (84, .iconst 1, 1), (85, .isub, 1), (86, .putfield 47, 3), (89, .goto (-89), 3), (92, .aload_n 0, 1), (93, .bipush 8, 2), (95, .putfield 26, 3), (98, .return_, 1)]
theorem ck10 : pe_ctx 10 0 false none 2 T10 := ⟨rfl, rfl, rfl, rfl, by decide +kernel, by decide, by decide⟩
theorem b10_0 {d : Nat} {Φ : Option pe_V → pe_H → Prop} {σ : pe_H} {a0 : Nat} {o1 : Option pe_V} (f_a0 : pk_Fo a0 σ := by assumption) (w0 : pe_in (pe_I σ a0 9) := by unfold pe_in; omega)  (k1 : (pe_I σ a0 9) ≤ 0 → pe_X d 10 (92, [some (.inr (.inr a0)), o1], [], σ) Φ) (k2 : ¬ ((pe_I σ a0 9) ≤ 0) → pe_X d 10 (7, [some (.inr (.inr a0)), o1], [], σ) Φ) : pe_X d 10 (0, [some (.inr (.inr a0)), o1], [], σ) Φ := by
  refine pe_blk 0 3 ck10 [pe_K σ a0 = 0] (cond (decide ((pe_w (pe_I σ a0 9)) ≤ 0)) 92 7, [some (.inr (.inr a0)), o1], [], σ) rfl ?_ ?_
  · first
    | (simp (disch := omega) only [pe_all, pe_wi w0, pe_K_wI, pe_K_wR, pk_oK f_a0]; done)
    | (simp (disch := omega) only [pe_all, pe_wi w0, pe_K_wI, pe_K_wR, pk_oK f_a0]; (repeat' apply And.intro) <;> first | assumption | omega | decide)
  · try simp (disch := omega) only [pe_wi w0, pe_K_wI, pe_K_wR, pk_oK f_a0]
    exact pe_two k1 k2
theorem b10_7 {d : Nat} {Φ : Option pe_V → pe_H → Prop} {σ : pe_H} {a0 : Nat} {o1 : Option pe_V} (f_a0 : pk_Fo a0 σ := by assumption) (w0 : pe_in ((pe_I σ a0 9) - 1) := by unfold pe_in; omega) (w1 : pe_in (pe_I σ (pk_f a0 ((pe_I σ a0 9) - 1)) 4) := by unfold pe_in; omega) (h0 : 0 ≤ ((pe_I σ a0 9) - 1) := by first | assumption | omega) (h1 : ((pe_I σ a0 9) - 1) < 6 := by first | assumption | omega) (k1 : (pe_I σ (pk_f a0 ((pe_I σ a0 9) - 1)) 4) = 0 → pe_X d 10 (41, [some (.inr (.inr a0)), some (.inr (.inr (pk_f a0 ((pe_I σ a0 9) - 1))))], [], σ) Φ) (k2 : ¬ ((pe_I σ (pk_f a0 ((pe_I σ a0 9) - 1)) 4) = 0) → pe_X d 10 (26, [some (.inr (.inr a0)), some (.inr (.inr (pk_f a0 ((pe_I σ a0 9) - 1))))], [], σ) Φ) : pe_X d 10 (7, [some (.inr (.inr a0)), o1], [], σ) Φ := by
  refine pe_blk 3 11 ck10 [pe_K σ a0 = 0, pe_K σ a0 = 0, 12 ≤ pe_K σ (pe_R σ a0 10) ∧ pe_K σ (pe_R σ a0 10) < 19, 0 ≤ (pe_w ((pe_I σ a0 9) - 1)), (pe_w ((pe_I σ a0 9) - 1)) < pe_L σ (pe_R σ a0 10), pe_K σ (pe_R σ (pe_R σ a0 10) (pe_w ((pe_I σ a0 9) - 1))) = 1] (cond (decide ((pe_w (pe_I σ (pe_R σ (pe_R σ a0 10) (pe_w ((pe_I σ a0 9) - 1))) 4)) = 0)) 41 26, [some (.inr (.inr a0)), some (.inr (.inr (pe_R σ (pe_R σ a0 10) (pe_w ((pe_I σ a0 9) - 1)))))], [], σ) rfl ?_ ?_
  · first
    | (simp (disch := omega) only [pe_all, pe_wi w0, pe_wi w1, pe_K_wI, pe_K_wR, pe_L_wI, pe_L_wR, pe_R_nej, pe_R_ner, pe_R_wI, pk_oE f_a0 (i := (pe_I σ a0 9) - 1) (by omega) (by omega), pk_oEK f_a0 (i := (pe_I σ a0 9) - 1) (by omega) (by omega), pk_oK f_a0, pk_oK1 f_a0, pk_oL1 f_a0, pk_oR f_a0]; done)
    | (simp (disch := omega) only [pe_all, pe_wi w0, pe_wi w1, pe_K_wI, pe_K_wR, pe_L_wI, pe_L_wR, pe_R_nej, pe_R_ner, pe_R_wI, pk_oE f_a0 (i := (pe_I σ a0 9) - 1) (by omega) (by omega), pk_oEK f_a0 (i := (pe_I σ a0 9) - 1) (by omega) (by omega), pk_oK f_a0, pk_oK1 f_a0, pk_oL1 f_a0, pk_oR f_a0]; (repeat' apply And.intro) <;> first | assumption | omega | decide)
  · try simp (disch := omega) only [pe_wi w0, pe_wi w1, pe_K_wI, pe_K_wR, pe_L_wI, pe_L_wR, pe_R_nej, pe_R_ner, pe_R_wI, pk_oE f_a0 (i := (pe_I σ a0 9) - 1) (by omega) (by omega), pk_oEK f_a0 (i := (pe_I σ a0 9) - 1) (by omega) (by omega), pk_oK f_a0, pk_oK1 f_a0, pk_oL1 f_a0, pk_oR f_a0]
    exact pe_two k1 k2
theorem b10_26 {d : Nat} {Φ : Option pe_V → pe_H → Prop} {σ : pe_H} {o0 : Option pe_V} {a1 : Nat}  (w0 : pe_in (pe_I σ a1 5) := by unfold pe_in; omega) (h0 : pe_K σ a1 = 1 := by first | assumption | omega) (k1 : ¬ (pe_I σ a1 5) = (-2) → pe_X d 10 (40, [o0, some (.inr (.inr a1))], [], σ) Φ) (k2 : (pe_I σ a1 5) = (-2) → pe_X d 10 (35, [o0, some (.inr (.inr a1))], [], σ) Φ) : pe_X d 10 (26, [o0, some (.inr (.inr a1))], [], σ) Φ := by
  refine pe_blk 14 4 ck10 [pe_K σ a1 = 1] (cond (decide (¬ (pe_w (pe_I σ a1 5)) = (pe_w (-2)))) 40 35, [o0, some (.inr (.inr a1))], [], σ) rfl ?_ ?_
  · first
    | (simp (disch := omega) only [pe_all, pe_wi w0, pe_wi (x := (-2)) ⟨by decide, by decide⟩, pe_K_wI, pe_K_wR]; done)
    | (simp (disch := omega) only [pe_all, pe_wi w0, pe_wi (x := (-2)) ⟨by decide, by decide⟩, pe_K_wI, pe_K_wR]; (repeat' apply And.intro) <;> first | assumption | omega | decide)
  · try simp (disch := omega) only [pe_wi w0, pe_wi (x := (-2)) ⟨by decide, by decide⟩, pe_K_wI, pe_K_wR]
    exact pe_two' k1 k2
theorem b10_35 {d : Nat} {Φ : Option pe_V → pe_H → Prop} {σ : pe_H} {o0 : Option pe_V} {a1 : Nat}   (h0 : pe_K σ a1 = 1 := by first | assumption | omega) (k : pe_X d 10 (40, [o0, some (.inr (.inr a1))], [], pe_wI σ a1 5 (-1)) Φ) : pe_X d 10 (35, [o0, some (.inr (.inr a1))], [], σ) Φ := by
  refine pe_blk 18 3 ck10 [pe_K σ a1 = 1] (40, [o0, some (.inr (.inr a1))], [], pe_wI σ a1 5 (-1)) rfl ?_ ?_
  · first
    | (simp (disch := omega) only [pe_all, pe_K_wI, pe_K_wR]; done)
    | (simp (disch := omega) only [pe_all, pe_K_wI, pe_K_wR]; (repeat' apply And.intro) <;> first | assumption | omega | decide)
  · try simp (disch := omega) only [pe_K_wI, pe_K_wR]
    exact k
theorem b10_40 {d : Nat} {Φ : Option pe_V → pe_H → Prop} {σ : pe_H} {o0 : Option pe_V} {o1 : Option pe_V}    (k : Φ none σ) : pe_X d 10 (40, [o0, o1], [], σ) Φ := by
  exact pe_fine 21 ck10 rfl rfl rfl trivial k
theorem b10_41 {d : Nat} {Φ : Option pe_V → pe_H → Prop} {σ : pe_H} {a0 : Nat} {a1 : Nat} (f_a0 : pk_Fo a0 σ := by assumption) (w0 : pe_in (pe_I σ a1 2) := by unfold pe_in; omega) (w1 : pe_in (pe_I σ (pe_R σ a1 0) 1) := by unfold pe_in; omega) (h0 : pe_K σ a1 = 1 := by first | assumption | omega) (h1 : pe_K σ (pe_R σ a1 0) = 4 := by first | assumption | omega) (k1 : (pe_I σ (pe_R σ a1 0) 1) < (pe_I σ a1 2) → pe_X d 10 (79, [some (.inr (.inr a0)), some (.inr (.inr a1))], [], σ) Φ) (k2 : ¬ ((pe_I σ (pe_R σ a1 0) 1) < (pe_I σ a1 2)) → pe_X d 10 (55, [some (.inr (.inr a0)), some (.inr (.inr a1))], [], σ) Φ) : pe_X d 10 (41, [some (.inr (.inr a0)), some (.inr (.inr a1))], [], σ) Φ := by
  refine pe_blk 22 6 ck10 [pe_K σ a1 = 1, pe_K σ (pe_R σ a1 0) = 4, pe_K σ a1 = 1] (cond (decide ((pe_w (pe_I σ (pe_R σ a1 0) 1)) < (pe_w (pe_I σ a1 2)))) 79 55, [some (.inr (.inr a0)), some (.inr (.inr a1))], [], σ) rfl ?_ ?_
  · first
    | (simp (disch := omega) only [pe_all, pe_wi w0, pe_wi w1, pe_K_wI, pe_K_wR]; done)
    | (simp (disch := omega) only [pe_all, pe_wi w0, pe_wi w1, pe_K_wI, pe_K_wR]; (repeat' apply And.intro) <;> first | assumption | omega | decide)
  · try simp (disch := omega) only [pe_wi w0, pe_wi w1, pe_K_wI, pe_K_wR]
    exact pe_two k1 k2
theorem b10_55 {d : Nat} {Φ : Option pe_V → pe_H → Prop} {σ : pe_H} {o0 : Option pe_V} {a1 : Nat}   (h0 : pe_K σ a1 = 1 := by first | assumption | omega) (h1 : pe_K σ (pe_R σ a1 0) = 4 := by first | assumption | omega) (k : Φ none (pe_wI (pe_wI (pe_wI σ a1 5 (-1)) a1 4 1) a1 2 ((pe_I σ (pe_R σ a1 0) 1) + 1))) : pe_X d 10 (55, [o0, some (.inr (.inr a1))], [], σ) Φ := by
  refine pe_blk 28 13 ck10 [pe_K σ a1 = 1, pe_K (pe_wI σ a1 5 (-1)) a1 = 1, 1 = 0 ∨ 1 = 1, pe_K (pe_wI (pe_wI σ a1 5 (-1)) a1 4 1) a1 = 1, pe_K (pe_wI (pe_wI σ a1 5 (-1)) a1 4 1) (pe_R (pe_wI (pe_wI σ a1 5 (-1)) a1 4 1) a1 0) = 4, pe_K (pe_wI (pe_wI σ a1 5 (-1)) a1 4 1) a1 = 1] (78, [o0, some (.inr (.inr a1))], [], pe_wI (pe_wI (pe_wI σ a1 5 (-1)) a1 4 1) a1 2 ((pe_I (pe_wI (pe_wI σ a1 5 (-1)) a1 4 1) (pe_R (pe_wI (pe_wI σ a1 5 (-1)) a1 4 1) a1 0) 1) + 1)) rfl ?_ ?_
  · first
    | (simp (disch := omega) only [pe_all, pe_I_nej, pe_K_wI, pe_K_wR, pe_R_cpy, pe_R_wI]; done)
    | (simp (disch := omega) only [pe_all, pe_I_nej, pe_K_wI, pe_K_wR, pe_R_cpy, pe_R_wI]; (repeat' apply And.intro) <;> first | assumption | omega | decide)
  · try simp (disch := omega) only [pe_I_nej, pe_K_wI, pe_K_wR, pe_R_cpy, pe_R_wI]
    exact pe_fine 41 ck10 rfl rfl rfl trivial k
theorem b10_79 {d : Nat} {Φ : Option pe_V → pe_H → Prop} {σ : pe_H} {a0 : Nat} {o1 : Option pe_V} (f_a0 : pk_Fo a0 σ := by assumption)   (k : pe_X d 10 (0, [some (.inr (.inr a0)), o1], [], pe_wI σ a0 9 ((pe_I σ a0 9) - 1)) Φ) : pe_X d 10 (79, [some (.inr (.inr a0)), o1], [], σ) Φ := by
  refine pe_blk 42 7 ck10 [pe_K σ a0 = 0, pe_K σ a0 = 0] (0, [some (.inr (.inr a0)), o1], [], pe_wI σ a0 9 ((pe_I σ a0 9) - 1)) rfl ?_ ?_
  · first
    | (simp (disch := omega) only [pe_all, pe_K_wI, pe_K_wR, pk_oK f_a0]; done)
    | (simp (disch := omega) only [pe_all, pe_K_wI, pe_K_wR, pk_oK f_a0]; (repeat' apply And.intro) <;> first | assumption | omega | decide)
  · try simp (disch := omega) only [pe_K_wI, pe_K_wR, pk_oK f_a0]
    exact k
set_option maxRecDepth 8000 in
theorem b10_92 {d : Nat} {Φ : Option pe_V → pe_H → Prop} {σ : pe_H} {a0 : Nat} {o1 : Option pe_V} (f_a0 : pk_Fo a0 σ := by assumption)   (k : Φ none (pe_wI σ a0 2 8)) : pe_X d 10 (92, [some (.inr (.inr a0)), o1], [], σ) Φ := by
  refine pe_blk 49 3 ck10 [pe_K σ a0 = 0] (98, [some (.inr (.inr a0)), o1], [], pe_wI σ a0 2 8) rfl ?_ ?_
  · first
    | (simp (disch := omega) only [pe_all, pe_K_wI, pe_K_wR, pk_oK f_a0]; done)
    | (simp (disch := omega) only [pe_all, pe_K_wI, pe_K_wR, pk_oK f_a0]; (repeat' apply And.intro) <;> first | assumption | omega | decide)
  · try simp (disch := omega) only [pe_K_wI, pe_K_wR, pk_oK f_a0]
    exact pe_fine 52 ck10 rfl rfl rfl trivial k
-- StepMachines$Frame.<init>()V
def T11 : List (Nat × Instr × Nat) := [(0, .aload_n 0, 1), (1, .invokespecial 3, 3), (4, .return_, 1)]
theorem ck11 : pe_ctx 11 1 true none 1 T11 := ⟨rfl, rfl, rfl, rfl, by decide +kernel, by decide, by decide⟩
theorem b11_0 {d : Nat} {Φ : Option pe_V → pe_H → Prop} {σ : pe_H} {a0 : Nat}   (h0 : ¬ a0 = 0 := by first | assumption | omega) (k : Φ none σ) : pe_X d 11 (0, [some (.inr (.inr a0))], [], σ) Φ := by
  refine pe_blk 0 2 ck11 [¬ a0 = 0] (4, [some (.inr (.inr a0))], [], σ) rfl ?_ ?_
  · first
    | (simp (disch := omega) only [pe_all, ]; done)
    | (simp (disch := omega) only [pe_all, ]; (repeat' apply And.intro) <;> first | assumption | omega | decide)
  · exact pe_fine 2 ck11 rfl rfl rfl trivial k
-- StepMachines$Frame.begin(LStepMachines$Program;I)V
def T12 : List (Nat × Instr × Nat) := [(0, .aload_n 0, 1), (1, .aload_n 1, 1), (2, .putfield 9, 3), (5, .aload_n 0, 1), (6, .iload_n 2, 1), (7, .putfield 15, 3), (10, .aload_n 0, 1), (11, .iconst 0, 1), (12, .putfield 19, 3), (15, .aload_n 0, 1), (16, .iconst 0, 1), (17, .putfield 22, 3), (20, .aload_n 0, 1), (21, .iconst 0, 1), (22, .putfield 25, 3), (25, .aload_n 0, 1), (26, .bipush (-2), 2), (28, .putfield 29, 3), (31, .return_, 1)]
theorem ck12 : pe_ctx 12 1 false none 3 T12 := ⟨rfl, rfl, rfl, rfl, by decide +kernel, by decide, by decide⟩
theorem b12_0 {d : Nat} {Φ : Option pe_V → pe_H → Prop} {σ : pe_H} {a0 : Nat} {a1 : Nat} {x2 : Int}   (h0 : pe_K σ a0 = 1 := by first | assumption | omega) (k : Φ none (pe_wI (pe_wI (pe_wI (pe_wI (pe_wI (pe_wR σ a0 0 a1) a0 1 x2) a0 2 0) a0 3 0) a0 4 0) a0 5 (-2))) : pe_X d 12 (0, [some (.inr (.inr a0)), some (.inr (.inr a1)), some (.inl x2)], [], σ) Φ := by
  refine pe_blk 0 18 ck12 [pe_K σ a0 = 1, pe_K (pe_wR σ a0 0 a1) a0 = 1, pe_K (pe_wI (pe_wR σ a0 0 a1) a0 1 x2) a0 = 1, pe_K (pe_wI (pe_wI (pe_wR σ a0 0 a1) a0 1 x2) a0 2 0) a0 = 1, pe_K (pe_wI (pe_wI (pe_wI (pe_wR σ a0 0 a1) a0 1 x2) a0 2 0) a0 3 0) a0 = 1, 0 = 0 ∨ 0 = 1, pe_K (pe_wI (pe_wI (pe_wI (pe_wI (pe_wR σ a0 0 a1) a0 1 x2) a0 2 0) a0 3 0) a0 4 0) a0 = 1] (31, [some (.inr (.inr a0)), some (.inr (.inr a1)), some (.inl x2)], [], pe_wI (pe_wI (pe_wI (pe_wI (pe_wI (pe_wR σ a0 0 a1) a0 1 x2) a0 2 0) a0 3 0) a0 4 0) a0 5 (-2)) rfl ?_ ?_
  · first
    | (simp (disch := omega) only [pe_all, pe_K_wI, pe_K_wR]; done)
    | (simp (disch := omega) only [pe_all, pe_K_wI, pe_K_wR]; (repeat' apply And.intro) <;> first | assumption | omega | decide)
  · try simp (disch := omega) only [pe_K_wI, pe_K_wR]
    exact pe_fine 18 ck12 rfl rfl rfl trivial k
-- StepMachines$Frame.become(LStepMachines$Frame;)V
def T13 : List (Nat × Instr × Nat) := [(0, .aload_n 0, 1), (1, .aload_n 1, 1), (2, .getfield 9, 3), (5, .putfield 9, 3), (8, .aload_n 0, 1), (9, .aload_n 1, 1), (10, .getfield 15, 3), (13, .putfield 15, 3), (16, .aload_n 0, 1), (17, .aload_n 1, 1), (18, .getfield 19, 3), (21, .putfield 19, 3), (24, .aload_n 0, 1), (25, .aload_n 1, 1), (26, .getfield 22, 3), (29, .putfield 22, 3), (32, .aload_n 0, 1), (33, .aload_n 1, 1), (34, .getfield 25, 3), (37, .putfield 25, 3), (40, .aload_n 0, 1), (41, .aload_n 1, 1), (42, .getfield 29, 3), (45, .putfield 29, 3), (48, .return_, 1)]
theorem ck13 : pe_ctx 13 1 false none 2 T13 := ⟨rfl, rfl, rfl, rfl, by decide +kernel, by decide, by decide⟩
set_option maxHeartbeats 8000000 in
theorem b13_0 {d : Nat} {Φ : Option pe_V → pe_H → Prop} {σ : pe_H} {a0 : Nat} {a1 : Nat}   (h0 : pe_K σ a1 = 1 := by first | assumption | omega) (h1 : pe_K σ a0 = 1 := by first | assumption | omega) (h2 : (pe_I σ a1 4) = 0 ∨ (pe_I σ a1 4) = 1 := by first | assumption | omega) (k : pe_X d 13 (48, [some (.inr (.inr a0)), some (.inr (.inr a1))], [], pe_wI (pe_wI (pe_wI (pe_wI (pe_wI (pe_wR σ a0 0 (pe_R σ a1 0)) a0 1 (pe_I σ a1 1)) a0 2 (pe_I σ a1 2)) a0 3 (pe_I σ a1 3)) a0 4 (pe_I σ a1 4)) a0 5 (pe_I σ a1 5)) Φ) : pe_X d 13 (0, [some (.inr (.inr a0)), some (.inr (.inr a1))], [], σ) Φ := by
  refine pe_blk 0 24 ck13 [pe_K σ a1 = 1, pe_K σ a0 = 1, pe_K (pe_wR σ a0 0 (pe_R σ a1 0)) a1 = 1, pe_K (pe_wR σ a0 0 (pe_R σ a1 0)) a0 = 1, pe_K (pe_wI (pe_wR σ a0 0 (pe_R σ a1 0)) a0 1 (pe_I (pe_wR σ a0 0 (pe_R σ a1 0)) a1 1)) a1 = 1, pe_K (pe_wI (pe_wR σ a0 0 (pe_R σ a1 0)) a0 1 (pe_I (pe_wR σ a0 0 (pe_R σ a1 0)) a1 1)) a0 = 1, pe_K (pe_wI (pe_wI (pe_wR σ a0 0 (pe_R σ a1 0)) a0 1 (pe_I (pe_wR σ a0 0 (pe_R σ a1 0)) a1 1)) a0 2 (pe_I (pe_wI (pe_wR σ a0 0 (pe_R σ a1 0)) a0 1 (pe_I (pe_wR σ a0 0 (pe_R σ a1 0)) a1 1)) a1 2)) a1 = 1, pe_K (pe_wI (pe_wI (pe_wR σ a0 0 (pe_R σ a1 0)) a0 1 (pe_I (pe_wR σ a0 0 (pe_R σ a1 0)) a1 1)) a0 2 (pe_I (pe_wI (pe_wR σ a0 0 (pe_R σ a1 0)) a0 1 (pe_I (pe_wR σ a0 0 (pe_R σ a1 0)) a1 1)) a1 2)) a0 = 1, pe_K (pe_wI (pe_wI (pe_wI (pe_wR σ a0 0 (pe_R σ a1 0)) a0 1 (pe_I (pe_wR σ a0 0 (pe_R σ a1 0)) a1 1)) a0 2 (pe_I (pe_wI (pe_wR σ a0 0 (pe_R σ a1 0)) a0 1 (pe_I (pe_wR σ a0 0 (pe_R σ a1 0)) a1 1)) a1 2)) a0 3 (pe_I (pe_wI (pe_wI (pe_wR σ a0 0 (pe_R σ a1 0)) a0 1 (pe_I (pe_wR σ a0 0 (pe_R σ a1 0)) a1 1)) a0 2 (pe_I (pe_wI (pe_wR σ a0 0 (pe_R σ a1 0)) a0 1 (pe_I (pe_wR σ a0 0 (pe_R σ a1 0)) a1 1)) a1 2)) a1 3)) a1 = 1, pe_K (pe_wI (pe_wI (pe_wI (pe_wR σ a0 0 (pe_R σ a1 0)) a0 1 (pe_I (pe_wR σ a0 0 (pe_R σ a1 0)) a1 1)) a0 2 (pe_I (pe_wI (pe_wR σ a0 0 (pe_R σ a1 0)) a0 1 (pe_I (pe_wR σ a0 0 (pe_R σ a1 0)) a1 1)) a1 2)) a0 3 (pe_I (pe_wI (pe_wI (pe_wR σ a0 0 (pe_R σ a1 0)) a0 1 (pe_I (pe_wR σ a0 0 (pe_R σ a1 0)) a1 1)) a0 2 (pe_I (pe_wI (pe_wR σ a0 0 (pe_R σ a1 0)) a0 1 (pe_I (pe_wR σ a0 0 (pe_R σ a1 0)) a1 1)) a1 2)) a1 3)) a0 = 1, (pe_I (pe_wI (pe_wI (pe_wI (pe_wR σ a0 0 (pe_R σ a1 0)) a0 1 (pe_I (pe_wR σ a0 0 (pe_R σ a1 0)) a1 1)) a0 2 (pe_I (pe_wI (pe_wR σ a0 0 (pe_R σ a1 0)) a0 1 (pe_I (pe_wR σ a0 0 (pe_R σ a1 0)) a1 1)) a1 2)) a0 3 (pe_I (pe_wI (pe_wI (pe_wR σ a0 0 (pe_R σ a1 0)) a0 1 (pe_I (pe_wR σ a0 0 (pe_R σ a1 0)) a1 1)) a0 2 (pe_I (pe_wI (pe_wR σ a0 0 (pe_R σ a1 0)) a0 1 (pe_I (pe_wR σ a0 0 (pe_R σ a1 0)) a1 1)) a1 2)) a1 3)) a1 4) = 0 ∨ (pe_I (pe_wI (pe_wI (pe_wI (pe_wR σ a0 0 (pe_R σ a1 0)) a0 1 (pe_I (pe_wR σ a0 0 (pe_R σ a1 0)) a1 1)) a0 2 (pe_I (pe_wI (pe_wR σ a0 0 (pe_R σ a1 0)) a0 1 (pe_I (pe_wR σ a0 0 (pe_R σ a1 0)) a1 1)) a1 2)) a0 3 (pe_I (pe_wI (pe_wI (pe_wR σ a0 0 (pe_R σ a1 0)) a0 1 (pe_I (pe_wR σ a0 0 (pe_R σ a1 0)) a1 1)) a0 2 (pe_I (pe_wI (pe_wR σ a0 0 (pe_R σ a1 0)) a0 1 (pe_I (pe_wR σ a0 0 (pe_R σ a1 0)) a1 1)) a1 2)) a1 3)) a1 4) = 1, pe_K (pe_wI (pe_wI (pe_wI (pe_wI (pe_wR σ a0 0 (pe_R σ a1 0)) a0 1 (pe_I (pe_wR σ a0 0 (pe_R σ a1 0)) a1 1)) a0 2 (pe_I (pe_wI (pe_wR σ a0 0 (pe_R σ a1 0)) a0 1 (pe_I (pe_wR σ a0 0 (pe_R σ a1 0)) a1 1)) a1 2)) a0 3 (pe_I (pe_wI (pe_wI (pe_wR σ a0 0 (pe_R σ a1 0)) a0 1 (pe_I (pe_wR σ a0 0 (pe_R σ a1 0)) a1 1)) a0 2 (pe_I (pe_wI (pe_wR σ a0 0 (pe_R σ a1 0)) a0 1 (pe_I (pe_wR σ a0 0 (pe_R σ a1 0)) a1 1)) a1 2)) a1 3)) a0 4 (pe_I (pe_wI (pe_wI (pe_wI (pe_wR σ a0 0 (pe_R σ a1 0)) a0 1 (pe_I (pe_wR σ a0 0 (pe_R σ a1 0)) a1 1)) a0 2 (pe_I (pe_wI (pe_wR σ a0 0 (pe_R σ a1 0)) a0 1 (pe_I (pe_wR σ a0 0 (pe_R σ a1 0)) a1 1)) a1 2)) a0 3 (pe_I (pe_wI (pe_wI (pe_wR σ a0 0 (pe_R σ a1 0)) a0 1 (pe_I (pe_wR σ a0 0 (pe_R σ a1 0)) a1 1)) a0 2 (pe_I (pe_wI (pe_wR σ a0 0 (pe_R σ a1 0)) a0 1 (pe_I (pe_wR σ a0 0 (pe_R σ a1 0)) a1 1)) a1 2)) a1 3)) a1 4)) a1 = 1, pe_K (pe_wI (pe_wI (pe_wI (pe_wI (pe_wR σ a0 0 (pe_R σ a1 0)) a0 1 (pe_I (pe_wR σ a0 0 (pe_R σ a1 0)) a1 1)) a0 2 (pe_I (pe_wI (pe_wR σ a0 0 (pe_R σ a1 0)) a0 1 (pe_I (pe_wR σ a0 0 (pe_R σ a1 0)) a1 1)) a1 2)) a0 3 (pe_I (pe_wI (pe_wI (pe_wR σ a0 0 (pe_R σ a1 0)) a0 1 (pe_I (pe_wR σ a0 0 (pe_R σ a1 0)) a1 1)) a0 2 (pe_I (pe_wI (pe_wR σ a0 0 (pe_R σ a1 0)) a0 1 (pe_I (pe_wR σ a0 0 (pe_R σ a1 0)) a1 1)) a1 2)) a1 3)) a0 4 (pe_I (pe_wI (pe_wI (pe_wI (pe_wR σ a0 0 (pe_R σ a1 0)) a0 1 (pe_I (pe_wR σ a0 0 (pe_R σ a1 0)) a1 1)) a0 2 (pe_I (pe_wI (pe_wR σ a0 0 (pe_R σ a1 0)) a0 1 (pe_I (pe_wR σ a0 0 (pe_R σ a1 0)) a1 1)) a1 2)) a0 3 (pe_I (pe_wI (pe_wI (pe_wR σ a0 0 (pe_R σ a1 0)) a0 1 (pe_I (pe_wR σ a0 0 (pe_R σ a1 0)) a1 1)) a0 2 (pe_I (pe_wI (pe_wR σ a0 0 (pe_R σ a1 0)) a0 1 (pe_I (pe_wR σ a0 0 (pe_R σ a1 0)) a1 1)) a1 2)) a1 3)) a1 4)) a0 = 1] (48, [some (.inr (.inr a0)), some (.inr (.inr a1))], [], pe_wI (pe_wI (pe_wI (pe_wI (pe_wI (pe_wR σ a0 0 (pe_R σ a1 0)) a0 1 (pe_I (pe_wR σ a0 0 (pe_R σ a1 0)) a1 1)) a0 2 (pe_I (pe_wI (pe_wR σ a0 0 (pe_R σ a1 0)) a0 1 (pe_I (pe_wR σ a0 0 (pe_R σ a1 0)) a1 1)) a1 2)) a0 3 (pe_I (pe_wI (pe_wI (pe_wR σ a0 0 (pe_R σ a1 0)) a0 1 (pe_I (pe_wR σ a0 0 (pe_R σ a1 0)) a1 1)) a0 2 (pe_I (pe_wI (pe_wR σ a0 0 (pe_R σ a1 0)) a0 1 (pe_I (pe_wR σ a0 0 (pe_R σ a1 0)) a1 1)) a1 2)) a1 3)) a0 4 (pe_I (pe_wI (pe_wI (pe_wI (pe_wR σ a0 0 (pe_R σ a1 0)) a0 1 (pe_I (pe_wR σ a0 0 (pe_R σ a1 0)) a1 1)) a0 2 (pe_I (pe_wI (pe_wR σ a0 0 (pe_R σ a1 0)) a0 1 (pe_I (pe_wR σ a0 0 (pe_R σ a1 0)) a1 1)) a1 2)) a0 3 (pe_I (pe_wI (pe_wI (pe_wR σ a0 0 (pe_R σ a1 0)) a0 1 (pe_I (pe_wR σ a0 0 (pe_R σ a1 0)) a1 1)) a0 2 (pe_I (pe_wI (pe_wR σ a0 0 (pe_R σ a1 0)) a0 1 (pe_I (pe_wR σ a0 0 (pe_R σ a1 0)) a1 1)) a1 2)) a1 3)) a1 4)) a0 5 (pe_I (pe_wI (pe_wI (pe_wI (pe_wI (pe_wR σ a0 0 (pe_R σ a1 0)) a0 1 (pe_I (pe_wR σ a0 0 (pe_R σ a1 0)) a1 1)) a0 2 (pe_I (pe_wI (pe_wR σ a0 0 (pe_R σ a1 0)) a0 1 (pe_I (pe_wR σ a0 0 (pe_R σ a1 0)) a1 1)) a1 2)) a0 3 (pe_I (pe_wI (pe_wI (pe_wR σ a0 0 (pe_R σ a1 0)) a0 1 (pe_I (pe_wR σ a0 0 (pe_R σ a1 0)) a1 1)) a0 2 (pe_I (pe_wI (pe_wR σ a0 0 (pe_R σ a1 0)) a0 1 (pe_I (pe_wR σ a0 0 (pe_R σ a1 0)) a1 1)) a1 2)) a1 3)) a0 4 (pe_I (pe_wI (pe_wI (pe_wI (pe_wR σ a0 0 (pe_R σ a1 0)) a0 1 (pe_I (pe_wR σ a0 0 (pe_R σ a1 0)) a1 1)) a0 2 (pe_I (pe_wI (pe_wR σ a0 0 (pe_R σ a1 0)) a0 1 (pe_I (pe_wR σ a0 0 (pe_R σ a1 0)) a1 1)) a1 2)) a0 3 (pe_I (pe_wI (pe_wI (pe_wR σ a0 0 (pe_R σ a1 0)) a0 1 (pe_I (pe_wR σ a0 0 (pe_R σ a1 0)) a1 1)) a0 2 (pe_I (pe_wI (pe_wR σ a0 0 (pe_R σ a1 0)) a0 1 (pe_I (pe_wR σ a0 0 (pe_R σ a1 0)) a1 1)) a1 2)) a1 3)) a1 4)) a1 5)) rfl ?_ ?_
  · first
    | (simp (disch := omega) only [pe_all, pe_I_nej, pe_I_wR, pe_K_wI, pe_K_wR]; done)
    | (simp (disch := omega) only [pe_all, pe_I_nej, pe_I_wR, pe_K_wI, pe_K_wR]; (repeat' apply And.intro) <;> first | assumption | omega | decide)
  · try simp (disch := omega) only [pe_I_nej, pe_I_wR, pe_K_wI, pe_K_wR]
    exact k
theorem b13_48 {d : Nat} {Φ : Option pe_V → pe_H → Prop} {σ : pe_H} {o0 : Option pe_V} {o1 : Option pe_V}    (k : Φ none σ) : pe_X d 13 (48, [o0, o1], [], σ) Φ := by
  exact pe_fine 24 ck13 rfl rfl rfl trivial k
-- StepMachines$Machine.become(LStepMachines$Machine;)V
def T15 : List (Nat × Instr × Nat) := [(0, .aload_n 0, 1), (1, .aload_n 1, 1), (2, .getfield 32, 3), (5, .putfield 32, 3), (8, .aload_n 0, 1), (9, .aload_n 1, 1), (10, .getfield 36, 3), (13, .putfield 36, 3), (16, .aload_n 0, 1), (17, .aload_n 1, 1), (18, .getfield 39, 3), (21, .putfield 39, 3), (24, .aload_n 0, 1), (25, .aload_n 1, 1), (26, .getfield 58, 3), (29, .putfield 58, 3), (32, .iconst 0, 1), (33, .istore_n 2, 1), (34, .iload_n 2, 1), (35, .iconst 5, 1), (36, .if_icmp .ge 21, 3), (39, .aload_n 0, 1), (40, .getfield 11, 3), (43, .iload_n 2, 1), (44, .aload_n 1, 1), (45, .getfield 11, 3), (48, .iload_n 2, 1), (49, .aaload, 1), (50, .aastore, 1), (51, .iinc 2 1, 3), (54, .goto (-20), 3), (57, .iconst 0, 1), (58, .istore_n 2, 1), (59, .iload_n 2, 1), (60, .aload_n 0, 1), (61, .getfield 32, 3), (64, .if_icmp .ge 24, 3), (67, .aload_n 0, 1), (68, .getfield 19, 3), (71, .iload_n 2, 1), (72, .aaload, 1), (73, .aload_n 1, 1), (74, .getfield 19, 3), (77, .iload_n 2, 1), (78, .aaload, 1), (79, .invokevirtual 66, 3), (82, .iinc 2 1, 3), (85, .goto (-26), 3), (88, .iconst 0, 1), (89, .istore_n 2, 1), (90, .iload_n 2, 1), (91, .iconst 3, 1), (92, .if_icmp .ge 39, 3), (95, .aload_n 0, 1), (96, .getfield 25, 3), (99, .iload_n 2, 1), (100, .aaload, 1), (101, .aload_n 1, 1), (102, .getfield 25, 3), (105, .iload_n 2, 1), (106, .aaload, 1), (107, .invokevirtual 70, 3), (110, .aload_n 0, 1), (111, .getfield 29, 3), (114, .iload_n 2, 1), (115, .aaload, 1), (116, .aload_n 1, 1), (117, .getfield 29, 3), (120, .iload_n 2, 1), (121, .aaload, 1), (122, .invokevirtual 70, 3), (125, .iinc 2 1, 3), (128, .goto (-38), 3), (131, .aload_n 1, 1), (132, .getfield 52, 3), (135, .iconst 0, 1), (136, .aload_n 0, 1), (137, .getfield 52, 3), (140, .iconst 0, 1), (141, .aload_n 0, 1), (142, .getfield 58, 3), (145, .invokestatic 73, 3), (148, .aload_n 1, 1), (149, .getfield 55, 3), (152, .iconst 0, 1), (153, .aload_n 0, 1), (154, .getfield 55, 3), (157, .iconst 0, 1), (158, .aload_n 0, 1), (159, .getfield 58, 3), (162, .invokestatic 73, 3), (165, .return_, 1)]
theorem ck15 : pe_ctx 15 2 false none 3 T15 := ⟨rfl, rfl, rfl, rfl, by decide +kernel, by decide, by decide⟩
theorem b15_0 {d : Nat} {Φ : Option pe_V → pe_H → Prop} {σ : pe_H} {a0 : Nat} {a1 : Nat} {o2 : Option pe_V} (f_a0 : pk_Fm a0 σ := by assumption) (f_a1 : pk_Fm a1 σ := by assumption)   (k : pe_X d 15 (34, [some (.inr (.inr a0)), some (.inr (.inr a1)), some (.inl 0)], [], pe_wI (pe_wI (pe_wI (pe_wI σ a0 4 (pe_I σ a1 4)) a0 5 (pe_I σ a1 5)) a0 6 (pe_I σ a1 6)) a0 12 (pe_I σ a1 12)) Φ) : pe_X d 15 (0, [some (.inr (.inr a0)), some (.inr (.inr a1)), o2], [], σ) Φ := by
  refine pe_blk 0 18 ck15 [pe_K σ a1 = 2, pe_K σ a0 = 2, pe_K (pe_wI σ a0 4 (pe_I σ a1 4)) a1 = 2, pe_K (pe_wI σ a0 4 (pe_I σ a1 4)) a0 = 2, pe_K (pe_wI (pe_wI σ a0 4 (pe_I σ a1 4)) a0 5 (pe_I (pe_wI σ a0 4 (pe_I σ a1 4)) a1 5)) a1 = 2, pe_K (pe_wI (pe_wI σ a0 4 (pe_I σ a1 4)) a0 5 (pe_I (pe_wI σ a0 4 (pe_I σ a1 4)) a1 5)) a0 = 2, pe_K (pe_wI (pe_wI (pe_wI σ a0 4 (pe_I σ a1 4)) a0 5 (pe_I (pe_wI σ a0 4 (pe_I σ a1 4)) a1 5)) a0 6 (pe_I (pe_wI (pe_wI σ a0 4 (pe_I σ a1 4)) a0 5 (pe_I (pe_wI σ a0 4 (pe_I σ a1 4)) a1 5)) a1 6)) a1 = 2, pe_K (pe_wI (pe_wI (pe_wI σ a0 4 (pe_I σ a1 4)) a0 5 (pe_I (pe_wI σ a0 4 (pe_I σ a1 4)) a1 5)) a0 6 (pe_I (pe_wI (pe_wI σ a0 4 (pe_I σ a1 4)) a0 5 (pe_I (pe_wI σ a0 4 (pe_I σ a1 4)) a1 5)) a1 6)) a0 = 2] (34, [some (.inr (.inr a0)), some (.inr (.inr a1)), some (.inl 0)], [], pe_wI (pe_wI (pe_wI (pe_wI σ a0 4 (pe_I σ a1 4)) a0 5 (pe_I (pe_wI σ a0 4 (pe_I σ a1 4)) a1 5)) a0 6 (pe_I (pe_wI (pe_wI σ a0 4 (pe_I σ a1 4)) a0 5 (pe_I (pe_wI σ a0 4 (pe_I σ a1 4)) a1 5)) a1 6)) a0 12 (pe_I (pe_wI (pe_wI (pe_wI σ a0 4 (pe_I σ a1 4)) a0 5 (pe_I (pe_wI σ a0 4 (pe_I σ a1 4)) a1 5)) a0 6 (pe_I (pe_wI (pe_wI σ a0 4 (pe_I σ a1 4)) a0 5 (pe_I (pe_wI σ a0 4 (pe_I σ a1 4)) a1 5)) a1 6)) a1 12)) rfl ?_ ?_
  · first
    | (simp (disch := omega) only [pe_all, pe_I_nej, pe_K_wI, pe_K_wR, pk_mK f_a0, pk_mK f_a1]; done)
    | (simp (disch := omega) only [pe_all, pe_I_nej, pe_K_wI, pe_K_wR, pk_mK f_a0, pk_mK f_a1]; (repeat' apply And.intro) <;> first | assumption | omega | decide)
  · try simp (disch := omega) only [pe_I_nej, pe_K_wI, pe_K_wR, pk_mK f_a0, pk_mK f_a1]
    exact k
theorem b15_34 {d : Nat} {Φ : Option pe_V → pe_H → Prop} {σ : pe_H} {a0 : Nat} {a1 : Nat} {x2 : Int} (f_a0 : pk_Fm a0 σ := by assumption) (f_a1 : pk_Fm a1 σ := by assumption) (w0 : pe_in x2 := by unfold pe_in; omega)  (k1 : 5 ≤ x2 → pe_X d 15 (57, [some (.inr (.inr a0)), some (.inr (.inr a1)), some (.inl x2)], [], σ) Φ) (k2 : ¬ (5 ≤ x2) → pe_X d 15 (39, [some (.inr (.inr a0)), some (.inr (.inr a1)), some (.inl x2)], [], σ) Φ) : pe_X d 15 (34, [some (.inr (.inr a0)), some (.inr (.inr a1)), some (.inl x2)], [], σ) Φ := by
  refine pe_blk 18 3 ck15 [] (cond (decide ((pe_w 5) ≤ (pe_w x2))) 57 39, [some (.inr (.inr a0)), some (.inr (.inr a1)), some (.inl x2)], [], σ) rfl ?_ ?_
  · exact trivial
  · try simp (disch := omega) only [pe_wi w0, pe_wi (x := 5) ⟨by decide, by decide⟩]
    exact pe_two k1 k2
theorem b15_39 {d : Nat} {Φ : Option pe_V → pe_H → Prop} {σ : pe_H} {a0 : Nat} {a1 : Nat} {x2 : Int} (f_a0 : pk_Fm a0 σ := by assumption) (f_a1 : pk_Fm a1 σ := by assumption) (w0 : pe_in x2 := by unfold pe_in; omega) (h0 : 0 ≤ x2 := by first | assumption | omega) (h1 : x2 < 5 := by first | assumption | omega) (h2 : (pe_R σ (a1 + 1) x2) = 0 ∨ 16 = pe_ak (pe_K σ (pe_R σ (a1 + 1) x2)) := by first | assumption | omega) (k : pe_X d 15 (34, [some (.inr (.inr a0)), some (.inr (.inr a1)), some (.inl (x2 + 1))], [], pe_wR σ (a0 + 1) x2 (pe_R σ (a1 + 1) x2)) Φ) : pe_X d 15 (39, [some (.inr (.inr a0)), some (.inr (.inr a1)), some (.inl x2)], [], σ) Φ := by
  have hX0 := pk_m2 f_a0
  refine pe_blk 21 10 ck15 [pe_K σ a0 = 2, pe_K σ a1 = 2, 12 ≤ pe_K σ (pe_R σ a1 0) ∧ pe_K σ (pe_R σ a1 0) < 19, 0 ≤ (pe_w x2), (pe_w x2) < pe_L σ (pe_R σ a1 0), 12 ≤ pe_K σ (pe_R σ a0 0) ∧ pe_K σ (pe_R σ a0 0) < 19, (pe_R σ (pe_R σ a1 0) (pe_w x2)) = 0 ∨ pe_K σ (pe_R σ a0 0) = pe_ak (pe_K σ (pe_R σ (pe_R σ a1 0) (pe_w x2))), 0 ≤ (pe_w x2), (pe_w x2) < pe_L σ (pe_R σ a0 0), 2 ≤ (pe_R σ a0 0)] (34, [some (.inr (.inr a0)), some (.inr (.inr a1)), some (.inl (x2 + 1))], [], pe_wR σ (pe_R σ a0 0) (pe_w x2) (pe_R σ (pe_R σ a1 0) (pe_w x2))) rfl ?_ ?_
  · first
    | (simp (disch := omega) only [pe_all, pe_wi w0, pe_K_wI, pe_K_wR, pe_L_wI, pe_L_wR, pe_R_nej, pe_R_ner, pe_R_wI, pk_mK f_a0, pk_mK f_a1, pk_mK1 f_a0, pk_mK1 f_a1, pk_mL1 f_a0, pk_mL1 f_a1, pk_mR1 f_a0, pk_mR1 f_a1]; done)
    | (simp (disch := omega) only [pe_all, pe_wi w0, pe_K_wI, pe_K_wR, pe_L_wI, pe_L_wR, pe_R_nej, pe_R_ner, pe_R_wI, pk_mK f_a0, pk_mK f_a1, pk_mK1 f_a0, pk_mK1 f_a1, pk_mL1 f_a0, pk_mL1 f_a1, pk_mR1 f_a0, pk_mR1 f_a1]; (repeat' apply And.intro) <;> first | assumption | omega | decide)
  · try simp (disch := omega) only [pe_wi w0, pe_K_wI, pe_K_wR, pe_L_wI, pe_L_wR, pe_R_nej, pe_R_ner, pe_R_wI, pk_mK f_a0, pk_mK f_a1, pk_mK1 f_a0, pk_mK1 f_a1, pk_mL1 f_a0, pk_mL1 f_a1, pk_mR1 f_a0, pk_mR1 f_a1]
    exact k
theorem b15_57 {d : Nat} {Φ : Option pe_V → pe_H → Prop} {σ : pe_H} {a0 : Nat} {a1 : Nat} {o2 : Option pe_V} (f_a0 : pk_Fm a0 σ := by assumption) (f_a1 : pk_Fm a1 σ := by assumption)   (k : pe_X d 15 (59, [some (.inr (.inr a0)), some (.inr (.inr a1)), some (.inl 0)], [], σ) Φ) : pe_X d 15 (57, [some (.inr (.inr a0)), some (.inr (.inr a1)), o2], [], σ) Φ := by
  refine pe_blk 31 2 ck15 [] (59, [some (.inr (.inr a0)), some (.inr (.inr a1)), some (.inl 0)], [], σ) rfl ?_ ?_
  · exact trivial
  · exact k
theorem b15_59 {d : Nat} {Φ : Option pe_V → pe_H → Prop} {σ : pe_H} {a0 : Nat} {a1 : Nat} {x2 : Int} (f_a0 : pk_Fm a0 σ := by assumption) (f_a1 : pk_Fm a1 σ := by assumption) (w0 : pe_in (pe_I σ a0 4) := by unfold pe_in; omega) (w1 : pe_in x2 := by unfold pe_in; omega)  (k1 : (pe_I σ a0 4) ≤ x2 → pe_X d 15 (88, [some (.inr (.inr a0)), some (.inr (.inr a1)), some (.inl x2)], [], σ) Φ) (k2 : ¬ ((pe_I σ a0 4) ≤ x2) → pe_X d 15 (67, [some (.inr (.inr a0)), some (.inr (.inr a1)), some (.inl x2)], [], σ) Φ) : pe_X d 15 (59, [some (.inr (.inr a0)), some (.inr (.inr a1)), some (.inl x2)], [], σ) Φ := by
  refine pe_blk 33 4 ck15 [pe_K σ a0 = 2] (cond (decide ((pe_w (pe_I σ a0 4)) ≤ (pe_w x2))) 88 67, [some (.inr (.inr a0)), some (.inr (.inr a1)), some (.inl x2)], [], σ) rfl ?_ ?_
  · first
    | (simp (disch := omega) only [pe_all, pe_wi w0, pe_wi w1, pe_K_wI, pe_K_wR, pk_mK f_a0]; done)
    | (simp (disch := omega) only [pe_all, pe_wi w0, pe_wi w1, pe_K_wI, pe_K_wR, pk_mK f_a0]; (repeat' apply And.intro) <;> first | assumption | omega | decide)
  · try simp (disch := omega) only [pe_wi w0, pe_wi w1, pe_K_wI, pe_K_wR, pk_mK f_a0]
    exact pe_two k1 k2
theorem b15_67 {d : Nat} {Φ : Option pe_V → pe_H → Prop} {σ : pe_H} {a0 : Nat} {a1 : Nat} {x2 : Int} (f_a0 : pk_Fm a0 σ := by assumption) (f_a1 : pk_Fm a1 σ := by assumption) (w0 : pe_in x2 := by unfold pe_in; omega) (h0 : 0 ≤ x2 := by first | assumption | omega) (h1 : x2 < 8 := by first | assumption | omega) (k : pe_M d 2 [.inr (.inr (pk_c a0 x2)), .inr (.inr (pk_c a1 x2))] σ (fun r σ' => pe_X d 15 (82, [some (.inr (.inr a0)), some (.inr (.inr a1)), some (.inl x2)], r.toList ++ [], σ') Φ)) : pe_X d 15 (67, [some (.inr (.inr a0)), some (.inr (.inr a1)), some (.inl x2)], [], σ) Φ := by
  refine pe_blk 37 8 ck15 [pe_K σ a0 = 2, 12 ≤ pe_K σ (pe_R σ a0 1) ∧ pe_K σ (pe_R σ a0 1) < 19, 0 ≤ (pe_w x2), (pe_w x2) < pe_L σ (pe_R σ a0 1), pe_K σ a1 = 2, 12 ≤ pe_K σ (pe_R σ a1 1) ∧ pe_K σ (pe_R σ a1 1) < 19, 0 ≤ (pe_w x2), (pe_w x2) < pe_L σ (pe_R σ a1 1)] (79, [some (.inr (.inr a0)), some (.inr (.inr a1)), some (.inl x2)], [.inr (.inr (pe_R σ (pe_R σ a1 1) (pe_w x2))), .inr (.inr (pe_R σ (pe_R σ a0 1) (pe_w x2)))], σ) rfl ?_ ?_
  · first
    | (simp (disch := omega) only [pe_all, pe_wi w0, pe_K_wI, pe_K_wR, pe_L_wI, pe_L_wR, pe_R_nej, pe_R_ner, pe_R_wI, pk_mE2 f_a0 (i := x2) (by omega) (by omega), pk_mE2 f_a1 (i := x2) (by omega) (by omega), pk_mK f_a0, pk_mK f_a1, pk_mK2 f_a0, pk_mK2 f_a1, pk_mL2 f_a0, pk_mL2 f_a1, pk_mR2 f_a0, pk_mR2 f_a1, pk_oK (pk_mO f_a0 (i := x2) (by omega) (by omega))]; done)
    | (simp (disch := omega) only [pe_all, pe_wi w0, pe_K_wI, pe_K_wR, pe_L_wI, pe_L_wR, pe_R_nej, pe_R_ner, pe_R_wI, pk_mE2 f_a0 (i := x2) (by omega) (by omega), pk_mE2 f_a1 (i := x2) (by omega) (by omega), pk_mK f_a0, pk_mK f_a1, pk_mK2 f_a0, pk_mK2 f_a1, pk_mL2 f_a0, pk_mL2 f_a1, pk_mR2 f_a0, pk_mR2 f_a1, pk_oK (pk_mO f_a0 (i := x2) (by omega) (by omega))]; (repeat' apply And.intro) <;> first | assumption | omega | decide)
  · try simp (disch := omega) only [pe_wi w0, pe_K_wI, pe_K_wR, pe_L_wI, pe_L_wR, pe_R_nej, pe_R_ner, pe_R_wI, pk_mE2 f_a0 (i := x2) (by omega) (by omega), pk_mE2 f_a1 (i := x2) (by omega) (by omega), pk_mK f_a0, pk_mK f_a1, pk_mK2 f_a0, pk_mK2 f_a1, pk_mL2 f_a0, pk_mL2 f_a1, pk_mR2 f_a0, pk_mR2 f_a1, pk_oK (pk_mO f_a0 (i := x2) (by omega) (by omega))]
    have hrc : pe_K σ (pk_c a0 x2) = 0 := by first | assumption | (simp (disch := omega) only [pe_wi w0, pe_K_wI, pe_K_wR, pe_L_wI, pe_L_wR, pe_R_nej, pe_R_ner, pe_R_wI, pk_mE2 f_a0 (i := x2) (by omega) (by omega), pk_mE2 f_a1 (i := x2) (by omega) (by omega), pk_mK f_a0, pk_mK f_a1, pk_mK2 f_a0, pk_mK2 f_a1, pk_mL2 f_a0, pk_mL2 f_a1, pk_mR2 f_a0, pk_mR2 f_a1, pk_oK (pk_mO f_a0 (i := x2) (by omega) (by omega))]; done) | (simp (disch := omega) only [pe_wi w0, pe_K_wI, pe_K_wR, pe_L_wI, pe_L_wR, pe_R_nej, pe_R_ner, pe_R_wI, pk_mE2 f_a0 (i := x2) (by omega) (by omega), pk_mE2 f_a1 (i := x2) (by omega) (by omega), pk_mK f_a0, pk_mK f_a1, pk_mK2 f_a0, pk_mK2 f_a1, pk_mL2 f_a0, pk_mL2 f_a1, pk_mR2 f_a0, pk_mR2 f_a1, pk_oK (pk_mO f_a0 (i := x2) (by omega) (by omega))]; assumption)
    exact pe_cal 45 ck15 rfl rfl rfl ⟨hrc, by decide⟩ k
theorem b15_82 {d : Nat} {Φ : Option pe_V → pe_H → Prop} {σ : pe_H} {a0 : Nat} {a1 : Nat} {x2 : Int} (f_a0 : pk_Fm a0 σ := by assumption) (f_a1 : pk_Fm a1 σ := by assumption)   (k : pe_X d 15 (59, [some (.inr (.inr a0)), some (.inr (.inr a1)), some (.inl (x2 + 1))], [], σ) Φ) : pe_X d 15 (82, [some (.inr (.inr a0)), some (.inr (.inr a1)), some (.inl x2)], [], σ) Φ := by
  refine pe_blk 46 2 ck15 [] (59, [some (.inr (.inr a0)), some (.inr (.inr a1)), some (.inl (x2 + 1))], [], σ) rfl ?_ ?_
  · exact trivial
  · exact k
theorem b15_88 {d : Nat} {Φ : Option pe_V → pe_H → Prop} {σ : pe_H} {a0 : Nat} {a1 : Nat} {o2 : Option pe_V} (f_a0 : pk_Fm a0 σ := by assumption) (f_a1 : pk_Fm a1 σ := by assumption)   (k : pe_X d 15 (90, [some (.inr (.inr a0)), some (.inr (.inr a1)), some (.inl 0)], [], σ) Φ) : pe_X d 15 (88, [some (.inr (.inr a0)), some (.inr (.inr a1)), o2], [], σ) Φ := by
  refine pe_blk 48 2 ck15 [] (90, [some (.inr (.inr a0)), some (.inr (.inr a1)), some (.inl 0)], [], σ) rfl ?_ ?_
  · exact trivial
  · exact k
set_option maxRecDepth 8000 in
theorem b15_90 {d : Nat} {Φ : Option pe_V → pe_H → Prop} {σ : pe_H} {a0 : Nat} {a1 : Nat} {x2 : Int} (f_a0 : pk_Fm a0 σ := by assumption) (f_a1 : pk_Fm a1 σ := by assumption) (w0 : pe_in x2 := by unfold pe_in; omega)  (k1 : 3 ≤ x2 → pe_X d 15 (131, [some (.inr (.inr a0)), some (.inr (.inr a1)), some (.inl x2)], [], σ) Φ) (k2 : ¬ (3 ≤ x2) → pe_X d 15 (95, [some (.inr (.inr a0)), some (.inr (.inr a1)), some (.inl x2)], [], σ) Φ) : pe_X d 15 (90, [some (.inr (.inr a0)), some (.inr (.inr a1)), some (.inl x2)], [], σ) Φ := by
  refine pe_blk 50 3 ck15 [] (cond (decide ((pe_w 3) ≤ (pe_w x2))) 131 95, [some (.inr (.inr a0)), some (.inr (.inr a1)), some (.inl x2)], [], σ) rfl ?_ ?_
  · exact trivial
  · try simp (disch := omega) only [pe_wi w0, pe_wi (x := 3) ⟨by decide, by decide⟩]
    exact pe_two k1 k2
set_option maxRecDepth 8000 in
theorem b15_95 {d : Nat} {Φ : Option pe_V → pe_H → Prop} {σ : pe_H} {a0 : Nat} {a1 : Nat} {x2 : Int} (f_a0 : pk_Fm a0 σ := by assumption) (f_a1 : pk_Fm a1 σ := by assumption) (w0 : pe_in x2 := by unfold pe_in; omega) (h0 : 0 ≤ x2 := by first | assumption | omega) (h1 : x2 < 3 := by first | assumption | omega) (k : pe_M d 53 [.inr (.inr (pk_q a0 x2)), .inr (.inr (pk_q a1 x2))] σ (fun r σ' => pe_X d 15 (110, [some (.inr (.inr a0)), some (.inr (.inr a1)), some (.inl x2)], r.toList ++ [], σ') Φ)) : pe_X d 15 (95, [some (.inr (.inr a0)), some (.inr (.inr a1)), some (.inl x2)], [], σ) Φ := by
  refine pe_blk 53 8 ck15 [pe_K σ a0 = 2, 12 ≤ pe_K σ (pe_R σ a0 2) ∧ pe_K σ (pe_R σ a0 2) < 19, 0 ≤ (pe_w x2), (pe_w x2) < pe_L σ (pe_R σ a0 2), pe_K σ a1 = 2, 12 ≤ pe_K σ (pe_R σ a1 2) ∧ pe_K σ (pe_R σ a1 2) < 19, 0 ≤ (pe_w x2), (pe_w x2) < pe_L σ (pe_R σ a1 2)] (107, [some (.inr (.inr a0)), some (.inr (.inr a1)), some (.inl x2)], [.inr (.inr (pe_R σ (pe_R σ a1 2) (pe_w x2))), .inr (.inr (pe_R σ (pe_R σ a0 2) (pe_w x2)))], σ) rfl ?_ ?_
  · first
    | (simp (disch := omega) only [pe_all, pe_wi w0, pe_K_wI, pe_K_wR, pe_L_wI, pe_L_wR, pe_R_nej, pe_R_ner, pe_R_wI, pk_mE3 f_a0 (i := x2) (by omega) (by omega), pk_mE3 f_a1 (i := x2) (by omega) (by omega), pk_mK f_a0, pk_mK f_a1, pk_mK3 f_a0, pk_mK3 f_a1, pk_mL3 f_a0, pk_mL3 f_a1, pk_mR3 f_a0, pk_mR3 f_a1, pk_qK (pk_mQ f_a0 (i := x2) (by omega) (by omega))]; done)
    | (simp (disch := omega) only [pe_all, pe_wi w0, pe_K_wI, pe_K_wR, pe_L_wI, pe_L_wR, pe_R_nej, pe_R_ner, pe_R_wI, pk_mE3 f_a0 (i := x2) (by omega) (by omega), pk_mE3 f_a1 (i := x2) (by omega) (by omega), pk_mK f_a0, pk_mK f_a1, pk_mK3 f_a0, pk_mK3 f_a1, pk_mL3 f_a0, pk_mL3 f_a1, pk_mR3 f_a0, pk_mR3 f_a1, pk_qK (pk_mQ f_a0 (i := x2) (by omega) (by omega))]; (repeat' apply And.intro) <;> first | assumption | omega | decide)
  · try simp (disch := omega) only [pe_wi w0, pe_K_wI, pe_K_wR, pe_L_wI, pe_L_wR, pe_R_nej, pe_R_ner, pe_R_wI, pk_mE3 f_a0 (i := x2) (by omega) (by omega), pk_mE3 f_a1 (i := x2) (by omega) (by omega), pk_mK f_a0, pk_mK f_a1, pk_mK3 f_a0, pk_mK3 f_a1, pk_mL3 f_a0, pk_mL3 f_a1, pk_mR3 f_a0, pk_mR3 f_a1, pk_qK (pk_mQ f_a0 (i := x2) (by omega) (by omega))]
    have hrc : pe_K σ (pk_q a0 x2) = 5 := by first | assumption | (simp (disch := omega) only [pe_wi w0, pe_K_wI, pe_K_wR, pe_L_wI, pe_L_wR, pe_R_nej, pe_R_ner, pe_R_wI, pk_mE3 f_a0 (i := x2) (by omega) (by omega), pk_mE3 f_a1 (i := x2) (by omega) (by omega), pk_mK f_a0, pk_mK f_a1, pk_mK3 f_a0, pk_mK3 f_a1, pk_mL3 f_a0, pk_mL3 f_a1, pk_mR3 f_a0, pk_mR3 f_a1, pk_qK (pk_mQ f_a0 (i := x2) (by omega) (by omega))]; done) | (simp (disch := omega) only [pe_wi w0, pe_K_wI, pe_K_wR, pe_L_wI, pe_L_wR, pe_R_nej, pe_R_ner, pe_R_wI, pk_mE3 f_a0 (i := x2) (by omega) (by omega), pk_mE3 f_a1 (i := x2) (by omega) (by omega), pk_mK f_a0, pk_mK f_a1, pk_mK3 f_a0, pk_mK3 f_a1, pk_mL3 f_a0, pk_mL3 f_a1, pk_mR3 f_a0, pk_mR3 f_a1, pk_qK (pk_mQ f_a0 (i := x2) (by omega) (by omega))]; assumption)
    exact pe_cal 61 ck15 rfl rfl rfl ⟨hrc, by decide⟩ k
set_option maxRecDepth 8000 in
theorem b15_110 {d : Nat} {Φ : Option pe_V → pe_H → Prop} {σ : pe_H} {a0 : Nat} {a1 : Nat} {x2 : Int} (f_a0 : pk_Fm a0 σ := by assumption) (f_a1 : pk_Fm a1 σ := by assumption) (w0 : pe_in x2 := by unfold pe_in; omega) (h0 : 0 ≤ x2 := by first | assumption | omega) (h1 : x2 < 3 := by first | assumption | omega) (k : pe_M d 53 [.inr (.inr (pk_g a0 x2)), .inr (.inr (pk_g a1 x2))] σ (fun r σ' => pe_X d 15 (125, [some (.inr (.inr a0)), some (.inr (.inr a1)), some (.inl x2)], r.toList ++ [], σ') Φ)) : pe_X d 15 (110, [some (.inr (.inr a0)), some (.inr (.inr a1)), some (.inl x2)], [], σ) Φ := by
  refine pe_blk 62 8 ck15 [pe_K σ a0 = 2, 12 ≤ pe_K σ (pe_R σ a0 3) ∧ pe_K σ (pe_R σ a0 3) < 19, 0 ≤ (pe_w x2), (pe_w x2) < pe_L σ (pe_R σ a0 3), pe_K σ a1 = 2, 12 ≤ pe_K σ (pe_R σ a1 3) ∧ pe_K σ (pe_R σ a1 3) < 19, 0 ≤ (pe_w x2), (pe_w x2) < pe_L σ (pe_R σ a1 3)] (122, [some (.inr (.inr a0)), some (.inr (.inr a1)), some (.inl x2)], [.inr (.inr (pe_R σ (pe_R σ a1 3) (pe_w x2))), .inr (.inr (pe_R σ (pe_R σ a0 3) (pe_w x2)))], σ) rfl ?_ ?_
  · first
    | (simp (disch := omega) only [pe_all, pe_wi w0, pe_K_wI, pe_K_wR, pe_L_wI, pe_L_wR, pe_R_nej, pe_R_ner, pe_R_wI, pk_mE4 f_a0 (i := x2) (by omega) (by omega), pk_mE4 f_a1 (i := x2) (by omega) (by omega), pk_mK f_a0, pk_mK f_a1, pk_mK4 f_a0, pk_mK4 f_a1, pk_mL4 f_a0, pk_mL4 f_a1, pk_mR4 f_a0, pk_mR4 f_a1, pk_qK (pk_mG f_a0 (i := x2) (by omega) (by omega))]; done)
    | (simp (disch := omega) only [pe_all, pe_wi w0, pe_K_wI, pe_K_wR, pe_L_wI, pe_L_wR, pe_R_nej, pe_R_ner, pe_R_wI, pk_mE4 f_a0 (i := x2) (by omega) (by omega), pk_mE4 f_a1 (i := x2) (by omega) (by omega), pk_mK f_a0, pk_mK f_a1, pk_mK4 f_a0, pk_mK4 f_a1, pk_mL4 f_a0, pk_mL4 f_a1, pk_mR4 f_a0, pk_mR4 f_a1, pk_qK (pk_mG f_a0 (i := x2) (by omega) (by omega))]; (repeat' apply And.intro) <;> first | assumption | omega | decide)
  · try simp (disch := omega) only [pe_wi w0, pe_K_wI, pe_K_wR, pe_L_wI, pe_L_wR, pe_R_nej, pe_R_ner, pe_R_wI, pk_mE4 f_a0 (i := x2) (by omega) (by omega), pk_mE4 f_a1 (i := x2) (by omega) (by omega), pk_mK f_a0, pk_mK f_a1, pk_mK4 f_a0, pk_mK4 f_a1, pk_mL4 f_a0, pk_mL4 f_a1, pk_mR4 f_a0, pk_mR4 f_a1, pk_qK (pk_mG f_a0 (i := x2) (by omega) (by omega))]
    have hrc : pe_K σ (pk_g a0 x2) = 5 := by first | assumption | (simp (disch := omega) only [pe_wi w0, pe_K_wI, pe_K_wR, pe_L_wI, pe_L_wR, pe_R_nej, pe_R_ner, pe_R_wI, pk_mE4 f_a0 (i := x2) (by omega) (by omega), pk_mE4 f_a1 (i := x2) (by omega) (by omega), pk_mK f_a0, pk_mK f_a1, pk_mK4 f_a0, pk_mK4 f_a1, pk_mL4 f_a0, pk_mL4 f_a1, pk_mR4 f_a0, pk_mR4 f_a1, pk_qK (pk_mG f_a0 (i := x2) (by omega) (by omega))]; done) | (simp (disch := omega) only [pe_wi w0, pe_K_wI, pe_K_wR, pe_L_wI, pe_L_wR, pe_R_nej, pe_R_ner, pe_R_wI, pk_mE4 f_a0 (i := x2) (by omega) (by omega), pk_mE4 f_a1 (i := x2) (by omega) (by omega), pk_mK f_a0, pk_mK f_a1, pk_mK4 f_a0, pk_mK4 f_a1, pk_mL4 f_a0, pk_mL4 f_a1, pk_mR4 f_a0, pk_mR4 f_a1, pk_qK (pk_mG f_a0 (i := x2) (by omega) (by omega))]; assumption)
    exact pe_cal 70 ck15 rfl rfl rfl ⟨hrc, by decide⟩ k
set_option maxRecDepth 8000 in
theorem b15_125 {d : Nat} {Φ : Option pe_V → pe_H → Prop} {σ : pe_H} {a0 : Nat} {a1 : Nat} {x2 : Int} (f_a0 : pk_Fm a0 σ := by assumption) (f_a1 : pk_Fm a1 σ := by assumption)   (k : pe_X d 15 (90, [some (.inr (.inr a0)), some (.inr (.inr a1)), some (.inl (x2 + 1))], [], σ) Φ) : pe_X d 15 (125, [some (.inr (.inr a0)), some (.inr (.inr a1)), some (.inl x2)], [], σ) Φ := by
  refine pe_blk 71 2 ck15 [] (90, [some (.inr (.inr a0)), some (.inr (.inr a1)), some (.inl (x2 + 1))], [], σ) rfl ?_ ?_
  · exact trivial
  · exact k
set_option maxRecDepth 8000 in
theorem b15_131 {d : Nat} {Φ : Option pe_V → pe_H → Prop} {σ : pe_H} {a0 : Nat} {a1 : Nat} {o2 : Option pe_V} (f_a0 : pk_Fm a0 σ := by assumption) (f_a1 : pk_Fm a1 σ := by assumption) (w0 : pe_in (pe_I σ a0 12) := by unfold pe_in; omega) (h0 : 0 ≤ (pe_I σ a0 12) := by first | assumption | omega) (h1 : 0 + (pe_I σ a0 12) ≤ 512 := by first | assumption | omega) (k : Φ none (pe_cpy (pe_cpy σ (a1 + 7) 0 (a0 + 7) 0 (pe_I σ a0 12)) (a1 + 8) 0 (a0 + 8) 0 (pe_I σ a0 12))) : pe_X d 15 (131, [some (.inr (.inr a0)), some (.inr (.inr a1)), o2], [], σ) Φ := by
  have hX0 := pk_m2 f_a0
  refine pe_blk 73 18 ck15 [pe_K σ a1 = 2, pe_K σ a0 = 2, pe_K σ a0 = 2, pe_K σ (pe_R σ a1 10) = 10, pe_K σ (pe_R σ a0 10) = 10, 2 ≤ (pe_R σ a0 10), 0 ≤ (pe_w 0), 0 ≤ (pe_w 0), 0 ≤ (pe_w (pe_I σ a0 12)), (pe_w 0) + (pe_w (pe_I σ a0 12)) ≤ pe_L σ (pe_R σ a1 10), (pe_w 0) + (pe_w (pe_I σ a0 12)) ≤ pe_L σ (pe_R σ a0 10), pe_K (pe_cpy σ (pe_R σ a1 10) (pe_w 0) (pe_R σ a0 10) (pe_w 0) (pe_w (pe_I σ a0 12))) a1 = 2, pe_K (pe_cpy σ (pe_R σ a1 10) (pe_w 0) (pe_R σ a0 10) (pe_w 0) (pe_w (pe_I σ a0 12))) a0 = 2, pe_K (pe_cpy σ (pe_R σ a1 10) (pe_w 0) (pe_R σ a0 10) (pe_w 0) (pe_w (pe_I σ a0 12))) a0 = 2, pe_K (pe_cpy σ (pe_R σ a1 10) (pe_w 0) (pe_R σ a0 10) (pe_w 0) (pe_w (pe_I σ a0 12))) (pe_R (pe_cpy σ (pe_R σ a1 10) (pe_w 0) (pe_R σ a0 10) (pe_w 0) (pe_w (pe_I σ a0 12))) a1 11) = 10, pe_K (pe_cpy σ (pe_R σ a1 10) (pe_w 0) (pe_R σ a0 10) (pe_w 0) (pe_w (pe_I σ a0 12))) (pe_R (pe_cpy σ (pe_R σ a1 10) (pe_w 0) (pe_R σ a0 10) (pe_w 0) (pe_w (pe_I σ a0 12))) a0 11) = 10, 2 ≤ (pe_R (pe_cpy σ (pe_R σ a1 10) (pe_w 0) (pe_R σ a0 10) (pe_w 0) (pe_w (pe_I σ a0 12))) a0 11), 0 ≤ (pe_w 0), 0 ≤ (pe_w 0), 0 ≤ (pe_w (pe_I (pe_cpy σ (pe_R σ a1 10) (pe_w 0) (pe_R σ a0 10) (pe_w 0) (pe_w (pe_I σ a0 12))) a0 12)), (pe_w 0) + (pe_w (pe_I (pe_cpy σ (pe_R σ a1 10) (pe_w 0) (pe_R σ a0 10) (pe_w 0) (pe_w (pe_I σ a0 12))) a0 12)) ≤ pe_L (pe_cpy σ (pe_R σ a1 10) (pe_w 0) (pe_R σ a0 10) (pe_w 0) (pe_w (pe_I σ a0 12))) (pe_R (pe_cpy σ (pe_R σ a1 10) (pe_w 0) (pe_R σ a0 10) (pe_w 0) (pe_w (pe_I σ a0 12))) a1 11), (pe_w 0) + (pe_w (pe_I (pe_cpy σ (pe_R σ a1 10) (pe_w 0) (pe_R σ a0 10) (pe_w 0) (pe_w (pe_I σ a0 12))) a0 12)) ≤ pe_L (pe_cpy σ (pe_R σ a1 10) (pe_w 0) (pe_R σ a0 10) (pe_w 0) (pe_w (pe_I σ a0 12))) (pe_R (pe_cpy σ (pe_R σ a1 10) (pe_w 0) (pe_R σ a0 10) (pe_w 0) (pe_w (pe_I σ a0 12))) a0 11)] (165, [some (.inr (.inr a0)), some (.inr (.inr a1)), o2], [], pe_cpy (pe_cpy σ (pe_R σ a1 10) (pe_w 0) (pe_R σ a0 10) (pe_w 0) (pe_w (pe_I σ a0 12))) (pe_R (pe_cpy σ (pe_R σ a1 10) (pe_w 0) (pe_R σ a0 10) (pe_w 0) (pe_w (pe_I σ a0 12))) a1 11) (pe_w 0) (pe_R (pe_cpy σ (pe_R σ a1 10) (pe_w 0) (pe_R σ a0 10) (pe_w 0) (pe_w (pe_I σ a0 12))) a0 11) (pe_w 0) (pe_w (pe_I (pe_cpy σ (pe_R σ a1 10) (pe_w 0) (pe_R σ a0 10) (pe_w 0) (pe_w (pe_I σ a0 12))) a0 12))) rfl ?_ ?_
  · first
    | (simp (disch := omega) only [pe_all, pe_wi w0, pe_wi (x := 0) ⟨by decide, by decide⟩, pe_I_cpy, pe_K_cpy, pe_K_wI, pe_K_wR, pe_L_cpy, pe_L_wI, pe_L_wR, pe_R_cpy, pe_R_nej, pe_R_ner, pe_R_wI, pk_mK f_a0, pk_mK f_a1, pk_mK7 f_a0, pk_mK7 f_a1, pk_mK8 f_a0, pk_mK8 f_a1, pk_mL7 f_a0, pk_mL7 f_a1, pk_mL8 f_a0, pk_mL8 f_a1, pk_mR7 f_a0, pk_mR7 f_a1, pk_mR8 f_a0, pk_mR8 f_a1]; done)
    | (simp (disch := omega) only [pe_all, pe_wi w0, pe_wi (x := 0) ⟨by decide, by decide⟩, pe_I_cpy, pe_K_cpy, pe_K_wI, pe_K_wR, pe_L_cpy, pe_L_wI, pe_L_wR, pe_R_cpy, pe_R_nej, pe_R_ner, pe_R_wI, pk_mK f_a0, pk_mK f_a1, pk_mK7 f_a0, pk_mK7 f_a1, pk_mK8 f_a0, pk_mK8 f_a1, pk_mL7 f_a0, pk_mL7 f_a1, pk_mL8 f_a0, pk_mL8 f_a1, pk_mR7 f_a0, pk_mR7 f_a1, pk_mR8 f_a0, pk_mR8 f_a1]; (repeat' apply And.intro) <;> first | assumption | omega | decide)
  · try simp (disch := omega) only [pe_wi w0, pe_wi (x := 0) ⟨by decide, by decide⟩, pe_I_cpy, pe_K_cpy, pe_K_wI, pe_K_wR, pe_L_cpy, pe_L_wI, pe_L_wR, pe_R_cpy, pe_R_nej, pe_R_ner, pe_R_wI, pk_mK f_a0, pk_mK f_a1, pk_mK7 f_a0, pk_mK7 f_a1, pk_mK8 f_a0, pk_mK8 f_a1, pk_mL7 f_a0, pk_mL7 f_a1, pk_mL8 f_a0, pk_mL8 f_a1, pk_mR7 f_a0, pk_mR7 f_a1, pk_mR8 f_a0, pk_mR8 f_a1]
    exact pe_fine 91 ck15 rfl rfl rfl trivial k
-- StepMachines$Machine.allBits()I
def T16 : List (Nat × Instr × Nat) := [(0, .iconst 1, 1), (1, .aload_n 0, 1), (2, .getfield 32, 3), (5, .ishl, 1), (6, .iconst 1, 1), (7, .isub, 1), (8, .ireturn, 1)]
theorem ck16 : pe_ctx 16 2 false (some .int) 1 T16 := ⟨rfl, rfl, rfl, rfl, by decide +kernel, by decide, by decide⟩
theorem b16_0 {d : Nat} {Φ : Option pe_V → pe_H → Prop} {σ : pe_H} {a0 : Nat} (f_a0 : pk_Fm a0 σ := by assumption)   (k : Φ (some (.inl ((pe_shl 1 (pe_I σ a0 4)) - 1))) σ) : pe_X d 16 (0, [some (.inr (.inr a0))], [], σ) Φ := by
  refine pe_blk 0 6 ck16 [pe_K σ a0 = 2] (8, [some (.inr (.inr a0))], [.inl ((pe_shl 1 (pe_I σ a0 4)) - 1)], σ) rfl ?_ ?_
  · first
    | (simp (disch := omega) only [pe_all, pe_K_wI, pe_K_wR, pk_mK f_a0]; done)
    | (simp (disch := omega) only [pe_all, pe_K_wI, pe_K_wR, pk_mK f_a0]; (repeat' apply And.intro) <;> first | assumption | omega | decide)
  · try simp (disch := omega) only [pe_K_wI, pe_K_wR, pk_mK f_a0]
    exact pe_fine 6 ck16 rfl rfl rfl trivial k
-- StepMachines$Machine.endedBits()I
def T17 : List (Nat × Instr × Nat) := [(0, .iconst 0, 1), (1, .istore_n 1, 1), (2, .iconst 0, 1), (3, .istore_n 2, 1), (4, .iload_n 2, 1), (5, .aload_n 0, 1), (6, .getfield 32, 3), (9, .if_icmp .ge 27, 3), (12, .aload_n 0, 1), (13, .getfield 19, 3), (16, .iload_n 2, 1), (17, .aaload, 1), (18, .invokevirtual 79, 3), (21, .ifCond .eq 9, 3), (24, .iload_n 1, 1), (25, .iconst 1, 1), (26, .iload_n 2, 1), (27, .ishl, 1), (28, .ior, 1), (29, .istore_n 1, 1), (30, .iinc 2 1, 3), (33, .goto (-29), 3), (36, .iload_n 1, 1), (37, .ireturn, 1)]
theorem ck17 : pe_ctx 17 2 false (some .int) 3 T17 := ⟨rfl, rfl, rfl, rfl, by decide +kernel, by decide, by decide⟩
theorem b17_0 {d : Nat} {Φ : Option pe_V → pe_H → Prop} {σ : pe_H} {a0 : Nat} {o1 : Option pe_V} {o2 : Option pe_V} (f_a0 : pk_Fm a0 σ := by assumption)   (k : pe_X d 17 (4, [some (.inr (.inr a0)), some (.inl 0), some (.inl 0)], [], σ) Φ) : pe_X d 17 (0, [some (.inr (.inr a0)), o1, o2], [], σ) Φ := by
  refine pe_blk 0 4 ck17 [] (4, [some (.inr (.inr a0)), some (.inl 0), some (.inl 0)], [], σ) rfl ?_ ?_
  · exact trivial
  · exact k
theorem b17_4 {d : Nat} {Φ : Option pe_V → pe_H → Prop} {σ : pe_H} {a0 : Nat} {x1 : Int} {x2 : Int} (f_a0 : pk_Fm a0 σ := by assumption) (w0 : pe_in (pe_I σ a0 4) := by unfold pe_in; omega) (w1 : pe_in x2 := by unfold pe_in; omega)  (k1 : (pe_I σ a0 4) ≤ x2 → pe_X d 17 (36, [some (.inr (.inr a0)), some (.inl x1), some (.inl x2)], [], σ) Φ) (k2 : ¬ ((pe_I σ a0 4) ≤ x2) → pe_X d 17 (12, [some (.inr (.inr a0)), some (.inl x1), some (.inl x2)], [], σ) Φ) : pe_X d 17 (4, [some (.inr (.inr a0)), some (.inl x1), some (.inl x2)], [], σ) Φ := by
  refine pe_blk 4 4 ck17 [pe_K σ a0 = 2] (cond (decide ((pe_w (pe_I σ a0 4)) ≤ (pe_w x2))) 36 12, [some (.inr (.inr a0)), some (.inl x1), some (.inl x2)], [], σ) rfl ?_ ?_
  · first
    | (simp (disch := omega) only [pe_all, pe_wi w0, pe_wi w1, pe_K_wI, pe_K_wR, pk_mK f_a0]; done)
    | (simp (disch := omega) only [pe_all, pe_wi w0, pe_wi w1, pe_K_wI, pe_K_wR, pk_mK f_a0]; (repeat' apply And.intro) <;> first | assumption | omega | decide)
  · try simp (disch := omega) only [pe_wi w0, pe_wi w1, pe_K_wI, pe_K_wR, pk_mK f_a0]
    exact pe_two k1 k2
theorem b17_12 {d : Nat} {Φ : Option pe_V → pe_H → Prop} {σ : pe_H} {a0 : Nat} {x1 : Int} {x2 : Int} (f_a0 : pk_Fm a0 σ := by assumption) (w0 : pe_in x2 := by unfold pe_in; omega) (h0 : 0 ≤ x2 := by first | assumption | omega) (h1 : x2 < 8 := by first | assumption | omega) (k : pe_M d 3 [.inr (.inr (pk_c a0 x2))] σ (fun r σ' => pe_X d 17 (21, [some (.inr (.inr a0)), some (.inl x1), some (.inl x2)], r.toList ++ [], σ') Φ)) : pe_X d 17 (12, [some (.inr (.inr a0)), some (.inl x1), some (.inl x2)], [], σ) Φ := by
  refine pe_blk 8 4 ck17 [pe_K σ a0 = 2, 12 ≤ pe_K σ (pe_R σ a0 1) ∧ pe_K σ (pe_R σ a0 1) < 19, 0 ≤ (pe_w x2), (pe_w x2) < pe_L σ (pe_R σ a0 1)] (18, [some (.inr (.inr a0)), some (.inl x1), some (.inl x2)], [.inr (.inr (pe_R σ (pe_R σ a0 1) (pe_w x2)))], σ) rfl ?_ ?_
  · first
    | (simp (disch := omega) only [pe_all, pe_wi w0, pe_K_wI, pe_K_wR, pe_L_wI, pe_L_wR, pe_R_nej, pe_R_ner, pe_R_wI, pk_mE2 f_a0 (i := x2) (by omega) (by omega), pk_mK f_a0, pk_mK2 f_a0, pk_mL2 f_a0, pk_mR2 f_a0, pk_oK (pk_mO f_a0 (i := x2) (by omega) (by omega))]; done)
    | (simp (disch := omega) only [pe_all, pe_wi w0, pe_K_wI, pe_K_wR, pe_L_wI, pe_L_wR, pe_R_nej, pe_R_ner, pe_R_wI, pk_mE2 f_a0 (i := x2) (by omega) (by omega), pk_mK f_a0, pk_mK2 f_a0, pk_mL2 f_a0, pk_mR2 f_a0, pk_oK (pk_mO f_a0 (i := x2) (by omega) (by omega))]; (repeat' apply And.intro) <;> first | assumption | omega | decide)
  · try simp (disch := omega) only [pe_wi w0, pe_K_wI, pe_K_wR, pe_L_wI, pe_L_wR, pe_R_nej, pe_R_ner, pe_R_wI, pk_mE2 f_a0 (i := x2) (by omega) (by omega), pk_mK f_a0, pk_mK2 f_a0, pk_mL2 f_a0, pk_mR2 f_a0, pk_oK (pk_mO f_a0 (i := x2) (by omega) (by omega))]
    have hrc : pe_K σ (pk_c a0 x2) = 0 := by first | assumption | (simp (disch := omega) only [pe_wi w0, pe_K_wI, pe_K_wR, pe_L_wI, pe_L_wR, pe_R_nej, pe_R_ner, pe_R_wI, pk_mE2 f_a0 (i := x2) (by omega) (by omega), pk_mK f_a0, pk_mK2 f_a0, pk_mL2 f_a0, pk_mR2 f_a0, pk_oK (pk_mO f_a0 (i := x2) (by omega) (by omega))]; done) | (simp (disch := omega) only [pe_wi w0, pe_K_wI, pe_K_wR, pe_L_wI, pe_L_wR, pe_R_nej, pe_R_ner, pe_R_wI, pk_mE2 f_a0 (i := x2) (by omega) (by omega), pk_mK f_a0, pk_mK2 f_a0, pk_mL2 f_a0, pk_mR2 f_a0, pk_oK (pk_mO f_a0 (i := x2) (by omega) (by omega))]; assumption)
    exact pe_cal 12 ck17 rfl rfl rfl ⟨hrc, by decide⟩ k
theorem b17_21 {d : Nat} {Φ : Option pe_V → pe_H → Prop} {σ : pe_H} {a0 : Nat} {x1 : Int} {x2 : Int} {s0 : Int} (f_a0 : pk_Fm a0 σ := by assumption) (w0 : pe_in s0 := by unfold pe_in; omega)  (k1 : s0 = 0 → pe_X d 17 (30, [some (.inr (.inr a0)), some (.inl x1), some (.inl x2)], [], σ) Φ) (k2 : ¬ (s0 = 0) → pe_X d 17 (24, [some (.inr (.inr a0)), some (.inl x1), some (.inl x2)], [], σ) Φ) : pe_X d 17 (21, [some (.inr (.inr a0)), some (.inl x1), some (.inl x2)], [.inl s0], σ) Φ := by
  refine pe_blk 13 1 ck17 [] (cond (decide ((pe_w s0) = 0)) 30 24, [some (.inr (.inr a0)), some (.inl x1), some (.inl x2)], [], σ) rfl ?_ ?_
  · exact trivial
  · try simp (disch := omega) only [pe_wi w0]
    exact pe_two k1 k2
theorem b17_24 {d : Nat} {Φ : Option pe_V → pe_H → Prop} {σ : pe_H} {a0 : Nat} {x1 : Int} {x2 : Int} (f_a0 : pk_Fm a0 σ := by assumption)   (k : pe_X d 17 (30, [some (.inr (.inr a0)), some (.inl (pe_or x1 (pe_shl 1 x2))), some (.inl x2)], [], σ) Φ) : pe_X d 17 (24, [some (.inr (.inr a0)), some (.inl x1), some (.inl x2)], [], σ) Φ := by
  refine pe_blk 14 6 ck17 [] (30, [some (.inr (.inr a0)), some (.inl (pe_or x1 (pe_shl 1 x2))), some (.inl x2)], [], σ) rfl ?_ ?_
  · exact trivial
  · exact k
theorem b17_30 {d : Nat} {Φ : Option pe_V → pe_H → Prop} {σ : pe_H} {a0 : Nat} {x1 : Int} {x2 : Int} (f_a0 : pk_Fm a0 σ := by assumption)   (k : pe_X d 17 (4, [some (.inr (.inr a0)), some (.inl x1), some (.inl (x2 + 1))], [], σ) Φ) : pe_X d 17 (30, [some (.inr (.inr a0)), some (.inl x1), some (.inl x2)], [], σ) Φ := by
  refine pe_blk 20 2 ck17 [] (4, [some (.inr (.inr a0)), some (.inl x1), some (.inl (x2 + 1))], [], σ) rfl ?_ ?_
  · exact trivial
  · exact k
theorem b17_36 {d : Nat} {Φ : Option pe_V → pe_H → Prop} {σ : pe_H} {o0 : Option pe_V} {x1 : Int} {o2 : Option pe_V}    (k : Φ (some (.inl x1)) σ) : pe_X d 17 (36, [o0, some (.inl x1), o2], [], σ) Φ := by
  refine pe_blk 22 1 ck17 [] (37, [o0, some (.inl x1), o2], [.inl x1], σ) rfl ?_ ?_
  · exact trivial
  · exact pe_fine 23 ck17 rfl rfl rfl trivial k
-- StepMachines$Machine.doneBits()I
-- StepMachines$Machine.ableBits()I
def T19 : List (Nat × Instr × Nat) := [(0, .iconst 0, 1), (1, .istore_n 1, 1), (2, .iconst 0, 1), (3, .istore_n 2, 1), (4, .iload_n 2, 1), (5, .aload_n 0, 1), (6, .getfield 32, 3), (9, .if_icmp .ge 27, 3), (12, .aload_n 0, 1), (13, .getfield 19, 3), (16, .iload_n 2, 1), (17, .aaload, 1), (18, .invokevirtual 86, 3), (21, .ifCond .eq 9, 3), (24, .iload_n 1, 1), (25, .iconst 1, 1), (26, .iload_n 2, 1), (27, .ishl, 1), (28, .ior, 1), (29, .istore_n 1, 1), (30, .iinc 2 1, 3), (33, .goto (-29), 3), (36, .iload_n 1, 1), (37, .ireturn, 1)]
theorem ck19 : pe_ctx 19 2 false (some .int) 3 T19 := ⟨rfl, rfl, rfl, rfl, by decide +kernel, by decide, by decide⟩
theorem b19_0 {d : Nat} {Φ : Option pe_V → pe_H → Prop} {σ : pe_H} {a0 : Nat} {o1 : Option pe_V} {o2 : Option pe_V} (f_a0 : pk_Fm a0 σ := by assumption)   (k : pe_X d 19 (4, [some (.inr (.inr a0)), some (.inl 0), some (.inl 0)], [], σ) Φ) : pe_X d 19 (0, [some (.inr (.inr a0)), o1, o2], [], σ) Φ := by
  refine pe_blk 0 4 ck19 [] (4, [some (.inr (.inr a0)), some (.inl 0), some (.inl 0)], [], σ) rfl ?_ ?_
  · exact trivial
  · exact k
theorem b19_4 {d : Nat} {Φ : Option pe_V → pe_H → Prop} {σ : pe_H} {a0 : Nat} {x1 : Int} {x2 : Int} (f_a0 : pk_Fm a0 σ := by assumption) (w0 : pe_in (pe_I σ a0 4) := by unfold pe_in; omega) (w1 : pe_in x2 := by unfold pe_in; omega)  (k1 : (pe_I σ a0 4) ≤ x2 → pe_X d 19 (36, [some (.inr (.inr a0)), some (.inl x1), some (.inl x2)], [], σ) Φ) (k2 : ¬ ((pe_I σ a0 4) ≤ x2) → pe_X d 19 (12, [some (.inr (.inr a0)), some (.inl x1), some (.inl x2)], [], σ) Φ) : pe_X d 19 (4, [some (.inr (.inr a0)), some (.inl x1), some (.inl x2)], [], σ) Φ := by
  refine pe_blk 4 4 ck19 [pe_K σ a0 = 2] (cond (decide ((pe_w (pe_I σ a0 4)) ≤ (pe_w x2))) 36 12, [some (.inr (.inr a0)), some (.inl x1), some (.inl x2)], [], σ) rfl ?_ ?_
  · first
    | (simp (disch := omega) only [pe_all, pe_wi w0, pe_wi w1, pe_K_wI, pe_K_wR, pk_mK f_a0]; done)
    | (simp (disch := omega) only [pe_all, pe_wi w0, pe_wi w1, pe_K_wI, pe_K_wR, pk_mK f_a0]; (repeat' apply And.intro) <;> first | assumption | omega | decide)
  · try simp (disch := omega) only [pe_wi w0, pe_wi w1, pe_K_wI, pe_K_wR, pk_mK f_a0]
    exact pe_two k1 k2
theorem b19_12 {d : Nat} {Φ : Option pe_V → pe_H → Prop} {σ : pe_H} {a0 : Nat} {x1 : Int} {x2 : Int} (f_a0 : pk_Fm a0 σ := by assumption) (w0 : pe_in x2 := by unfold pe_in; omega) (h0 : 0 ≤ x2 := by first | assumption | omega) (h1 : x2 < 8 := by first | assumption | omega) (k : pe_M d 4 [.inr (.inr (pk_c a0 x2))] σ (fun r σ' => pe_X d 19 (21, [some (.inr (.inr a0)), some (.inl x1), some (.inl x2)], r.toList ++ [], σ') Φ)) : pe_X d 19 (12, [some (.inr (.inr a0)), some (.inl x1), some (.inl x2)], [], σ) Φ := by
  refine pe_blk 8 4 ck19 [pe_K σ a0 = 2, 12 ≤ pe_K σ (pe_R σ a0 1) ∧ pe_K σ (pe_R σ a0 1) < 19, 0 ≤ (pe_w x2), (pe_w x2) < pe_L σ (pe_R σ a0 1)] (18, [some (.inr (.inr a0)), some (.inl x1), some (.inl x2)], [.inr (.inr (pe_R σ (pe_R σ a0 1) (pe_w x2)))], σ) rfl ?_ ?_
  · first
    | (simp (disch := omega) only [pe_all, pe_wi w0, pe_K_wI, pe_K_wR, pe_L_wI, pe_L_wR, pe_R_nej, pe_R_ner, pe_R_wI, pk_mE2 f_a0 (i := x2) (by omega) (by omega), pk_mK f_a0, pk_mK2 f_a0, pk_mL2 f_a0, pk_mR2 f_a0, pk_oK (pk_mO f_a0 (i := x2) (by omega) (by omega))]; done)
    | (simp (disch := omega) only [pe_all, pe_wi w0, pe_K_wI, pe_K_wR, pe_L_wI, pe_L_wR, pe_R_nej, pe_R_ner, pe_R_wI, pk_mE2 f_a0 (i := x2) (by omega) (by omega), pk_mK f_a0, pk_mK2 f_a0, pk_mL2 f_a0, pk_mR2 f_a0, pk_oK (pk_mO f_a0 (i := x2) (by omega) (by omega))]; (repeat' apply And.intro) <;> first | assumption | omega | decide)
  · try simp (disch := omega) only [pe_wi w0, pe_K_wI, pe_K_wR, pe_L_wI, pe_L_wR, pe_R_nej, pe_R_ner, pe_R_wI, pk_mE2 f_a0 (i := x2) (by omega) (by omega), pk_mK f_a0, pk_mK2 f_a0, pk_mL2 f_a0, pk_mR2 f_a0, pk_oK (pk_mO f_a0 (i := x2) (by omega) (by omega))]
    have hrc : pe_K σ (pk_c a0 x2) = 0 := by first | assumption | (simp (disch := omega) only [pe_wi w0, pe_K_wI, pe_K_wR, pe_L_wI, pe_L_wR, pe_R_nej, pe_R_ner, pe_R_wI, pk_mE2 f_a0 (i := x2) (by omega) (by omega), pk_mK f_a0, pk_mK2 f_a0, pk_mL2 f_a0, pk_mR2 f_a0, pk_oK (pk_mO f_a0 (i := x2) (by omega) (by omega))]; done) | (simp (disch := omega) only [pe_wi w0, pe_K_wI, pe_K_wR, pe_L_wI, pe_L_wR, pe_R_nej, pe_R_ner, pe_R_wI, pk_mE2 f_a0 (i := x2) (by omega) (by omega), pk_mK f_a0, pk_mK2 f_a0, pk_mL2 f_a0, pk_mR2 f_a0, pk_oK (pk_mO f_a0 (i := x2) (by omega) (by omega))]; assumption)
    exact pe_cal 12 ck19 rfl rfl rfl ⟨hrc, by decide⟩ k
theorem b19_21 {d : Nat} {Φ : Option pe_V → pe_H → Prop} {σ : pe_H} {a0 : Nat} {x1 : Int} {x2 : Int} {s0 : Int} (f_a0 : pk_Fm a0 σ := by assumption) (w0 : pe_in s0 := by unfold pe_in; omega)  (k1 : s0 = 0 → pe_X d 19 (30, [some (.inr (.inr a0)), some (.inl x1), some (.inl x2)], [], σ) Φ) (k2 : ¬ (s0 = 0) → pe_X d 19 (24, [some (.inr (.inr a0)), some (.inl x1), some (.inl x2)], [], σ) Φ) : pe_X d 19 (21, [some (.inr (.inr a0)), some (.inl x1), some (.inl x2)], [.inl s0], σ) Φ := by
  refine pe_blk 13 1 ck19 [] (cond (decide ((pe_w s0) = 0)) 30 24, [some (.inr (.inr a0)), some (.inl x1), some (.inl x2)], [], σ) rfl ?_ ?_
  · exact trivial
  · try simp (disch := omega) only [pe_wi w0]
    exact pe_two k1 k2
theorem b19_24 {d : Nat} {Φ : Option pe_V → pe_H → Prop} {σ : pe_H} {a0 : Nat} {x1 : Int} {x2 : Int} (f_a0 : pk_Fm a0 σ := by assumption)   (k : pe_X d 19 (30, [some (.inr (.inr a0)), some (.inl (pe_or x1 (pe_shl 1 x2))), some (.inl x2)], [], σ) Φ) : pe_X d 19 (24, [some (.inr (.inr a0)), some (.inl x1), some (.inl x2)], [], σ) Φ := by
  refine pe_blk 14 6 ck19 [] (30, [some (.inr (.inr a0)), some (.inl (pe_or x1 (pe_shl 1 x2))), some (.inl x2)], [], σ) rfl ?_ ?_
  · exact trivial
  · exact k
theorem b19_30 {d : Nat} {Φ : Option pe_V → pe_H → Prop} {σ : pe_H} {a0 : Nat} {x1 : Int} {x2 : Int} (f_a0 : pk_Fm a0 σ := by assumption)   (k : pe_X d 19 (4, [some (.inr (.inr a0)), some (.inl x1), some (.inl (x2 + 1))], [], σ) Φ) : pe_X d 19 (30, [some (.inr (.inr a0)), some (.inl x1), some (.inl x2)], [], σ) Φ := by
  refine pe_blk 20 2 ck19 [] (4, [some (.inr (.inr a0)), some (.inl x1), some (.inl (x2 + 1))], [], σ) rfl ?_ ?_
  · exact trivial
  · exact k
theorem b19_36 {d : Nat} {Φ : Option pe_V → pe_H → Prop} {σ : pe_H} {o0 : Option pe_V} {x1 : Int} {o2 : Option pe_V}    (k : Φ (some (.inl x1)) σ) : pe_X d 19 (36, [o0, some (.inl x1), o2], [], σ) Φ := by
  refine pe_blk 22 1 ck19 [] (37, [o0, some (.inl x1), o2], [.inl x1], σ) rfl ?_ ?_
  · exact trivial
  · exact pe_fine 23 ck19 rfl rfl rfl trivial k
-- StepMachines$Machine.outsOfAll()I
def T20 : List (Nat × Instr × Nat) := [(0, .iconst 0, 1), (1, .istore_n 1, 1), (2, .iconst 0, 1), (3, .istore_n 2, 1), (4, .iload_n 2, 1), (5, .aload_n 0, 1), (6, .getfield 32, 3), (9, .if_icmp .ge 21, 3), (12, .iload_n 1, 1), (13, .aload_n 0, 1), (14, .getfield 19, 3), (17, .iload_n 2, 1), (18, .aaload, 1), (19, .getfield 89, 3), (22, .iadd, 1), (23, .istore_n 1, 1), (24, .iinc 2 1, 3), (27, .goto (-23), 3), (30, .iload_n 1, 1), (31, .ireturn, 1)]
theorem ck20 : pe_ctx 20 2 false (some .int) 3 T20 := ⟨rfl, rfl, rfl, rfl, by decide +kernel, by decide, by decide⟩
theorem b20_0 {d : Nat} {Φ : Option pe_V → pe_H → Prop} {σ : pe_H} {a0 : Nat} {o1 : Option pe_V} {o2 : Option pe_V} (f_a0 : pk_Fm a0 σ := by assumption)   (k : pe_X d 20 (4, [some (.inr (.inr a0)), some (.inl 0), some (.inl 0)], [], σ) Φ) : pe_X d 20 (0, [some (.inr (.inr a0)), o1, o2], [], σ) Φ := by
  refine pe_blk 0 4 ck20 [] (4, [some (.inr (.inr a0)), some (.inl 0), some (.inl 0)], [], σ) rfl ?_ ?_
  · exact trivial
  · exact k
theorem b20_4 {d : Nat} {Φ : Option pe_V → pe_H → Prop} {σ : pe_H} {a0 : Nat} {x1 : Int} {x2 : Int} (f_a0 : pk_Fm a0 σ := by assumption) (w0 : pe_in (pe_I σ a0 4) := by unfold pe_in; omega) (w1 : pe_in x2 := by unfold pe_in; omega)  (k1 : (pe_I σ a0 4) ≤ x2 → pe_X d 20 (30, [some (.inr (.inr a0)), some (.inl x1), some (.inl x2)], [], σ) Φ) (k2 : ¬ ((pe_I σ a0 4) ≤ x2) → pe_X d 20 (12, [some (.inr (.inr a0)), some (.inl x1), some (.inl x2)], [], σ) Φ) : pe_X d 20 (4, [some (.inr (.inr a0)), some (.inl x1), some (.inl x2)], [], σ) Φ := by
  refine pe_blk 4 4 ck20 [pe_K σ a0 = 2] (cond (decide ((pe_w (pe_I σ a0 4)) ≤ (pe_w x2))) 30 12, [some (.inr (.inr a0)), some (.inl x1), some (.inl x2)], [], σ) rfl ?_ ?_
  · first
    | (simp (disch := omega) only [pe_all, pe_wi w0, pe_wi w1, pe_K_wI, pe_K_wR, pk_mK f_a0]; done)
    | (simp (disch := omega) only [pe_all, pe_wi w0, pe_wi w1, pe_K_wI, pe_K_wR, pk_mK f_a0]; (repeat' apply And.intro) <;> first | assumption | omega | decide)
  · try simp (disch := omega) only [pe_wi w0, pe_wi w1, pe_K_wI, pe_K_wR, pk_mK f_a0]
    exact pe_two k1 k2
theorem b20_12 {d : Nat} {Φ : Option pe_V → pe_H → Prop} {σ : pe_H} {a0 : Nat} {x1 : Int} {x2 : Int} (f_a0 : pk_Fm a0 σ := by assumption) (w0 : pe_in x2 := by unfold pe_in; omega) (h0 : 0 ≤ x2 := by first | assumption | omega) (h1 : x2 < 8 := by first | assumption | omega) (k : pe_X d 20 (4, [some (.inr (.inr a0)), some (.inl (x1 + (pe_I σ (pk_c a0 x2) 5))), some (.inl (x2 + 1))], [], σ) Φ) : pe_X d 20 (12, [some (.inr (.inr a0)), some (.inl x1), some (.inl x2)], [], σ) Φ := by
  refine pe_blk 8 10 ck20 [pe_K σ a0 = 2, 12 ≤ pe_K σ (pe_R σ a0 1) ∧ pe_K σ (pe_R σ a0 1) < 19, 0 ≤ (pe_w x2), (pe_w x2) < pe_L σ (pe_R σ a0 1), pe_K σ (pe_R σ (pe_R σ a0 1) (pe_w x2)) = 0] (4, [some (.inr (.inr a0)), some (.inl (x1 + (pe_I σ (pe_R σ (pe_R σ a0 1) (pe_w x2)) 5))), some (.inl (x2 + 1))], [], σ) rfl ?_ ?_
  · first
    | (simp (disch := omega) only [pe_all, pe_wi w0, pe_K_wI, pe_K_wR, pe_L_wI, pe_L_wR, pe_R_nej, pe_R_ner, pe_R_wI, pk_mE2 f_a0 (i := x2) (by omega) (by omega), pk_mK f_a0, pk_mK2 f_a0, pk_mL2 f_a0, pk_mR2 f_a0, pk_oK (pk_mO f_a0 (i := x2) (by omega) (by omega))]; done)
    | (simp (disch := omega) only [pe_all, pe_wi w0, pe_K_wI, pe_K_wR, pe_L_wI, pe_L_wR, pe_R_nej, pe_R_ner, pe_R_wI, pk_mE2 f_a0 (i := x2) (by omega) (by omega), pk_mK f_a0, pk_mK2 f_a0, pk_mL2 f_a0, pk_mR2 f_a0, pk_oK (pk_mO f_a0 (i := x2) (by omega) (by omega))]; (repeat' apply And.intro) <;> first | assumption | omega | decide)
  · try simp (disch := omega) only [pe_wi w0, pe_K_wI, pe_K_wR, pe_L_wI, pe_L_wR, pe_R_nej, pe_R_ner, pe_R_wI, pk_mE2 f_a0 (i := x2) (by omega) (by omega), pk_mK f_a0, pk_mK2 f_a0, pk_mL2 f_a0, pk_mR2 f_a0, pk_oK (pk_mO f_a0 (i := x2) (by omega) (by omega))]
    exact k
theorem b20_30 {d : Nat} {Φ : Option pe_V → pe_H → Prop} {σ : pe_H} {o0 : Option pe_V} {x1 : Int} {o2 : Option pe_V}    (k : Φ (some (.inl x1)) σ) : pe_X d 20 (30, [o0, some (.inl x1), o2], [], σ) Φ := by
  refine pe_blk 18 1 ck20 [] (31, [o0, some (.inl x1), o2], [.inl x1], σ) rfl ?_ ?_
  · exact trivial
  · exact pe_fine 19 ck20 rfl rfl rfl trivial k
-- StepMachines$Machine.codeOf(I)I
def T21 : List (Nat × Instr × Nat) := [(0, .iload_n 1, 1), (1, .ifCond .lt 20, 3), (4, .iload_n 1, 1), (5, .aload_n 0, 1), (6, .getfield 58, 3), (9, .if_icmp .ge 12, 3), (12, .aload_n 0, 1), (13, .getfield 52, 3), (16, .iload_n 1, 1), (17, .iaload, 1), (18, .goto 4, 3), (21, .iconst 0, 1), (22, .ireturn, 1)]
theorem ck21 : pe_ctx 21 2 false (some .int) 2 T21 := ⟨rfl, rfl, rfl, rfl, by decide +kernel, by decide, by decide⟩
theorem b21_0 {d : Nat} {Φ : Option pe_V → pe_H → Prop} {σ : pe_H} {a0 : Nat} {x1 : Int} (f_a0 : pk_Fm a0 σ := by assumption) (w0 : pe_in x1 := by unfold pe_in; omega)  (k1 : x1 < 0 → pe_X d 21 (21, [some (.inr (.inr a0)), some (.inl x1)], [], σ) Φ) (k2 : ¬ (x1 < 0) → pe_X d 21 (4, [some (.inr (.inr a0)), some (.inl x1)], [], σ) Φ) : pe_X d 21 (0, [some (.inr (.inr a0)), some (.inl x1)], [], σ) Φ := by
  refine pe_blk 0 2 ck21 [] (cond (decide ((pe_w x1) < 0)) 21 4, [some (.inr (.inr a0)), some (.inl x1)], [], σ) rfl ?_ ?_
  · exact trivial
  · try simp (disch := omega) only [pe_wi w0]
    exact pe_two k1 k2
theorem b21_4 {d : Nat} {Φ : Option pe_V → pe_H → Prop} {σ : pe_H} {a0 : Nat} {x1 : Int} (f_a0 : pk_Fm a0 σ := by assumption) (w0 : pe_in (pe_I σ a0 12) := by unfold pe_in; omega) (w1 : pe_in x1 := by unfold pe_in; omega)  (k1 : (pe_I σ a0 12) ≤ x1 → pe_X d 21 (21, [some (.inr (.inr a0)), some (.inl x1)], [], σ) Φ) (k2 : ¬ ((pe_I σ a0 12) ≤ x1) → pe_X d 21 (12, [some (.inr (.inr a0)), some (.inl x1)], [], σ) Φ) : pe_X d 21 (4, [some (.inr (.inr a0)), some (.inl x1)], [], σ) Φ := by
  refine pe_blk 2 4 ck21 [pe_K σ a0 = 2] (cond (decide ((pe_w (pe_I σ a0 12)) ≤ (pe_w x1))) 21 12, [some (.inr (.inr a0)), some (.inl x1)], [], σ) rfl ?_ ?_
  · first
    | (simp (disch := omega) only [pe_all, pe_wi w0, pe_wi w1, pe_K_wI, pe_K_wR, pk_mK f_a0]; done)
    | (simp (disch := omega) only [pe_all, pe_wi w0, pe_wi w1, pe_K_wI, pe_K_wR, pk_mK f_a0]; (repeat' apply And.intro) <;> first | assumption | omega | decide)
  · try simp (disch := omega) only [pe_wi w0, pe_wi w1, pe_K_wI, pe_K_wR, pk_mK f_a0]
    exact pe_two k1 k2
theorem b21_12 {d : Nat} {Φ : Option pe_V → pe_H → Prop} {σ : pe_H} {a0 : Nat} {x1 : Int} (f_a0 : pk_Fm a0 σ := by assumption) (w0 : pe_in x1 := by unfold pe_in; omega) (h0 : 0 ≤ x1 := by first | assumption | omega) (h1 : x1 < 512 := by first | assumption | omega) (k : pe_X d 21 (22, [some (.inr (.inr a0)), some (.inl x1)], [.inl (pe_I σ (a0 + 7) x1)], σ) Φ) : pe_X d 21 (12, [some (.inr (.inr a0)), some (.inl x1)], [], σ) Φ := by
  refine pe_blk 6 5 ck21 [pe_K σ a0 = 2, pe_K σ (pe_R σ a0 10) = 10, 0 ≤ (pe_w x1), (pe_w x1) < pe_L σ (pe_R σ a0 10)] (22, [some (.inr (.inr a0)), some (.inl x1)], [.inl (pe_I σ (pe_R σ a0 10) (pe_w x1))], σ) rfl ?_ ?_
  · first
    | (simp (disch := omega) only [pe_all, pe_wi w0, pe_K_wI, pe_K_wR, pe_L_wI, pe_L_wR, pe_R_nej, pe_R_ner, pe_R_wI, pk_mK f_a0, pk_mK7 f_a0, pk_mL7 f_a0, pk_mR7 f_a0]; done)
    | (simp (disch := omega) only [pe_all, pe_wi w0, pe_K_wI, pe_K_wR, pe_L_wI, pe_L_wR, pe_R_nej, pe_R_ner, pe_R_wI, pk_mK f_a0, pk_mK7 f_a0, pk_mL7 f_a0, pk_mR7 f_a0]; (repeat' apply And.intro) <;> first | assumption | omega | decide)
  · try simp (disch := omega) only [pe_wi w0, pe_K_wI, pe_K_wR, pe_L_wI, pe_L_wR, pe_R_nej, pe_R_ner, pe_R_wI, pk_mK f_a0, pk_mK7 f_a0, pk_mL7 f_a0, pk_mR7 f_a0]
    exact k
theorem b21_21 {d : Nat} {Φ : Option pe_V → pe_H → Prop} {σ : pe_H} {o0 : Option pe_V} {o1 : Option pe_V}    (k : pe_X d 21 (22, [o0, o1], [.inl 0], σ) Φ) : pe_X d 21 (21, [o0, o1], [], σ) Φ := by
  refine pe_blk 11 1 ck21 [] (22, [o0, o1], [.inl 0], σ) rfl ?_ ?_
  · exact trivial
  · exact k
theorem b21_22 {d : Nat} {Φ : Option pe_V → pe_H → Prop} {σ : pe_H} {o0 : Option pe_V} {o1 : Option pe_V} {s0 : Int}    (k : Φ (some (.inl s0)) σ) : pe_X d 21 (22, [o0, o1], [.inl s0], σ) Φ := by
  exact pe_fine 12 ck21 rfl rfl rfl trivial k
-- StepMachines$Machine.causeOf(I)I
def T22 : List (Nat × Instr × Nat) := [(0, .iload_n 1, 1), (1, .ifCond .lt 20, 3), (4, .iload_n 1, 1), (5, .aload_n 0, 1), (6, .getfield 58, 3), (9, .if_icmp .ge 12, 3), (12, .aload_n 0, 1), (13, .getfield 55, 3), (16, .iload_n 1, 1), (17, .iaload, 1), (18, .goto 4, 3), (21, .iconst (-1), 1), (22, .ireturn, 1)]
theorem ck22 : pe_ctx 22 2 false (some .int) 2 T22 := ⟨rfl, rfl, rfl, rfl, by decide +kernel, by decide, by decide⟩
theorem b22_0 {d : Nat} {Φ : Option pe_V → pe_H → Prop} {σ : pe_H} {a0 : Nat} {x1 : Int} (f_a0 : pk_Fm a0 σ := by assumption) (w0 : pe_in x1 := by unfold pe_in; omega)  (k1 : x1 < 0 → pe_X d 22 (21, [some (.inr (.inr a0)), some (.inl x1)], [], σ) Φ) (k2 : ¬ (x1 < 0) → pe_X d 22 (4, [some (.inr (.inr a0)), some (.inl x1)], [], σ) Φ) : pe_X d 22 (0, [some (.inr (.inr a0)), some (.inl x1)], [], σ) Φ := by
  refine pe_blk 0 2 ck22 [] (cond (decide ((pe_w x1) < 0)) 21 4, [some (.inr (.inr a0)), some (.inl x1)], [], σ) rfl ?_ ?_
  · exact trivial
  · try simp (disch := omega) only [pe_wi w0]
    exact pe_two k1 k2
theorem b22_4 {d : Nat} {Φ : Option pe_V → pe_H → Prop} {σ : pe_H} {a0 : Nat} {x1 : Int} (f_a0 : pk_Fm a0 σ := by assumption) (w0 : pe_in (pe_I σ a0 12) := by unfold pe_in; omega) (w1 : pe_in x1 := by unfold pe_in; omega)  (k1 : (pe_I σ a0 12) ≤ x1 → pe_X d 22 (21, [some (.inr (.inr a0)), some (.inl x1)], [], σ) Φ) (k2 : ¬ ((pe_I σ a0 12) ≤ x1) → pe_X d 22 (12, [some (.inr (.inr a0)), some (.inl x1)], [], σ) Φ) : pe_X d 22 (4, [some (.inr (.inr a0)), some (.inl x1)], [], σ) Φ := by
  refine pe_blk 2 4 ck22 [pe_K σ a0 = 2] (cond (decide ((pe_w (pe_I σ a0 12)) ≤ (pe_w x1))) 21 12, [some (.inr (.inr a0)), some (.inl x1)], [], σ) rfl ?_ ?_
  · first
    | (simp (disch := omega) only [pe_all, pe_wi w0, pe_wi w1, pe_K_wI, pe_K_wR, pk_mK f_a0]; done)
    | (simp (disch := omega) only [pe_all, pe_wi w0, pe_wi w1, pe_K_wI, pe_K_wR, pk_mK f_a0]; (repeat' apply And.intro) <;> first | assumption | omega | decide)
  · try simp (disch := omega) only [pe_wi w0, pe_wi w1, pe_K_wI, pe_K_wR, pk_mK f_a0]
    exact pe_two k1 k2
theorem b22_12 {d : Nat} {Φ : Option pe_V → pe_H → Prop} {σ : pe_H} {a0 : Nat} {x1 : Int} (f_a0 : pk_Fm a0 σ := by assumption) (w0 : pe_in x1 := by unfold pe_in; omega) (h0 : 0 ≤ x1 := by first | assumption | omega) (h1 : x1 < 512 := by first | assumption | omega) (k : pe_X d 22 (22, [some (.inr (.inr a0)), some (.inl x1)], [.inl (pe_I σ (a0 + 8) x1)], σ) Φ) : pe_X d 22 (12, [some (.inr (.inr a0)), some (.inl x1)], [], σ) Φ := by
  refine pe_blk 6 5 ck22 [pe_K σ a0 = 2, pe_K σ (pe_R σ a0 11) = 10, 0 ≤ (pe_w x1), (pe_w x1) < pe_L σ (pe_R σ a0 11)] (22, [some (.inr (.inr a0)), some (.inl x1)], [.inl (pe_I σ (pe_R σ a0 11) (pe_w x1))], σ) rfl ?_ ?_
  · first
    | (simp (disch := omega) only [pe_all, pe_wi w0, pe_K_wI, pe_K_wR, pe_L_wI, pe_L_wR, pe_R_nej, pe_R_ner, pe_R_wI, pk_mK f_a0, pk_mK8 f_a0, pk_mL8 f_a0, pk_mR8 f_a0]; done)
    | (simp (disch := omega) only [pe_all, pe_wi w0, pe_K_wI, pe_K_wR, pe_L_wI, pe_L_wR, pe_R_nej, pe_R_ner, pe_R_wI, pk_mK f_a0, pk_mK8 f_a0, pk_mL8 f_a0, pk_mR8 f_a0]; (repeat' apply And.intro) <;> first | assumption | omega | decide)
  · try simp (disch := omega) only [pe_wi w0, pe_K_wI, pe_K_wR, pe_L_wI, pe_L_wR, pe_R_nej, pe_R_ner, pe_R_wI, pk_mK f_a0, pk_mK8 f_a0, pk_mL8 f_a0, pk_mR8 f_a0]
    exact k
theorem b22_21 {d : Nat} {Φ : Option pe_V → pe_H → Prop} {σ : pe_H} {o0 : Option pe_V} {o1 : Option pe_V}    (k : pe_X d 22 (22, [o0, o1], [.inl (-1)], σ) Φ) : pe_X d 22 (21, [o0, o1], [], σ) Φ := by
  refine pe_blk 11 1 ck22 [] (22, [o0, o1], [.inl (-1)], σ) rfl ?_ ?_
  · exact trivial
  · exact k
theorem b22_22 {d : Nat} {Φ : Option pe_V → pe_H → Prop} {σ : pe_H} {o0 : Option pe_V} {o1 : Option pe_V} {s0 : Int}    (k : Φ (some (.inl s0)) σ) : pe_X d 22 (22, [o0, o1], [.inl s0], σ) Φ := by
  exact pe_fine 12 ck22 rfl rfl rfl trivial k
-- StepMachines$Machine.faultsOf(I)I
def T23 : List (Nat × Instr × Nat) := [(0, .aload_n 0, 1), (1, .getfield 19, 3), (4, .iload_n 1, 1), (5, .aaload, 1), (6, .getfield 92, 3), (9, .istore_n 2, 1), (10, .iconst 0, 1), (11, .istore_n 3, 1), (12, .iload_n 3, 1), (13, .sipush 512, 3), (16, .if_icmp .ge 28, 3), (19, .iload_n 2, 1), (20, .ifCond .lt 24, 3), (23, .iload_n 2, 1), (24, .aload_n 0, 1), (25, .getfield 58, 3), (28, .if_icmp .ge 16, 3), (31, .aload_n 0, 1), (32, .getfield 55, 3), (35, .iload_n 2, 1), (36, .iaload, 1), (37, .istore_n 2, 1), (38, .iinc 3 1, 3), (41, .goto (-29), 3), (44, .iload_n 3, 1), (45, .ireturn, 1)]
theorem ck23 : pe_ctx 23 2 false (some .int) 4 T23 := ⟨rfl, rfl, rfl, rfl, by decide +kernel, by decide, by decide⟩
theorem b23_0 {d : Nat} {Φ : Option pe_V → pe_H → Prop} {σ : pe_H} {a0 : Nat} {x1 : Int} {o2 : Option pe_V} {o3 : Option pe_V} (f_a0 : pk_Fm a0 σ := by assumption) (w0 : pe_in x1 := by unfold pe_in; omega) (h0 : 0 ≤ x1 := by first | assumption | omega) (h1 : x1 < 8 := by first | assumption | omega) (k : pe_X d 23 (12, [some (.inr (.inr a0)), some (.inl x1), some (.inl (pe_I σ (pk_c a0 x1) 8)), some (.inl 0)], [], σ) Φ) : pe_X d 23 (0, [some (.inr (.inr a0)), some (.inl x1), o2, o3], [], σ) Φ := by
  refine pe_blk 0 8 ck23 [pe_K σ a0 = 2, 12 ≤ pe_K σ (pe_R σ a0 1) ∧ pe_K σ (pe_R σ a0 1) < 19, 0 ≤ (pe_w x1), (pe_w x1) < pe_L σ (pe_R σ a0 1), pe_K σ (pe_R σ (pe_R σ a0 1) (pe_w x1)) = 0] (12, [some (.inr (.inr a0)), some (.inl x1), some (.inl (pe_I σ (pe_R σ (pe_R σ a0 1) (pe_w x1)) 8)), some (.inl 0)], [], σ) rfl ?_ ?_
  · first
    | (simp (disch := omega) only [pe_all, pe_wi w0, pe_K_wI, pe_K_wR, pe_L_wI, pe_L_wR, pe_R_nej, pe_R_ner, pe_R_wI, pk_mE2 f_a0 (i := x1) (by omega) (by omega), pk_mK f_a0, pk_mK2 f_a0, pk_mL2 f_a0, pk_mR2 f_a0, pk_oK (pk_mO f_a0 (i := x1) (by omega) (by omega))]; done)
    | (simp (disch := omega) only [pe_all, pe_wi w0, pe_K_wI, pe_K_wR, pe_L_wI, pe_L_wR, pe_R_nej, pe_R_ner, pe_R_wI, pk_mE2 f_a0 (i := x1) (by omega) (by omega), pk_mK f_a0, pk_mK2 f_a0, pk_mL2 f_a0, pk_mR2 f_a0, pk_oK (pk_mO f_a0 (i := x1) (by omega) (by omega))]; (repeat' apply And.intro) <;> first | assumption | omega | decide)
  · try simp (disch := omega) only [pe_wi w0, pe_K_wI, pe_K_wR, pe_L_wI, pe_L_wR, pe_R_nej, pe_R_ner, pe_R_wI, pk_mE2 f_a0 (i := x1) (by omega) (by omega), pk_mK f_a0, pk_mK2 f_a0, pk_mL2 f_a0, pk_mR2 f_a0, pk_oK (pk_mO f_a0 (i := x1) (by omega) (by omega))]
    exact k
theorem b23_12 {d : Nat} {Φ : Option pe_V → pe_H → Prop} {σ : pe_H} {a0 : Nat} {o1 : Option pe_V} {x2 : Int} {x3 : Int} (f_a0 : pk_Fm a0 σ := by assumption) (w0 : pe_in x3 := by unfold pe_in; omega)  (k1 : 512 ≤ x3 → pe_X d 23 (44, [some (.inr (.inr a0)), o1, some (.inl x2), some (.inl x3)], [], σ) Φ) (k2 : ¬ (512 ≤ x3) → pe_X d 23 (19, [some (.inr (.inr a0)), o1, some (.inl x2), some (.inl x3)], [], σ) Φ) : pe_X d 23 (12, [some (.inr (.inr a0)), o1, some (.inl x2), some (.inl x3)], [], σ) Φ := by
  refine pe_blk 8 3 ck23 [] (cond (decide ((pe_w 512) ≤ (pe_w x3))) 44 19, [some (.inr (.inr a0)), o1, some (.inl x2), some (.inl x3)], [], σ) rfl ?_ ?_
  · exact trivial
  · try simp (disch := omega) only [pe_wi w0, pe_wi (x := 512) ⟨by decide, by decide⟩]
    exact pe_two k1 k2
theorem b23_19 {d : Nat} {Φ : Option pe_V → pe_H → Prop} {σ : pe_H} {a0 : Nat} {o1 : Option pe_V} {x2 : Int} {x3 : Int} (f_a0 : pk_Fm a0 σ := by assumption) (w0 : pe_in x2 := by unfold pe_in; omega)  (k1 : x2 < 0 → pe_X d 23 (44, [some (.inr (.inr a0)), o1, some (.inl x2), some (.inl x3)], [], σ) Φ) (k2 : ¬ (x2 < 0) → pe_X d 23 (23, [some (.inr (.inr a0)), o1, some (.inl x2), some (.inl x3)], [], σ) Φ) : pe_X d 23 (19, [some (.inr (.inr a0)), o1, some (.inl x2), some (.inl x3)], [], σ) Φ := by
  refine pe_blk 11 2 ck23 [] (cond (decide ((pe_w x2) < 0)) 44 23, [some (.inr (.inr a0)), o1, some (.inl x2), some (.inl x3)], [], σ) rfl ?_ ?_
  · exact trivial
  · try simp (disch := omega) only [pe_wi w0]
    exact pe_two k1 k2
theorem b23_23 {d : Nat} {Φ : Option pe_V → pe_H → Prop} {σ : pe_H} {a0 : Nat} {o1 : Option pe_V} {x2 : Int} {x3 : Int} (f_a0 : pk_Fm a0 σ := by assumption) (w0 : pe_in (pe_I σ a0 12) := by unfold pe_in; omega) (w1 : pe_in x2 := by unfold pe_in; omega)  (k1 : (pe_I σ a0 12) ≤ x2 → pe_X d 23 (44, [some (.inr (.inr a0)), o1, some (.inl x2), some (.inl x3)], [], σ) Φ) (k2 : ¬ ((pe_I σ a0 12) ≤ x2) → pe_X d 23 (31, [some (.inr (.inr a0)), o1, some (.inl x2), some (.inl x3)], [], σ) Φ) : pe_X d 23 (23, [some (.inr (.inr a0)), o1, some (.inl x2), some (.inl x3)], [], σ) Φ := by
  refine pe_blk 13 4 ck23 [pe_K σ a0 = 2] (cond (decide ((pe_w (pe_I σ a0 12)) ≤ (pe_w x2))) 44 31, [some (.inr (.inr a0)), o1, some (.inl x2), some (.inl x3)], [], σ) rfl ?_ ?_
  · first
    | (simp (disch := omega) only [pe_all, pe_wi w0, pe_wi w1, pe_K_wI, pe_K_wR, pk_mK f_a0]; done)
    | (simp (disch := omega) only [pe_all, pe_wi w0, pe_wi w1, pe_K_wI, pe_K_wR, pk_mK f_a0]; (repeat' apply And.intro) <;> first | assumption | omega | decide)
  · try simp (disch := omega) only [pe_wi w0, pe_wi w1, pe_K_wI, pe_K_wR, pk_mK f_a0]
    exact pe_two k1 k2
theorem b23_31 {d : Nat} {Φ : Option pe_V → pe_H → Prop} {σ : pe_H} {a0 : Nat} {o1 : Option pe_V} {x2 : Int} {x3 : Int} (f_a0 : pk_Fm a0 σ := by assumption) (w0 : pe_in x2 := by unfold pe_in; omega) (h0 : 0 ≤ x2 := by first | assumption | omega) (h1 : x2 < 512 := by first | assumption | omega) (k : pe_X d 23 (12, [some (.inr (.inr a0)), pe_nl o1, some (.inl (pe_I σ (a0 + 8) x2)), some (.inl (x3 + 1))], [], σ) Φ) : pe_X d 23 (31, [some (.inr (.inr a0)), o1, some (.inl x2), some (.inl x3)], [], σ) Φ := by
  refine pe_blk 17 7 ck23 [pe_K σ a0 = 2, pe_K σ (pe_R σ a0 11) = 10, 0 ≤ (pe_w x2), (pe_w x2) < pe_L σ (pe_R σ a0 11)] (12, [some (.inr (.inr a0)), pe_nl o1, some (.inl (pe_I σ (pe_R σ a0 11) (pe_w x2))), some (.inl (x3 + 1))], [], σ) rfl ?_ ?_
  · first
    | (simp (disch := omega) only [pe_all, pe_wi w0, pe_K_wI, pe_K_wR, pe_L_wI, pe_L_wR, pe_R_nej, pe_R_ner, pe_R_wI, pk_mK f_a0, pk_mK8 f_a0, pk_mL8 f_a0, pk_mR8 f_a0]; done)
    | (simp (disch := omega) only [pe_all, pe_wi w0, pe_K_wI, pe_K_wR, pe_L_wI, pe_L_wR, pe_R_nej, pe_R_ner, pe_R_wI, pk_mK f_a0, pk_mK8 f_a0, pk_mL8 f_a0, pk_mR8 f_a0]; (repeat' apply And.intro) <;> first | assumption | omega | decide)
  · try simp (disch := omega) only [pe_wi w0, pe_K_wI, pe_K_wR, pe_L_wI, pe_L_wR, pe_R_nej, pe_R_ner, pe_R_wI, pk_mK f_a0, pk_mK8 f_a0, pk_mL8 f_a0, pk_mR8 f_a0]
    exact k
theorem b23_44 {d : Nat} {Φ : Option pe_V → pe_H → Prop} {σ : pe_H} {o0 : Option pe_V} {o1 : Option pe_V} {o2 : Option pe_V} {x3 : Int}    (k : Φ (some (.inl x3)) σ) : pe_X d 23 (44, [o0, o1, o2, some (.inl x3)], [], σ) Φ := by
  refine pe_blk 24 1 ck23 [] (45, [o0, o1, o2, some (.inl x3)], [.inl x3], σ) rfl ?_ ?_
  · exact trivial
  · exact pe_fine 25 ck23 rfl rfl rfl trivial k
-- StepMachines$Machine.add(ILStepMachines$Manner;)I
def T24 : List (Nat × Instr × Nat) := [(0, .aload_n 0, 1), (1, .getfield 32, 3), (4, .bipush 8, 2), (6, .if_icmp .lt 6, 3), (9, .bipush (-2), 2), (11, .ireturn, 1), (12, .aload_n 0, 1), (13, .getfield 19, 3), (16, .aload_n 0, 1), (17, .getfield 32, 3), (20, .aaload, 1), (21, .aload_n 0, 1), (22, .getfield 11, 3), (25, .iload_n 1, 1), (26, .aaload, 1), (27, .iload_n 1, 1), (28, .aload_n 2, 1), (29, .invokevirtual 95, 3), (32, .aload_n 0, 1), (33, .dup, 1), (34, .getfield 32, 3), (37, .iconst 1, 1), (38, .iadd, 1), (39, .putfield 32, 3), (42, .aload_n 0, 1), (43, .getfield 32, 3), (46, .iconst 1, 1), (47, .isub, 1), (48, .ireturn, 1)]
theorem ck24 : pe_ctx 24 2 false (some .int) 3 T24 := ⟨rfl, rfl, rfl, rfl, by decide +kernel, by decide, by decide⟩
theorem b24_0 {d : Nat} {Φ : Option pe_V → pe_H → Prop} {σ : pe_H} {a0 : Nat} {x1 : Int} {a2 : Nat} (f_a0 : pk_Fm a0 σ := by assumption) (w0 : pe_in (pe_I σ a0 4) := by unfold pe_in; omega)  (k1 : (pe_I σ a0 4) < 8 → pe_X d 24 (12, [some (.inr (.inr a0)), some (.inl x1), some (.inr (.inr a2))], [], σ) Φ) (k2 : ¬ ((pe_I σ a0 4) < 8) → pe_X d 24 (9, [some (.inr (.inr a0)), some (.inl x1), some (.inr (.inr a2))], [], σ) Φ) : pe_X d 24 (0, [some (.inr (.inr a0)), some (.inl x1), some (.inr (.inr a2))], [], σ) Φ := by
  refine pe_blk 0 4 ck24 [pe_K σ a0 = 2] (cond (decide ((pe_w (pe_I σ a0 4)) < (pe_w 8))) 12 9, [some (.inr (.inr a0)), some (.inl x1), some (.inr (.inr a2))], [], σ) rfl ?_ ?_
  · first
    | (simp (disch := omega) only [pe_all, pe_wi w0, pe_wi (x := 8) ⟨by decide, by decide⟩, pe_K_wI, pe_K_wR, pk_mK f_a0]; done)
    | (simp (disch := omega) only [pe_all, pe_wi w0, pe_wi (x := 8) ⟨by decide, by decide⟩, pe_K_wI, pe_K_wR, pk_mK f_a0]; (repeat' apply And.intro) <;> first | assumption | omega | decide)
  · try simp (disch := omega) only [pe_wi w0, pe_wi (x := 8) ⟨by decide, by decide⟩, pe_K_wI, pe_K_wR, pk_mK f_a0]
    exact pe_two k1 k2
theorem b24_9 {d : Nat} {Φ : Option pe_V → pe_H → Prop} {σ : pe_H} {o0 : Option pe_V} {o1 : Option pe_V} {o2 : Option pe_V}    (k : Φ (some (.inl (-2))) σ) : pe_X d 24 (9, [o0, o1, o2], [], σ) Φ := by
  refine pe_blk 4 1 ck24 [] (11, [o0, o1, o2], [.inl (-2)], σ) rfl ?_ ?_
  · exact trivial
  · exact pe_fine 5 ck24 rfl rfl rfl trivial k
theorem b24_12 {d : Nat} {Φ : Option pe_V → pe_H → Prop} {σ : pe_H} {a0 : Nat} {x1 : Int} {a2 : Nat} (f_a0 : pk_Fm a0 σ := by assumption) (w0 : pe_in (pe_I σ a0 4) := by unfold pe_in; omega) (w1 : pe_in x1 := by unfold pe_in; omega) (h0 : 0 ≤ (pe_I σ a0 4) := by first | assumption | omega) (h1 : (pe_I σ a0 4) < 8 := by first | assumption | omega) (h2 : 0 ≤ x1 := by first | assumption | omega) (h3 : x1 < 5 := by first | assumption | omega) (k : pe_M d 1 [.inr (.inr (pk_c a0 (pe_I σ a0 4))), .inr (.inr (pe_R σ (a0 + 1) x1)), .inl x1, .inr (.inr a2)] σ (fun r σ' => pe_X d 24 (32, [some (.inr (.inr a0)), some (.inl x1), some (.inr (.inr a2))], r.toList ++ [], σ') Φ)) : pe_X d 24 (12, [some (.inr (.inr a0)), some (.inl x1), some (.inr (.inr a2))], [], σ) Φ := by
  refine pe_blk 6 11 ck24 [pe_K σ a0 = 2, pe_K σ a0 = 2, 12 ≤ pe_K σ (pe_R σ a0 1) ∧ pe_K σ (pe_R σ a0 1) < 19, 0 ≤ (pe_w (pe_I σ a0 4)), (pe_w (pe_I σ a0 4)) < pe_L σ (pe_R σ a0 1), pe_K σ a0 = 2, 12 ≤ pe_K σ (pe_R σ a0 0) ∧ pe_K σ (pe_R σ a0 0) < 19, 0 ≤ (pe_w x1), (pe_w x1) < pe_L σ (pe_R σ a0 0)] (29, [some (.inr (.inr a0)), some (.inl x1), some (.inr (.inr a2))], [.inr (.inr a2), .inl x1, .inr (.inr (pe_R σ (pe_R σ a0 0) (pe_w x1))), .inr (.inr (pe_R σ (pe_R σ a0 1) (pe_w (pe_I σ a0 4))))], σ) rfl ?_ ?_
  · first
    | (simp (disch := omega) only [pe_all, pe_wi w0, pe_wi w1, pe_K_wI, pe_K_wR, pe_L_wI, pe_L_wR, pe_R_nej, pe_R_ner, pe_R_wI, pk_mE2 f_a0 (i := pe_I σ a0 4) (by omega) (by omega), pk_mK f_a0, pk_mK1 f_a0, pk_mK2 f_a0, pk_mL1 f_a0, pk_mL2 f_a0, pk_mR1 f_a0, pk_mR2 f_a0, pk_oK (pk_mO f_a0 (i := pe_I σ a0 4) (by omega) (by omega))]; done)
    | (simp (disch := omega) only [pe_all, pe_wi w0, pe_wi w1, pe_K_wI, pe_K_wR, pe_L_wI, pe_L_wR, pe_R_nej, pe_R_ner, pe_R_wI, pk_mE2 f_a0 (i := pe_I σ a0 4) (by omega) (by omega), pk_mK f_a0, pk_mK1 f_a0, pk_mK2 f_a0, pk_mL1 f_a0, pk_mL2 f_a0, pk_mR1 f_a0, pk_mR2 f_a0, pk_oK (pk_mO f_a0 (i := pe_I σ a0 4) (by omega) (by omega))]; (repeat' apply And.intro) <;> first | assumption | omega | decide)
  · try simp (disch := omega) only [pe_wi w0, pe_wi w1, pe_K_wI, pe_K_wR, pe_L_wI, pe_L_wR, pe_R_nej, pe_R_ner, pe_R_wI, pk_mE2 f_a0 (i := pe_I σ a0 4) (by omega) (by omega), pk_mK f_a0, pk_mK1 f_a0, pk_mK2 f_a0, pk_mL1 f_a0, pk_mL2 f_a0, pk_mR1 f_a0, pk_mR2 f_a0, pk_oK (pk_mO f_a0 (i := pe_I σ a0 4) (by omega) (by omega))]
    have hrc : pe_K σ (pk_c a0 (pe_I σ a0 4)) = 0 := by first | assumption | (simp (disch := omega) only [pe_wi w0, pe_wi w1, pe_K_wI, pe_K_wR, pe_L_wI, pe_L_wR, pe_R_nej, pe_R_ner, pe_R_wI, pk_mE2 f_a0 (i := pe_I σ a0 4) (by omega) (by omega), pk_mK f_a0, pk_mK1 f_a0, pk_mK2 f_a0, pk_mL1 f_a0, pk_mL2 f_a0, pk_mR1 f_a0, pk_mR2 f_a0, pk_oK (pk_mO f_a0 (i := pe_I σ a0 4) (by omega) (by omega))]; done) | (simp (disch := omega) only [pe_wi w0, pe_wi w1, pe_K_wI, pe_K_wR, pe_L_wI, pe_L_wR, pe_R_nej, pe_R_ner, pe_R_wI, pk_mE2 f_a0 (i := pe_I σ a0 4) (by omega) (by omega), pk_mK f_a0, pk_mK1 f_a0, pk_mK2 f_a0, pk_mL1 f_a0, pk_mL2 f_a0, pk_mR1 f_a0, pk_mR2 f_a0, pk_oK (pk_mO f_a0 (i := pe_I σ a0 4) (by omega) (by omega))]; assumption)
    exact pe_cal 17 ck24 rfl rfl rfl ⟨hrc, by decide⟩ k
theorem b24_32 {d : Nat} {Φ : Option pe_V → pe_H → Prop} {σ : pe_H} {a0 : Nat} {o1 : Option pe_V} {o2 : Option pe_V} (f_a0 : pk_Fm a0 σ := by assumption)   (k : Φ (some (.inl (((pe_I σ a0 4) + 1) - 1))) (pe_wI σ a0 4 ((pe_I σ a0 4) + 1))) : pe_X d 24 (32, [some (.inr (.inr a0)), o1, o2], [], σ) Φ := by
  refine pe_blk 18 10 ck24 [pe_K σ a0 = 2, pe_K σ a0 = 2, pe_K (pe_wI σ a0 4 ((pe_I σ a0 4) + 1)) a0 = 2] (48, [some (.inr (.inr a0)), o1, o2], [.inl ((pe_I (pe_wI σ a0 4 ((pe_I σ a0 4) + 1)) a0 4) - 1)], pe_wI σ a0 4 ((pe_I σ a0 4) + 1)) rfl ?_ ?_
  · first
    | (simp (disch := omega) only [pe_all, pe_I_same, pe_K_wI, pe_K_wR, pk_mK f_a0]; done)
    | (simp (disch := omega) only [pe_all, pe_I_same, pe_K_wI, pe_K_wR, pk_mK f_a0]; (repeat' apply And.intro) <;> first | assumption | omega | decide)
  · try simp (disch := omega) only [pe_I_same, pe_K_wI, pe_K_wR, pk_mK f_a0]
    exact pe_fine 28 ck24 rfl rfl rfl trivial k
-- StepMachines$Machine.sendTo(II)V
def T25 : List (Nat × Instr × Nat) := [(0, .aload_n 0, 1), (1, .getfield 19, 3), (4, .iload_n 1, 1), (5, .aaload, 1), (6, .astore_n 3, 1), (7, .aload_n 3, 1), (8, .iload_n 2, 1), (9, .invokevirtual 99, 3), (12, .iconst 0, 1), (13, .istore 4, 2), (15, .iload 4, 2), (17, .bipush 40, 2), (19, .if_icmp .ge 23, 3), (22, .aload_n 3, 1), (23, .getfield 83, 3), (26, .iconst 1, 1), (27, .if_icmp .ne 15, 3), (30, .aload_n 0, 1), (31, .iload_n 1, 1), (32, .iconst 0, 1), (33, .invokevirtual 103, 3), (36, .iinc 4 1, 3), (39, .goto (-24), 3), (42, .return_, 1)]
theorem ck25 : pe_ctx 25 2 false none 5 T25 := ⟨rfl, rfl, rfl, rfl, by decide +kernel, by decide, by decide⟩
theorem b25_0 {d : Nat} {Φ : Option pe_V → pe_H → Prop} {σ : pe_H} {a0 : Nat} {x1 : Int} {x2 : Int} {o3 : Option pe_V} {o4 : Option pe_V} (f_a0 : pk_Fm a0 σ := by assumption) (w0 : pe_in x1 := by unfold pe_in; omega) (h0 : 0 ≤ x1 := by first | assumption | omega) (h1 : x1 < 8 := by first | assumption | omega) (k : pe_M d 5 [.inr (.inr (pk_c a0 x1)), .inl x2] σ (fun r σ' => pe_X d 25 (12, [some (.inr (.inr a0)), some (.inl x1), some (.inl x2), some (.inr (.inr (pk_c a0 x1))), o4], r.toList ++ [], σ') Φ)) : pe_X d 25 (0, [some (.inr (.inr a0)), some (.inl x1), some (.inl x2), o3, o4], [], σ) Φ := by
  refine pe_blk 0 7 ck25 [pe_K σ a0 = 2, 12 ≤ pe_K σ (pe_R σ a0 1) ∧ pe_K σ (pe_R σ a0 1) < 19, 0 ≤ (pe_w x1), (pe_w x1) < pe_L σ (pe_R σ a0 1)] (9, [some (.inr (.inr a0)), some (.inl x1), some (.inl x2), some (.inr (.inr (pe_R σ (pe_R σ a0 1) (pe_w x1)))), o4], [.inl x2, .inr (.inr (pe_R σ (pe_R σ a0 1) (pe_w x1)))], σ) rfl ?_ ?_
  · first
    | (simp (disch := omega) only [pe_all, pe_wi w0, pe_K_wI, pe_K_wR, pe_L_wI, pe_L_wR, pe_R_nej, pe_R_ner, pe_R_wI, pk_mE2 f_a0 (i := x1) (by omega) (by omega), pk_mK f_a0, pk_mK2 f_a0, pk_mL2 f_a0, pk_mR2 f_a0, pk_oK (pk_mO f_a0 (i := x1) (by omega) (by omega))]; done)
    | (simp (disch := omega) only [pe_all, pe_wi w0, pe_K_wI, pe_K_wR, pe_L_wI, pe_L_wR, pe_R_nej, pe_R_ner, pe_R_wI, pk_mE2 f_a0 (i := x1) (by omega) (by omega), pk_mK f_a0, pk_mK2 f_a0, pk_mL2 f_a0, pk_mR2 f_a0, pk_oK (pk_mO f_a0 (i := x1) (by omega) (by omega))]; (repeat' apply And.intro) <;> first | assumption | omega | decide)
  · try simp (disch := omega) only [pe_wi w0, pe_K_wI, pe_K_wR, pe_L_wI, pe_L_wR, pe_R_nej, pe_R_ner, pe_R_wI, pk_mE2 f_a0 (i := x1) (by omega) (by omega), pk_mK f_a0, pk_mK2 f_a0, pk_mL2 f_a0, pk_mR2 f_a0, pk_oK (pk_mO f_a0 (i := x1) (by omega) (by omega))]
    have hrc : pe_K σ (pk_c a0 x1) = 0 := by first | assumption | (simp (disch := omega) only [pe_wi w0, pe_K_wI, pe_K_wR, pe_L_wI, pe_L_wR, pe_R_nej, pe_R_ner, pe_R_wI, pk_mE2 f_a0 (i := x1) (by omega) (by omega), pk_mK f_a0, pk_mK2 f_a0, pk_mL2 f_a0, pk_mR2 f_a0, pk_oK (pk_mO f_a0 (i := x1) (by omega) (by omega))]; done) | (simp (disch := omega) only [pe_wi w0, pe_K_wI, pe_K_wR, pe_L_wI, pe_L_wR, pe_R_nej, pe_R_ner, pe_R_wI, pk_mE2 f_a0 (i := x1) (by omega) (by omega), pk_mK f_a0, pk_mK2 f_a0, pk_mL2 f_a0, pk_mR2 f_a0, pk_oK (pk_mO f_a0 (i := x1) (by omega) (by omega))]; assumption)
    exact pe_cal 7 ck25 rfl rfl rfl ⟨hrc, by decide⟩ k
theorem b25_12 {d : Nat} {Φ : Option pe_V → pe_H → Prop} {σ : pe_H} {a0 : Nat} {x1 : Int} {o2 : Option pe_V} {a3 : Nat} {o4 : Option pe_V} (f_a0 : pk_Fm a0 σ := by assumption) (f_a3 : pk_Fo a3 σ := by assumption)   (k : pe_X d 25 (15, [some (.inr (.inr a0)), some (.inl x1), o2, some (.inr (.inr a3)), some (.inl 0)], [], σ) Φ) : pe_X d 25 (12, [some (.inr (.inr a0)), some (.inl x1), o2, some (.inr (.inr a3)), o4], [], σ) Φ := by
  refine pe_blk 8 2 ck25 [] (15, [some (.inr (.inr a0)), some (.inl x1), o2, some (.inr (.inr a3)), some (.inl 0)], [], σ) rfl ?_ ?_
  · exact trivial
  · exact k
theorem b25_15 {d : Nat} {Φ : Option pe_V → pe_H → Prop} {σ : pe_H} {a0 : Nat} {x1 : Int} {o2 : Option pe_V} {a3 : Nat} {x4 : Int} (f_a0 : pk_Fm a0 σ := by assumption) (f_a3 : pk_Fo a3 σ := by assumption) (w0 : pe_in x4 := by unfold pe_in; omega)  (k1 : 40 ≤ x4 → pe_X d 25 (42, [some (.inr (.inr a0)), some (.inl x1), o2, some (.inr (.inr a3)), some (.inl x4)], [], σ) Φ) (k2 : ¬ (40 ≤ x4) → pe_X d 25 (22, [some (.inr (.inr a0)), some (.inl x1), o2, some (.inr (.inr a3)), some (.inl x4)], [], σ) Φ) : pe_X d 25 (15, [some (.inr (.inr a0)), some (.inl x1), o2, some (.inr (.inr a3)), some (.inl x4)], [], σ) Φ := by
  refine pe_blk 10 3 ck25 [] (cond (decide ((pe_w 40) ≤ (pe_w x4))) 42 22, [some (.inr (.inr a0)), some (.inl x1), o2, some (.inr (.inr a3)), some (.inl x4)], [], σ) rfl ?_ ?_
  · exact trivial
  · try simp (disch := omega) only [pe_wi w0, pe_wi (x := 40) ⟨by decide, by decide⟩]
    exact pe_two k1 k2
theorem b25_22 {d : Nat} {Φ : Option pe_V → pe_H → Prop} {σ : pe_H} {a0 : Nat} {x1 : Int} {o2 : Option pe_V} {a3 : Nat} {x4 : Int} (f_a0 : pk_Fm a0 σ := by assumption) (f_a3 : pk_Fo a3 σ := by assumption) (w0 : pe_in (pe_I σ a3 2) := by unfold pe_in; omega)  (k1 : ¬ (pe_I σ a3 2) = 1 → pe_X d 25 (42, [some (.inr (.inr a0)), some (.inl x1), o2, some (.inr (.inr a3)), some (.inl x4)], [], σ) Φ) (k2 : (pe_I σ a3 2) = 1 → pe_X d 25 (30, [some (.inr (.inr a0)), some (.inl x1), o2, some (.inr (.inr a3)), some (.inl x4)], [], σ) Φ) : pe_X d 25 (22, [some (.inr (.inr a0)), some (.inl x1), o2, some (.inr (.inr a3)), some (.inl x4)], [], σ) Φ := by
  refine pe_blk 13 4 ck25 [pe_K σ a3 = 0] (cond (decide (¬ (pe_w (pe_I σ a3 2)) = (pe_w 1))) 42 30, [some (.inr (.inr a0)), some (.inl x1), o2, some (.inr (.inr a3)), some (.inl x4)], [], σ) rfl ?_ ?_
  · first
    | (simp (disch := omega) only [pe_all, pe_wi w0, pe_wi (x := 1) ⟨by decide, by decide⟩, pe_K_wI, pe_K_wR, pk_oK f_a3]; done)
    | (simp (disch := omega) only [pe_all, pe_wi w0, pe_wi (x := 1) ⟨by decide, by decide⟩, pe_K_wI, pe_K_wR, pk_oK f_a3]; (repeat' apply And.intro) <;> first | assumption | omega | decide)
  · try simp (disch := omega) only [pe_wi w0, pe_wi (x := 1) ⟨by decide, by decide⟩, pe_K_wI, pe_K_wR, pk_oK f_a3]
    exact pe_two' k1 k2
theorem b25_30 {d : Nat} {Φ : Option pe_V → pe_H → Prop} {σ : pe_H} {a0 : Nat} {x1 : Int} {o2 : Option pe_V} {a3 : Nat} {x4 : Int} (f_a0 : pk_Fm a0 σ := by assumption) (f_a3 : pk_Fo a3 σ := by assumption)   (k : pe_M d 31 [.inr (.inr a0), .inl x1, .inl 0] σ (fun r σ' => pe_X d 25 (36, [some (.inr (.inr a0)), some (.inl x1), o2, some (.inr (.inr a3)), some (.inl x4)], r.toList ++ [], σ') Φ)) : pe_X d 25 (30, [some (.inr (.inr a0)), some (.inl x1), o2, some (.inr (.inr a3)), some (.inl x4)], [], σ) Φ := by
  refine pe_blk 17 3 ck25 [] (33, [some (.inr (.inr a0)), some (.inl x1), o2, some (.inr (.inr a3)), some (.inl x4)], [.inl 0, .inl x1, .inr (.inr a0)], σ) rfl ?_ ?_
  · exact trivial
  · try simp (disch := omega) only [pe_K_wI, pe_K_wR, pk_mK f_a0]
    have hrc : pe_K σ a0 = 2 := by first | assumption | (simp (disch := omega) only [pe_K_wI, pe_K_wR, pk_mK f_a0]; done) | (simp (disch := omega) only [pe_K_wI, pe_K_wR, pk_mK f_a0]; assumption)
    exact pe_cal 20 ck25 rfl rfl rfl ⟨hrc, by decide⟩ k
theorem b25_36 {d : Nat} {Φ : Option pe_V → pe_H → Prop} {σ : pe_H} {a0 : Nat} {x1 : Int} {o2 : Option pe_V} {a3 : Nat} {x4 : Int} (f_a0 : pk_Fm a0 σ := by assumption) (f_a3 : pk_Fo a3 σ := by assumption)   (k : pe_X d 25 (15, [some (.inr (.inr a0)), some (.inl x1), o2, some (.inr (.inr a3)), some (.inl (x4 + 1))], [], σ) Φ) : pe_X d 25 (36, [some (.inr (.inr a0)), some (.inl x1), o2, some (.inr (.inr a3)), some (.inl x4)], [], σ) Φ := by
  refine pe_blk 21 2 ck25 [] (15, [some (.inr (.inr a0)), some (.inl x1), o2, some (.inr (.inr a3)), some (.inl (x4 + 1))], [], σ) rfl ?_ ?_
  · exact trivial
  · exact k
theorem b25_42 {d : Nat} {Φ : Option pe_V → pe_H → Prop} {σ : pe_H} {o0 : Option pe_V} {o1 : Option pe_V} {o2 : Option pe_V} {o3 : Option pe_V} {o4 : Option pe_V}    (k : Φ none σ) : pe_X d 25 (42, [o0, o1, o2, o3, o4], [], σ) Φ := by
  exact pe_fine 23 ck25 rfl rfl rfl trivial k
-- StepMachines$Machine.closeDown(I)V
def T26 : List (Nat × Instr × Nat) := [(0, .iconst 0, 1), (1, .istore_n 2, 1), (2, .iload_n 2, 1), (3, .iconst 3, 1), (4, .if_icmp .ge 29, 3), (7, .aload_n 0, 1), (8, .getfield 25, 3), (11, .iload_n 2, 1), (12, .aaload, 1), (13, .iload_n 1, 1), (14, .invokevirtual 107, 3), (17, .aload_n 0, 1), (18, .getfield 29, 3), (21, .iload_n 2, 1), (22, .aaload, 1), (23, .iload_n 1, 1), (24, .invokevirtual 107, 3), (27, .iinc 2 1, 3), (30, .goto (-28), 3), (33, .aload_n 0, 1), (34, .getfield 19, 3), (37, .iload_n 1, 1), (38, .aaload, 1), (39, .astore_n 2, 1), (40, .aload_n 2, 1), (41, .invokevirtual 110, 3), (44, .aload_n 2, 1), (45, .invokevirtual 113, 3), (48, .aload_n 2, 1), (49, .invokevirtual 79, 3), (52, .ifCond .eq 9, 3), (55, .aload_n 0, 1), (56, .iload_n 1, 1), (57, .iconst 0, 1), (58, .invokestatic 116, 3), (61, .iconst 0, 1), (62, .istore_n 3, 1), (63, .iload_n 3, 1), (64, .sipush 1000, 3), (67, .if_icmp .ge 22, 3), (70, .aload_n 2, 1), (71, .invokevirtual 79, 3), (74, .ifCond .ne 15, 3), (77, .aload_n 0, 1), (78, .iload_n 1, 1), (79, .iconst 1, 1), (80, .invokevirtual 103, 3), (83, .iinc 3 1, 3), (86, .goto (-23), 3), (89, .return_, 1)]
theorem ck26 : pe_ctx 26 2 false none 4 T26 := ⟨rfl, rfl, rfl, rfl, by decide +kernel, by decide, by decide⟩
theorem b26_0 {d : Nat} {Φ : Option pe_V → pe_H → Prop} {σ : pe_H} {a0 : Nat} {x1 : Int} {o2 : Option pe_V} {o3 : Option pe_V} (f_a0 : pk_Fm a0 σ := by assumption)   (k : pe_X d 26 (2, [some (.inr (.inr a0)), some (.inl x1), some (.inl 0), o3], [], σ) Φ) : pe_X d 26 (0, [some (.inr (.inr a0)), some (.inl x1), o2, o3], [], σ) Φ := by
  refine pe_blk 0 2 ck26 [] (2, [some (.inr (.inr a0)), some (.inl x1), some (.inl 0), o3], [], σ) rfl ?_ ?_
  · exact trivial
  · exact k
theorem b26_2 {d : Nat} {Φ : Option pe_V → pe_H → Prop} {σ : pe_H} {a0 : Nat} {x1 : Int} {x2 : Int} {o3 : Option pe_V} (f_a0 : pk_Fm a0 σ := by assumption) (w0 : pe_in x2 := by unfold pe_in; omega)  (k1 : 3 ≤ x2 → pe_X d 26 (33, [some (.inr (.inr a0)), some (.inl x1), some (.inl x2), o3], [], σ) Φ) (k2 : ¬ (3 ≤ x2) → pe_X d 26 (7, [some (.inr (.inr a0)), some (.inl x1), some (.inl x2), o3], [], σ) Φ) : pe_X d 26 (2, [some (.inr (.inr a0)), some (.inl x1), some (.inl x2), o3], [], σ) Φ := by
  refine pe_blk 2 3 ck26 [] (cond (decide ((pe_w 3) ≤ (pe_w x2))) 33 7, [some (.inr (.inr a0)), some (.inl x1), some (.inl x2), o3], [], σ) rfl ?_ ?_
  · exact trivial
  · try simp (disch := omega) only [pe_wi w0, pe_wi (x := 3) ⟨by decide, by decide⟩]
    exact pe_two k1 k2
theorem b26_7 {d : Nat} {Φ : Option pe_V → pe_H → Prop} {σ : pe_H} {a0 : Nat} {x1 : Int} {x2 : Int} {o3 : Option pe_V} (f_a0 : pk_Fm a0 σ := by assumption) (w0 : pe_in x2 := by unfold pe_in; omega) (h0 : 0 ≤ x2 := by first | assumption | omega) (h1 : x2 < 3 := by first | assumption | omega) (k : pe_M d 55 [.inr (.inr (pk_q a0 x2)), .inl x1] σ (fun r σ' => pe_X d 26 (17, [some (.inr (.inr a0)), some (.inl x1), some (.inl x2), o3], r.toList ++ [], σ') Φ)) : pe_X d 26 (7, [some (.inr (.inr a0)), some (.inl x1), some (.inl x2), o3], [], σ) Φ := by
  refine pe_blk 5 5 ck26 [pe_K σ a0 = 2, 12 ≤ pe_K σ (pe_R σ a0 2) ∧ pe_K σ (pe_R σ a0 2) < 19, 0 ≤ (pe_w x2), (pe_w x2) < pe_L σ (pe_R σ a0 2)] (14, [some (.inr (.inr a0)), some (.inl x1), some (.inl x2), o3], [.inl x1, .inr (.inr (pe_R σ (pe_R σ a0 2) (pe_w x2)))], σ) rfl ?_ ?_
  · first
    | (simp (disch := omega) only [pe_all, pe_wi w0, pe_K_wI, pe_K_wR, pe_L_wI, pe_L_wR, pe_R_nej, pe_R_ner, pe_R_wI, pk_mE3 f_a0 (i := x2) (by omega) (by omega), pk_mK f_a0, pk_mK3 f_a0, pk_mL3 f_a0, pk_mR3 f_a0, pk_qK (pk_mQ f_a0 (i := x2) (by omega) (by omega))]; done)
    | (simp (disch := omega) only [pe_all, pe_wi w0, pe_K_wI, pe_K_wR, pe_L_wI, pe_L_wR, pe_R_nej, pe_R_ner, pe_R_wI, pk_mE3 f_a0 (i := x2) (by omega) (by omega), pk_mK f_a0, pk_mK3 f_a0, pk_mL3 f_a0, pk_mR3 f_a0, pk_qK (pk_mQ f_a0 (i := x2) (by omega) (by omega))]; (repeat' apply And.intro) <;> first | assumption | omega | decide)
  · try simp (disch := omega) only [pe_wi w0, pe_K_wI, pe_K_wR, pe_L_wI, pe_L_wR, pe_R_nej, pe_R_ner, pe_R_wI, pk_mE3 f_a0 (i := x2) (by omega) (by omega), pk_mK f_a0, pk_mK3 f_a0, pk_mL3 f_a0, pk_mR3 f_a0, pk_qK (pk_mQ f_a0 (i := x2) (by omega) (by omega))]
    have hrc : pe_K σ (pk_q a0 x2) = 5 := by first | assumption | (simp (disch := omega) only [pe_wi w0, pe_K_wI, pe_K_wR, pe_L_wI, pe_L_wR, pe_R_nej, pe_R_ner, pe_R_wI, pk_mE3 f_a0 (i := x2) (by omega) (by omega), pk_mK f_a0, pk_mK3 f_a0, pk_mL3 f_a0, pk_mR3 f_a0, pk_qK (pk_mQ f_a0 (i := x2) (by omega) (by omega))]; done) | (simp (disch := omega) only [pe_wi w0, pe_K_wI, pe_K_wR, pe_L_wI, pe_L_wR, pe_R_nej, pe_R_ner, pe_R_wI, pk_mE3 f_a0 (i := x2) (by omega) (by omega), pk_mK f_a0, pk_mK3 f_a0, pk_mL3 f_a0, pk_mR3 f_a0, pk_qK (pk_mQ f_a0 (i := x2) (by omega) (by omega))]; assumption)
    exact pe_cal 10 ck26 rfl rfl rfl ⟨hrc, by decide⟩ k
theorem b26_17 {d : Nat} {Φ : Option pe_V → pe_H → Prop} {σ : pe_H} {a0 : Nat} {x1 : Int} {x2 : Int} {o3 : Option pe_V} (f_a0 : pk_Fm a0 σ := by assumption) (w0 : pe_in x2 := by unfold pe_in; omega) (h0 : 0 ≤ x2 := by first | assumption | omega) (h1 : x2 < 3 := by first | assumption | omega) (k : pe_M d 55 [.inr (.inr (pk_g a0 x2)), .inl x1] σ (fun r σ' => pe_X d 26 (27, [some (.inr (.inr a0)), some (.inl x1), some (.inl x2), o3], r.toList ++ [], σ') Φ)) : pe_X d 26 (17, [some (.inr (.inr a0)), some (.inl x1), some (.inl x2), o3], [], σ) Φ := by
  refine pe_blk 11 5 ck26 [pe_K σ a0 = 2, 12 ≤ pe_K σ (pe_R σ a0 3) ∧ pe_K σ (pe_R σ a0 3) < 19, 0 ≤ (pe_w x2), (pe_w x2) < pe_L σ (pe_R σ a0 3)] (24, [some (.inr (.inr a0)), some (.inl x1), some (.inl x2), o3], [.inl x1, .inr (.inr (pe_R σ (pe_R σ a0 3) (pe_w x2)))], σ) rfl ?_ ?_
  · first
    | (simp (disch := omega) only [pe_all, pe_wi w0, pe_K_wI, pe_K_wR, pe_L_wI, pe_L_wR, pe_R_nej, pe_R_ner, pe_R_wI, pk_mE4 f_a0 (i := x2) (by omega) (by omega), pk_mK f_a0, pk_mK4 f_a0, pk_mL4 f_a0, pk_mR4 f_a0, pk_qK (pk_mG f_a0 (i := x2) (by omega) (by omega))]; done)
    | (simp (disch := omega) only [pe_all, pe_wi w0, pe_K_wI, pe_K_wR, pe_L_wI, pe_L_wR, pe_R_nej, pe_R_ner, pe_R_wI, pk_mE4 f_a0 (i := x2) (by omega) (by omega), pk_mK f_a0, pk_mK4 f_a0, pk_mL4 f_a0, pk_mR4 f_a0, pk_qK (pk_mG f_a0 (i := x2) (by omega) (by omega))]; (repeat' apply And.intro) <;> first | assumption | omega | decide)
  · try simp (disch := omega) only [pe_wi w0, pe_K_wI, pe_K_wR, pe_L_wI, pe_L_wR, pe_R_nej, pe_R_ner, pe_R_wI, pk_mE4 f_a0 (i := x2) (by omega) (by omega), pk_mK f_a0, pk_mK4 f_a0, pk_mL4 f_a0, pk_mR4 f_a0, pk_qK (pk_mG f_a0 (i := x2) (by omega) (by omega))]
    have hrc : pe_K σ (pk_g a0 x2) = 5 := by first | assumption | (simp (disch := omega) only [pe_wi w0, pe_K_wI, pe_K_wR, pe_L_wI, pe_L_wR, pe_R_nej, pe_R_ner, pe_R_wI, pk_mE4 f_a0 (i := x2) (by omega) (by omega), pk_mK f_a0, pk_mK4 f_a0, pk_mL4 f_a0, pk_mR4 f_a0, pk_qK (pk_mG f_a0 (i := x2) (by omega) (by omega))]; done) | (simp (disch := omega) only [pe_wi w0, pe_K_wI, pe_K_wR, pe_L_wI, pe_L_wR, pe_R_nej, pe_R_ner, pe_R_wI, pk_mE4 f_a0 (i := x2) (by omega) (by omega), pk_mK f_a0, pk_mK4 f_a0, pk_mL4 f_a0, pk_mR4 f_a0, pk_qK (pk_mG f_a0 (i := x2) (by omega) (by omega))]; assumption)
    exact pe_cal 16 ck26 rfl rfl rfl ⟨hrc, by decide⟩ k
theorem b26_27 {d : Nat} {Φ : Option pe_V → pe_H → Prop} {σ : pe_H} {a0 : Nat} {x1 : Int} {x2 : Int} {o3 : Option pe_V} (f_a0 : pk_Fm a0 σ := by assumption)   (k : pe_X d 26 (2, [some (.inr (.inr a0)), some (.inl x1), some (.inl (x2 + 1)), o3], [], σ) Φ) : pe_X d 26 (27, [some (.inr (.inr a0)), some (.inl x1), some (.inl x2), o3], [], σ) Φ := by
  refine pe_blk 17 2 ck26 [] (2, [some (.inr (.inr a0)), some (.inl x1), some (.inl (x2 + 1)), o3], [], σ) rfl ?_ ?_
  · exact trivial
  · exact k
theorem b26_33 {d : Nat} {Φ : Option pe_V → pe_H → Prop} {σ : pe_H} {a0 : Nat} {x1 : Int} {o2 : Option pe_V} {o3 : Option pe_V} (f_a0 : pk_Fm a0 σ := by assumption) (w0 : pe_in x1 := by unfold pe_in; omega) (h0 : 0 ≤ x1 := by first | assumption | omega) (h1 : x1 < 8 := by first | assumption | omega) (k : pe_M d 8 [.inr (.inr (pk_c a0 x1))] σ (fun r σ' => pe_X d 26 (44, [some (.inr (.inr a0)), some (.inl x1), some (.inr (.inr (pk_c a0 x1))), o3], r.toList ++ [], σ') Φ)) : pe_X d 26 (33, [some (.inr (.inr a0)), some (.inl x1), o2, o3], [], σ) Φ := by
  refine pe_blk 19 6 ck26 [pe_K σ a0 = 2, 12 ≤ pe_K σ (pe_R σ a0 1) ∧ pe_K σ (pe_R σ a0 1) < 19, 0 ≤ (pe_w x1), (pe_w x1) < pe_L σ (pe_R σ a0 1)] (41, [some (.inr (.inr a0)), some (.inl x1), some (.inr (.inr (pe_R σ (pe_R σ a0 1) (pe_w x1)))), o3], [.inr (.inr (pe_R σ (pe_R σ a0 1) (pe_w x1)))], σ) rfl ?_ ?_
  · first
    | (simp (disch := omega) only [pe_all, pe_wi w0, pe_K_wI, pe_K_wR, pe_L_wI, pe_L_wR, pe_R_nej, pe_R_ner, pe_R_wI, pk_mE2 f_a0 (i := x1) (by omega) (by omega), pk_mK f_a0, pk_mK2 f_a0, pk_mL2 f_a0, pk_mR2 f_a0, pk_oK (pk_mO f_a0 (i := x1) (by omega) (by omega))]; done)
    | (simp (disch := omega) only [pe_all, pe_wi w0, pe_K_wI, pe_K_wR, pe_L_wI, pe_L_wR, pe_R_nej, pe_R_ner, pe_R_wI, pk_mE2 f_a0 (i := x1) (by omega) (by omega), pk_mK f_a0, pk_mK2 f_a0, pk_mL2 f_a0, pk_mR2 f_a0, pk_oK (pk_mO f_a0 (i := x1) (by omega) (by omega))]; (repeat' apply And.intro) <;> first | assumption | omega | decide)
  · try simp (disch := omega) only [pe_wi w0, pe_K_wI, pe_K_wR, pe_L_wI, pe_L_wR, pe_R_nej, pe_R_ner, pe_R_wI, pk_mE2 f_a0 (i := x1) (by omega) (by omega), pk_mK f_a0, pk_mK2 f_a0, pk_mL2 f_a0, pk_mR2 f_a0, pk_oK (pk_mO f_a0 (i := x1) (by omega) (by omega))]
    have hrc : pe_K σ (pk_c a0 x1) = 0 := by first | assumption | (simp (disch := omega) only [pe_wi w0, pe_K_wI, pe_K_wR, pe_L_wI, pe_L_wR, pe_R_nej, pe_R_ner, pe_R_wI, pk_mE2 f_a0 (i := x1) (by omega) (by omega), pk_mK f_a0, pk_mK2 f_a0, pk_mL2 f_a0, pk_mR2 f_a0, pk_oK (pk_mO f_a0 (i := x1) (by omega) (by omega))]; done) | (simp (disch := omega) only [pe_wi w0, pe_K_wI, pe_K_wR, pe_L_wI, pe_L_wR, pe_R_nej, pe_R_ner, pe_R_wI, pk_mE2 f_a0 (i := x1) (by omega) (by omega), pk_mK f_a0, pk_mK2 f_a0, pk_mL2 f_a0, pk_mR2 f_a0, pk_oK (pk_mO f_a0 (i := x1) (by omega) (by omega))]; assumption)
    exact pe_cal 25 ck26 rfl rfl rfl ⟨hrc, by decide⟩ k
theorem b26_44 {d : Nat} {Φ : Option pe_V → pe_H → Prop} {σ : pe_H} {a0 : Nat} {x1 : Int} {a2 : Nat} {o3 : Option pe_V} (f_a0 : pk_Fm a0 σ := by assumption) (f_a2 : pk_Fo a2 σ := by assumption)   (k : pe_M d 10 [.inr (.inr a2)] σ (fun r σ' => pe_X d 26 (48, [some (.inr (.inr a0)), some (.inl x1), some (.inr (.inr a2)), o3], r.toList ++ [], σ') Φ)) : pe_X d 26 (44, [some (.inr (.inr a0)), some (.inl x1), some (.inr (.inr a2)), o3], [], σ) Φ := by
  refine pe_blk 26 1 ck26 [] (45, [some (.inr (.inr a0)), some (.inl x1), some (.inr (.inr a2)), o3], [.inr (.inr a2)], σ) rfl ?_ ?_
  · exact trivial
  · try simp (disch := omega) only [pe_K_wI, pe_K_wR, pk_oK f_a2]
    have hrc : pe_K σ a2 = 0 := by first | assumption | (simp (disch := omega) only [pe_K_wI, pe_K_wR, pk_oK f_a2]; done) | (simp (disch := omega) only [pe_K_wI, pe_K_wR, pk_oK f_a2]; assumption)
    exact pe_cal 27 ck26 rfl rfl rfl ⟨hrc, by decide⟩ k
theorem b26_48 {d : Nat} {Φ : Option pe_V → pe_H → Prop} {σ : pe_H} {a0 : Nat} {x1 : Int} {a2 : Nat} {o3 : Option pe_V} (f_a0 : pk_Fm a0 σ := by assumption) (f_a2 : pk_Fo a2 σ := by assumption)   (k : pe_M d 3 [.inr (.inr a2)] σ (fun r σ' => pe_X d 26 (52, [some (.inr (.inr a0)), some (.inl x1), some (.inr (.inr a2)), o3], r.toList ++ [], σ') Φ)) : pe_X d 26 (48, [some (.inr (.inr a0)), some (.inl x1), some (.inr (.inr a2)), o3], [], σ) Φ := by
  refine pe_blk 28 1 ck26 [] (49, [some (.inr (.inr a0)), some (.inl x1), some (.inr (.inr a2)), o3], [.inr (.inr a2)], σ) rfl ?_ ?_
  · exact trivial
  · try simp (disch := omega) only [pe_K_wI, pe_K_wR, pk_oK f_a2]
    have hrc : pe_K σ a2 = 0 := by first | assumption | (simp (disch := omega) only [pe_K_wI, pe_K_wR, pk_oK f_a2]; done) | (simp (disch := omega) only [pe_K_wI, pe_K_wR, pk_oK f_a2]; assumption)
    exact pe_cal 29 ck26 rfl rfl rfl ⟨hrc, by decide⟩ k
theorem b26_52 {d : Nat} {Φ : Option pe_V → pe_H → Prop} {σ : pe_H} {a0 : Nat} {x1 : Int} {a2 : Nat} {o3 : Option pe_V} {s0 : Int} (f_a0 : pk_Fm a0 σ := by assumption) (f_a2 : pk_Fo a2 σ := by assumption) (w0 : pe_in s0 := by unfold pe_in; omega)  (k1 : s0 = 0 → pe_X d 26 (61, [some (.inr (.inr a0)), some (.inl x1), some (.inr (.inr a2)), o3], [], σ) Φ) (k2 : ¬ (s0 = 0) → pe_X d 26 (55, [some (.inr (.inr a0)), some (.inl x1), some (.inr (.inr a2)), o3], [], σ) Φ) : pe_X d 26 (52, [some (.inr (.inr a0)), some (.inl x1), some (.inr (.inr a2)), o3], [.inl s0], σ) Φ := by
  refine pe_blk 30 1 ck26 [] (cond (decide ((pe_w s0) = 0)) 61 55, [some (.inr (.inr a0)), some (.inl x1), some (.inr (.inr a2)), o3], [], σ) rfl ?_ ?_
  · exact trivial
  · try simp (disch := omega) only [pe_wi w0]
    exact pe_two k1 k2
theorem b26_55 {d : Nat} {Φ : Option pe_V → pe_H → Prop} {σ : pe_H} {a0 : Nat} {x1 : Int} {a2 : Nat} {o3 : Option pe_V} (f_a0 : pk_Fm a0 σ := by assumption) (f_a2 : pk_Fo a2 σ := by assumption)   (k : pe_M d 37 [.inr (.inr a0), .inl x1, .inl 0] σ (fun r σ' => pe_X d 26 (61, [some (.inr (.inr a0)), some (.inl x1), some (.inr (.inr a2)), o3], r.toList ++ [], σ') Φ)) : pe_X d 26 (55, [some (.inr (.inr a0)), some (.inl x1), some (.inr (.inr a2)), o3], [], σ) Φ := by
  refine pe_blk 31 3 ck26 [] (58, [some (.inr (.inr a0)), some (.inl x1), some (.inr (.inr a2)), o3], [.inl 0, .inl x1, .inr (.inr a0)], σ) rfl ?_ ?_
  · exact trivial
  · exact pe_cal 34 ck26 rfl rfl rfl trivial k
theorem b26_61 {d : Nat} {Φ : Option pe_V → pe_H → Prop} {σ : pe_H} {a0 : Nat} {x1 : Int} {a2 : Nat} {o3 : Option pe_V} (f_a0 : pk_Fm a0 σ := by assumption) (f_a2 : pk_Fo a2 σ := by assumption)   (k : pe_X d 26 (63, [some (.inr (.inr a0)), some (.inl x1), some (.inr (.inr a2)), some (.inl 0)], [], σ) Φ) : pe_X d 26 (61, [some (.inr (.inr a0)), some (.inl x1), some (.inr (.inr a2)), o3], [], σ) Φ := by
  refine pe_blk 35 2 ck26 [] (63, [some (.inr (.inr a0)), some (.inl x1), some (.inr (.inr a2)), some (.inl 0)], [], σ) rfl ?_ ?_
  · exact trivial
  · exact k
theorem b26_63 {d : Nat} {Φ : Option pe_V → pe_H → Prop} {σ : pe_H} {a0 : Nat} {x1 : Int} {a2 : Nat} {x3 : Int} (f_a0 : pk_Fm a0 σ := by assumption) (f_a2 : pk_Fo a2 σ := by assumption) (w0 : pe_in x3 := by unfold pe_in; omega)  (k1 : 1000 ≤ x3 → pe_X d 26 (89, [some (.inr (.inr a0)), some (.inl x1), some (.inr (.inr a2)), some (.inl x3)], [], σ) Φ) (k2 : ¬ (1000 ≤ x3) → pe_X d 26 (70, [some (.inr (.inr a0)), some (.inl x1), some (.inr (.inr a2)), some (.inl x3)], [], σ) Φ) : pe_X d 26 (63, [some (.inr (.inr a0)), some (.inl x1), some (.inr (.inr a2)), some (.inl x3)], [], σ) Φ := by
  refine pe_blk 37 3 ck26 [] (cond (decide ((pe_w 1000) ≤ (pe_w x3))) 89 70, [some (.inr (.inr a0)), some (.inl x1), some (.inr (.inr a2)), some (.inl x3)], [], σ) rfl ?_ ?_
  · exact trivial
  · try simp (disch := omega) only [pe_wi w0, pe_wi (x := 1000) ⟨by decide, by decide⟩]
    exact pe_two k1 k2
theorem b26_70 {d : Nat} {Φ : Option pe_V → pe_H → Prop} {σ : pe_H} {a0 : Nat} {x1 : Int} {a2 : Nat} {x3 : Int} (f_a0 : pk_Fm a0 σ := by assumption) (f_a2 : pk_Fo a2 σ := by assumption)   (k : pe_M d 3 [.inr (.inr a2)] σ (fun r σ' => pe_X d 26 (74, [some (.inr (.inr a0)), some (.inl x1), some (.inr (.inr a2)), some (.inl x3)], r.toList ++ [], σ') Φ)) : pe_X d 26 (70, [some (.inr (.inr a0)), some (.inl x1), some (.inr (.inr a2)), some (.inl x3)], [], σ) Φ := by
  refine pe_blk 40 1 ck26 [] (71, [some (.inr (.inr a0)), some (.inl x1), some (.inr (.inr a2)), some (.inl x3)], [.inr (.inr a2)], σ) rfl ?_ ?_
  · exact trivial
  · try simp (disch := omega) only [pe_K_wI, pe_K_wR, pk_oK f_a2]
    have hrc : pe_K σ a2 = 0 := by first | assumption | (simp (disch := omega) only [pe_K_wI, pe_K_wR, pk_oK f_a2]; done) | (simp (disch := omega) only [pe_K_wI, pe_K_wR, pk_oK f_a2]; assumption)
    exact pe_cal 41 ck26 rfl rfl rfl ⟨hrc, by decide⟩ k
theorem b26_74 {d : Nat} {Φ : Option pe_V → pe_H → Prop} {σ : pe_H} {a0 : Nat} {x1 : Int} {a2 : Nat} {x3 : Int} {s0 : Int} (f_a0 : pk_Fm a0 σ := by assumption) (f_a2 : pk_Fo a2 σ := by assumption) (w0 : pe_in s0 := by unfold pe_in; omega)  (k1 : ¬ s0 = 0 → pe_X d 26 (89, [some (.inr (.inr a0)), some (.inl x1), some (.inr (.inr a2)), some (.inl x3)], [], σ) Φ) (k2 : s0 = 0 → pe_X d 26 (77, [some (.inr (.inr a0)), some (.inl x1), some (.inr (.inr a2)), some (.inl x3)], [], σ) Φ) : pe_X d 26 (74, [some (.inr (.inr a0)), some (.inl x1), some (.inr (.inr a2)), some (.inl x3)], [.inl s0], σ) Φ := by
  refine pe_blk 42 1 ck26 [] (cond (decide (¬ (pe_w s0) = 0)) 89 77, [some (.inr (.inr a0)), some (.inl x1), some (.inr (.inr a2)), some (.inl x3)], [], σ) rfl ?_ ?_
  · exact trivial
  · try simp (disch := omega) only [pe_wi w0]
    exact pe_two' k1 k2
theorem b26_77 {d : Nat} {Φ : Option pe_V → pe_H → Prop} {σ : pe_H} {a0 : Nat} {x1 : Int} {a2 : Nat} {x3 : Int} (f_a0 : pk_Fm a0 σ := by assumption) (f_a2 : pk_Fo a2 σ := by assumption)   (k : pe_M d 31 [.inr (.inr a0), .inl x1, .inl 1] σ (fun r σ' => pe_X d 26 (83, [some (.inr (.inr a0)), some (.inl x1), some (.inr (.inr a2)), some (.inl x3)], r.toList ++ [], σ') Φ)) : pe_X d 26 (77, [some (.inr (.inr a0)), some (.inl x1), some (.inr (.inr a2)), some (.inl x3)], [], σ) Φ := by
  refine pe_blk 43 3 ck26 [] (80, [some (.inr (.inr a0)), some (.inl x1), some (.inr (.inr a2)), some (.inl x3)], [.inl 1, .inl x1, .inr (.inr a0)], σ) rfl ?_ ?_
  · exact trivial
  · try simp (disch := omega) only [pe_K_wI, pe_K_wR, pk_mK f_a0]
    have hrc : pe_K σ a0 = 2 := by first | assumption | (simp (disch := omega) only [pe_K_wI, pe_K_wR, pk_mK f_a0]; done) | (simp (disch := omega) only [pe_K_wI, pe_K_wR, pk_mK f_a0]; assumption)
    exact pe_cal 46 ck26 rfl rfl rfl ⟨hrc, by decide⟩ k
theorem b26_83 {d : Nat} {Φ : Option pe_V → pe_H → Prop} {σ : pe_H} {a0 : Nat} {x1 : Int} {a2 : Nat} {x3 : Int} (f_a0 : pk_Fm a0 σ := by assumption) (f_a2 : pk_Fo a2 σ := by assumption)   (k : pe_X d 26 (63, [some (.inr (.inr a0)), some (.inl x1), some (.inr (.inr a2)), some (.inl (x3 + 1))], [], σ) Φ) : pe_X d 26 (83, [some (.inr (.inr a0)), some (.inl x1), some (.inr (.inr a2)), some (.inl x3)], [], σ) Φ := by
  refine pe_blk 47 2 ck26 [] (63, [some (.inr (.inr a0)), some (.inl x1), some (.inr (.inr a2)), some (.inl (x3 + 1))], [], σ) rfl ?_ ?_
  · exact trivial
  · exact k
theorem b26_89 {d : Nat} {Φ : Option pe_V → pe_H → Prop} {σ : pe_H} {o0 : Option pe_V} {o1 : Option pe_V} {o2 : Option pe_V} {o3 : Option pe_V}    (k : Φ none σ) : pe_X d 26 (89, [o0, o1, o2, o3], [], σ) Φ := by
  exact pe_fine 49 ck26 rfl rfl rfl trivial k
-- StepMachines$Machine.makeRounds(I)V
def T27 : List (Nat × Instr × Nat) := [(0, .iconst 1, 1), (1, .istore_n 2, 1), (2, .iconst 0, 1), (3, .istore_n 3, 1), (4, .iload_n 3, 1), (5, .iload_n 1, 1), (6, .if_icmp .ge 18, 3), (9, .iload_n 2, 1), (10, .ifCond .eq 14, 3), (13, .aload_n 0, 1), (14, .invokevirtual 120, 3), (17, .istore_n 2, 1), (18, .iinc 3 1, 3), (21, .goto (-17), 3), (24, .return_, 1)]
theorem ck27 : pe_ctx 27 2 false none 4 T27 := ⟨rfl, rfl, rfl, rfl, by decide +kernel, by decide, by decide⟩
theorem b27_0 {d : Nat} {Φ : Option pe_V → pe_H → Prop} {σ : pe_H} {a0 : Nat} {x1 : Int} {o2 : Option pe_V} {o3 : Option pe_V} (f_a0 : pk_Fm a0 σ := by assumption)   (k : pe_X d 27 (4, [some (.inr (.inr a0)), some (.inl x1), some (.inl 1), some (.inl 0)], [], σ) Φ) : pe_X d 27 (0, [some (.inr (.inr a0)), some (.inl x1), o2, o3], [], σ) Φ := by
  refine pe_blk 0 4 ck27 [] (4, [some (.inr (.inr a0)), some (.inl x1), some (.inl 1), some (.inl 0)], [], σ) rfl ?_ ?_
  · exact trivial
  · exact k
theorem b27_4 {d : Nat} {Φ : Option pe_V → pe_H → Prop} {σ : pe_H} {a0 : Nat} {x1 : Int} {x2 : Int} {x3 : Int} (f_a0 : pk_Fm a0 σ := by assumption) (w0 : pe_in x1 := by unfold pe_in; omega) (w1 : pe_in x3 := by unfold pe_in; omega)  (k1 : x1 ≤ x3 → pe_X d 27 (24, [some (.inr (.inr a0)), some (.inl x1), some (.inl x2), some (.inl x3)], [], σ) Φ) (k2 : ¬ (x1 ≤ x3) → pe_X d 27 (9, [some (.inr (.inr a0)), some (.inl x1), some (.inl x2), some (.inl x3)], [], σ) Φ) : pe_X d 27 (4, [some (.inr (.inr a0)), some (.inl x1), some (.inl x2), some (.inl x3)], [], σ) Φ := by
  refine pe_blk 4 3 ck27 [] (cond (decide ((pe_w x1) ≤ (pe_w x3))) 24 9, [some (.inr (.inr a0)), some (.inl x1), some (.inl x2), some (.inl x3)], [], σ) rfl ?_ ?_
  · exact trivial
  · try simp (disch := omega) only [pe_wi w0, pe_wi w1]
    exact pe_two k1 k2
theorem b27_9 {d : Nat} {Φ : Option pe_V → pe_H → Prop} {σ : pe_H} {a0 : Nat} {x1 : Int} {x2 : Int} {x3 : Int} (f_a0 : pk_Fm a0 σ := by assumption) (w0 : pe_in x2 := by unfold pe_in; omega)  (k1 : x2 = 0 → pe_X d 27 (24, [some (.inr (.inr a0)), some (.inl x1), some (.inl x2), some (.inl x3)], [], σ) Φ) (k2 : ¬ (x2 = 0) → pe_X d 27 (13, [some (.inr (.inr a0)), some (.inl x1), some (.inl x2), some (.inl x3)], [], σ) Φ) : pe_X d 27 (9, [some (.inr (.inr a0)), some (.inl x1), some (.inl x2), some (.inl x3)], [], σ) Φ := by
  refine pe_blk 7 2 ck27 [] (cond (decide ((pe_w x2) = 0)) 24 13, [some (.inr (.inr a0)), some (.inl x1), some (.inl x2), some (.inl x3)], [], σ) rfl ?_ ?_
  · exact trivial
  · try simp (disch := omega) only [pe_wi w0]
    exact pe_two k1 k2
theorem b27_13 {d : Nat} {Φ : Option pe_V → pe_H → Prop} {σ : pe_H} {a0 : Nat} {x1 : Int} {o2 : Option pe_V} {x3 : Int} (f_a0 : pk_Fm a0 σ := by assumption)   (k : pe_M d 28 [.inr (.inr a0)] σ (fun r σ' => pe_X d 27 (17, [some (.inr (.inr a0)), some (.inl x1), o2, some (.inl x3)], r.toList ++ [], σ') Φ)) : pe_X d 27 (13, [some (.inr (.inr a0)), some (.inl x1), o2, some (.inl x3)], [], σ) Φ := by
  refine pe_blk 9 1 ck27 [] (14, [some (.inr (.inr a0)), some (.inl x1), o2, some (.inl x3)], [.inr (.inr a0)], σ) rfl ?_ ?_
  · exact trivial
  · try simp (disch := omega) only [pe_K_wI, pe_K_wR, pk_mK f_a0]
    have hrc : pe_K σ a0 = 2 := by first | assumption | (simp (disch := omega) only [pe_K_wI, pe_K_wR, pk_mK f_a0]; done) | (simp (disch := omega) only [pe_K_wI, pe_K_wR, pk_mK f_a0]; assumption)
    exact pe_cal 10 ck27 rfl rfl rfl ⟨hrc, by decide⟩ k
theorem b27_17 {d : Nat} {Φ : Option pe_V → pe_H → Prop} {σ : pe_H} {a0 : Nat} {x1 : Int} {o2 : Option pe_V} {x3 : Int} {s0 : Int} (f_a0 : pk_Fm a0 σ := by assumption)   (k : pe_X d 27 (4, [some (.inr (.inr a0)), some (.inl x1), some (.inl s0), some (.inl (x3 + 1))], [], σ) Φ) : pe_X d 27 (17, [some (.inr (.inr a0)), some (.inl x1), o2, some (.inl x3)], [.inl s0], σ) Φ := by
  refine pe_blk 11 3 ck27 [] (4, [some (.inr (.inr a0)), some (.inl x1), some (.inl s0), some (.inl (x3 + 1))], [], σ) rfl ?_ ?_
  · exact trivial
  · exact k
theorem b27_24 {d : Nat} {Φ : Option pe_V → pe_H → Prop} {σ : pe_H} {o0 : Option pe_V} {o1 : Option pe_V} {o2 : Option pe_V} {o3 : Option pe_V}    (k : Φ none σ) : pe_X d 27 (24, [o0, o1, o2, o3], [], σ) Φ := by
  exact pe_fine 14 ck27 rfl rfl rfl trivial k
-- StepMachines$Machine.makeRound()Z
def T28 : List (Nat × Instr × Nat) := [(0, .aload_n 0, 1), (1, .dup, 1), (2, .getfield 39, 3), (5, .iconst 1, 1), (6, .iadd, 1), (7, .putfield 39, 3), (10, .aload_n 0, 1), (11, .invokevirtual 123, 3), (14, .istore_n 1, 1), (15, .aload_n 0, 1), (16, .getfield 36, 3), (19, .iload_n 1, 1), (20, .invokestatic 127, 3), (23, .istore_n 2, 1), (24, .iconst 0, 1), (25, .istore_n 3, 1), (26, .iload_n 3, 1), (27, .iload_n 2, 1), (28, .if_icmp .ge 45, 3), (31, .aload_n 0, 1), (32, .getfield 19, 3), (35, .aload_n 0, 1), (36, .getfield 45, 3), (39, .iload_n 3, 1), (40, .iaload, 1), (41, .aaload, 1), (42, .astore 4, 2), (44, .aload 4, 2), (46, .iconst 0, 1), (47, .putfield 133, 3), (50, .aload 4, 2), (52, .iconst 0, 1), (53, .invokevirtual 99, 3), (56, .aload_n 0, 1), (57, .aload_n 0, 1), (58, .getfield 45, 3), (61, .iload_n 3, 1), (62, .iaload, 1), (63, .iconst 0, 1), (64, .invokevirtual 103, 3), (67, .iinc 3 1, 3), (70, .goto (-44), 3), (73, .iload_n 2, 1), (74, .istore_n 3, 1), (75, .iload_n 3, 1), (76, .iload_n 1, 1), (77, .if_icmp .ge 23, 3), (80, .aload_n 0, 1), (81, .getfield 19, 3), (84, .aload_n 0, 1), (85, .getfield 45, 3), (88, .iload_n 3, 1), (89, .iaload, 1), (90, .aaload, 1), (91, .invokevirtual 136, 3), (94, .iinc 3 1, 3), (97, .goto (-22), 3), (100, .iload_n 1, 1), (101, .ifCond .le 7, 3), (104, .iconst 1, 1), (105, .goto 4, 3), (108, .iconst 0, 1), (109, .ireturn, 1)]
theorem ck28 : pe_ctx 28 2 false (some .boolean) 5 T28 := ⟨rfl, rfl, rfl, rfl, by decide +kernel, by decide, by decide⟩
theorem b28_0 {d : Nat} {Φ : Option pe_V → pe_H → Prop} {σ : pe_H} {a0 : Nat} {o1 : Option pe_V} {o2 : Option pe_V} {o3 : Option pe_V} {o4 : Option pe_V} (f_a0 : pk_Fm a0 σ := by assumption)   (k : pe_M d 30 [.inr (.inr a0)] (pe_wI σ a0 6 ((pe_I σ a0 6) + 1)) (fun r σ' => pe_X d 28 (14, [some (.inr (.inr a0)), o1, o2, o3, o4], r.toList ++ [], σ') Φ)) : pe_X d 28 (0, [some (.inr (.inr a0)), o1, o2, o3, o4], [], σ) Φ := by
  refine pe_blk 0 7 ck28 [pe_K σ a0 = 2, pe_K σ a0 = 2] (11, [some (.inr (.inr a0)), o1, o2, o3, o4], [.inr (.inr a0)], pe_wI σ a0 6 ((pe_I σ a0 6) + 1)) rfl ?_ ?_
  · first
    | (simp (disch := omega) only [pe_all, pe_K_wI, pe_K_wR, pk_mK f_a0]; done)
    | (simp (disch := omega) only [pe_all, pe_K_wI, pe_K_wR, pk_mK f_a0]; (repeat' apply And.intro) <;> first | assumption | omega | decide)
  · try simp (disch := omega) only [pe_K_wI, pe_K_wR, pk_mK f_a0]
    have hrc : pe_K (pe_wI σ a0 6 ((pe_I σ a0 6) + 1)) a0 = 2 := by first | assumption | (simp (disch := omega) only [pe_K_wI, pe_K_wR, pk_mK f_a0]; done) | (simp (disch := omega) only [pe_K_wI, pe_K_wR, pk_mK f_a0]; assumption)
    exact pe_cal 7 ck28 rfl rfl rfl ⟨hrc, by decide⟩ k
theorem b28_14 {d : Nat} {Φ : Option pe_V → pe_H → Prop} {σ : pe_H} {a0 : Nat} {o1 : Option pe_V} {o2 : Option pe_V} {o3 : Option pe_V} {o4 : Option pe_V} {s0 : Int} (f_a0 : pk_Fm a0 σ := by assumption) (w0 : pe_in s0 := by unfold pe_in; omega) (w1 : pe_in (pe_I σ a0 5) := by unfold pe_in; omega)  (k : pe_X d 28 (26, [some (.inr (.inr a0)), some (.inl s0), some (.inl (if s0 < (pe_I σ a0 5) then s0 else (pe_I σ a0 5))), some (.inl 0), o4], [], σ) Φ) : pe_X d 28 (14, [some (.inr (.inr a0)), o1, o2, o3, o4], [.inl s0], σ) Φ := by
  refine pe_blk 8 8 ck28 [pe_K σ a0 = 2] (26, [some (.inr (.inr a0)), some (.inl s0), some (.inl (if (pe_w s0) < (pe_w (pe_I σ a0 5)) then s0 else (pe_I σ a0 5))), some (.inl 0), o4], [], σ) rfl ?_ ?_
  · first
    | (simp (disch := omega) only [pe_all, pe_wi w0, pe_wi w1, pe_K_wI, pe_K_wR, pk_mK f_a0]; done)
    | (simp (disch := omega) only [pe_all, pe_wi w0, pe_wi w1, pe_K_wI, pe_K_wR, pk_mK f_a0]; (repeat' apply And.intro) <;> first | assumption | omega | decide)
  · try simp (disch := omega) only [pe_wi w0, pe_wi w1, pe_K_wI, pe_K_wR, pk_mK f_a0]
    exact k
theorem b28_26 {d : Nat} {Φ : Option pe_V → pe_H → Prop} {σ : pe_H} {a0 : Nat} {x1 : Int} {x2 : Int} {x3 : Int} {o4 : Option pe_V} (f_a0 : pk_Fm a0 σ := by assumption) (w0 : pe_in x2 := by unfold pe_in; omega) (w1 : pe_in x3 := by unfold pe_in; omega)  (k1 : x2 ≤ x3 → pe_X d 28 (73, [some (.inr (.inr a0)), some (.inl x1), some (.inl x2), some (.inl x3), o4], [], σ) Φ) (k2 : ¬ (x2 ≤ x3) → pe_X d 28 (31, [some (.inr (.inr a0)), some (.inl x1), some (.inl x2), some (.inl x3), o4], [], σ) Φ) : pe_X d 28 (26, [some (.inr (.inr a0)), some (.inl x1), some (.inl x2), some (.inl x3), o4], [], σ) Φ := by
  refine pe_blk 16 3 ck28 [] (cond (decide ((pe_w x2) ≤ (pe_w x3))) 73 31, [some (.inr (.inr a0)), some (.inl x1), some (.inl x2), some (.inl x3), o4], [], σ) rfl ?_ ?_
  · exact trivial
  · try simp (disch := omega) only [pe_wi w0, pe_wi w1]
    exact pe_two k1 k2
theorem b28_31 {d : Nat} {Φ : Option pe_V → pe_H → Prop} {σ : pe_H} {a0 : Nat} {x1 : Int} {x2 : Int} {x3 : Int} {o4 : Option pe_V} (f_a0 : pk_Fm a0 σ := by assumption) (w0 : pe_in x3 := by unfold pe_in; omega) (w1 : pe_in (pe_I σ (a0 + 5) x3) := by unfold pe_in; omega) (h0 : 0 ≤ x3 := by first | assumption | omega) (h1 : x3 < 8 := by first | assumption | omega) (h2 : 0 ≤ (pe_I σ (a0 + 5) x3) := by first | assumption | omega) (h3 : (pe_I σ (a0 + 5) x3) < 8 := by first | assumption | omega) (k : pe_M d 5 [.inr (.inr (pk_c a0 (pe_I σ (a0 + 5) x3))), .inl 0] (pe_wI σ (pk_c a0 (pe_I σ (a0 + 5) x3)) 6 0) (fun r σ' => pe_X d 28 (56, [some (.inr (.inr a0)), some (.inl x1), some (.inl x2), some (.inl x3), some (.inr (.inr (pk_c a0 (pe_I σ (a0 + 5) x3))))], r.toList ++ [], σ') Φ)) : pe_X d 28 (31, [some (.inr (.inr a0)), some (.inl x1), some (.inl x2), some (.inl x3), o4], [], σ) Φ := by
  refine pe_blk 19 13 ck28 [pe_K σ a0 = 2, pe_K σ a0 = 2, pe_K σ (pe_R σ a0 8) = 10, 0 ≤ (pe_w x3), (pe_w x3) < pe_L σ (pe_R σ a0 8), 12 ≤ pe_K σ (pe_R σ a0 1) ∧ pe_K σ (pe_R σ a0 1) < 19, 0 ≤ (pe_w (pe_I σ (pe_R σ a0 8) (pe_w x3))), (pe_w (pe_I σ (pe_R σ a0 8) (pe_w x3))) < pe_L σ (pe_R σ a0 1), pe_K σ (pe_R σ (pe_R σ a0 1) (pe_w (pe_I σ (pe_R σ a0 8) (pe_w x3)))) = 0] (53, [some (.inr (.inr a0)), some (.inl x1), some (.inl x2), some (.inl x3), some (.inr (.inr (pe_R σ (pe_R σ a0 1) (pe_w (pe_I σ (pe_R σ a0 8) (pe_w x3))))))], [.inl 0, .inr (.inr (pe_R σ (pe_R σ a0 1) (pe_w (pe_I σ (pe_R σ a0 8) (pe_w x3)))))], pe_wI σ (pe_R σ (pe_R σ a0 1) (pe_w (pe_I σ (pe_R σ a0 8) (pe_w x3)))) 6 0) rfl ?_ ?_
  · first
    | (simp (disch := omega) only [pe_all, pe_wi w0, pe_wi w1, pe_K_wI, pe_K_wR, pe_L_wI, pe_L_wR, pe_R_nej, pe_R_ner, pe_R_wI, pk_mE2 f_a0 (i := pe_I σ (a0 + 5) x3) (by omega) (by omega), pk_mK f_a0, pk_mK2 f_a0, pk_mK5 f_a0, pk_mL2 f_a0, pk_mL5 f_a0, pk_mR2 f_a0, pk_mR5 f_a0, pk_oK (pk_mO f_a0 (i := pe_I σ (a0 + 5) x3) (by omega) (by omega))]; done)
    | (simp (disch := omega) only [pe_all, pe_wi w0, pe_wi w1, pe_K_wI, pe_K_wR, pe_L_wI, pe_L_wR, pe_R_nej, pe_R_ner, pe_R_wI, pk_mE2 f_a0 (i := pe_I σ (a0 + 5) x3) (by omega) (by omega), pk_mK f_a0, pk_mK2 f_a0, pk_mK5 f_a0, pk_mL2 f_a0, pk_mL5 f_a0, pk_mR2 f_a0, pk_mR5 f_a0, pk_oK (pk_mO f_a0 (i := pe_I σ (a0 + 5) x3) (by omega) (by omega))]; (repeat' apply And.intro) <;> first | assumption | omega | decide)
  · try simp (disch := omega) only [pe_wi w0, pe_wi w1, pe_K_wI, pe_K_wR, pe_L_wI, pe_L_wR, pe_R_nej, pe_R_ner, pe_R_wI, pk_mE2 f_a0 (i := pe_I σ (a0 + 5) x3) (by omega) (by omega), pk_mK f_a0, pk_mK2 f_a0, pk_mK5 f_a0, pk_mL2 f_a0, pk_mL5 f_a0, pk_mR2 f_a0, pk_mR5 f_a0, pk_oK (pk_mO f_a0 (i := pe_I σ (a0 + 5) x3) (by omega) (by omega))]
    have hrc : pe_K (pe_wI σ (pk_c a0 (pe_I σ (a0 + 5) x3)) 6 0) (pk_c a0 (pe_I σ (a0 + 5) x3)) = 0 := by first | assumption | (simp (disch := omega) only [pe_wi w0, pe_wi w1, pe_K_wI, pe_K_wR, pe_L_wI, pe_L_wR, pe_R_nej, pe_R_ner, pe_R_wI, pk_mE2 f_a0 (i := pe_I σ (a0 + 5) x3) (by omega) (by omega), pk_mK f_a0, pk_mK2 f_a0, pk_mK5 f_a0, pk_mL2 f_a0, pk_mL5 f_a0, pk_mR2 f_a0, pk_mR5 f_a0, pk_oK (pk_mO f_a0 (i := pe_I σ (a0 + 5) x3) (by omega) (by omega))]; done) | (simp (disch := omega) only [pe_wi w0, pe_wi w1, pe_K_wI, pe_K_wR, pe_L_wI, pe_L_wR, pe_R_nej, pe_R_ner, pe_R_wI, pk_mE2 f_a0 (i := pe_I σ (a0 + 5) x3) (by omega) (by omega), pk_mK f_a0, pk_mK2 f_a0, pk_mK5 f_a0, pk_mL2 f_a0, pk_mL5 f_a0, pk_mR2 f_a0, pk_mR5 f_a0, pk_oK (pk_mO f_a0 (i := pe_I σ (a0 + 5) x3) (by omega) (by omega))]; assumption)
    exact pe_cal 32 ck28 rfl rfl rfl ⟨hrc, by decide⟩ k
theorem b28_56 {d : Nat} {Φ : Option pe_V → pe_H → Prop} {σ : pe_H} {a0 : Nat} {x1 : Int} {x2 : Int} {x3 : Int} {o4 : Option pe_V} (f_a0 : pk_Fm a0 σ := by assumption) (w0 : pe_in x3 := by unfold pe_in; omega) (h0 : 0 ≤ x3 := by first | assumption | omega) (h1 : x3 < 8 := by first | assumption | omega) (k : pe_M d 31 [.inr (.inr a0), .inl (pe_I σ (a0 + 5) x3), .inl 0] σ (fun r σ' => pe_X d 28 (67, [some (.inr (.inr a0)), some (.inl x1), some (.inl x2), some (.inl x3), o4], r.toList ++ [], σ') Φ)) : pe_X d 28 (56, [some (.inr (.inr a0)), some (.inl x1), some (.inl x2), some (.inl x3), o4], [], σ) Φ := by
  refine pe_blk 33 6 ck28 [pe_K σ a0 = 2, pe_K σ (pe_R σ a0 8) = 10, 0 ≤ (pe_w x3), (pe_w x3) < pe_L σ (pe_R σ a0 8)] (64, [some (.inr (.inr a0)), some (.inl x1), some (.inl x2), some (.inl x3), o4], [.inl 0, .inl (pe_I σ (pe_R σ a0 8) (pe_w x3)), .inr (.inr a0)], σ) rfl ?_ ?_
  · first
    | (simp (disch := omega) only [pe_all, pe_wi w0, pe_K_wI, pe_K_wR, pe_L_wI, pe_L_wR, pe_R_nej, pe_R_ner, pe_R_wI, pk_mK f_a0, pk_mK5 f_a0, pk_mL5 f_a0, pk_mR5 f_a0]; done)
    | (simp (disch := omega) only [pe_all, pe_wi w0, pe_K_wI, pe_K_wR, pe_L_wI, pe_L_wR, pe_R_nej, pe_R_ner, pe_R_wI, pk_mK f_a0, pk_mK5 f_a0, pk_mL5 f_a0, pk_mR5 f_a0]; (repeat' apply And.intro) <;> first | assumption | omega | decide)
  · try simp (disch := omega) only [pe_wi w0, pe_K_wI, pe_K_wR, pe_L_wI, pe_L_wR, pe_R_nej, pe_R_ner, pe_R_wI, pk_mK f_a0, pk_mK5 f_a0, pk_mL5 f_a0, pk_mR5 f_a0]
    have hrc : pe_K σ a0 = 2 := by first | assumption | (simp (disch := omega) only [pe_wi w0, pe_K_wI, pe_K_wR, pe_L_wI, pe_L_wR, pe_R_nej, pe_R_ner, pe_R_wI, pk_mK f_a0, pk_mK5 f_a0, pk_mL5 f_a0, pk_mR5 f_a0]; done) | (simp (disch := omega) only [pe_wi w0, pe_K_wI, pe_K_wR, pe_L_wI, pe_L_wR, pe_R_nej, pe_R_ner, pe_R_wI, pk_mK f_a0, pk_mK5 f_a0, pk_mL5 f_a0, pk_mR5 f_a0]; assumption)
    exact pe_cal 39 ck28 rfl rfl rfl ⟨hrc, by decide⟩ k
theorem b28_67 {d : Nat} {Φ : Option pe_V → pe_H → Prop} {σ : pe_H} {a0 : Nat} {x1 : Int} {x2 : Int} {x3 : Int} {o4 : Option pe_V} (f_a0 : pk_Fm a0 σ := by assumption)   (k : pe_X d 28 (26, [some (.inr (.inr a0)), some (.inl x1), some (.inl x2), some (.inl (x3 + 1)), o4], [], σ) Φ) : pe_X d 28 (67, [some (.inr (.inr a0)), some (.inl x1), some (.inl x2), some (.inl x3), o4], [], σ) Φ := by
  refine pe_blk 40 2 ck28 [] (26, [some (.inr (.inr a0)), some (.inl x1), some (.inl x2), some (.inl (x3 + 1)), o4], [], σ) rfl ?_ ?_
  · exact trivial
  · exact k
theorem b28_73 {d : Nat} {Φ : Option pe_V → pe_H → Prop} {σ : pe_H} {a0 : Nat} {x1 : Int} {x2 : Int} {o3 : Option pe_V} {o4 : Option pe_V} (f_a0 : pk_Fm a0 σ := by assumption)   (k : pe_X d 28 (75, [some (.inr (.inr a0)), some (.inl x1), some (.inl x2), some (.inl x2), o4], [], σ) Φ) : pe_X d 28 (73, [some (.inr (.inr a0)), some (.inl x1), some (.inl x2), o3, o4], [], σ) Φ := by
  refine pe_blk 42 2 ck28 [] (75, [some (.inr (.inr a0)), some (.inl x1), some (.inl x2), some (.inl x2), o4], [], σ) rfl ?_ ?_
  · exact trivial
  · exact k
theorem b28_75 {d : Nat} {Φ : Option pe_V → pe_H → Prop} {σ : pe_H} {a0 : Nat} {x1 : Int} {o2 : Option pe_V} {x3 : Int} {o4 : Option pe_V} (f_a0 : pk_Fm a0 σ := by assumption) (w0 : pe_in x1 := by unfold pe_in; omega) (w1 : pe_in x3 := by unfold pe_in; omega)  (k1 : x1 ≤ x3 → pe_X d 28 (100, [some (.inr (.inr a0)), some (.inl x1), o2, some (.inl x3), o4], [], σ) Φ) (k2 : ¬ (x1 ≤ x3) → pe_X d 28 (80, [some (.inr (.inr a0)), some (.inl x1), o2, some (.inl x3), o4], [], σ) Φ) : pe_X d 28 (75, [some (.inr (.inr a0)), some (.inl x1), o2, some (.inl x3), o4], [], σ) Φ := by
  refine pe_blk 44 3 ck28 [] (cond (decide ((pe_w x1) ≤ (pe_w x3))) 100 80, [some (.inr (.inr a0)), some (.inl x1), o2, some (.inl x3), o4], [], σ) rfl ?_ ?_
  · exact trivial
  · try simp (disch := omega) only [pe_wi w0, pe_wi w1]
    exact pe_two k1 k2
set_option maxRecDepth 8000 in
theorem b28_80 {d : Nat} {Φ : Option pe_V → pe_H → Prop} {σ : pe_H} {a0 : Nat} {x1 : Int} {o2 : Option pe_V} {x3 : Int} {o4 : Option pe_V} (f_a0 : pk_Fm a0 σ := by assumption) (w0 : pe_in x3 := by unfold pe_in; omega) (w1 : pe_in (pe_I σ (a0 + 5) x3) := by unfold pe_in; omega) (h0 : 0 ≤ x3 := by first | assumption | omega) (h1 : x3 < 8 := by first | assumption | omega) (h2 : 0 ≤ (pe_I σ (a0 + 5) x3) := by first | assumption | omega) (h3 : (pe_I σ (a0 + 5) x3) < 8 := by first | assumption | omega) (k : pe_M d 6 [.inr (.inr (pk_c a0 (pe_I σ (a0 + 5) x3)))] σ (fun r σ' => pe_X d 28 (94, [some (.inr (.inr a0)), some (.inl x1), o2, some (.inl x3), o4], r.toList ++ [], σ') Φ)) : pe_X d 28 (80, [some (.inr (.inr a0)), some (.inl x1), o2, some (.inl x3), o4], [], σ) Φ := by
  refine pe_blk 47 7 ck28 [pe_K σ a0 = 2, pe_K σ a0 = 2, pe_K σ (pe_R σ a0 8) = 10, 0 ≤ (pe_w x3), (pe_w x3) < pe_L σ (pe_R σ a0 8), 12 ≤ pe_K σ (pe_R σ a0 1) ∧ pe_K σ (pe_R σ a0 1) < 19, 0 ≤ (pe_w (pe_I σ (pe_R σ a0 8) (pe_w x3))), (pe_w (pe_I σ (pe_R σ a0 8) (pe_w x3))) < pe_L σ (pe_R σ a0 1)] (91, [some (.inr (.inr a0)), some (.inl x1), o2, some (.inl x3), o4], [.inr (.inr (pe_R σ (pe_R σ a0 1) (pe_w (pe_I σ (pe_R σ a0 8) (pe_w x3)))))], σ) rfl ?_ ?_
  · first
    | (simp (disch := omega) only [pe_all, pe_wi w0, pe_wi w1, pe_K_wI, pe_K_wR, pe_L_wI, pe_L_wR, pe_R_nej, pe_R_ner, pe_R_wI, pk_mE2 f_a0 (i := pe_I σ (a0 + 5) x3) (by omega) (by omega), pk_mK f_a0, pk_mK2 f_a0, pk_mK5 f_a0, pk_mL2 f_a0, pk_mL5 f_a0, pk_mR2 f_a0, pk_mR5 f_a0, pk_oK (pk_mO f_a0 (i := pe_I σ (a0 + 5) x3) (by omega) (by omega))]; done)
    | (simp (disch := omega) only [pe_all, pe_wi w0, pe_wi w1, pe_K_wI, pe_K_wR, pe_L_wI, pe_L_wR, pe_R_nej, pe_R_ner, pe_R_wI, pk_mE2 f_a0 (i := pe_I σ (a0 + 5) x3) (by omega) (by omega), pk_mK f_a0, pk_mK2 f_a0, pk_mK5 f_a0, pk_mL2 f_a0, pk_mL5 f_a0, pk_mR2 f_a0, pk_mR5 f_a0, pk_oK (pk_mO f_a0 (i := pe_I σ (a0 + 5) x3) (by omega) (by omega))]; (repeat' apply And.intro) <;> first | assumption | omega | decide)
  · try simp (disch := omega) only [pe_wi w0, pe_wi w1, pe_K_wI, pe_K_wR, pe_L_wI, pe_L_wR, pe_R_nej, pe_R_ner, pe_R_wI, pk_mE2 f_a0 (i := pe_I σ (a0 + 5) x3) (by omega) (by omega), pk_mK f_a0, pk_mK2 f_a0, pk_mK5 f_a0, pk_mL2 f_a0, pk_mL5 f_a0, pk_mR2 f_a0, pk_mR5 f_a0, pk_oK (pk_mO f_a0 (i := pe_I σ (a0 + 5) x3) (by omega) (by omega))]
    have hrc : pe_K σ (pk_c a0 (pe_I σ (a0 + 5) x3)) = 0 := by first | assumption | (simp (disch := omega) only [pe_wi w0, pe_wi w1, pe_K_wI, pe_K_wR, pe_L_wI, pe_L_wR, pe_R_nej, pe_R_ner, pe_R_wI, pk_mE2 f_a0 (i := pe_I σ (a0 + 5) x3) (by omega) (by omega), pk_mK f_a0, pk_mK2 f_a0, pk_mK5 f_a0, pk_mL2 f_a0, pk_mL5 f_a0, pk_mR2 f_a0, pk_mR5 f_a0, pk_oK (pk_mO f_a0 (i := pe_I σ (a0 + 5) x3) (by omega) (by omega))]; done) | (simp (disch := omega) only [pe_wi w0, pe_wi w1, pe_K_wI, pe_K_wR, pe_L_wI, pe_L_wR, pe_R_nej, pe_R_ner, pe_R_wI, pk_mE2 f_a0 (i := pe_I σ (a0 + 5) x3) (by omega) (by omega), pk_mK f_a0, pk_mK2 f_a0, pk_mK5 f_a0, pk_mL2 f_a0, pk_mL5 f_a0, pk_mR2 f_a0, pk_mR5 f_a0, pk_oK (pk_mO f_a0 (i := pe_I σ (a0 + 5) x3) (by omega) (by omega))]; assumption)
    exact pe_cal 54 ck28 rfl rfl rfl ⟨hrc, by decide⟩ k
set_option maxRecDepth 8000 in
theorem b28_94 {d : Nat} {Φ : Option pe_V → pe_H → Prop} {σ : pe_H} {a0 : Nat} {x1 : Int} {o2 : Option pe_V} {x3 : Int} {o4 : Option pe_V} (f_a0 : pk_Fm a0 σ := by assumption)   (k : pe_X d 28 (75, [some (.inr (.inr a0)), some (.inl x1), pe_nl o2, some (.inl (x3 + 1)), o4], [], σ) Φ) : pe_X d 28 (94, [some (.inr (.inr a0)), some (.inl x1), o2, some (.inl x3), o4], [], σ) Φ := by
  refine pe_blk 55 2 ck28 [] (75, [some (.inr (.inr a0)), some (.inl x1), pe_nl o2, some (.inl (x3 + 1)), o4], [], σ) rfl ?_ ?_
  · exact trivial
  · exact k
set_option maxRecDepth 8000 in
theorem b28_100 {d : Nat} {Φ : Option pe_V → pe_H → Prop} {σ : pe_H} {o0 : Option pe_V} {x1 : Int} {o2 : Option pe_V} {o3 : Option pe_V} {o4 : Option pe_V}  (w0 : pe_in x1 := by unfold pe_in; omega)  (k1 : x1 ≤ 0 → pe_X d 28 (108, [o0, some (.inl x1), o2, o3, o4], [], σ) Φ) (k2 : ¬ (x1 ≤ 0) → pe_X d 28 (104, [o0, some (.inl x1), o2, o3, o4], [], σ) Φ) : pe_X d 28 (100, [o0, some (.inl x1), o2, o3, o4], [], σ) Φ := by
  refine pe_blk 57 2 ck28 [] (cond (decide ((pe_w x1) ≤ 0)) 108 104, [o0, some (.inl x1), o2, o3, o4], [], σ) rfl ?_ ?_
  · exact trivial
  · try simp (disch := omega) only [pe_wi w0]
    exact pe_two k1 k2
set_option maxRecDepth 8000 in
theorem b28_104 {d : Nat} {Φ : Option pe_V → pe_H → Prop} {σ : pe_H} {o0 : Option pe_V} {o1 : Option pe_V} {o2 : Option pe_V} {o3 : Option pe_V} {o4 : Option pe_V}    (k : pe_X d 28 (109, [o0, o1, o2, o3, o4], [.inl 1], σ) Φ) : pe_X d 28 (104, [o0, o1, o2, o3, o4], [], σ) Φ := by
  refine pe_blk 59 2 ck28 [] (109, [o0, o1, o2, o3, o4], [.inl 1], σ) rfl ?_ ?_
  · exact trivial
  · exact k
set_option maxRecDepth 8000 in
theorem b28_108 {d : Nat} {Φ : Option pe_V → pe_H → Prop} {σ : pe_H} {o0 : Option pe_V} {o1 : Option pe_V} {o2 : Option pe_V} {o3 : Option pe_V} {o4 : Option pe_V}    (k : pe_X d 28 (109, [o0, o1, o2, o3, o4], [.inl 0], σ) Φ) : pe_X d 28 (108, [o0, o1, o2, o3, o4], [], σ) Φ := by
  refine pe_blk 61 1 ck28 [] (109, [o0, o1, o2, o3, o4], [.inl 0], σ) rfl ?_ ?_
  · exact trivial
  · exact k
set_option maxRecDepth 8000 in
theorem b28_109 {d : Nat} {Φ : Option pe_V → pe_H → Prop} {σ : pe_H} {o0 : Option pe_V} {o1 : Option pe_V} {o2 : Option pe_V} {o3 : Option pe_V} {o4 : Option pe_V} {s0 : Int}   (h0 : s0 = 0 ∨ s0 = 1 := by first | assumption | omega) (k : Φ (some (.inl s0)) σ) : pe_X d 28 (109, [o0, o1, o2, o3, o4], [.inl s0], σ) Φ := by
  exact pe_fine 62 ck28 rfl rfl rfl h0 k
-- StepMachines$Machine.loseRound()V
-- StepMachines$Machine.lineUp()I
def T30 : List (Nat × Instr × Nat) := [(0, .iconst 0, 1), (1, .istore_n 1, 1), (2, .iconst 0, 1), (3, .istore_n 2, 1), (4, .iload_n 2, 1), (5, .aload_n 0, 1), (6, .getfield 32, 3), (9, .if_icmp .ge 122, 3), (12, .aload_n 0, 1), (13, .getfield 19, 3), (16, .iload_n 2, 1), (17, .aaload, 1), (18, .invokevirtual 86, 3), (21, .ifCond .eq 104, 3), (24, .aload_n 0, 1), (25, .getfield 19, 3), (28, .iload_n 2, 1), (29, .aaload, 1), (30, .getfield 133, 3), (33, .aload_n 0, 1), (34, .getfield 19, 3), (37, .iload_n 2, 1), (38, .aaload, 1), (39, .getfield 139, 3), (42, .invokevirtual 143, 3), (45, .iadd, 1), (46, .istore_n 3, 1), (47, .iload_n 1, 1), (48, .istore 4, 2), (50, .iload 4, 2), (52, .ifCond .le 54, 3), (55, .aload_n 0, 1), (56, .getfield 49, 3), (59, .iload 4, 2), (61, .iconst 1, 1), (62, .isub, 1), (63, .iaload, 1), (64, .iload_n 3, 1), (65, .if_icmp .ge 41, 3), (68, .aload_n 0, 1), (69, .getfield 49, 3), (72, .iload 4, 2), (74, .aload_n 0, 1), (75, .getfield 49, 3), (78, .iload 4, 2), (80, .iconst 1, 1), (81, .isub, 1), (82, .iaload, 1), (83, .iastore, 1), (84, .aload_n 0, 1), (85, .getfield 45, 3), (88, .iload 4, 2), (90, .aload_n 0, 1), (91, .getfield 45, 3), (94, .iload 4, 2), (96, .iconst 1, 1), (97, .isub, 1), (98, .iaload, 1), (99, .iastore, 1), (100, .iinc 4 (-1), 3), (103, .goto (-53), 3), (106, .aload_n 0, 1), (107, .getfield 49, 3), (110, .iload 4, 2), (112, .iload_n 3, 1), (113, .iastore, 1), (114, .aload_n 0, 1), (115, .getfield 45, 3), (118, .iload 4, 2), (120, .iload_n 2, 1), (121, .iastore, 1), (122, .iinc 1 1, 3), (125, .iinc 2 1, 3), (128, .goto (-124), 3), (131, .iload_n 1, 1), (132, .ireturn, 1)]
theorem ck30 : pe_ctx 30 2 false (some .int) 5 T30 := ⟨rfl, rfl, rfl, rfl, by decide +kernel, by decide, by decide⟩
theorem b30_0 {d : Nat} {Φ : Option pe_V → pe_H → Prop} {σ : pe_H} {a0 : Nat} {o1 : Option pe_V} {o2 : Option pe_V} {o3 : Option pe_V} {o4 : Option pe_V} (f_a0 : pk_Fm a0 σ := by assumption)   (k : pe_X d 30 (4, [some (.inr (.inr a0)), some (.inl 0), some (.inl 0), o3, o4], [], σ) Φ) : pe_X d 30 (0, [some (.inr (.inr a0)), o1, o2, o3, o4], [], σ) Φ := by
  refine pe_blk 0 4 ck30 [] (4, [some (.inr (.inr a0)), some (.inl 0), some (.inl 0), o3, o4], [], σ) rfl ?_ ?_
  · exact trivial
  · exact k
theorem b30_4 {d : Nat} {Φ : Option pe_V → pe_H → Prop} {σ : pe_H} {a0 : Nat} {x1 : Int} {x2 : Int} {o3 : Option pe_V} {o4 : Option pe_V} (f_a0 : pk_Fm a0 σ := by assumption) (w0 : pe_in (pe_I σ a0 4) := by unfold pe_in; omega) (w1 : pe_in x2 := by unfold pe_in; omega)  (k1 : (pe_I σ a0 4) ≤ x2 → pe_X d 30 (131, [some (.inr (.inr a0)), some (.inl x1), some (.inl x2), o3, o4], [], σ) Φ) (k2 : ¬ ((pe_I σ a0 4) ≤ x2) → pe_X d 30 (12, [some (.inr (.inr a0)), some (.inl x1), some (.inl x2), o3, o4], [], σ) Φ) : pe_X d 30 (4, [some (.inr (.inr a0)), some (.inl x1), some (.inl x2), o3, o4], [], σ) Φ := by
  refine pe_blk 4 4 ck30 [pe_K σ a0 = 2] (cond (decide ((pe_w (pe_I σ a0 4)) ≤ (pe_w x2))) 131 12, [some (.inr (.inr a0)), some (.inl x1), some (.inl x2), o3, o4], [], σ) rfl ?_ ?_
  · first
    | (simp (disch := omega) only [pe_all, pe_wi w0, pe_wi w1, pe_K_wI, pe_K_wR, pk_mK f_a0]; done)
    | (simp (disch := omega) only [pe_all, pe_wi w0, pe_wi w1, pe_K_wI, pe_K_wR, pk_mK f_a0]; (repeat' apply And.intro) <;> first | assumption | omega | decide)
  · try simp (disch := omega) only [pe_wi w0, pe_wi w1, pe_K_wI, pe_K_wR, pk_mK f_a0]
    exact pe_two k1 k2
theorem b30_12 {d : Nat} {Φ : Option pe_V → pe_H → Prop} {σ : pe_H} {a0 : Nat} {x1 : Int} {x2 : Int} {o3 : Option pe_V} {o4 : Option pe_V} (f_a0 : pk_Fm a0 σ := by assumption) (w0 : pe_in x2 := by unfold pe_in; omega) (h0 : 0 ≤ x2 := by first | assumption | omega) (h1 : x2 < 8 := by first | assumption | omega) (k : pe_M d 4 [.inr (.inr (pk_c a0 x2))] σ (fun r σ' => pe_X d 30 (21, [some (.inr (.inr a0)), some (.inl x1), some (.inl x2), o3, o4], r.toList ++ [], σ') Φ)) : pe_X d 30 (12, [some (.inr (.inr a0)), some (.inl x1), some (.inl x2), o3, o4], [], σ) Φ := by
  refine pe_blk 8 4 ck30 [pe_K σ a0 = 2, 12 ≤ pe_K σ (pe_R σ a0 1) ∧ pe_K σ (pe_R σ a0 1) < 19, 0 ≤ (pe_w x2), (pe_w x2) < pe_L σ (pe_R σ a0 1)] (18, [some (.inr (.inr a0)), some (.inl x1), some (.inl x2), o3, o4], [.inr (.inr (pe_R σ (pe_R σ a0 1) (pe_w x2)))], σ) rfl ?_ ?_
  · first
    | (simp (disch := omega) only [pe_all, pe_wi w0, pe_K_wI, pe_K_wR, pe_L_wI, pe_L_wR, pe_R_nej, pe_R_ner, pe_R_wI, pk_mE2 f_a0 (i := x2) (by omega) (by omega), pk_mK f_a0, pk_mK2 f_a0, pk_mL2 f_a0, pk_mR2 f_a0, pk_oK (pk_mO f_a0 (i := x2) (by omega) (by omega))]; done)
    | (simp (disch := omega) only [pe_all, pe_wi w0, pe_K_wI, pe_K_wR, pe_L_wI, pe_L_wR, pe_R_nej, pe_R_ner, pe_R_wI, pk_mE2 f_a0 (i := x2) (by omega) (by omega), pk_mK f_a0, pk_mK2 f_a0, pk_mL2 f_a0, pk_mR2 f_a0, pk_oK (pk_mO f_a0 (i := x2) (by omega) (by omega))]; (repeat' apply And.intro) <;> first | assumption | omega | decide)
  · try simp (disch := omega) only [pe_wi w0, pe_K_wI, pe_K_wR, pe_L_wI, pe_L_wR, pe_R_nej, pe_R_ner, pe_R_wI, pk_mE2 f_a0 (i := x2) (by omega) (by omega), pk_mK f_a0, pk_mK2 f_a0, pk_mL2 f_a0, pk_mR2 f_a0, pk_oK (pk_mO f_a0 (i := x2) (by omega) (by omega))]
    have hrc : pe_K σ (pk_c a0 x2) = 0 := by first | assumption | (simp (disch := omega) only [pe_wi w0, pe_K_wI, pe_K_wR, pe_L_wI, pe_L_wR, pe_R_nej, pe_R_ner, pe_R_wI, pk_mE2 f_a0 (i := x2) (by omega) (by omega), pk_mK f_a0, pk_mK2 f_a0, pk_mL2 f_a0, pk_mR2 f_a0, pk_oK (pk_mO f_a0 (i := x2) (by omega) (by omega))]; done) | (simp (disch := omega) only [pe_wi w0, pe_K_wI, pe_K_wR, pe_L_wI, pe_L_wR, pe_R_nej, pe_R_ner, pe_R_wI, pk_mE2 f_a0 (i := x2) (by omega) (by omega), pk_mK f_a0, pk_mK2 f_a0, pk_mL2 f_a0, pk_mR2 f_a0, pk_oK (pk_mO f_a0 (i := x2) (by omega) (by omega))]; assumption)
    exact pe_cal 12 ck30 rfl rfl rfl ⟨hrc, by decide⟩ k
theorem b30_21 {d : Nat} {Φ : Option pe_V → pe_H → Prop} {σ : pe_H} {a0 : Nat} {x1 : Int} {x2 : Int} {o3 : Option pe_V} {o4 : Option pe_V} {s0 : Int} (f_a0 : pk_Fm a0 σ := by assumption) (w0 : pe_in s0 := by unfold pe_in; omega)  (k1 : s0 = 0 → pe_X d 30 (125, [some (.inr (.inr a0)), some (.inl x1), some (.inl x2), o3, o4], [], σ) Φ) (k2 : ¬ (s0 = 0) → pe_X d 30 (24, [some (.inr (.inr a0)), some (.inl x1), some (.inl x2), o3, o4], [], σ) Φ) : pe_X d 30 (21, [some (.inr (.inr a0)), some (.inl x1), some (.inl x2), o3, o4], [.inl s0], σ) Φ := by
  refine pe_blk 13 1 ck30 [] (cond (decide ((pe_w s0) = 0)) 125 24, [some (.inr (.inr a0)), some (.inl x1), some (.inl x2), o3, o4], [], σ) rfl ?_ ?_
  · exact trivial
  · try simp (disch := omega) only [pe_wi w0]
    exact pe_two k1 k2
theorem b30_24 {d : Nat} {Φ : Option pe_V → pe_H → Prop} {σ : pe_H} {a0 : Nat} {x1 : Int} {x2 : Int} {o3 : Option pe_V} {o4 : Option pe_V} (f_a0 : pk_Fm a0 σ := by assumption) (w0 : pe_in x2 := by unfold pe_in; omega) (h0 : 0 ≤ x2 := by first | assumption | omega) (h1 : x2 < 8 := by first | assumption | omega) (h2 : pe_K σ (pe_R σ (pk_c a0 x2) 1) = 3 := by first | assumption | omega) (k : pe_M d 42 [.inr (.inr (pe_R σ (pk_c a0 x2) 1))] σ (fun r σ' => pe_X d 30 (45, [some (.inr (.inr a0)), some (.inl x1), some (.inl x2), o3, o4], r.toList ++ [.inl (pe_I σ (pk_c a0 x2) 6)], σ') Φ)) : pe_X d 30 (24, [some (.inr (.inr a0)), some (.inl x1), some (.inl x2), o3, o4], [], σ) Φ := by
  refine pe_blk 14 10 ck30 [pe_K σ a0 = 2, 12 ≤ pe_K σ (pe_R σ a0 1) ∧ pe_K σ (pe_R σ a0 1) < 19, 0 ≤ (pe_w x2), (pe_w x2) < pe_L σ (pe_R σ a0 1), pe_K σ (pe_R σ (pe_R σ a0 1) (pe_w x2)) = 0, pe_K σ a0 = 2, 12 ≤ pe_K σ (pe_R σ a0 1) ∧ pe_K σ (pe_R σ a0 1) < 19, 0 ≤ (pe_w x2), (pe_w x2) < pe_L σ (pe_R σ a0 1), pe_K σ (pe_R σ (pe_R σ a0 1) (pe_w x2)) = 0] (42, [some (.inr (.inr a0)), some (.inl x1), some (.inl x2), o3, o4], [.inr (.inr (pe_R σ (pe_R σ (pe_R σ a0 1) (pe_w x2)) 1)), .inl (pe_I σ (pe_R σ (pe_R σ a0 1) (pe_w x2)) 6)], σ) rfl ?_ ?_
  · first
    | (simp (disch := omega) only [pe_all, pe_wi w0, pe_K_wI, pe_K_wR, pe_L_wI, pe_L_wR, pe_R_nej, pe_R_ner, pe_R_wI, pk_mE2 f_a0 (i := x2) (by omega) (by omega), pk_mK f_a0, pk_mK2 f_a0, pk_mL2 f_a0, pk_mR2 f_a0, pk_oK (pk_mO f_a0 (i := x2) (by omega) (by omega))]; done)
    | (simp (disch := omega) only [pe_all, pe_wi w0, pe_K_wI, pe_K_wR, pe_L_wI, pe_L_wR, pe_R_nej, pe_R_ner, pe_R_wI, pk_mE2 f_a0 (i := x2) (by omega) (by omega), pk_mK f_a0, pk_mK2 f_a0, pk_mL2 f_a0, pk_mR2 f_a0, pk_oK (pk_mO f_a0 (i := x2) (by omega) (by omega))]; (repeat' apply And.intro) <;> first | assumption | omega | decide)
  · try simp (disch := omega) only [pe_wi w0, pe_K_wI, pe_K_wR, pe_L_wI, pe_L_wR, pe_R_nej, pe_R_ner, pe_R_wI, pk_mE2 f_a0 (i := x2) (by omega) (by omega), pk_mK f_a0, pk_mK2 f_a0, pk_mL2 f_a0, pk_mR2 f_a0, pk_oK (pk_mO f_a0 (i := x2) (by omega) (by omega))]
    have hrc : pe_K σ (pe_R σ (pk_c a0 x2) 1) = 3 := by first | assumption | (simp (disch := omega) only [pe_wi w0, pe_K_wI, pe_K_wR, pe_L_wI, pe_L_wR, pe_R_nej, pe_R_ner, pe_R_wI, pk_mE2 f_a0 (i := x2) (by omega) (by omega), pk_mK f_a0, pk_mK2 f_a0, pk_mL2 f_a0, pk_mR2 f_a0, pk_oK (pk_mO f_a0 (i := x2) (by omega) (by omega))]; done) | (simp (disch := omega) only [pe_wi w0, pe_K_wI, pe_K_wR, pe_L_wI, pe_L_wR, pe_R_nej, pe_R_ner, pe_R_wI, pk_mE2 f_a0 (i := x2) (by omega) (by omega), pk_mK f_a0, pk_mK2 f_a0, pk_mL2 f_a0, pk_mR2 f_a0, pk_oK (pk_mO f_a0 (i := x2) (by omega) (by omega))]; assumption)
    exact pe_cal 24 ck30 rfl rfl rfl ⟨hrc, by decide⟩ k
theorem b30_45 {d : Nat} {Φ : Option pe_V → pe_H → Prop} {σ : pe_H} {a0 : Nat} {x1 : Int} {x2 : Int} {o3 : Option pe_V} {o4 : Option pe_V} {s0 : Int} {s1 : Int} (f_a0 : pk_Fm a0 σ := by assumption)   (k : pe_X d 30 (50, [some (.inr (.inr a0)), some (.inl x1), some (.inl x2), some (.inl (s0 + s1)), some (.inl x1)], [], σ) Φ) : pe_X d 30 (45, [some (.inr (.inr a0)), some (.inl x1), some (.inl x2), o3, o4], [.inl s1, .inl s0], σ) Φ := by
  refine pe_blk 25 4 ck30 [] (50, [some (.inr (.inr a0)), some (.inl x1), some (.inl x2), some (.inl (s0 + s1)), some (.inl x1)], [], σ) rfl ?_ ?_
  · exact trivial
  · exact k
theorem b30_50 {d : Nat} {Φ : Option pe_V → pe_H → Prop} {σ : pe_H} {a0 : Nat} {x1 : Int} {x2 : Int} {x3 : Int} {x4 : Int} (f_a0 : pk_Fm a0 σ := by assumption) (w0 : pe_in x4 := by unfold pe_in; omega)  (k1 : x4 ≤ 0 → pe_X d 30 (106, [some (.inr (.inr a0)), some (.inl x1), some (.inl x2), some (.inl x3), some (.inl x4)], [], σ) Φ) (k2 : ¬ (x4 ≤ 0) → pe_X d 30 (55, [some (.inr (.inr a0)), some (.inl x1), some (.inl x2), some (.inl x3), some (.inl x4)], [], σ) Φ) : pe_X d 30 (50, [some (.inr (.inr a0)), some (.inl x1), some (.inl x2), some (.inl x3), some (.inl x4)], [], σ) Φ := by
  refine pe_blk 29 2 ck30 [] (cond (decide ((pe_w x4) ≤ 0)) 106 55, [some (.inr (.inr a0)), some (.inl x1), some (.inl x2), some (.inl x3), some (.inl x4)], [], σ) rfl ?_ ?_
  · exact trivial
  · try simp (disch := omega) only [pe_wi w0]
    exact pe_two k1 k2
theorem b30_55 {d : Nat} {Φ : Option pe_V → pe_H → Prop} {σ : pe_H} {a0 : Nat} {x1 : Int} {x2 : Int} {x3 : Int} {x4 : Int} (f_a0 : pk_Fm a0 σ := by assumption) (w0 : pe_in (x4 - 1) := by unfold pe_in; omega) (w1 : pe_in x3 := by unfold pe_in; omega) (w2 : pe_in (pe_I σ (a0 + 6) (x4 - 1)) := by unfold pe_in; omega) (h0 : 0 ≤ (x4 - 1) := by first | assumption | omega) (h1 : (x4 - 1) < 8 := by first | assumption | omega) (k1 : x3 ≤ (pe_I σ (a0 + 6) (x4 - 1)) → pe_X d 30 (106, [some (.inr (.inr a0)), some (.inl x1), some (.inl x2), some (.inl x3), some (.inl x4)], [], σ) Φ) (k2 : ¬ (x3 ≤ (pe_I σ (a0 + 6) (x4 - 1))) → pe_X d 30 (68, [some (.inr (.inr a0)), some (.inl x1), some (.inl x2), some (.inl x3), some (.inl x4)], [], σ) Φ) : pe_X d 30 (55, [some (.inr (.inr a0)), some (.inl x1), some (.inl x2), some (.inl x3), some (.inl x4)], [], σ) Φ := by
  refine pe_blk 31 8 ck30 [pe_K σ a0 = 2, pe_K σ (pe_R σ a0 9) = 10, 0 ≤ (pe_w (x4 - 1)), (pe_w (x4 - 1)) < pe_L σ (pe_R σ a0 9)] (cond (decide ((pe_w x3) ≤ (pe_w (pe_I σ (pe_R σ a0 9) (pe_w (x4 - 1)))))) 106 68, [some (.inr (.inr a0)), some (.inl x1), some (.inl x2), some (.inl x3), some (.inl x4)], [], σ) rfl ?_ ?_
  · first
    | (simp (disch := omega) only [pe_all, pe_wi w0, pe_wi w1, pe_wi w2, pe_K_wI, pe_K_wR, pe_L_wI, pe_L_wR, pe_R_nej, pe_R_ner, pe_R_wI, pk_mK f_a0, pk_mK6 f_a0, pk_mL6 f_a0, pk_mR6 f_a0]; done)
    | (simp (disch := omega) only [pe_all, pe_wi w0, pe_wi w1, pe_wi w2, pe_K_wI, pe_K_wR, pe_L_wI, pe_L_wR, pe_R_nej, pe_R_ner, pe_R_wI, pk_mK f_a0, pk_mK6 f_a0, pk_mL6 f_a0, pk_mR6 f_a0]; (repeat' apply And.intro) <;> first | assumption | omega | decide)
  · try simp (disch := omega) only [pe_wi w0, pe_wi w1, pe_wi w2, pe_K_wI, pe_K_wR, pe_L_wI, pe_L_wR, pe_R_nej, pe_R_ner, pe_R_wI, pk_mK f_a0, pk_mK6 f_a0, pk_mL6 f_a0, pk_mR6 f_a0]
    exact pe_two k1 k2
set_option maxRecDepth 8000 in
set_option maxHeartbeats 8000000 in
theorem b30_68 {d : Nat} {Φ : Option pe_V → pe_H → Prop} {σ : pe_H} {a0 : Nat} {x1 : Int} {x2 : Int} {x3 : Int} {x4 : Int} (f_a0 : pk_Fm a0 σ := by assumption) (w0 : pe_in (x4 - 1) := by unfold pe_in; omega) (w1 : pe_in x4 := by unfold pe_in; omega) (h0 : 0 ≤ (x4 - 1) := by first | assumption | omega) (h1 : (x4 - 1) < 8 := by first | assumption | omega) (h2 : 0 ≤ x4 := by first | assumption | omega) (h3 : x4 < 8 := by first | assumption | omega) (k : pe_X d 30 (50, [some (.inr (.inr a0)), some (.inl x1), some (.inl x2), some (.inl x3), some (.inl (x4 + (-1)))], [], pe_wI (pe_wI σ (a0 + 6) x4 (pe_I σ (a0 + 6) (x4 - 1))) (a0 + 5) x4 (pe_I σ (a0 + 5) (x4 - 1))) Φ) : pe_X d 30 (68, [some (.inr (.inr a0)), some (.inl x1), some (.inl x2), some (.inl x3), some (.inl x4)], [], σ) Φ := by
  have hX0 := pk_m2 f_a0
  refine pe_blk 39 22 ck30 [pe_K σ a0 = 2, pe_K σ a0 = 2, pe_K σ (pe_R σ a0 9) = 10, 0 ≤ (pe_w (x4 - 1)), (pe_w (x4 - 1)) < pe_L σ (pe_R σ a0 9), pe_K σ (pe_R σ a0 9) = 10, 0 ≤ (pe_w x4), (pe_w x4) < pe_L σ (pe_R σ a0 9), 2 ≤ (pe_R σ a0 9), pe_K (pe_wI σ (pe_R σ a0 9) (pe_w x4) (pe_I σ (pe_R σ a0 9) (pe_w (x4 - 1)))) a0 = 2, pe_K (pe_wI σ (pe_R σ a0 9) (pe_w x4) (pe_I σ (pe_R σ a0 9) (pe_w (x4 - 1)))) a0 = 2, pe_K (pe_wI σ (pe_R σ a0 9) (pe_w x4) (pe_I σ (pe_R σ a0 9) (pe_w (x4 - 1)))) (pe_R (pe_wI σ (pe_R σ a0 9) (pe_w x4) (pe_I σ (pe_R σ a0 9) (pe_w (x4 - 1)))) a0 8) = 10, 0 ≤ (pe_w (x4 - 1)), (pe_w (x4 - 1)) < pe_L (pe_wI σ (pe_R σ a0 9) (pe_w x4) (pe_I σ (pe_R σ a0 9) (pe_w (x4 - 1)))) (pe_R (pe_wI σ (pe_R σ a0 9) (pe_w x4) (pe_I σ (pe_R σ a0 9) (pe_w (x4 - 1)))) a0 8), pe_K (pe_wI σ (pe_R σ a0 9) (pe_w x4) (pe_I σ (pe_R σ a0 9) (pe_w (x4 - 1)))) (pe_R (pe_wI σ (pe_R σ a0 9) (pe_w x4) (pe_I σ (pe_R σ a0 9) (pe_w (x4 - 1)))) a0 8) = 10, 0 ≤ (pe_w x4), (pe_w x4) < pe_L (pe_wI σ (pe_R σ a0 9) (pe_w x4) (pe_I σ (pe_R σ a0 9) (pe_w (x4 - 1)))) (pe_R (pe_wI σ (pe_R σ a0 9) (pe_w x4) (pe_I σ (pe_R σ a0 9) (pe_w (x4 - 1)))) a0 8), 2 ≤ (pe_R (pe_wI σ (pe_R σ a0 9) (pe_w x4) (pe_I σ (pe_R σ a0 9) (pe_w (x4 - 1)))) a0 8)] (50, [some (.inr (.inr a0)), some (.inl x1), some (.inl x2), some (.inl x3), some (.inl (x4 + (-1)))], [], pe_wI (pe_wI σ (pe_R σ a0 9) (pe_w x4) (pe_I σ (pe_R σ a0 9) (pe_w (x4 - 1)))) (pe_R (pe_wI σ (pe_R σ a0 9) (pe_w x4) (pe_I σ (pe_R σ a0 9) (pe_w (x4 - 1)))) a0 8) (pe_w x4) (pe_I (pe_wI σ (pe_R σ a0 9) (pe_w x4) (pe_I σ (pe_R σ a0 9) (pe_w (x4 - 1)))) (pe_R (pe_wI σ (pe_R σ a0 9) (pe_w x4) (pe_I σ (pe_R σ a0 9) (pe_w (x4 - 1)))) a0 8) (pe_w (x4 - 1)))) rfl ?_ ?_
  · first
    | (simp (disch := omega) only [pe_all, pe_wi w0, pe_wi w1, pe_I_ner, pe_K_wI, pe_K_wR, pe_L_wI, pe_L_wR, pe_R_nej, pe_R_ner, pe_R_wI, pk_mK f_a0, pk_mK5 f_a0, pk_mK6 f_a0, pk_mL5 f_a0, pk_mL6 f_a0, pk_mR5 f_a0, pk_mR6 f_a0]; done)
    | (simp (disch := omega) only [pe_all, pe_wi w0, pe_wi w1, pe_I_ner, pe_K_wI, pe_K_wR, pe_L_wI, pe_L_wR, pe_R_nej, pe_R_ner, pe_R_wI, pk_mK f_a0, pk_mK5 f_a0, pk_mK6 f_a0, pk_mL5 f_a0, pk_mL6 f_a0, pk_mR5 f_a0, pk_mR6 f_a0]; (repeat' apply And.intro) <;> first | assumption | omega | decide)
  · try simp (disch := omega) only [pe_wi w0, pe_wi w1, pe_I_ner, pe_K_wI, pe_K_wR, pe_L_wI, pe_L_wR, pe_R_nej, pe_R_ner, pe_R_wI, pk_mK f_a0, pk_mK5 f_a0, pk_mK6 f_a0, pk_mL5 f_a0, pk_mL6 f_a0, pk_mR5 f_a0, pk_mR6 f_a0]
    exact k
set_option maxRecDepth 8000 in
theorem b30_106 {d : Nat} {Φ : Option pe_V → pe_H → Prop} {σ : pe_H} {a0 : Nat} {x1 : Int} {x2 : Int} {x3 : Int} {x4 : Int} (f_a0 : pk_Fm a0 σ := by assumption) (w0 : pe_in x4 := by unfold pe_in; omega) (h0 : 0 ≤ x4 := by first | assumption | omega) (h1 : x4 < 8 := by first | assumption | omega) (k : pe_X d 30 (125, [some (.inr (.inr a0)), some (.inl (x1 + 1)), some (.inl x2), some (.inl x3), some (.inl x4)], [], pe_wI (pe_wI σ (a0 + 6) x4 x3) (a0 + 5) x4 x2) Φ) : pe_X d 30 (106, [some (.inr (.inr a0)), some (.inl x1), some (.inl x2), some (.inl x3), some (.inl x4)], [], σ) Φ := by
  have hX0 := pk_m2 f_a0
  refine pe_blk 61 11 ck30 [pe_K σ a0 = 2, pe_K σ (pe_R σ a0 9) = 10, 0 ≤ (pe_w x4), (pe_w x4) < pe_L σ (pe_R σ a0 9), 2 ≤ (pe_R σ a0 9), pe_K (pe_wI σ (pe_R σ a0 9) (pe_w x4) x3) a0 = 2, pe_K (pe_wI σ (pe_R σ a0 9) (pe_w x4) x3) (pe_R (pe_wI σ (pe_R σ a0 9) (pe_w x4) x3) a0 8) = 10, 0 ≤ (pe_w x4), (pe_w x4) < pe_L (pe_wI σ (pe_R σ a0 9) (pe_w x4) x3) (pe_R (pe_wI σ (pe_R σ a0 9) (pe_w x4) x3) a0 8), 2 ≤ (pe_R (pe_wI σ (pe_R σ a0 9) (pe_w x4) x3) a0 8)] (125, [some (.inr (.inr a0)), some (.inl (x1 + 1)), some (.inl x2), some (.inl x3), some (.inl x4)], [], pe_wI (pe_wI σ (pe_R σ a0 9) (pe_w x4) x3) (pe_R (pe_wI σ (pe_R σ a0 9) (pe_w x4) x3) a0 8) (pe_w x4) x2) rfl ?_ ?_
  · first
    | (simp (disch := omega) only [pe_all, pe_wi w0, pe_K_wI, pe_K_wR, pe_L_wI, pe_L_wR, pe_R_nej, pe_R_ner, pe_R_wI, pk_mK f_a0, pk_mK5 f_a0, pk_mK6 f_a0, pk_mL5 f_a0, pk_mL6 f_a0, pk_mR5 f_a0, pk_mR6 f_a0]; done)
    | (simp (disch := omega) only [pe_all, pe_wi w0, pe_K_wI, pe_K_wR, pe_L_wI, pe_L_wR, pe_R_nej, pe_R_ner, pe_R_wI, pk_mK f_a0, pk_mK5 f_a0, pk_mK6 f_a0, pk_mL5 f_a0, pk_mL6 f_a0, pk_mR5 f_a0, pk_mR6 f_a0]; (repeat' apply And.intro) <;> first | assumption | omega | decide)
  · try simp (disch := omega) only [pe_wi w0, pe_K_wI, pe_K_wR, pe_L_wI, pe_L_wR, pe_R_nej, pe_R_ner, pe_R_wI, pk_mK f_a0, pk_mK5 f_a0, pk_mK6 f_a0, pk_mL5 f_a0, pk_mL6 f_a0, pk_mR5 f_a0, pk_mR6 f_a0]
    exact k
set_option maxRecDepth 8000 in
theorem b30_125 {d : Nat} {Φ : Option pe_V → pe_H → Prop} {σ : pe_H} {a0 : Nat} {x1 : Int} {x2 : Int} {o3 : Option pe_V} {o4 : Option pe_V} (f_a0 : pk_Fm a0 σ := by assumption)   (k : pe_X d 30 (4, [some (.inr (.inr a0)), some (.inl x1), some (.inl (x2 + 1)), o3, o4], [], σ) Φ) : pe_X d 30 (125, [some (.inr (.inr a0)), some (.inl x1), some (.inl x2), o3, o4], [], σ) Φ := by
  refine pe_blk 72 2 ck30 [] (4, [some (.inr (.inr a0)), some (.inl x1), some (.inl (x2 + 1)), o3, o4], [], σ) rfl ?_ ?_
  · exact trivial
  · exact k
set_option maxRecDepth 8000 in
theorem b30_131 {d : Nat} {Φ : Option pe_V → pe_H → Prop} {σ : pe_H} {o0 : Option pe_V} {x1 : Int} {o2 : Option pe_V} {o3 : Option pe_V} {o4 : Option pe_V}    (k : Φ (some (.inl x1)) σ) : pe_X d 30 (131, [o0, some (.inl x1), o2, o3, o4], [], σ) Φ := by
  refine pe_blk 74 1 ck30 [] (132, [o0, some (.inl x1), o2, o3, o4], [.inl x1], σ) rfl ?_ ?_
  · exact trivial
  · exact pe_fine 75 ck30 rfl rfl rfl trivial k
-- StepMachines$Machine.makeStep(IZ)V
def T31 : List (Nat × Instr × Nat) := [(0, .aload_n 0, 1), (1, .getfield 19, 3), (4, .iload_n 1, 1), (5, .aaload, 1), (6, .astore_n 3, 1), (7, .aload_n 3, 1), (8, .getfield 148, 3), (11, .iconst 1, 1), (12, .if_icmp .ge 4, 3), (15, .return_, 1), (16, .aload_n 3, 1), (17, .getfield 151, 3), (20, .aload_n 3, 1), (21, .getfield 148, 3), (24, .iconst 1, 1), (25, .isub, 1), (26, .aaload, 1), (27, .astore 4, 2), (29, .aload 4, 2), (31, .getfield 155, 3), (34, .aload 4, 2), (36, .getfield 160, 3), (39, .invokevirtual 164, 3), (42, .if_icmp .lt 11, 3), (45, .aload_n 0, 1), (46, .aload_n 3, 1), (47, .invokevirtual 167, 3), (50, .goto 193, 3), (53, .aload 4, 2), (55, .getfield 160, 3), (58, .aload 4, 2), (60, .getfield 155, 3), (63, .invokevirtual 170, 3), (66, .istore 5, 2), (68, .aload 4, 2), (70, .getfield 160, 3), (73, .aload 4, 2), (75, .getfield 155, 3), (78, .invokevirtual 174, 3), (81, .istore 6, 2), (83, .aload 4, 2), (85, .dup, 1), (86, .getfield 155, 3), (89, .iconst 1, 1), (90, .iadd, 1), (91, .putfield 155, 3), (94, .iload 5, 2), (96, .lookupswitch 134 #[(97, 52), (102, 110), (109, 70), (116, 119), (122, 88)], 52), (148, .aload_n 3, 1), (149, .aload_n 3, 1), (150, .getfield 177, 3), (153, .iload 6, 2), (155, .iadd, 1), (156, .sipush 1000, 3), (159, .irem, 1), (160, .putfield 177, 3), (163, .goto 80, 3), (166, .aload_n 3, 1), (167, .aload_n 3, 1), (168, .getfield 177, 3), (171, .iload 6, 2), (173, .imul, 1), (174, .sipush 1000, 3), (177, .irem, 1), (178, .putfield 177, 3), (181, .goto 62, 3), (184, .aload_n 3, 1), (185, .getfield 177, 3), (188, .ifCond .ne 55, 3), (191, .aload 4, 2), (193, .dup, 1), (194, .getfield 155, 3), (197, .iload 6, 2), (199, .iadd, 1), (200, .putfield 155, 3), (203, .goto 40, 3), (206, .aload 4, 2), (208, .iconst 1, 1), (209, .putfield 180, 3), (212, .goto 31, 3), (215, .aload_n 0, 1), (216, .aload_n 3, 1), (217, .aload_n 0, 1), (218, .iload 6, 2), (220, .iconst (-1), 1), (221, .invokevirtual 184, 3), (224, .invokevirtual 187, 3), (227, .goto 16, 3), (230, .iload_n 2, 1), (231, .ifCond .ne 12, 3), (234, .aload_n 0, 1), (235, .iload_n 1, 1), (236, .iload 5, 2), (238, .iload 6, 2), (240, .invokevirtual 191, 3), (243, .aload_n 3, 1), (244, .invokevirtual 79, 3), (247, .ifCond .eq 9, 3), (250, .aload_n 0, 1), (251, .iload_n 1, 1), (252, .iconst 0, 1), (253, .invokestatic 116, 3), (256, .return_, 1)]
theorem ck31 : pe_ctx 31 2 false none 7 T31 := ⟨rfl, rfl, rfl, rfl, by decide +kernel, by decide, by decide⟩
theorem b31_0 {d : Nat} {Φ : Option pe_V → pe_H → Prop} {σ : pe_H} {a0 : Nat} {x1 : Int} {x2 : Int} {o3 : Option pe_V} {o4 : Option pe_V} {o5 : Option pe_V} {o6 : Option pe_V} (f_a0 : pk_Fm a0 σ := by assumption) (w0 : pe_in x1 := by unfold pe_in; omega) (w1 : pe_in (pe_I σ (pk_c a0 x1) 9) := by unfold pe_in; omega) (h0 : 0 ≤ x1 := by first | assumption | omega) (h1 : x1 < 8 := by first | assumption | omega) (k1 : 1 ≤ (pe_I σ (pk_c a0 x1) 9) → pe_X d 31 (16, [some (.inr (.inr a0)), some (.inl x1), some (.inl x2), some (.inr (.inr (pk_c a0 x1))), o4, o5, o6], [], σ) Φ) (k2 : ¬ (1 ≤ (pe_I σ (pk_c a0 x1) 9)) → pe_X d 31 (15, [some (.inr (.inr a0)), some (.inl x1), some (.inl x2), some (.inr (.inr (pk_c a0 x1))), o4, o5, o6], [], σ) Φ) : pe_X d 31 (0, [some (.inr (.inr a0)), some (.inl x1), some (.inl x2), o3, o4, o5, o6], [], σ) Φ := by
  refine pe_blk 0 9 ck31 [pe_K σ a0 = 2, 12 ≤ pe_K σ (pe_R σ a0 1) ∧ pe_K σ (pe_R σ a0 1) < 19, 0 ≤ (pe_w x1), (pe_w x1) < pe_L σ (pe_R σ a0 1), pe_K σ (pe_R σ (pe_R σ a0 1) (pe_w x1)) = 0] (cond (decide ((pe_w 1) ≤ (pe_w (pe_I σ (pe_R σ (pe_R σ a0 1) (pe_w x1)) 9)))) 16 15, [some (.inr (.inr a0)), some (.inl x1), some (.inl x2), some (.inr (.inr (pe_R σ (pe_R σ a0 1) (pe_w x1)))), o4, o5, o6], [], σ) rfl ?_ ?_
  · first
    | (simp (disch := omega) only [pe_all, pe_wi w0, pe_wi w1, pe_wi (x := 1) ⟨by decide, by decide⟩, pe_K_wI, pe_K_wR, pe_L_wI, pe_L_wR, pe_R_nej, pe_R_ner, pe_R_wI, pk_mE2 f_a0 (i := x1) (by omega) (by omega), pk_mK f_a0, pk_mK2 f_a0, pk_mL2 f_a0, pk_mR2 f_a0, pk_oK (pk_mO f_a0 (i := x1) (by omega) (by omega))]; done)
    | (simp (disch := omega) only [pe_all, pe_wi w0, pe_wi w1, pe_wi (x := 1) ⟨by decide, by decide⟩, pe_K_wI, pe_K_wR, pe_L_wI, pe_L_wR, pe_R_nej, pe_R_ner, pe_R_wI, pk_mE2 f_a0 (i := x1) (by omega) (by omega), pk_mK f_a0, pk_mK2 f_a0, pk_mL2 f_a0, pk_mR2 f_a0, pk_oK (pk_mO f_a0 (i := x1) (by omega) (by omega))]; (repeat' apply And.intro) <;> first | assumption | omega | decide)
  · try simp (disch := omega) only [pe_wi w0, pe_wi w1, pe_wi (x := 1) ⟨by decide, by decide⟩, pe_K_wI, pe_K_wR, pe_L_wI, pe_L_wR, pe_R_nej, pe_R_ner, pe_R_wI, pk_mE2 f_a0 (i := x1) (by omega) (by omega), pk_mK f_a0, pk_mK2 f_a0, pk_mL2 f_a0, pk_mR2 f_a0, pk_oK (pk_mO f_a0 (i := x1) (by omega) (by omega))]
    exact pe_two k1 k2
theorem b31_16 {d : Nat} {Φ : Option pe_V → pe_H → Prop} {σ : pe_H} {a0 : Nat} {x1 : Int} {x2 : Int} {a3 : Nat} {o4 : Option pe_V} {o5 : Option pe_V} {o6 : Option pe_V} (f_a0 : pk_Fm a0 σ := by assumption) (f_a3 : pk_Fo a3 σ := by assumption) (w0 : pe_in ((pe_I σ a3 9) - 1) := by unfold pe_in; omega) (h0 : 0 ≤ ((pe_I σ a3 9) - 1) := by first | assumption | omega) (h1 : ((pe_I σ a3 9) - 1) < 6 := by first | assumption | omega) (h2 : pe_K σ (pe_R σ (pk_f a3 ((pe_I σ a3 9) - 1)) 0) = 4 := by first | assumption | omega) (k : pe_M d 49 [.inr (.inr (pe_R σ (pk_f a3 ((pe_I σ a3 9) - 1)) 0))] σ (fun r σ' => pe_X d 31 (42, [some (.inr (.inr a0)), some (.inl x1), some (.inl x2), some (.inr (.inr a3)), some (.inr (.inr (pk_f a3 ((pe_I σ a3 9) - 1)))), o5, o6], r.toList ++ [.inl (pe_I σ (pk_f a3 ((pe_I σ a3 9) - 1)) 2)], σ') Φ)) : pe_X d 31 (16, [some (.inr (.inr a0)), some (.inl x1), some (.inl x2), some (.inr (.inr a3)), o4, o5, o6], [], σ) Φ := by
  refine pe_blk 10 12 ck31 [pe_K σ a3 = 0, pe_K σ a3 = 0, 12 ≤ pe_K σ (pe_R σ a3 10) ∧ pe_K σ (pe_R σ a3 10) < 19, 0 ≤ (pe_w ((pe_I σ a3 9) - 1)), (pe_w ((pe_I σ a3 9) - 1)) < pe_L σ (pe_R σ a3 10), pe_K σ (pe_R σ (pe_R σ a3 10) (pe_w ((pe_I σ a3 9) - 1))) = 1, pe_K σ (pe_R σ (pe_R σ a3 10) (pe_w ((pe_I σ a3 9) - 1))) = 1] (39, [some (.inr (.inr a0)), some (.inl x1), some (.inl x2), some (.inr (.inr a3)), some (.inr (.inr (pe_R σ (pe_R σ a3 10) (pe_w ((pe_I σ a3 9) - 1))))), o5, o6], [.inr (.inr (pe_R σ (pe_R σ (pe_R σ a3 10) (pe_w ((pe_I σ a3 9) - 1))) 0)), .inl (pe_I σ (pe_R σ (pe_R σ a3 10) (pe_w ((pe_I σ a3 9) - 1))) 2)], σ) rfl ?_ ?_
  · first
    | (simp (disch := omega) only [pe_all, pe_wi w0, pe_K_wI, pe_K_wR, pe_L_wI, pe_L_wR, pe_R_nej, pe_R_ner, pe_R_wI, pk_oE f_a3 (i := (pe_I σ a3 9) - 1) (by omega) (by omega), pk_oEK f_a3 (i := (pe_I σ a3 9) - 1) (by omega) (by omega), pk_oK f_a3, pk_oK1 f_a3, pk_oL1 f_a3, pk_oR f_a3]; done)
    | (simp (disch := omega) only [pe_all, pe_wi w0, pe_K_wI, pe_K_wR, pe_L_wI, pe_L_wR, pe_R_nej, pe_R_ner, pe_R_wI, pk_oE f_a3 (i := (pe_I σ a3 9) - 1) (by omega) (by omega), pk_oEK f_a3 (i := (pe_I σ a3 9) - 1) (by omega) (by omega), pk_oK f_a3, pk_oK1 f_a3, pk_oL1 f_a3, pk_oR f_a3]; (repeat' apply And.intro) <;> first | assumption | omega | decide)
  · try simp (disch := omega) only [pe_wi w0, pe_K_wI, pe_K_wR, pe_L_wI, pe_L_wR, pe_R_nej, pe_R_ner, pe_R_wI, pk_oE f_a3 (i := (pe_I σ a3 9) - 1) (by omega) (by omega), pk_oEK f_a3 (i := (pe_I σ a3 9) - 1) (by omega) (by omega), pk_oK f_a3, pk_oK1 f_a3, pk_oL1 f_a3, pk_oR f_a3]
    have hrc : pe_K σ (pe_R σ (pk_f a3 ((pe_I σ a3 9) - 1)) 0) = 4 := by first | assumption | (simp (disch := omega) only [pe_wi w0, pe_K_wI, pe_K_wR, pe_L_wI, pe_L_wR, pe_R_nej, pe_R_ner, pe_R_wI, pk_oE f_a3 (i := (pe_I σ a3 9) - 1) (by omega) (by omega), pk_oEK f_a3 (i := (pe_I σ a3 9) - 1) (by omega) (by omega), pk_oK f_a3, pk_oK1 f_a3, pk_oL1 f_a3, pk_oR f_a3]; done) | (simp (disch := omega) only [pe_wi w0, pe_K_wI, pe_K_wR, pe_L_wI, pe_L_wR, pe_R_nej, pe_R_ner, pe_R_wI, pk_oE f_a3 (i := (pe_I σ a3 9) - 1) (by omega) (by omega), pk_oEK f_a3 (i := (pe_I σ a3 9) - 1) (by omega) (by omega), pk_oK f_a3, pk_oK1 f_a3, pk_oL1 f_a3, pk_oR f_a3]; assumption)
    exact pe_cal 22 ck31 rfl rfl rfl ⟨hrc, by decide⟩ k
theorem b31_42 {d : Nat} {Φ : Option pe_V → pe_H → Prop} {σ : pe_H} {a0 : Nat} {x1 : Int} {x2 : Int} {a3 : Nat} {a4 : Nat} {o5 : Option pe_V} {o6 : Option pe_V} {s0 : Int} {s1 : Int} (f_a0 : pk_Fm a0 σ := by assumption) (f_a3 : pk_Fo a3 σ := by assumption) (w0 : pe_in s1 := by unfold pe_in; omega) (w1 : pe_in s0 := by unfold pe_in; omega)  (k1 : s0 < s1 → pe_X d 31 (53, [some (.inr (.inr a0)), some (.inl x1), some (.inl x2), some (.inr (.inr a3)), some (.inr (.inr a4)), o5, o6], [], σ) Φ) (k2 : ¬ (s0 < s1) → pe_X d 31 (45, [some (.inr (.inr a0)), some (.inl x1), some (.inl x2), some (.inr (.inr a3)), some (.inr (.inr a4)), o5, o6], [], σ) Φ) : pe_X d 31 (42, [some (.inr (.inr a0)), some (.inl x1), some (.inl x2), some (.inr (.inr a3)), some (.inr (.inr a4)), o5, o6], [.inl s1, .inl s0], σ) Φ := by
  refine pe_blk 23 1 ck31 [] (cond (decide ((pe_w s0) < (pe_w s1))) 53 45, [some (.inr (.inr a0)), some (.inl x1), some (.inl x2), some (.inr (.inr a3)), some (.inr (.inr a4)), o5, o6], [], σ) rfl ?_ ?_
  · exact trivial
  · try simp (disch := omega) only [pe_wi w0, pe_wi w1]
    exact pe_two k1 k2
theorem b31_45 {d : Nat} {Φ : Option pe_V → pe_H → Prop} {σ : pe_H} {a0 : Nat} {x1 : Int} {o2 : Option pe_V} {a3 : Nat} {o4 : Option pe_V} {o5 : Option pe_V} {o6 : Option pe_V} (f_a0 : pk_Fm a0 σ := by assumption) (f_a3 : pk_Fo a3 σ := by assumption)   (k : pe_M d 38 [.inr (.inr a0), .inr (.inr a3)] σ (fun r σ' => pe_X d 31 (50, [some (.inr (.inr a0)), some (.inl x1), o2, some (.inr (.inr a3)), o4, o5, o6], r.toList ++ [], σ') Φ)) : pe_X d 31 (45, [some (.inr (.inr a0)), some (.inl x1), o2, some (.inr (.inr a3)), o4, o5, o6], [], σ) Φ := by
  refine pe_blk 24 2 ck31 [] (47, [some (.inr (.inr a0)), some (.inl x1), o2, some (.inr (.inr a3)), o4, o5, o6], [.inr (.inr a3), .inr (.inr a0)], σ) rfl ?_ ?_
  · exact trivial
  · try simp (disch := omega) only [pe_K_wI, pe_K_wR, pk_mK f_a0]
    have hrc : pe_K σ a0 = 2 := by first | assumption | (simp (disch := omega) only [pe_K_wI, pe_K_wR, pk_mK f_a0]; done) | (simp (disch := omega) only [pe_K_wI, pe_K_wR, pk_mK f_a0]; assumption)
    exact pe_cal 26 ck31 rfl rfl rfl ⟨hrc, by decide⟩ k
theorem b31_50 {d : Nat} {Φ : Option pe_V → pe_H → Prop} {σ : pe_H} {a0 : Nat} {x1 : Int} {o2 : Option pe_V} {a3 : Nat} {o4 : Option pe_V} {o5 : Option pe_V} {o6 : Option pe_V} (f_a0 : pk_Fm a0 σ := by assumption) (f_a3 : pk_Fo a3 σ := by assumption)   (k : pe_X d 31 (243, [some (.inr (.inr a0)), some (.inl x1), o2, some (.inr (.inr a3)), o4, o5, o6], [], σ) Φ) : pe_X d 31 (50, [some (.inr (.inr a0)), some (.inl x1), o2, some (.inr (.inr a3)), o4, o5, o6], [], σ) Φ := by
  refine pe_blk 27 1 ck31 [] (243, [some (.inr (.inr a0)), some (.inl x1), o2, some (.inr (.inr a3)), o4, o5, o6], [], σ) rfl ?_ ?_
  · exact trivial
  · exact k
theorem b31_53 {d : Nat} {Φ : Option pe_V → pe_H → Prop} {σ : pe_H} {a0 : Nat} {x1 : Int} {x2 : Int} {a3 : Nat} {a4 : Nat} {o5 : Option pe_V} {o6 : Option pe_V} (f_a0 : pk_Fm a0 σ := by assumption) (f_a3 : pk_Fo a3 σ := by assumption)  (h0 : pe_K σ a4 = 1 := by first | assumption | omega) (h1 : pe_K σ (pe_R σ a4 0) = 4 := by first | assumption | omega) (k : pe_M d 50 [.inr (.inr (pe_R σ a4 0)), .inl (pe_I σ a4 2)] σ (fun r σ' => pe_X d 31 (66, [some (.inr (.inr a0)), some (.inl x1), some (.inl x2), some (.inr (.inr a3)), some (.inr (.inr a4)), o5, o6], r.toList ++ [], σ') Φ)) : pe_X d 31 (53, [some (.inr (.inr a0)), some (.inl x1), some (.inl x2), some (.inr (.inr a3)), some (.inr (.inr a4)), o5, o6], [], σ) Φ := by
  refine pe_blk 28 4 ck31 [pe_K σ a4 = 1, pe_K σ a4 = 1] (63, [some (.inr (.inr a0)), some (.inl x1), some (.inl x2), some (.inr (.inr a3)), some (.inr (.inr a4)), o5, o6], [.inl (pe_I σ a4 2), .inr (.inr (pe_R σ a4 0))], σ) rfl ?_ ?_
  · first
    | (simp (disch := omega) only [pe_all, pe_K_wI, pe_K_wR]; done)
    | (simp (disch := omega) only [pe_all, pe_K_wI, pe_K_wR]; (repeat' apply And.intro) <;> first | assumption | omega | decide)
  · try simp (disch := omega) only [pe_K_wI, pe_K_wR]
    have hrc : pe_K σ (pe_R σ a4 0) = 4 := by first | assumption | (simp (disch := omega) only [pe_K_wI, pe_K_wR]; done) | (simp (disch := omega) only [pe_K_wI, pe_K_wR]; assumption)
    exact pe_cal 32 ck31 rfl rfl rfl ⟨hrc, by decide⟩ k
theorem b31_66 {d : Nat} {Φ : Option pe_V → pe_H → Prop} {σ : pe_H} {a0 : Nat} {x1 : Int} {x2 : Int} {a3 : Nat} {a4 : Nat} {o5 : Option pe_V} {o6 : Option pe_V} {s0 : Int} (f_a0 : pk_Fm a0 σ := by assumption) (f_a3 : pk_Fo a3 σ := by assumption)  (h0 : pe_K σ a4 = 1 := by first | assumption | omega) (h1 : pe_K σ (pe_R σ a4 0) = 4 := by first | assumption | omega) (k : pe_M d 51 [.inr (.inr (pe_R σ a4 0)), .inl (pe_I σ a4 2)] σ (fun r σ' => pe_X d 31 (81, [some (.inr (.inr a0)), some (.inl x1), some (.inl x2), some (.inr (.inr a3)), some (.inr (.inr a4)), some (.inl s0), o6], r.toList ++ [], σ') Φ)) : pe_X d 31 (66, [some (.inr (.inr a0)), some (.inl x1), some (.inl x2), some (.inr (.inr a3)), some (.inr (.inr a4)), o5, o6], [.inl s0], σ) Φ := by
  refine pe_blk 33 5 ck31 [pe_K σ a4 = 1, pe_K σ a4 = 1] (78, [some (.inr (.inr a0)), some (.inl x1), some (.inl x2), some (.inr (.inr a3)), some (.inr (.inr a4)), some (.inl s0), o6], [.inl (pe_I σ a4 2), .inr (.inr (pe_R σ a4 0))], σ) rfl ?_ ?_
  · first
    | (simp (disch := omega) only [pe_all, pe_K_wI, pe_K_wR]; done)
    | (simp (disch := omega) only [pe_all, pe_K_wI, pe_K_wR]; (repeat' apply And.intro) <;> first | assumption | omega | decide)
  · try simp (disch := omega) only [pe_K_wI, pe_K_wR]
    have hrc : pe_K σ (pe_R σ a4 0) = 4 := by first | assumption | (simp (disch := omega) only [pe_K_wI, pe_K_wR]; done) | (simp (disch := omega) only [pe_K_wI, pe_K_wR]; assumption)
    exact pe_cal 38 ck31 rfl rfl rfl ⟨hrc, by decide⟩ k
theorem b31_81 {d : Nat} {Φ : Option pe_V → pe_H → Prop} {σ : pe_H} {a0 : Nat} {x1 : Int} {x2 : Int} {a3 : Nat} {a4 : Nat} {x5 : Int} {o6 : Option pe_V} {s0 : Int} (f_a0 : pk_Fm a0 σ := by assumption) (f_a3 : pk_Fo a3 σ := by assumption) (w0 : pe_in x5 := by unfold pe_in; omega) (h0 : pe_K σ a4 = 1 := by first | assumption | omega) (k0 : x5 = 97 → pe_X d 31 (148, [some (.inr (.inr a0)), some (.inl x1), some (.inl x2), some (.inr (.inr a3)), some (.inr (.inr a4)), some (.inl x5), some (.inl s0)], [], pe_wI σ a4 2 ((pe_I σ a4 2) + 1)) Φ) (k1 : x5 = 102 → pe_X d 31 (206, [some (.inr (.inr a0)), some (.inl x1), some (.inl x2), some (.inr (.inr a3)), some (.inr (.inr a4)), some (.inl x5), some (.inl s0)], [], pe_wI σ a4 2 ((pe_I σ a4 2) + 1)) Φ) (k2 : x5 = 109 → pe_X d 31 (166, [some (.inr (.inr a0)), some (.inl x1), some (.inl x2), some (.inr (.inr a3)), some (.inr (.inr a4)), some (.inl x5), some (.inl s0)], [], pe_wI σ a4 2 ((pe_I σ a4 2) + 1)) Φ) (k3 : x5 = 116 → pe_X d 31 (215, [some (.inr (.inr a0)), some (.inl x1), some (.inl x2), some (.inr (.inr a3)), some (.inr (.inr a4)), some (.inl x5), some (.inl s0)], [], pe_wI σ a4 2 ((pe_I σ a4 2) + 1)) Φ) (k4 : x5 = 122 → pe_X d 31 (184, [some (.inr (.inr a0)), some (.inl x1), some (.inl x2), some (.inr (.inr a3)), some (.inr (.inr a4)), some (.inl x5), some (.inl s0)], [], pe_wI σ a4 2 ((pe_I σ a4 2) + 1)) Φ) (kd : ¬ x5 = 97 → ¬ x5 = 102 → ¬ x5 = 109 → ¬ x5 = 116 → ¬ x5 = 122 → pe_X d 31 (230, [some (.inr (.inr a0)), some (.inl x1), some (.inl x2), some (.inr (.inr a3)), some (.inr (.inr a4)), some (.inl x5), some (.inl s0)], [], pe_wI σ a4 2 ((pe_I σ a4 2) + 1)) Φ) : pe_X d 31 (81, [some (.inr (.inr a0)), some (.inl x1), some (.inl x2), some (.inr (.inr a3)), some (.inr (.inr a4)), some (.inl x5), o6], [.inl s0], σ) Φ := by
  refine pe_blk 39 9 ck31 [pe_K σ a4 = 1, pe_K σ a4 = 1] ((((96 : Nat) : Int) + pe_sw 134 [(97, 52), (102, 110), (109, 70), (116, 119), (122, 88)] (pe_w x5)).toNat, [some (.inr (.inr a0)), some (.inl x1), some (.inl x2), some (.inr (.inr a3)), some (.inr (.inr a4)), some (.inl x5), some (.inl s0)], [], pe_wI σ a4 2 ((pe_I σ a4 2) + 1)) rfl ?_ ?_
  · first
    | (simp (disch := omega) only [pe_all, pe_wi w0, pe_K_wI, pe_K_wR]; done)
    | (simp (disch := omega) only [pe_all, pe_wi w0, pe_K_wI, pe_K_wR]; (repeat' apply And.intro) <;> first | assumption | omega | decide)
  · try simp (disch := omega) only [pe_wi w0, pe_K_wI, pe_K_wR]
    by_cases q0 : x5 = 97
    · have e : pe_sw 134 [(97, 52), (102, 110), (109, 70), (116, 119), (122, 88)] x5 = 52 := by rw [q0]; rfl
      rw [e]; exact k0 q0
    by_cases q1 : x5 = 102
    · have e : pe_sw 134 [(97, 52), (102, 110), (109, 70), (116, 119), (122, 88)] x5 = 110 := by rw [q1]; rfl
      rw [e]; exact k1 q1
    by_cases q2 : x5 = 109
    · have e : pe_sw 134 [(97, 52), (102, 110), (109, 70), (116, 119), (122, 88)] x5 = 70 := by rw [q2]; rfl
      rw [e]; exact k2 q2
    by_cases q3 : x5 = 116
    · have e : pe_sw 134 [(97, 52), (102, 110), (109, 70), (116, 119), (122, 88)] x5 = 119 := by rw [q3]; rfl
      rw [e]; exact k3 q3
    by_cases q4 : x5 = 122
    · have e : pe_sw 134 [(97, 52), (102, 110), (109, 70), (116, 119), (122, 88)] x5 = 88 := by rw [q4]; rfl
      rw [e]; exact k4 q4
    have e : pe_sw 134 [(97, 52), (102, 110), (109, 70), (116, 119), (122, 88)] x5 = 134 := by simp only [pe_sw, if_neg q0, if_neg q1, if_neg q2, if_neg q3, if_neg q4]
    rw [e]; exact kd q0 q1 q2 q3 q4
set_option maxRecDepth 8000 in
theorem b31_148 {d : Nat} {Φ : Option pe_V → pe_H → Prop} {σ : pe_H} {a0 : Nat} {x1 : Int} {o2 : Option pe_V} {a3 : Nat} {o4 : Option pe_V} {o5 : Option pe_V} {x6 : Int} (f_a0 : pk_Fm a0 σ := by assumption) (f_a3 : pk_Fo a3 σ := by assumption) (w0 : pe_in ((pe_I σ a3 3) + x6) := by unfold pe_in; omega) (h0 : ¬ 1000 = 0 := by first | assumption | omega) (k : pe_X d 31 (243, [some (.inr (.inr a0)), some (.inl x1), o2, some (.inr (.inr a3)), o4, o5, some (.inl x6)], [], pe_wI σ a3 3 (Int.tmod ((pe_I σ a3 3) + x6) 1000)) Φ) : pe_X d 31 (148, [some (.inr (.inr a0)), some (.inl x1), o2, some (.inr (.inr a3)), o4, o5, some (.inl x6)], [], σ) Φ := by
  refine pe_blk 48 9 ck31 [pe_K σ a3 = 0, ¬ (pe_w 1000) = 0, pe_K σ a3 = 0] (243, [some (.inr (.inr a0)), some (.inl x1), o2, some (.inr (.inr a3)), o4, o5, some (.inl x6)], [], pe_wI σ a3 3 (Int.tmod (pe_w ((pe_I σ a3 3) + x6)) (pe_w 1000))) rfl ?_ ?_
  · first
    | (simp (disch := omega) only [pe_all, pe_wi w0, pe_wi (x := 1000) ⟨by decide, by decide⟩, pe_K_wI, pe_K_wR, pk_oK f_a3]; done)
    | (simp (disch := omega) only [pe_all, pe_wi w0, pe_wi (x := 1000) ⟨by decide, by decide⟩, pe_K_wI, pe_K_wR, pk_oK f_a3]; (repeat' apply And.intro) <;> first | assumption | omega | decide)
  · try simp (disch := omega) only [pe_wi w0, pe_wi (x := 1000) ⟨by decide, by decide⟩, pe_K_wI, pe_K_wR, pk_oK f_a3]
    exact k
set_option maxRecDepth 8000 in
theorem b31_166 {d : Nat} {Φ : Option pe_V → pe_H → Prop} {σ : pe_H} {a0 : Nat} {x1 : Int} {o2 : Option pe_V} {a3 : Nat} {o4 : Option pe_V} {o5 : Option pe_V} {x6 : Int} (f_a0 : pk_Fm a0 σ := by assumption) (f_a3 : pk_Fo a3 σ := by assumption) (w0 : pe_in ((pe_I σ a3 3) * x6) := by unfold pe_in; omega) (h0 : ¬ 1000 = 0 := by first | assumption | omega) (k : pe_X d 31 (243, [some (.inr (.inr a0)), some (.inl x1), o2, some (.inr (.inr a3)), o4, o5, some (.inl x6)], [], pe_wI σ a3 3 (Int.tmod ((pe_I σ a3 3) * x6) 1000)) Φ) : pe_X d 31 (166, [some (.inr (.inr a0)), some (.inl x1), o2, some (.inr (.inr a3)), o4, o5, some (.inl x6)], [], σ) Φ := by
  refine pe_blk 57 9 ck31 [pe_K σ a3 = 0, ¬ (pe_w 1000) = 0, pe_K σ a3 = 0] (243, [some (.inr (.inr a0)), some (.inl x1), o2, some (.inr (.inr a3)), o4, o5, some (.inl x6)], [], pe_wI σ a3 3 (Int.tmod (pe_w ((pe_I σ a3 3) * x6)) (pe_w 1000))) rfl ?_ ?_
  · first
    | (simp (disch := omega) only [pe_all, pe_wi w0, pe_wi (x := 1000) ⟨by decide, by decide⟩, pe_K_wI, pe_K_wR, pk_oK f_a3]; done)
    | (simp (disch := omega) only [pe_all, pe_wi w0, pe_wi (x := 1000) ⟨by decide, by decide⟩, pe_K_wI, pe_K_wR, pk_oK f_a3]; (repeat' apply And.intro) <;> first | assumption | omega | decide)
  · try simp (disch := omega) only [pe_wi w0, pe_wi (x := 1000) ⟨by decide, by decide⟩, pe_K_wI, pe_K_wR, pk_oK f_a3]
    exact k
set_option maxRecDepth 8000 in
theorem b31_184 {d : Nat} {Φ : Option pe_V → pe_H → Prop} {σ : pe_H} {a0 : Nat} {x1 : Int} {o2 : Option pe_V} {a3 : Nat} {a4 : Nat} {o5 : Option pe_V} {x6 : Int} (f_a0 : pk_Fm a0 σ := by assumption) (f_a3 : pk_Fo a3 σ := by assumption) (w0 : pe_in (pe_I σ a3 3) := by unfold pe_in; omega)  (k1 : ¬ (pe_I σ a3 3) = 0 → pe_X d 31 (243, [some (.inr (.inr a0)), some (.inl x1), o2, some (.inr (.inr a3)), some (.inr (.inr a4)), o5, some (.inl x6)], [], σ) Φ) (k2 : (pe_I σ a3 3) = 0 → pe_X d 31 (191, [some (.inr (.inr a0)), some (.inl x1), o2, some (.inr (.inr a3)), some (.inr (.inr a4)), o5, some (.inl x6)], [], σ) Φ) : pe_X d 31 (184, [some (.inr (.inr a0)), some (.inl x1), o2, some (.inr (.inr a3)), some (.inr (.inr a4)), o5, some (.inl x6)], [], σ) Φ := by
  refine pe_blk 66 3 ck31 [pe_K σ a3 = 0] (cond (decide (¬ (pe_w (pe_I σ a3 3)) = 0)) 243 191, [some (.inr (.inr a0)), some (.inl x1), o2, some (.inr (.inr a3)), some (.inr (.inr a4)), o5, some (.inl x6)], [], σ) rfl ?_ ?_
  · first
    | (simp (disch := omega) only [pe_all, pe_wi w0, pe_K_wI, pe_K_wR, pk_oK f_a3]; done)
    | (simp (disch := omega) only [pe_all, pe_wi w0, pe_K_wI, pe_K_wR, pk_oK f_a3]; (repeat' apply And.intro) <;> first | assumption | omega | decide)
  · try simp (disch := omega) only [pe_wi w0, pe_K_wI, pe_K_wR, pk_oK f_a3]
    exact pe_two' k1 k2
set_option maxRecDepth 8000 in
theorem b31_191 {d : Nat} {Φ : Option pe_V → pe_H → Prop} {σ : pe_H} {a0 : Nat} {x1 : Int} {o2 : Option pe_V} {a3 : Nat} {a4 : Nat} {o5 : Option pe_V} {x6 : Int} (f_a0 : pk_Fm a0 σ := by assumption) (f_a3 : pk_Fo a3 σ := by assumption)  (h0 : pe_K σ a4 = 1 := by first | assumption | omega) (k : pe_X d 31 (243, [some (.inr (.inr a0)), some (.inl x1), o2, some (.inr (.inr a3)), some (.inr (.inr a4)), o5, some (.inl x6)], [], pe_wI σ a4 2 ((pe_I σ a4 2) + x6)) Φ) : pe_X d 31 (191, [some (.inr (.inr a0)), some (.inl x1), o2, some (.inr (.inr a3)), some (.inr (.inr a4)), o5, some (.inl x6)], [], σ) Φ := by
  refine pe_blk 69 7 ck31 [pe_K σ a4 = 1, pe_K σ a4 = 1] (243, [some (.inr (.inr a0)), some (.inl x1), o2, some (.inr (.inr a3)), some (.inr (.inr a4)), o5, some (.inl x6)], [], pe_wI σ a4 2 ((pe_I σ a4 2) + x6)) rfl ?_ ?_
  · first
    | (simp (disch := omega) only [pe_all, pe_K_wI, pe_K_wR]; done)
    | (simp (disch := omega) only [pe_all, pe_K_wI, pe_K_wR]; (repeat' apply And.intro) <;> first | assumption | omega | decide)
  · try simp (disch := omega) only [pe_K_wI, pe_K_wR]
    exact k
set_option maxRecDepth 8000 in
theorem b31_206 {d : Nat} {Φ : Option pe_V → pe_H → Prop} {σ : pe_H} {a0 : Nat} {x1 : Int} {o2 : Option pe_V} {a3 : Nat} {a4 : Nat} {o5 : Option pe_V} {o6 : Option pe_V} (f_a0 : pk_Fm a0 σ := by assumption) (f_a3 : pk_Fo a3 σ := by assumption)  (h0 : pe_K σ a4 = 1 := by first | assumption | omega) (k : pe_X d 31 (243, [some (.inr (.inr a0)), some (.inl x1), o2, some (.inr (.inr a3)), some (.inr (.inr a4)), o5, o6], [], pe_wI σ a4 4 1) Φ) : pe_X d 31 (206, [some (.inr (.inr a0)), some (.inl x1), o2, some (.inr (.inr a3)), some (.inr (.inr a4)), o5, o6], [], σ) Φ := by
  refine pe_blk 76 4 ck31 [pe_K σ a4 = 1, 1 = 0 ∨ 1 = 1] (243, [some (.inr (.inr a0)), some (.inl x1), o2, some (.inr (.inr a3)), some (.inr (.inr a4)), o5, o6], [], pe_wI σ a4 4 1) rfl ?_ ?_
  · first
    | (simp (disch := omega) only [pe_all, pe_K_wI, pe_K_wR]; done)
    | (simp (disch := omega) only [pe_all, pe_K_wI, pe_K_wR]; (repeat' apply And.intro) <;> first | assumption | omega | decide)
  · try simp (disch := omega) only [pe_K_wI, pe_K_wR]
    exact k
set_option maxRecDepth 8000 in
theorem b31_215 {d : Nat} {Φ : Option pe_V → pe_H → Prop} {σ : pe_H} {a0 : Nat} {x1 : Int} {o2 : Option pe_V} {a3 : Nat} {o4 : Option pe_V} {o5 : Option pe_V} {x6 : Int} (f_a0 : pk_Fm a0 σ := by assumption) (f_a3 : pk_Fo a3 σ := by assumption)   (k : pe_M d 39 [.inr (.inr a0), .inl x6, .inl (-1)] σ (fun r σ' => pe_X d 31 (224, [some (.inr (.inr a0)), some (.inl x1), o2, some (.inr (.inr a3)), o4, o5, some (.inl x6)], r.toList ++ [.inr (.inr a3), .inr (.inr a0)], σ') Φ)) : pe_X d 31 (215, [some (.inr (.inr a0)), some (.inl x1), o2, some (.inr (.inr a3)), o4, o5, some (.inl x6)], [], σ) Φ := by
  refine pe_blk 80 5 ck31 [] (221, [some (.inr (.inr a0)), some (.inl x1), o2, some (.inr (.inr a3)), o4, o5, some (.inl x6)], [.inl (-1), .inl x6, .inr (.inr a0), .inr (.inr a3), .inr (.inr a0)], σ) rfl ?_ ?_
  · exact trivial
  · try simp (disch := omega) only [pe_K_wI, pe_K_wR, pk_mK f_a0]
    have hrc : pe_K σ a0 = 2 := by first | assumption | (simp (disch := omega) only [pe_K_wI, pe_K_wR, pk_mK f_a0]; done) | (simp (disch := omega) only [pe_K_wI, pe_K_wR, pk_mK f_a0]; assumption)
    exact pe_cal 85 ck31 rfl rfl rfl ⟨hrc, by decide⟩ k
set_option maxRecDepth 8000 in
theorem b31_224 {d : Nat} {Φ : Option pe_V → pe_H → Prop} {σ : pe_H} {a0 : Nat} {x1 : Int} {o2 : Option pe_V} {a3 : Nat} {o4 : Option pe_V} {o5 : Option pe_V} {o6 : Option pe_V} {b0 : Nat} {b1 : Nat} {s2 : Int} (f_a0 : pk_Fm a0 σ := by assumption) (f_a3 : pk_Fo a3 σ := by assumption) (f_b0 : pk_Fm b0 σ := by assumption) (f_b1 : pk_Fo b1 σ := by assumption)   (k : pe_M d 40 [.inr (.inr b0), .inr (.inr b1), .inl s2] σ (fun r σ' => pe_X d 31 (227, [some (.inr (.inr a0)), some (.inl x1), o2, some (.inr (.inr a3)), o4, o5, o6], r.toList ++ [], σ') Φ)) : pe_X d 31 (224, [some (.inr (.inr a0)), some (.inl x1), o2, some (.inr (.inr a3)), o4, o5, o6], [.inl s2, .inr (.inr b1), .inr (.inr b0)], σ) Φ := by
  have hrc : pe_K σ b0 = 2 := by first | assumption | (simp (disch := omega) only [pe_K_wI, pe_K_wR, pk_mK f_b0]; done) | (simp (disch := omega) only [pe_K_wI, pe_K_wR, pk_mK f_b0]; assumption)
  exact pe_cal 86 ck31 rfl rfl rfl ⟨hrc, by decide⟩ k
set_option maxRecDepth 8000 in
theorem b31_227 {d : Nat} {Φ : Option pe_V → pe_H → Prop} {σ : pe_H} {a0 : Nat} {x1 : Int} {o2 : Option pe_V} {a3 : Nat} {o4 : Option pe_V} {o5 : Option pe_V} {o6 : Option pe_V} (f_a0 : pk_Fm a0 σ := by assumption) (f_a3 : pk_Fo a3 σ := by assumption)   (k : pe_X d 31 (243, [some (.inr (.inr a0)), some (.inl x1), o2, some (.inr (.inr a3)), o4, o5, o6], [], σ) Φ) : pe_X d 31 (227, [some (.inr (.inr a0)), some (.inl x1), o2, some (.inr (.inr a3)), o4, o5, o6], [], σ) Φ := by
  refine pe_blk 87 1 ck31 [] (243, [some (.inr (.inr a0)), some (.inl x1), o2, some (.inr (.inr a3)), o4, o5, o6], [], σ) rfl ?_ ?_
  · exact trivial
  · exact k
set_option maxRecDepth 8000 in
theorem b31_230 {d : Nat} {Φ : Option pe_V → pe_H → Prop} {σ : pe_H} {a0 : Nat} {x1 : Int} {x2 : Int} {a3 : Nat} {o4 : Option pe_V} {x5 : Int} {x6 : Int} (f_a0 : pk_Fm a0 σ := by assumption) (f_a3 : pk_Fo a3 σ := by assumption) (w0 : pe_in x2 := by unfold pe_in; omega)  (k1 : ¬ x2 = 0 → pe_X d 31 (243, [some (.inr (.inr a0)), some (.inl x1), some (.inl x2), some (.inr (.inr a3)), o4, some (.inl x5), some (.inl x6)], [], σ) Φ) (k2 : x2 = 0 → pe_X d 31 (234, [some (.inr (.inr a0)), some (.inl x1), some (.inl x2), some (.inr (.inr a3)), o4, some (.inl x5), some (.inl x6)], [], σ) Φ) : pe_X d 31 (230, [some (.inr (.inr a0)), some (.inl x1), some (.inl x2), some (.inr (.inr a3)), o4, some (.inl x5), some (.inl x6)], [], σ) Φ := by
  refine pe_blk 88 2 ck31 [] (cond (decide (¬ (pe_w x2) = 0)) 243 234, [some (.inr (.inr a0)), some (.inl x1), some (.inl x2), some (.inr (.inr a3)), o4, some (.inl x5), some (.inl x6)], [], σ) rfl ?_ ?_
  · exact trivial
  · try simp (disch := omega) only [pe_wi w0]
    exact pe_two' k1 k2
set_option maxRecDepth 8000 in
theorem b31_234 {d : Nat} {Φ : Option pe_V → pe_H → Prop} {σ : pe_H} {a0 : Nat} {x1 : Int} {o2 : Option pe_V} {a3 : Nat} {o4 : Option pe_V} {x5 : Int} {x6 : Int} (f_a0 : pk_Fm a0 σ := by assumption) (f_a3 : pk_Fo a3 σ := by assumption)   (k : pe_M d 32 [.inr (.inr a0), .inl x1, .inl x5, .inl x6] σ (fun r σ' => pe_X d 31 (243, [some (.inr (.inr a0)), some (.inl x1), o2, some (.inr (.inr a3)), o4, some (.inl x5), some (.inl x6)], r.toList ++ [], σ') Φ)) : pe_X d 31 (234, [some (.inr (.inr a0)), some (.inl x1), o2, some (.inr (.inr a3)), o4, some (.inl x5), some (.inl x6)], [], σ) Φ := by
  refine pe_blk 90 4 ck31 [] (240, [some (.inr (.inr a0)), some (.inl x1), o2, some (.inr (.inr a3)), o4, some (.inl x5), some (.inl x6)], [.inl x6, .inl x5, .inl x1, .inr (.inr a0)], σ) rfl ?_ ?_
  · exact trivial
  · try simp (disch := omega) only [pe_K_wI, pe_K_wR, pk_mK f_a0]
    have hrc : pe_K σ a0 = 2 := by first | assumption | (simp (disch := omega) only [pe_K_wI, pe_K_wR, pk_mK f_a0]; done) | (simp (disch := omega) only [pe_K_wI, pe_K_wR, pk_mK f_a0]; assumption)
    exact pe_cal 94 ck31 rfl rfl rfl ⟨hrc, by decide⟩ k
set_option maxRecDepth 8000 in
theorem b31_243 {d : Nat} {Φ : Option pe_V → pe_H → Prop} {σ : pe_H} {a0 : Nat} {x1 : Int} {o2 : Option pe_V} {a3 : Nat} {o4 : Option pe_V} {o5 : Option pe_V} {o6 : Option pe_V} (f_a0 : pk_Fm a0 σ := by assumption) (f_a3 : pk_Fo a3 σ := by assumption)   (k : pe_M d 3 [.inr (.inr a3)] σ (fun r σ' => pe_X d 31 (247, [some (.inr (.inr a0)), some (.inl x1), o2, some (.inr (.inr a3)), o4, o5, o6], r.toList ++ [], σ') Φ)) : pe_X d 31 (243, [some (.inr (.inr a0)), some (.inl x1), o2, some (.inr (.inr a3)), o4, o5, o6], [], σ) Φ := by
  refine pe_blk 95 1 ck31 [] (244, [some (.inr (.inr a0)), some (.inl x1), o2, some (.inr (.inr a3)), o4, o5, o6], [.inr (.inr a3)], σ) rfl ?_ ?_
  · exact trivial
  · try simp (disch := omega) only [pe_K_wI, pe_K_wR, pk_oK f_a3]
    have hrc : pe_K σ a3 = 0 := by first | assumption | (simp (disch := omega) only [pe_K_wI, pe_K_wR, pk_oK f_a3]; done) | (simp (disch := omega) only [pe_K_wI, pe_K_wR, pk_oK f_a3]; assumption)
    exact pe_cal 96 ck31 rfl rfl rfl ⟨hrc, by decide⟩ k
set_option maxRecDepth 8000 in
theorem b31_247 {d : Nat} {Φ : Option pe_V → pe_H → Prop} {σ : pe_H} {a0 : Nat} {x1 : Int} {o2 : Option pe_V} {o3 : Option pe_V} {o4 : Option pe_V} {o5 : Option pe_V} {o6 : Option pe_V} {s0 : Int} (f_a0 : pk_Fm a0 σ := by assumption) (w0 : pe_in s0 := by unfold pe_in; omega)  (k1 : s0 = 0 → pe_X d 31 (256, [some (.inr (.inr a0)), some (.inl x1), o2, o3, o4, o5, o6], [], σ) Φ) (k2 : ¬ (s0 = 0) → pe_X d 31 (250, [some (.inr (.inr a0)), some (.inl x1), o2, o3, o4, o5, o6], [], σ) Φ) : pe_X d 31 (247, [some (.inr (.inr a0)), some (.inl x1), o2, o3, o4, o5, o6], [.inl s0], σ) Φ := by
  refine pe_blk 97 1 ck31 [] (cond (decide ((pe_w s0) = 0)) 256 250, [some (.inr (.inr a0)), some (.inl x1), o2, o3, o4, o5, o6], [], σ) rfl ?_ ?_
  · exact trivial
  · try simp (disch := omega) only [pe_wi w0]
    exact pe_two k1 k2
set_option maxRecDepth 8000 in
theorem b31_250 {d : Nat} {Φ : Option pe_V → pe_H → Prop} {σ : pe_H} {a0 : Nat} {x1 : Int} {o2 : Option pe_V} {o3 : Option pe_V} {o4 : Option pe_V} {o5 : Option pe_V} {o6 : Option pe_V} (f_a0 : pk_Fm a0 σ := by assumption)   (k : pe_M d 37 [.inr (.inr a0), .inl x1, .inl 0] σ (fun r σ' => pe_X d 31 (256, [some (.inr (.inr a0)), some (.inl x1), o2, o3, o4, o5, o6], r.toList ++ [], σ') Φ)) : pe_X d 31 (250, [some (.inr (.inr a0)), some (.inl x1), o2, o3, o4, o5, o6], [], σ) Φ := by
  refine pe_blk 98 3 ck31 [] (253, [some (.inr (.inr a0)), some (.inl x1), o2, o3, o4, o5, o6], [.inl 0, .inl x1, .inr (.inr a0)], σ) rfl ?_ ?_
  · exact trivial
  · exact pe_cal 101 ck31 rfl rfl rfl trivial k
set_option maxRecDepth 8000 in
theorem b31_256 {d : Nat} {Φ : Option pe_V → pe_H → Prop} {σ : pe_H} {o0 : Option pe_V} {o1 : Option pe_V} {o2 : Option pe_V} {o3 : Option pe_V} {o4 : Option pe_V} {o5 : Option pe_V} {o6 : Option pe_V}    (k : Φ none σ) : pe_X d 31 (256, [o0, o1, o2, o3, o4, o5, o6], [], σ) Φ := by
  exact pe_fine 102 ck31 rfl rfl rfl trivial k
-- StepMachines$Machine.makeLivelyStep(III)V
def T32 : List (Nat × Instr × Nat) := [(0, .aload_n 0, 1), (1, .getfield 19, 3), (4, .iload_n 1, 1), (5, .aaload, 1), (6, .astore 4, 2), (8, .iload_n 2, 1), (9, .lookupswitch 279 #[(100, 185), (103, 204), (106, 213), (114, 133), (115, 195), (121, 59)], 59), (68, .aload 4, 2), (70, .aload 4, 2), (72, .getfield 139, 3), (75, .aload 4, 2), (77, .getfield 177, 3), (80, .iload_n 3, 1), (81, .iadd, 1), (82, .sipush 1000, 3), (85, .irem, 1), (86, .invokevirtual 195, 3), (89, .putfield 198, 3), (92, .aload 4, 2), (94, .aload 4, 2), (96, .getfield 89, 3), (99, .sipush 999, 3), (102, .if_icmp .ge 13, 3), (105, .aload 4, 2), (107, .getfield 89, 3), (110, .iconst 1, 1), (111, .iadd, 1), (112, .goto 6, 3), (115, .sipush 999, 3), (118, .putfield 89, 3), (121, .aload 4, 2), (123, .iconst 2, 1), (124, .putfield 83, 3), (127, .aload_n 0, 1), (128, .dup, 1), (129, .getfield 42, 3), (132, .iconst 1, 1), (133, .iload_n 1, 1), (134, .ishl, 1), (135, .ior, 1), (136, .putfield 42, 3), (139, .goto 149, 3), (142, .aload 4, 2), (144, .getfield 151, 3), (147, .aload 4, 2), (149, .getfield 148, 3), (152, .iconst 1, 1), (153, .isub, 1), (154, .aaload, 1), (155, .astore 5, 2), (157, .aload 5, 2), (159, .getfield 180, 3), (162, .ifCond .ne 126, 3), (165, .aload 5, 2), (167, .getfield 201, 3), (170, .iload_n 3, 1), (171, .if_icmp .ge 117, 3), (174, .aload 5, 2), (176, .dup, 1), (177, .getfield 201, 3), (180, .iconst 1, 1), (181, .iadd, 1), (182, .putfield 201, 3), (185, .aload 5, 2), (187, .iconst 0, 1), (188, .putfield 155, 3), (191, .goto 97, 3), (194, .aload_n 0, 1), (195, .aload 4, 2), (197, .iload_n 3, 1), (198, .invokevirtual 202, 3), (201, .goto 87, 3), (204, .aload_n 0, 1), (205, .iload_n 1, 1), (206, .iload_n 3, 1), (207, .invokevirtual 205, 3), (210, .goto 78, 3), (213, .aload_n 0, 1), (214, .iload_n 1, 1), (215, .iload_n 3, 1), (216, .invokevirtual 209, 3), (219, .goto 69, 3), (222, .iload_n 3, 1), (223, .iload_n 1, 1), (224, .if_icmp .eq 11, 3), (227, .iload_n 3, 1), (228, .aload_n 0, 1), (229, .getfield 32, 3), (232, .if_icmp .lt 19, 3), (235, .aload_n 0, 1), (236, .aload 4, 2), (238, .aload_n 0, 1), (239, .bipush 6, 2), (241, .iconst (-1), 1), (242, .invokevirtual 184, 3), (245, .invokevirtual 187, 3), (248, .goto 40, 3), (251, .aload_n 0, 1), (252, .getfield 19, 3), (255, .iload_n 3, 1), (256, .aaload, 1), (257, .invokevirtual 79, 3), (260, .ifCond .eq 18, 3), (263, .aload_n 0, 1), (264, .aload 4, 2), (266, .aload_n 0, 1), (267, .getfield 19, 3), (270, .iload_n 3, 1), (271, .aaload, 1), (272, .invokevirtual 212, 3), (275, .goto 13, 3), (278, .aload 4, 2), (280, .iload_n 3, 1), (281, .iconst 5, 1), (282, .invokevirtual 216, 3), (285, .goto 3, 3), (288, .return_, 1)]
theorem ck32 : pe_ctx 32 2 false none 6 T32 := ⟨rfl, rfl, rfl, rfl, by decide +kernel, by decide, by decide⟩
theorem b32_0 {d : Nat} {Φ : Option pe_V → pe_H → Prop} {σ : pe_H} {a0 : Nat} {x1 : Int} {x2 : Int} {x3 : Int} {o4 : Option pe_V} {o5 : Option pe_V} (f_a0 : pk_Fm a0 σ := by assumption) (w0 : pe_in x1 := by unfold pe_in; omega) (w1 : pe_in x2 := by unfold pe_in; omega) (h0 : 0 ≤ x1 := by first | assumption | omega) (h1 : x1 < 8 := by first | assumption | omega) (k0 : x2 = 100 → pe_X d 32 (194, [some (.inr (.inr a0)), some (.inl x1), some (.inl x2), some (.inl x3), some (.inr (.inr (pk_c a0 x1))), o5], [], σ) Φ) (k1 : x2 = 103 → pe_X d 32 (213, [some (.inr (.inr a0)), some (.inl x1), some (.inl x2), some (.inl x3), some (.inr (.inr (pk_c a0 x1))), o5], [], σ) Φ) (k2 : x2 = 106 → pe_X d 32 (222, [some (.inr (.inr a0)), some (.inl x1), some (.inl x2), some (.inl x3), some (.inr (.inr (pk_c a0 x1))), o5], [], σ) Φ) (k3 : x2 = 114 → pe_X d 32 (142, [some (.inr (.inr a0)), some (.inl x1), some (.inl x2), some (.inl x3), some (.inr (.inr (pk_c a0 x1))), o5], [], σ) Φ) (k4 : x2 = 115 → pe_X d 32 (204, [some (.inr (.inr a0)), some (.inl x1), some (.inl x2), some (.inl x3), some (.inr (.inr (pk_c a0 x1))), o5], [], σ) Φ) (k5 : x2 = 121 → pe_X d 32 (68, [some (.inr (.inr a0)), some (.inl x1), some (.inl x2), some (.inl x3), some (.inr (.inr (pk_c a0 x1))), o5], [], σ) Φ) (kd : ¬ x2 = 100 → ¬ x2 = 103 → ¬ x2 = 106 → ¬ x2 = 114 → ¬ x2 = 115 → ¬ x2 = 121 → pe_X d 32 (288, [some (.inr (.inr a0)), some (.inl x1), some (.inl x2), some (.inl x3), some (.inr (.inr (pk_c a0 x1))), o5], [], σ) Φ) : pe_X d 32 (0, [some (.inr (.inr a0)), some (.inl x1), some (.inl x2), some (.inl x3), o4, o5], [], σ) Φ := by
  refine pe_blk 0 7 ck32 [pe_K σ a0 = 2, 12 ≤ pe_K σ (pe_R σ a0 1) ∧ pe_K σ (pe_R σ a0 1) < 19, 0 ≤ (pe_w x1), (pe_w x1) < pe_L σ (pe_R σ a0 1)] ((((9 : Nat) : Int) + pe_sw 279 [(100, 185), (103, 204), (106, 213), (114, 133), (115, 195), (121, 59)] (pe_w x2)).toNat, [some (.inr (.inr a0)), some (.inl x1), some (.inl x2), some (.inl x3), some (.inr (.inr (pe_R σ (pe_R σ a0 1) (pe_w x1)))), o5], [], σ) rfl ?_ ?_
  · first
    | (simp (disch := omega) only [pe_all, pe_wi w0, pe_wi w1, pe_K_wI, pe_K_wR, pe_L_wI, pe_L_wR, pe_R_nej, pe_R_ner, pe_R_wI, pk_mE2 f_a0 (i := x1) (by omega) (by omega), pk_mK f_a0, pk_mK2 f_a0, pk_mL2 f_a0, pk_mR2 f_a0]; done)
    | (simp (disch := omega) only [pe_all, pe_wi w0, pe_wi w1, pe_K_wI, pe_K_wR, pe_L_wI, pe_L_wR, pe_R_nej, pe_R_ner, pe_R_wI, pk_mE2 f_a0 (i := x1) (by omega) (by omega), pk_mK f_a0, pk_mK2 f_a0, pk_mL2 f_a0, pk_mR2 f_a0]; (repeat' apply And.intro) <;> first | assumption | omega | decide)
  · try simp (disch := omega) only [pe_wi w0, pe_wi w1, pe_K_wI, pe_K_wR, pe_L_wI, pe_L_wR, pe_R_nej, pe_R_ner, pe_R_wI, pk_mE2 f_a0 (i := x1) (by omega) (by omega), pk_mK f_a0, pk_mK2 f_a0, pk_mL2 f_a0, pk_mR2 f_a0]
    by_cases q0 : x2 = 100
    · have e : pe_sw 279 [(100, 185), (103, 204), (106, 213), (114, 133), (115, 195), (121, 59)] x2 = 185 := by rw [q0]; rfl
      rw [e]; exact k0 q0
    by_cases q1 : x2 = 103
    · have e : pe_sw 279 [(100, 185), (103, 204), (106, 213), (114, 133), (115, 195), (121, 59)] x2 = 204 := by rw [q1]; rfl
      rw [e]; exact k1 q1
    by_cases q2 : x2 = 106
    · have e : pe_sw 279 [(100, 185), (103, 204), (106, 213), (114, 133), (115, 195), (121, 59)] x2 = 213 := by rw [q2]; rfl
      rw [e]; exact k2 q2
    by_cases q3 : x2 = 114
    · have e : pe_sw 279 [(100, 185), (103, 204), (106, 213), (114, 133), (115, 195), (121, 59)] x2 = 133 := by rw [q3]; rfl
      rw [e]; exact k3 q3
    by_cases q4 : x2 = 115
    · have e : pe_sw 279 [(100, 185), (103, 204), (106, 213), (114, 133), (115, 195), (121, 59)] x2 = 195 := by rw [q4]; rfl
      rw [e]; exact k4 q4
    by_cases q5 : x2 = 121
    · have e : pe_sw 279 [(100, 185), (103, 204), (106, 213), (114, 133), (115, 195), (121, 59)] x2 = 59 := by rw [q5]; rfl
      rw [e]; exact k5 q5
    have e : pe_sw 279 [(100, 185), (103, 204), (106, 213), (114, 133), (115, 195), (121, 59)] x2 = 279 := by simp only [pe_sw, if_neg q0, if_neg q1, if_neg q2, if_neg q3, if_neg q4, if_neg q5]
    rw [e]; exact kd q0 q1 q2 q3 q4 q5
theorem b32_68 {d : Nat} {Φ : Option pe_V → pe_H → Prop} {σ : pe_H} {a0 : Nat} {x1 : Int} {o2 : Option pe_V} {x3 : Int} {a4 : Nat} {o5 : Option pe_V} (f_a0 : pk_Fm a0 σ := by assumption) (f_a4 : pk_Fo a4 σ := by assumption) (w0 : pe_in ((pe_I σ a4 3) + x3) := by unfold pe_in; omega) (h0 : ¬ 1000 = 0 := by first | assumption | omega) (h1 : pe_K σ (pe_R σ a4 1) = 3 := by first | assumption | omega) (k : pe_M d 43 [.inr (.inr (pe_R σ a4 1)), .inl (Int.tmod ((pe_I σ a4 3) + x3) 1000)] σ (fun r σ' => pe_X d 32 (89, [some (.inr (.inr a0)), some (.inl x1), o2, some (.inl x3), some (.inr (.inr a4)), o5], r.toList ++ [.inr (.inr a4)], σ') Φ)) : pe_X d 32 (68, [some (.inr (.inr a0)), some (.inl x1), o2, some (.inl x3), some (.inr (.inr a4)), o5], [], σ) Φ := by
  refine pe_blk 7 9 ck32 [pe_K σ a4 = 0, pe_K σ a4 = 0, ¬ (pe_w 1000) = 0] (86, [some (.inr (.inr a0)), some (.inl x1), o2, some (.inl x3), some (.inr (.inr a4)), o5], [.inl (Int.tmod (pe_w ((pe_I σ a4 3) + x3)) (pe_w 1000)), .inr (.inr (pe_R σ a4 1)), .inr (.inr a4)], σ) rfl ?_ ?_
  · first
    | (simp (disch := omega) only [pe_all, pe_wi w0, pe_wi (x := 1000) ⟨by decide, by decide⟩, pe_K_wI, pe_K_wR, pk_oK f_a4]; done)
    | (simp (disch := omega) only [pe_all, pe_wi w0, pe_wi (x := 1000) ⟨by decide, by decide⟩, pe_K_wI, pe_K_wR, pk_oK f_a4]; (repeat' apply And.intro) <;> first | assumption | omega | decide)
  · try simp (disch := omega) only [pe_wi w0, pe_wi (x := 1000) ⟨by decide, by decide⟩, pe_K_wI, pe_K_wR, pk_oK f_a4]
    have hrc : pe_K σ (pe_R σ a4 1) = 3 := by first | assumption | (simp (disch := omega) only [pe_wi w0, pe_wi (x := 1000) ⟨by decide, by decide⟩, pe_K_wI, pe_K_wR, pk_oK f_a4]; done) | (simp (disch := omega) only [pe_wi w0, pe_wi (x := 1000) ⟨by decide, by decide⟩, pe_K_wI, pe_K_wR, pk_oK f_a4]; assumption)
    exact pe_cal 16 ck32 rfl rfl rfl ⟨hrc, by decide⟩ k
theorem b32_89 {d : Nat} {Φ : Option pe_V → pe_H → Prop} {σ : pe_H} {a0 : Nat} {x1 : Int} {o2 : Option pe_V} {o3 : Option pe_V} {a4 : Nat} {o5 : Option pe_V} {b0 : Nat} {s1 : Int} (f_a0 : pk_Fm a0 σ := by assumption) (f_a4 : pk_Fo a4 σ := by assumption) (f_b0 : pk_Fo b0 σ := by assumption) (w0 : pe_in (pe_I σ a4 5) := by unfold pe_in; omega)  (k1 : 999 ≤ (pe_I σ a4 5) → pe_X d 32 (115, [some (.inr (.inr a0)), some (.inl x1), o2, o3, some (.inr (.inr a4)), o5], [.inr (.inr a4)], pe_wI σ b0 4 s1) Φ) (k2 : ¬ (999 ≤ (pe_I σ a4 5)) → pe_X d 32 (105, [some (.inr (.inr a0)), some (.inl x1), o2, o3, some (.inr (.inr a4)), o5], [.inr (.inr a4)], pe_wI σ b0 4 s1) Φ) : pe_X d 32 (89, [some (.inr (.inr a0)), some (.inl x1), o2, o3, some (.inr (.inr a4)), o5], [.inl s1, .inr (.inr b0)], σ) Φ := by
  refine pe_blk 17 6 ck32 [pe_K σ b0 = 0, pe_K (pe_wI σ b0 4 s1) a4 = 0] (cond (decide ((pe_w 999) ≤ (pe_w (pe_I (pe_wI σ b0 4 s1) a4 5)))) 115 105, [some (.inr (.inr a0)), some (.inl x1), o2, o3, some (.inr (.inr a4)), o5], [.inr (.inr a4)], pe_wI σ b0 4 s1) rfl ?_ ?_
  · first
    | (simp (disch := omega) only [pe_all, pe_wi w0, pe_wi (x := 999) ⟨by decide, by decide⟩, pe_I_nej, pe_K_wI, pe_K_wR, pk_oK f_a4, pk_oK f_b0]; done)
    | (simp (disch := omega) only [pe_all, pe_wi w0, pe_wi (x := 999) ⟨by decide, by decide⟩, pe_I_nej, pe_K_wI, pe_K_wR, pk_oK f_a4, pk_oK f_b0]; (repeat' apply And.intro) <;> first | assumption | omega | decide)
  · try simp (disch := omega) only [pe_wi w0, pe_wi (x := 999) ⟨by decide, by decide⟩, pe_I_nej, pe_K_wI, pe_K_wR, pk_oK f_a4, pk_oK f_b0]
    exact pe_two k1 k2
theorem b32_105 {d : Nat} {Φ : Option pe_V → pe_H → Prop} {σ : pe_H} {a0 : Nat} {x1 : Int} {o2 : Option pe_V} {o3 : Option pe_V} {a4 : Nat} {o5 : Option pe_V} {b0 : Nat} (f_a0 : pk_Fm a0 σ := by assumption) (f_a4 : pk_Fo a4 σ := by assumption) (f_b0 : pk_Fo b0 σ := by assumption)   (k : pe_X d 32 (118, [some (.inr (.inr a0)), some (.inl x1), o2, o3, some (.inr (.inr a4)), o5], [.inl ((pe_I σ a4 5) + 1), .inr (.inr b0)], σ) Φ) : pe_X d 32 (105, [some (.inr (.inr a0)), some (.inl x1), o2, o3, some (.inr (.inr a4)), o5], [.inr (.inr b0)], σ) Φ := by
  refine pe_blk 23 5 ck32 [pe_K σ a4 = 0] (118, [some (.inr (.inr a0)), some (.inl x1), o2, o3, some (.inr (.inr a4)), o5], [.inl ((pe_I σ a4 5) + 1), .inr (.inr b0)], σ) rfl ?_ ?_
  · first
    | (simp (disch := omega) only [pe_all, pe_K_wI, pe_K_wR, pk_oK f_a4]; done)
    | (simp (disch := omega) only [pe_all, pe_K_wI, pe_K_wR, pk_oK f_a4]; (repeat' apply And.intro) <;> first | assumption | omega | decide)
  · try simp (disch := omega) only [pe_K_wI, pe_K_wR, pk_oK f_a4]
    exact k
theorem b32_115 {d : Nat} {Φ : Option pe_V → pe_H → Prop} {σ : pe_H} {a0 : Nat} {x1 : Int} {o2 : Option pe_V} {o3 : Option pe_V} {a4 : Nat} {o5 : Option pe_V} {b0 : Nat} (f_a0 : pk_Fm a0 σ := by assumption) (f_a4 : pk_Fo a4 σ := by assumption) (f_b0 : pk_Fo b0 σ := by assumption)   (k : pe_X d 32 (118, [some (.inr (.inr a0)), some (.inl x1), o2, o3, some (.inr (.inr a4)), o5], [.inl 999, .inr (.inr b0)], σ) Φ) : pe_X d 32 (115, [some (.inr (.inr a0)), some (.inl x1), o2, o3, some (.inr (.inr a4)), o5], [.inr (.inr b0)], σ) Φ := by
  refine pe_blk 28 1 ck32 [] (118, [some (.inr (.inr a0)), some (.inl x1), o2, o3, some (.inr (.inr a4)), o5], [.inl 999, .inr (.inr b0)], σ) rfl ?_ ?_
  · exact trivial
  · exact k
theorem b32_118 {d : Nat} {Φ : Option pe_V → pe_H → Prop} {σ : pe_H} {a0 : Nat} {x1 : Int} {o2 : Option pe_V} {o3 : Option pe_V} {a4 : Nat} {o5 : Option pe_V} {b0 : Nat} {s1 : Int} (f_a0 : pk_Fm a0 σ := by assumption) (f_a4 : pk_Fo a4 σ := by assumption) (f_b0 : pk_Fo b0 σ := by assumption)   (k : pe_X d 32 (288, [some (.inr (.inr a0)), some (.inl x1), o2, o3, some (.inr (.inr a4)), o5], [], pe_wI (pe_wI (pe_wI σ b0 5 s1) a4 2 2) a0 7 (pe_or (pe_I σ a0 7) (pe_shl 1 x1))) Φ) : pe_X d 32 (118, [some (.inr (.inr a0)), some (.inl x1), o2, o3, some (.inr (.inr a4)), o5], [.inl s1, .inr (.inr b0)], σ) Φ := by
  refine pe_blk 29 13 ck32 [pe_K σ b0 = 0, pe_K (pe_wI σ b0 5 s1) a4 = 0, pe_K (pe_wI (pe_wI σ b0 5 s1) a4 2 2) a0 = 2, pe_K (pe_wI (pe_wI σ b0 5 s1) a4 2 2) a0 = 2] (288, [some (.inr (.inr a0)), some (.inl x1), o2, o3, some (.inr (.inr a4)), o5], [], pe_wI (pe_wI (pe_wI σ b0 5 s1) a4 2 2) a0 7 (pe_or (pe_I (pe_wI (pe_wI σ b0 5 s1) a4 2 2) a0 7) (pe_shl 1 x1))) rfl ?_ ?_
  · first
    | (simp (disch := omega) only [pe_all, pe_I_nej, pe_K_wI, pe_K_wR, pk_mK f_a0, pk_oK f_a4, pk_oK f_b0]; done)
    | (simp (disch := omega) only [pe_all, pe_I_nej, pe_K_wI, pe_K_wR, pk_mK f_a0, pk_oK f_a4, pk_oK f_b0]; (repeat' apply And.intro) <;> first | assumption | omega | decide)
  · try simp (disch := omega) only [pe_I_nej, pe_K_wI, pe_K_wR, pk_mK f_a0, pk_oK f_a4, pk_oK f_b0]
    exact k
set_option maxRecDepth 8000 in
theorem b32_142 {d : Nat} {Φ : Option pe_V → pe_H → Prop} {σ : pe_H} {o0 : Option pe_V} {o1 : Option pe_V} {o2 : Option pe_V} {x3 : Int} {a4 : Nat} {o5 : Option pe_V} (f_a4 : pk_Fo a4 σ := by assumption) (w0 : pe_in ((pe_I σ a4 9) - 1) := by unfold pe_in; omega) (w1 : pe_in (pe_I σ (pk_f a4 ((pe_I σ a4 9) - 1)) 4) := by unfold pe_in; omega) (h0 : 0 ≤ ((pe_I σ a4 9) - 1) := by first | assumption | omega) (h1 : ((pe_I σ a4 9) - 1) < 6 := by first | assumption | omega) (k1 : ¬ (pe_I σ (pk_f a4 ((pe_I σ a4 9) - 1)) 4) = 0 → pe_X d 32 (288, [o0, o1, o2, some (.inl x3), some (.inr (.inr a4)), some (.inr (.inr (pk_f a4 ((pe_I σ a4 9) - 1))))], [], σ) Φ) (k2 : (pe_I σ (pk_f a4 ((pe_I σ a4 9) - 1)) 4) = 0 → pe_X d 32 (165, [o0, o1, o2, some (.inl x3), some (.inr (.inr a4)), some (.inr (.inr (pk_f a4 ((pe_I σ a4 9) - 1))))], [], σ) Φ) : pe_X d 32 (142, [o0, o1, o2, some (.inl x3), some (.inr (.inr a4)), o5], [], σ) Φ := by
  refine pe_blk 42 11 ck32 [pe_K σ a4 = 0, pe_K σ a4 = 0, 12 ≤ pe_K σ (pe_R σ a4 10) ∧ pe_K σ (pe_R σ a4 10) < 19, 0 ≤ (pe_w ((pe_I σ a4 9) - 1)), (pe_w ((pe_I σ a4 9) - 1)) < pe_L σ (pe_R σ a4 10), pe_K σ (pe_R σ (pe_R σ a4 10) (pe_w ((pe_I σ a4 9) - 1))) = 1] (cond (decide (¬ (pe_w (pe_I σ (pe_R σ (pe_R σ a4 10) (pe_w ((pe_I σ a4 9) - 1))) 4)) = 0)) 288 165, [o0, o1, o2, some (.inl x3), some (.inr (.inr a4)), some (.inr (.inr (pe_R σ (pe_R σ a4 10) (pe_w ((pe_I σ a4 9) - 1)))))], [], σ) rfl ?_ ?_
  · first
    | (simp (disch := omega) only [pe_all, pe_wi w0, pe_wi w1, pe_K_wI, pe_K_wR, pe_L_wI, pe_L_wR, pe_R_nej, pe_R_ner, pe_R_wI, pk_oE f_a4 (i := (pe_I σ a4 9) - 1) (by omega) (by omega), pk_oEK f_a4 (i := (pe_I σ a4 9) - 1) (by omega) (by omega), pk_oK f_a4, pk_oK1 f_a4, pk_oL1 f_a4, pk_oR f_a4]; done)
    | (simp (disch := omega) only [pe_all, pe_wi w0, pe_wi w1, pe_K_wI, pe_K_wR, pe_L_wI, pe_L_wR, pe_R_nej, pe_R_ner, pe_R_wI, pk_oE f_a4 (i := (pe_I σ a4 9) - 1) (by omega) (by omega), pk_oEK f_a4 (i := (pe_I σ a4 9) - 1) (by omega) (by omega), pk_oK f_a4, pk_oK1 f_a4, pk_oL1 f_a4, pk_oR f_a4]; (repeat' apply And.intro) <;> first | assumption | omega | decide)
  · try simp (disch := omega) only [pe_wi w0, pe_wi w1, pe_K_wI, pe_K_wR, pe_L_wI, pe_L_wR, pe_R_nej, pe_R_ner, pe_R_wI, pk_oE f_a4 (i := (pe_I σ a4 9) - 1) (by omega) (by omega), pk_oEK f_a4 (i := (pe_I σ a4 9) - 1) (by omega) (by omega), pk_oK f_a4, pk_oK1 f_a4, pk_oL1 f_a4, pk_oR f_a4]
    exact pe_two' k1 k2
set_option maxRecDepth 8000 in
theorem b32_165 {d : Nat} {Φ : Option pe_V → pe_H → Prop} {σ : pe_H} {o0 : Option pe_V} {o1 : Option pe_V} {o2 : Option pe_V} {x3 : Int} {o4 : Option pe_V} {a5 : Nat}  (w0 : pe_in x3 := by unfold pe_in; omega) (w1 : pe_in (pe_I σ a5 3) := by unfold pe_in; omega) (h0 : pe_K σ a5 = 1 := by first | assumption | omega) (k1 : x3 ≤ (pe_I σ a5 3) → pe_X d 32 (288, [o0, o1, o2, some (.inl x3), o4, some (.inr (.inr a5))], [], σ) Φ) (k2 : ¬ (x3 ≤ (pe_I σ a5 3)) → pe_X d 32 (174, [o0, o1, o2, some (.inl x3), o4, some (.inr (.inr a5))], [], σ) Φ) : pe_X d 32 (165, [o0, o1, o2, some (.inl x3), o4, some (.inr (.inr a5))], [], σ) Φ := by
  refine pe_blk 53 4 ck32 [pe_K σ a5 = 1] (cond (decide ((pe_w x3) ≤ (pe_w (pe_I σ a5 3)))) 288 174, [o0, o1, o2, some (.inl x3), o4, some (.inr (.inr a5))], [], σ) rfl ?_ ?_
  · first
    | (simp (disch := omega) only [pe_all, pe_wi w0, pe_wi w1, pe_K_wI, pe_K_wR]; done)
    | (simp (disch := omega) only [pe_all, pe_wi w0, pe_wi w1, pe_K_wI, pe_K_wR]; (repeat' apply And.intro) <;> first | assumption | omega | decide)
  · try simp (disch := omega) only [pe_wi w0, pe_wi w1, pe_K_wI, pe_K_wR]
    exact pe_two k1 k2
set_option maxRecDepth 8000 in
theorem b32_174 {d : Nat} {Φ : Option pe_V → pe_H → Prop} {σ : pe_H} {o0 : Option pe_V} {o1 : Option pe_V} {o2 : Option pe_V} {o3 : Option pe_V} {o4 : Option pe_V} {a5 : Nat}   (h0 : pe_K σ a5 = 1 := by first | assumption | omega) (k : pe_X d 32 (288, [o0, o1, o2, o3, o4, some (.inr (.inr a5))], [], pe_wI (pe_wI σ a5 3 ((pe_I σ a5 3) + 1)) a5 2 0) Φ) : pe_X d 32 (174, [o0, o1, o2, o3, o4, some (.inr (.inr a5))], [], σ) Φ := by
  refine pe_blk 57 10 ck32 [pe_K σ a5 = 1, pe_K σ a5 = 1, pe_K (pe_wI σ a5 3 ((pe_I σ a5 3) + 1)) a5 = 1] (288, [o0, o1, o2, o3, o4, some (.inr (.inr a5))], [], pe_wI (pe_wI σ a5 3 ((pe_I σ a5 3) + 1)) a5 2 0) rfl ?_ ?_
  · first
    | (simp (disch := omega) only [pe_all, pe_K_wI, pe_K_wR]; done)
    | (simp (disch := omega) only [pe_all, pe_K_wI, pe_K_wR]; (repeat' apply And.intro) <;> first | assumption | omega | decide)
  · try simp (disch := omega) only [pe_K_wI, pe_K_wR]
    exact k
set_option maxRecDepth 8000 in
theorem b32_194 {d : Nat} {Φ : Option pe_V → pe_H → Prop} {σ : pe_H} {a0 : Nat} {o1 : Option pe_V} {o2 : Option pe_V} {x3 : Int} {a4 : Nat} {o5 : Option pe_V} (f_a0 : pk_Fm a0 σ := by assumption) (f_a4 : pk_Fo a4 σ := by assumption)   (k : pe_M d 33 [.inr (.inr a0), .inr (.inr a4), .inl x3] σ (fun r σ' => pe_X d 32 (201, [some (.inr (.inr a0)), o1, o2, some (.inl x3), some (.inr (.inr a4)), o5], r.toList ++ [], σ') Φ)) : pe_X d 32 (194, [some (.inr (.inr a0)), o1, o2, some (.inl x3), some (.inr (.inr a4)), o5], [], σ) Φ := by
  refine pe_blk 67 3 ck32 [] (198, [some (.inr (.inr a0)), o1, o2, some (.inl x3), some (.inr (.inr a4)), o5], [.inl x3, .inr (.inr a4), .inr (.inr a0)], σ) rfl ?_ ?_
  · exact trivial
  · try simp (disch := omega) only [pe_K_wI, pe_K_wR, pk_mK f_a0]
    have hrc : pe_K σ a0 = 2 := by first | assumption | (simp (disch := omega) only [pe_K_wI, pe_K_wR, pk_mK f_a0]; done) | (simp (disch := omega) only [pe_K_wI, pe_K_wR, pk_mK f_a0]; assumption)
    exact pe_cal 70 ck32 rfl rfl rfl ⟨hrc, by decide⟩ k
set_option maxRecDepth 8000 in
theorem b32_201 {d : Nat} {Φ : Option pe_V → pe_H → Prop} {σ : pe_H} {o0 : Option pe_V} {o1 : Option pe_V} {o2 : Option pe_V} {o3 : Option pe_V} {o4 : Option pe_V} {o5 : Option pe_V}    (k : pe_X d 32 (288, [o0, o1, o2, o3, o4, o5], [], σ) Φ) : pe_X d 32 (201, [o0, o1, o2, o3, o4, o5], [], σ) Φ := by
  refine pe_blk 71 1 ck32 [] (288, [o0, o1, o2, o3, o4, o5], [], σ) rfl ?_ ?_
  · exact trivial
  · exact k
set_option maxRecDepth 8000 in
theorem b32_204 {d : Nat} {Φ : Option pe_V → pe_H → Prop} {σ : pe_H} {a0 : Nat} {x1 : Int} {o2 : Option pe_V} {x3 : Int} {o4 : Option pe_V} {o5 : Option pe_V} (f_a0 : pk_Fm a0 σ := by assumption)   (k : pe_M d 34 [.inr (.inr a0), .inl x1, .inl x3] σ (fun r σ' => pe_X d 32 (210, [some (.inr (.inr a0)), some (.inl x1), o2, some (.inl x3), o4, o5], r.toList ++ [], σ') Φ)) : pe_X d 32 (204, [some (.inr (.inr a0)), some (.inl x1), o2, some (.inl x3), o4, o5], [], σ) Φ := by
  refine pe_blk 72 3 ck32 [] (207, [some (.inr (.inr a0)), some (.inl x1), o2, some (.inl x3), o4, o5], [.inl x3, .inl x1, .inr (.inr a0)], σ) rfl ?_ ?_
  · exact trivial
  · try simp (disch := omega) only [pe_K_wI, pe_K_wR, pk_mK f_a0]
    have hrc : pe_K σ a0 = 2 := by first | assumption | (simp (disch := omega) only [pe_K_wI, pe_K_wR, pk_mK f_a0]; done) | (simp (disch := omega) only [pe_K_wI, pe_K_wR, pk_mK f_a0]; assumption)
    exact pe_cal 75 ck32 rfl rfl rfl ⟨hrc, by decide⟩ k
set_option maxRecDepth 8000 in
theorem b32_210 {d : Nat} {Φ : Option pe_V → pe_H → Prop} {σ : pe_H} {o0 : Option pe_V} {o1 : Option pe_V} {o2 : Option pe_V} {o3 : Option pe_V} {o4 : Option pe_V} {o5 : Option pe_V}    (k : pe_X d 32 (288, [o0, o1, o2, o3, o4, o5], [], σ) Φ) : pe_X d 32 (210, [o0, o1, o2, o3, o4, o5], [], σ) Φ := by
  refine pe_blk 76 1 ck32 [] (288, [o0, o1, o2, o3, o4, o5], [], σ) rfl ?_ ?_
  · exact trivial
  · exact k
set_option maxRecDepth 8000 in
theorem b32_213 {d : Nat} {Φ : Option pe_V → pe_H → Prop} {σ : pe_H} {a0 : Nat} {x1 : Int} {o2 : Option pe_V} {x3 : Int} {o4 : Option pe_V} {o5 : Option pe_V} (f_a0 : pk_Fm a0 σ := by assumption)   (k : pe_M d 35 [.inr (.inr a0), .inl x1, .inl x3] σ (fun r σ' => pe_X d 32 (219, [some (.inr (.inr a0)), some (.inl x1), o2, some (.inl x3), o4, o5], r.toList ++ [], σ') Φ)) : pe_X d 32 (213, [some (.inr (.inr a0)), some (.inl x1), o2, some (.inl x3), o4, o5], [], σ) Φ := by
  refine pe_blk 77 3 ck32 [] (216, [some (.inr (.inr a0)), some (.inl x1), o2, some (.inl x3), o4, o5], [.inl x3, .inl x1, .inr (.inr a0)], σ) rfl ?_ ?_
  · exact trivial
  · try simp (disch := omega) only [pe_K_wI, pe_K_wR, pk_mK f_a0]
    have hrc : pe_K σ a0 = 2 := by first | assumption | (simp (disch := omega) only [pe_K_wI, pe_K_wR, pk_mK f_a0]; done) | (simp (disch := omega) only [pe_K_wI, pe_K_wR, pk_mK f_a0]; assumption)
    exact pe_cal 80 ck32 rfl rfl rfl ⟨hrc, by decide⟩ k
set_option maxRecDepth 8000 in
theorem b32_219 {d : Nat} {Φ : Option pe_V → pe_H → Prop} {σ : pe_H} {o0 : Option pe_V} {o1 : Option pe_V} {o2 : Option pe_V} {o3 : Option pe_V} {o4 : Option pe_V} {o5 : Option pe_V}    (k : pe_X d 32 (288, [o0, o1, o2, o3, o4, o5], [], σ) Φ) : pe_X d 32 (219, [o0, o1, o2, o3, o4, o5], [], σ) Φ := by
  refine pe_blk 81 1 ck32 [] (288, [o0, o1, o2, o3, o4, o5], [], σ) rfl ?_ ?_
  · exact trivial
  · exact k
set_option maxRecDepth 8000 in
theorem b32_222 {d : Nat} {Φ : Option pe_V → pe_H → Prop} {σ : pe_H} {a0 : Nat} {x1 : Int} {o2 : Option pe_V} {x3 : Int} {a4 : Nat} {o5 : Option pe_V} (f_a0 : pk_Fm a0 σ := by assumption) (f_a4 : pk_Fo a4 σ := by assumption) (w0 : pe_in x1 := by unfold pe_in; omega) (w1 : pe_in x3 := by unfold pe_in; omega)  (k1 : x3 = x1 → pe_X d 32 (235, [some (.inr (.inr a0)), some (.inl x1), o2, some (.inl x3), some (.inr (.inr a4)), o5], [], σ) Φ) (k2 : ¬ (x3 = x1) → pe_X d 32 (227, [some (.inr (.inr a0)), some (.inl x1), o2, some (.inl x3), some (.inr (.inr a4)), o5], [], σ) Φ) : pe_X d 32 (222, [some (.inr (.inr a0)), some (.inl x1), o2, some (.inl x3), some (.inr (.inr a4)), o5], [], σ) Φ := by
  refine pe_blk 82 3 ck32 [] (cond (decide ((pe_w x3) = (pe_w x1))) 235 227, [some (.inr (.inr a0)), some (.inl x1), o2, some (.inl x3), some (.inr (.inr a4)), o5], [], σ) rfl ?_ ?_
  · exact trivial
  · try simp (disch := omega) only [pe_wi w0, pe_wi w1]
    exact pe_two k1 k2
set_option maxRecDepth 8000 in
theorem b32_227 {d : Nat} {Φ : Option pe_V → pe_H → Prop} {σ : pe_H} {a0 : Nat} {o1 : Option pe_V} {o2 : Option pe_V} {x3 : Int} {a4 : Nat} {o5 : Option pe_V} (f_a0 : pk_Fm a0 σ := by assumption) (f_a4 : pk_Fo a4 σ := by assumption) (w0 : pe_in (pe_I σ a0 4) := by unfold pe_in; omega) (w1 : pe_in x3 := by unfold pe_in; omega)  (k1 : x3 < (pe_I σ a0 4) → pe_X d 32 (251, [some (.inr (.inr a0)), o1, o2, some (.inl x3), some (.inr (.inr a4)), o5], [], σ) Φ) (k2 : ¬ (x3 < (pe_I σ a0 4)) → pe_X d 32 (235, [some (.inr (.inr a0)), o1, o2, some (.inl x3), some (.inr (.inr a4)), o5], [], σ) Φ) : pe_X d 32 (227, [some (.inr (.inr a0)), o1, o2, some (.inl x3), some (.inr (.inr a4)), o5], [], σ) Φ := by
  refine pe_blk 85 4 ck32 [pe_K σ a0 = 2] (cond (decide ((pe_w x3) < (pe_w (pe_I σ a0 4)))) 251 235, [some (.inr (.inr a0)), o1, o2, some (.inl x3), some (.inr (.inr a4)), o5], [], σ) rfl ?_ ?_
  · first
    | (simp (disch := omega) only [pe_all, pe_wi w0, pe_wi w1, pe_K_wI, pe_K_wR, pk_mK f_a0]; done)
    | (simp (disch := omega) only [pe_all, pe_wi w0, pe_wi w1, pe_K_wI, pe_K_wR, pk_mK f_a0]; (repeat' apply And.intro) <;> first | assumption | omega | decide)
  · try simp (disch := omega) only [pe_wi w0, pe_wi w1, pe_K_wI, pe_K_wR, pk_mK f_a0]
    exact pe_two k1 k2
set_option maxRecDepth 8000 in
theorem b32_235 {d : Nat} {Φ : Option pe_V → pe_H → Prop} {σ : pe_H} {a0 : Nat} {o1 : Option pe_V} {o2 : Option pe_V} {o3 : Option pe_V} {a4 : Nat} {o5 : Option pe_V} (f_a0 : pk_Fm a0 σ := by assumption) (f_a4 : pk_Fo a4 σ := by assumption)   (k : pe_M d 39 [.inr (.inr a0), .inl 6, .inl (-1)] σ (fun r σ' => pe_X d 32 (245, [some (.inr (.inr a0)), o1, o2, o3, some (.inr (.inr a4)), o5], r.toList ++ [.inr (.inr a4), .inr (.inr a0)], σ') Φ)) : pe_X d 32 (235, [some (.inr (.inr a0)), o1, o2, o3, some (.inr (.inr a4)), o5], [], σ) Φ := by
  refine pe_blk 89 5 ck32 [] (242, [some (.inr (.inr a0)), o1, o2, o3, some (.inr (.inr a4)), o5], [.inl (-1), .inl 6, .inr (.inr a0), .inr (.inr a4), .inr (.inr a0)], σ) rfl ?_ ?_
  · exact trivial
  · try simp (disch := omega) only [pe_K_wI, pe_K_wR, pk_mK f_a0]
    have hrc : pe_K σ a0 = 2 := by first | assumption | (simp (disch := omega) only [pe_K_wI, pe_K_wR, pk_mK f_a0]; done) | (simp (disch := omega) only [pe_K_wI, pe_K_wR, pk_mK f_a0]; assumption)
    exact pe_cal 94 ck32 rfl rfl rfl ⟨hrc, by decide⟩ k
set_option maxRecDepth 8000 in
theorem b32_245 {d : Nat} {Φ : Option pe_V → pe_H → Prop} {σ : pe_H} {o0 : Option pe_V} {o1 : Option pe_V} {o2 : Option pe_V} {o3 : Option pe_V} {o4 : Option pe_V} {o5 : Option pe_V} {b0 : Nat} {b1 : Nat} {s2 : Int} (f_b0 : pk_Fm b0 σ := by assumption) (f_b1 : pk_Fo b1 σ := by assumption)   (k : pe_M d 40 [.inr (.inr b0), .inr (.inr b1), .inl s2] σ (fun r σ' => pe_X d 32 (248, [o0, o1, o2, o3, o4, o5], r.toList ++ [], σ') Φ)) : pe_X d 32 (245, [o0, o1, o2, o3, o4, o5], [.inl s2, .inr (.inr b1), .inr (.inr b0)], σ) Φ := by
  have hrc : pe_K σ b0 = 2 := by first | assumption | (simp (disch := omega) only [pe_K_wI, pe_K_wR, pk_mK f_b0]; done) | (simp (disch := omega) only [pe_K_wI, pe_K_wR, pk_mK f_b0]; assumption)
  exact pe_cal 95 ck32 rfl rfl rfl ⟨hrc, by decide⟩ k
set_option maxRecDepth 8000 in
theorem b32_248 {d : Nat} {Φ : Option pe_V → pe_H → Prop} {σ : pe_H} {o0 : Option pe_V} {o1 : Option pe_V} {o2 : Option pe_V} {o3 : Option pe_V} {o4 : Option pe_V} {o5 : Option pe_V}    (k : pe_X d 32 (288, [o0, o1, o2, o3, o4, o5], [], σ) Φ) : pe_X d 32 (248, [o0, o1, o2, o3, o4, o5], [], σ) Φ := by
  refine pe_blk 96 1 ck32 [] (288, [o0, o1, o2, o3, o4, o5], [], σ) rfl ?_ ?_
  · exact trivial
  · exact k
set_option maxRecDepth 8000 in
theorem b32_251 {d : Nat} {Φ : Option pe_V → pe_H → Prop} {σ : pe_H} {a0 : Nat} {o1 : Option pe_V} {o2 : Option pe_V} {x3 : Int} {a4 : Nat} {o5 : Option pe_V} (f_a0 : pk_Fm a0 σ := by assumption) (f_a4 : pk_Fo a4 σ := by assumption) (w0 : pe_in x3 := by unfold pe_in; omega) (h0 : 0 ≤ x3 := by first | assumption | omega) (h1 : x3 < 8 := by first | assumption | omega) (k : pe_M d 3 [.inr (.inr (pk_c a0 x3))] σ (fun r σ' => pe_X d 32 (260, [some (.inr (.inr a0)), o1, o2, some (.inl x3), some (.inr (.inr a4)), o5], r.toList ++ [], σ') Φ)) : pe_X d 32 (251, [some (.inr (.inr a0)), o1, o2, some (.inl x3), some (.inr (.inr a4)), o5], [], σ) Φ := by
  refine pe_blk 97 4 ck32 [pe_K σ a0 = 2, 12 ≤ pe_K σ (pe_R σ a0 1) ∧ pe_K σ (pe_R σ a0 1) < 19, 0 ≤ (pe_w x3), (pe_w x3) < pe_L σ (pe_R σ a0 1)] (257, [some (.inr (.inr a0)), o1, o2, some (.inl x3), some (.inr (.inr a4)), o5], [.inr (.inr (pe_R σ (pe_R σ a0 1) (pe_w x3)))], σ) rfl ?_ ?_
  · first
    | (simp (disch := omega) only [pe_all, pe_wi w0, pe_K_wI, pe_K_wR, pe_L_wI, pe_L_wR, pe_R_nej, pe_R_ner, pe_R_wI, pk_mE2 f_a0 (i := x3) (by omega) (by omega), pk_mK f_a0, pk_mK2 f_a0, pk_mL2 f_a0, pk_mR2 f_a0, pk_oK (pk_mO f_a0 (i := x3) (by omega) (by omega))]; done)
    | (simp (disch := omega) only [pe_all, pe_wi w0, pe_K_wI, pe_K_wR, pe_L_wI, pe_L_wR, pe_R_nej, pe_R_ner, pe_R_wI, pk_mE2 f_a0 (i := x3) (by omega) (by omega), pk_mK f_a0, pk_mK2 f_a0, pk_mL2 f_a0, pk_mR2 f_a0, pk_oK (pk_mO f_a0 (i := x3) (by omega) (by omega))]; (repeat' apply And.intro) <;> first | assumption | omega | decide)
  · try simp (disch := omega) only [pe_wi w0, pe_K_wI, pe_K_wR, pe_L_wI, pe_L_wR, pe_R_nej, pe_R_ner, pe_R_wI, pk_mE2 f_a0 (i := x3) (by omega) (by omega), pk_mK f_a0, pk_mK2 f_a0, pk_mL2 f_a0, pk_mR2 f_a0, pk_oK (pk_mO f_a0 (i := x3) (by omega) (by omega))]
    have hrc : pe_K σ (pk_c a0 x3) = 0 := by first | assumption | (simp (disch := omega) only [pe_wi w0, pe_K_wI, pe_K_wR, pe_L_wI, pe_L_wR, pe_R_nej, pe_R_ner, pe_R_wI, pk_mE2 f_a0 (i := x3) (by omega) (by omega), pk_mK f_a0, pk_mK2 f_a0, pk_mL2 f_a0, pk_mR2 f_a0, pk_oK (pk_mO f_a0 (i := x3) (by omega) (by omega))]; done) | (simp (disch := omega) only [pe_wi w0, pe_K_wI, pe_K_wR, pe_L_wI, pe_L_wR, pe_R_nej, pe_R_ner, pe_R_wI, pk_mE2 f_a0 (i := x3) (by omega) (by omega), pk_mK f_a0, pk_mK2 f_a0, pk_mL2 f_a0, pk_mR2 f_a0, pk_oK (pk_mO f_a0 (i := x3) (by omega) (by omega))]; assumption)
    exact pe_cal 101 ck32 rfl rfl rfl ⟨hrc, by decide⟩ k
set_option maxRecDepth 8000 in
theorem b32_260 {d : Nat} {Φ : Option pe_V → pe_H → Prop} {σ : pe_H} {a0 : Nat} {o1 : Option pe_V} {o2 : Option pe_V} {x3 : Int} {a4 : Nat} {o5 : Option pe_V} {s0 : Int} (f_a0 : pk_Fm a0 σ := by assumption) (f_a4 : pk_Fo a4 σ := by assumption) (w0 : pe_in s0 := by unfold pe_in; omega)  (k1 : s0 = 0 → pe_X d 32 (278, [some (.inr (.inr a0)), o1, o2, some (.inl x3), some (.inr (.inr a4)), o5], [], σ) Φ) (k2 : ¬ (s0 = 0) → pe_X d 32 (263, [some (.inr (.inr a0)), o1, o2, some (.inl x3), some (.inr (.inr a4)), o5], [], σ) Φ) : pe_X d 32 (260, [some (.inr (.inr a0)), o1, o2, some (.inl x3), some (.inr (.inr a4)), o5], [.inl s0], σ) Φ := by
  refine pe_blk 102 1 ck32 [] (cond (decide ((pe_w s0) = 0)) 278 263, [some (.inr (.inr a0)), o1, o2, some (.inl x3), some (.inr (.inr a4)), o5], [], σ) rfl ?_ ?_
  · exact trivial
  · try simp (disch := omega) only [pe_wi w0]
    exact pe_two k1 k2
set_option maxRecDepth 8000 in
theorem b32_263 {d : Nat} {Φ : Option pe_V → pe_H → Prop} {σ : pe_H} {a0 : Nat} {o1 : Option pe_V} {o2 : Option pe_V} {x3 : Int} {a4 : Nat} {o5 : Option pe_V} (f_a0 : pk_Fm a0 σ := by assumption) (f_a4 : pk_Fo a4 σ := by assumption) (w0 : pe_in x3 := by unfold pe_in; omega) (h0 : 0 ≤ x3 := by first | assumption | omega) (h1 : x3 < 8 := by first | assumption | omega) (k : pe_M d 36 [.inr (.inr a0), .inr (.inr a4), .inr (.inr (pk_c a0 x3))] σ (fun r σ' => pe_X d 32 (275, [some (.inr (.inr a0)), o1, o2, some (.inl x3), some (.inr (.inr a4)), o5], r.toList ++ [], σ') Φ)) : pe_X d 32 (263, [some (.inr (.inr a0)), o1, o2, some (.inl x3), some (.inr (.inr a4)), o5], [], σ) Φ := by
  refine pe_blk 103 6 ck32 [pe_K σ a0 = 2, 12 ≤ pe_K σ (pe_R σ a0 1) ∧ pe_K σ (pe_R σ a0 1) < 19, 0 ≤ (pe_w x3), (pe_w x3) < pe_L σ (pe_R σ a0 1)] (272, [some (.inr (.inr a0)), o1, o2, some (.inl x3), some (.inr (.inr a4)), o5], [.inr (.inr (pe_R σ (pe_R σ a0 1) (pe_w x3))), .inr (.inr a4), .inr (.inr a0)], σ) rfl ?_ ?_
  · first
    | (simp (disch := omega) only [pe_all, pe_wi w0, pe_K_wI, pe_K_wR, pe_L_wI, pe_L_wR, pe_R_nej, pe_R_ner, pe_R_wI, pk_mE2 f_a0 (i := x3) (by omega) (by omega), pk_mK f_a0, pk_mK2 f_a0, pk_mL2 f_a0, pk_mR2 f_a0]; done)
    | (simp (disch := omega) only [pe_all, pe_wi w0, pe_K_wI, pe_K_wR, pe_L_wI, pe_L_wR, pe_R_nej, pe_R_ner, pe_R_wI, pk_mE2 f_a0 (i := x3) (by omega) (by omega), pk_mK f_a0, pk_mK2 f_a0, pk_mL2 f_a0, pk_mR2 f_a0]; (repeat' apply And.intro) <;> first | assumption | omega | decide)
  · try simp (disch := omega) only [pe_wi w0, pe_K_wI, pe_K_wR, pe_L_wI, pe_L_wR, pe_R_nej, pe_R_ner, pe_R_wI, pk_mE2 f_a0 (i := x3) (by omega) (by omega), pk_mK f_a0, pk_mK2 f_a0, pk_mL2 f_a0, pk_mR2 f_a0]
    have hrc : pe_K σ a0 = 2 := by first | assumption | (simp (disch := omega) only [pe_wi w0, pe_K_wI, pe_K_wR, pe_L_wI, pe_L_wR, pe_R_nej, pe_R_ner, pe_R_wI, pk_mE2 f_a0 (i := x3) (by omega) (by omega), pk_mK f_a0, pk_mK2 f_a0, pk_mL2 f_a0, pk_mR2 f_a0]; done) | (simp (disch := omega) only [pe_wi w0, pe_K_wI, pe_K_wR, pe_L_wI, pe_L_wR, pe_R_nej, pe_R_ner, pe_R_wI, pk_mE2 f_a0 (i := x3) (by omega) (by omega), pk_mK f_a0, pk_mK2 f_a0, pk_mL2 f_a0, pk_mR2 f_a0]; assumption)
    exact pe_cal 109 ck32 rfl rfl rfl ⟨hrc, by decide⟩ k
set_option maxRecDepth 8000 in
theorem b32_275 {d : Nat} {Φ : Option pe_V → pe_H → Prop} {σ : pe_H} {o0 : Option pe_V} {o1 : Option pe_V} {o2 : Option pe_V} {o3 : Option pe_V} {o4 : Option pe_V} {o5 : Option pe_V}    (k : pe_X d 32 (288, [o0, o1, o2, o3, o4, o5], [], σ) Φ) : pe_X d 32 (275, [o0, o1, o2, o3, o4, o5], [], σ) Φ := by
  refine pe_blk 110 1 ck32 [] (288, [o0, o1, o2, o3, o4, o5], [], σ) rfl ?_ ?_
  · exact trivial
  · exact k
set_option maxRecDepth 8000 in
theorem b32_278 {d : Nat} {Φ : Option pe_V → pe_H → Prop} {σ : pe_H} {o0 : Option pe_V} {o1 : Option pe_V} {o2 : Option pe_V} {x3 : Int} {a4 : Nat} {o5 : Option pe_V} (f_a4 : pk_Fo a4 σ := by assumption)   (k : pe_M d 7 [.inr (.inr a4), .inl x3, .inl 5] σ (fun r σ' => pe_X d 32 (285, [o0, o1, o2, some (.inl x3), some (.inr (.inr a4)), o5], r.toList ++ [], σ') Φ)) : pe_X d 32 (278, [o0, o1, o2, some (.inl x3), some (.inr (.inr a4)), o5], [], σ) Φ := by
  refine pe_blk 111 3 ck32 [] (282, [o0, o1, o2, some (.inl x3), some (.inr (.inr a4)), o5], [.inl 5, .inl x3, .inr (.inr a4)], σ) rfl ?_ ?_
  · exact trivial
  · try simp (disch := omega) only [pe_K_wI, pe_K_wR, pk_oK f_a4]
    have hrc : pe_K σ a4 = 0 := by first | assumption | (simp (disch := omega) only [pe_K_wI, pe_K_wR, pk_oK f_a4]; done) | (simp (disch := omega) only [pe_K_wI, pe_K_wR, pk_oK f_a4]; assumption)
    exact pe_cal 114 ck32 rfl rfl rfl ⟨hrc, by decide⟩ k
set_option maxRecDepth 8000 in
theorem b32_285 {d : Nat} {Φ : Option pe_V → pe_H → Prop} {σ : pe_H} {o0 : Option pe_V} {o1 : Option pe_V} {o2 : Option pe_V} {o3 : Option pe_V} {o4 : Option pe_V} {o5 : Option pe_V}    (k : pe_X d 32 (288, [o0, o1, o2, o3, o4, o5], [], σ) Φ) : pe_X d 32 (285, [o0, o1, o2, o3, o4, o5], [], σ) Φ := by
  refine pe_blk 115 1 ck32 [] (288, [o0, o1, o2, o3, o4, o5], [], σ) rfl ?_ ?_
  · exact trivial
  · exact k
set_option maxRecDepth 8000 in
theorem b32_288 {d : Nat} {Φ : Option pe_V → pe_H → Prop} {σ : pe_H} {o0 : Option pe_V} {o1 : Option pe_V} {o2 : Option pe_V} {o3 : Option pe_V} {o4 : Option pe_V} {o5 : Option pe_V}    (k : Φ none σ) : pe_X d 32 (288, [o0, o1, o2, o3, o4, o5], [], σ) Φ := by
  exact pe_fine 116 ck32 rfl rfl rfl trivial k
-- StepMachines$Machine.goInto(LStepMachines$Coroutine;I)V
def T33 : List (Nat × Instr × Nat) := [(0, .aload_n 1, 1), (1, .getfield 148, 3), (4, .bipush 6, 2), (6, .if_icmp .lt 18, 3), (9, .aload_n 0, 1), (10, .aload_n 1, 1), (11, .aload_n 0, 1), (12, .bipush 7, 2), (14, .iconst (-1), 1), (15, .invokevirtual 184, 3), (18, .invokevirtual 187, 3), (21, .goto 52, 3), (24, .iload_n 2, 1), (25, .iconst 5, 1), (26, .if_icmp .lt 18, 3), (29, .aload_n 0, 1), (30, .aload_n 1, 1), (31, .aload_n 0, 1), (32, .bipush 6, 2), (34, .iconst (-1), 1), (35, .invokevirtual 184, 3), (38, .invokevirtual 187, 3), (41, .goto 32, 3), (44, .aload_n 1, 1), (45, .getfield 151, 3), (48, .aload_n 1, 1), (49, .getfield 148, 3), (52, .aaload, 1), (53, .aload_n 0, 1), (54, .getfield 11, 3), (57, .iload_n 2, 1), (58, .aaload, 1), (59, .iload_n 2, 1), (60, .invokevirtual 219, 3), (63, .aload_n 1, 1), (64, .dup, 1), (65, .getfield 148, 3), (68, .iconst 1, 1), (69, .iadd, 1), (70, .putfield 148, 3), (73, .return_, 1)]
theorem ck33 : pe_ctx 33 2 false none 3 T33 := ⟨rfl, rfl, rfl, rfl, by decide +kernel, by decide, by decide⟩
theorem b33_0 {d : Nat} {Φ : Option pe_V → pe_H → Prop} {σ : pe_H} {a0 : Nat} {a1 : Nat} {x2 : Int} (f_a0 : pk_Fm a0 σ := by assumption) (f_a1 : pk_Fo a1 σ := by assumption) (w0 : pe_in (pe_I σ a1 9) := by unfold pe_in; omega)  (k1 : (pe_I σ a1 9) < 6 → pe_X d 33 (24, [some (.inr (.inr a0)), some (.inr (.inr a1)), some (.inl x2)], [], σ) Φ) (k2 : ¬ ((pe_I σ a1 9) < 6) → pe_X d 33 (9, [some (.inr (.inr a0)), some (.inr (.inr a1)), some (.inl x2)], [], σ) Φ) : pe_X d 33 (0, [some (.inr (.inr a0)), some (.inr (.inr a1)), some (.inl x2)], [], σ) Φ := by
  refine pe_blk 0 4 ck33 [pe_K σ a1 = 0] (cond (decide ((pe_w (pe_I σ a1 9)) < (pe_w 6))) 24 9, [some (.inr (.inr a0)), some (.inr (.inr a1)), some (.inl x2)], [], σ) rfl ?_ ?_
  · first
    | (simp (disch := omega) only [pe_all, pe_wi w0, pe_wi (x := 6) ⟨by decide, by decide⟩, pe_K_wI, pe_K_wR, pk_oK f_a1]; done)
    | (simp (disch := omega) only [pe_all, pe_wi w0, pe_wi (x := 6) ⟨by decide, by decide⟩, pe_K_wI, pe_K_wR, pk_oK f_a1]; (repeat' apply And.intro) <;> first | assumption | omega | decide)
  · try simp (disch := omega) only [pe_wi w0, pe_wi (x := 6) ⟨by decide, by decide⟩, pe_K_wI, pe_K_wR, pk_oK f_a1]
    exact pe_two k1 k2
theorem b33_9 {d : Nat} {Φ : Option pe_V → pe_H → Prop} {σ : pe_H} {a0 : Nat} {a1 : Nat} {o2 : Option pe_V} (f_a0 : pk_Fm a0 σ := by assumption) (f_a1 : pk_Fo a1 σ := by assumption)   (k : pe_M d 39 [.inr (.inr a0), .inl 7, .inl (-1)] σ (fun r σ' => pe_X d 33 (18, [some (.inr (.inr a0)), some (.inr (.inr a1)), o2], r.toList ++ [.inr (.inr a1), .inr (.inr a0)], σ') Φ)) : pe_X d 33 (9, [some (.inr (.inr a0)), some (.inr (.inr a1)), o2], [], σ) Φ := by
  refine pe_blk 4 5 ck33 [] (15, [some (.inr (.inr a0)), some (.inr (.inr a1)), o2], [.inl (-1), .inl 7, .inr (.inr a0), .inr (.inr a1), .inr (.inr a0)], σ) rfl ?_ ?_
  · exact trivial
  · try simp (disch := omega) only [pe_K_wI, pe_K_wR, pk_mK f_a0]
    have hrc : pe_K σ a0 = 2 := by first | assumption | (simp (disch := omega) only [pe_K_wI, pe_K_wR, pk_mK f_a0]; done) | (simp (disch := omega) only [pe_K_wI, pe_K_wR, pk_mK f_a0]; assumption)
    exact pe_cal 9 ck33 rfl rfl rfl ⟨hrc, by decide⟩ k
theorem b33_18 {d : Nat} {Φ : Option pe_V → pe_H → Prop} {σ : pe_H} {o0 : Option pe_V} {o1 : Option pe_V} {o2 : Option pe_V} {b0 : Nat} {b1 : Nat} {s2 : Int} (f_b0 : pk_Fm b0 σ := by assumption) (f_b1 : pk_Fo b1 σ := by assumption)   (k : pe_M d 40 [.inr (.inr b0), .inr (.inr b1), .inl s2] σ (fun r σ' => pe_X d 33 (21, [o0, o1, o2], r.toList ++ [], σ') Φ)) : pe_X d 33 (18, [o0, o1, o2], [.inl s2, .inr (.inr b1), .inr (.inr b0)], σ) Φ := by
  have hrc : pe_K σ b0 = 2 := by first | assumption | (simp (disch := omega) only [pe_K_wI, pe_K_wR, pk_mK f_b0]; done) | (simp (disch := omega) only [pe_K_wI, pe_K_wR, pk_mK f_b0]; assumption)
  exact pe_cal 10 ck33 rfl rfl rfl ⟨hrc, by decide⟩ k
theorem b33_21 {d : Nat} {Φ : Option pe_V → pe_H → Prop} {σ : pe_H} {o0 : Option pe_V} {o1 : Option pe_V} {o2 : Option pe_V}    (k : pe_X d 33 (73, [o0, o1, o2], [], σ) Φ) : pe_X d 33 (21, [o0, o1, o2], [], σ) Φ := by
  refine pe_blk 11 1 ck33 [] (73, [o0, o1, o2], [], σ) rfl ?_ ?_
  · exact trivial
  · exact k
theorem b33_24 {d : Nat} {Φ : Option pe_V → pe_H → Prop} {σ : pe_H} {a0 : Nat} {a1 : Nat} {x2 : Int} (f_a0 : pk_Fm a0 σ := by assumption) (f_a1 : pk_Fo a1 σ := by assumption) (w0 : pe_in x2 := by unfold pe_in; omega)  (k1 : x2 < 5 → pe_X d 33 (44, [some (.inr (.inr a0)), some (.inr (.inr a1)), some (.inl x2)], [], σ) Φ) (k2 : ¬ (x2 < 5) → pe_X d 33 (29, [some (.inr (.inr a0)), some (.inr (.inr a1)), some (.inl x2)], [], σ) Φ) : pe_X d 33 (24, [some (.inr (.inr a0)), some (.inr (.inr a1)), some (.inl x2)], [], σ) Φ := by
  refine pe_blk 12 3 ck33 [] (cond (decide ((pe_w x2) < (pe_w 5))) 44 29, [some (.inr (.inr a0)), some (.inr (.inr a1)), some (.inl x2)], [], σ) rfl ?_ ?_
  · exact trivial
  · try simp (disch := omega) only [pe_wi w0, pe_wi (x := 5) ⟨by decide, by decide⟩]
    exact pe_two k1 k2
theorem b33_29 {d : Nat} {Φ : Option pe_V → pe_H → Prop} {σ : pe_H} {a0 : Nat} {a1 : Nat} {o2 : Option pe_V} (f_a0 : pk_Fm a0 σ := by assumption) (f_a1 : pk_Fo a1 σ := by assumption)   (k : pe_M d 39 [.inr (.inr a0), .inl 6, .inl (-1)] σ (fun r σ' => pe_X d 33 (38, [some (.inr (.inr a0)), some (.inr (.inr a1)), o2], r.toList ++ [.inr (.inr a1), .inr (.inr a0)], σ') Φ)) : pe_X d 33 (29, [some (.inr (.inr a0)), some (.inr (.inr a1)), o2], [], σ) Φ := by
  refine pe_blk 15 5 ck33 [] (35, [some (.inr (.inr a0)), some (.inr (.inr a1)), o2], [.inl (-1), .inl 6, .inr (.inr a0), .inr (.inr a1), .inr (.inr a0)], σ) rfl ?_ ?_
  · exact trivial
  · try simp (disch := omega) only [pe_K_wI, pe_K_wR, pk_mK f_a0]
    have hrc : pe_K σ a0 = 2 := by first | assumption | (simp (disch := omega) only [pe_K_wI, pe_K_wR, pk_mK f_a0]; done) | (simp (disch := omega) only [pe_K_wI, pe_K_wR, pk_mK f_a0]; assumption)
    exact pe_cal 20 ck33 rfl rfl rfl ⟨hrc, by decide⟩ k
theorem b33_38 {d : Nat} {Φ : Option pe_V → pe_H → Prop} {σ : pe_H} {o0 : Option pe_V} {o1 : Option pe_V} {o2 : Option pe_V} {b0 : Nat} {b1 : Nat} {s2 : Int} (f_b0 : pk_Fm b0 σ := by assumption) (f_b1 : pk_Fo b1 σ := by assumption)   (k : pe_M d 40 [.inr (.inr b0), .inr (.inr b1), .inl s2] σ (fun r σ' => pe_X d 33 (41, [o0, o1, o2], r.toList ++ [], σ') Φ)) : pe_X d 33 (38, [o0, o1, o2], [.inl s2, .inr (.inr b1), .inr (.inr b0)], σ) Φ := by
  have hrc : pe_K σ b0 = 2 := by first | assumption | (simp (disch := omega) only [pe_K_wI, pe_K_wR, pk_mK f_b0]; done) | (simp (disch := omega) only [pe_K_wI, pe_K_wR, pk_mK f_b0]; assumption)
  exact pe_cal 21 ck33 rfl rfl rfl ⟨hrc, by decide⟩ k
theorem b33_41 {d : Nat} {Φ : Option pe_V → pe_H → Prop} {σ : pe_H} {o0 : Option pe_V} {o1 : Option pe_V} {o2 : Option pe_V}    (k : pe_X d 33 (73, [o0, o1, o2], [], σ) Φ) : pe_X d 33 (41, [o0, o1, o2], [], σ) Φ := by
  refine pe_blk 22 1 ck33 [] (73, [o0, o1, o2], [], σ) rfl ?_ ?_
  · exact trivial
  · exact k
theorem b33_44 {d : Nat} {Φ : Option pe_V → pe_H → Prop} {σ : pe_H} {a0 : Nat} {a1 : Nat} {x2 : Int} (f_a0 : pk_Fm a0 σ := by assumption) (f_a1 : pk_Fo a1 σ := by assumption) (w0 : pe_in (pe_I σ a1 9) := by unfold pe_in; omega) (w1 : pe_in x2 := by unfold pe_in; omega) (h0 : 0 ≤ (pe_I σ a1 9) := by first | assumption | omega) (h1 : (pe_I σ a1 9) < 6 := by first | assumption | omega) (h2 : 0 ≤ x2 := by first | assumption | omega) (h3 : x2 < 5 := by first | assumption | omega) (k : pe_M d 12 [.inr (.inr (pk_f a1 (pe_I σ a1 9))), .inr (.inr (pe_R σ (a0 + 1) x2)), .inl x2] σ (fun r σ' => pe_X d 33 (63, [some (.inr (.inr a0)), some (.inr (.inr a1)), some (.inl x2)], r.toList ++ [], σ') Φ)) : pe_X d 33 (44, [some (.inr (.inr a0)), some (.inr (.inr a1)), some (.inl x2)], [], σ) Φ := by
  refine pe_blk 23 10 ck33 [pe_K σ a1 = 0, pe_K σ a1 = 0, 12 ≤ pe_K σ (pe_R σ a1 10) ∧ pe_K σ (pe_R σ a1 10) < 19, 0 ≤ (pe_w (pe_I σ a1 9)), (pe_w (pe_I σ a1 9)) < pe_L σ (pe_R σ a1 10), pe_K σ a0 = 2, 12 ≤ pe_K σ (pe_R σ a0 0) ∧ pe_K σ (pe_R σ a0 0) < 19, 0 ≤ (pe_w x2), (pe_w x2) < pe_L σ (pe_R σ a0 0)] (60, [some (.inr (.inr a0)), some (.inr (.inr a1)), some (.inl x2)], [.inl x2, .inr (.inr (pe_R σ (pe_R σ a0 0) (pe_w x2))), .inr (.inr (pe_R σ (pe_R σ a1 10) (pe_w (pe_I σ a1 9))))], σ) rfl ?_ ?_
  · first
    | (simp (disch := omega) only [pe_all, pe_wi w0, pe_wi w1, pe_K_wI, pe_K_wR, pe_L_wI, pe_L_wR, pe_R_nej, pe_R_ner, pe_R_wI, pk_mK f_a0, pk_mK1 f_a0, pk_mL1 f_a0, pk_mR1 f_a0, pk_oE f_a1 (i := pe_I σ a1 9) (by omega) (by omega), pk_oEK f_a1 (i := pe_I σ a1 9) (by omega) (by omega), pk_oK f_a1, pk_oK1 f_a1, pk_oL1 f_a1, pk_oR f_a1]; done)
    | (simp (disch := omega) only [pe_all, pe_wi w0, pe_wi w1, pe_K_wI, pe_K_wR, pe_L_wI, pe_L_wR, pe_R_nej, pe_R_ner, pe_R_wI, pk_mK f_a0, pk_mK1 f_a0, pk_mL1 f_a0, pk_mR1 f_a0, pk_oE f_a1 (i := pe_I σ a1 9) (by omega) (by omega), pk_oEK f_a1 (i := pe_I σ a1 9) (by omega) (by omega), pk_oK f_a1, pk_oK1 f_a1, pk_oL1 f_a1, pk_oR f_a1]; (repeat' apply And.intro) <;> first | assumption | omega | decide)
  · try simp (disch := omega) only [pe_wi w0, pe_wi w1, pe_K_wI, pe_K_wR, pe_L_wI, pe_L_wR, pe_R_nej, pe_R_ner, pe_R_wI, pk_mK f_a0, pk_mK1 f_a0, pk_mL1 f_a0, pk_mR1 f_a0, pk_oE f_a1 (i := pe_I σ a1 9) (by omega) (by omega), pk_oEK f_a1 (i := pe_I σ a1 9) (by omega) (by omega), pk_oK f_a1, pk_oK1 f_a1, pk_oL1 f_a1, pk_oR f_a1]
    have hrc : pe_K σ (pk_f a1 (pe_I σ a1 9)) = 1 := by first | assumption | (simp (disch := omega) only [pe_wi w0, pe_wi w1, pe_K_wI, pe_K_wR, pe_L_wI, pe_L_wR, pe_R_nej, pe_R_ner, pe_R_wI, pk_mK f_a0, pk_mK1 f_a0, pk_mL1 f_a0, pk_mR1 f_a0, pk_oE f_a1 (i := pe_I σ a1 9) (by omega) (by omega), pk_oEK f_a1 (i := pe_I σ a1 9) (by omega) (by omega), pk_oK f_a1, pk_oK1 f_a1, pk_oL1 f_a1, pk_oR f_a1]; done) | (simp (disch := omega) only [pe_wi w0, pe_wi w1, pe_K_wI, pe_K_wR, pe_L_wI, pe_L_wR, pe_R_nej, pe_R_ner, pe_R_wI, pk_mK f_a0, pk_mK1 f_a0, pk_mL1 f_a0, pk_mR1 f_a0, pk_oE f_a1 (i := pe_I σ a1 9) (by omega) (by omega), pk_oEK f_a1 (i := pe_I σ a1 9) (by omega) (by omega), pk_oK f_a1, pk_oK1 f_a1, pk_oL1 f_a1, pk_oR f_a1]; assumption)
    exact pe_cal 33 ck33 rfl rfl rfl ⟨hrc, by decide⟩ k
theorem b33_63 {d : Nat} {Φ : Option pe_V → pe_H → Prop} {σ : pe_H} {o0 : Option pe_V} {a1 : Nat} {o2 : Option pe_V} (f_a1 : pk_Fo a1 σ := by assumption)   (k : pe_X d 33 (73, [o0, some (.inr (.inr a1)), o2], [], pe_wI σ a1 9 ((pe_I σ a1 9) + 1)) Φ) : pe_X d 33 (63, [o0, some (.inr (.inr a1)), o2], [], σ) Φ := by
  refine pe_blk 34 6 ck33 [pe_K σ a1 = 0, pe_K σ a1 = 0] (73, [o0, some (.inr (.inr a1)), o2], [], pe_wI σ a1 9 ((pe_I σ a1 9) + 1)) rfl ?_ ?_
  · first
    | (simp (disch := omega) only [pe_all, pe_K_wI, pe_K_wR, pk_oK f_a1]; done)
    | (simp (disch := omega) only [pe_all, pe_K_wI, pe_K_wR, pk_oK f_a1]; (repeat' apply And.intro) <;> first | assumption | omega | decide)
  · try simp (disch := omega) only [pe_K_wI, pe_K_wR, pk_oK f_a1]
    exact k
theorem b33_73 {d : Nat} {Φ : Option pe_V → pe_H → Prop} {σ : pe_H} {o0 : Option pe_V} {o1 : Option pe_V} {o2 : Option pe_V}    (k : Φ none σ) : pe_X d 33 (73, [o0, o1, o2], [], σ) Φ := by
  exact pe_fine 40 ck33 rfl rfl rfl trivial k
-- StepMachines$Machine.sendAt(II)V
def T34 : List (Nat × Instr × Nat) := [(0, .aload_n 0, 1), (1, .getfield 19, 3), (4, .iload_n 1, 1), (5, .aaload, 1), (6, .astore_n 3, 1), (7, .iload_n 2, 1), (8, .iconst 3, 1), (9, .if_icmp .lt 18, 3), (12, .aload_n 0, 1), (13, .aload_n 3, 1), (14, .aload_n 0, 1), (15, .bipush 6, 2), (17, .iconst (-1), 1), (18, .invokevirtual 184, 3), (21, .invokevirtual 187, 3), (24, .goto 86, 3), (27, .aload_n 0, 1), (28, .getfield 29, 3), (31, .iload_n 2, 1), (32, .aaload, 1), (33, .getfield 222, 3), (36, .ifCond .le 58, 3), (39, .aload_n 0, 1), (40, .getfield 19, 3), (43, .aload_n 0, 1), (44, .getfield 29, 3), (47, .iload_n 2, 1), (48, .aaload, 1), (49, .getfield 225, 3), (52, .iconst 0, 1), (53, .iaload, 1), (54, .aaload, 1), (55, .astore 4, 2), (57, .aload_n 0, 1), (58, .getfield 29, 3), (61, .iload_n 2, 1), (62, .aaload, 1), (63, .aload_n 0, 1), (64, .getfield 29, 3), (67, .iload_n 2, 1), (68, .aaload, 1), (69, .getfield 225, 3), (72, .iconst 0, 1), (73, .iaload, 1), (74, .invokevirtual 107, 3), (77, .aload 4, 2), (79, .aload_n 3, 1), (80, .getfield 177, 3), (83, .putfield 177, 3), (86, .aload 4, 2), (88, .invokevirtual 110, 3), (91, .goto 19, 3), (94, .aload_n 0, 1), (95, .getfield 25, 3), (98, .iload_n 2, 1), (99, .aaload, 1), (100, .iload_n 1, 1), (101, .invokevirtual 228, 3), (104, .aload_n 3, 1), (105, .iload_n 2, 1), (106, .iconst 3, 1), (107, .invokevirtual 216, 3), (110, .return_, 1)]
theorem ck34 : pe_ctx 34 2 false none 5 T34 := ⟨rfl, rfl, rfl, rfl, by decide +kernel, by decide, by decide⟩
theorem b34_0 {d : Nat} {Φ : Option pe_V → pe_H → Prop} {σ : pe_H} {a0 : Nat} {x1 : Int} {x2 : Int} {o3 : Option pe_V} {o4 : Option pe_V} (f_a0 : pk_Fm a0 σ := by assumption) (w0 : pe_in x1 := by unfold pe_in; omega) (w1 : pe_in x2 := by unfold pe_in; omega) (h0 : 0 ≤ x1 := by first | assumption | omega) (h1 : x1 < 8 := by first | assumption | omega) (k1 : x2 < 3 → pe_X d 34 (27, [some (.inr (.inr a0)), some (.inl x1), some (.inl x2), some (.inr (.inr (pk_c a0 x1))), o4], [], σ) Φ) (k2 : ¬ (x2 < 3) → pe_X d 34 (12, [some (.inr (.inr a0)), some (.inl x1), some (.inl x2), some (.inr (.inr (pk_c a0 x1))), o4], [], σ) Φ) : pe_X d 34 (0, [some (.inr (.inr a0)), some (.inl x1), some (.inl x2), o3, o4], [], σ) Φ := by
  refine pe_blk 0 8 ck34 [pe_K σ a0 = 2, 12 ≤ pe_K σ (pe_R σ a0 1) ∧ pe_K σ (pe_R σ a0 1) < 19, 0 ≤ (pe_w x1), (pe_w x1) < pe_L σ (pe_R σ a0 1)] (cond (decide ((pe_w x2) < (pe_w 3))) 27 12, [some (.inr (.inr a0)), some (.inl x1), some (.inl x2), some (.inr (.inr (pe_R σ (pe_R σ a0 1) (pe_w x1)))), o4], [], σ) rfl ?_ ?_
  · first
    | (simp (disch := omega) only [pe_all, pe_wi w0, pe_wi w1, pe_wi (x := 3) ⟨by decide, by decide⟩, pe_K_wI, pe_K_wR, pe_L_wI, pe_L_wR, pe_R_nej, pe_R_ner, pe_R_wI, pk_mE2 f_a0 (i := x1) (by omega) (by omega), pk_mK f_a0, pk_mK2 f_a0, pk_mL2 f_a0, pk_mR2 f_a0]; done)
    | (simp (disch := omega) only [pe_all, pe_wi w0, pe_wi w1, pe_wi (x := 3) ⟨by decide, by decide⟩, pe_K_wI, pe_K_wR, pe_L_wI, pe_L_wR, pe_R_nej, pe_R_ner, pe_R_wI, pk_mE2 f_a0 (i := x1) (by omega) (by omega), pk_mK f_a0, pk_mK2 f_a0, pk_mL2 f_a0, pk_mR2 f_a0]; (repeat' apply And.intro) <;> first | assumption | omega | decide)
  · try simp (disch := omega) only [pe_wi w0, pe_wi w1, pe_wi (x := 3) ⟨by decide, by decide⟩, pe_K_wI, pe_K_wR, pe_L_wI, pe_L_wR, pe_R_nej, pe_R_ner, pe_R_wI, pk_mE2 f_a0 (i := x1) (by omega) (by omega), pk_mK f_a0, pk_mK2 f_a0, pk_mL2 f_a0, pk_mR2 f_a0]
    exact pe_two k1 k2
theorem b34_12 {d : Nat} {Φ : Option pe_V → pe_H → Prop} {σ : pe_H} {a0 : Nat} {o1 : Option pe_V} {o2 : Option pe_V} {a3 : Nat} {o4 : Option pe_V} (f_a0 : pk_Fm a0 σ := by assumption) (f_a3 : pk_Fo a3 σ := by assumption)   (k : pe_M d 39 [.inr (.inr a0), .inl 6, .inl (-1)] σ (fun r σ' => pe_X d 34 (21, [some (.inr (.inr a0)), o1, o2, some (.inr (.inr a3)), o4], r.toList ++ [.inr (.inr a3), .inr (.inr a0)], σ') Φ)) : pe_X d 34 (12, [some (.inr (.inr a0)), o1, o2, some (.inr (.inr a3)), o4], [], σ) Φ := by
  refine pe_blk 8 5 ck34 [] (18, [some (.inr (.inr a0)), o1, o2, some (.inr (.inr a3)), o4], [.inl (-1), .inl 6, .inr (.inr a0), .inr (.inr a3), .inr (.inr a0)], σ) rfl ?_ ?_
  · exact trivial
  · try simp (disch := omega) only [pe_K_wI, pe_K_wR, pk_mK f_a0]
    have hrc : pe_K σ a0 = 2 := by first | assumption | (simp (disch := omega) only [pe_K_wI, pe_K_wR, pk_mK f_a0]; done) | (simp (disch := omega) only [pe_K_wI, pe_K_wR, pk_mK f_a0]; assumption)
    exact pe_cal 13 ck34 rfl rfl rfl ⟨hrc, by decide⟩ k
theorem b34_21 {d : Nat} {Φ : Option pe_V → pe_H → Prop} {σ : pe_H} {o0 : Option pe_V} {o1 : Option pe_V} {o2 : Option pe_V} {o3 : Option pe_V} {o4 : Option pe_V} {b0 : Nat} {b1 : Nat} {s2 : Int} (f_b0 : pk_Fm b0 σ := by assumption) (f_b1 : pk_Fo b1 σ := by assumption)   (k : pe_M d 40 [.inr (.inr b0), .inr (.inr b1), .inl s2] σ (fun r σ' => pe_X d 34 (24, [o0, o1, o2, o3, o4], r.toList ++ [], σ') Φ)) : pe_X d 34 (21, [o0, o1, o2, o3, o4], [.inl s2, .inr (.inr b1), .inr (.inr b0)], σ) Φ := by
  have hrc : pe_K σ b0 = 2 := by first | assumption | (simp (disch := omega) only [pe_K_wI, pe_K_wR, pk_mK f_b0]; done) | (simp (disch := omega) only [pe_K_wI, pe_K_wR, pk_mK f_b0]; assumption)
  exact pe_cal 14 ck34 rfl rfl rfl ⟨hrc, by decide⟩ k
theorem b34_24 {d : Nat} {Φ : Option pe_V → pe_H → Prop} {σ : pe_H} {o0 : Option pe_V} {o1 : Option pe_V} {o2 : Option pe_V} {o3 : Option pe_V} {o4 : Option pe_V}    (k : pe_X d 34 (110, [o0, o1, o2, o3, o4], [], σ) Φ) : pe_X d 34 (24, [o0, o1, o2, o3, o4], [], σ) Φ := by
  refine pe_blk 15 1 ck34 [] (110, [o0, o1, o2, o3, o4], [], σ) rfl ?_ ?_
  · exact trivial
  · exact k
theorem b34_27 {d : Nat} {Φ : Option pe_V → pe_H → Prop} {σ : pe_H} {a0 : Nat} {x1 : Int} {x2 : Int} {a3 : Nat} {o4 : Option pe_V} (f_a0 : pk_Fm a0 σ := by assumption) (f_a3 : pk_Fo a3 σ := by assumption) (w0 : pe_in x2 := by unfold pe_in; omega) (w1 : pe_in (pe_I σ (pk_g a0 x2) 1) := by unfold pe_in; omega) (h0 : 0 ≤ x2 := by first | assumption | omega) (h1 : x2 < 3 := by first | assumption | omega) (k1 : (pe_I σ (pk_g a0 x2) 1) ≤ 0 → pe_X d 34 (94, [some (.inr (.inr a0)), some (.inl x1), some (.inl x2), some (.inr (.inr a3)), o4], [], σ) Φ) (k2 : ¬ ((pe_I σ (pk_g a0 x2) 1) ≤ 0) → pe_X d 34 (39, [some (.inr (.inr a0)), some (.inl x1), some (.inl x2), some (.inr (.inr a3)), o4], [], σ) Φ) : pe_X d 34 (27, [some (.inr (.inr a0)), some (.inl x1), some (.inl x2), some (.inr (.inr a3)), o4], [], σ) Φ := by
  refine pe_blk 16 6 ck34 [pe_K σ a0 = 2, 12 ≤ pe_K σ (pe_R σ a0 3) ∧ pe_K σ (pe_R σ a0 3) < 19, 0 ≤ (pe_w x2), (pe_w x2) < pe_L σ (pe_R σ a0 3), pe_K σ (pe_R σ (pe_R σ a0 3) (pe_w x2)) = 5] (cond (decide ((pe_w (pe_I σ (pe_R σ (pe_R σ a0 3) (pe_w x2)) 1)) ≤ 0)) 94 39, [some (.inr (.inr a0)), some (.inl x1), some (.inl x2), some (.inr (.inr a3)), o4], [], σ) rfl ?_ ?_
  · first
    | (simp (disch := omega) only [pe_all, pe_wi w0, pe_wi w1, pe_K_wI, pe_K_wR, pe_L_wI, pe_L_wR, pe_R_nej, pe_R_ner, pe_R_wI, pk_mE4 f_a0 (i := x2) (by omega) (by omega), pk_mK f_a0, pk_mK4 f_a0, pk_mL4 f_a0, pk_mR4 f_a0, pk_qK (pk_mG f_a0 (i := x2) (by omega) (by omega))]; done)
    | (simp (disch := omega) only [pe_all, pe_wi w0, pe_wi w1, pe_K_wI, pe_K_wR, pe_L_wI, pe_L_wR, pe_R_nej, pe_R_ner, pe_R_wI, pk_mE4 f_a0 (i := x2) (by omega) (by omega), pk_mK f_a0, pk_mK4 f_a0, pk_mL4 f_a0, pk_mR4 f_a0, pk_qK (pk_mG f_a0 (i := x2) (by omega) (by omega))]; (repeat' apply And.intro) <;> first | assumption | omega | decide)
  · try simp (disch := omega) only [pe_wi w0, pe_wi w1, pe_K_wI, pe_K_wR, pe_L_wI, pe_L_wR, pe_R_nej, pe_R_ner, pe_R_wI, pk_mE4 f_a0 (i := x2) (by omega) (by omega), pk_mK f_a0, pk_mK4 f_a0, pk_mL4 f_a0, pk_mR4 f_a0, pk_qK (pk_mG f_a0 (i := x2) (by omega) (by omega))]
    exact pe_two k1 k2
set_option maxHeartbeats 8000000 in
theorem b34_39 {d : Nat} {Φ : Option pe_V → pe_H → Prop} {σ : pe_H} {a0 : Nat} {o1 : Option pe_V} {x2 : Int} {a3 : Nat} {o4 : Option pe_V} (f_a0 : pk_Fm a0 σ := by assumption) (f_a3 : pk_Fo a3 σ := by assumption) (w0 : pe_in x2 := by unfold pe_in; omega) (w1 : pe_in (pe_I σ ((pk_g a0 x2) + 1) 0) := by unfold pe_in; omega) (h0 : 0 ≤ x2 := by first | assumption | omega) (h1 : x2 < 3 := by first | assumption | omega) (h2 : 0 ≤ (pe_I σ ((pk_g a0 x2) + 1) 0) := by first | assumption | omega) (h3 : (pe_I σ ((pk_g a0 x2) + 1) 0) < 8 := by first | assumption | omega) (k : pe_M d 55 [.inr (.inr (pk_g a0 x2)), .inl (pe_I σ ((pk_g a0 x2) + 1) 0)] σ (fun r σ' => pe_X d 34 (77, [some (.inr (.inr a0)), o1, some (.inl x2), some (.inr (.inr a3)), some (.inr (.inr (pk_c a0 (pe_I σ ((pk_g a0 x2) + 1) 0))))], r.toList ++ [], σ') Φ)) : pe_X d 34 (39, [some (.inr (.inr a0)), o1, some (.inl x2), some (.inr (.inr a3)), o4], [], σ) Φ := by
  refine pe_blk 22 22 ck34 [pe_K σ a0 = 2, pe_K σ a0 = 2, 12 ≤ pe_K σ (pe_R σ a0 3) ∧ pe_K σ (pe_R σ a0 3) < 19, 0 ≤ (pe_w x2), (pe_w x2) < pe_L σ (pe_R σ a0 3), pe_K σ (pe_R σ (pe_R σ a0 3) (pe_w x2)) = 5, pe_K σ (pe_R σ (pe_R σ (pe_R σ a0 3) (pe_w x2)) 0) = 10, 0 ≤ (pe_w 0), (pe_w 0) < pe_L σ (pe_R σ (pe_R σ (pe_R σ a0 3) (pe_w x2)) 0), 12 ≤ pe_K σ (pe_R σ a0 1) ∧ pe_K σ (pe_R σ a0 1) < 19, 0 ≤ (pe_w (pe_I σ (pe_R σ (pe_R σ (pe_R σ a0 3) (pe_w x2)) 0) (pe_w 0))), (pe_w (pe_I σ (pe_R σ (pe_R σ (pe_R σ a0 3) (pe_w x2)) 0) (pe_w 0))) < pe_L σ (pe_R σ a0 1), pe_K σ a0 = 2, 12 ≤ pe_K σ (pe_R σ a0 3) ∧ pe_K σ (pe_R σ a0 3) < 19, 0 ≤ (pe_w x2), (pe_w x2) < pe_L σ (pe_R σ a0 3), pe_K σ a0 = 2, 12 ≤ pe_K σ (pe_R σ a0 3) ∧ pe_K σ (pe_R σ a0 3) < 19, 0 ≤ (pe_w x2), (pe_w x2) < pe_L σ (pe_R σ a0 3), pe_K σ (pe_R σ (pe_R σ a0 3) (pe_w x2)) = 5, pe_K σ (pe_R σ (pe_R σ (pe_R σ a0 3) (pe_w x2)) 0) = 10, 0 ≤ (pe_w 0), (pe_w 0) < pe_L σ (pe_R σ (pe_R σ (pe_R σ a0 3) (pe_w x2)) 0)] (74, [some (.inr (.inr a0)), o1, some (.inl x2), some (.inr (.inr a3)), some (.inr (.inr (pe_R σ (pe_R σ a0 1) (pe_w (pe_I σ (pe_R σ (pe_R σ (pe_R σ a0 3) (pe_w x2)) 0) (pe_w 0))))))], [.inl (pe_I σ (pe_R σ (pe_R σ (pe_R σ a0 3) (pe_w x2)) 0) (pe_w 0)), .inr (.inr (pe_R σ (pe_R σ a0 3) (pe_w x2)))], σ) rfl ?_ ?_
  · first
    | (simp (disch := omega) only [pe_all, pe_wi w0, pe_wi w1, pe_wi (x := 0) ⟨by decide, by decide⟩, pe_K_wI, pe_K_wR, pe_L_wI, pe_L_wR, pe_R_nej, pe_R_ner, pe_R_wI, pk_mE2 f_a0 (i := pe_I σ ((pk_g a0 x2) + 1) 0) (by omega) (by omega), pk_mE4 f_a0 (i := x2) (by omega) (by omega), pk_mK f_a0, pk_mK2 f_a0, pk_mK4 f_a0, pk_mL2 f_a0, pk_mL4 f_a0, pk_mR2 f_a0, pk_mR4 f_a0, pk_qK (pk_mG f_a0 (i := x2) (by omega) (by omega)), pk_qK1 (pk_mG f_a0 (i := x2) (by omega) (by omega)), pk_qL1 (pk_mG f_a0 (i := x2) (by omega) (by omega)), pk_qR (pk_mG f_a0 (i := x2) (by omega) (by omega))]; done)
    | (simp (disch := omega) only [pe_all, pe_wi w0, pe_wi w1, pe_wi (x := 0) ⟨by decide, by decide⟩, pe_K_wI, pe_K_wR, pe_L_wI, pe_L_wR, pe_R_nej, pe_R_ner, pe_R_wI, pk_mE2 f_a0 (i := pe_I σ ((pk_g a0 x2) + 1) 0) (by omega) (by omega), pk_mE4 f_a0 (i := x2) (by omega) (by omega), pk_mK f_a0, pk_mK2 f_a0, pk_mK4 f_a0, pk_mL2 f_a0, pk_mL4 f_a0, pk_mR2 f_a0, pk_mR4 f_a0, pk_qK (pk_mG f_a0 (i := x2) (by omega) (by omega)), pk_qK1 (pk_mG f_a0 (i := x2) (by omega) (by omega)), pk_qL1 (pk_mG f_a0 (i := x2) (by omega) (by omega)), pk_qR (pk_mG f_a0 (i := x2) (by omega) (by omega))]; (repeat' apply And.intro) <;> first | assumption | omega | decide)
  · try simp (disch := omega) only [pe_wi w0, pe_wi w1, pe_wi (x := 0) ⟨by decide, by decide⟩, pe_K_wI, pe_K_wR, pe_L_wI, pe_L_wR, pe_R_nej, pe_R_ner, pe_R_wI, pk_mE2 f_a0 (i := pe_I σ ((pk_g a0 x2) + 1) 0) (by omega) (by omega), pk_mE4 f_a0 (i := x2) (by omega) (by omega), pk_mK f_a0, pk_mK2 f_a0, pk_mK4 f_a0, pk_mL2 f_a0, pk_mL4 f_a0, pk_mR2 f_a0, pk_mR4 f_a0, pk_qK (pk_mG f_a0 (i := x2) (by omega) (by omega)), pk_qK1 (pk_mG f_a0 (i := x2) (by omega) (by omega)), pk_qL1 (pk_mG f_a0 (i := x2) (by omega) (by omega)), pk_qR (pk_mG f_a0 (i := x2) (by omega) (by omega))]
    have hrc : pe_K σ (pk_g a0 x2) = 5 := by first | assumption | (simp (disch := omega) only [pe_wi w0, pe_wi w1, pe_wi (x := 0) ⟨by decide, by decide⟩, pe_K_wI, pe_K_wR, pe_L_wI, pe_L_wR, pe_R_nej, pe_R_ner, pe_R_wI, pk_mE2 f_a0 (i := pe_I σ ((pk_g a0 x2) + 1) 0) (by omega) (by omega), pk_mE4 f_a0 (i := x2) (by omega) (by omega), pk_mK f_a0, pk_mK2 f_a0, pk_mK4 f_a0, pk_mL2 f_a0, pk_mL4 f_a0, pk_mR2 f_a0, pk_mR4 f_a0, pk_qK (pk_mG f_a0 (i := x2) (by omega) (by omega)), pk_qK1 (pk_mG f_a0 (i := x2) (by omega) (by omega)), pk_qL1 (pk_mG f_a0 (i := x2) (by omega) (by omega)), pk_qR (pk_mG f_a0 (i := x2) (by omega) (by omega))]; done) | (simp (disch := omega) only [pe_wi w0, pe_wi w1, pe_wi (x := 0) ⟨by decide, by decide⟩, pe_K_wI, pe_K_wR, pe_L_wI, pe_L_wR, pe_R_nej, pe_R_ner, pe_R_wI, pk_mE2 f_a0 (i := pe_I σ ((pk_g a0 x2) + 1) 0) (by omega) (by omega), pk_mE4 f_a0 (i := x2) (by omega) (by omega), pk_mK f_a0, pk_mK2 f_a0, pk_mK4 f_a0, pk_mL2 f_a0, pk_mL4 f_a0, pk_mR2 f_a0, pk_mR4 f_a0, pk_qK (pk_mG f_a0 (i := x2) (by omega) (by omega)), pk_qK1 (pk_mG f_a0 (i := x2) (by omega) (by omega)), pk_qL1 (pk_mG f_a0 (i := x2) (by omega) (by omega)), pk_qR (pk_mG f_a0 (i := x2) (by omega) (by omega))]; assumption)
    exact pe_cal 44 ck34 rfl rfl rfl ⟨hrc, by decide⟩ k
theorem b34_77 {d : Nat} {Φ : Option pe_V → pe_H → Prop} {σ : pe_H} {o0 : Option pe_V} {o1 : Option pe_V} {o2 : Option pe_V} {a3 : Nat} {a4 : Nat} (f_a3 : pk_Fo a3 σ := by assumption) (f_a4 : pk_Fo a4 σ := by assumption)   (k : pe_M d 8 [.inr (.inr a4)] (pe_wI σ a4 3 (pe_I σ a3 3)) (fun r σ' => pe_X d 34 (91, [o0, o1, o2, some (.inr (.inr a3)), some (.inr (.inr a4))], r.toList ++ [], σ') Φ)) : pe_X d 34 (77, [o0, o1, o2, some (.inr (.inr a3)), some (.inr (.inr a4))], [], σ) Φ := by
  refine pe_blk 45 5 ck34 [pe_K σ a3 = 0, pe_K σ a4 = 0] (88, [o0, o1, o2, some (.inr (.inr a3)), some (.inr (.inr a4))], [.inr (.inr a4)], pe_wI σ a4 3 (pe_I σ a3 3)) rfl ?_ ?_
  · first
    | (simp (disch := omega) only [pe_all, pe_K_wI, pe_K_wR, pk_oK f_a3, pk_oK f_a4]; done)
    | (simp (disch := omega) only [pe_all, pe_K_wI, pe_K_wR, pk_oK f_a3, pk_oK f_a4]; (repeat' apply And.intro) <;> first | assumption | omega | decide)
  · try simp (disch := omega) only [pe_K_wI, pe_K_wR, pk_oK f_a3, pk_oK f_a4]
    have hrc : pe_K (pe_wI σ a4 3 (pe_I σ a3 3)) a4 = 0 := by first | assumption | (simp (disch := omega) only [pe_K_wI, pe_K_wR, pk_oK f_a3, pk_oK f_a4]; done) | (simp (disch := omega) only [pe_K_wI, pe_K_wR, pk_oK f_a3, pk_oK f_a4]; assumption)
    exact pe_cal 50 ck34 rfl rfl rfl ⟨hrc, by decide⟩ k
set_option maxRecDepth 8000 in
theorem b34_91 {d : Nat} {Φ : Option pe_V → pe_H → Prop} {σ : pe_H} {o0 : Option pe_V} {o1 : Option pe_V} {o2 : Option pe_V} {o3 : Option pe_V} {o4 : Option pe_V}    (k : pe_X d 34 (110, [o0, o1, o2, o3, o4], [], σ) Φ) : pe_X d 34 (91, [o0, o1, o2, o3, o4], [], σ) Φ := by
  refine pe_blk 51 1 ck34 [] (110, [o0, o1, o2, o3, o4], [], σ) rfl ?_ ?_
  · exact trivial
  · exact k
set_option maxRecDepth 8000 in
theorem b34_94 {d : Nat} {Φ : Option pe_V → pe_H → Prop} {σ : pe_H} {a0 : Nat} {x1 : Int} {x2 : Int} {a3 : Nat} {o4 : Option pe_V} (f_a0 : pk_Fm a0 σ := by assumption) (f_a3 : pk_Fo a3 σ := by assumption) (w0 : pe_in x2 := by unfold pe_in; omega) (h0 : 0 ≤ x2 := by first | assumption | omega) (h1 : x2 < 3 := by first | assumption | omega) (k : pe_M d 54 [.inr (.inr (pk_q a0 x2)), .inl x1] σ (fun r σ' => pe_X d 34 (104, [some (.inr (.inr a0)), some (.inl x1), some (.inl x2), some (.inr (.inr a3)), o4], r.toList ++ [], σ') Φ)) : pe_X d 34 (94, [some (.inr (.inr a0)), some (.inl x1), some (.inl x2), some (.inr (.inr a3)), o4], [], σ) Φ := by
  refine pe_blk 52 5 ck34 [pe_K σ a0 = 2, 12 ≤ pe_K σ (pe_R σ a0 2) ∧ pe_K σ (pe_R σ a0 2) < 19, 0 ≤ (pe_w x2), (pe_w x2) < pe_L σ (pe_R σ a0 2)] (101, [some (.inr (.inr a0)), some (.inl x1), some (.inl x2), some (.inr (.inr a3)), o4], [.inl x1, .inr (.inr (pe_R σ (pe_R σ a0 2) (pe_w x2)))], σ) rfl ?_ ?_
  · first
    | (simp (disch := omega) only [pe_all, pe_wi w0, pe_K_wI, pe_K_wR, pe_L_wI, pe_L_wR, pe_R_nej, pe_R_ner, pe_R_wI, pk_mE3 f_a0 (i := x2) (by omega) (by omega), pk_mK f_a0, pk_mK3 f_a0, pk_mL3 f_a0, pk_mR3 f_a0, pk_qK (pk_mQ f_a0 (i := x2) (by omega) (by omega))]; done)
    | (simp (disch := omega) only [pe_all, pe_wi w0, pe_K_wI, pe_K_wR, pe_L_wI, pe_L_wR, pe_R_nej, pe_R_ner, pe_R_wI, pk_mE3 f_a0 (i := x2) (by omega) (by omega), pk_mK f_a0, pk_mK3 f_a0, pk_mL3 f_a0, pk_mR3 f_a0, pk_qK (pk_mQ f_a0 (i := x2) (by omega) (by omega))]; (repeat' apply And.intro) <;> first | assumption | omega | decide)
  · try simp (disch := omega) only [pe_wi w0, pe_K_wI, pe_K_wR, pe_L_wI, pe_L_wR, pe_R_nej, pe_R_ner, pe_R_wI, pk_mE3 f_a0 (i := x2) (by omega) (by omega), pk_mK f_a0, pk_mK3 f_a0, pk_mL3 f_a0, pk_mR3 f_a0, pk_qK (pk_mQ f_a0 (i := x2) (by omega) (by omega))]
    have hrc : pe_K σ (pk_q a0 x2) = 5 := by first | assumption | (simp (disch := omega) only [pe_wi w0, pe_K_wI, pe_K_wR, pe_L_wI, pe_L_wR, pe_R_nej, pe_R_ner, pe_R_wI, pk_mE3 f_a0 (i := x2) (by omega) (by omega), pk_mK f_a0, pk_mK3 f_a0, pk_mL3 f_a0, pk_mR3 f_a0, pk_qK (pk_mQ f_a0 (i := x2) (by omega) (by omega))]; done) | (simp (disch := omega) only [pe_wi w0, pe_K_wI, pe_K_wR, pe_L_wI, pe_L_wR, pe_R_nej, pe_R_ner, pe_R_wI, pk_mE3 f_a0 (i := x2) (by omega) (by omega), pk_mK f_a0, pk_mK3 f_a0, pk_mL3 f_a0, pk_mR3 f_a0, pk_qK (pk_mQ f_a0 (i := x2) (by omega) (by omega))]; assumption)
    exact pe_cal 57 ck34 rfl rfl rfl ⟨hrc, by decide⟩ k
set_option maxRecDepth 8000 in
theorem b34_104 {d : Nat} {Φ : Option pe_V → pe_H → Prop} {σ : pe_H} {o0 : Option pe_V} {o1 : Option pe_V} {x2 : Int} {a3 : Nat} {o4 : Option pe_V} (f_a3 : pk_Fo a3 σ := by assumption)   (k : pe_M d 7 [.inr (.inr a3), .inl x2, .inl 3] σ (fun r σ' => pe_X d 34 (110, [o0, o1, some (.inl x2), some (.inr (.inr a3)), o4], r.toList ++ [], σ') Φ)) : pe_X d 34 (104, [o0, o1, some (.inl x2), some (.inr (.inr a3)), o4], [], σ) Φ := by
  refine pe_blk 58 3 ck34 [] (107, [o0, o1, some (.inl x2), some (.inr (.inr a3)), o4], [.inl 3, .inl x2, .inr (.inr a3)], σ) rfl ?_ ?_
  · exact trivial
  · try simp (disch := omega) only [pe_K_wI, pe_K_wR, pk_oK f_a3]
    have hrc : pe_K σ a3 = 0 := by first | assumption | (simp (disch := omega) only [pe_K_wI, pe_K_wR, pk_oK f_a3]; done) | (simp (disch := omega) only [pe_K_wI, pe_K_wR, pk_oK f_a3]; assumption)
    exact pe_cal 61 ck34 rfl rfl rfl ⟨hrc, by decide⟩ k
set_option maxRecDepth 8000 in
theorem b34_110 {d : Nat} {Φ : Option pe_V → pe_H → Prop} {σ : pe_H} {o0 : Option pe_V} {o1 : Option pe_V} {o2 : Option pe_V} {o3 : Option pe_V} {o4 : Option pe_V}    (k : Φ none σ) : pe_X d 34 (110, [o0, o1, o2, o3, o4], [], σ) Φ := by
  exact pe_fine 62 ck34 rfl rfl rfl trivial k
-- StepMachines$Machine.getAt(II)V
def T35 : List (Nat × Instr × Nat) := [(0, .aload_n 0, 1), (1, .getfield 19, 3), (4, .iload_n 1, 1), (5, .aaload, 1), (6, .astore_n 3, 1), (7, .iload_n 2, 1), (8, .iconst 3, 1), (9, .if_icmp .lt 18, 3), (12, .aload_n 0, 1), (13, .aload_n 3, 1), (14, .aload_n 0, 1), (15, .bipush 6, 2), (17, .iconst (-1), 1), (18, .invokevirtual 184, 3), (21, .invokevirtual 187, 3), (24, .goto 86, 3), (27, .aload_n 0, 1), (28, .getfield 25, 3), (31, .iload_n 2, 1), (32, .aaload, 1), (33, .getfield 222, 3), (36, .ifCond .le 58, 3), (39, .aload_n 0, 1), (40, .getfield 19, 3), (43, .aload_n 0, 1), (44, .getfield 25, 3), (47, .iload_n 2, 1), (48, .aaload, 1), (49, .getfield 225, 3), (52, .iconst 0, 1), (53, .iaload, 1), (54, .aaload, 1), (55, .astore 4, 2), (57, .aload_n 0, 1), (58, .getfield 25, 3), (61, .iload_n 2, 1), (62, .aaload, 1), (63, .aload_n 0, 1), (64, .getfield 25, 3), (67, .iload_n 2, 1), (68, .aaload, 1), (69, .getfield 225, 3), (72, .iconst 0, 1), (73, .iaload, 1), (74, .invokevirtual 107, 3), (77, .aload_n 3, 1), (78, .aload 4, 2), (80, .getfield 177, 3), (83, .putfield 177, 3), (86, .aload 4, 2), (88, .invokevirtual 110, 3), (91, .goto 19, 3), (94, .aload_n 0, 1), (95, .getfield 29, 3), (98, .iload_n 2, 1), (99, .aaload, 1), (100, .iload_n 1, 1), (101, .invokevirtual 228, 3), (104, .aload_n 3, 1), (105, .iload_n 2, 1), (106, .iconst 4, 1), (107, .invokevirtual 216, 3), (110, .return_, 1)]
theorem ck35 : pe_ctx 35 2 false none 5 T35 := ⟨rfl, rfl, rfl, rfl, by decide +kernel, by decide, by decide⟩
theorem b35_0 {d : Nat} {Φ : Option pe_V → pe_H → Prop} {σ : pe_H} {a0 : Nat} {x1 : Int} {x2 : Int} {o3 : Option pe_V} {o4 : Option pe_V} (f_a0 : pk_Fm a0 σ := by assumption) (w0 : pe_in x1 := by unfold pe_in; omega) (w1 : pe_in x2 := by unfold pe_in; omega) (h0 : 0 ≤ x1 := by first | assumption | omega) (h1 : x1 < 8 := by first | assumption | omega) (k1 : x2 < 3 → pe_X d 35 (27, [some (.inr (.inr a0)), some (.inl x1), some (.inl x2), some (.inr (.inr (pk_c a0 x1))), o4], [], σ) Φ) (k2 : ¬ (x2 < 3) → pe_X d 35 (12, [some (.inr (.inr a0)), some (.inl x1), some (.inl x2), some (.inr (.inr (pk_c a0 x1))), o4], [], σ) Φ) : pe_X d 35 (0, [some (.inr (.inr a0)), some (.inl x1), some (.inl x2), o3, o4], [], σ) Φ := by
  refine pe_blk 0 8 ck35 [pe_K σ a0 = 2, 12 ≤ pe_K σ (pe_R σ a0 1) ∧ pe_K σ (pe_R σ a0 1) < 19, 0 ≤ (pe_w x1), (pe_w x1) < pe_L σ (pe_R σ a0 1)] (cond (decide ((pe_w x2) < (pe_w 3))) 27 12, [some (.inr (.inr a0)), some (.inl x1), some (.inl x2), some (.inr (.inr (pe_R σ (pe_R σ a0 1) (pe_w x1)))), o4], [], σ) rfl ?_ ?_
  · first
    | (simp (disch := omega) only [pe_all, pe_wi w0, pe_wi w1, pe_wi (x := 3) ⟨by decide, by decide⟩, pe_K_wI, pe_K_wR, pe_L_wI, pe_L_wR, pe_R_nej, pe_R_ner, pe_R_wI, pk_mE2 f_a0 (i := x1) (by omega) (by omega), pk_mK f_a0, pk_mK2 f_a0, pk_mL2 f_a0, pk_mR2 f_a0]; done)
    | (simp (disch := omega) only [pe_all, pe_wi w0, pe_wi w1, pe_wi (x := 3) ⟨by decide, by decide⟩, pe_K_wI, pe_K_wR, pe_L_wI, pe_L_wR, pe_R_nej, pe_R_ner, pe_R_wI, pk_mE2 f_a0 (i := x1) (by omega) (by omega), pk_mK f_a0, pk_mK2 f_a0, pk_mL2 f_a0, pk_mR2 f_a0]; (repeat' apply And.intro) <;> first | assumption | omega | decide)
  · try simp (disch := omega) only [pe_wi w0, pe_wi w1, pe_wi (x := 3) ⟨by decide, by decide⟩, pe_K_wI, pe_K_wR, pe_L_wI, pe_L_wR, pe_R_nej, pe_R_ner, pe_R_wI, pk_mE2 f_a0 (i := x1) (by omega) (by omega), pk_mK f_a0, pk_mK2 f_a0, pk_mL2 f_a0, pk_mR2 f_a0]
    exact pe_two k1 k2
theorem b35_12 {d : Nat} {Φ : Option pe_V → pe_H → Prop} {σ : pe_H} {a0 : Nat} {o1 : Option pe_V} {o2 : Option pe_V} {a3 : Nat} {o4 : Option pe_V} (f_a0 : pk_Fm a0 σ := by assumption) (f_a3 : pk_Fo a3 σ := by assumption)   (k : pe_M d 39 [.inr (.inr a0), .inl 6, .inl (-1)] σ (fun r σ' => pe_X d 35 (21, [some (.inr (.inr a0)), o1, o2, some (.inr (.inr a3)), o4], r.toList ++ [.inr (.inr a3), .inr (.inr a0)], σ') Φ)) : pe_X d 35 (12, [some (.inr (.inr a0)), o1, o2, some (.inr (.inr a3)), o4], [], σ) Φ := by
  refine pe_blk 8 5 ck35 [] (18, [some (.inr (.inr a0)), o1, o2, some (.inr (.inr a3)), o4], [.inl (-1), .inl 6, .inr (.inr a0), .inr (.inr a3), .inr (.inr a0)], σ) rfl ?_ ?_
  · exact trivial
  · try simp (disch := omega) only [pe_K_wI, pe_K_wR, pk_mK f_a0]
    have hrc : pe_K σ a0 = 2 := by first | assumption | (simp (disch := omega) only [pe_K_wI, pe_K_wR, pk_mK f_a0]; done) | (simp (disch := omega) only [pe_K_wI, pe_K_wR, pk_mK f_a0]; assumption)
    exact pe_cal 13 ck35 rfl rfl rfl ⟨hrc, by decide⟩ k
theorem b35_21 {d : Nat} {Φ : Option pe_V → pe_H → Prop} {σ : pe_H} {o0 : Option pe_V} {o1 : Option pe_V} {o2 : Option pe_V} {o3 : Option pe_V} {o4 : Option pe_V} {b0 : Nat} {b1 : Nat} {s2 : Int} (f_b0 : pk_Fm b0 σ := by assumption) (f_b1 : pk_Fo b1 σ := by assumption)   (k : pe_M d 40 [.inr (.inr b0), .inr (.inr b1), .inl s2] σ (fun r σ' => pe_X d 35 (24, [o0, o1, o2, o3, o4], r.toList ++ [], σ') Φ)) : pe_X d 35 (21, [o0, o1, o2, o3, o4], [.inl s2, .inr (.inr b1), .inr (.inr b0)], σ) Φ := by
  have hrc : pe_K σ b0 = 2 := by first | assumption | (simp (disch := omega) only [pe_K_wI, pe_K_wR, pk_mK f_b0]; done) | (simp (disch := omega) only [pe_K_wI, pe_K_wR, pk_mK f_b0]; assumption)
  exact pe_cal 14 ck35 rfl rfl rfl ⟨hrc, by decide⟩ k
theorem b35_24 {d : Nat} {Φ : Option pe_V → pe_H → Prop} {σ : pe_H} {o0 : Option pe_V} {o1 : Option pe_V} {o2 : Option pe_V} {o3 : Option pe_V} {o4 : Option pe_V}    (k : pe_X d 35 (110, [o0, o1, o2, o3, o4], [], σ) Φ) : pe_X d 35 (24, [o0, o1, o2, o3, o4], [], σ) Φ := by
  refine pe_blk 15 1 ck35 [] (110, [o0, o1, o2, o3, o4], [], σ) rfl ?_ ?_
  · exact trivial
  · exact k
theorem b35_27 {d : Nat} {Φ : Option pe_V → pe_H → Prop} {σ : pe_H} {a0 : Nat} {x1 : Int} {x2 : Int} {a3 : Nat} {o4 : Option pe_V} (f_a0 : pk_Fm a0 σ := by assumption) (f_a3 : pk_Fo a3 σ := by assumption) (w0 : pe_in x2 := by unfold pe_in; omega) (w1 : pe_in (pe_I σ (pk_q a0 x2) 1) := by unfold pe_in; omega) (h0 : 0 ≤ x2 := by first | assumption | omega) (h1 : x2 < 3 := by first | assumption | omega) (k1 : (pe_I σ (pk_q a0 x2) 1) ≤ 0 → pe_X d 35 (94, [some (.inr (.inr a0)), some (.inl x1), some (.inl x2), some (.inr (.inr a3)), o4], [], σ) Φ) (k2 : ¬ ((pe_I σ (pk_q a0 x2) 1) ≤ 0) → pe_X d 35 (39, [some (.inr (.inr a0)), some (.inl x1), some (.inl x2), some (.inr (.inr a3)), o4], [], σ) Φ) : pe_X d 35 (27, [some (.inr (.inr a0)), some (.inl x1), some (.inl x2), some (.inr (.inr a3)), o4], [], σ) Φ := by
  refine pe_blk 16 6 ck35 [pe_K σ a0 = 2, 12 ≤ pe_K σ (pe_R σ a0 2) ∧ pe_K σ (pe_R σ a0 2) < 19, 0 ≤ (pe_w x2), (pe_w x2) < pe_L σ (pe_R σ a0 2), pe_K σ (pe_R σ (pe_R σ a0 2) (pe_w x2)) = 5] (cond (decide ((pe_w (pe_I σ (pe_R σ (pe_R σ a0 2) (pe_w x2)) 1)) ≤ 0)) 94 39, [some (.inr (.inr a0)), some (.inl x1), some (.inl x2), some (.inr (.inr a3)), o4], [], σ) rfl ?_ ?_
  · first
    | (simp (disch := omega) only [pe_all, pe_wi w0, pe_wi w1, pe_K_wI, pe_K_wR, pe_L_wI, pe_L_wR, pe_R_nej, pe_R_ner, pe_R_wI, pk_mE3 f_a0 (i := x2) (by omega) (by omega), pk_mK f_a0, pk_mK3 f_a0, pk_mL3 f_a0, pk_mR3 f_a0, pk_qK (pk_mQ f_a0 (i := x2) (by omega) (by omega))]; done)
    | (simp (disch := omega) only [pe_all, pe_wi w0, pe_wi w1, pe_K_wI, pe_K_wR, pe_L_wI, pe_L_wR, pe_R_nej, pe_R_ner, pe_R_wI, pk_mE3 f_a0 (i := x2) (by omega) (by omega), pk_mK f_a0, pk_mK3 f_a0, pk_mL3 f_a0, pk_mR3 f_a0, pk_qK (pk_mQ f_a0 (i := x2) (by omega) (by omega))]; (repeat' apply And.intro) <;> first | assumption | omega | decide)
  · try simp (disch := omega) only [pe_wi w0, pe_wi w1, pe_K_wI, pe_K_wR, pe_L_wI, pe_L_wR, pe_R_nej, pe_R_ner, pe_R_wI, pk_mE3 f_a0 (i := x2) (by omega) (by omega), pk_mK f_a0, pk_mK3 f_a0, pk_mL3 f_a0, pk_mR3 f_a0, pk_qK (pk_mQ f_a0 (i := x2) (by omega) (by omega))]
    exact pe_two k1 k2
set_option maxHeartbeats 8000000 in
theorem b35_39 {d : Nat} {Φ : Option pe_V → pe_H → Prop} {σ : pe_H} {a0 : Nat} {o1 : Option pe_V} {x2 : Int} {a3 : Nat} {o4 : Option pe_V} (f_a0 : pk_Fm a0 σ := by assumption) (f_a3 : pk_Fo a3 σ := by assumption) (w0 : pe_in x2 := by unfold pe_in; omega) (w1 : pe_in (pe_I σ ((pk_q a0 x2) + 1) 0) := by unfold pe_in; omega) (h0 : 0 ≤ x2 := by first | assumption | omega) (h1 : x2 < 3 := by first | assumption | omega) (h2 : 0 ≤ (pe_I σ ((pk_q a0 x2) + 1) 0) := by first | assumption | omega) (h3 : (pe_I σ ((pk_q a0 x2) + 1) 0) < 8 := by first | assumption | omega) (k : pe_M d 55 [.inr (.inr (pk_q a0 x2)), .inl (pe_I σ ((pk_q a0 x2) + 1) 0)] σ (fun r σ' => pe_X d 35 (77, [some (.inr (.inr a0)), o1, some (.inl x2), some (.inr (.inr a3)), some (.inr (.inr (pk_c a0 (pe_I σ ((pk_q a0 x2) + 1) 0))))], r.toList ++ [], σ') Φ)) : pe_X d 35 (39, [some (.inr (.inr a0)), o1, some (.inl x2), some (.inr (.inr a3)), o4], [], σ) Φ := by
  refine pe_blk 22 22 ck35 [pe_K σ a0 = 2, pe_K σ a0 = 2, 12 ≤ pe_K σ (pe_R σ a0 2) ∧ pe_K σ (pe_R σ a0 2) < 19, 0 ≤ (pe_w x2), (pe_w x2) < pe_L σ (pe_R σ a0 2), pe_K σ (pe_R σ (pe_R σ a0 2) (pe_w x2)) = 5, pe_K σ (pe_R σ (pe_R σ (pe_R σ a0 2) (pe_w x2)) 0) = 10, 0 ≤ (pe_w 0), (pe_w 0) < pe_L σ (pe_R σ (pe_R σ (pe_R σ a0 2) (pe_w x2)) 0), 12 ≤ pe_K σ (pe_R σ a0 1) ∧ pe_K σ (pe_R σ a0 1) < 19, 0 ≤ (pe_w (pe_I σ (pe_R σ (pe_R σ (pe_R σ a0 2) (pe_w x2)) 0) (pe_w 0))), (pe_w (pe_I σ (pe_R σ (pe_R σ (pe_R σ a0 2) (pe_w x2)) 0) (pe_w 0))) < pe_L σ (pe_R σ a0 1), pe_K σ a0 = 2, 12 ≤ pe_K σ (pe_R σ a0 2) ∧ pe_K σ (pe_R σ a0 2) < 19, 0 ≤ (pe_w x2), (pe_w x2) < pe_L σ (pe_R σ a0 2), pe_K σ a0 = 2, 12 ≤ pe_K σ (pe_R σ a0 2) ∧ pe_K σ (pe_R σ a0 2) < 19, 0 ≤ (pe_w x2), (pe_w x2) < pe_L σ (pe_R σ a0 2), pe_K σ (pe_R σ (pe_R σ a0 2) (pe_w x2)) = 5, pe_K σ (pe_R σ (pe_R σ (pe_R σ a0 2) (pe_w x2)) 0) = 10, 0 ≤ (pe_w 0), (pe_w 0) < pe_L σ (pe_R σ (pe_R σ (pe_R σ a0 2) (pe_w x2)) 0)] (74, [some (.inr (.inr a0)), o1, some (.inl x2), some (.inr (.inr a3)), some (.inr (.inr (pe_R σ (pe_R σ a0 1) (pe_w (pe_I σ (pe_R σ (pe_R σ (pe_R σ a0 2) (pe_w x2)) 0) (pe_w 0))))))], [.inl (pe_I σ (pe_R σ (pe_R σ (pe_R σ a0 2) (pe_w x2)) 0) (pe_w 0)), .inr (.inr (pe_R σ (pe_R σ a0 2) (pe_w x2)))], σ) rfl ?_ ?_
  · first
    | (simp (disch := omega) only [pe_all, pe_wi w0, pe_wi w1, pe_wi (x := 0) ⟨by decide, by decide⟩, pe_K_wI, pe_K_wR, pe_L_wI, pe_L_wR, pe_R_nej, pe_R_ner, pe_R_wI, pk_mE2 f_a0 (i := pe_I σ ((pk_q a0 x2) + 1) 0) (by omega) (by omega), pk_mE3 f_a0 (i := x2) (by omega) (by omega), pk_mK f_a0, pk_mK2 f_a0, pk_mK3 f_a0, pk_mL2 f_a0, pk_mL3 f_a0, pk_mR2 f_a0, pk_mR3 f_a0, pk_qK (pk_mQ f_a0 (i := x2) (by omega) (by omega)), pk_qK1 (pk_mQ f_a0 (i := x2) (by omega) (by omega)), pk_qL1 (pk_mQ f_a0 (i := x2) (by omega) (by omega)), pk_qR (pk_mQ f_a0 (i := x2) (by omega) (by omega))]; done)
    | (simp (disch := omega) only [pe_all, pe_wi w0, pe_wi w1, pe_wi (x := 0) ⟨by decide, by decide⟩, pe_K_wI, pe_K_wR, pe_L_wI, pe_L_wR, pe_R_nej, pe_R_ner, pe_R_wI, pk_mE2 f_a0 (i := pe_I σ ((pk_q a0 x2) + 1) 0) (by omega) (by omega), pk_mE3 f_a0 (i := x2) (by omega) (by omega), pk_mK f_a0, pk_mK2 f_a0, pk_mK3 f_a0, pk_mL2 f_a0, pk_mL3 f_a0, pk_mR2 f_a0, pk_mR3 f_a0, pk_qK (pk_mQ f_a0 (i := x2) (by omega) (by omega)), pk_qK1 (pk_mQ f_a0 (i := x2) (by omega) (by omega)), pk_qL1 (pk_mQ f_a0 (i := x2) (by omega) (by omega)), pk_qR (pk_mQ f_a0 (i := x2) (by omega) (by omega))]; (repeat' apply And.intro) <;> first | assumption | omega | decide)
  · try simp (disch := omega) only [pe_wi w0, pe_wi w1, pe_wi (x := 0) ⟨by decide, by decide⟩, pe_K_wI, pe_K_wR, pe_L_wI, pe_L_wR, pe_R_nej, pe_R_ner, pe_R_wI, pk_mE2 f_a0 (i := pe_I σ ((pk_q a0 x2) + 1) 0) (by omega) (by omega), pk_mE3 f_a0 (i := x2) (by omega) (by omega), pk_mK f_a0, pk_mK2 f_a0, pk_mK3 f_a0, pk_mL2 f_a0, pk_mL3 f_a0, pk_mR2 f_a0, pk_mR3 f_a0, pk_qK (pk_mQ f_a0 (i := x2) (by omega) (by omega)), pk_qK1 (pk_mQ f_a0 (i := x2) (by omega) (by omega)), pk_qL1 (pk_mQ f_a0 (i := x2) (by omega) (by omega)), pk_qR (pk_mQ f_a0 (i := x2) (by omega) (by omega))]
    have hrc : pe_K σ (pk_q a0 x2) = 5 := by first | assumption | (simp (disch := omega) only [pe_wi w0, pe_wi w1, pe_wi (x := 0) ⟨by decide, by decide⟩, pe_K_wI, pe_K_wR, pe_L_wI, pe_L_wR, pe_R_nej, pe_R_ner, pe_R_wI, pk_mE2 f_a0 (i := pe_I σ ((pk_q a0 x2) + 1) 0) (by omega) (by omega), pk_mE3 f_a0 (i := x2) (by omega) (by omega), pk_mK f_a0, pk_mK2 f_a0, pk_mK3 f_a0, pk_mL2 f_a0, pk_mL3 f_a0, pk_mR2 f_a0, pk_mR3 f_a0, pk_qK (pk_mQ f_a0 (i := x2) (by omega) (by omega)), pk_qK1 (pk_mQ f_a0 (i := x2) (by omega) (by omega)), pk_qL1 (pk_mQ f_a0 (i := x2) (by omega) (by omega)), pk_qR (pk_mQ f_a0 (i := x2) (by omega) (by omega))]; done) | (simp (disch := omega) only [pe_wi w0, pe_wi w1, pe_wi (x := 0) ⟨by decide, by decide⟩, pe_K_wI, pe_K_wR, pe_L_wI, pe_L_wR, pe_R_nej, pe_R_ner, pe_R_wI, pk_mE2 f_a0 (i := pe_I σ ((pk_q a0 x2) + 1) 0) (by omega) (by omega), pk_mE3 f_a0 (i := x2) (by omega) (by omega), pk_mK f_a0, pk_mK2 f_a0, pk_mK3 f_a0, pk_mL2 f_a0, pk_mL3 f_a0, pk_mR2 f_a0, pk_mR3 f_a0, pk_qK (pk_mQ f_a0 (i := x2) (by omega) (by omega)), pk_qK1 (pk_mQ f_a0 (i := x2) (by omega) (by omega)), pk_qL1 (pk_mQ f_a0 (i := x2) (by omega) (by omega)), pk_qR (pk_mQ f_a0 (i := x2) (by omega) (by omega))]; assumption)
    exact pe_cal 44 ck35 rfl rfl rfl ⟨hrc, by decide⟩ k
theorem b35_77 {d : Nat} {Φ : Option pe_V → pe_H → Prop} {σ : pe_H} {o0 : Option pe_V} {o1 : Option pe_V} {o2 : Option pe_V} {a3 : Nat} {a4 : Nat} (f_a3 : pk_Fo a3 σ := by assumption) (f_a4 : pk_Fo a4 σ := by assumption)   (k : pe_M d 8 [.inr (.inr a4)] (pe_wI σ a3 3 (pe_I σ a4 3)) (fun r σ' => pe_X d 35 (91, [o0, o1, o2, some (.inr (.inr a3)), some (.inr (.inr a4))], r.toList ++ [], σ') Φ)) : pe_X d 35 (77, [o0, o1, o2, some (.inr (.inr a3)), some (.inr (.inr a4))], [], σ) Φ := by
  refine pe_blk 45 5 ck35 [pe_K σ a4 = 0, pe_K σ a3 = 0] (88, [o0, o1, o2, some (.inr (.inr a3)), some (.inr (.inr a4))], [.inr (.inr a4)], pe_wI σ a3 3 (pe_I σ a4 3)) rfl ?_ ?_
  · first
    | (simp (disch := omega) only [pe_all, pe_K_wI, pe_K_wR, pk_oK f_a3, pk_oK f_a4]; done)
    | (simp (disch := omega) only [pe_all, pe_K_wI, pe_K_wR, pk_oK f_a3, pk_oK f_a4]; (repeat' apply And.intro) <;> first | assumption | omega | decide)
  · try simp (disch := omega) only [pe_K_wI, pe_K_wR, pk_oK f_a3, pk_oK f_a4]
    have hrc : pe_K (pe_wI σ a3 3 (pe_I σ a4 3)) a4 = 0 := by first | assumption | (simp (disch := omega) only [pe_K_wI, pe_K_wR, pk_oK f_a3, pk_oK f_a4]; done) | (simp (disch := omega) only [pe_K_wI, pe_K_wR, pk_oK f_a3, pk_oK f_a4]; assumption)
    exact pe_cal 50 ck35 rfl rfl rfl ⟨hrc, by decide⟩ k
set_option maxRecDepth 8000 in
theorem b35_91 {d : Nat} {Φ : Option pe_V → pe_H → Prop} {σ : pe_H} {o0 : Option pe_V} {o1 : Option pe_V} {o2 : Option pe_V} {o3 : Option pe_V} {o4 : Option pe_V}    (k : pe_X d 35 (110, [o0, o1, o2, o3, o4], [], σ) Φ) : pe_X d 35 (91, [o0, o1, o2, o3, o4], [], σ) Φ := by
  refine pe_blk 51 1 ck35 [] (110, [o0, o1, o2, o3, o4], [], σ) rfl ?_ ?_
  · exact trivial
  · exact k
set_option maxRecDepth 8000 in
theorem b35_94 {d : Nat} {Φ : Option pe_V → pe_H → Prop} {σ : pe_H} {a0 : Nat} {x1 : Int} {x2 : Int} {a3 : Nat} {o4 : Option pe_V} (f_a0 : pk_Fm a0 σ := by assumption) (f_a3 : pk_Fo a3 σ := by assumption) (w0 : pe_in x2 := by unfold pe_in; omega) (h0 : 0 ≤ x2 := by first | assumption | omega) (h1 : x2 < 3 := by first | assumption | omega) (k : pe_M d 54 [.inr (.inr (pk_g a0 x2)), .inl x1] σ (fun r σ' => pe_X d 35 (104, [some (.inr (.inr a0)), some (.inl x1), some (.inl x2), some (.inr (.inr a3)), o4], r.toList ++ [], σ') Φ)) : pe_X d 35 (94, [some (.inr (.inr a0)), some (.inl x1), some (.inl x2), some (.inr (.inr a3)), o4], [], σ) Φ := by
  refine pe_blk 52 5 ck35 [pe_K σ a0 = 2, 12 ≤ pe_K σ (pe_R σ a0 3) ∧ pe_K σ (pe_R σ a0 3) < 19, 0 ≤ (pe_w x2), (pe_w x2) < pe_L σ (pe_R σ a0 3)] (101, [some (.inr (.inr a0)), some (.inl x1), some (.inl x2), some (.inr (.inr a3)), o4], [.inl x1, .inr (.inr (pe_R σ (pe_R σ a0 3) (pe_w x2)))], σ) rfl ?_ ?_
  · first
    | (simp (disch := omega) only [pe_all, pe_wi w0, pe_K_wI, pe_K_wR, pe_L_wI, pe_L_wR, pe_R_nej, pe_R_ner, pe_R_wI, pk_mE4 f_a0 (i := x2) (by omega) (by omega), pk_mK f_a0, pk_mK4 f_a0, pk_mL4 f_a0, pk_mR4 f_a0, pk_qK (pk_mG f_a0 (i := x2) (by omega) (by omega))]; done)
    | (simp (disch := omega) only [pe_all, pe_wi w0, pe_K_wI, pe_K_wR, pe_L_wI, pe_L_wR, pe_R_nej, pe_R_ner, pe_R_wI, pk_mE4 f_a0 (i := x2) (by omega) (by omega), pk_mK f_a0, pk_mK4 f_a0, pk_mL4 f_a0, pk_mR4 f_a0, pk_qK (pk_mG f_a0 (i := x2) (by omega) (by omega))]; (repeat' apply And.intro) <;> first | assumption | omega | decide)
  · try simp (disch := omega) only [pe_wi w0, pe_K_wI, pe_K_wR, pe_L_wI, pe_L_wR, pe_R_nej, pe_R_ner, pe_R_wI, pk_mE4 f_a0 (i := x2) (by omega) (by omega), pk_mK f_a0, pk_mK4 f_a0, pk_mL4 f_a0, pk_mR4 f_a0, pk_qK (pk_mG f_a0 (i := x2) (by omega) (by omega))]
    have hrc : pe_K σ (pk_g a0 x2) = 5 := by first | assumption | (simp (disch := omega) only [pe_wi w0, pe_K_wI, pe_K_wR, pe_L_wI, pe_L_wR, pe_R_nej, pe_R_ner, pe_R_wI, pk_mE4 f_a0 (i := x2) (by omega) (by omega), pk_mK f_a0, pk_mK4 f_a0, pk_mL4 f_a0, pk_mR4 f_a0, pk_qK (pk_mG f_a0 (i := x2) (by omega) (by omega))]; done) | (simp (disch := omega) only [pe_wi w0, pe_K_wI, pe_K_wR, pe_L_wI, pe_L_wR, pe_R_nej, pe_R_ner, pe_R_wI, pk_mE4 f_a0 (i := x2) (by omega) (by omega), pk_mK f_a0, pk_mK4 f_a0, pk_mL4 f_a0, pk_mR4 f_a0, pk_qK (pk_mG f_a0 (i := x2) (by omega) (by omega))]; assumption)
    exact pe_cal 57 ck35 rfl rfl rfl ⟨hrc, by decide⟩ k
set_option maxRecDepth 8000 in
theorem b35_104 {d : Nat} {Φ : Option pe_V → pe_H → Prop} {σ : pe_H} {o0 : Option pe_V} {o1 : Option pe_V} {x2 : Int} {a3 : Nat} {o4 : Option pe_V} (f_a3 : pk_Fo a3 σ := by assumption)   (k : pe_M d 7 [.inr (.inr a3), .inl x2, .inl 4] σ (fun r σ' => pe_X d 35 (110, [o0, o1, some (.inl x2), some (.inr (.inr a3)), o4], r.toList ++ [], σ') Φ)) : pe_X d 35 (104, [o0, o1, some (.inl x2), some (.inr (.inr a3)), o4], [], σ) Φ := by
  refine pe_blk 58 3 ck35 [] (107, [o0, o1, some (.inl x2), some (.inr (.inr a3)), o4], [.inl 4, .inl x2, .inr (.inr a3)], σ) rfl ?_ ?_
  · exact trivial
  · try simp (disch := omega) only [pe_K_wI, pe_K_wR, pk_oK f_a3]
    have hrc : pe_K σ a3 = 0 := by first | assumption | (simp (disch := omega) only [pe_K_wI, pe_K_wR, pk_oK f_a3]; done) | (simp (disch := omega) only [pe_K_wI, pe_K_wR, pk_oK f_a3]; assumption)
    exact pe_cal 61 ck35 rfl rfl rfl ⟨hrc, by decide⟩ k
set_option maxRecDepth 8000 in
theorem b35_110 {d : Nat} {Φ : Option pe_V → pe_H → Prop} {σ : pe_H} {o0 : Option pe_V} {o1 : Option pe_V} {o2 : Option pe_V} {o3 : Option pe_V} {o4 : Option pe_V}    (k : Φ none σ) : pe_X d 35 (110, [o0, o1, o2, o3, o4], [], σ) Φ := by
  exact pe_fine 62 ck35 rfl rfl rfl trivial k
-- StepMachines$Machine.haveEnd(LStepMachines$Coroutine;LStepMachines$Coroutine;)V
def T36 : List (Nat × Instr × Nat) := [(0, .aload_n 2, 1), (1, .getfield 83, 3), (4, .bipush 6, 2), (6, .if_icmp .ne 14, 3), (9, .aload_n 1, 1), (10, .aload_n 2, 1), (11, .getfield 177, 3), (14, .putfield 177, 3), (17, .goto 41, 3), (20, .aload_n 2, 1), (21, .getfield 83, 3), (24, .bipush 7, 2), (26, .if_icmp .ne 21, 3), (29, .aload_n 0, 1), (30, .aload_n 1, 1), (31, .aload_n 0, 1), (32, .bipush 8, 2), (34, .aload_n 2, 1), (35, .getfield 92, 3), (38, .invokevirtual 184, 3), (41, .invokevirtual 187, 3), (44, .goto 14, 3), (47, .aload_n 0, 1), (48, .aload_n 1, 1), (49, .aload_n 0, 1), (50, .iconst 5, 1), (51, .iconst (-1), 1), (52, .invokevirtual 184, 3), (55, .invokevirtual 187, 3), (58, .return_, 1)]
theorem ck36 : pe_ctx 36 2 false none 3 T36 := ⟨rfl, rfl, rfl, rfl, by decide +kernel, by decide, by decide⟩
theorem b36_0 {d : Nat} {Φ : Option pe_V → pe_H → Prop} {σ : pe_H} {a0 : Nat} {a1 : Nat} {a2 : Nat} (f_a0 : pk_Fm a0 σ := by assumption) (f_a1 : pk_Fo a1 σ := by assumption) (f_a2 : pk_Fo a2 σ := by assumption) (w0 : pe_in (pe_I σ a2 2) := by unfold pe_in; omega)  (k1 : ¬ (pe_I σ a2 2) = 6 → pe_X d 36 (20, [some (.inr (.inr a0)), some (.inr (.inr a1)), some (.inr (.inr a2))], [], σ) Φ) (k2 : (pe_I σ a2 2) = 6 → pe_X d 36 (9, [some (.inr (.inr a0)), some (.inr (.inr a1)), some (.inr (.inr a2))], [], σ) Φ) : pe_X d 36 (0, [some (.inr (.inr a0)), some (.inr (.inr a1)), some (.inr (.inr a2))], [], σ) Φ := by
  refine pe_blk 0 4 ck36 [pe_K σ a2 = 0] (cond (decide (¬ (pe_w (pe_I σ a2 2)) = (pe_w 6))) 20 9, [some (.inr (.inr a0)), some (.inr (.inr a1)), some (.inr (.inr a2))], [], σ) rfl ?_ ?_
  · first
    | (simp (disch := omega) only [pe_all, pe_wi w0, pe_wi (x := 6) ⟨by decide, by decide⟩, pe_K_wI, pe_K_wR, pk_oK f_a2]; done)
    | (simp (disch := omega) only [pe_all, pe_wi w0, pe_wi (x := 6) ⟨by decide, by decide⟩, pe_K_wI, pe_K_wR, pk_oK f_a2]; (repeat' apply And.intro) <;> first | assumption | omega | decide)
  · try simp (disch := omega) only [pe_wi w0, pe_wi (x := 6) ⟨by decide, by decide⟩, pe_K_wI, pe_K_wR, pk_oK f_a2]
    exact pe_two' k1 k2
theorem b36_9 {d : Nat} {Φ : Option pe_V → pe_H → Prop} {σ : pe_H} {o0 : Option pe_V} {a1 : Nat} {a2 : Nat} (f_a1 : pk_Fo a1 σ := by assumption) (f_a2 : pk_Fo a2 σ := by assumption)   (k : pe_X d 36 (58, [o0, some (.inr (.inr a1)), some (.inr (.inr a2))], [], pe_wI σ a1 3 (pe_I σ a2 3)) Φ) : pe_X d 36 (9, [o0, some (.inr (.inr a1)), some (.inr (.inr a2))], [], σ) Φ := by
  refine pe_blk 4 5 ck36 [pe_K σ a2 = 0, pe_K σ a1 = 0] (58, [o0, some (.inr (.inr a1)), some (.inr (.inr a2))], [], pe_wI σ a1 3 (pe_I σ a2 3)) rfl ?_ ?_
  · first
    | (simp (disch := omega) only [pe_all, pe_K_wI, pe_K_wR, pk_oK f_a1, pk_oK f_a2]; done)
    | (simp (disch := omega) only [pe_all, pe_K_wI, pe_K_wR, pk_oK f_a1, pk_oK f_a2]; (repeat' apply And.intro) <;> first | assumption | omega | decide)
  · try simp (disch := omega) only [pe_K_wI, pe_K_wR, pk_oK f_a1, pk_oK f_a2]
    exact k
theorem b36_20 {d : Nat} {Φ : Option pe_V → pe_H → Prop} {σ : pe_H} {a0 : Nat} {a1 : Nat} {a2 : Nat} (f_a0 : pk_Fm a0 σ := by assumption) (f_a1 : pk_Fo a1 σ := by assumption) (f_a2 : pk_Fo a2 σ := by assumption) (w0 : pe_in (pe_I σ a2 2) := by unfold pe_in; omega)  (k1 : ¬ (pe_I σ a2 2) = 7 → pe_X d 36 (47, [some (.inr (.inr a0)), some (.inr (.inr a1)), some (.inr (.inr a2))], [], σ) Φ) (k2 : (pe_I σ a2 2) = 7 → pe_X d 36 (29, [some (.inr (.inr a0)), some (.inr (.inr a1)), some (.inr (.inr a2))], [], σ) Φ) : pe_X d 36 (20, [some (.inr (.inr a0)), some (.inr (.inr a1)), some (.inr (.inr a2))], [], σ) Φ := by
  refine pe_blk 9 4 ck36 [pe_K σ a2 = 0] (cond (decide (¬ (pe_w (pe_I σ a2 2)) = (pe_w 7))) 47 29, [some (.inr (.inr a0)), some (.inr (.inr a1)), some (.inr (.inr a2))], [], σ) rfl ?_ ?_
  · first
    | (simp (disch := omega) only [pe_all, pe_wi w0, pe_wi (x := 7) ⟨by decide, by decide⟩, pe_K_wI, pe_K_wR, pk_oK f_a2]; done)
    | (simp (disch := omega) only [pe_all, pe_wi w0, pe_wi (x := 7) ⟨by decide, by decide⟩, pe_K_wI, pe_K_wR, pk_oK f_a2]; (repeat' apply And.intro) <;> first | assumption | omega | decide)
  · try simp (disch := omega) only [pe_wi w0, pe_wi (x := 7) ⟨by decide, by decide⟩, pe_K_wI, pe_K_wR, pk_oK f_a2]
    exact pe_two' k1 k2
theorem b36_29 {d : Nat} {Φ : Option pe_V → pe_H → Prop} {σ : pe_H} {a0 : Nat} {a1 : Nat} {a2 : Nat} (f_a0 : pk_Fm a0 σ := by assumption) (f_a1 : pk_Fo a1 σ := by assumption) (f_a2 : pk_Fo a2 σ := by assumption)   (k : pe_M d 39 [.inr (.inr a0), .inl 8, .inl (pe_I σ a2 8)] σ (fun r σ' => pe_X d 36 (41, [some (.inr (.inr a0)), some (.inr (.inr a1)), some (.inr (.inr a2))], r.toList ++ [.inr (.inr a1), .inr (.inr a0)], σ') Φ)) : pe_X d 36 (29, [some (.inr (.inr a0)), some (.inr (.inr a1)), some (.inr (.inr a2))], [], σ) Φ := by
  refine pe_blk 13 6 ck36 [pe_K σ a2 = 0] (38, [some (.inr (.inr a0)), some (.inr (.inr a1)), some (.inr (.inr a2))], [.inl (pe_I σ a2 8), .inl 8, .inr (.inr a0), .inr (.inr a1), .inr (.inr a0)], σ) rfl ?_ ?_
  · first
    | (simp (disch := omega) only [pe_all, pe_K_wI, pe_K_wR, pk_mK f_a0, pk_oK f_a2]; done)
    | (simp (disch := omega) only [pe_all, pe_K_wI, pe_K_wR, pk_mK f_a0, pk_oK f_a2]; (repeat' apply And.intro) <;> first | assumption | omega | decide)
  · try simp (disch := omega) only [pe_K_wI, pe_K_wR, pk_mK f_a0, pk_oK f_a2]
    have hrc : pe_K σ a0 = 2 := by first | assumption | (simp (disch := omega) only [pe_K_wI, pe_K_wR, pk_mK f_a0, pk_oK f_a2]; done) | (simp (disch := omega) only [pe_K_wI, pe_K_wR, pk_mK f_a0, pk_oK f_a2]; assumption)
    exact pe_cal 19 ck36 rfl rfl rfl ⟨hrc, by decide⟩ k
theorem b36_41 {d : Nat} {Φ : Option pe_V → pe_H → Prop} {σ : pe_H} {o0 : Option pe_V} {o1 : Option pe_V} {o2 : Option pe_V} {b0 : Nat} {b1 : Nat} {s2 : Int} (f_b0 : pk_Fm b0 σ := by assumption) (f_b1 : pk_Fo b1 σ := by assumption)   (k : pe_M d 40 [.inr (.inr b0), .inr (.inr b1), .inl s2] σ (fun r σ' => pe_X d 36 (44, [o0, o1, o2], r.toList ++ [], σ') Φ)) : pe_X d 36 (41, [o0, o1, o2], [.inl s2, .inr (.inr b1), .inr (.inr b0)], σ) Φ := by
  have hrc : pe_K σ b0 = 2 := by first | assumption | (simp (disch := omega) only [pe_K_wI, pe_K_wR, pk_mK f_b0]; done) | (simp (disch := omega) only [pe_K_wI, pe_K_wR, pk_mK f_b0]; assumption)
  exact pe_cal 20 ck36 rfl rfl rfl ⟨hrc, by decide⟩ k
theorem b36_44 {d : Nat} {Φ : Option pe_V → pe_H → Prop} {σ : pe_H} {o0 : Option pe_V} {o1 : Option pe_V} {o2 : Option pe_V}    (k : pe_X d 36 (58, [o0, o1, o2], [], σ) Φ) : pe_X d 36 (44, [o0, o1, o2], [], σ) Φ := by
  refine pe_blk 21 1 ck36 [] (58, [o0, o1, o2], [], σ) rfl ?_ ?_
  · exact trivial
  · exact k
theorem b36_47 {d : Nat} {Φ : Option pe_V → pe_H → Prop} {σ : pe_H} {a0 : Nat} {a1 : Nat} {o2 : Option pe_V} (f_a0 : pk_Fm a0 σ := by assumption) (f_a1 : pk_Fo a1 σ := by assumption)   (k : pe_M d 39 [.inr (.inr a0), .inl 5, .inl (-1)] σ (fun r σ' => pe_X d 36 (55, [some (.inr (.inr a0)), some (.inr (.inr a1)), o2], r.toList ++ [.inr (.inr a1), .inr (.inr a0)], σ') Φ)) : pe_X d 36 (47, [some (.inr (.inr a0)), some (.inr (.inr a1)), o2], [], σ) Φ := by
  refine pe_blk 22 5 ck36 [] (52, [some (.inr (.inr a0)), some (.inr (.inr a1)), o2], [.inl (-1), .inl 5, .inr (.inr a0), .inr (.inr a1), .inr (.inr a0)], σ) rfl ?_ ?_
  · exact trivial
  · try simp (disch := omega) only [pe_K_wI, pe_K_wR, pk_mK f_a0]
    have hrc : pe_K σ a0 = 2 := by first | assumption | (simp (disch := omega) only [pe_K_wI, pe_K_wR, pk_mK f_a0]; done) | (simp (disch := omega) only [pe_K_wI, pe_K_wR, pk_mK f_a0]; assumption)
    exact pe_cal 27 ck36 rfl rfl rfl ⟨hrc, by decide⟩ k
theorem b36_55 {d : Nat} {Φ : Option pe_V → pe_H → Prop} {σ : pe_H} {o0 : Option pe_V} {o1 : Option pe_V} {o2 : Option pe_V} {b0 : Nat} {b1 : Nat} {s2 : Int} (f_b0 : pk_Fm b0 σ := by assumption) (f_b1 : pk_Fo b1 σ := by assumption)   (k : pe_M d 40 [.inr (.inr b0), .inr (.inr b1), .inl s2] σ (fun r σ' => pe_X d 36 (58, [o0, o1, o2], r.toList ++ [], σ') Φ)) : pe_X d 36 (55, [o0, o1, o2], [.inl s2, .inr (.inr b1), .inr (.inr b0)], σ) Φ := by
  have hrc : pe_K σ b0 = 2 := by first | assumption | (simp (disch := omega) only [pe_K_wI, pe_K_wR, pk_mK f_b0]; done) | (simp (disch := omega) only [pe_K_wI, pe_K_wR, pk_mK f_b0]; assumption)
  exact pe_cal 28 ck36 rfl rfl rfl ⟨hrc, by decide⟩ k
theorem b36_58 {d : Nat} {Φ : Option pe_V → pe_H → Prop} {σ : pe_H} {o0 : Option pe_V} {o1 : Option pe_V} {o2 : Option pe_V}    (k : Φ none σ) : pe_X d 36 (58, [o0, o1, o2], [], σ) Φ := by
  exact pe_fine 29 ck36 rfl rfl rfl trivial k
-- StepMachines$Machine.tellJoining(LStepMachines$Machine;II)V
def T37 : List (Nat × Instr × Nat) := [(0, .iload_n 2, 1), (1, .bipush 8, 2), (3, .if_icmp .lt 4, 3), (6, .return_, 1), (7, .iconst 0, 1), (8, .istore_n 3, 1), (9, .iload_n 3, 1), (10, .aload_n 0, 1), (11, .getfield 32, 3), (14, .if_icmp .ge 68, 3), (17, .aload_n 0, 1), (18, .getfield 19, 3), (21, .iload_n 3, 1), (22, .aaload, 1), (23, .astore 4, 2), (25, .aload 4, 2), (27, .getfield 83, 3), (30, .iconst 5, 1), (31, .if_icmp .ne 45, 3), (34, .aload 4, 2), (36, .getfield 231, 3), (39, .iload_n 1, 1), (40, .if_icmp .ne 36, 3), (43, .aload 4, 2), (45, .invokevirtual 110, 3), (48, .aload_n 0, 1), (49, .aload 4, 2), (51, .aload_n 0, 1), (52, .getfield 19, 3), (55, .iload_n 1, 1), (56, .aaload, 1), (57, .invokevirtual 212, 3), (60, .aload 4, 2), (62, .invokevirtual 79, 3), (65, .ifCond .eq 11, 3), (68, .aload_n 0, 1), (69, .iload_n 3, 1), (70, .iload_n 2, 1), (71, .iconst 1, 1), (72, .iadd, 1), (73, .invokestatic 116, 3), (76, .iinc 3 1, 3), (79, .goto (-70), 3), (82, .return_, 1)]
theorem ck37 : pe_ctx 37 2 false none 5 T37 := ⟨rfl, rfl, rfl, rfl, by decide +kernel, by decide, by decide⟩
theorem b37_0 {d : Nat} {Φ : Option pe_V → pe_H → Prop} {σ : pe_H} {a0 : Nat} {x1 : Int} {x2 : Int} {o3 : Option pe_V} {o4 : Option pe_V} (f_a0 : pk_Fm a0 σ := by assumption) (w0 : pe_in x2 := by unfold pe_in; omega)  (k1 : x2 < 8 → pe_X d 37 (7, [some (.inr (.inr a0)), some (.inl x1), some (.inl x2), o3, o4], [], σ) Φ) (k2 : ¬ (x2 < 8) → pe_X d 37 (6, [some (.inr (.inr a0)), some (.inl x1), some (.inl x2), o3, o4], [], σ) Φ) : pe_X d 37 (0, [some (.inr (.inr a0)), some (.inl x1), some (.inl x2), o3, o4], [], σ) Φ := by
  refine pe_blk 0 3 ck37 [] (cond (decide ((pe_w x2) < (pe_w 8))) 7 6, [some (.inr (.inr a0)), some (.inl x1), some (.inl x2), o3, o4], [], σ) rfl ?_ ?_
  · exact trivial
  · try simp (disch := omega) only [pe_wi w0, pe_wi (x := 8) ⟨by decide, by decide⟩]
    exact pe_two k1 k2
theorem b37_7 {d : Nat} {Φ : Option pe_V → pe_H → Prop} {σ : pe_H} {a0 : Nat} {x1 : Int} {x2 : Int} {o3 : Option pe_V} {o4 : Option pe_V} (f_a0 : pk_Fm a0 σ := by assumption)   (k : pe_X d 37 (9, [some (.inr (.inr a0)), some (.inl x1), some (.inl x2), some (.inl 0), o4], [], σ) Φ) : pe_X d 37 (7, [some (.inr (.inr a0)), some (.inl x1), some (.inl x2), o3, o4], [], σ) Φ := by
  refine pe_blk 4 2 ck37 [] (9, [some (.inr (.inr a0)), some (.inl x1), some (.inl x2), some (.inl 0), o4], [], σ) rfl ?_ ?_
  · exact trivial
  · exact k
theorem b37_9 {d : Nat} {Φ : Option pe_V → pe_H → Prop} {σ : pe_H} {a0 : Nat} {x1 : Int} {x2 : Int} {x3 : Int} {o4 : Option pe_V} (f_a0 : pk_Fm a0 σ := by assumption) (w0 : pe_in (pe_I σ a0 4) := by unfold pe_in; omega) (w1 : pe_in x3 := by unfold pe_in; omega)  (k1 : (pe_I σ a0 4) ≤ x3 → pe_X d 37 (82, [some (.inr (.inr a0)), some (.inl x1), some (.inl x2), some (.inl x3), o4], [], σ) Φ) (k2 : ¬ ((pe_I σ a0 4) ≤ x3) → pe_X d 37 (17, [some (.inr (.inr a0)), some (.inl x1), some (.inl x2), some (.inl x3), o4], [], σ) Φ) : pe_X d 37 (9, [some (.inr (.inr a0)), some (.inl x1), some (.inl x2), some (.inl x3), o4], [], σ) Φ := by
  refine pe_blk 6 4 ck37 [pe_K σ a0 = 2] (cond (decide ((pe_w (pe_I σ a0 4)) ≤ (pe_w x3))) 82 17, [some (.inr (.inr a0)), some (.inl x1), some (.inl x2), some (.inl x3), o4], [], σ) rfl ?_ ?_
  · first
    | (simp (disch := omega) only [pe_all, pe_wi w0, pe_wi w1, pe_K_wI, pe_K_wR, pk_mK f_a0]; done)
    | (simp (disch := omega) only [pe_all, pe_wi w0, pe_wi w1, pe_K_wI, pe_K_wR, pk_mK f_a0]; (repeat' apply And.intro) <;> first | assumption | omega | decide)
  · try simp (disch := omega) only [pe_wi w0, pe_wi w1, pe_K_wI, pe_K_wR, pk_mK f_a0]
    exact pe_two k1 k2
theorem b37_17 {d : Nat} {Φ : Option pe_V → pe_H → Prop} {σ : pe_H} {a0 : Nat} {x1 : Int} {x2 : Int} {x3 : Int} {o4 : Option pe_V} (f_a0 : pk_Fm a0 σ := by assumption) (w0 : pe_in x3 := by unfold pe_in; omega) (w1 : pe_in (pe_I σ (pk_c a0 x3) 2) := by unfold pe_in; omega) (h0 : 0 ≤ x3 := by first | assumption | omega) (h1 : x3 < 8 := by first | assumption | omega) (k1 : ¬ (pe_I σ (pk_c a0 x3) 2) = 5 → pe_X d 37 (76, [some (.inr (.inr a0)), some (.inl x1), some (.inl x2), some (.inl x3), some (.inr (.inr (pk_c a0 x3)))], [], σ) Φ) (k2 : (pe_I σ (pk_c a0 x3) 2) = 5 → pe_X d 37 (34, [some (.inr (.inr a0)), some (.inl x1), some (.inl x2), some (.inl x3), some (.inr (.inr (pk_c a0 x3)))], [], σ) Φ) : pe_X d 37 (17, [some (.inr (.inr a0)), some (.inl x1), some (.inl x2), some (.inl x3), o4], [], σ) Φ := by
  refine pe_blk 10 9 ck37 [pe_K σ a0 = 2, 12 ≤ pe_K σ (pe_R σ a0 1) ∧ pe_K σ (pe_R σ a0 1) < 19, 0 ≤ (pe_w x3), (pe_w x3) < pe_L σ (pe_R σ a0 1), pe_K σ (pe_R σ (pe_R σ a0 1) (pe_w x3)) = 0] (cond (decide (¬ (pe_w (pe_I σ (pe_R σ (pe_R σ a0 1) (pe_w x3)) 2)) = (pe_w 5))) 76 34, [some (.inr (.inr a0)), some (.inl x1), some (.inl x2), some (.inl x3), some (.inr (.inr (pe_R σ (pe_R σ a0 1) (pe_w x3))))], [], σ) rfl ?_ ?_
  · first
    | (simp (disch := omega) only [pe_all, pe_wi w0, pe_wi w1, pe_wi (x := 5) ⟨by decide, by decide⟩, pe_K_wI, pe_K_wR, pe_L_wI, pe_L_wR, pe_R_nej, pe_R_ner, pe_R_wI, pk_mE2 f_a0 (i := x3) (by omega) (by omega), pk_mK f_a0, pk_mK2 f_a0, pk_mL2 f_a0, pk_mR2 f_a0, pk_oK (pk_mO f_a0 (i := x3) (by omega) (by omega))]; done)
    | (simp (disch := omega) only [pe_all, pe_wi w0, pe_wi w1, pe_wi (x := 5) ⟨by decide, by decide⟩, pe_K_wI, pe_K_wR, pe_L_wI, pe_L_wR, pe_R_nej, pe_R_ner, pe_R_wI, pk_mE2 f_a0 (i := x3) (by omega) (by omega), pk_mK f_a0, pk_mK2 f_a0, pk_mL2 f_a0, pk_mR2 f_a0, pk_oK (pk_mO f_a0 (i := x3) (by omega) (by omega))]; (repeat' apply And.intro) <;> first | assumption | omega | decide)
  · try simp (disch := omega) only [pe_wi w0, pe_wi w1, pe_wi (x := 5) ⟨by decide, by decide⟩, pe_K_wI, pe_K_wR, pe_L_wI, pe_L_wR, pe_R_nej, pe_R_ner, pe_R_wI, pk_mE2 f_a0 (i := x3) (by omega) (by omega), pk_mK f_a0, pk_mK2 f_a0, pk_mL2 f_a0, pk_mR2 f_a0, pk_oK (pk_mO f_a0 (i := x3) (by omega) (by omega))]
    exact pe_two' k1 k2
theorem b37_34 {d : Nat} {Φ : Option pe_V → pe_H → Prop} {σ : pe_H} {a0 : Nat} {x1 : Int} {x2 : Int} {x3 : Int} {a4 : Nat} (f_a0 : pk_Fm a0 σ := by assumption) (f_a4 : pk_Fo a4 σ := by assumption) (w0 : pe_in x1 := by unfold pe_in; omega) (w1 : pe_in (pe_I σ a4 7) := by unfold pe_in; omega)  (k1 : ¬ (pe_I σ a4 7) = x1 → pe_X d 37 (76, [some (.inr (.inr a0)), some (.inl x1), some (.inl x2), some (.inl x3), some (.inr (.inr a4))], [], σ) Φ) (k2 : (pe_I σ a4 7) = x1 → pe_X d 37 (43, [some (.inr (.inr a0)), some (.inl x1), some (.inl x2), some (.inl x3), some (.inr (.inr a4))], [], σ) Φ) : pe_X d 37 (34, [some (.inr (.inr a0)), some (.inl x1), some (.inl x2), some (.inl x3), some (.inr (.inr a4))], [], σ) Φ := by
  refine pe_blk 19 4 ck37 [pe_K σ a4 = 0] (cond (decide (¬ (pe_w (pe_I σ a4 7)) = (pe_w x1))) 76 43, [some (.inr (.inr a0)), some (.inl x1), some (.inl x2), some (.inl x3), some (.inr (.inr a4))], [], σ) rfl ?_ ?_
  · first
    | (simp (disch := omega) only [pe_all, pe_wi w0, pe_wi w1, pe_K_wI, pe_K_wR, pk_oK f_a4]; done)
    | (simp (disch := omega) only [pe_all, pe_wi w0, pe_wi w1, pe_K_wI, pe_K_wR, pk_oK f_a4]; (repeat' apply And.intro) <;> first | assumption | omega | decide)
  · try simp (disch := omega) only [pe_wi w0, pe_wi w1, pe_K_wI, pe_K_wR, pk_oK f_a4]
    exact pe_two' k1 k2
theorem b37_43 {d : Nat} {Φ : Option pe_V → pe_H → Prop} {σ : pe_H} {a0 : Nat} {x1 : Int} {x2 : Int} {x3 : Int} {a4 : Nat} (f_a0 : pk_Fm a0 σ := by assumption) (f_a4 : pk_Fo a4 σ := by assumption)   (k : pe_M d 8 [.inr (.inr a4)] σ (fun r σ' => pe_X d 37 (48, [some (.inr (.inr a0)), some (.inl x1), some (.inl x2), some (.inl x3), some (.inr (.inr a4))], r.toList ++ [], σ') Φ)) : pe_X d 37 (43, [some (.inr (.inr a0)), some (.inl x1), some (.inl x2), some (.inl x3), some (.inr (.inr a4))], [], σ) Φ := by
  refine pe_blk 23 1 ck37 [] (45, [some (.inr (.inr a0)), some (.inl x1), some (.inl x2), some (.inl x3), some (.inr (.inr a4))], [.inr (.inr a4)], σ) rfl ?_ ?_
  · exact trivial
  · try simp (disch := omega) only [pe_K_wI, pe_K_wR, pk_oK f_a4]
    have hrc : pe_K σ a4 = 0 := by first | assumption | (simp (disch := omega) only [pe_K_wI, pe_K_wR, pk_oK f_a4]; done) | (simp (disch := omega) only [pe_K_wI, pe_K_wR, pk_oK f_a4]; assumption)
    exact pe_cal 24 ck37 rfl rfl rfl ⟨hrc, by decide⟩ k
theorem b37_48 {d : Nat} {Φ : Option pe_V → pe_H → Prop} {σ : pe_H} {a0 : Nat} {x1 : Int} {x2 : Int} {x3 : Int} {a4 : Nat} (f_a0 : pk_Fm a0 σ := by assumption) (f_a4 : pk_Fo a4 σ := by assumption) (w0 : pe_in x1 := by unfold pe_in; omega) (h0 : 0 ≤ x1 := by first | assumption | omega) (h1 : x1 < 8 := by first | assumption | omega) (k : pe_M d 36 [.inr (.inr a0), .inr (.inr a4), .inr (.inr (pk_c a0 x1))] σ (fun r σ' => pe_X d 37 (60, [some (.inr (.inr a0)), some (.inl x1), some (.inl x2), some (.inl x3), some (.inr (.inr a4))], r.toList ++ [], σ') Φ)) : pe_X d 37 (48, [some (.inr (.inr a0)), some (.inl x1), some (.inl x2), some (.inl x3), some (.inr (.inr a4))], [], σ) Φ := by
  refine pe_blk 25 6 ck37 [pe_K σ a0 = 2, 12 ≤ pe_K σ (pe_R σ a0 1) ∧ pe_K σ (pe_R σ a0 1) < 19, 0 ≤ (pe_w x1), (pe_w x1) < pe_L σ (pe_R σ a0 1)] (57, [some (.inr (.inr a0)), some (.inl x1), some (.inl x2), some (.inl x3), some (.inr (.inr a4))], [.inr (.inr (pe_R σ (pe_R σ a0 1) (pe_w x1))), .inr (.inr a4), .inr (.inr a0)], σ) rfl ?_ ?_
  · first
    | (simp (disch := omega) only [pe_all, pe_wi w0, pe_K_wI, pe_K_wR, pe_L_wI, pe_L_wR, pe_R_nej, pe_R_ner, pe_R_wI, pk_mE2 f_a0 (i := x1) (by omega) (by omega), pk_mK f_a0, pk_mK2 f_a0, pk_mL2 f_a0, pk_mR2 f_a0]; done)
    | (simp (disch := omega) only [pe_all, pe_wi w0, pe_K_wI, pe_K_wR, pe_L_wI, pe_L_wR, pe_R_nej, pe_R_ner, pe_R_wI, pk_mE2 f_a0 (i := x1) (by omega) (by omega), pk_mK f_a0, pk_mK2 f_a0, pk_mL2 f_a0, pk_mR2 f_a0]; (repeat' apply And.intro) <;> first | assumption | omega | decide)
  · try simp (disch := omega) only [pe_wi w0, pe_K_wI, pe_K_wR, pe_L_wI, pe_L_wR, pe_R_nej, pe_R_ner, pe_R_wI, pk_mE2 f_a0 (i := x1) (by omega) (by omega), pk_mK f_a0, pk_mK2 f_a0, pk_mL2 f_a0, pk_mR2 f_a0]
    have hrc : pe_K σ a0 = 2 := by first | assumption | (simp (disch := omega) only [pe_wi w0, pe_K_wI, pe_K_wR, pe_L_wI, pe_L_wR, pe_R_nej, pe_R_ner, pe_R_wI, pk_mE2 f_a0 (i := x1) (by omega) (by omega), pk_mK f_a0, pk_mK2 f_a0, pk_mL2 f_a0, pk_mR2 f_a0]; done) | (simp (disch := omega) only [pe_wi w0, pe_K_wI, pe_K_wR, pe_L_wI, pe_L_wR, pe_R_nej, pe_R_ner, pe_R_wI, pk_mE2 f_a0 (i := x1) (by omega) (by omega), pk_mK f_a0, pk_mK2 f_a0, pk_mL2 f_a0, pk_mR2 f_a0]; assumption)
    exact pe_cal 31 ck37 rfl rfl rfl ⟨hrc, by decide⟩ k
theorem b37_60 {d : Nat} {Φ : Option pe_V → pe_H → Prop} {σ : pe_H} {a0 : Nat} {x1 : Int} {x2 : Int} {x3 : Int} {a4 : Nat} (f_a0 : pk_Fm a0 σ := by assumption) (f_a4 : pk_Fo a4 σ := by assumption)   (k : pe_M d 3 [.inr (.inr a4)] σ (fun r σ' => pe_X d 37 (65, [some (.inr (.inr a0)), some (.inl x1), some (.inl x2), some (.inl x3), some (.inr (.inr a4))], r.toList ++ [], σ') Φ)) : pe_X d 37 (60, [some (.inr (.inr a0)), some (.inl x1), some (.inl x2), some (.inl x3), some (.inr (.inr a4))], [], σ) Φ := by
  refine pe_blk 32 1 ck37 [] (62, [some (.inr (.inr a0)), some (.inl x1), some (.inl x2), some (.inl x3), some (.inr (.inr a4))], [.inr (.inr a4)], σ) rfl ?_ ?_
  · exact trivial
  · try simp (disch := omega) only [pe_K_wI, pe_K_wR, pk_oK f_a4]
    have hrc : pe_K σ a4 = 0 := by first | assumption | (simp (disch := omega) only [pe_K_wI, pe_K_wR, pk_oK f_a4]; done) | (simp (disch := omega) only [pe_K_wI, pe_K_wR, pk_oK f_a4]; assumption)
    exact pe_cal 33 ck37 rfl rfl rfl ⟨hrc, by decide⟩ k
theorem b37_65 {d : Nat} {Φ : Option pe_V → pe_H → Prop} {σ : pe_H} {a0 : Nat} {x1 : Int} {x2 : Int} {x3 : Int} {o4 : Option pe_V} {s0 : Int} (f_a0 : pk_Fm a0 σ := by assumption) (w0 : pe_in s0 := by unfold pe_in; omega)  (k1 : s0 = 0 → pe_X d 37 (76, [some (.inr (.inr a0)), some (.inl x1), some (.inl x2), some (.inl x3), o4], [], σ) Φ) (k2 : ¬ (s0 = 0) → pe_X d 37 (68, [some (.inr (.inr a0)), some (.inl x1), some (.inl x2), some (.inl x3), o4], [], σ) Φ) : pe_X d 37 (65, [some (.inr (.inr a0)), some (.inl x1), some (.inl x2), some (.inl x3), o4], [.inl s0], σ) Φ := by
  refine pe_blk 34 1 ck37 [] (cond (decide ((pe_w s0) = 0)) 76 68, [some (.inr (.inr a0)), some (.inl x1), some (.inl x2), some (.inl x3), o4], [], σ) rfl ?_ ?_
  · exact trivial
  · try simp (disch := omega) only [pe_wi w0]
    exact pe_two k1 k2
theorem b37_68 {d : Nat} {Φ : Option pe_V → pe_H → Prop} {σ : pe_H} {a0 : Nat} {x1 : Int} {x2 : Int} {x3 : Int} {o4 : Option pe_V} (f_a0 : pk_Fm a0 σ := by assumption)   (k : pe_M d 37 [.inr (.inr a0), .inl x3, .inl (x2 + 1)] σ (fun r σ' => pe_X d 37 (76, [some (.inr (.inr a0)), some (.inl x1), some (.inl x2), some (.inl x3), o4], r.toList ++ [], σ') Φ)) : pe_X d 37 (68, [some (.inr (.inr a0)), some (.inl x1), some (.inl x2), some (.inl x3), o4], [], σ) Φ := by
  refine pe_blk 35 5 ck37 [] (73, [some (.inr (.inr a0)), some (.inl x1), some (.inl x2), some (.inl x3), o4], [.inl (x2 + 1), .inl x3, .inr (.inr a0)], σ) rfl ?_ ?_
  · exact trivial
  · exact pe_cal 40 ck37 rfl rfl rfl trivial k
theorem b37_76 {d : Nat} {Φ : Option pe_V → pe_H → Prop} {σ : pe_H} {a0 : Nat} {x1 : Int} {x2 : Int} {x3 : Int} {o4 : Option pe_V} (f_a0 : pk_Fm a0 σ := by assumption)   (k : pe_X d 37 (9, [some (.inr (.inr a0)), some (.inl x1), some (.inl x2), some (.inl (x3 + 1)), o4], [], σ) Φ) : pe_X d 37 (76, [some (.inr (.inr a0)), some (.inl x1), some (.inl x2), some (.inl x3), o4], [], σ) Φ := by
  refine pe_blk 41 2 ck37 [] (9, [some (.inr (.inr a0)), some (.inl x1), some (.inl x2), some (.inl (x3 + 1)), o4], [], σ) rfl ?_ ?_
  · exact trivial
  · exact k
theorem b37_82 {d : Nat} {Φ : Option pe_V → pe_H → Prop} {σ : pe_H} {o0 : Option pe_V} {o1 : Option pe_V} {o2 : Option pe_V} {o3 : Option pe_V} {o4 : Option pe_V}    (k : Φ none σ) : pe_X d 37 (82, [o0, o1, o2, o3, o4], [], σ) Φ := by
  exact pe_fine 43 ck37 rfl rfl rfl trivial k
-- StepMachines$Machine.endTop(LStepMachines$Coroutine;)V
def T38 : List (Nat × Instr × Nat) := [(0, .aload_n 1, 1), (1, .getfield 151, 3), (4, .aload_n 1, 1), (5, .getfield 148, 3), (8, .iconst 1, 1), (9, .isub, 1), (10, .aaload, 1), (11, .getfield 234, 3), (14, .istore_n 2, 1), (15, .aload_n 1, 1), (16, .dup, 1), (17, .getfield 148, 3), (20, .iconst 1, 1), (21, .isub, 1), (22, .putfield 148, 3), (25, .iload_n 2, 1), (26, .iconst (-1), 1), (27, .if_icmp .ne 10, 3), (30, .aload_n 1, 1), (31, .invokevirtual 113, 3), (34, .goto 29, 3), (37, .iload_n 2, 1), (38, .ifCond .lt 12, 3), (41, .aload_n 0, 1), (42, .aload_n 1, 1), (43, .iload_n 2, 1), (44, .invokevirtual 187, 3), (47, .goto 16, 3), (50, .aload_n 1, 1), (51, .getfield 148, 3), (54, .ifCond .ne 9, 3), (57, .aload_n 1, 1), (58, .bipush 6, 2), (60, .putfield 83, 3), (63, .return_, 1)]
theorem ck38 : pe_ctx 38 2 false none 3 T38 := ⟨rfl, rfl, rfl, rfl, by decide +kernel, by decide, by decide⟩
theorem b38_0 {d : Nat} {Φ : Option pe_V → pe_H → Prop} {σ : pe_H} {a0 : Nat} {a1 : Nat} {o2 : Option pe_V} (f_a0 : pk_Fm a0 σ := by assumption) (f_a1 : pk_Fo a1 σ := by assumption) (w0 : pe_in ((pe_I σ a1 9) - 1) := by unfold pe_in; omega) (w1 : pe_in (pe_I σ (pk_f a1 ((pe_I σ a1 9) - 1)) 5) := by unfold pe_in; omega) (h0 : 0 ≤ ((pe_I σ a1 9) - 1) := by first | assumption | omega) (h1 : ((pe_I σ a1 9) - 1) < 6 := by first | assumption | omega) (k1 : ¬ (pe_I σ (pk_f a1 ((pe_I σ a1 9) - 1)) 5) = (-1) → pe_X d 38 (37, [some (.inr (.inr a0)), some (.inr (.inr a1)), some (.inl (pe_I σ (pk_f a1 ((pe_I σ a1 9) - 1)) 5))], [], pe_wI σ a1 9 ((pe_I σ a1 9) - 1)) Φ) (k2 : (pe_I σ (pk_f a1 ((pe_I σ a1 9) - 1)) 5) = (-1) → pe_X d 38 (30, [some (.inr (.inr a0)), some (.inr (.inr a1)), some (.inl (pe_I σ (pk_f a1 ((pe_I σ a1 9) - 1)) 5))], [], pe_wI σ a1 9 ((pe_I σ a1 9) - 1)) Φ) : pe_X d 38 (0, [some (.inr (.inr a0)), some (.inr (.inr a1)), o2], [], σ) Φ := by
  refine pe_blk 0 18 ck38 [pe_K σ a1 = 0, pe_K σ a1 = 0, 12 ≤ pe_K σ (pe_R σ a1 10) ∧ pe_K σ (pe_R σ a1 10) < 19, 0 ≤ (pe_w ((pe_I σ a1 9) - 1)), (pe_w ((pe_I σ a1 9) - 1)) < pe_L σ (pe_R σ a1 10), pe_K σ (pe_R σ (pe_R σ a1 10) (pe_w ((pe_I σ a1 9) - 1))) = 1, pe_K σ a1 = 0, pe_K σ a1 = 0] (cond (decide (¬ (pe_w (pe_I σ (pe_R σ (pe_R σ a1 10) (pe_w ((pe_I σ a1 9) - 1))) 5)) = (pe_w (-1)))) 37 30, [some (.inr (.inr a0)), some (.inr (.inr a1)), some (.inl (pe_I σ (pe_R σ (pe_R σ a1 10) (pe_w ((pe_I σ a1 9) - 1))) 5))], [], pe_wI σ a1 9 ((pe_I σ a1 9) - 1)) rfl ?_ ?_
  · first
    | (simp (disch := omega) only [pe_all, pe_wi w0, pe_wi w1, pe_wi (x := (-1)) ⟨by decide, by decide⟩, pe_K_wI, pe_K_wR, pe_L_wI, pe_L_wR, pe_R_nej, pe_R_ner, pe_R_wI, pk_oE f_a1 (i := (pe_I σ a1 9) - 1) (by omega) (by omega), pk_oEK f_a1 (i := (pe_I σ a1 9) - 1) (by omega) (by omega), pk_oK f_a1, pk_oK1 f_a1, pk_oL1 f_a1, pk_oR f_a1]; done)
    | (simp (disch := omega) only [pe_all, pe_wi w0, pe_wi w1, pe_wi (x := (-1)) ⟨by decide, by decide⟩, pe_K_wI, pe_K_wR, pe_L_wI, pe_L_wR, pe_R_nej, pe_R_ner, pe_R_wI, pk_oE f_a1 (i := (pe_I σ a1 9) - 1) (by omega) (by omega), pk_oEK f_a1 (i := (pe_I σ a1 9) - 1) (by omega) (by omega), pk_oK f_a1, pk_oK1 f_a1, pk_oL1 f_a1, pk_oR f_a1]; (repeat' apply And.intro) <;> first | assumption | omega | decide)
  · try simp (disch := omega) only [pe_wi w0, pe_wi w1, pe_wi (x := (-1)) ⟨by decide, by decide⟩, pe_K_wI, pe_K_wR, pe_L_wI, pe_L_wR, pe_R_nej, pe_R_ner, pe_R_wI, pk_oE f_a1 (i := (pe_I σ a1 9) - 1) (by omega) (by omega), pk_oEK f_a1 (i := (pe_I σ a1 9) - 1) (by omega) (by omega), pk_oK f_a1, pk_oK1 f_a1, pk_oL1 f_a1, pk_oR f_a1]
    exact pe_two' k1 k2
theorem b38_30 {d : Nat} {Φ : Option pe_V → pe_H → Prop} {σ : pe_H} {o0 : Option pe_V} {a1 : Nat} {o2 : Option pe_V} (f_a1 : pk_Fo a1 σ := by assumption)   (k : pe_M d 10 [.inr (.inr a1)] σ (fun r σ' => pe_X d 38 (34, [o0, some (.inr (.inr a1)), o2], r.toList ++ [], σ') Φ)) : pe_X d 38 (30, [o0, some (.inr (.inr a1)), o2], [], σ) Φ := by
  refine pe_blk 18 1 ck38 [] (31, [o0, some (.inr (.inr a1)), o2], [.inr (.inr a1)], σ) rfl ?_ ?_
  · exact trivial
  · try simp (disch := omega) only [pe_K_wI, pe_K_wR, pk_oK f_a1]
    have hrc : pe_K σ a1 = 0 := by first | assumption | (simp (disch := omega) only [pe_K_wI, pe_K_wR, pk_oK f_a1]; done) | (simp (disch := omega) only [pe_K_wI, pe_K_wR, pk_oK f_a1]; assumption)
    exact pe_cal 19 ck38 rfl rfl rfl ⟨hrc, by decide⟩ k
theorem b38_34 {d : Nat} {Φ : Option pe_V → pe_H → Prop} {σ : pe_H} {o0 : Option pe_V} {o1 : Option pe_V} {o2 : Option pe_V}    (k : pe_X d 38 (63, [o0, o1, o2], [], σ) Φ) : pe_X d 38 (34, [o0, o1, o2], [], σ) Φ := by
  refine pe_blk 20 1 ck38 [] (63, [o0, o1, o2], [], σ) rfl ?_ ?_
  · exact trivial
  · exact k
theorem b38_37 {d : Nat} {Φ : Option pe_V → pe_H → Prop} {σ : pe_H} {a0 : Nat} {a1 : Nat} {x2 : Int} (f_a0 : pk_Fm a0 σ := by assumption) (f_a1 : pk_Fo a1 σ := by assumption) (w0 : pe_in x2 := by unfold pe_in; omega)  (k1 : x2 < 0 → pe_X d 38 (50, [some (.inr (.inr a0)), some (.inr (.inr a1)), some (.inl x2)], [], σ) Φ) (k2 : ¬ (x2 < 0) → pe_X d 38 (41, [some (.inr (.inr a0)), some (.inr (.inr a1)), some (.inl x2)], [], σ) Φ) : pe_X d 38 (37, [some (.inr (.inr a0)), some (.inr (.inr a1)), some (.inl x2)], [], σ) Φ := by
  refine pe_blk 21 2 ck38 [] (cond (decide ((pe_w x2) < 0)) 50 41, [some (.inr (.inr a0)), some (.inr (.inr a1)), some (.inl x2)], [], σ) rfl ?_ ?_
  · exact trivial
  · try simp (disch := omega) only [pe_wi w0]
    exact pe_two k1 k2
theorem b38_41 {d : Nat} {Φ : Option pe_V → pe_H → Prop} {σ : pe_H} {a0 : Nat} {a1 : Nat} {x2 : Int} (f_a0 : pk_Fm a0 σ := by assumption) (f_a1 : pk_Fo a1 σ := by assumption)   (k : pe_M d 40 [.inr (.inr a0), .inr (.inr a1), .inl x2] σ (fun r σ' => pe_X d 38 (47, [some (.inr (.inr a0)), some (.inr (.inr a1)), some (.inl x2)], r.toList ++ [], σ') Φ)) : pe_X d 38 (41, [some (.inr (.inr a0)), some (.inr (.inr a1)), some (.inl x2)], [], σ) Φ := by
  refine pe_blk 23 3 ck38 [] (44, [some (.inr (.inr a0)), some (.inr (.inr a1)), some (.inl x2)], [.inl x2, .inr (.inr a1), .inr (.inr a0)], σ) rfl ?_ ?_
  · exact trivial
  · try simp (disch := omega) only [pe_K_wI, pe_K_wR, pk_mK f_a0]
    have hrc : pe_K σ a0 = 2 := by first | assumption | (simp (disch := omega) only [pe_K_wI, pe_K_wR, pk_mK f_a0]; done) | (simp (disch := omega) only [pe_K_wI, pe_K_wR, pk_mK f_a0]; assumption)
    exact pe_cal 26 ck38 rfl rfl rfl ⟨hrc, by decide⟩ k
theorem b38_47 {d : Nat} {Φ : Option pe_V → pe_H → Prop} {σ : pe_H} {o0 : Option pe_V} {o1 : Option pe_V} {o2 : Option pe_V}    (k : pe_X d 38 (63, [o0, o1, o2], [], σ) Φ) : pe_X d 38 (47, [o0, o1, o2], [], σ) Φ := by
  refine pe_blk 27 1 ck38 [] (63, [o0, o1, o2], [], σ) rfl ?_ ?_
  · exact trivial
  · exact k
theorem b38_50 {d : Nat} {Φ : Option pe_V → pe_H → Prop} {σ : pe_H} {o0 : Option pe_V} {a1 : Nat} {o2 : Option pe_V} (f_a1 : pk_Fo a1 σ := by assumption) (w0 : pe_in (pe_I σ a1 9) := by unfold pe_in; omega)  (k1 : ¬ (pe_I σ a1 9) = 0 → pe_X d 38 (63, [o0, some (.inr (.inr a1)), o2], [], σ) Φ) (k2 : (pe_I σ a1 9) = 0 → pe_X d 38 (57, [o0, some (.inr (.inr a1)), o2], [], σ) Φ) : pe_X d 38 (50, [o0, some (.inr (.inr a1)), o2], [], σ) Φ := by
  refine pe_blk 28 3 ck38 [pe_K σ a1 = 0] (cond (decide (¬ (pe_w (pe_I σ a1 9)) = 0)) 63 57, [o0, some (.inr (.inr a1)), o2], [], σ) rfl ?_ ?_
  · first
    | (simp (disch := omega) only [pe_all, pe_wi w0, pe_K_wI, pe_K_wR, pk_oK f_a1]; done)
    | (simp (disch := omega) only [pe_all, pe_wi w0, pe_K_wI, pe_K_wR, pk_oK f_a1]; (repeat' apply And.intro) <;> first | assumption | omega | decide)
  · try simp (disch := omega) only [pe_wi w0, pe_K_wI, pe_K_wR, pk_oK f_a1]
    exact pe_two' k1 k2
theorem b38_57 {d : Nat} {Φ : Option pe_V → pe_H → Prop} {σ : pe_H} {o0 : Option pe_V} {a1 : Nat} {o2 : Option pe_V} (f_a1 : pk_Fo a1 σ := by assumption)   (k : pe_X d 38 (63, [o0, some (.inr (.inr a1)), o2], [], pe_wI σ a1 2 6) Φ) : pe_X d 38 (57, [o0, some (.inr (.inr a1)), o2], [], σ) Φ := by
  refine pe_blk 31 3 ck38 [pe_K σ a1 = 0] (63, [o0, some (.inr (.inr a1)), o2], [], pe_wI σ a1 2 6) rfl ?_ ?_
  · first
    | (simp (disch := omega) only [pe_all, pe_K_wI, pe_K_wR, pk_oK f_a1]; done)
    | (simp (disch := omega) only [pe_all, pe_K_wI, pe_K_wR, pk_oK f_a1]; (repeat' apply And.intro) <;> first | assumption | omega | decide)
  · try simp (disch := omega) only [pe_K_wI, pe_K_wR, pk_oK f_a1]
    exact k
theorem b38_63 {d : Nat} {Φ : Option pe_V → pe_H → Prop} {σ : pe_H} {o0 : Option pe_V} {o1 : Option pe_V} {o2 : Option pe_V}    (k : Φ none σ) : pe_X d 38 (63, [o0, o1, o2], [], σ) Φ := by
  exact pe_fine 34 ck38 rfl rfl rfl trivial k
-- StepMachines$Machine.newFault(II)I
def T39 : List (Nat × Instr × Nat) := [(0, .aload_n 0, 1), (1, .getfield 58, 3), (4, .sipush 512, 3), (7, .if_icmp .ge 33, 3), (10, .aload_n 0, 1), (11, .getfield 52, 3), (14, .aload_n 0, 1), (15, .getfield 58, 3), (18, .iload_n 1, 1), (19, .iastore, 1), (20, .aload_n 0, 1), (21, .getfield 55, 3), (24, .aload_n 0, 1), (25, .getfield 58, 3), (28, .iload_n 2, 1), (29, .iastore, 1), (30, .aload_n 0, 1), (31, .dup, 1), (32, .getfield 58, 3), (35, .iconst 1, 1), (36, .iadd, 1), (37, .putfield 58, 3), (40, .aload_n 0, 1), (41, .getfield 58, 3), (44, .iconst 1, 1), (45, .isub, 1), (46, .ireturn, 1)]
theorem ck39 : pe_ctx 39 2 false (some .int) 3 T39 := ⟨rfl, rfl, rfl, rfl, by decide +kernel, by decide, by decide⟩
theorem b39_0 {d : Nat} {Φ : Option pe_V → pe_H → Prop} {σ : pe_H} {a0 : Nat} {x1 : Int} {x2 : Int} (f_a0 : pk_Fm a0 σ := by assumption) (w0 : pe_in (pe_I σ a0 12) := by unfold pe_in; omega)  (k1 : 512 ≤ (pe_I σ a0 12) → pe_X d 39 (40, [some (.inr (.inr a0)), some (.inl x1), some (.inl x2)], [], σ) Φ) (k2 : ¬ (512 ≤ (pe_I σ a0 12)) → pe_X d 39 (10, [some (.inr (.inr a0)), some (.inl x1), some (.inl x2)], [], σ) Φ) : pe_X d 39 (0, [some (.inr (.inr a0)), some (.inl x1), some (.inl x2)], [], σ) Φ := by
  refine pe_blk 0 4 ck39 [pe_K σ a0 = 2] (cond (decide ((pe_w 512) ≤ (pe_w (pe_I σ a0 12)))) 40 10, [some (.inr (.inr a0)), some (.inl x1), some (.inl x2)], [], σ) rfl ?_ ?_
  · first
    | (simp (disch := omega) only [pe_all, pe_wi w0, pe_wi (x := 512) ⟨by decide, by decide⟩, pe_K_wI, pe_K_wR, pk_mK f_a0]; done)
    | (simp (disch := omega) only [pe_all, pe_wi w0, pe_wi (x := 512) ⟨by decide, by decide⟩, pe_K_wI, pe_K_wR, pk_mK f_a0]; (repeat' apply And.intro) <;> first | assumption | omega | decide)
  · try simp (disch := omega) only [pe_wi w0, pe_wi (x := 512) ⟨by decide, by decide⟩, pe_K_wI, pe_K_wR, pk_mK f_a0]
    exact pe_two k1 k2
theorem b39_10 {d : Nat} {Φ : Option pe_V → pe_H → Prop} {σ : pe_H} {a0 : Nat} {x1 : Int} {x2 : Int} (f_a0 : pk_Fm a0 σ := by assumption) (w0 : pe_in (pe_I σ a0 12) := by unfold pe_in; omega) (h0 : 0 ≤ (pe_I σ a0 12) := by first | assumption | omega) (h1 : (pe_I σ a0 12) < 512 := by first | assumption | omega) (k : pe_X d 39 (40, [some (.inr (.inr a0)), some (.inl x1), some (.inl x2)], [], pe_wI (pe_wI (pe_wI σ (a0 + 7) (pe_I σ a0 12) x1) (a0 + 8) (pe_I σ a0 12) x2) a0 12 ((pe_I σ a0 12) + 1)) Φ) : pe_X d 39 (10, [some (.inr (.inr a0)), some (.inl x1), some (.inl x2)], [], σ) Φ := by
  have hX0 := pk_m2 f_a0
  refine pe_blk 4 18 ck39 [pe_K σ a0 = 2, pe_K σ a0 = 2, pe_K σ (pe_R σ a0 10) = 10, 0 ≤ (pe_w (pe_I σ a0 12)), (pe_w (pe_I σ a0 12)) < pe_L σ (pe_R σ a0 10), 2 ≤ (pe_R σ a0 10), pe_K (pe_wI σ (pe_R σ a0 10) (pe_w (pe_I σ a0 12)) x1) a0 = 2, pe_K (pe_wI σ (pe_R σ a0 10) (pe_w (pe_I σ a0 12)) x1) a0 = 2, pe_K (pe_wI σ (pe_R σ a0 10) (pe_w (pe_I σ a0 12)) x1) (pe_R (pe_wI σ (pe_R σ a0 10) (pe_w (pe_I σ a0 12)) x1) a0 11) = 10, 0 ≤ (pe_w (pe_I (pe_wI σ (pe_R σ a0 10) (pe_w (pe_I σ a0 12)) x1) a0 12)), (pe_w (pe_I (pe_wI σ (pe_R σ a0 10) (pe_w (pe_I σ a0 12)) x1) a0 12)) < pe_L (pe_wI σ (pe_R σ a0 10) (pe_w (pe_I σ a0 12)) x1) (pe_R (pe_wI σ (pe_R σ a0 10) (pe_w (pe_I σ a0 12)) x1) a0 11), 2 ≤ (pe_R (pe_wI σ (pe_R σ a0 10) (pe_w (pe_I σ a0 12)) x1) a0 11), pe_K (pe_wI (pe_wI σ (pe_R σ a0 10) (pe_w (pe_I σ a0 12)) x1) (pe_R (pe_wI σ (pe_R σ a0 10) (pe_w (pe_I σ a0 12)) x1) a0 11) (pe_w (pe_I (pe_wI σ (pe_R σ a0 10) (pe_w (pe_I σ a0 12)) x1) a0 12)) x2) a0 = 2, pe_K (pe_wI (pe_wI σ (pe_R σ a0 10) (pe_w (pe_I σ a0 12)) x1) (pe_R (pe_wI σ (pe_R σ a0 10) (pe_w (pe_I σ a0 12)) x1) a0 11) (pe_w (pe_I (pe_wI σ (pe_R σ a0 10) (pe_w (pe_I σ a0 12)) x1) a0 12)) x2) a0 = 2] (40, [some (.inr (.inr a0)), some (.inl x1), some (.inl x2)], [], pe_wI (pe_wI (pe_wI σ (pe_R σ a0 10) (pe_w (pe_I σ a0 12)) x1) (pe_R (pe_wI σ (pe_R σ a0 10) (pe_w (pe_I σ a0 12)) x1) a0 11) (pe_w (pe_I (pe_wI σ (pe_R σ a0 10) (pe_w (pe_I σ a0 12)) x1) a0 12)) x2) a0 12 ((pe_I (pe_wI (pe_wI σ (pe_R σ a0 10) (pe_w (pe_I σ a0 12)) x1) (pe_R (pe_wI σ (pe_R σ a0 10) (pe_w (pe_I σ a0 12)) x1) a0 11) (pe_w (pe_I (pe_wI σ (pe_R σ a0 10) (pe_w (pe_I σ a0 12)) x1) a0 12)) x2) a0 12) + 1)) rfl ?_ ?_
  · first
    | (simp (disch := omega) only [pe_all, pe_wi w0, pe_I_ner, pe_K_wI, pe_K_wR, pe_L_wI, pe_L_wR, pe_R_nej, pe_R_ner, pe_R_wI, pk_mK f_a0, pk_mK7 f_a0, pk_mK8 f_a0, pk_mL7 f_a0, pk_mL8 f_a0, pk_mR7 f_a0, pk_mR8 f_a0]; done)
    | (simp (disch := omega) only [pe_all, pe_wi w0, pe_I_ner, pe_K_wI, pe_K_wR, pe_L_wI, pe_L_wR, pe_R_nej, pe_R_ner, pe_R_wI, pk_mK f_a0, pk_mK7 f_a0, pk_mK8 f_a0, pk_mL7 f_a0, pk_mL8 f_a0, pk_mR7 f_a0, pk_mR8 f_a0]; (repeat' apply And.intro) <;> first | assumption | omega | decide)
  · try simp (disch := omega) only [pe_wi w0, pe_I_ner, pe_K_wI, pe_K_wR, pe_L_wI, pe_L_wR, pe_R_nej, pe_R_ner, pe_R_wI, pk_mK f_a0, pk_mK7 f_a0, pk_mK8 f_a0, pk_mL7 f_a0, pk_mL8 f_a0, pk_mR7 f_a0, pk_mR8 f_a0]
    exact k
theorem b39_40 {d : Nat} {Φ : Option pe_V → pe_H → Prop} {σ : pe_H} {a0 : Nat} {o1 : Option pe_V} {o2 : Option pe_V} (f_a0 : pk_Fm a0 σ := by assumption)   (k : Φ (some (.inl ((pe_I σ a0 12) - 1))) σ) : pe_X d 39 (40, [some (.inr (.inr a0)), o1, o2], [], σ) Φ := by
  refine pe_blk 22 4 ck39 [pe_K σ a0 = 2] (46, [some (.inr (.inr a0)), o1, o2], [.inl ((pe_I σ a0 12) - 1)], σ) rfl ?_ ?_
  · first
    | (simp (disch := omega) only [pe_all, pe_K_wI, pe_K_wR, pk_mK f_a0]; done)
    | (simp (disch := omega) only [pe_all, pe_K_wI, pe_K_wR, pk_mK f_a0]; (repeat' apply And.intro) <;> first | assumption | omega | decide)
  · try simp (disch := omega) only [pe_K_wI, pe_K_wR, pk_mK f_a0]
    exact pe_fine 26 ck39 rfl rfl rfl trivial k
-- StepMachines$Machine.throwFault(LStepMachines$Coroutine;I)V
def T40 : List (Nat × Instr × Nat) := [(0, .aload_n 1, 1), (1, .getfield 148, 3), (4, .ifCond .le 100, 3), (7, .aload_n 1, 1), (8, .getfield 151, 3), (11, .aload_n 1, 1), (12, .getfield 148, 3), (15, .iconst 1, 1), (16, .isub, 1), (17, .aaload, 1), (18, .astore_n 3, 1), (19, .aload_n 3, 1), (20, .getfield 180, 3), (23, .ifCond .ne 41, 3), (26, .aload_n 3, 1), (27, .getfield 160, 3), (30, .getfield 237, 3), (33, .aload_n 3, 1), (34, .getfield 155, 3), (37, .if_icmp .lt 27, 3), (40, .aload_n 3, 1), (41, .iload_n 2, 1), (42, .putfield 234, 3), (45, .aload_n 3, 1), (46, .iconst 1, 1), (47, .putfield 180, 3), (50, .aload_n 3, 1), (51, .aload_n 3, 1), (52, .getfield 160, 3), (55, .getfield 237, 3), (58, .iconst 1, 1), (59, .iadd, 1), (60, .putfield 155, 3), (63, .return_, 1), (64, .aload_n 3, 1), (65, .getfield 234, 3), (68, .ifCond .lt 23, 3), (71, .aload_n 0, 1), (72, .getfield 55, 3), (75, .iload_n 2, 1), (76, .iaload, 1), (77, .iconst (-1), 1), (78, .if_icmp .ne 13, 3), (81, .aload_n 0, 1), (82, .getfield 55, 3), (85, .iload_n 2, 1), (86, .aload_n 3, 1), (87, .getfield 234, 3), (90, .iastore, 1), (91, .aload_n 1, 1), (92, .dup, 1), (93, .getfield 148, 3), (96, .iconst 1, 1), (97, .isub, 1), (98, .putfield 148, 3), (101, .goto (-101), 3), (104, .aload_n 1, 1), (105, .bipush 7, 2), (107, .putfield 83, 3), (110, .aload_n 1, 1), (111, .iload_n 2, 1), (112, .putfield 92, 3), (115, .return_, 1)]
theorem ck40 : pe_ctx 40 2 false none 4 T40 := ⟨rfl, rfl, rfl, rfl, by decide +kernel, by decide, by decide⟩
theorem b40_0 {d : Nat} {Φ : Option pe_V → pe_H → Prop} {σ : pe_H} {a0 : Nat} {a1 : Nat} {x2 : Int} {o3 : Option pe_V} (f_a0 : pk_Fm a0 σ := by assumption) (f_a1 : pk_Fo a1 σ := by assumption) (w0 : pe_in (pe_I σ a1 9) := by unfold pe_in; omega)  (k1 : (pe_I σ a1 9) ≤ 0 → pe_X d 40 (104, [some (.inr (.inr a0)), some (.inr (.inr a1)), some (.inl x2), o3], [], σ) Φ) (k2 : ¬ ((pe_I σ a1 9) ≤ 0) → pe_X d 40 (7, [some (.inr (.inr a0)), some (.inr (.inr a1)), some (.inl x2), o3], [], σ) Φ) : pe_X d 40 (0, [some (.inr (.inr a0)), some (.inr (.inr a1)), some (.inl x2), o3], [], σ) Φ := by
  refine pe_blk 0 3 ck40 [pe_K σ a1 = 0] (cond (decide ((pe_w (pe_I σ a1 9)) ≤ 0)) 104 7, [some (.inr (.inr a0)), some (.inr (.inr a1)), some (.inl x2), o3], [], σ) rfl ?_ ?_
  · first
    | (simp (disch := omega) only [pe_all, pe_wi w0, pe_K_wI, pe_K_wR, pk_oK f_a1]; done)
    | (simp (disch := omega) only [pe_all, pe_wi w0, pe_K_wI, pe_K_wR, pk_oK f_a1]; (repeat' apply And.intro) <;> first | assumption | omega | decide)
  · try simp (disch := omega) only [pe_wi w0, pe_K_wI, pe_K_wR, pk_oK f_a1]
    exact pe_two k1 k2
theorem b40_7 {d : Nat} {Φ : Option pe_V → pe_H → Prop} {σ : pe_H} {a0 : Nat} {a1 : Nat} {x2 : Int} {o3 : Option pe_V} (f_a0 : pk_Fm a0 σ := by assumption) (f_a1 : pk_Fo a1 σ := by assumption) (w0 : pe_in ((pe_I σ a1 9) - 1) := by unfold pe_in; omega) (w1 : pe_in (pe_I σ (pk_f a1 ((pe_I σ a1 9) - 1)) 4) := by unfold pe_in; omega) (h0 : 0 ≤ ((pe_I σ a1 9) - 1) := by first | assumption | omega) (h1 : ((pe_I σ a1 9) - 1) < 6 := by first | assumption | omega) (k1 : ¬ (pe_I σ (pk_f a1 ((pe_I σ a1 9) - 1)) 4) = 0 → pe_X d 40 (64, [some (.inr (.inr a0)), some (.inr (.inr a1)), some (.inl x2), some (.inr (.inr (pk_f a1 ((pe_I σ a1 9) - 1))))], [], σ) Φ) (k2 : (pe_I σ (pk_f a1 ((pe_I σ a1 9) - 1)) 4) = 0 → pe_X d 40 (26, [some (.inr (.inr a0)), some (.inr (.inr a1)), some (.inl x2), some (.inr (.inr (pk_f a1 ((pe_I σ a1 9) - 1))))], [], σ) Φ) : pe_X d 40 (7, [some (.inr (.inr a0)), some (.inr (.inr a1)), some (.inl x2), o3], [], σ) Φ := by
  refine pe_blk 3 11 ck40 [pe_K σ a1 = 0, pe_K σ a1 = 0, 12 ≤ pe_K σ (pe_R σ a1 10) ∧ pe_K σ (pe_R σ a1 10) < 19, 0 ≤ (pe_w ((pe_I σ a1 9) - 1)), (pe_w ((pe_I σ a1 9) - 1)) < pe_L σ (pe_R σ a1 10), pe_K σ (pe_R σ (pe_R σ a1 10) (pe_w ((pe_I σ a1 9) - 1))) = 1] (cond (decide (¬ (pe_w (pe_I σ (pe_R σ (pe_R σ a1 10) (pe_w ((pe_I σ a1 9) - 1))) 4)) = 0)) 64 26, [some (.inr (.inr a0)), some (.inr (.inr a1)), some (.inl x2), some (.inr (.inr (pe_R σ (pe_R σ a1 10) (pe_w ((pe_I σ a1 9) - 1)))))], [], σ) rfl ?_ ?_
  · first
    | (simp (disch := omega) only [pe_all, pe_wi w0, pe_wi w1, pe_K_wI, pe_K_wR, pe_L_wI, pe_L_wR, pe_R_nej, pe_R_ner, pe_R_wI, pk_oE f_a1 (i := (pe_I σ a1 9) - 1) (by omega) (by omega), pk_oEK f_a1 (i := (pe_I σ a1 9) - 1) (by omega) (by omega), pk_oK f_a1, pk_oK1 f_a1, pk_oL1 f_a1, pk_oR f_a1]; done)
    | (simp (disch := omega) only [pe_all, pe_wi w0, pe_wi w1, pe_K_wI, pe_K_wR, pe_L_wI, pe_L_wR, pe_R_nej, pe_R_ner, pe_R_wI, pk_oE f_a1 (i := (pe_I σ a1 9) - 1) (by omega) (by omega), pk_oEK f_a1 (i := (pe_I σ a1 9) - 1) (by omega) (by omega), pk_oK f_a1, pk_oK1 f_a1, pk_oL1 f_a1, pk_oR f_a1]; (repeat' apply And.intro) <;> first | assumption | omega | decide)
  · try simp (disch := omega) only [pe_wi w0, pe_wi w1, pe_K_wI, pe_K_wR, pe_L_wI, pe_L_wR, pe_R_nej, pe_R_ner, pe_R_wI, pk_oE f_a1 (i := (pe_I σ a1 9) - 1) (by omega) (by omega), pk_oEK f_a1 (i := (pe_I σ a1 9) - 1) (by omega) (by omega), pk_oK f_a1, pk_oK1 f_a1, pk_oL1 f_a1, pk_oR f_a1]
    exact pe_two' k1 k2
theorem b40_26 {d : Nat} {Φ : Option pe_V → pe_H → Prop} {σ : pe_H} {a0 : Nat} {a1 : Nat} {x2 : Int} {a3 : Nat} (f_a0 : pk_Fm a0 σ := by assumption) (f_a1 : pk_Fo a1 σ := by assumption) (w0 : pe_in (pe_I σ a3 2) := by unfold pe_in; omega) (w1 : pe_in (pe_I σ (pe_R σ a3 0) 1) := by unfold pe_in; omega) (h0 : pe_K σ a3 = 1 := by first | assumption | omega) (h1 : pe_K σ (pe_R σ a3 0) = 4 := by first | assumption | omega) (k1 : (pe_I σ (pe_R σ a3 0) 1) < (pe_I σ a3 2) → pe_X d 40 (64, [some (.inr (.inr a0)), some (.inr (.inr a1)), some (.inl x2), some (.inr (.inr a3))], [], σ) Φ) (k2 : ¬ ((pe_I σ (pe_R σ a3 0) 1) < (pe_I σ a3 2)) → pe_X d 40 (40, [some (.inr (.inr a0)), some (.inr (.inr a1)), some (.inl x2), some (.inr (.inr a3))], [], σ) Φ) : pe_X d 40 (26, [some (.inr (.inr a0)), some (.inr (.inr a1)), some (.inl x2), some (.inr (.inr a3))], [], σ) Φ := by
  refine pe_blk 14 6 ck40 [pe_K σ a3 = 1, pe_K σ (pe_R σ a3 0) = 4, pe_K σ a3 = 1] (cond (decide ((pe_w (pe_I σ (pe_R σ a3 0) 1)) < (pe_w (pe_I σ a3 2)))) 64 40, [some (.inr (.inr a0)), some (.inr (.inr a1)), some (.inl x2), some (.inr (.inr a3))], [], σ) rfl ?_ ?_
  · first
    | (simp (disch := omega) only [pe_all, pe_wi w0, pe_wi w1, pe_K_wI, pe_K_wR]; done)
    | (simp (disch := omega) only [pe_all, pe_wi w0, pe_wi w1, pe_K_wI, pe_K_wR]; (repeat' apply And.intro) <;> first | assumption | omega | decide)
  · try simp (disch := omega) only [pe_wi w0, pe_wi w1, pe_K_wI, pe_K_wR]
    exact pe_two k1 k2
theorem b40_40 {d : Nat} {Φ : Option pe_V → pe_H → Prop} {σ : pe_H} {o0 : Option pe_V} {o1 : Option pe_V} {x2 : Int} {a3 : Nat}   (h0 : pe_K σ a3 = 1 := by first | assumption | omega) (h1 : pe_K σ (pe_R σ a3 0) = 4 := by first | assumption | omega) (k : Φ none (pe_wI (pe_wI (pe_wI σ a3 5 x2) a3 4 1) a3 2 ((pe_I σ (pe_R σ a3 0) 1) + 1))) : pe_X d 40 (40, [o0, o1, some (.inl x2), some (.inr (.inr a3))], [], σ) Φ := by
  refine pe_blk 20 13 ck40 [pe_K σ a3 = 1, pe_K (pe_wI σ a3 5 x2) a3 = 1, 1 = 0 ∨ 1 = 1, pe_K (pe_wI (pe_wI σ a3 5 x2) a3 4 1) a3 = 1, pe_K (pe_wI (pe_wI σ a3 5 x2) a3 4 1) (pe_R (pe_wI (pe_wI σ a3 5 x2) a3 4 1) a3 0) = 4, pe_K (pe_wI (pe_wI σ a3 5 x2) a3 4 1) a3 = 1] (63, [o0, o1, some (.inl x2), some (.inr (.inr a3))], [], pe_wI (pe_wI (pe_wI σ a3 5 x2) a3 4 1) a3 2 ((pe_I (pe_wI (pe_wI σ a3 5 x2) a3 4 1) (pe_R (pe_wI (pe_wI σ a3 5 x2) a3 4 1) a3 0) 1) + 1)) rfl ?_ ?_
  · first
    | (simp (disch := omega) only [pe_all, pe_I_nej, pe_K_wI, pe_K_wR, pe_R_cpy, pe_R_wI]; done)
    | (simp (disch := omega) only [pe_all, pe_I_nej, pe_K_wI, pe_K_wR, pe_R_cpy, pe_R_wI]; (repeat' apply And.intro) <;> first | assumption | omega | decide)
  · try simp (disch := omega) only [pe_I_nej, pe_K_wI, pe_K_wR, pe_R_cpy, pe_R_wI]
    exact pe_fine 33 ck40 rfl rfl rfl trivial k
theorem b40_64 {d : Nat} {Φ : Option pe_V → pe_H → Prop} {σ : pe_H} {a0 : Nat} {a1 : Nat} {x2 : Int} {a3 : Nat} (f_a0 : pk_Fm a0 σ := by assumption) (f_a1 : pk_Fo a1 σ := by assumption) (w0 : pe_in (pe_I σ a3 5) := by unfold pe_in; omega) (h0 : pe_K σ a3 = 1 := by first | assumption | omega) (k1 : (pe_I σ a3 5) < 0 → pe_X d 40 (91, [some (.inr (.inr a0)), some (.inr (.inr a1)), some (.inl x2), some (.inr (.inr a3))], [], σ) Φ) (k2 : ¬ ((pe_I σ a3 5) < 0) → pe_X d 40 (71, [some (.inr (.inr a0)), some (.inr (.inr a1)), some (.inl x2), some (.inr (.inr a3))], [], σ) Φ) : pe_X d 40 (64, [some (.inr (.inr a0)), some (.inr (.inr a1)), some (.inl x2), some (.inr (.inr a3))], [], σ) Φ := by
  refine pe_blk 34 3 ck40 [pe_K σ a3 = 1] (cond (decide ((pe_w (pe_I σ a3 5)) < 0)) 91 71, [some (.inr (.inr a0)), some (.inr (.inr a1)), some (.inl x2), some (.inr (.inr a3))], [], σ) rfl ?_ ?_
  · first
    | (simp (disch := omega) only [pe_all, pe_wi w0, pe_K_wI, pe_K_wR]; done)
    | (simp (disch := omega) only [pe_all, pe_wi w0, pe_K_wI, pe_K_wR]; (repeat' apply And.intro) <;> first | assumption | omega | decide)
  · try simp (disch := omega) only [pe_wi w0, pe_K_wI, pe_K_wR]
    exact pe_two k1 k2
theorem b40_71 {d : Nat} {Φ : Option pe_V → pe_H → Prop} {σ : pe_H} {a0 : Nat} {a1 : Nat} {x2 : Int} {a3 : Nat} (f_a0 : pk_Fm a0 σ := by assumption) (f_a1 : pk_Fo a1 σ := by assumption) (w0 : pe_in x2 := by unfold pe_in; omega) (w1 : pe_in (pe_I σ (a0 + 8) x2) := by unfold pe_in; omega) (h0 : 0 ≤ x2 := by first | assumption | omega) (h1 : x2 < 512 := by first | assumption | omega) (k1 : ¬ (pe_I σ (a0 + 8) x2) = (-1) → pe_X d 40 (91, [some (.inr (.inr a0)), some (.inr (.inr a1)), some (.inl x2), some (.inr (.inr a3))], [], σ) Φ) (k2 : (pe_I σ (a0 + 8) x2) = (-1) → pe_X d 40 (81, [some (.inr (.inr a0)), some (.inr (.inr a1)), some (.inl x2), some (.inr (.inr a3))], [], σ) Φ) : pe_X d 40 (71, [some (.inr (.inr a0)), some (.inr (.inr a1)), some (.inl x2), some (.inr (.inr a3))], [], σ) Φ := by
  refine pe_blk 37 6 ck40 [pe_K σ a0 = 2, pe_K σ (pe_R σ a0 11) = 10, 0 ≤ (pe_w x2), (pe_w x2) < pe_L σ (pe_R σ a0 11)] (cond (decide (¬ (pe_w (pe_I σ (pe_R σ a0 11) (pe_w x2))) = (pe_w (-1)))) 91 81, [some (.inr (.inr a0)), some (.inr (.inr a1)), some (.inl x2), some (.inr (.inr a3))], [], σ) rfl ?_ ?_
  · first
    | (simp (disch := omega) only [pe_all, pe_wi w0, pe_wi w1, pe_wi (x := (-1)) ⟨by decide, by decide⟩, pe_K_wI, pe_K_wR, pe_L_wI, pe_L_wR, pe_R_nej, pe_R_ner, pe_R_wI, pk_mK f_a0, pk_mK8 f_a0, pk_mL8 f_a0, pk_mR8 f_a0]; done)
    | (simp (disch := omega) only [pe_all, pe_wi w0, pe_wi w1, pe_wi (x := (-1)) ⟨by decide, by decide⟩, pe_K_wI, pe_K_wR, pe_L_wI, pe_L_wR, pe_R_nej, pe_R_ner, pe_R_wI, pk_mK f_a0, pk_mK8 f_a0, pk_mL8 f_a0, pk_mR8 f_a0]; (repeat' apply And.intro) <;> first | assumption | omega | decide)
  · try simp (disch := omega) only [pe_wi w0, pe_wi w1, pe_wi (x := (-1)) ⟨by decide, by decide⟩, pe_K_wI, pe_K_wR, pe_L_wI, pe_L_wR, pe_R_nej, pe_R_ner, pe_R_wI, pk_mK f_a0, pk_mK8 f_a0, pk_mL8 f_a0, pk_mR8 f_a0]
    exact pe_two' k1 k2
theorem b40_81 {d : Nat} {Φ : Option pe_V → pe_H → Prop} {σ : pe_H} {a0 : Nat} {a1 : Nat} {x2 : Int} {a3 : Nat} (f_a0 : pk_Fm a0 σ := by assumption) (f_a1 : pk_Fo a1 σ := by assumption) (w0 : pe_in x2 := by unfold pe_in; omega) (h0 : pe_K σ a3 = 1 := by first | assumption | omega) (h1 : 0 ≤ x2 := by first | assumption | omega) (h2 : x2 < 512 := by first | assumption | omega) (k : pe_X d 40 (91, [some (.inr (.inr a0)), some (.inr (.inr a1)), some (.inl x2), some (.inr (.inr a3))], [], pe_wI σ (a0 + 8) x2 (pe_I σ a3 5)) Φ) : pe_X d 40 (81, [some (.inr (.inr a0)), some (.inr (.inr a1)), some (.inl x2), some (.inr (.inr a3))], [], σ) Φ := by
  have hX0 := pk_m2 f_a0
  refine pe_blk 43 6 ck40 [pe_K σ a0 = 2, pe_K σ a3 = 1, pe_K σ (pe_R σ a0 11) = 10, 0 ≤ (pe_w x2), (pe_w x2) < pe_L σ (pe_R σ a0 11), 2 ≤ (pe_R σ a0 11)] (91, [some (.inr (.inr a0)), some (.inr (.inr a1)), some (.inl x2), some (.inr (.inr a3))], [], pe_wI σ (pe_R σ a0 11) (pe_w x2) (pe_I σ a3 5)) rfl ?_ ?_
  · first
    | (simp (disch := omega) only [pe_all, pe_wi w0, pe_K_wI, pe_K_wR, pe_L_wI, pe_L_wR, pe_R_nej, pe_R_ner, pe_R_wI, pk_mK f_a0, pk_mK8 f_a0, pk_mL8 f_a0, pk_mR8 f_a0]; done)
    | (simp (disch := omega) only [pe_all, pe_wi w0, pe_K_wI, pe_K_wR, pe_L_wI, pe_L_wR, pe_R_nej, pe_R_ner, pe_R_wI, pk_mK f_a0, pk_mK8 f_a0, pk_mL8 f_a0, pk_mR8 f_a0]; (repeat' apply And.intro) <;> first | assumption | omega | decide)
  · try simp (disch := omega) only [pe_wi w0, pe_K_wI, pe_K_wR, pe_L_wI, pe_L_wR, pe_R_nej, pe_R_ner, pe_R_wI, pk_mK f_a0, pk_mK8 f_a0, pk_mL8 f_a0, pk_mR8 f_a0]
    exact k
set_option maxRecDepth 8000 in
theorem b40_91 {d : Nat} {Φ : Option pe_V → pe_H → Prop} {σ : pe_H} {a0 : Nat} {a1 : Nat} {x2 : Int} {o3 : Option pe_V} (f_a0 : pk_Fm a0 σ := by assumption) (f_a1 : pk_Fo a1 σ := by assumption)   (k : pe_X d 40 (0, [some (.inr (.inr a0)), some (.inr (.inr a1)), some (.inl x2), o3], [], pe_wI σ a1 9 ((pe_I σ a1 9) - 1)) Φ) : pe_X d 40 (91, [some (.inr (.inr a0)), some (.inr (.inr a1)), some (.inl x2), o3], [], σ) Φ := by
  refine pe_blk 49 7 ck40 [pe_K σ a1 = 0, pe_K σ a1 = 0] (0, [some (.inr (.inr a0)), some (.inr (.inr a1)), some (.inl x2), o3], [], pe_wI σ a1 9 ((pe_I σ a1 9) - 1)) rfl ?_ ?_
  · first
    | (simp (disch := omega) only [pe_all, pe_K_wI, pe_K_wR, pk_oK f_a1]; done)
    | (simp (disch := omega) only [pe_all, pe_K_wI, pe_K_wR, pk_oK f_a1]; (repeat' apply And.intro) <;> first | assumption | omega | decide)
  · try simp (disch := omega) only [pe_K_wI, pe_K_wR, pk_oK f_a1]
    exact k
set_option maxRecDepth 8000 in
theorem b40_104 {d : Nat} {Φ : Option pe_V → pe_H → Prop} {σ : pe_H} {o0 : Option pe_V} {a1 : Nat} {x2 : Int} {o3 : Option pe_V} (f_a1 : pk_Fo a1 σ := by assumption)   (k : Φ none (pe_wI (pe_wI σ a1 2 7) a1 8 x2)) : pe_X d 40 (104, [o0, some (.inr (.inr a1)), some (.inl x2), o3], [], σ) Φ := by
  refine pe_blk 56 6 ck40 [pe_K σ a1 = 0, pe_K (pe_wI σ a1 2 7) a1 = 0] (115, [o0, some (.inr (.inr a1)), some (.inl x2), o3], [], pe_wI (pe_wI σ a1 2 7) a1 8 x2) rfl ?_ ?_
  · first
    | (simp (disch := omega) only [pe_all, pe_K_wI, pe_K_wR, pk_oK f_a1]; done)
    | (simp (disch := omega) only [pe_all, pe_K_wI, pe_K_wR, pk_oK f_a1]; (repeat' apply And.intro) <;> first | assumption | omega | decide)
  · try simp (disch := omega) only [pe_K_wI, pe_K_wR, pk_oK f_a1]
    exact pe_fine 62 ck40 rfl rfl rfl trivial k
-- StepMachines$Manner.<init>(II)V
def T41 : List (Nat × Instr × Nat) := [(0, .aload_n 0, 1), (1, .invokespecial 3, 3), (4, .aload_n 0, 1), (5, .iload_n 1, 1), (6, .putfield 9, 3), (9, .aload_n 0, 1), (10, .iload_n 2, 1), (11, .putfield 15, 3), (14, .return_, 1)]
theorem ck41 : pe_ctx 41 3 true none 3 T41 := ⟨rfl, rfl, rfl, rfl, by decide +kernel, by decide, by decide⟩
theorem b41_0 {d : Nat} {Φ : Option pe_V → pe_H → Prop} {σ : pe_H} {a0 : Nat} {x1 : Int} {x2 : Int}   (h0 : ¬ a0 = 0 := by first | assumption | omega) (h1 : pe_K σ a0 = 3 := by first | assumption | omega) (k : Φ none (pe_wI (pe_wI σ a0 0 x1) a0 1 x2)) : pe_X d 41 (0, [some (.inr (.inr a0)), some (.inl x1), some (.inl x2)], [], σ) Φ := by
  refine pe_blk 0 8 ck41 [¬ a0 = 0, pe_K σ a0 = 3, pe_K (pe_wI σ a0 0 x1) a0 = 3] (14, [some (.inr (.inr a0)), some (.inl x1), some (.inl x2)], [], pe_wI (pe_wI σ a0 0 x1) a0 1 x2) rfl ?_ ?_
  · first
    | (simp (disch := omega) only [pe_all, pe_K_wI, pe_K_wR]; done)
    | (simp (disch := omega) only [pe_all, pe_K_wI, pe_K_wR]; (repeat' apply And.intro) <;> first | assumption | omega | decide)
  · try simp (disch := omega) only [pe_K_wI, pe_K_wR]
    exact pe_fine 8 ck41 rfl rfl rfl trivial k
-- StepMachines$Manner.weight()I
def T42 : List (Nat × Instr × Nat) := [(0, .aload_n 0, 1), (1, .getfield 9, 3), (4, .tableswitch 58 1 4 #[32, 44, 37, 50], 32), (36, .aload_n 0, 1), (37, .getfield 15, 3), (40, .ireturn, 1), (41, .aload_n 0, 1), (42, .getfield 15, 3), (45, .iconst 2, 1), (46, .iadd, 1), (47, .ireturn, 1), (48, .aload_n 0, 1), (49, .getfield 15, 3), (52, .ineg, 1), (53, .ireturn, 1), (54, .aload_n 0, 1), (55, .getfield 15, 3), (58, .ineg, 1), (59, .iconst 2, 1), (60, .idiv, 1), (61, .ireturn, 1), (62, .iconst 0, 1), (63, .ireturn, 1)]
theorem ck42 : pe_ctx 42 3 false (some .int) 1 T42 := ⟨rfl, rfl, rfl, rfl, by decide +kernel, by decide, by decide⟩
theorem b42_0 {d : Nat} {Φ : Option pe_V → pe_H → Prop} {σ : pe_H} {a0 : Nat}  (w0 : pe_in (pe_I σ a0 0) := by unfold pe_in; omega) (h0 : pe_K σ a0 = 3 := by first | assumption | omega) (k0 : (pe_I σ a0 0) = 1 → pe_X d 42 (36, [some (.inr (.inr a0))], [], σ) Φ) (k1 : (pe_I σ a0 0) = 2 → pe_X d 42 (48, [some (.inr (.inr a0))], [], σ) Φ) (k2 : (pe_I σ a0 0) = 3 → pe_X d 42 (41, [some (.inr (.inr a0))], [], σ) Φ) (k3 : (pe_I σ a0 0) = 4 → pe_X d 42 (54, [some (.inr (.inr a0))], [], σ) Φ) (kd : ¬ (pe_I σ a0 0) = 1 → ¬ (pe_I σ a0 0) = 2 → ¬ (pe_I σ a0 0) = 3 → ¬ (pe_I σ a0 0) = 4 → pe_X d 42 (62, [some (.inr (.inr a0))], [], σ) Φ) : pe_X d 42 (0, [some (.inr (.inr a0))], [], σ) Φ := by
  refine pe_blk 0 3 ck42 [pe_K σ a0 = 3] ((((4 : Nat) : Int) + pe_sw 58 [(1, 32), (2, 44), (3, 37), (4, 50)] (pe_w (pe_I σ a0 0))).toNat, [some (.inr (.inr a0))], [], σ) rfl ?_ ?_
  · first
    | (simp (disch := omega) only [pe_all, pe_wi w0, pe_K_wI, pe_K_wR]; done)
    | (simp (disch := omega) only [pe_all, pe_wi w0, pe_K_wI, pe_K_wR]; (repeat' apply And.intro) <;> first | assumption | omega | decide)
  · try simp (disch := omega) only [pe_wi w0, pe_K_wI, pe_K_wR]
    by_cases q0 : (pe_I σ a0 0) = 1
    · have e : pe_sw 58 [(1, 32), (2, 44), (3, 37), (4, 50)] (pe_I σ a0 0) = 32 := by rw [q0]; rfl
      rw [e]; exact k0 q0
    by_cases q1 : (pe_I σ a0 0) = 2
    · have e : pe_sw 58 [(1, 32), (2, 44), (3, 37), (4, 50)] (pe_I σ a0 0) = 44 := by rw [q1]; rfl
      rw [e]; exact k1 q1
    by_cases q2 : (pe_I σ a0 0) = 3
    · have e : pe_sw 58 [(1, 32), (2, 44), (3, 37), (4, 50)] (pe_I σ a0 0) = 37 := by rw [q2]; rfl
      rw [e]; exact k2 q2
    by_cases q3 : (pe_I σ a0 0) = 4
    · have e : pe_sw 58 [(1, 32), (2, 44), (3, 37), (4, 50)] (pe_I σ a0 0) = 50 := by rw [q3]; rfl
      rw [e]; exact k3 q3
    have e : pe_sw 58 [(1, 32), (2, 44), (3, 37), (4, 50)] (pe_I σ a0 0) = 58 := by simp only [pe_sw, if_neg q0, if_neg q1, if_neg q2, if_neg q3]
    rw [e]; exact kd q0 q1 q2 q3
theorem b42_36 {d : Nat} {Φ : Option pe_V → pe_H → Prop} {σ : pe_H} {a0 : Nat}   (h0 : pe_K σ a0 = 3 := by first | assumption | omega) (k : Φ (some (.inl (pe_I σ a0 1))) σ) : pe_X d 42 (36, [some (.inr (.inr a0))], [], σ) Φ := by
  refine pe_blk 3 2 ck42 [pe_K σ a0 = 3] (40, [some (.inr (.inr a0))], [.inl (pe_I σ a0 1)], σ) rfl ?_ ?_
  · first
    | (simp (disch := omega) only [pe_all, pe_K_wI, pe_K_wR]; done)
    | (simp (disch := omega) only [pe_all, pe_K_wI, pe_K_wR]; (repeat' apply And.intro) <;> first | assumption | omega | decide)
  · try simp (disch := omega) only [pe_K_wI, pe_K_wR]
    exact pe_fine 5 ck42 rfl rfl rfl trivial k
theorem b42_41 {d : Nat} {Φ : Option pe_V → pe_H → Prop} {σ : pe_H} {a0 : Nat}   (h0 : pe_K σ a0 = 3 := by first | assumption | omega) (k : Φ (some (.inl ((pe_I σ a0 1) + 2))) σ) : pe_X d 42 (41, [some (.inr (.inr a0))], [], σ) Φ := by
  refine pe_blk 6 4 ck42 [pe_K σ a0 = 3] (47, [some (.inr (.inr a0))], [.inl ((pe_I σ a0 1) + 2)], σ) rfl ?_ ?_
  · first
    | (simp (disch := omega) only [pe_all, pe_K_wI, pe_K_wR]; done)
    | (simp (disch := omega) only [pe_all, pe_K_wI, pe_K_wR]; (repeat' apply And.intro) <;> first | assumption | omega | decide)
  · try simp (disch := omega) only [pe_K_wI, pe_K_wR]
    exact pe_fine 10 ck42 rfl rfl rfl trivial k
theorem b42_48 {d : Nat} {Φ : Option pe_V → pe_H → Prop} {σ : pe_H} {a0 : Nat}   (h0 : pe_K σ a0 = 3 := by first | assumption | omega) (k : Φ (some (.inl (-(pe_I σ a0 1)))) σ) : pe_X d 42 (48, [some (.inr (.inr a0))], [], σ) Φ := by
  refine pe_blk 11 3 ck42 [pe_K σ a0 = 3] (53, [some (.inr (.inr a0))], [.inl (-(pe_I σ a0 1))], σ) rfl ?_ ?_
  · first
    | (simp (disch := omega) only [pe_all, pe_K_wI, pe_K_wR]; done)
    | (simp (disch := omega) only [pe_all, pe_K_wI, pe_K_wR]; (repeat' apply And.intro) <;> first | assumption | omega | decide)
  · try simp (disch := omega) only [pe_K_wI, pe_K_wR]
    exact pe_fine 14 ck42 rfl rfl rfl trivial k
theorem b42_54 {d : Nat} {Φ : Option pe_V → pe_H → Prop} {σ : pe_H} {a0 : Nat}  (w0 : pe_in (-(pe_I σ a0 1)) := by unfold pe_in; omega) (h0 : pe_K σ a0 = 3 := by first | assumption | omega) (h1 : ¬ 2 = 0 := by first | assumption | omega) (k : Φ (some (.inl (Int.tdiv (-(pe_I σ a0 1)) 2))) σ) : pe_X d 42 (54, [some (.inr (.inr a0))], [], σ) Φ := by
  refine pe_blk 15 5 ck42 [pe_K σ a0 = 3, ¬ (pe_w 2) = 0] (61, [some (.inr (.inr a0))], [.inl (Int.tdiv (pe_w (-(pe_I σ a0 1))) (pe_w 2))], σ) rfl ?_ ?_
  · first
    | (simp (disch := omega) only [pe_all, pe_wi w0, pe_wi (x := 2) ⟨by decide, by decide⟩, pe_K_wI, pe_K_wR]; done)
    | (simp (disch := omega) only [pe_all, pe_wi w0, pe_wi (x := 2) ⟨by decide, by decide⟩, pe_K_wI, pe_K_wR]; (repeat' apply And.intro) <;> first | assumption | omega | decide)
  · try simp (disch := omega) only [pe_wi w0, pe_wi (x := 2) ⟨by decide, by decide⟩, pe_K_wI, pe_K_wR]
    exact pe_fine 20 ck42 rfl rfl rfl trivial k
theorem b42_62 {d : Nat} {Φ : Option pe_V → pe_H → Prop} {σ : pe_H} {o0 : Option pe_V}    (k : Φ (some (.inl 0)) σ) : pe_X d 42 (62, [o0], [], σ) Φ := by
  refine pe_blk 21 1 ck42 [] (63, [o0], [.inl 0], σ) rfl ?_ ?_
  · exact trivial
  · exact pe_fine 22 ck42 rfl rfl rfl trivial k
-- StepMachines$Manner.yields(I)I
def T43 : List (Nat × Instr × Nat) := [(0, .aload_n 0, 1), (1, .getfield 9, 3), (4, .tableswitch 43 2 4 #[39, 28, 39], 28), (32, .iload_n 1, 1), (33, .aload_n 0, 1), (34, .getfield 15, 3), (37, .iadd, 1), (38, .sipush 1000, 3), (41, .irem, 1), (42, .ireturn, 1), (43, .iload_n 1, 1), (44, .iconst 2, 1), (45, .idiv, 1), (46, .ireturn, 1), (47, .iload_n 1, 1), (48, .ireturn, 1)]
theorem ck43 : pe_ctx 43 3 false (some .int) 2 T43 := ⟨rfl, rfl, rfl, rfl, by decide +kernel, by decide, by decide⟩
theorem b43_0 {d : Nat} {Φ : Option pe_V → pe_H → Prop} {σ : pe_H} {a0 : Nat} {x1 : Int}  (w0 : pe_in (pe_I σ a0 0) := by unfold pe_in; omega) (h0 : pe_K σ a0 = 3 := by first | assumption | omega) (k0 : (pe_I σ a0 0) = 2 → pe_X d 43 (43, [some (.inr (.inr a0)), some (.inl x1)], [], σ) Φ) (k1 : (pe_I σ a0 0) = 3 → pe_X d 43 (32, [some (.inr (.inr a0)), some (.inl x1)], [], σ) Φ) (k2 : (pe_I σ a0 0) = 4 → pe_X d 43 (43, [some (.inr (.inr a0)), some (.inl x1)], [], σ) Φ) (kd : ¬ (pe_I σ a0 0) = 2 → ¬ (pe_I σ a0 0) = 3 → ¬ (pe_I σ a0 0) = 4 → pe_X d 43 (47, [some (.inr (.inr a0)), some (.inl x1)], [], σ) Φ) : pe_X d 43 (0, [some (.inr (.inr a0)), some (.inl x1)], [], σ) Φ := by
  refine pe_blk 0 3 ck43 [pe_K σ a0 = 3] ((((4 : Nat) : Int) + pe_sw 43 [(2, 39), (3, 28), (4, 39)] (pe_w (pe_I σ a0 0))).toNat, [some (.inr (.inr a0)), some (.inl x1)], [], σ) rfl ?_ ?_
  · first
    | (simp (disch := omega) only [pe_all, pe_wi w0, pe_K_wI, pe_K_wR]; done)
    | (simp (disch := omega) only [pe_all, pe_wi w0, pe_K_wI, pe_K_wR]; (repeat' apply And.intro) <;> first | assumption | omega | decide)
  · try simp (disch := omega) only [pe_wi w0, pe_K_wI, pe_K_wR]
    by_cases q0 : (pe_I σ a0 0) = 2
    · have e : pe_sw 43 [(2, 39), (3, 28), (4, 39)] (pe_I σ a0 0) = 39 := by rw [q0]; rfl
      rw [e]; exact k0 q0
    by_cases q1 : (pe_I σ a0 0) = 3
    · have e : pe_sw 43 [(2, 39), (3, 28), (4, 39)] (pe_I σ a0 0) = 28 := by rw [q1]; rfl
      rw [e]; exact k1 q1
    by_cases q2 : (pe_I σ a0 0) = 4
    · have e : pe_sw 43 [(2, 39), (3, 28), (4, 39)] (pe_I σ a0 0) = 39 := by rw [q2]; rfl
      rw [e]; exact k2 q2
    have e : pe_sw 43 [(2, 39), (3, 28), (4, 39)] (pe_I σ a0 0) = 43 := by simp only [pe_sw, if_neg q0, if_neg q1, if_neg q2]
    rw [e]; exact kd q0 q1 q2
theorem b43_32 {d : Nat} {Φ : Option pe_V → pe_H → Prop} {σ : pe_H} {a0 : Nat} {x1 : Int}  (w0 : pe_in (x1 + (pe_I σ a0 1)) := by unfold pe_in; omega) (h0 : pe_K σ a0 = 3 := by first | assumption | omega) (h1 : ¬ 1000 = 0 := by first | assumption | omega) (k : Φ (some (.inl (Int.tmod (x1 + (pe_I σ a0 1)) 1000))) σ) : pe_X d 43 (32, [some (.inr (.inr a0)), some (.inl x1)], [], σ) Φ := by
  refine pe_blk 3 6 ck43 [pe_K σ a0 = 3, ¬ (pe_w 1000) = 0] (42, [some (.inr (.inr a0)), some (.inl x1)], [.inl (Int.tmod (pe_w (x1 + (pe_I σ a0 1))) (pe_w 1000))], σ) rfl ?_ ?_
  · first
    | (simp (disch := omega) only [pe_all, pe_wi w0, pe_wi (x := 1000) ⟨by decide, by decide⟩, pe_K_wI, pe_K_wR]; done)
    | (simp (disch := omega) only [pe_all, pe_wi w0, pe_wi (x := 1000) ⟨by decide, by decide⟩, pe_K_wI, pe_K_wR]; (repeat' apply And.intro) <;> first | assumption | omega | decide)
  · try simp (disch := omega) only [pe_wi w0, pe_wi (x := 1000) ⟨by decide, by decide⟩, pe_K_wI, pe_K_wR]
    exact pe_fine 9 ck43 rfl rfl rfl trivial k
theorem b43_43 {d : Nat} {Φ : Option pe_V → pe_H → Prop} {σ : pe_H} {o0 : Option pe_V} {x1 : Int}  (w0 : pe_in x1 := by unfold pe_in; omega) (h0 : ¬ 2 = 0 := by first | assumption | omega) (k : Φ (some (.inl (Int.tdiv x1 2))) σ) : pe_X d 43 (43, [o0, some (.inl x1)], [], σ) Φ := by
  refine pe_blk 10 3 ck43 [¬ (pe_w 2) = 0] (46, [o0, some (.inl x1)], [.inl (Int.tdiv (pe_w x1) (pe_w 2))], σ) rfl ?_ ?_
  · first
    | (simp (disch := omega) only [pe_all, pe_wi w0, pe_wi (x := 2) ⟨by decide, by decide⟩]; done)
    | (simp (disch := omega) only [pe_all, pe_wi w0, pe_wi (x := 2) ⟨by decide, by decide⟩]; (repeat' apply And.intro) <;> first | assumption | omega | decide)
  · try simp (disch := omega) only [pe_wi w0, pe_wi (x := 2) ⟨by decide, by decide⟩]
    exact pe_fine 13 ck43 rfl rfl rfl trivial k
theorem b43_47 {d : Nat} {Φ : Option pe_V → pe_H → Prop} {σ : pe_H} {o0 : Option pe_V} {x1 : Int}    (k : Φ (some (.inl x1)) σ) : pe_X d 43 (47, [o0, some (.inl x1)], [], σ) Φ := by
  refine pe_blk 14 1 ck43 [] (48, [o0, some (.inl x1)], [.inl x1], σ) rfl ?_ ?_
  · exact trivial
  · exact pe_fine 15 ck43 rfl rfl rfl trivial k
-- StepMachines$Manner.takes(II)I
def T44 : List (Nat × Instr × Nat) := [(0, .aload_n 0, 1), (1, .getfield 9, 3), (4, .tableswitch 57 1 5 #[36, 57, 36, 57, 47], 36), (40, .iload_n 1, 1), (41, .aload_n 0, 1), (42, .getfield 15, 3), (45, .iadd, 1), (46, .sipush 1000, 3), (49, .irem, 1), (50, .ireturn, 1), (51, .iload_n 1, 1), (52, .ifCond .ne 7, 3), (55, .iload_n 2, 1), (56, .goto 4, 3), (59, .iload_n 1, 1), (60, .ireturn, 1), (61, .iload_n 1, 1), (62, .ireturn, 1)]
theorem ck44 : pe_ctx 44 3 false (some .int) 3 T44 := ⟨rfl, rfl, rfl, rfl, by decide +kernel, by decide, by decide⟩
theorem b44_0 {d : Nat} {Φ : Option pe_V → pe_H → Prop} {σ : pe_H} {a0 : Nat} {x1 : Int} {x2 : Int}  (w0 : pe_in (pe_I σ a0 0) := by unfold pe_in; omega) (h0 : pe_K σ a0 = 3 := by first | assumption | omega) (k0 : (pe_I σ a0 0) = 1 → pe_X d 44 (40, [some (.inr (.inr a0)), some (.inl x1), some (.inl x2)], [], σ) Φ) (k1 : (pe_I σ a0 0) = 2 → pe_X d 44 (61, [some (.inr (.inr a0)), some (.inl x1), some (.inl x2)], [], σ) Φ) (k2 : (pe_I σ a0 0) = 3 → pe_X d 44 (40, [some (.inr (.inr a0)), some (.inl x1), some (.inl x2)], [], σ) Φ) (k3 : (pe_I σ a0 0) = 4 → pe_X d 44 (61, [some (.inr (.inr a0)), some (.inl x1), some (.inl x2)], [], σ) Φ) (k4 : (pe_I σ a0 0) = 5 → pe_X d 44 (51, [some (.inr (.inr a0)), some (.inl x1), some (.inl x2)], [], σ) Φ) (kd : ¬ (pe_I σ a0 0) = 1 → ¬ (pe_I σ a0 0) = 2 → ¬ (pe_I σ a0 0) = 3 → ¬ (pe_I σ a0 0) = 4 → ¬ (pe_I σ a0 0) = 5 → pe_X d 44 (61, [some (.inr (.inr a0)), some (.inl x1), some (.inl x2)], [], σ) Φ) : pe_X d 44 (0, [some (.inr (.inr a0)), some (.inl x1), some (.inl x2)], [], σ) Φ := by
  refine pe_blk 0 3 ck44 [pe_K σ a0 = 3] ((((4 : Nat) : Int) + pe_sw 57 [(1, 36), (2, 57), (3, 36), (4, 57), (5, 47)] (pe_w (pe_I σ a0 0))).toNat, [some (.inr (.inr a0)), some (.inl x1), some (.inl x2)], [], σ) rfl ?_ ?_
  · first
    | (simp (disch := omega) only [pe_all, pe_wi w0, pe_K_wI, pe_K_wR]; done)
    | (simp (disch := omega) only [pe_all, pe_wi w0, pe_K_wI, pe_K_wR]; (repeat' apply And.intro) <;> first | assumption | omega | decide)
  · try simp (disch := omega) only [pe_wi w0, pe_K_wI, pe_K_wR]
    by_cases q0 : (pe_I σ a0 0) = 1
    · have e : pe_sw 57 [(1, 36), (2, 57), (3, 36), (4, 57), (5, 47)] (pe_I σ a0 0) = 36 := by rw [q0]; rfl
      rw [e]; exact k0 q0
    by_cases q1 : (pe_I σ a0 0) = 2
    · have e : pe_sw 57 [(1, 36), (2, 57), (3, 36), (4, 57), (5, 47)] (pe_I σ a0 0) = 57 := by rw [q1]; rfl
      rw [e]; exact k1 q1
    by_cases q2 : (pe_I σ a0 0) = 3
    · have e : pe_sw 57 [(1, 36), (2, 57), (3, 36), (4, 57), (5, 47)] (pe_I σ a0 0) = 36 := by rw [q2]; rfl
      rw [e]; exact k2 q2
    by_cases q3 : (pe_I σ a0 0) = 4
    · have e : pe_sw 57 [(1, 36), (2, 57), (3, 36), (4, 57), (5, 47)] (pe_I σ a0 0) = 57 := by rw [q3]; rfl
      rw [e]; exact k3 q3
    by_cases q4 : (pe_I σ a0 0) = 5
    · have e : pe_sw 57 [(1, 36), (2, 57), (3, 36), (4, 57), (5, 47)] (pe_I σ a0 0) = 47 := by rw [q4]; rfl
      rw [e]; exact k4 q4
    have e : pe_sw 57 [(1, 36), (2, 57), (3, 36), (4, 57), (5, 47)] (pe_I σ a0 0) = 57 := by simp only [pe_sw, if_neg q0, if_neg q1, if_neg q2, if_neg q3, if_neg q4]
    rw [e]; exact kd q0 q1 q2 q3 q4
theorem b44_40 {d : Nat} {Φ : Option pe_V → pe_H → Prop} {σ : pe_H} {a0 : Nat} {x1 : Int} {o2 : Option pe_V}  (w0 : pe_in (x1 + (pe_I σ a0 1)) := by unfold pe_in; omega) (h0 : pe_K σ a0 = 3 := by first | assumption | omega) (h1 : ¬ 1000 = 0 := by first | assumption | omega) (k : Φ (some (.inl (Int.tmod (x1 + (pe_I σ a0 1)) 1000))) σ) : pe_X d 44 (40, [some (.inr (.inr a0)), some (.inl x1), o2], [], σ) Φ := by
  refine pe_blk 3 6 ck44 [pe_K σ a0 = 3, ¬ (pe_w 1000) = 0] (50, [some (.inr (.inr a0)), some (.inl x1), o2], [.inl (Int.tmod (pe_w (x1 + (pe_I σ a0 1))) (pe_w 1000))], σ) rfl ?_ ?_
  · first
    | (simp (disch := omega) only [pe_all, pe_wi w0, pe_wi (x := 1000) ⟨by decide, by decide⟩, pe_K_wI, pe_K_wR]; done)
    | (simp (disch := omega) only [pe_all, pe_wi w0, pe_wi (x := 1000) ⟨by decide, by decide⟩, pe_K_wI, pe_K_wR]; (repeat' apply And.intro) <;> first | assumption | omega | decide)
  · try simp (disch := omega) only [pe_wi w0, pe_wi (x := 1000) ⟨by decide, by decide⟩, pe_K_wI, pe_K_wR]
    exact pe_fine 9 ck44 rfl rfl rfl trivial k
theorem b44_51 {d : Nat} {Φ : Option pe_V → pe_H → Prop} {σ : pe_H} {o0 : Option pe_V} {x1 : Int} {x2 : Int}  (w0 : pe_in x1 := by unfold pe_in; omega)  (k1 : ¬ x1 = 0 → pe_X d 44 (59, [o0, some (.inl x1), some (.inl x2)], [], σ) Φ) (k2 : x1 = 0 → pe_X d 44 (55, [o0, some (.inl x1), some (.inl x2)], [], σ) Φ) : pe_X d 44 (51, [o0, some (.inl x1), some (.inl x2)], [], σ) Φ := by
  refine pe_blk 10 2 ck44 [] (cond (decide (¬ (pe_w x1) = 0)) 59 55, [o0, some (.inl x1), some (.inl x2)], [], σ) rfl ?_ ?_
  · exact trivial
  · try simp (disch := omega) only [pe_wi w0]
    exact pe_two' k1 k2
theorem b44_55 {d : Nat} {Φ : Option pe_V → pe_H → Prop} {σ : pe_H} {o0 : Option pe_V} {o1 : Option pe_V} {x2 : Int}    (k : pe_X d 44 (60, [o0, o1, some (.inl x2)], [.inl x2], σ) Φ) : pe_X d 44 (55, [o0, o1, some (.inl x2)], [], σ) Φ := by
  refine pe_blk 12 2 ck44 [] (60, [o0, o1, some (.inl x2)], [.inl x2], σ) rfl ?_ ?_
  · exact trivial
  · exact k
theorem b44_59 {d : Nat} {Φ : Option pe_V → pe_H → Prop} {σ : pe_H} {o0 : Option pe_V} {x1 : Int} {o2 : Option pe_V}    (k : pe_X d 44 (60, [o0, some (.inl x1), o2], [.inl x1], σ) Φ) : pe_X d 44 (59, [o0, some (.inl x1), o2], [], σ) Φ := by
  refine pe_blk 14 1 ck44 [] (60, [o0, some (.inl x1), o2], [.inl x1], σ) rfl ?_ ?_
  · exact trivial
  · exact k
theorem b44_60 {d : Nat} {Φ : Option pe_V → pe_H → Prop} {σ : pe_H} {o0 : Option pe_V} {o1 : Option pe_V} {o2 : Option pe_V} {s0 : Int}    (k : Φ (some (.inl s0)) σ) : pe_X d 44 (60, [o0, o1, o2], [.inl s0], σ) Φ := by
  exact pe_fine 15 ck44 rfl rfl rfl trivial k
theorem b44_61 {d : Nat} {Φ : Option pe_V → pe_H → Prop} {σ : pe_H} {o0 : Option pe_V} {x1 : Int} {o2 : Option pe_V}    (k : Φ (some (.inl x1)) σ) : pe_X d 44 (61, [o0, some (.inl x1), o2], [], σ) Φ := by
  refine pe_blk 16 1 ck44 [] (62, [o0, some (.inl x1), o2], [.inl x1], σ) rfl ?_ ?_
  · exact trivial
  · exact pe_fine 17 ck44 rfl rfl rfl trivial k
-- StepMachines$Manner.price()I
-- ('StepMachines$Manner', 'fail', '()V'): (32, (15, '.athrow', 1), "Exception('op .athrow')")

