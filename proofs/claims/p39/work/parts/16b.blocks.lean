/-! THE CLASS, blocks 2: by program -/
-- StepMachines$Manner.failure()I
-- StepMachines$Program.<init>([II)V
def T48 : List (Nat × Instr × Nat) := [(0, .aload_n 0, 1), (1, .invokespecial 1, 3), (4, .aload_n 0, 1), (5, .aload_n 1, 1), (6, .putfield 7, 3), (9, .aload_n 0, 1), (10, .iload_n 2, 1), (11, .putfield 13, 3), (14, .return_, 1)]
theorem ck48 : pe_ctx 48 4 true none 3 T48 := ⟨rfl, rfl, rfl, rfl, by decide +kernel, by decide, by decide⟩
theorem b48_0 {d : Nat} {Φ : Option pe_V → pe_H → Prop} {σ : pe_H} {a0 : Nat} {a1 : Nat} {x2 : Int}   (h0 : ¬ a0 = 0 := by first | assumption | omega) (h1 : pe_K σ a0 = 4 := by first | assumption | omega) (k : Φ none (pe_wI (pe_wR σ a0 0 a1) a0 1 x2)) : pe_X d 48 (0, [some (.inr (.inr a0)), some (.inr (.inr a1)), some (.inl x2)], [], σ) Φ := by
  refine pe_blk 0 8 ck48 [¬ a0 = 0, pe_K σ a0 = 4, pe_K (pe_wR σ a0 0 a1) a0 = 4] (14, [some (.inr (.inr a0)), some (.inr (.inr a1)), some (.inl x2)], [], pe_wI (pe_wR σ a0 0 a1) a0 1 x2) rfl ?_ ?_
  · first
    | (simp (disch := omega) only [pe_all, pe_K_wI, pe_K_wR]; done)
    | (simp (disch := omega) only [pe_all, pe_K_wI, pe_K_wR]; (repeat' apply And.intro) <;> first | assumption | omega | decide)
  · try simp (disch := omega) only [pe_K_wI, pe_K_wR]
    exact pe_fine 8 ck48 rfl rfl rfl trivial k
-- StepMachines$Program.length()I
def T49 : List (Nat × Instr × Nat) := [(0, .aload_n 0, 1), (1, .getfield 7, 3), (4, .arraylength, 1), (5, .ireturn, 1)]
theorem ck49 : pe_ctx 49 4 false (some .int) 1 T49 := ⟨rfl, rfl, rfl, rfl, by decide +kernel, by decide, by decide⟩
theorem b49_0 {d : Nat} {Φ : Option pe_V → pe_H → Prop} {σ : pe_H} {a0 : Nat}   (h0 : pe_K σ a0 = 4 := by first | assumption | omega) (h1 : 10 ≤ pe_K σ (pe_R σ a0 0) ∧ pe_K σ (pe_R σ a0 0) < 19 := by first | assumption | omega) (k : Φ (some (.inl (pe_L σ (pe_R σ a0 0)))) σ) : pe_X d 49 (0, [some (.inr (.inr a0))], [], σ) Φ := by
  refine pe_blk 0 3 ck49 [pe_K σ a0 = 4, 10 ≤ pe_K σ (pe_R σ a0 0) ∧ pe_K σ (pe_R σ a0 0) < 19] (5, [some (.inr (.inr a0))], [.inl (pe_L σ (pe_R σ a0 0))], σ) rfl ?_ ?_
  · first
    | (simp (disch := omega) only [pe_all, pe_K_wI, pe_K_wR, pe_L_wI, pe_L_wR]; done)
    | (simp (disch := omega) only [pe_all, pe_K_wI, pe_K_wR, pe_L_wI, pe_L_wR]; (repeat' apply And.intro) <;> first | assumption | omega | decide)
  · try simp (disch := omega) only [pe_K_wI, pe_K_wR, pe_L_wI, pe_L_wR]
    exact pe_fine 3 ck49 rfl rfl rfl trivial k
-- StepMachines$Program.letter(I)I
def T50 : List (Nat × Instr × Nat) := [(0, .iload_n 1, 1), (1, .ifCond .lt 24, 3), (4, .iload_n 1, 1), (5, .aload_n 0, 1), (6, .getfield 7, 3), (9, .arraylength, 1), (10, .if_icmp .ge 15, 3), (13, .aload_n 0, 1), (14, .getfield 7, 3), (17, .iload_n 1, 1), (18, .iaload, 1), (19, .bipush 10, 2), (21, .idiv, 1), (22, .goto 4, 3), (25, .iconst 0, 1), (26, .ireturn, 1)]
theorem ck50 : pe_ctx 50 4 false (some .int) 2 T50 := ⟨rfl, rfl, rfl, rfl, by decide +kernel, by decide, by decide⟩
theorem b50_0 {d : Nat} {Φ : Option pe_V → pe_H → Prop} {σ : pe_H} {a0 : Nat} {x1 : Int}  (w0 : pe_in x1 := by unfold pe_in; omega)  (k1 : x1 < 0 → pe_X d 50 (25, [some (.inr (.inr a0)), some (.inl x1)], [], σ) Φ) (k2 : ¬ (x1 < 0) → pe_X d 50 (4, [some (.inr (.inr a0)), some (.inl x1)], [], σ) Φ) : pe_X d 50 (0, [some (.inr (.inr a0)), some (.inl x1)], [], σ) Φ := by
  refine pe_blk 0 2 ck50 [] (cond (decide ((pe_w x1) < 0)) 25 4, [some (.inr (.inr a0)), some (.inl x1)], [], σ) rfl ?_ ?_
  · exact trivial
  · try simp (disch := omega) only [pe_wi w0]
    exact pe_two k1 k2
theorem b50_4 {d : Nat} {Φ : Option pe_V → pe_H → Prop} {σ : pe_H} {a0 : Nat} {x1 : Int}  (w0 : pe_in (pe_L σ (pe_R σ a0 0)) := by unfold pe_in; omega) (w1 : pe_in x1 := by unfold pe_in; omega) (h0 : pe_K σ a0 = 4 := by first | assumption | omega) (h1 : 10 ≤ pe_K σ (pe_R σ a0 0) ∧ pe_K σ (pe_R σ a0 0) < 19 := by first | assumption | omega) (k1 : (pe_L σ (pe_R σ a0 0)) ≤ x1 → pe_X d 50 (25, [some (.inr (.inr a0)), some (.inl x1)], [], σ) Φ) (k2 : ¬ ((pe_L σ (pe_R σ a0 0)) ≤ x1) → pe_X d 50 (13, [some (.inr (.inr a0)), some (.inl x1)], [], σ) Φ) : pe_X d 50 (4, [some (.inr (.inr a0)), some (.inl x1)], [], σ) Φ := by
  refine pe_blk 2 5 ck50 [pe_K σ a0 = 4, 10 ≤ pe_K σ (pe_R σ a0 0) ∧ pe_K σ (pe_R σ a0 0) < 19] (cond (decide ((pe_w (pe_L σ (pe_R σ a0 0))) ≤ (pe_w x1))) 25 13, [some (.inr (.inr a0)), some (.inl x1)], [], σ) rfl ?_ ?_
  · first
    | (simp (disch := omega) only [pe_all, pe_wi w0, pe_wi w1, pe_K_wI, pe_K_wR, pe_L_wI, pe_L_wR]; done)
    | (simp (disch := omega) only [pe_all, pe_wi w0, pe_wi w1, pe_K_wI, pe_K_wR, pe_L_wI, pe_L_wR]; (repeat' apply And.intro) <;> first | assumption | omega | decide)
  · try simp (disch := omega) only [pe_wi w0, pe_wi w1, pe_K_wI, pe_K_wR, pe_L_wI, pe_L_wR]
    exact pe_two k1 k2
theorem b50_13 {d : Nat} {Φ : Option pe_V → pe_H → Prop} {σ : pe_H} {a0 : Nat} {x1 : Int}  (w0 : pe_in x1 := by unfold pe_in; omega) (w1 : pe_in (pe_I σ (pe_R σ a0 0) x1) := by unfold pe_in; omega) (h0 : pe_K σ a0 = 4 := by first | assumption | omega) (h1 : pe_K σ (pe_R σ a0 0) = 10 := by first | assumption | omega) (h2 : 0 ≤ x1 := by first | assumption | omega) (h3 : x1 < pe_L σ (pe_R σ a0 0) := by first | assumption | omega) (h4 : ¬ 10 = 0 := by first | assumption | omega) (k : pe_X d 50 (26, [some (.inr (.inr a0)), some (.inl x1)], [.inl (Int.tdiv (pe_I σ (pe_R σ a0 0) x1) 10)], σ) Φ) : pe_X d 50 (13, [some (.inr (.inr a0)), some (.inl x1)], [], σ) Φ := by
  refine pe_blk 7 7 ck50 [pe_K σ a0 = 4, pe_K σ (pe_R σ a0 0) = 10, 0 ≤ (pe_w x1), (pe_w x1) < pe_L σ (pe_R σ a0 0), ¬ (pe_w 10) = 0] (26, [some (.inr (.inr a0)), some (.inl x1)], [.inl (Int.tdiv (pe_w (pe_I σ (pe_R σ a0 0) (pe_w x1))) (pe_w 10))], σ) rfl ?_ ?_
  · first
    | (simp (disch := omega) only [pe_all, pe_wi w0, pe_wi w1, pe_wi (x := 10) ⟨by decide, by decide⟩, pe_K_wI, pe_K_wR, pe_L_wI, pe_L_wR]; done)
    | (simp (disch := omega) only [pe_all, pe_wi w0, pe_wi w1, pe_wi (x := 10) ⟨by decide, by decide⟩, pe_K_wI, pe_K_wR, pe_L_wI, pe_L_wR]; (repeat' apply And.intro) <;> first | assumption | omega | decide)
  · try simp (disch := omega) only [pe_wi w0, pe_wi w1, pe_wi (x := 10) ⟨by decide, by decide⟩, pe_K_wI, pe_K_wR, pe_L_wI, pe_L_wR]
    exact k
theorem b50_26 {d : Nat} {Φ : Option pe_V → pe_H → Prop} {σ : pe_H} {o0 : Option pe_V} {o1 : Option pe_V} {s0 : Int}    (k : Φ (some (.inl s0)) σ) : pe_X d 50 (26, [o0, o1], [.inl s0], σ) Φ := by
  exact pe_fine 15 ck50 rfl rfl rfl trivial k
-- StepMachines$Program.number(I)I
def T51 : List (Nat × Instr × Nat) := [(0, .iload_n 1, 1), (1, .ifCond .lt 24, 3), (4, .iload_n 1, 1), (5, .aload_n 0, 1), (6, .getfield 7, 3), (9, .arraylength, 1), (10, .if_icmp .ge 15, 3), (13, .aload_n 0, 1), (14, .getfield 7, 3), (17, .iload_n 1, 1), (18, .iaload, 1), (19, .bipush 10, 2), (21, .irem, 1), (22, .goto 4, 3), (25, .iconst 0, 1), (26, .ireturn, 1)]
theorem ck51 : pe_ctx 51 4 false (some .int) 2 T51 := ⟨rfl, rfl, rfl, rfl, by decide +kernel, by decide, by decide⟩
theorem b51_0 {d : Nat} {Φ : Option pe_V → pe_H → Prop} {σ : pe_H} {a0 : Nat} {x1 : Int}  (w0 : pe_in x1 := by unfold pe_in; omega)  (k1 : x1 < 0 → pe_X d 51 (25, [some (.inr (.inr a0)), some (.inl x1)], [], σ) Φ) (k2 : ¬ (x1 < 0) → pe_X d 51 (4, [some (.inr (.inr a0)), some (.inl x1)], [], σ) Φ) : pe_X d 51 (0, [some (.inr (.inr a0)), some (.inl x1)], [], σ) Φ := by
  refine pe_blk 0 2 ck51 [] (cond (decide ((pe_w x1) < 0)) 25 4, [some (.inr (.inr a0)), some (.inl x1)], [], σ) rfl ?_ ?_
  · exact trivial
  · try simp (disch := omega) only [pe_wi w0]
    exact pe_two k1 k2
theorem b51_4 {d : Nat} {Φ : Option pe_V → pe_H → Prop} {σ : pe_H} {a0 : Nat} {x1 : Int}  (w0 : pe_in (pe_L σ (pe_R σ a0 0)) := by unfold pe_in; omega) (w1 : pe_in x1 := by unfold pe_in; omega) (h0 : pe_K σ a0 = 4 := by first | assumption | omega) (h1 : 10 ≤ pe_K σ (pe_R σ a0 0) ∧ pe_K σ (pe_R σ a0 0) < 19 := by first | assumption | omega) (k1 : (pe_L σ (pe_R σ a0 0)) ≤ x1 → pe_X d 51 (25, [some (.inr (.inr a0)), some (.inl x1)], [], σ) Φ) (k2 : ¬ ((pe_L σ (pe_R σ a0 0)) ≤ x1) → pe_X d 51 (13, [some (.inr (.inr a0)), some (.inl x1)], [], σ) Φ) : pe_X d 51 (4, [some (.inr (.inr a0)), some (.inl x1)], [], σ) Φ := by
  refine pe_blk 2 5 ck51 [pe_K σ a0 = 4, 10 ≤ pe_K σ (pe_R σ a0 0) ∧ pe_K σ (pe_R σ a0 0) < 19] (cond (decide ((pe_w (pe_L σ (pe_R σ a0 0))) ≤ (pe_w x1))) 25 13, [some (.inr (.inr a0)), some (.inl x1)], [], σ) rfl ?_ ?_
  · first
    | (simp (disch := omega) only [pe_all, pe_wi w0, pe_wi w1, pe_K_wI, pe_K_wR, pe_L_wI, pe_L_wR]; done)
    | (simp (disch := omega) only [pe_all, pe_wi w0, pe_wi w1, pe_K_wI, pe_K_wR, pe_L_wI, pe_L_wR]; (repeat' apply And.intro) <;> first | assumption | omega | decide)
  · try simp (disch := omega) only [pe_wi w0, pe_wi w1, pe_K_wI, pe_K_wR, pe_L_wI, pe_L_wR]
    exact pe_two k1 k2
theorem b51_13 {d : Nat} {Φ : Option pe_V → pe_H → Prop} {σ : pe_H} {a0 : Nat} {x1 : Int}  (w0 : pe_in x1 := by unfold pe_in; omega) (w1 : pe_in (pe_I σ (pe_R σ a0 0) x1) := by unfold pe_in; omega) (h0 : pe_K σ a0 = 4 := by first | assumption | omega) (h1 : pe_K σ (pe_R σ a0 0) = 10 := by first | assumption | omega) (h2 : 0 ≤ x1 := by first | assumption | omega) (h3 : x1 < pe_L σ (pe_R σ a0 0) := by first | assumption | omega) (h4 : ¬ 10 = 0 := by first | assumption | omega) (k : pe_X d 51 (26, [some (.inr (.inr a0)), some (.inl x1)], [.inl (Int.tmod (pe_I σ (pe_R σ a0 0) x1) 10)], σ) Φ) : pe_X d 51 (13, [some (.inr (.inr a0)), some (.inl x1)], [], σ) Φ := by
  refine pe_blk 7 7 ck51 [pe_K σ a0 = 4, pe_K σ (pe_R σ a0 0) = 10, 0 ≤ (pe_w x1), (pe_w x1) < pe_L σ (pe_R σ a0 0), ¬ (pe_w 10) = 0] (26, [some (.inr (.inr a0)), some (.inl x1)], [.inl (Int.tmod (pe_w (pe_I σ (pe_R σ a0 0) (pe_w x1))) (pe_w 10))], σ) rfl ?_ ?_
  · first
    | (simp (disch := omega) only [pe_all, pe_wi w0, pe_wi w1, pe_wi (x := 10) ⟨by decide, by decide⟩, pe_K_wI, pe_K_wR, pe_L_wI, pe_L_wR]; done)
    | (simp (disch := omega) only [pe_all, pe_wi w0, pe_wi w1, pe_wi (x := 10) ⟨by decide, by decide⟩, pe_K_wI, pe_K_wR, pe_L_wI, pe_L_wR]; (repeat' apply And.intro) <;> first | assumption | omega | decide)
  · try simp (disch := omega) only [pe_wi w0, pe_wi w1, pe_wi (x := 10) ⟨by decide, by decide⟩, pe_K_wI, pe_K_wR, pe_L_wI, pe_L_wR]
    exact k
theorem b51_26 {d : Nat} {Φ : Option pe_V → pe_H → Prop} {σ : pe_H} {o0 : Option pe_V} {o1 : Option pe_V} {s0 : Int}    (k : Φ (some (.inl s0)) σ) : pe_X d 51 (26, [o0, o1], [.inl s0], σ) Φ := by
  exact pe_fine 15 ck51 rfl rfl rfl trivial k
-- StepMachines$Queue.<init>()V
def T52 : List (Nat × Instr × Nat) := [(0, .aload_n 0, 1), (1, .invokespecial 3, 3), (4, .aload_n 0, 1), (5, .bipush 8, 2), (7, .newarray .int, 2), (9, .putfield 9, 3), (12, .aload_n 0, 1), (13, .iconst 0, 1), (14, .putfield 15, 3), (17, .return_, 1)]
theorem ck52 : pe_ctx 52 5 true none 1 T52 := ⟨rfl, rfl, rfl, rfl, by decide +kernel, by decide, by decide⟩
-- StepMachines$Queue.become(LStepMachines$Queue;)V
def T53 : List (Nat × Instr × Nat) := [(0, .aload_n 0, 1), (1, .aload_n 1, 1), (2, .getfield 15, 3), (5, .putfield 15, 3), (8, .iconst 0, 1), (9, .istore_n 2, 1), (10, .iload_n 2, 1), (11, .aload_n 0, 1), (12, .getfield 15, 3), (15, .if_icmp .ge 21, 3), (18, .aload_n 0, 1), (19, .getfield 9, 3), (22, .iload_n 2, 1), (23, .aload_n 1, 1), (24, .getfield 9, 3), (27, .iload_n 2, 1), (28, .iaload, 1), (29, .iastore, 1), (30, .iinc 2 1, 3), (33, .goto (-23), 3), (36, .return_, 1)]
theorem ck53 : pe_ctx 53 5 false none 3 T53 := ⟨rfl, rfl, rfl, rfl, by decide +kernel, by decide, by decide⟩
theorem b53_0 {d : Nat} {Φ : Option pe_V → pe_H → Prop} {σ : pe_H} {a0 : Nat} {a1 : Nat} {o2 : Option pe_V} (f_a0 : pk_Fq a0 σ := by assumption) (f_a1 : pk_Fq a1 σ := by assumption)   (k : pe_X d 53 (10, [some (.inr (.inr a0)), some (.inr (.inr a1)), some (.inl 0)], [], pe_wI σ a0 1 (pe_I σ a1 1)) Φ) : pe_X d 53 (0, [some (.inr (.inr a0)), some (.inr (.inr a1)), o2], [], σ) Φ := by
  refine pe_blk 0 6 ck53 [pe_K σ a1 = 5, pe_K σ a0 = 5] (10, [some (.inr (.inr a0)), some (.inr (.inr a1)), some (.inl 0)], [], pe_wI σ a0 1 (pe_I σ a1 1)) rfl ?_ ?_
  · first
    | (simp (disch := omega) only [pe_all, pe_K_wI, pe_K_wR, pk_qK f_a0, pk_qK f_a1]; done)
    | (simp (disch := omega) only [pe_all, pe_K_wI, pe_K_wR, pk_qK f_a0, pk_qK f_a1]; (repeat' apply And.intro) <;> first | assumption | omega | decide)
  · try simp (disch := omega) only [pe_K_wI, pe_K_wR, pk_qK f_a0, pk_qK f_a1]
    exact k
theorem b53_10 {d : Nat} {Φ : Option pe_V → pe_H → Prop} {σ : pe_H} {a0 : Nat} {a1 : Nat} {x2 : Int} (f_a0 : pk_Fq a0 σ := by assumption) (f_a1 : pk_Fq a1 σ := by assumption) (w0 : pe_in (pe_I σ a0 1) := by unfold pe_in; omega) (w1 : pe_in x2 := by unfold pe_in; omega)  (k1 : (pe_I σ a0 1) ≤ x2 → pe_X d 53 (36, [some (.inr (.inr a0)), some (.inr (.inr a1)), some (.inl x2)], [], σ) Φ) (k2 : ¬ ((pe_I σ a0 1) ≤ x2) → pe_X d 53 (18, [some (.inr (.inr a0)), some (.inr (.inr a1)), some (.inl x2)], [], σ) Φ) : pe_X d 53 (10, [some (.inr (.inr a0)), some (.inr (.inr a1)), some (.inl x2)], [], σ) Φ := by
  refine pe_blk 6 4 ck53 [pe_K σ a0 = 5] (cond (decide ((pe_w (pe_I σ a0 1)) ≤ (pe_w x2))) 36 18, [some (.inr (.inr a0)), some (.inr (.inr a1)), some (.inl x2)], [], σ) rfl ?_ ?_
  · first
    | (simp (disch := omega) only [pe_all, pe_wi w0, pe_wi w1, pe_K_wI, pe_K_wR, pk_qK f_a0]; done)
    | (simp (disch := omega) only [pe_all, pe_wi w0, pe_wi w1, pe_K_wI, pe_K_wR, pk_qK f_a0]; (repeat' apply And.intro) <;> first | assumption | omega | decide)
  · try simp (disch := omega) only [pe_wi w0, pe_wi w1, pe_K_wI, pe_K_wR, pk_qK f_a0]
    exact pe_two k1 k2
theorem b53_18 {d : Nat} {Φ : Option pe_V → pe_H → Prop} {σ : pe_H} {a0 : Nat} {a1 : Nat} {x2 : Int} (f_a0 : pk_Fq a0 σ := by assumption) (f_a1 : pk_Fq a1 σ := by assumption) (w0 : pe_in x2 := by unfold pe_in; omega) (h0 : 0 ≤ x2 := by first | assumption | omega) (h1 : x2 < 8 := by first | assumption | omega) (k : pe_X d 53 (10, [some (.inr (.inr a0)), some (.inr (.inr a1)), some (.inl (x2 + 1))], [], pe_wI σ (a0 + 1) x2 (pe_I σ (a1 + 1) x2)) Φ) : pe_X d 53 (18, [some (.inr (.inr a0)), some (.inr (.inr a1)), some (.inl x2)], [], σ) Φ := by
  have hX0 := pk_q2 f_a0
  refine pe_blk 10 10 ck53 [pe_K σ a0 = 5, pe_K σ a1 = 5, pe_K σ (pe_R σ a1 0) = 10, 0 ≤ (pe_w x2), (pe_w x2) < pe_L σ (pe_R σ a1 0), pe_K σ (pe_R σ a0 0) = 10, 0 ≤ (pe_w x2), (pe_w x2) < pe_L σ (pe_R σ a0 0), 2 ≤ (pe_R σ a0 0)] (10, [some (.inr (.inr a0)), some (.inr (.inr a1)), some (.inl (x2 + 1))], [], pe_wI σ (pe_R σ a0 0) (pe_w x2) (pe_I σ (pe_R σ a1 0) (pe_w x2))) rfl ?_ ?_
  · first
    | (simp (disch := omega) only [pe_all, pe_wi w0, pe_K_wI, pe_K_wR, pe_L_wI, pe_L_wR, pe_R_nej, pe_R_ner, pe_R_wI, pk_qK f_a0, pk_qK f_a1, pk_qK1 f_a0, pk_qK1 f_a1, pk_qL1 f_a0, pk_qL1 f_a1, pk_qR f_a0, pk_qR f_a1]; done)
    | (simp (disch := omega) only [pe_all, pe_wi w0, pe_K_wI, pe_K_wR, pe_L_wI, pe_L_wR, pe_R_nej, pe_R_ner, pe_R_wI, pk_qK f_a0, pk_qK f_a1, pk_qK1 f_a0, pk_qK1 f_a1, pk_qL1 f_a0, pk_qL1 f_a1, pk_qR f_a0, pk_qR f_a1]; (repeat' apply And.intro) <;> first | assumption | omega | decide)
  · try simp (disch := omega) only [pe_wi w0, pe_K_wI, pe_K_wR, pe_L_wI, pe_L_wR, pe_R_nej, pe_R_ner, pe_R_wI, pk_qK f_a0, pk_qK f_a1, pk_qK1 f_a0, pk_qK1 f_a1, pk_qL1 f_a0, pk_qL1 f_a1, pk_qR f_a0, pk_qR f_a1]
    exact k
theorem b53_36 {d : Nat} {Φ : Option pe_V → pe_H → Prop} {σ : pe_H} {o0 : Option pe_V} {o1 : Option pe_V} {o2 : Option pe_V}    (k : Φ none σ) : pe_X d 53 (36, [o0, o1, o2], [], σ) Φ := by
  exact pe_fine 20 ck53 rfl rfl rfl trivial k
-- StepMachines$Queue.join(I)V
def T54 : List (Nat × Instr × Nat) := [(0, .aload_n 0, 1), (1, .getfield 15, 3), (4, .bipush 8, 2), (6, .if_icmp .ge 23, 3), (9, .aload_n 0, 1), (10, .getfield 9, 3), (13, .aload_n 0, 1), (14, .getfield 15, 3), (17, .iload_n 1, 1), (18, .iastore, 1), (19, .aload_n 0, 1), (20, .dup, 1), (21, .getfield 15, 3), (24, .iconst 1, 1), (25, .iadd, 1), (26, .putfield 15, 3), (29, .return_, 1)]
theorem ck54 : pe_ctx 54 5 false none 2 T54 := ⟨rfl, rfl, rfl, rfl, by decide +kernel, by decide, by decide⟩
theorem b54_0 {d : Nat} {Φ : Option pe_V → pe_H → Prop} {σ : pe_H} {a0 : Nat} {x1 : Int} (f_a0 : pk_Fq a0 σ := by assumption) (w0 : pe_in (pe_I σ a0 1) := by unfold pe_in; omega)  (k1 : 8 ≤ (pe_I σ a0 1) → pe_X d 54 (29, [some (.inr (.inr a0)), some (.inl x1)], [], σ) Φ) (k2 : ¬ (8 ≤ (pe_I σ a0 1)) → pe_X d 54 (9, [some (.inr (.inr a0)), some (.inl x1)], [], σ) Φ) : pe_X d 54 (0, [some (.inr (.inr a0)), some (.inl x1)], [], σ) Φ := by
  refine pe_blk 0 4 ck54 [pe_K σ a0 = 5] (cond (decide ((pe_w 8) ≤ (pe_w (pe_I σ a0 1)))) 29 9, [some (.inr (.inr a0)), some (.inl x1)], [], σ) rfl ?_ ?_
  · first
    | (simp (disch := omega) only [pe_all, pe_wi w0, pe_wi (x := 8) ⟨by decide, by decide⟩, pe_K_wI, pe_K_wR, pk_qK f_a0]; done)
    | (simp (disch := omega) only [pe_all, pe_wi w0, pe_wi (x := 8) ⟨by decide, by decide⟩, pe_K_wI, pe_K_wR, pk_qK f_a0]; (repeat' apply And.intro) <;> first | assumption | omega | decide)
  · try simp (disch := omega) only [pe_wi w0, pe_wi (x := 8) ⟨by decide, by decide⟩, pe_K_wI, pe_K_wR, pk_qK f_a0]
    exact pe_two k1 k2
theorem b54_9 {d : Nat} {Φ : Option pe_V → pe_H → Prop} {σ : pe_H} {a0 : Nat} {x1 : Int} (f_a0 : pk_Fq a0 σ := by assumption) (w0 : pe_in (pe_I σ a0 1) := by unfold pe_in; omega) (h0 : 0 ≤ (pe_I σ a0 1) := by first | assumption | omega) (h1 : (pe_I σ a0 1) < 8 := by first | assumption | omega) (k : pe_X d 54 (29, [some (.inr (.inr a0)), some (.inl x1)], [], pe_wI (pe_wI σ (a0 + 1) (pe_I σ a0 1) x1) a0 1 ((pe_I σ a0 1) + 1)) Φ) : pe_X d 54 (9, [some (.inr (.inr a0)), some (.inl x1)], [], σ) Φ := by
  have hX0 := pk_q2 f_a0
  refine pe_blk 4 12 ck54 [pe_K σ a0 = 5, pe_K σ a0 = 5, pe_K σ (pe_R σ a0 0) = 10, 0 ≤ (pe_w (pe_I σ a0 1)), (pe_w (pe_I σ a0 1)) < pe_L σ (pe_R σ a0 0), 2 ≤ (pe_R σ a0 0), pe_K (pe_wI σ (pe_R σ a0 0) (pe_w (pe_I σ a0 1)) x1) a0 = 5, pe_K (pe_wI σ (pe_R σ a0 0) (pe_w (pe_I σ a0 1)) x1) a0 = 5] (29, [some (.inr (.inr a0)), some (.inl x1)], [], pe_wI (pe_wI σ (pe_R σ a0 0) (pe_w (pe_I σ a0 1)) x1) a0 1 ((pe_I (pe_wI σ (pe_R σ a0 0) (pe_w (pe_I σ a0 1)) x1) a0 1) + 1)) rfl ?_ ?_
  · first
    | (simp (disch := omega) only [pe_all, pe_wi w0, pe_I_ner, pe_K_wI, pe_K_wR, pe_L_wI, pe_L_wR, pe_R_nej, pe_R_ner, pe_R_wI, pk_qK f_a0, pk_qK1 f_a0, pk_qL1 f_a0, pk_qR f_a0]; done)
    | (simp (disch := omega) only [pe_all, pe_wi w0, pe_I_ner, pe_K_wI, pe_K_wR, pe_L_wI, pe_L_wR, pe_R_nej, pe_R_ner, pe_R_wI, pk_qK f_a0, pk_qK1 f_a0, pk_qL1 f_a0, pk_qR f_a0]; (repeat' apply And.intro) <;> first | assumption | omega | decide)
  · try simp (disch := omega) only [pe_wi w0, pe_I_ner, pe_K_wI, pe_K_wR, pe_L_wI, pe_L_wR, pe_R_nej, pe_R_ner, pe_R_wI, pk_qK f_a0, pk_qK1 f_a0, pk_qL1 f_a0, pk_qR f_a0]
    exact k
theorem b54_29 {d : Nat} {Φ : Option pe_V → pe_H → Prop} {σ : pe_H} {o0 : Option pe_V} {o1 : Option pe_V}    (k : Φ none σ) : pe_X d 54 (29, [o0, o1], [], σ) Φ := by
  exact pe_fine 16 ck54 rfl rfl rfl trivial k
-- StepMachines$Queue.leave(I)V
def T55 : List (Nat × Instr × Nat) := [(0, .iconst 0, 1), (1, .istore_n 2, 1), (2, .iconst 0, 1), (3, .istore_n 3, 1), (4, .iload_n 3, 1), (5, .aload_n 0, 1), (6, .getfield 15, 3), (9, .if_icmp .ge 34, 3), (12, .aload_n 0, 1), (13, .getfield 9, 3), (16, .iload_n 3, 1), (17, .iaload, 1), (18, .iload_n 1, 1), (19, .if_icmp .eq 18, 3), (22, .aload_n 0, 1), (23, .getfield 9, 3), (26, .iload_n 2, 1), (27, .aload_n 0, 1), (28, .getfield 9, 3), (31, .iload_n 3, 1), (32, .iaload, 1), (33, .iastore, 1), (34, .iinc 2 1, 3), (37, .iinc 3 1, 3), (40, .goto (-36), 3), (43, .aload_n 0, 1), (44, .iload_n 2, 1), (45, .putfield 15, 3), (48, .return_, 1)]
theorem ck55 : pe_ctx 55 5 false none 4 T55 := ⟨rfl, rfl, rfl, rfl, by decide +kernel, by decide, by decide⟩
theorem b55_0 {d : Nat} {Φ : Option pe_V → pe_H → Prop} {σ : pe_H} {a0 : Nat} {x1 : Int} {o2 : Option pe_V} {o3 : Option pe_V} (f_a0 : pk_Fq a0 σ := by assumption)   (k : pe_X d 55 (4, [some (.inr (.inr a0)), some (.inl x1), some (.inl 0), some (.inl 0)], [], σ) Φ) : pe_X d 55 (0, [some (.inr (.inr a0)), some (.inl x1), o2, o3], [], σ) Φ := by
  refine pe_blk 0 4 ck55 [] (4, [some (.inr (.inr a0)), some (.inl x1), some (.inl 0), some (.inl 0)], [], σ) rfl ?_ ?_
  · exact trivial
  · exact k
theorem b55_4 {d : Nat} {Φ : Option pe_V → pe_H → Prop} {σ : pe_H} {a0 : Nat} {x1 : Int} {x2 : Int} {x3 : Int} (f_a0 : pk_Fq a0 σ := by assumption) (w0 : pe_in (pe_I σ a0 1) := by unfold pe_in; omega) (w1 : pe_in x3 := by unfold pe_in; omega)  (k1 : (pe_I σ a0 1) ≤ x3 → pe_X d 55 (43, [some (.inr (.inr a0)), some (.inl x1), some (.inl x2), some (.inl x3)], [], σ) Φ) (k2 : ¬ ((pe_I σ a0 1) ≤ x3) → pe_X d 55 (12, [some (.inr (.inr a0)), some (.inl x1), some (.inl x2), some (.inl x3)], [], σ) Φ) : pe_X d 55 (4, [some (.inr (.inr a0)), some (.inl x1), some (.inl x2), some (.inl x3)], [], σ) Φ := by
  refine pe_blk 4 4 ck55 [pe_K σ a0 = 5] (cond (decide ((pe_w (pe_I σ a0 1)) ≤ (pe_w x3))) 43 12, [some (.inr (.inr a0)), some (.inl x1), some (.inl x2), some (.inl x3)], [], σ) rfl ?_ ?_
  · first
    | (simp (disch := omega) only [pe_all, pe_wi w0, pe_wi w1, pe_K_wI, pe_K_wR, pk_qK f_a0]; done)
    | (simp (disch := omega) only [pe_all, pe_wi w0, pe_wi w1, pe_K_wI, pe_K_wR, pk_qK f_a0]; (repeat' apply And.intro) <;> first | assumption | omega | decide)
  · try simp (disch := omega) only [pe_wi w0, pe_wi w1, pe_K_wI, pe_K_wR, pk_qK f_a0]
    exact pe_two k1 k2
theorem b55_12 {d : Nat} {Φ : Option pe_V → pe_H → Prop} {σ : pe_H} {a0 : Nat} {x1 : Int} {x2 : Int} {x3 : Int} (f_a0 : pk_Fq a0 σ := by assumption) (w0 : pe_in x3 := by unfold pe_in; omega) (w1 : pe_in x1 := by unfold pe_in; omega) (w2 : pe_in (pe_I σ (a0 + 1) x3) := by unfold pe_in; omega) (h0 : 0 ≤ x3 := by first | assumption | omega) (h1 : x3 < 8 := by first | assumption | omega) (k1 : (pe_I σ (a0 + 1) x3) = x1 → pe_X d 55 (37, [some (.inr (.inr a0)), some (.inl x1), some (.inl x2), some (.inl x3)], [], σ) Φ) (k2 : ¬ ((pe_I σ (a0 + 1) x3) = x1) → pe_X d 55 (22, [some (.inr (.inr a0)), some (.inl x1), some (.inl x2), some (.inl x3)], [], σ) Φ) : pe_X d 55 (12, [some (.inr (.inr a0)), some (.inl x1), some (.inl x2), some (.inl x3)], [], σ) Φ := by
  refine pe_blk 8 6 ck55 [pe_K σ a0 = 5, pe_K σ (pe_R σ a0 0) = 10, 0 ≤ (pe_w x3), (pe_w x3) < pe_L σ (pe_R σ a0 0)] (cond (decide ((pe_w (pe_I σ (pe_R σ a0 0) (pe_w x3))) = (pe_w x1))) 37 22, [some (.inr (.inr a0)), some (.inl x1), some (.inl x2), some (.inl x3)], [], σ) rfl ?_ ?_
  · first
    | (simp (disch := omega) only [pe_all, pe_wi w0, pe_wi w1, pe_wi w2, pe_K_wI, pe_K_wR, pe_L_wI, pe_L_wR, pe_R_nej, pe_R_ner, pe_R_wI, pk_qK f_a0, pk_qK1 f_a0, pk_qL1 f_a0, pk_qR f_a0]; done)
    | (simp (disch := omega) only [pe_all, pe_wi w0, pe_wi w1, pe_wi w2, pe_K_wI, pe_K_wR, pe_L_wI, pe_L_wR, pe_R_nej, pe_R_ner, pe_R_wI, pk_qK f_a0, pk_qK1 f_a0, pk_qL1 f_a0, pk_qR f_a0]; (repeat' apply And.intro) <;> first | assumption | omega | decide)
  · try simp (disch := omega) only [pe_wi w0, pe_wi w1, pe_wi w2, pe_K_wI, pe_K_wR, pe_L_wI, pe_L_wR, pe_R_nej, pe_R_ner, pe_R_wI, pk_qK f_a0, pk_qK1 f_a0, pk_qL1 f_a0, pk_qR f_a0]
    exact pe_two k1 k2
theorem b55_22 {d : Nat} {Φ : Option pe_V → pe_H → Prop} {σ : pe_H} {a0 : Nat} {x1 : Int} {x2 : Int} {x3 : Int} (f_a0 : pk_Fq a0 σ := by assumption) (w0 : pe_in x3 := by unfold pe_in; omega) (w1 : pe_in x2 := by unfold pe_in; omega) (h0 : 0 ≤ x3 := by first | assumption | omega) (h1 : x3 < 8 := by first | assumption | omega) (h2 : 0 ≤ x2 := by first | assumption | omega) (h3 : x2 < 8 := by first | assumption | omega) (k : pe_X d 55 (37, [some (.inr (.inr a0)), some (.inl x1), some (.inl (x2 + 1)), some (.inl x3)], [], pe_wI σ (a0 + 1) x2 (pe_I σ (a0 + 1) x3)) Φ) : pe_X d 55 (22, [some (.inr (.inr a0)), some (.inl x1), some (.inl x2), some (.inl x3)], [], σ) Φ := by
  have hX0 := pk_q2 f_a0
  refine pe_blk 14 9 ck55 [pe_K σ a0 = 5, pe_K σ a0 = 5, pe_K σ (pe_R σ a0 0) = 10, 0 ≤ (pe_w x3), (pe_w x3) < pe_L σ (pe_R σ a0 0), pe_K σ (pe_R σ a0 0) = 10, 0 ≤ (pe_w x2), (pe_w x2) < pe_L σ (pe_R σ a0 0), 2 ≤ (pe_R σ a0 0)] (37, [some (.inr (.inr a0)), some (.inl x1), some (.inl (x2 + 1)), some (.inl x3)], [], pe_wI σ (pe_R σ a0 0) (pe_w x2) (pe_I σ (pe_R σ a0 0) (pe_w x3))) rfl ?_ ?_
  · first
    | (simp (disch := omega) only [pe_all, pe_wi w0, pe_wi w1, pe_K_wI, pe_K_wR, pe_L_wI, pe_L_wR, pe_R_nej, pe_R_ner, pe_R_wI, pk_qK f_a0, pk_qK1 f_a0, pk_qL1 f_a0, pk_qR f_a0]; done)
    | (simp (disch := omega) only [pe_all, pe_wi w0, pe_wi w1, pe_K_wI, pe_K_wR, pe_L_wI, pe_L_wR, pe_R_nej, pe_R_ner, pe_R_wI, pk_qK f_a0, pk_qK1 f_a0, pk_qL1 f_a0, pk_qR f_a0]; (repeat' apply And.intro) <;> first | assumption | omega | decide)
  · try simp (disch := omega) only [pe_wi w0, pe_wi w1, pe_K_wI, pe_K_wR, pe_L_wI, pe_L_wR, pe_R_nej, pe_R_ner, pe_R_wI, pk_qK f_a0, pk_qK1 f_a0, pk_qL1 f_a0, pk_qR f_a0]
    exact k
theorem b55_37 {d : Nat} {Φ : Option pe_V → pe_H → Prop} {σ : pe_H} {a0 : Nat} {x1 : Int} {x2 : Int} {x3 : Int} (f_a0 : pk_Fq a0 σ := by assumption)   (k : pe_X d 55 (4, [some (.inr (.inr a0)), some (.inl x1), some (.inl x2), some (.inl (x3 + 1))], [], σ) Φ) : pe_X d 55 (37, [some (.inr (.inr a0)), some (.inl x1), some (.inl x2), some (.inl x3)], [], σ) Φ := by
  refine pe_blk 23 2 ck55 [] (4, [some (.inr (.inr a0)), some (.inl x1), some (.inl x2), some (.inl (x3 + 1))], [], σ) rfl ?_ ?_
  · exact trivial
  · exact k
theorem b55_43 {d : Nat} {Φ : Option pe_V → pe_H → Prop} {σ : pe_H} {a0 : Nat} {o1 : Option pe_V} {x2 : Int} {o3 : Option pe_V} (f_a0 : pk_Fq a0 σ := by assumption)   (k : Φ none (pe_wI σ a0 1 x2)) : pe_X d 55 (43, [some (.inr (.inr a0)), o1, some (.inl x2), o3], [], σ) Φ := by
  refine pe_blk 25 3 ck55 [pe_K σ a0 = 5] (48, [some (.inr (.inr a0)), o1, some (.inl x2), o3], [], pe_wI σ a0 1 x2) rfl ?_ ?_
  · first
    | (simp (disch := omega) only [pe_all, pe_K_wI, pe_K_wR, pk_qK f_a0]; done)
    | (simp (disch := omega) only [pe_all, pe_K_wI, pe_K_wR, pk_qK f_a0]; (repeat' apply And.intro) <;> first | assumption | omega | decide)
  · try simp (disch := omega) only [pe_K_wI, pe_K_wR, pk_qK f_a0]
    exact pe_fine 28 ck55 rfl rfl rfl trivial k
-- StepMachines$Row.<init>(II)V
def T56 : List (Nat × Instr × Nat) := [(0, .aload_n 0, 1), (1, .invokespecial 3, 3), (4, .aload_n 0, 1), (5, .iload_n 1, 1), (6, .putfield 9, 3), (9, .aload_n 0, 1), (10, .iload_n 2, 1), (11, .newarray .int, 2), (13, .putfield 15, 3), (16, .return_, 1)]
theorem ck56 : pe_ctx 56 6 true none 3 T56 := ⟨rfl, rfl, rfl, rfl, by decide +kernel, by decide, by decide⟩
theorem b56_0 {d : Nat} {Φ : Option pe_V → pe_H → Prop} {σ : pe_H} {a0 : Nat} {x1 : Int} {x2 : Int}  (w0 : pe_in x2 := by unfold pe_in; omega) (h0 : ¬ a0 = 0 := by first | assumption | omega) (h1 : pe_K σ a0 = 6 := by first | assumption | omega) (h2 : 0 ≤ x2 := by first | assumption | omega) (h3 : x2 ≤ 10000 := by first | assumption | omega) (h4 : pe_K (pe_new (pe_wI σ a0 0 x1) 10 x2 ((x2 : Int).toNat)) a0 = 6 := by first | assumption | omega) (k : Φ none (pe_wR (pe_new (pe_wI σ a0 0 x1) 10 x2 ((x2 : Int).toNat)) a0 1 (pe_n (pe_wI σ a0 0 x1)))) : pe_X d 56 (0, [some (.inr (.inr a0)), some (.inl x1), some (.inl x2)], [], σ) Φ := by
  refine pe_blk 0 9 ck56 [¬ a0 = 0, pe_K σ a0 = 6, 0 ≤ (pe_w x2), (pe_w x2) ≤ 10000, pe_K (pe_new (pe_wI σ a0 0 x1) 10 (pe_w x2) ((pe_w x2).toNat)) a0 = 6] (16, [some (.inr (.inr a0)), some (.inl x1), some (.inl x2)], [], pe_wR (pe_new (pe_wI σ a0 0 x1) 10 (pe_w x2) ((pe_w x2).toNat)) a0 1 (pe_n (pe_wI σ a0 0 x1))) rfl ?_ ?_
  · first
    | (simp (disch := omega) only [pe_all, pe_wi w0, pe_K_wI, pe_K_wR]; done)
    | (simp (disch := omega) only [pe_all, pe_wi w0, pe_K_wI, pe_K_wR]; (repeat' apply And.intro) <;> first | assumption | omega | decide)
  · try simp (disch := omega) only [pe_wi w0, pe_K_wI, pe_K_wR]
    exact pe_fine 9 ck56 rfl rfl rfl trivial k
-- StepMachines$Row.size()I
def T57 : List (Nat × Instr × Nat) := [(0, .aload_n 0, 1), (1, .getfield 15, 3), (4, .arraylength, 1), (5, .ireturn, 1)]
theorem ck57 : pe_ctx 57 6 false (some .int) 1 T57 := ⟨rfl, rfl, rfl, rfl, by decide +kernel, by decide, by decide⟩
theorem b57_0 {d : Nat} {Φ : Option pe_V → pe_H → Prop} {σ : pe_H} {a0 : Nat}   (h0 : pe_K σ a0 = 6 := by first | assumption | omega) (h1 : 10 ≤ pe_K σ (pe_R σ a0 1) ∧ pe_K σ (pe_R σ a0 1) < 19 := by first | assumption | omega) (k : Φ (some (.inl (pe_L σ (pe_R σ a0 1)))) σ) : pe_X d 57 (0, [some (.inr (.inr a0))], [], σ) Φ := by
  refine pe_blk 0 3 ck57 [pe_K σ a0 = 6, 10 ≤ pe_K σ (pe_R σ a0 1) ∧ pe_K σ (pe_R σ a0 1) < 19] (5, [some (.inr (.inr a0))], [.inl (pe_L σ (pe_R σ a0 1))], σ) rfl ?_ ?_
  · first
    | (simp (disch := omega) only [pe_all, pe_K_wI, pe_K_wR, pe_L_wI, pe_L_wR]; done)
    | (simp (disch := omega) only [pe_all, pe_K_wI, pe_K_wR, pe_L_wI, pe_L_wR]; (repeat' apply And.intro) <;> first | assumption | omega | decide)
  · try simp (disch := omega) only [pe_K_wI, pe_K_wR, pe_L_wI, pe_L_wR]
    exact pe_fine 3 ck57 rfl rfl rfl trivial k
-- StepMachines$Row.has(I)Z
def T58 : List (Nat × Instr × Nat) := [(0, .iload_n 1, 1), (1, .ifCond .lt 16, 3), (4, .iload_n 1, 1), (5, .aload_n 0, 1), (6, .getfield 15, 3), (9, .arraylength, 1), (10, .if_icmp .ge 7, 3), (13, .iconst 1, 1), (14, .goto 4, 3), (17, .iconst 0, 1), (18, .ireturn, 1)]
theorem ck58 : pe_ctx 58 6 false (some .boolean) 2 T58 := ⟨rfl, rfl, rfl, rfl, by decide +kernel, by decide, by decide⟩
theorem b58_0 {d : Nat} {Φ : Option pe_V → pe_H → Prop} {σ : pe_H} {a0 : Nat} {x1 : Int}  (w0 : pe_in x1 := by unfold pe_in; omega)  (k1 : x1 < 0 → pe_X d 58 (17, [some (.inr (.inr a0)), some (.inl x1)], [], σ) Φ) (k2 : ¬ (x1 < 0) → pe_X d 58 (4, [some (.inr (.inr a0)), some (.inl x1)], [], σ) Φ) : pe_X d 58 (0, [some (.inr (.inr a0)), some (.inl x1)], [], σ) Φ := by
  refine pe_blk 0 2 ck58 [] (cond (decide ((pe_w x1) < 0)) 17 4, [some (.inr (.inr a0)), some (.inl x1)], [], σ) rfl ?_ ?_
  · exact trivial
  · try simp (disch := omega) only [pe_wi w0]
    exact pe_two k1 k2
theorem b58_4 {d : Nat} {Φ : Option pe_V → pe_H → Prop} {σ : pe_H} {a0 : Nat} {x1 : Int}  (w0 : pe_in (pe_L σ (pe_R σ a0 1)) := by unfold pe_in; omega) (w1 : pe_in x1 := by unfold pe_in; omega) (h0 : pe_K σ a0 = 6 := by first | assumption | omega) (h1 : 10 ≤ pe_K σ (pe_R σ a0 1) ∧ pe_K σ (pe_R σ a0 1) < 19 := by first | assumption | omega) (k1 : (pe_L σ (pe_R σ a0 1)) ≤ x1 → pe_X d 58 (17, [some (.inr (.inr a0)), some (.inl x1)], [], σ) Φ) (k2 : ¬ ((pe_L σ (pe_R σ a0 1)) ≤ x1) → pe_X d 58 (13, [some (.inr (.inr a0)), some (.inl x1)], [], σ) Φ) : pe_X d 58 (4, [some (.inr (.inr a0)), some (.inl x1)], [], σ) Φ := by
  refine pe_blk 2 5 ck58 [pe_K σ a0 = 6, 10 ≤ pe_K σ (pe_R σ a0 1) ∧ pe_K σ (pe_R σ a0 1) < 19] (cond (decide ((pe_w (pe_L σ (pe_R σ a0 1))) ≤ (pe_w x1))) 17 13, [some (.inr (.inr a0)), some (.inl x1)], [], σ) rfl ?_ ?_
  · first
    | (simp (disch := omega) only [pe_all, pe_wi w0, pe_wi w1, pe_K_wI, pe_K_wR, pe_L_wI, pe_L_wR]; done)
    | (simp (disch := omega) only [pe_all, pe_wi w0, pe_wi w1, pe_K_wI, pe_K_wR, pe_L_wI, pe_L_wR]; (repeat' apply And.intro) <;> first | assumption | omega | decide)
  · try simp (disch := omega) only [pe_wi w0, pe_wi w1, pe_K_wI, pe_K_wR, pe_L_wI, pe_L_wR]
    exact pe_two k1 k2
theorem b58_13 {d : Nat} {Φ : Option pe_V → pe_H → Prop} {σ : pe_H} {o0 : Option pe_V} {o1 : Option pe_V}    (k : pe_X d 58 (18, [o0, o1], [.inl 1], σ) Φ) : pe_X d 58 (13, [o0, o1], [], σ) Φ := by
  refine pe_blk 7 2 ck58 [] (18, [o0, o1], [.inl 1], σ) rfl ?_ ?_
  · exact trivial
  · exact k
theorem b58_17 {d : Nat} {Φ : Option pe_V → pe_H → Prop} {σ : pe_H} {o0 : Option pe_V} {o1 : Option pe_V}    (k : pe_X d 58 (18, [o0, o1], [.inl 0], σ) Φ) : pe_X d 58 (17, [o0, o1], [], σ) Φ := by
  refine pe_blk 9 1 ck58 [] (18, [o0, o1], [.inl 0], σ) rfl ?_ ?_
  · exact trivial
  · exact k
theorem b58_18 {d : Nat} {Φ : Option pe_V → pe_H → Prop} {σ : pe_H} {o0 : Option pe_V} {o1 : Option pe_V} {s0 : Int}   (h0 : s0 = 0 ∨ s0 = 1 := by first | assumption | omega) (k : Φ (some (.inl s0)) σ) : pe_X d 58 (18, [o0, o1], [.inl s0], σ) Φ := by
  exact pe_fine 10 ck58 rfl rfl rfl h0 k
-- StepMachines$Row.hasPart(II)Z
-- StepMachines$Row.at(I)I
def T60 : List (Nat × Instr × Nat) := [(0, .aload_n 0, 1), (1, .iload_n 1, 1), (2, .invokevirtual 19, 3), (5, .ifCond .eq 12, 3), (8, .aload_n 0, 1), (9, .getfield 15, 3), (12, .iload_n 1, 1), (13, .iaload, 1), (14, .goto 4, 3), (17, .iconst 0, 1), (18, .ireturn, 1)]
theorem ck60 : pe_ctx 60 6 false (some .int) 2 T60 := ⟨rfl, rfl, rfl, rfl, by decide +kernel, by decide, by decide⟩
theorem b60_0 {d : Nat} {Φ : Option pe_V → pe_H → Prop} {σ : pe_H} {a0 : Nat} {x1 : Int}   (h0 : pe_K σ a0 = 6 := by first | assumption | omega) (k : pe_M d 58 [.inr (.inr a0), .inl x1] σ (fun r σ' => pe_X d 60 (5, [some (.inr (.inr a0)), some (.inl x1)], r.toList ++ [], σ') Φ)) : pe_X d 60 (0, [some (.inr (.inr a0)), some (.inl x1)], [], σ) Φ := by
  refine pe_blk 0 2 ck60 [] (2, [some (.inr (.inr a0)), some (.inl x1)], [.inl x1, .inr (.inr a0)], σ) rfl ?_ ?_
  · exact trivial
  · try simp (disch := omega) only [pe_K_wI, pe_K_wR]
    have hrc : pe_K σ a0 = 6 := by first | assumption | (simp (disch := omega) only [pe_K_wI, pe_K_wR]; done) | (simp (disch := omega) only [pe_K_wI, pe_K_wR]; assumption)
    exact pe_cal 2 ck60 rfl rfl rfl ⟨hrc, by decide⟩ k
theorem b60_5 {d : Nat} {Φ : Option pe_V → pe_H → Prop} {σ : pe_H} {a0 : Nat} {x1 : Int} {s0 : Int}  (w0 : pe_in s0 := by unfold pe_in; omega)  (k1 : s0 = 0 → pe_X d 60 (17, [some (.inr (.inr a0)), some (.inl x1)], [], σ) Φ) (k2 : ¬ (s0 = 0) → pe_X d 60 (8, [some (.inr (.inr a0)), some (.inl x1)], [], σ) Φ) : pe_X d 60 (5, [some (.inr (.inr a0)), some (.inl x1)], [.inl s0], σ) Φ := by
  refine pe_blk 3 1 ck60 [] (cond (decide ((pe_w s0) = 0)) 17 8, [some (.inr (.inr a0)), some (.inl x1)], [], σ) rfl ?_ ?_
  · exact trivial
  · try simp (disch := omega) only [pe_wi w0]
    exact pe_two k1 k2
theorem b60_8 {d : Nat} {Φ : Option pe_V → pe_H → Prop} {σ : pe_H} {a0 : Nat} {x1 : Int}  (w0 : pe_in x1 := by unfold pe_in; omega) (h0 : pe_K σ a0 = 6 := by first | assumption | omega) (h1 : pe_K σ (pe_R σ a0 1) = 10 := by first | assumption | omega) (h2 : 0 ≤ x1 := by first | assumption | omega) (h3 : x1 < pe_L σ (pe_R σ a0 1) := by first | assumption | omega) (k : pe_X d 60 (18, [some (.inr (.inr a0)), some (.inl x1)], [.inl (pe_I σ (pe_R σ a0 1) x1)], σ) Φ) : pe_X d 60 (8, [some (.inr (.inr a0)), some (.inl x1)], [], σ) Φ := by
  refine pe_blk 4 5 ck60 [pe_K σ a0 = 6, pe_K σ (pe_R σ a0 1) = 10, 0 ≤ (pe_w x1), (pe_w x1) < pe_L σ (pe_R σ a0 1)] (18, [some (.inr (.inr a0)), some (.inl x1)], [.inl (pe_I σ (pe_R σ a0 1) (pe_w x1))], σ) rfl ?_ ?_
  · first
    | (simp (disch := omega) only [pe_all, pe_wi w0, pe_K_wI, pe_K_wR, pe_L_wI, pe_L_wR]; done)
    | (simp (disch := omega) only [pe_all, pe_wi w0, pe_K_wI, pe_K_wR, pe_L_wI, pe_L_wR]; (repeat' apply And.intro) <;> first | assumption | omega | decide)
  · try simp (disch := omega) only [pe_wi w0, pe_K_wI, pe_K_wR, pe_L_wI, pe_L_wR]
    exact k
theorem b60_17 {d : Nat} {Φ : Option pe_V → pe_H → Prop} {σ : pe_H} {o0 : Option pe_V} {o1 : Option pe_V}    (k : pe_X d 60 (18, [o0, o1], [.inl 0], σ) Φ) : pe_X d 60 (17, [o0, o1], [], σ) Φ := by
  refine pe_blk 9 1 ck60 [] (18, [o0, o1], [.inl 0], σ) rfl ?_ ?_
  · exact trivial
  · exact k
theorem b60_18 {d : Nat} {Φ : Option pe_V → pe_H → Prop} {σ : pe_H} {o0 : Option pe_V} {o1 : Option pe_V} {s0 : Int}    (k : Φ (some (.inl s0)) σ) : pe_X d 60 (18, [o0, o1], [.inl s0], σ) Φ := by
  exact pe_fine 10 ck60 rfl rfl rfl trivial k
-- StepMachines$Row.become(II)V
def T61 : List (Nat × Instr × Nat) := [(0, .aload_n 0, 1), (1, .iload_n 1, 1), (2, .invokevirtual 19, 3), (5, .ifCond .eq 35, 3), (8, .aload_n 0, 1), (9, .getfield 15, 3), (12, .iload_n 1, 1), (13, .aload_n 0, 1), (14, .getfield 9, 3), (17, .ifCond .ne 8, 3), (20, .iload_n 2, 1), (21, .i2b, 1), (22, .goto 17, 3), (25, .aload_n 0, 1), (26, .getfield 9, 3), (29, .iconst 1, 1), (30, .if_icmp .ne 8, 3), (33, .iload_n 2, 1), (34, .i2s, 1), (35, .goto 4, 3), (38, .iload_n 2, 1), (39, .iastore, 1), (40, .return_, 1)]
theorem ck61 : pe_ctx 61 6 false none 3 T61 := ⟨rfl, rfl, rfl, rfl, by decide +kernel, by decide, by decide⟩
theorem b61_0 {d : Nat} {Φ : Option pe_V → pe_H → Prop} {σ : pe_H} {a0 : Nat} {x1 : Int} {x2 : Int}   (h0 : pe_K σ a0 = 6 := by first | assumption | omega) (k : pe_M d 58 [.inr (.inr a0), .inl x1] σ (fun r σ' => pe_X d 61 (5, [some (.inr (.inr a0)), some (.inl x1), some (.inl x2)], r.toList ++ [], σ') Φ)) : pe_X d 61 (0, [some (.inr (.inr a0)), some (.inl x1), some (.inl x2)], [], σ) Φ := by
  refine pe_blk 0 2 ck61 [] (2, [some (.inr (.inr a0)), some (.inl x1), some (.inl x2)], [.inl x1, .inr (.inr a0)], σ) rfl ?_ ?_
  · exact trivial
  · try simp (disch := omega) only [pe_K_wI, pe_K_wR]
    have hrc : pe_K σ a0 = 6 := by first | assumption | (simp (disch := omega) only [pe_K_wI, pe_K_wR]; done) | (simp (disch := omega) only [pe_K_wI, pe_K_wR]; assumption)
    exact pe_cal 2 ck61 rfl rfl rfl ⟨hrc, by decide⟩ k
theorem b61_5 {d : Nat} {Φ : Option pe_V → pe_H → Prop} {σ : pe_H} {a0 : Nat} {x1 : Int} {x2 : Int} {s0 : Int}  (w0 : pe_in s0 := by unfold pe_in; omega)  (k1 : s0 = 0 → pe_X d 61 (40, [some (.inr (.inr a0)), some (.inl x1), some (.inl x2)], [], σ) Φ) (k2 : ¬ (s0 = 0) → pe_X d 61 (8, [some (.inr (.inr a0)), some (.inl x1), some (.inl x2)], [], σ) Φ) : pe_X d 61 (5, [some (.inr (.inr a0)), some (.inl x1), some (.inl x2)], [.inl s0], σ) Φ := by
  refine pe_blk 3 1 ck61 [] (cond (decide ((pe_w s0) = 0)) 40 8, [some (.inr (.inr a0)), some (.inl x1), some (.inl x2)], [], σ) rfl ?_ ?_
  · exact trivial
  · try simp (disch := omega) only [pe_wi w0]
    exact pe_two k1 k2
theorem b61_8 {d : Nat} {Φ : Option pe_V → pe_H → Prop} {σ : pe_H} {a0 : Nat} {x1 : Int} {x2 : Int}  (w0 : pe_in (pe_I σ a0 0) := by unfold pe_in; omega) (h0 : pe_K σ a0 = 6 := by first | assumption | omega) (k1 : ¬ (pe_I σ a0 0) = 0 → pe_X d 61 (25, [some (.inr (.inr a0)), some (.inl x1), some (.inl x2)], [.inl x1, .inr (.inr (pe_R σ a0 1))], σ) Φ) (k2 : (pe_I σ a0 0) = 0 → pe_X d 61 (20, [some (.inr (.inr a0)), some (.inl x1), some (.inl x2)], [.inl x1, .inr (.inr (pe_R σ a0 1))], σ) Φ) : pe_X d 61 (8, [some (.inr (.inr a0)), some (.inl x1), some (.inl x2)], [], σ) Φ := by
  refine pe_blk 4 6 ck61 [pe_K σ a0 = 6, pe_K σ a0 = 6] (cond (decide (¬ (pe_w (pe_I σ a0 0)) = 0)) 25 20, [some (.inr (.inr a0)), some (.inl x1), some (.inl x2)], [.inl x1, .inr (.inr (pe_R σ a0 1))], σ) rfl ?_ ?_
  · first
    | (simp (disch := omega) only [pe_all, pe_wi w0, pe_K_wI, pe_K_wR]; done)
    | (simp (disch := omega) only [pe_all, pe_wi w0, pe_K_wI, pe_K_wR]; (repeat' apply And.intro) <;> first | assumption | omega | decide)
  · try simp (disch := omega) only [pe_wi w0, pe_K_wI, pe_K_wR]
    exact pe_two' k1 k2
theorem b61_20 {d : Nat} {Φ : Option pe_V → pe_H → Prop} {σ : pe_H} {o0 : Option pe_V} {o1 : Option pe_V} {x2 : Int} {b0 : Nat} {s1 : Int}    (k : pe_X d 61 (39, [o0, o1, some (.inl x2)], [.inl (pe_i2b x2), .inl s1, .inr (.inr b0)], σ) Φ) : pe_X d 61 (20, [o0, o1, some (.inl x2)], [.inl s1, .inr (.inr b0)], σ) Φ := by
  refine pe_blk 10 3 ck61 [] (39, [o0, o1, some (.inl x2)], [.inl (pe_i2b x2), .inl s1, .inr (.inr b0)], σ) rfl ?_ ?_
  · exact trivial
  · exact k
theorem b61_25 {d : Nat} {Φ : Option pe_V → pe_H → Prop} {σ : pe_H} {a0 : Nat} {o1 : Option pe_V} {x2 : Int} {b0 : Nat} {s1 : Int}  (w0 : pe_in (pe_I σ a0 0) := by unfold pe_in; omega) (h0 : pe_K σ a0 = 6 := by first | assumption | omega) (k1 : ¬ (pe_I σ a0 0) = 1 → pe_X d 61 (38, [some (.inr (.inr a0)), o1, some (.inl x2)], [.inl s1, .inr (.inr b0)], σ) Φ) (k2 : (pe_I σ a0 0) = 1 → pe_X d 61 (33, [some (.inr (.inr a0)), o1, some (.inl x2)], [.inl s1, .inr (.inr b0)], σ) Φ) : pe_X d 61 (25, [some (.inr (.inr a0)), o1, some (.inl x2)], [.inl s1, .inr (.inr b0)], σ) Φ := by
  refine pe_blk 13 4 ck61 [pe_K σ a0 = 6] (cond (decide (¬ (pe_w (pe_I σ a0 0)) = (pe_w 1))) 38 33, [some (.inr (.inr a0)), o1, some (.inl x2)], [.inl s1, .inr (.inr b0)], σ) rfl ?_ ?_
  · first
    | (simp (disch := omega) only [pe_all, pe_wi w0, pe_wi (x := 1) ⟨by decide, by decide⟩, pe_K_wI, pe_K_wR]; done)
    | (simp (disch := omega) only [pe_all, pe_wi w0, pe_wi (x := 1) ⟨by decide, by decide⟩, pe_K_wI, pe_K_wR]; (repeat' apply And.intro) <;> first | assumption | omega | decide)
  · try simp (disch := omega) only [pe_wi w0, pe_wi (x := 1) ⟨by decide, by decide⟩, pe_K_wI, pe_K_wR]
    exact pe_two' k1 k2
theorem b61_33 {d : Nat} {Φ : Option pe_V → pe_H → Prop} {σ : pe_H} {o0 : Option pe_V} {o1 : Option pe_V} {x2 : Int} {b0 : Nat} {s1 : Int}    (k : pe_X d 61 (39, [o0, o1, some (.inl x2)], [.inl (pe_i2s x2), .inl s1, .inr (.inr b0)], σ) Φ) : pe_X d 61 (33, [o0, o1, some (.inl x2)], [.inl s1, .inr (.inr b0)], σ) Φ := by
  refine pe_blk 17 3 ck61 [] (39, [o0, o1, some (.inl x2)], [.inl (pe_i2s x2), .inl s1, .inr (.inr b0)], σ) rfl ?_ ?_
  · exact trivial
  · exact k
theorem b61_38 {d : Nat} {Φ : Option pe_V → pe_H → Prop} {σ : pe_H} {o0 : Option pe_V} {o1 : Option pe_V} {x2 : Int} {b0 : Nat} {s1 : Int}    (k : pe_X d 61 (39, [o0, o1, some (.inl x2)], [.inl x2, .inl s1, .inr (.inr b0)], σ) Φ) : pe_X d 61 (38, [o0, o1, some (.inl x2)], [.inl s1, .inr (.inr b0)], σ) Φ := by
  refine pe_blk 20 1 ck61 [] (39, [o0, o1, some (.inl x2)], [.inl x2, .inl s1, .inr (.inr b0)], σ) rfl ?_ ?_
  · exact trivial
  · exact k
theorem b61_39 {d : Nat} {Φ : Option pe_V → pe_H → Prop} {σ : pe_H} {o0 : Option pe_V} {o1 : Option pe_V} {o2 : Option pe_V} {b0 : Nat} {s1 : Int} {s2 : Int}  (w0 : pe_in s1 := by unfold pe_in; omega) (h0 : pe_K σ b0 = 10 := by first | assumption | omega) (h1 : 0 ≤ s1 := by first | assumption | omega) (h2 : s1 < pe_L σ b0 := by first | assumption | omega) (h3 : 2 ≤ b0 := by first | assumption | omega) (k : pe_X d 61 (40, [o0, o1, o2], [], pe_wI σ b0 s1 s2) Φ) : pe_X d 61 (39, [o0, o1, o2], [.inl s2, .inl s1, .inr (.inr b0)], σ) Φ := by
  refine pe_blk 21 1 ck61 [pe_K σ b0 = 10, 0 ≤ (pe_w s1), (pe_w s1) < pe_L σ b0, 2 ≤ b0] (40, [o0, o1, o2], [], pe_wI σ b0 (pe_w s1) s2) rfl ?_ ?_
  · first
    | (simp (disch := omega) only [pe_all, pe_wi w0, pe_K_wI, pe_K_wR, pe_L_wI, pe_L_wR]; done)
    | (simp (disch := omega) only [pe_all, pe_wi w0, pe_K_wI, pe_K_wR, pe_L_wI, pe_L_wR]; (repeat' apply And.intro) <;> first | assumption | omega | decide)
  · try simp (disch := omega) only [pe_wi w0, pe_K_wI, pe_K_wR, pe_L_wI, pe_L_wR]
    exact k
theorem b61_40 {d : Nat} {Φ : Option pe_V → pe_H → Prop} {σ : pe_H} {o0 : Option pe_V} {o1 : Option pe_V} {o2 : Option pe_V}    (k : Φ none σ) : pe_X d 61 (40, [o0, o1, o2], [], σ) Φ := by
  exact pe_fine 22 ck61 rfl rfl rfl trivial k
-- StepMachines$Row.leastNumber()I
-- StepMachines$Text.<init>(LStepMachines$Row;)V
def T63 : List (Nat × Instr × Nat) := [(0, .aload_n 0, 1), (1, .invokespecial 3, 3), (4, .aload_n 0, 1), (5, .bipush 16, 2), (7, .newarray .int, 2), (9, .putfield 9, 3), (12, .aload_n 0, 1), (13, .aload_n 1, 1), (14, .putfield 15, 3), (17, .return_, 1)]
theorem ck63 : pe_ctx 63 7 true none 2 T63 := ⟨rfl, rfl, rfl, rfl, by decide +kernel, by decide, by decide⟩
theorem b63_0 {d : Nat} {Φ : Option pe_V → pe_H → Prop} {σ : pe_H} {a0 : Nat} {a1 : Nat}   (h0 : ¬ a0 = 0 := by first | assumption | omega) (h1 : pe_K (pe_new σ 10 16 ((16 : Int).toNat)) a0 = 7 := by first | assumption | omega) (h2 : pe_K (pe_wR (pe_new σ 10 16 ((16 : Int).toNat)) a0 1 (pe_n σ)) a0 = 7 := by first | assumption | omega) (k : Φ none (pe_wR (pe_wR (pe_new σ 10 16 ((16 : Int).toNat)) a0 1 (pe_n σ)) a0 0 a1)) : pe_X d 63 (0, [some (.inr (.inr a0)), some (.inr (.inr a1))], [], σ) Φ := by
  refine pe_blk 0 9 ck63 [¬ a0 = 0, 0 ≤ (pe_w 16), (pe_w 16) ≤ 10000, pe_K (pe_new σ 10 (pe_w 16) ((pe_w 16).toNat)) a0 = 7, pe_K (pe_wR (pe_new σ 10 (pe_w 16) ((pe_w 16).toNat)) a0 1 (pe_n σ)) a0 = 7] (17, [some (.inr (.inr a0)), some (.inr (.inr a1))], [], pe_wR (pe_wR (pe_new σ 10 (pe_w 16) ((pe_w 16).toNat)) a0 1 (pe_n σ)) a0 0 a1) rfl ?_ ?_
  · first
    | (simp (disch := omega) only [pe_all, pe_wi (x := 16) ⟨by decide, by decide⟩, pe_K_wI, pe_K_wR]; done)
    | (simp (disch := omega) only [pe_all, pe_wi (x := 16) ⟨by decide, by decide⟩, pe_K_wI, pe_K_wR]; (repeat' apply And.intro) <;> first | assumption | omega | decide)
  · try simp (disch := omega) only [pe_wi (x := 16) ⟨by decide, by decide⟩, pe_K_wI, pe_K_wR]
    exact pe_fine 9 ck63 rfl rfl rfl trivial k
-- StepMachines$Text.statements()I
def T64 : List (Nat × Instr × Nat) := [(0, .iconst 0, 1), (1, .istore_n 1, 1), (2, .iconst 0, 1), (3, .istore_n 2, 1), (4, .iload_n 2, 1), (5, .bipush 100, 2), (7, .if_icmp .ge 32, 3), (10, .iload_n 1, 1), (11, .aload_n 0, 1), (12, .getfield 15, 3), (15, .invokevirtual 19, 3), (18, .if_icmp .ge 21, 3), (21, .aload_n 0, 1), (22, .iload_n 1, 1), (23, .invokevirtual 25, 3), (26, .istore_n 1, 1), (27, .iload_n 1, 1), (28, .ifCond .ge 5, 3), (31, .iload_n 1, 1), (32, .ireturn, 1), (33, .iinc 2 1, 3), (36, .goto (-32), 3), (39, .iload_n 2, 1), (40, .ifCond .ne 10, 3), (43, .iconst 0, 1), (44, .invokestatic 29, 3), (47, .goto 4, 3), (50, .iload_n 2, 1), (51, .ireturn, 1)]
theorem ck64 : pe_ctx 64 7 false (some .int) 3 T64 := ⟨rfl, rfl, rfl, rfl, by decide +kernel, by decide, by decide⟩
theorem b64_0 {d : Nat} {Φ : Option pe_V → pe_H → Prop} {σ : pe_H} {a0 : Nat} {o1 : Option pe_V} {o2 : Option pe_V}    (k : pe_X d 64 (4, [some (.inr (.inr a0)), some (.inl 0), some (.inl 0)], [], σ) Φ) : pe_X d 64 (0, [some (.inr (.inr a0)), o1, o2], [], σ) Φ := by
  refine pe_blk 0 4 ck64 [] (4, [some (.inr (.inr a0)), some (.inl 0), some (.inl 0)], [], σ) rfl ?_ ?_
  · exact trivial
  · exact k
theorem b64_4 {d : Nat} {Φ : Option pe_V → pe_H → Prop} {σ : pe_H} {a0 : Nat} {x1 : Int} {x2 : Int}  (w0 : pe_in x2 := by unfold pe_in; omega)  (k1 : 100 ≤ x2 → pe_X d 64 (39, [some (.inr (.inr a0)), some (.inl x1), some (.inl x2)], [], σ) Φ) (k2 : ¬ (100 ≤ x2) → pe_X d 64 (10, [some (.inr (.inr a0)), some (.inl x1), some (.inl x2)], [], σ) Φ) : pe_X d 64 (4, [some (.inr (.inr a0)), some (.inl x1), some (.inl x2)], [], σ) Φ := by
  refine pe_blk 4 3 ck64 [] (cond (decide ((pe_w 100) ≤ (pe_w x2))) 39 10, [some (.inr (.inr a0)), some (.inl x1), some (.inl x2)], [], σ) rfl ?_ ?_
  · exact trivial
  · try simp (disch := omega) only [pe_wi w0, pe_wi (x := 100) ⟨by decide, by decide⟩]
    exact pe_two k1 k2
theorem b64_10 {d : Nat} {Φ : Option pe_V → pe_H → Prop} {σ : pe_H} {a0 : Nat} {x1 : Int} {x2 : Int}   (h0 : pe_K σ a0 = 7 := by first | assumption | omega) (h1 : pe_K σ (pe_R σ a0 0) = 6 := by first | assumption | omega) (k : pe_M d 57 [.inr (.inr (pe_R σ a0 0))] σ (fun r σ' => pe_X d 64 (18, [some (.inr (.inr a0)), some (.inl x1), some (.inl x2)], r.toList ++ [.inl x1], σ') Φ)) : pe_X d 64 (10, [some (.inr (.inr a0)), some (.inl x1), some (.inl x2)], [], σ) Φ := by
  refine pe_blk 7 3 ck64 [pe_K σ a0 = 7] (15, [some (.inr (.inr a0)), some (.inl x1), some (.inl x2)], [.inr (.inr (pe_R σ a0 0)), .inl x1], σ) rfl ?_ ?_
  · first
    | (simp (disch := omega) only [pe_all, pe_K_wI, pe_K_wR]; done)
    | (simp (disch := omega) only [pe_all, pe_K_wI, pe_K_wR]; (repeat' apply And.intro) <;> first | assumption | omega | decide)
  · try simp (disch := omega) only [pe_K_wI, pe_K_wR]
    have hrc : pe_K σ (pe_R σ a0 0) = 6 := by first | assumption | (simp (disch := omega) only [pe_K_wI, pe_K_wR]; done) | (simp (disch := omega) only [pe_K_wI, pe_K_wR]; assumption)
    exact pe_cal 10 ck64 rfl rfl rfl ⟨hrc, by decide⟩ k
theorem b64_18 {d : Nat} {Φ : Option pe_V → pe_H → Prop} {σ : pe_H} {a0 : Nat} {x1 : Int} {x2 : Int} {s0 : Int} {s1 : Int}  (w0 : pe_in s1 := by unfold pe_in; omega) (w1 : pe_in s0 := by unfold pe_in; omega)  (k1 : s1 ≤ s0 → pe_X d 64 (39, [some (.inr (.inr a0)), some (.inl x1), some (.inl x2)], [], σ) Φ) (k2 : ¬ (s1 ≤ s0) → pe_X d 64 (21, [some (.inr (.inr a0)), some (.inl x1), some (.inl x2)], [], σ) Φ) : pe_X d 64 (18, [some (.inr (.inr a0)), some (.inl x1), some (.inl x2)], [.inl s1, .inl s0], σ) Φ := by
  refine pe_blk 11 1 ck64 [] (cond (decide ((pe_w s1) ≤ (pe_w s0))) 39 21, [some (.inr (.inr a0)), some (.inl x1), some (.inl x2)], [], σ) rfl ?_ ?_
  · exact trivial
  · try simp (disch := omega) only [pe_wi w0, pe_wi w1]
    exact pe_two k1 k2
theorem b64_21 {d : Nat} {Φ : Option pe_V → pe_H → Prop} {σ : pe_H} {a0 : Nat} {x1 : Int} {x2 : Int}   (h0 : pe_K σ a0 = 7 := by first | assumption | omega) (k : pe_M d 66 [.inr (.inr a0), .inl x1] σ (fun r σ' => pe_X d 64 (26, [some (.inr (.inr a0)), some (.inl x1), some (.inl x2)], r.toList ++ [], σ') Φ)) : pe_X d 64 (21, [some (.inr (.inr a0)), some (.inl x1), some (.inl x2)], [], σ) Φ := by
  refine pe_blk 12 2 ck64 [] (23, [some (.inr (.inr a0)), some (.inl x1), some (.inl x2)], [.inl x1, .inr (.inr a0)], σ) rfl ?_ ?_
  · exact trivial
  · try simp (disch := omega) only [pe_K_wI, pe_K_wR]
    have hrc : pe_K σ a0 = 7 := by first | assumption | (simp (disch := omega) only [pe_K_wI, pe_K_wR]; done) | (simp (disch := omega) only [pe_K_wI, pe_K_wR]; assumption)
    exact pe_cal 14 ck64 rfl rfl rfl ⟨hrc, by decide⟩ k
theorem b64_26 {d : Nat} {Φ : Option pe_V → pe_H → Prop} {σ : pe_H} {a0 : Nat} {o1 : Option pe_V} {x2 : Int} {s0 : Int}  (w0 : pe_in s0 := by unfold pe_in; omega)  (k1 : 0 ≤ s0 → pe_X d 64 (33, [some (.inr (.inr a0)), some (.inl s0), some (.inl x2)], [], σ) Φ) (k2 : ¬ (0 ≤ s0) → pe_X d 64 (31, [some (.inr (.inr a0)), some (.inl s0), some (.inl x2)], [], σ) Φ) : pe_X d 64 (26, [some (.inr (.inr a0)), o1, some (.inl x2)], [.inl s0], σ) Φ := by
  refine pe_blk 15 3 ck64 [] (cond (decide (0 ≤ (pe_w s0))) 33 31, [some (.inr (.inr a0)), some (.inl s0), some (.inl x2)], [], σ) rfl ?_ ?_
  · exact trivial
  · try simp (disch := omega) only [pe_wi w0]
    exact pe_two k1 k2
theorem b64_31 {d : Nat} {Φ : Option pe_V → pe_H → Prop} {σ : pe_H} {o0 : Option pe_V} {x1 : Int} {o2 : Option pe_V}    (k : Φ (some (.inl x1)) σ) : pe_X d 64 (31, [o0, some (.inl x1), o2], [], σ) Φ := by
  refine pe_blk 18 1 ck64 [] (32, [o0, some (.inl x1), o2], [.inl x1], σ) rfl ?_ ?_
  · exact trivial
  · exact pe_fine 19 ck64 rfl rfl rfl trivial k
theorem b64_33 {d : Nat} {Φ : Option pe_V → pe_H → Prop} {σ : pe_H} {a0 : Nat} {x1 : Int} {x2 : Int}    (k : pe_X d 64 (4, [some (.inr (.inr a0)), some (.inl x1), some (.inl (x2 + 1))], [], σ) Φ) : pe_X d 64 (33, [some (.inr (.inr a0)), some (.inl x1), some (.inl x2)], [], σ) Φ := by
  refine pe_blk 20 2 ck64 [] (4, [some (.inr (.inr a0)), some (.inl x1), some (.inl (x2 + 1))], [], σ) rfl ?_ ?_
  · exact trivial
  · exact k
theorem b64_39 {d : Nat} {Φ : Option pe_V → pe_H → Prop} {σ : pe_H} {o0 : Option pe_V} {o1 : Option pe_V} {x2 : Int}  (w0 : pe_in x2 := by unfold pe_in; omega)  (k1 : ¬ x2 = 0 → pe_X d 64 (50, [o0, o1, some (.inl x2)], [], σ) Φ) (k2 : x2 = 0 → pe_X d 64 (43, [o0, o1, some (.inl x2)], [], σ) Φ) : pe_X d 64 (39, [o0, o1, some (.inl x2)], [], σ) Φ := by
  refine pe_blk 22 2 ck64 [] (cond (decide (¬ (pe_w x2) = 0)) 50 43, [o0, o1, some (.inl x2)], [], σ) rfl ?_ ?_
  · exact trivial
  · try simp (disch := omega) only [pe_wi w0]
    exact pe_two' k1 k2
theorem b64_43 {d : Nat} {Φ : Option pe_V → pe_H → Prop} {σ : pe_H} {o0 : Option pe_V} {o1 : Option pe_V} {o2 : Option pe_V}    (k : pe_M d 65 [.inl 0] σ (fun r σ' => pe_X d 64 (47, [o0, o1, o2], r.toList ++ [], σ') Φ)) : pe_X d 64 (43, [o0, o1, o2], [], σ) Φ := by
  refine pe_blk 24 1 ck64 [] (44, [o0, o1, o2], [.inl 0], σ) rfl ?_ ?_
  · exact trivial
  · exact pe_cal 25 ck64 rfl rfl rfl trivial k
theorem b64_47 {d : Nat} {Φ : Option pe_V → pe_H → Prop} {σ : pe_H} {o0 : Option pe_V} {o1 : Option pe_V} {o2 : Option pe_V} {s0 : Int}    (k : pe_X d 64 (51, [o0, o1, o2], [.inl s0], σ) Φ) : pe_X d 64 (47, [o0, o1, o2], [.inl s0], σ) Φ := by
  refine pe_blk 26 1 ck64 [] (51, [o0, o1, o2], [.inl s0], σ) rfl ?_ ?_
  · exact trivial
  · exact k
theorem b64_50 {d : Nat} {Φ : Option pe_V → pe_H → Prop} {σ : pe_H} {o0 : Option pe_V} {o1 : Option pe_V} {x2 : Int}    (k : pe_X d 64 (51, [o0, o1, some (.inl x2)], [.inl x2], σ) Φ) : pe_X d 64 (50, [o0, o1, some (.inl x2)], [], σ) Φ := by
  refine pe_blk 27 1 ck64 [] (51, [o0, o1, some (.inl x2)], [.inl x2], σ) rfl ?_ ?_
  · exact trivial
  · exact k
theorem b64_51 {d : Nat} {Φ : Option pe_V → pe_H → Prop} {σ : pe_H} {o0 : Option pe_V} {o1 : Option pe_V} {o2 : Option pe_V} {s0 : Int}    (k : Φ (some (.inl s0)) σ) : pe_X d 64 (51, [o0, o1, o2], [.inl s0], σ) Φ := by
  exact pe_fine 28 ck64 rfl rfl rfl trivial k
-- StepMachines$Text.faultAt(I)I
def T65 : List (Nat × Instr × Nat) := [(0, .sipush (-1000), 3), (3, .iload_n 0, 1), (4, .isub, 1), (5, .ireturn, 1)]
theorem ck65 : pe_ctx 65 7 false (some .int) 1 T65 := ⟨rfl, rfl, rfl, rfl, by decide +kernel, by decide, by decide⟩
theorem b65_0 {d : Nat} {Φ : Option pe_V → pe_H → Prop} {σ : pe_H} {x0 : Int}    (k : Φ (some (.inl ((-1000) - x0))) σ) : pe_X d 65 (0, [some (.inl x0)], [], σ) Φ := by
  refine pe_blk 0 3 ck65 [] (5, [some (.inl x0)], [.inl ((-1000) - x0)], σ) rfl ?_ ?_
  · exact trivial
  · exact pe_fine 3 ck65 rfl rfl rfl trivial k
-- StepMachines$Text.endOfStatement(I)I
def T66 : List (Nat × Instr × Nat) := [(0, .aload_n 0, 1), (1, .getfield 15, 3), (4, .iload_n 1, 1), (5, .invokevirtual 32, 3), (8, .lookupswitch 95 #[(99, 68), (108, 77), (110, 68), (112, 60), (119, 86), (120, 86)], 60), (68, .aload_n 0, 1), (69, .iload_n 1, 1), (70, .iconst 1, 1), (71, .iadd, 1), (72, .invokevirtual 35, 3), (75, .ireturn, 1), (76, .aload_n 0, 1), (77, .iload_n 1, 1), (78, .iconst 1, 1), (79, .iadd, 1), (80, .iconst 3, 1), (81, .invokevirtual 38, 3), (84, .ireturn, 1), (85, .aload_n 0, 1), (86, .iload_n 1, 1), (87, .iconst 1, 1), (88, .iadd, 1), (89, .iconst 2, 1), (90, .invokevirtual 38, 3), (93, .ireturn, 1), (94, .aload_n 0, 1), (95, .iload_n 1, 1), (96, .iconst 1, 1), (97, .iadd, 1), (98, .iconst 1, 1), (99, .invokevirtual 38, 3), (102, .ireturn, 1), (103, .iload_n 1, 1), (104, .invokestatic 29, 3), (107, .ireturn, 1)]
theorem ck66 : pe_ctx 66 7 false (some .int) 2 T66 := ⟨rfl, rfl, rfl, rfl, by decide +kernel, by decide, by decide⟩
theorem b66_0 {d : Nat} {Φ : Option pe_V → pe_H → Prop} {σ : pe_H} {a0 : Nat} {x1 : Int}   (h0 : pe_K σ a0 = 7 := by first | assumption | omega) (h1 : pe_K σ (pe_R σ a0 0) = 6 := by first | assumption | omega) (k : pe_M d 60 [.inr (.inr (pe_R σ a0 0)), .inl x1] σ (fun r σ' => pe_X d 66 (8, [some (.inr (.inr a0)), some (.inl x1)], r.toList ++ [], σ') Φ)) : pe_X d 66 (0, [some (.inr (.inr a0)), some (.inl x1)], [], σ) Φ := by
  refine pe_blk 0 3 ck66 [pe_K σ a0 = 7] (5, [some (.inr (.inr a0)), some (.inl x1)], [.inl x1, .inr (.inr (pe_R σ a0 0))], σ) rfl ?_ ?_
  · first
    | (simp (disch := omega) only [pe_all, pe_K_wI, pe_K_wR]; done)
    | (simp (disch := omega) only [pe_all, pe_K_wI, pe_K_wR]; (repeat' apply And.intro) <;> first | assumption | omega | decide)
  · try simp (disch := omega) only [pe_K_wI, pe_K_wR]
    have hrc : pe_K σ (pe_R σ a0 0) = 6 := by first | assumption | (simp (disch := omega) only [pe_K_wI, pe_K_wR]; done) | (simp (disch := omega) only [pe_K_wI, pe_K_wR]; assumption)
    exact pe_cal 3 ck66 rfl rfl rfl ⟨hrc, by decide⟩ k
theorem b66_8 {d : Nat} {Φ : Option pe_V → pe_H → Prop} {σ : pe_H} {a0 : Nat} {x1 : Int} {s0 : Int}  (w0 : pe_in s0 := by unfold pe_in; omega)  (k0 : s0 = 99 → pe_X d 66 (76, [some (.inr (.inr a0)), some (.inl x1)], [], σ) Φ) (k1 : s0 = 108 → pe_X d 66 (85, [some (.inr (.inr a0)), some (.inl x1)], [], σ) Φ) (k2 : s0 = 110 → pe_X d 66 (76, [some (.inr (.inr a0)), some (.inl x1)], [], σ) Φ) (k3 : s0 = 112 → pe_X d 66 (68, [some (.inr (.inr a0)), some (.inl x1)], [], σ) Φ) (k4 : s0 = 119 → pe_X d 66 (94, [some (.inr (.inr a0)), some (.inl x1)], [], σ) Φ) (k5 : s0 = 120 → pe_X d 66 (94, [some (.inr (.inr a0)), some (.inl x1)], [], σ) Φ) (kd : ¬ s0 = 99 → ¬ s0 = 108 → ¬ s0 = 110 → ¬ s0 = 112 → ¬ s0 = 119 → ¬ s0 = 120 → pe_X d 66 (103, [some (.inr (.inr a0)), some (.inl x1)], [], σ) Φ) : pe_X d 66 (8, [some (.inr (.inr a0)), some (.inl x1)], [.inl s0], σ) Φ := by
  refine pe_blk 4 1 ck66 [] ((((8 : Nat) : Int) + pe_sw 95 [(99, 68), (108, 77), (110, 68), (112, 60), (119, 86), (120, 86)] (pe_w s0)).toNat, [some (.inr (.inr a0)), some (.inl x1)], [], σ) rfl ?_ ?_
  · exact trivial
  · try simp (disch := omega) only [pe_wi w0]
    by_cases q0 : s0 = 99
    · have e : pe_sw 95 [(99, 68), (108, 77), (110, 68), (112, 60), (119, 86), (120, 86)] s0 = 68 := by rw [q0]; rfl
      rw [e]; exact k0 q0
    by_cases q1 : s0 = 108
    · have e : pe_sw 95 [(99, 68), (108, 77), (110, 68), (112, 60), (119, 86), (120, 86)] s0 = 77 := by rw [q1]; rfl
      rw [e]; exact k1 q1
    by_cases q2 : s0 = 110
    · have e : pe_sw 95 [(99, 68), (108, 77), (110, 68), (112, 60), (119, 86), (120, 86)] s0 = 68 := by rw [q2]; rfl
      rw [e]; exact k2 q2
    by_cases q3 : s0 = 112
    · have e : pe_sw 95 [(99, 68), (108, 77), (110, 68), (112, 60), (119, 86), (120, 86)] s0 = 60 := by rw [q3]; rfl
      rw [e]; exact k3 q3
    by_cases q4 : s0 = 119
    · have e : pe_sw 95 [(99, 68), (108, 77), (110, 68), (112, 60), (119, 86), (120, 86)] s0 = 86 := by rw [q4]; rfl
      rw [e]; exact k4 q4
    by_cases q5 : s0 = 120
    · have e : pe_sw 95 [(99, 68), (108, 77), (110, 68), (112, 60), (119, 86), (120, 86)] s0 = 86 := by rw [q5]; rfl
      rw [e]; exact k5 q5
    have e : pe_sw 95 [(99, 68), (108, 77), (110, 68), (112, 60), (119, 86), (120, 86)] s0 = 95 := by simp only [pe_sw, if_neg q0, if_neg q1, if_neg q2, if_neg q3, if_neg q4, if_neg q5]
    rw [e]; exact kd q0 q1 q2 q3 q4 q5
theorem b66_68 {d : Nat} {Φ : Option pe_V → pe_H → Prop} {σ : pe_H} {a0 : Nat} {x1 : Int}   (h0 : pe_K σ a0 = 7 := by first | assumption | omega) (k : pe_M d 68 [.inr (.inr a0), .inl (x1 + 1)] σ (fun r σ' => pe_X d 66 (75, [some (.inr (.inr a0)), some (.inl x1)], r.toList ++ [], σ') Φ)) : pe_X d 66 (68, [some (.inr (.inr a0)), some (.inl x1)], [], σ) Φ := by
  refine pe_blk 5 4 ck66 [] (72, [some (.inr (.inr a0)), some (.inl x1)], [.inl (x1 + 1), .inr (.inr a0)], σ) rfl ?_ ?_
  · exact trivial
  · try simp (disch := omega) only [pe_K_wI, pe_K_wR]
    have hrc : pe_K σ a0 = 7 := by first | assumption | (simp (disch := omega) only [pe_K_wI, pe_K_wR]; done) | (simp (disch := omega) only [pe_K_wI, pe_K_wR]; assumption)
    exact pe_cal 9 ck66 rfl rfl rfl ⟨hrc, by decide⟩ k
theorem b66_75 {d : Nat} {Φ : Option pe_V → pe_H → Prop} {σ : pe_H} {o0 : Option pe_V} {o1 : Option pe_V} {s0 : Int}    (k : Φ (some (.inl s0)) σ) : pe_X d 66 (75, [o0, o1], [.inl s0], σ) Φ := by
  exact pe_fine 10 ck66 rfl rfl rfl trivial k
theorem b66_76 {d : Nat} {Φ : Option pe_V → pe_H → Prop} {σ : pe_H} {a0 : Nat} {x1 : Int}   (h0 : pe_K σ a0 = 7 := by first | assumption | omega) (k : pe_M d 67 [.inr (.inr a0), .inl (x1 + 1), .inl 3] σ (fun r σ' => pe_X d 66 (84, [some (.inr (.inr a0)), some (.inl x1)], r.toList ++ [], σ') Φ)) : pe_X d 66 (76, [some (.inr (.inr a0)), some (.inl x1)], [], σ) Φ := by
  refine pe_blk 11 5 ck66 [] (81, [some (.inr (.inr a0)), some (.inl x1)], [.inl 3, .inl (x1 + 1), .inr (.inr a0)], σ) rfl ?_ ?_
  · exact trivial
  · try simp (disch := omega) only [pe_K_wI, pe_K_wR]
    have hrc : pe_K σ a0 = 7 := by first | assumption | (simp (disch := omega) only [pe_K_wI, pe_K_wR]; done) | (simp (disch := omega) only [pe_K_wI, pe_K_wR]; assumption)
    exact pe_cal 16 ck66 rfl rfl rfl ⟨hrc, by decide⟩ k
theorem b66_84 {d : Nat} {Φ : Option pe_V → pe_H → Prop} {σ : pe_H} {o0 : Option pe_V} {o1 : Option pe_V} {s0 : Int}    (k : Φ (some (.inl s0)) σ) : pe_X d 66 (84, [o0, o1], [.inl s0], σ) Φ := by
  exact pe_fine 17 ck66 rfl rfl rfl trivial k
theorem b66_85 {d : Nat} {Φ : Option pe_V → pe_H → Prop} {σ : pe_H} {a0 : Nat} {x1 : Int}   (h0 : pe_K σ a0 = 7 := by first | assumption | omega) (k : pe_M d 67 [.inr (.inr a0), .inl (x1 + 1), .inl 2] σ (fun r σ' => pe_X d 66 (93, [some (.inr (.inr a0)), some (.inl x1)], r.toList ++ [], σ') Φ)) : pe_X d 66 (85, [some (.inr (.inr a0)), some (.inl x1)], [], σ) Φ := by
  refine pe_blk 18 5 ck66 [] (90, [some (.inr (.inr a0)), some (.inl x1)], [.inl 2, .inl (x1 + 1), .inr (.inr a0)], σ) rfl ?_ ?_
  · exact trivial
  · try simp (disch := omega) only [pe_K_wI, pe_K_wR]
    have hrc : pe_K σ a0 = 7 := by first | assumption | (simp (disch := omega) only [pe_K_wI, pe_K_wR]; done) | (simp (disch := omega) only [pe_K_wI, pe_K_wR]; assumption)
    exact pe_cal 23 ck66 rfl rfl rfl ⟨hrc, by decide⟩ k
theorem b66_93 {d : Nat} {Φ : Option pe_V → pe_H → Prop} {σ : pe_H} {o0 : Option pe_V} {o1 : Option pe_V} {s0 : Int}    (k : Φ (some (.inl s0)) σ) : pe_X d 66 (93, [o0, o1], [.inl s0], σ) Φ := by
  exact pe_fine 24 ck66 rfl rfl rfl trivial k
theorem b66_94 {d : Nat} {Φ : Option pe_V → pe_H → Prop} {σ : pe_H} {a0 : Nat} {x1 : Int}   (h0 : pe_K σ a0 = 7 := by first | assumption | omega) (k : pe_M d 67 [.inr (.inr a0), .inl (x1 + 1), .inl 1] σ (fun r σ' => pe_X d 66 (102, [some (.inr (.inr a0)), some (.inl x1)], r.toList ++ [], σ') Φ)) : pe_X d 66 (94, [some (.inr (.inr a0)), some (.inl x1)], [], σ) Φ := by
  refine pe_blk 25 5 ck66 [] (99, [some (.inr (.inr a0)), some (.inl x1)], [.inl 1, .inl (x1 + 1), .inr (.inr a0)], σ) rfl ?_ ?_
  · exact trivial
  · try simp (disch := omega) only [pe_K_wI, pe_K_wR]
    have hrc : pe_K σ a0 = 7 := by first | assumption | (simp (disch := omega) only [pe_K_wI, pe_K_wR]; done) | (simp (disch := omega) only [pe_K_wI, pe_K_wR]; assumption)
    exact pe_cal 30 ck66 rfl rfl rfl ⟨hrc, by decide⟩ k
theorem b66_102 {d : Nat} {Φ : Option pe_V → pe_H → Prop} {σ : pe_H} {o0 : Option pe_V} {o1 : Option pe_V} {s0 : Int}    (k : Φ (some (.inl s0)) σ) : pe_X d 66 (102, [o0, o1], [.inl s0], σ) Φ := by
  exact pe_fine 31 ck66 rfl rfl rfl trivial k
theorem b66_103 {d : Nat} {Φ : Option pe_V → pe_H → Prop} {σ : pe_H} {o0 : Option pe_V} {x1 : Int}    (k : pe_M d 65 [.inl x1] σ (fun r σ' => pe_X d 66 (107, [o0, some (.inl x1)], r.toList ++ [], σ') Φ)) : pe_X d 66 (103, [o0, some (.inl x1)], [], σ) Φ := by
  refine pe_blk 32 1 ck66 [] (104, [o0, some (.inl x1)], [.inl x1], σ) rfl ?_ ?_
  · exact trivial
  · exact pe_cal 33 ck66 rfl rfl rfl trivial k
theorem b66_107 {d : Nat} {Φ : Option pe_V → pe_H → Prop} {σ : pe_H} {o0 : Option pe_V} {o1 : Option pe_V} {s0 : Int}    (k : Φ (some (.inl s0)) σ) : pe_X d 66 (107, [o0, o1], [.inl s0], σ) Φ := by
  exact pe_fine 34 ck66 rfl rfl rfl trivial k
-- StepMachines$Text.endOfNumbers(II)I
def T67 : List (Nat × Instr × Nat) := [(0, .iload_n 1, 1), (1, .iload_n 2, 1), (2, .iadd, 1), (3, .istore_n 3, 1), (4, .iload_n 1, 1), (5, .istore 4, 2), (7, .iload 4, 2), (9, .iload_n 3, 1), (10, .if_icmp .ge 30, 3), (13, .aload_n 0, 1), (14, .getfield 15, 3), (17, .iload 4, 2), (19, .invokevirtual 32, 3), (22, .invokestatic 42, 3), (25, .ifCond .ne 9, 3), (28, .iload 4, 2), (30, .invokestatic 29, 3), (33, .ireturn, 1), (34, .iinc 4 1, 3), (37, .goto (-30), 3), (40, .aload_n 0, 1), (41, .getfield 15, 3), (44, .iload_n 3, 1), (45, .invokevirtual 32, 3), (48, .bipush 59, 2), (50, .if_icmp .ne 9, 3), (53, .iload_n 3, 1), (54, .iconst 1, 1), (55, .iadd, 1), (56, .goto 7, 3), (59, .iload_n 3, 1), (60, .invokestatic 29, 3), (63, .ireturn, 1)]
theorem ck67 : pe_ctx 67 7 false (some .int) 5 T67 := ⟨rfl, rfl, rfl, rfl, by decide +kernel, by decide, by decide⟩
theorem b67_0 {d : Nat} {Φ : Option pe_V → pe_H → Prop} {σ : pe_H} {a0 : Nat} {x1 : Int} {x2 : Int} {o3 : Option pe_V} {o4 : Option pe_V}    (k : pe_X d 67 (7, [some (.inr (.inr a0)), some (.inl x1), some (.inl x2), some (.inl (x1 + x2)), some (.inl x1)], [], σ) Φ) : pe_X d 67 (0, [some (.inr (.inr a0)), some (.inl x1), some (.inl x2), o3, o4], [], σ) Φ := by
  refine pe_blk 0 6 ck67 [] (7, [some (.inr (.inr a0)), some (.inl x1), some (.inl x2), some (.inl (x1 + x2)), some (.inl x1)], [], σ) rfl ?_ ?_
  · exact trivial
  · exact k
theorem b67_7 {d : Nat} {Φ : Option pe_V → pe_H → Prop} {σ : pe_H} {a0 : Nat} {o1 : Option pe_V} {o2 : Option pe_V} {x3 : Int} {x4 : Int}  (w0 : pe_in x3 := by unfold pe_in; omega) (w1 : pe_in x4 := by unfold pe_in; omega)  (k1 : x3 ≤ x4 → pe_X d 67 (40, [some (.inr (.inr a0)), o1, o2, some (.inl x3), some (.inl x4)], [], σ) Φ) (k2 : ¬ (x3 ≤ x4) → pe_X d 67 (13, [some (.inr (.inr a0)), o1, o2, some (.inl x3), some (.inl x4)], [], σ) Φ) : pe_X d 67 (7, [some (.inr (.inr a0)), o1, o2, some (.inl x3), some (.inl x4)], [], σ) Φ := by
  refine pe_blk 6 3 ck67 [] (cond (decide ((pe_w x3) ≤ (pe_w x4))) 40 13, [some (.inr (.inr a0)), o1, o2, some (.inl x3), some (.inl x4)], [], σ) rfl ?_ ?_
  · exact trivial
  · try simp (disch := omega) only [pe_wi w0, pe_wi w1]
    exact pe_two k1 k2
theorem b67_13 {d : Nat} {Φ : Option pe_V → pe_H → Prop} {σ : pe_H} {a0 : Nat} {o1 : Option pe_V} {o2 : Option pe_V} {x3 : Int} {x4 : Int}   (h0 : pe_K σ a0 = 7 := by first | assumption | omega) (h1 : pe_K σ (pe_R σ a0 0) = 6 := by first | assumption | omega) (k : pe_M d 60 [.inr (.inr (pe_R σ a0 0)), .inl x4] σ (fun r σ' => pe_X d 67 (22, [some (.inr (.inr a0)), o1, o2, some (.inl x3), some (.inl x4)], r.toList ++ [], σ') Φ)) : pe_X d 67 (13, [some (.inr (.inr a0)), o1, o2, some (.inl x3), some (.inl x4)], [], σ) Φ := by
  refine pe_blk 9 3 ck67 [pe_K σ a0 = 7] (19, [some (.inr (.inr a0)), o1, o2, some (.inl x3), some (.inl x4)], [.inl x4, .inr (.inr (pe_R σ a0 0))], σ) rfl ?_ ?_
  · first
    | (simp (disch := omega) only [pe_all, pe_K_wI, pe_K_wR]; done)
    | (simp (disch := omega) only [pe_all, pe_K_wI, pe_K_wR]; (repeat' apply And.intro) <;> first | assumption | omega | decide)
  · try simp (disch := omega) only [pe_K_wI, pe_K_wR]
    have hrc : pe_K σ (pe_R σ a0 0) = 6 := by first | assumption | (simp (disch := omega) only [pe_K_wI, pe_K_wR]; done) | (simp (disch := omega) only [pe_K_wI, pe_K_wR]; assumption)
    exact pe_cal 12 ck67 rfl rfl rfl ⟨hrc, by decide⟩ k
theorem b67_22 {d : Nat} {Φ : Option pe_V → pe_H → Prop} {σ : pe_H} {a0 : Nat} {o1 : Option pe_V} {o2 : Option pe_V} {x3 : Int} {x4 : Int} {s0 : Int}    (k : pe_M d 69 [.inl s0] σ (fun r σ' => pe_X d 67 (25, [some (.inr (.inr a0)), o1, o2, some (.inl x3), some (.inl x4)], r.toList ++ [], σ') Φ)) : pe_X d 67 (22, [some (.inr (.inr a0)), o1, o2, some (.inl x3), some (.inl x4)], [.inl s0], σ) Φ := by
  exact pe_cal 13 ck67 rfl rfl rfl trivial k
theorem b67_25 {d : Nat} {Φ : Option pe_V → pe_H → Prop} {σ : pe_H} {a0 : Nat} {o1 : Option pe_V} {o2 : Option pe_V} {x3 : Int} {x4 : Int} {s0 : Int}  (w0 : pe_in s0 := by unfold pe_in; omega)  (k1 : ¬ s0 = 0 → pe_X d 67 (34, [some (.inr (.inr a0)), o1, o2, some (.inl x3), some (.inl x4)], [], σ) Φ) (k2 : s0 = 0 → pe_X d 67 (28, [some (.inr (.inr a0)), o1, o2, some (.inl x3), some (.inl x4)], [], σ) Φ) : pe_X d 67 (25, [some (.inr (.inr a0)), o1, o2, some (.inl x3), some (.inl x4)], [.inl s0], σ) Φ := by
  refine pe_blk 14 1 ck67 [] (cond (decide (¬ (pe_w s0) = 0)) 34 28, [some (.inr (.inr a0)), o1, o2, some (.inl x3), some (.inl x4)], [], σ) rfl ?_ ?_
  · exact trivial
  · try simp (disch := omega) only [pe_wi w0]
    exact pe_two' k1 k2
theorem b67_28 {d : Nat} {Φ : Option pe_V → pe_H → Prop} {σ : pe_H} {o0 : Option pe_V} {o1 : Option pe_V} {o2 : Option pe_V} {o3 : Option pe_V} {x4 : Int}    (k : pe_M d 65 [.inl x4] σ (fun r σ' => pe_X d 67 (33, [o0, o1, o2, o3, some (.inl x4)], r.toList ++ [], σ') Φ)) : pe_X d 67 (28, [o0, o1, o2, o3, some (.inl x4)], [], σ) Φ := by
  refine pe_blk 15 1 ck67 [] (30, [o0, o1, o2, o3, some (.inl x4)], [.inl x4], σ) rfl ?_ ?_
  · exact trivial
  · exact pe_cal 16 ck67 rfl rfl rfl trivial k
theorem b67_33 {d : Nat} {Φ : Option pe_V → pe_H → Prop} {σ : pe_H} {o0 : Option pe_V} {o1 : Option pe_V} {o2 : Option pe_V} {o3 : Option pe_V} {o4 : Option pe_V} {s0 : Int}    (k : Φ (some (.inl s0)) σ) : pe_X d 67 (33, [o0, o1, o2, o3, o4], [.inl s0], σ) Φ := by
  exact pe_fine 17 ck67 rfl rfl rfl trivial k
theorem b67_34 {d : Nat} {Φ : Option pe_V → pe_H → Prop} {σ : pe_H} {a0 : Nat} {o1 : Option pe_V} {o2 : Option pe_V} {x3 : Int} {x4 : Int}    (k : pe_X d 67 (7, [some (.inr (.inr a0)), o1, o2, some (.inl x3), some (.inl (x4 + 1))], [], σ) Φ) : pe_X d 67 (34, [some (.inr (.inr a0)), o1, o2, some (.inl x3), some (.inl x4)], [], σ) Φ := by
  refine pe_blk 18 2 ck67 [] (7, [some (.inr (.inr a0)), o1, o2, some (.inl x3), some (.inl (x4 + 1))], [], σ) rfl ?_ ?_
  · exact trivial
  · exact k
theorem b67_40 {d : Nat} {Φ : Option pe_V → pe_H → Prop} {σ : pe_H} {a0 : Nat} {o1 : Option pe_V} {o2 : Option pe_V} {x3 : Int} {o4 : Option pe_V}   (h0 : pe_K σ a0 = 7 := by first | assumption | omega) (h1 : pe_K σ (pe_R σ a0 0) = 6 := by first | assumption | omega) (k : pe_M d 60 [.inr (.inr (pe_R σ a0 0)), .inl x3] σ (fun r σ' => pe_X d 67 (48, [some (.inr (.inr a0)), o1, o2, some (.inl x3), o4], r.toList ++ [], σ') Φ)) : pe_X d 67 (40, [some (.inr (.inr a0)), o1, o2, some (.inl x3), o4], [], σ) Φ := by
  refine pe_blk 20 3 ck67 [pe_K σ a0 = 7] (45, [some (.inr (.inr a0)), o1, o2, some (.inl x3), o4], [.inl x3, .inr (.inr (pe_R σ a0 0))], σ) rfl ?_ ?_
  · first
    | (simp (disch := omega) only [pe_all, pe_K_wI, pe_K_wR]; done)
    | (simp (disch := omega) only [pe_all, pe_K_wI, pe_K_wR]; (repeat' apply And.intro) <;> first | assumption | omega | decide)
  · try simp (disch := omega) only [pe_K_wI, pe_K_wR]
    have hrc : pe_K σ (pe_R σ a0 0) = 6 := by first | assumption | (simp (disch := omega) only [pe_K_wI, pe_K_wR]; done) | (simp (disch := omega) only [pe_K_wI, pe_K_wR]; assumption)
    exact pe_cal 23 ck67 rfl rfl rfl ⟨hrc, by decide⟩ k
theorem b67_48 {d : Nat} {Φ : Option pe_V → pe_H → Prop} {σ : pe_H} {o0 : Option pe_V} {o1 : Option pe_V} {o2 : Option pe_V} {x3 : Int} {o4 : Option pe_V} {s0 : Int}  (w0 : pe_in s0 := by unfold pe_in; omega)  (k1 : ¬ s0 = 59 → pe_X d 67 (59, [o0, o1, o2, some (.inl x3), o4], [], σ) Φ) (k2 : s0 = 59 → pe_X d 67 (53, [o0, o1, o2, some (.inl x3), o4], [], σ) Φ) : pe_X d 67 (48, [o0, o1, o2, some (.inl x3), o4], [.inl s0], σ) Φ := by
  refine pe_blk 24 2 ck67 [] (cond (decide (¬ (pe_w s0) = (pe_w 59))) 59 53, [o0, o1, o2, some (.inl x3), o4], [], σ) rfl ?_ ?_
  · exact trivial
  · try simp (disch := omega) only [pe_wi w0, pe_wi (x := 59) ⟨by decide, by decide⟩]
    exact pe_two' k1 k2
theorem b67_53 {d : Nat} {Φ : Option pe_V → pe_H → Prop} {σ : pe_H} {o0 : Option pe_V} {o1 : Option pe_V} {o2 : Option pe_V} {x3 : Int} {o4 : Option pe_V}    (k : pe_X d 67 (63, [o0, o1, o2, some (.inl x3), o4], [.inl (x3 + 1)], σ) Φ) : pe_X d 67 (53, [o0, o1, o2, some (.inl x3), o4], [], σ) Φ := by
  refine pe_blk 26 4 ck67 [] (63, [o0, o1, o2, some (.inl x3), o4], [.inl (x3 + 1)], σ) rfl ?_ ?_
  · exact trivial
  · exact k
theorem b67_59 {d : Nat} {Φ : Option pe_V → pe_H → Prop} {σ : pe_H} {o0 : Option pe_V} {o1 : Option pe_V} {o2 : Option pe_V} {x3 : Int} {o4 : Option pe_V}    (k : pe_M d 65 [.inl x3] σ (fun r σ' => pe_X d 67 (63, [o0, o1, o2, some (.inl x3), o4], r.toList ++ [], σ') Φ)) : pe_X d 67 (59, [o0, o1, o2, some (.inl x3), o4], [], σ) Φ := by
  refine pe_blk 30 1 ck67 [] (60, [o0, o1, o2, some (.inl x3), o4], [.inl x3], σ) rfl ?_ ?_
  · exact trivial
  · exact pe_cal 31 ck67 rfl rfl rfl trivial k
theorem b67_63 {d : Nat} {Φ : Option pe_V → pe_H → Prop} {σ : pe_H} {o0 : Option pe_V} {o1 : Option pe_V} {o2 : Option pe_V} {o3 : Option pe_V} {o4 : Option pe_V} {s0 : Int}    (k : Φ (some (.inl s0)) σ) : pe_X d 67 (63, [o0, o1, o2, o3, o4], [.inl s0], σ) Φ := by
  exact pe_fine 32 ck67 rfl rfl rfl trivial k
-- StepMachines$Text.endOfProgram(I)I
def T68 : List (Nat × Instr × Nat) := [(0, .aload_n 0, 1), (1, .getfield 15, 3), (4, .iload_n 1, 1), (5, .invokevirtual 32, 3), (8, .invokestatic 42, 3), (11, .ifCond .ne 8, 3), (14, .iload_n 1, 1), (15, .invokestatic 29, 3), (18, .ireturn, 1), (19, .iload_n 1, 1), (20, .iconst 1, 1), (21, .iadd, 1), (22, .istore_n 2, 1), (23, .iload_n 2, 1), (24, .aload_n 0, 1), (25, .getfield 15, 3), (28, .invokevirtual 19, 3), (31, .if_icmp .ge 76, 3), (34, .aload_n 0, 1), (35, .getfield 15, 3), (38, .iload_n 2, 1), (39, .invokevirtual 32, 3), (42, .bipush 59, 2), (44, .if_icmp .eq 63, 3), (47, .aload_n 0, 1), (48, .getfield 15, 3), (51, .iload_n 2, 1), (52, .invokevirtual 32, 3), (55, .bipush 102, 2), (57, .if_icmp .eq 44, 3), (60, .aload_n 0, 1), (61, .getfield 15, 3), (64, .iload_n 2, 1), (65, .invokevirtual 32, 3), (68, .invokestatic 46, 3), (71, .ifCond .ne 8, 3), (74, .iload_n 2, 1), (75, .invokestatic 29, 3), (78, .ireturn, 1), (79, .iinc 2 1, 3), (82, .aload_n 0, 1), (83, .getfield 15, 3), (86, .iload_n 2, 1), (87, .invokevirtual 32, 3), (90, .invokestatic 42, 3), (93, .ifCond .ne 8, 3), (96, .iload_n 2, 1), (97, .invokestatic 29, 3), (100, .ireturn, 1), (101, .iinc 2 1, 3), (104, .goto (-81), 3), (107, .aload_n 0, 1), (108, .getfield 15, 3), (111, .iload_n 2, 1), (112, .invokevirtual 32, 3), (115, .bipush 59, 2), (117, .if_icmp .ne 9, 3), (120, .iload_n 2, 1), (121, .iconst 1, 1), (122, .iadd, 1), (123, .goto 7, 3), (126, .iload_n 2, 1), (127, .invokestatic 29, 3), (130, .ireturn, 1)]
theorem ck68 : pe_ctx 68 7 false (some .int) 3 T68 := ⟨rfl, rfl, rfl, rfl, by decide +kernel, by decide, by decide⟩
theorem b68_0 {d : Nat} {Φ : Option pe_V → pe_H → Prop} {σ : pe_H} {a0 : Nat} {x1 : Int} {o2 : Option pe_V}   (h0 : pe_K σ a0 = 7 := by first | assumption | omega) (h1 : pe_K σ (pe_R σ a0 0) = 6 := by first | assumption | omega) (k : pe_M d 60 [.inr (.inr (pe_R σ a0 0)), .inl x1] σ (fun r σ' => pe_X d 68 (8, [some (.inr (.inr a0)), some (.inl x1), o2], r.toList ++ [], σ') Φ)) : pe_X d 68 (0, [some (.inr (.inr a0)), some (.inl x1), o2], [], σ) Φ := by
  refine pe_blk 0 3 ck68 [pe_K σ a0 = 7] (5, [some (.inr (.inr a0)), some (.inl x1), o2], [.inl x1, .inr (.inr (pe_R σ a0 0))], σ) rfl ?_ ?_
  · first
    | (simp (disch := omega) only [pe_all, pe_K_wI, pe_K_wR]; done)
    | (simp (disch := omega) only [pe_all, pe_K_wI, pe_K_wR]; (repeat' apply And.intro) <;> first | assumption | omega | decide)
  · try simp (disch := omega) only [pe_K_wI, pe_K_wR]
    have hrc : pe_K σ (pe_R σ a0 0) = 6 := by first | assumption | (simp (disch := omega) only [pe_K_wI, pe_K_wR]; done) | (simp (disch := omega) only [pe_K_wI, pe_K_wR]; assumption)
    exact pe_cal 3 ck68 rfl rfl rfl ⟨hrc, by decide⟩ k
theorem b68_8 {d : Nat} {Φ : Option pe_V → pe_H → Prop} {σ : pe_H} {a0 : Nat} {x1 : Int} {o2 : Option pe_V} {s0 : Int}    (k : pe_M d 69 [.inl s0] σ (fun r σ' => pe_X d 68 (11, [some (.inr (.inr a0)), some (.inl x1), o2], r.toList ++ [], σ') Φ)) : pe_X d 68 (8, [some (.inr (.inr a0)), some (.inl x1), o2], [.inl s0], σ) Φ := by
  exact pe_cal 4 ck68 rfl rfl rfl trivial k
theorem b68_11 {d : Nat} {Φ : Option pe_V → pe_H → Prop} {σ : pe_H} {a0 : Nat} {x1 : Int} {o2 : Option pe_V} {s0 : Int}  (w0 : pe_in s0 := by unfold pe_in; omega)  (k1 : ¬ s0 = 0 → pe_X d 68 (19, [some (.inr (.inr a0)), some (.inl x1), o2], [], σ) Φ) (k2 : s0 = 0 → pe_X d 68 (14, [some (.inr (.inr a0)), some (.inl x1), o2], [], σ) Φ) : pe_X d 68 (11, [some (.inr (.inr a0)), some (.inl x1), o2], [.inl s0], σ) Φ := by
  refine pe_blk 5 1 ck68 [] (cond (decide (¬ (pe_w s0) = 0)) 19 14, [some (.inr (.inr a0)), some (.inl x1), o2], [], σ) rfl ?_ ?_
  · exact trivial
  · try simp (disch := omega) only [pe_wi w0]
    exact pe_two' k1 k2
theorem b68_14 {d : Nat} {Φ : Option pe_V → pe_H → Prop} {σ : pe_H} {o0 : Option pe_V} {x1 : Int} {o2 : Option pe_V}    (k : pe_M d 65 [.inl x1] σ (fun r σ' => pe_X d 68 (18, [o0, some (.inl x1), o2], r.toList ++ [], σ') Φ)) : pe_X d 68 (14, [o0, some (.inl x1), o2], [], σ) Φ := by
  refine pe_blk 6 1 ck68 [] (15, [o0, some (.inl x1), o2], [.inl x1], σ) rfl ?_ ?_
  · exact trivial
  · exact pe_cal 7 ck68 rfl rfl rfl trivial k
theorem b68_18 {d : Nat} {Φ : Option pe_V → pe_H → Prop} {σ : pe_H} {o0 : Option pe_V} {o1 : Option pe_V} {o2 : Option pe_V} {s0 : Int}    (k : Φ (some (.inl s0)) σ) : pe_X d 68 (18, [o0, o1, o2], [.inl s0], σ) Φ := by
  exact pe_fine 8 ck68 rfl rfl rfl trivial k
theorem b68_19 {d : Nat} {Φ : Option pe_V → pe_H → Prop} {σ : pe_H} {a0 : Nat} {x1 : Int} {o2 : Option pe_V}    (k : pe_X d 68 (23, [some (.inr (.inr a0)), some (.inl x1), some (.inl (x1 + 1))], [], σ) Φ) : pe_X d 68 (19, [some (.inr (.inr a0)), some (.inl x1), o2], [], σ) Φ := by
  refine pe_blk 9 4 ck68 [] (23, [some (.inr (.inr a0)), some (.inl x1), some (.inl (x1 + 1))], [], σ) rfl ?_ ?_
  · exact trivial
  · exact k
theorem b68_23 {d : Nat} {Φ : Option pe_V → pe_H → Prop} {σ : pe_H} {a0 : Nat} {o1 : Option pe_V} {x2 : Int}   (h0 : pe_K σ a0 = 7 := by first | assumption | omega) (h1 : pe_K σ (pe_R σ a0 0) = 6 := by first | assumption | omega) (k : pe_M d 57 [.inr (.inr (pe_R σ a0 0))] σ (fun r σ' => pe_X d 68 (31, [some (.inr (.inr a0)), o1, some (.inl x2)], r.toList ++ [.inl x2], σ') Φ)) : pe_X d 68 (23, [some (.inr (.inr a0)), o1, some (.inl x2)], [], σ) Φ := by
  refine pe_blk 13 3 ck68 [pe_K σ a0 = 7] (28, [some (.inr (.inr a0)), o1, some (.inl x2)], [.inr (.inr (pe_R σ a0 0)), .inl x2], σ) rfl ?_ ?_
  · first
    | (simp (disch := omega) only [pe_all, pe_K_wI, pe_K_wR]; done)
    | (simp (disch := omega) only [pe_all, pe_K_wI, pe_K_wR]; (repeat' apply And.intro) <;> first | assumption | omega | decide)
  · try simp (disch := omega) only [pe_K_wI, pe_K_wR]
    have hrc : pe_K σ (pe_R σ a0 0) = 6 := by first | assumption | (simp (disch := omega) only [pe_K_wI, pe_K_wR]; done) | (simp (disch := omega) only [pe_K_wI, pe_K_wR]; assumption)
    exact pe_cal 16 ck68 rfl rfl rfl ⟨hrc, by decide⟩ k
theorem b68_31 {d : Nat} {Φ : Option pe_V → pe_H → Prop} {σ : pe_H} {a0 : Nat} {o1 : Option pe_V} {x2 : Int} {s0 : Int} {s1 : Int}  (w0 : pe_in s1 := by unfold pe_in; omega) (w1 : pe_in s0 := by unfold pe_in; omega)  (k1 : s1 ≤ s0 → pe_X d 68 (107, [some (.inr (.inr a0)), o1, some (.inl x2)], [], σ) Φ) (k2 : ¬ (s1 ≤ s0) → pe_X d 68 (34, [some (.inr (.inr a0)), o1, some (.inl x2)], [], σ) Φ) : pe_X d 68 (31, [some (.inr (.inr a0)), o1, some (.inl x2)], [.inl s1, .inl s0], σ) Φ := by
  refine pe_blk 17 1 ck68 [] (cond (decide ((pe_w s1) ≤ (pe_w s0))) 107 34, [some (.inr (.inr a0)), o1, some (.inl x2)], [], σ) rfl ?_ ?_
  · exact trivial
  · try simp (disch := omega) only [pe_wi w0, pe_wi w1]
    exact pe_two k1 k2
theorem b68_34 {d : Nat} {Φ : Option pe_V → pe_H → Prop} {σ : pe_H} {a0 : Nat} {o1 : Option pe_V} {x2 : Int}   (h0 : pe_K σ a0 = 7 := by first | assumption | omega) (h1 : pe_K σ (pe_R σ a0 0) = 6 := by first | assumption | omega) (k : pe_M d 60 [.inr (.inr (pe_R σ a0 0)), .inl x2] σ (fun r σ' => pe_X d 68 (42, [some (.inr (.inr a0)), o1, some (.inl x2)], r.toList ++ [], σ') Φ)) : pe_X d 68 (34, [some (.inr (.inr a0)), o1, some (.inl x2)], [], σ) Φ := by
  refine pe_blk 18 3 ck68 [pe_K σ a0 = 7] (39, [some (.inr (.inr a0)), o1, some (.inl x2)], [.inl x2, .inr (.inr (pe_R σ a0 0))], σ) rfl ?_ ?_
  · first
    | (simp (disch := omega) only [pe_all, pe_K_wI, pe_K_wR]; done)
    | (simp (disch := omega) only [pe_all, pe_K_wI, pe_K_wR]; (repeat' apply And.intro) <;> first | assumption | omega | decide)
  · try simp (disch := omega) only [pe_K_wI, pe_K_wR]
    have hrc : pe_K σ (pe_R σ a0 0) = 6 := by first | assumption | (simp (disch := omega) only [pe_K_wI, pe_K_wR]; done) | (simp (disch := omega) only [pe_K_wI, pe_K_wR]; assumption)
    exact pe_cal 21 ck68 rfl rfl rfl ⟨hrc, by decide⟩ k
theorem b68_42 {d : Nat} {Φ : Option pe_V → pe_H → Prop} {σ : pe_H} {a0 : Nat} {o1 : Option pe_V} {x2 : Int} {s0 : Int}  (w0 : pe_in s0 := by unfold pe_in; omega)  (k1 : s0 = 59 → pe_X d 68 (107, [some (.inr (.inr a0)), o1, some (.inl x2)], [], σ) Φ) (k2 : ¬ (s0 = 59) → pe_X d 68 (47, [some (.inr (.inr a0)), o1, some (.inl x2)], [], σ) Φ) : pe_X d 68 (42, [some (.inr (.inr a0)), o1, some (.inl x2)], [.inl s0], σ) Φ := by
  refine pe_blk 22 2 ck68 [] (cond (decide ((pe_w s0) = (pe_w 59))) 107 47, [some (.inr (.inr a0)), o1, some (.inl x2)], [], σ) rfl ?_ ?_
  · exact trivial
  · try simp (disch := omega) only [pe_wi w0, pe_wi (x := 59) ⟨by decide, by decide⟩]
    exact pe_two k1 k2
theorem b68_47 {d : Nat} {Φ : Option pe_V → pe_H → Prop} {σ : pe_H} {a0 : Nat} {o1 : Option pe_V} {x2 : Int}   (h0 : pe_K σ a0 = 7 := by first | assumption | omega) (h1 : pe_K σ (pe_R σ a0 0) = 6 := by first | assumption | omega) (k : pe_M d 60 [.inr (.inr (pe_R σ a0 0)), .inl x2] σ (fun r σ' => pe_X d 68 (55, [some (.inr (.inr a0)), o1, some (.inl x2)], r.toList ++ [], σ') Φ)) : pe_X d 68 (47, [some (.inr (.inr a0)), o1, some (.inl x2)], [], σ) Φ := by
  refine pe_blk 24 3 ck68 [pe_K σ a0 = 7] (52, [some (.inr (.inr a0)), o1, some (.inl x2)], [.inl x2, .inr (.inr (pe_R σ a0 0))], σ) rfl ?_ ?_
  · first
    | (simp (disch := omega) only [pe_all, pe_K_wI, pe_K_wR]; done)
    | (simp (disch := omega) only [pe_all, pe_K_wI, pe_K_wR]; (repeat' apply And.intro) <;> first | assumption | omega | decide)
  · try simp (disch := omega) only [pe_K_wI, pe_K_wR]
    have hrc : pe_K σ (pe_R σ a0 0) = 6 := by first | assumption | (simp (disch := omega) only [pe_K_wI, pe_K_wR]; done) | (simp (disch := omega) only [pe_K_wI, pe_K_wR]; assumption)
    exact pe_cal 27 ck68 rfl rfl rfl ⟨hrc, by decide⟩ k
theorem b68_55 {d : Nat} {Φ : Option pe_V → pe_H → Prop} {σ : pe_H} {a0 : Nat} {o1 : Option pe_V} {x2 : Int} {s0 : Int}  (w0 : pe_in s0 := by unfold pe_in; omega)  (k1 : s0 = 102 → pe_X d 68 (101, [some (.inr (.inr a0)), o1, some (.inl x2)], [], σ) Φ) (k2 : ¬ (s0 = 102) → pe_X d 68 (60, [some (.inr (.inr a0)), o1, some (.inl x2)], [], σ) Φ) : pe_X d 68 (55, [some (.inr (.inr a0)), o1, some (.inl x2)], [.inl s0], σ) Φ := by
  refine pe_blk 28 2 ck68 [] (cond (decide ((pe_w s0) = (pe_w 102))) 101 60, [some (.inr (.inr a0)), o1, some (.inl x2)], [], σ) rfl ?_ ?_
  · exact trivial
  · try simp (disch := omega) only [pe_wi w0, pe_wi (x := 102) ⟨by decide, by decide⟩]
    exact pe_two k1 k2
theorem b68_60 {d : Nat} {Φ : Option pe_V → pe_H → Prop} {σ : pe_H} {a0 : Nat} {o1 : Option pe_V} {x2 : Int}   (h0 : pe_K σ a0 = 7 := by first | assumption | omega) (h1 : pe_K σ (pe_R σ a0 0) = 6 := by first | assumption | omega) (k : pe_M d 60 [.inr (.inr (pe_R σ a0 0)), .inl x2] σ (fun r σ' => pe_X d 68 (68, [some (.inr (.inr a0)), o1, some (.inl x2)], r.toList ++ [], σ') Φ)) : pe_X d 68 (60, [some (.inr (.inr a0)), o1, some (.inl x2)], [], σ) Φ := by
  refine pe_blk 30 3 ck68 [pe_K σ a0 = 7] (65, [some (.inr (.inr a0)), o1, some (.inl x2)], [.inl x2, .inr (.inr (pe_R σ a0 0))], σ) rfl ?_ ?_
  · first
    | (simp (disch := omega) only [pe_all, pe_K_wI, pe_K_wR]; done)
    | (simp (disch := omega) only [pe_all, pe_K_wI, pe_K_wR]; (repeat' apply And.intro) <;> first | assumption | omega | decide)
  · try simp (disch := omega) only [pe_K_wI, pe_K_wR]
    have hrc : pe_K σ (pe_R σ a0 0) = 6 := by first | assumption | (simp (disch := omega) only [pe_K_wI, pe_K_wR]; done) | (simp (disch := omega) only [pe_K_wI, pe_K_wR]; assumption)
    exact pe_cal 33 ck68 rfl rfl rfl ⟨hrc, by decide⟩ k
theorem b68_68 {d : Nat} {Φ : Option pe_V → pe_H → Prop} {σ : pe_H} {a0 : Nat} {o1 : Option pe_V} {x2 : Int} {s0 : Int}    (k : pe_M d 70 [.inl s0] σ (fun r σ' => pe_X d 68 (71, [some (.inr (.inr a0)), o1, some (.inl x2)], r.toList ++ [], σ') Φ)) : pe_X d 68 (68, [some (.inr (.inr a0)), o1, some (.inl x2)], [.inl s0], σ) Φ := by
  exact pe_cal 34 ck68 rfl rfl rfl trivial k
theorem b68_71 {d : Nat} {Φ : Option pe_V → pe_H → Prop} {σ : pe_H} {a0 : Nat} {o1 : Option pe_V} {x2 : Int} {s0 : Int}  (w0 : pe_in s0 := by unfold pe_in; omega)  (k1 : ¬ s0 = 0 → pe_X d 68 (79, [some (.inr (.inr a0)), o1, some (.inl x2)], [], σ) Φ) (k2 : s0 = 0 → pe_X d 68 (74, [some (.inr (.inr a0)), o1, some (.inl x2)], [], σ) Φ) : pe_X d 68 (71, [some (.inr (.inr a0)), o1, some (.inl x2)], [.inl s0], σ) Φ := by
  refine pe_blk 35 1 ck68 [] (cond (decide (¬ (pe_w s0) = 0)) 79 74, [some (.inr (.inr a0)), o1, some (.inl x2)], [], σ) rfl ?_ ?_
  · exact trivial
  · try simp (disch := omega) only [pe_wi w0]
    exact pe_two' k1 k2
theorem b68_74 {d : Nat} {Φ : Option pe_V → pe_H → Prop} {σ : pe_H} {o0 : Option pe_V} {o1 : Option pe_V} {x2 : Int}    (k : pe_M d 65 [.inl x2] σ (fun r σ' => pe_X d 68 (78, [o0, o1, some (.inl x2)], r.toList ++ [], σ') Φ)) : pe_X d 68 (74, [o0, o1, some (.inl x2)], [], σ) Φ := by
  refine pe_blk 36 1 ck68 [] (75, [o0, o1, some (.inl x2)], [.inl x2], σ) rfl ?_ ?_
  · exact trivial
  · exact pe_cal 37 ck68 rfl rfl rfl trivial k
theorem b68_78 {d : Nat} {Φ : Option pe_V → pe_H → Prop} {σ : pe_H} {o0 : Option pe_V} {o1 : Option pe_V} {o2 : Option pe_V} {s0 : Int}    (k : Φ (some (.inl s0)) σ) : pe_X d 68 (78, [o0, o1, o2], [.inl s0], σ) Φ := by
  exact pe_fine 38 ck68 rfl rfl rfl trivial k
theorem b68_79 {d : Nat} {Φ : Option pe_V → pe_H → Prop} {σ : pe_H} {a0 : Nat} {o1 : Option pe_V} {x2 : Int}   (h0 : pe_K σ a0 = 7 := by first | assumption | omega) (h1 : pe_K σ (pe_R σ a0 0) = 6 := by first | assumption | omega) (k : pe_M d 60 [.inr (.inr (pe_R σ a0 0)), .inl (x2 + 1)] σ (fun r σ' => pe_X d 68 (90, [some (.inr (.inr a0)), pe_nl o1, some (.inl (x2 + 1))], r.toList ++ [], σ') Φ)) : pe_X d 68 (79, [some (.inr (.inr a0)), o1, some (.inl x2)], [], σ) Φ := by
  refine pe_blk 39 4 ck68 [pe_K σ a0 = 7] (87, [some (.inr (.inr a0)), pe_nl o1, some (.inl (x2 + 1))], [.inl (x2 + 1), .inr (.inr (pe_R σ a0 0))], σ) rfl ?_ ?_
  · first
    | (simp (disch := omega) only [pe_all, pe_K_wI, pe_K_wR]; done)
    | (simp (disch := omega) only [pe_all, pe_K_wI, pe_K_wR]; (repeat' apply And.intro) <;> first | assumption | omega | decide)
  · try simp (disch := omega) only [pe_K_wI, pe_K_wR]
    have hrc : pe_K σ (pe_R σ a0 0) = 6 := by first | assumption | (simp (disch := omega) only [pe_K_wI, pe_K_wR]; done) | (simp (disch := omega) only [pe_K_wI, pe_K_wR]; assumption)
    exact pe_cal 43 ck68 rfl rfl rfl ⟨hrc, by decide⟩ k
theorem b68_90 {d : Nat} {Φ : Option pe_V → pe_H → Prop} {σ : pe_H} {a0 : Nat} {o1 : Option pe_V} {x2 : Int} {s0 : Int}    (k : pe_M d 69 [.inl s0] σ (fun r σ' => pe_X d 68 (93, [some (.inr (.inr a0)), o1, some (.inl x2)], r.toList ++ [], σ') Φ)) : pe_X d 68 (90, [some (.inr (.inr a0)), o1, some (.inl x2)], [.inl s0], σ) Φ := by
  exact pe_cal 44 ck68 rfl rfl rfl trivial k
theorem b68_93 {d : Nat} {Φ : Option pe_V → pe_H → Prop} {σ : pe_H} {a0 : Nat} {o1 : Option pe_V} {x2 : Int} {s0 : Int}  (w0 : pe_in s0 := by unfold pe_in; omega)  (k1 : ¬ s0 = 0 → pe_X d 68 (101, [some (.inr (.inr a0)), o1, some (.inl x2)], [], σ) Φ) (k2 : s0 = 0 → pe_X d 68 (96, [some (.inr (.inr a0)), o1, some (.inl x2)], [], σ) Φ) : pe_X d 68 (93, [some (.inr (.inr a0)), o1, some (.inl x2)], [.inl s0], σ) Φ := by
  refine pe_blk 45 1 ck68 [] (cond (decide (¬ (pe_w s0) = 0)) 101 96, [some (.inr (.inr a0)), o1, some (.inl x2)], [], σ) rfl ?_ ?_
  · exact trivial
  · try simp (disch := omega) only [pe_wi w0]
    exact pe_two' k1 k2
theorem b68_96 {d : Nat} {Φ : Option pe_V → pe_H → Prop} {σ : pe_H} {o0 : Option pe_V} {o1 : Option pe_V} {x2 : Int}    (k : pe_M d 65 [.inl x2] σ (fun r σ' => pe_X d 68 (100, [o0, o1, some (.inl x2)], r.toList ++ [], σ') Φ)) : pe_X d 68 (96, [o0, o1, some (.inl x2)], [], σ) Φ := by
  refine pe_blk 46 1 ck68 [] (97, [o0, o1, some (.inl x2)], [.inl x2], σ) rfl ?_ ?_
  · exact trivial
  · exact pe_cal 47 ck68 rfl rfl rfl trivial k
theorem b68_100 {d : Nat} {Φ : Option pe_V → pe_H → Prop} {σ : pe_H} {o0 : Option pe_V} {o1 : Option pe_V} {o2 : Option pe_V} {s0 : Int}    (k : Φ (some (.inl s0)) σ) : pe_X d 68 (100, [o0, o1, o2], [.inl s0], σ) Φ := by
  exact pe_fine 48 ck68 rfl rfl rfl trivial k
set_option maxRecDepth 8000 in
theorem b68_101 {d : Nat} {Φ : Option pe_V → pe_H → Prop} {σ : pe_H} {a0 : Nat} {o1 : Option pe_V} {x2 : Int}    (k : pe_X d 68 (23, [some (.inr (.inr a0)), pe_nl o1, some (.inl (x2 + 1))], [], σ) Φ) : pe_X d 68 (101, [some (.inr (.inr a0)), o1, some (.inl x2)], [], σ) Φ := by
  refine pe_blk 49 2 ck68 [] (23, [some (.inr (.inr a0)), pe_nl o1, some (.inl (x2 + 1))], [], σ) rfl ?_ ?_
  · exact trivial
  · exact k
set_option maxRecDepth 8000 in
theorem b68_107 {d : Nat} {Φ : Option pe_V → pe_H → Prop} {σ : pe_H} {a0 : Nat} {o1 : Option pe_V} {x2 : Int}   (h0 : pe_K σ a0 = 7 := by first | assumption | omega) (h1 : pe_K σ (pe_R σ a0 0) = 6 := by first | assumption | omega) (k : pe_M d 60 [.inr (.inr (pe_R σ a0 0)), .inl x2] σ (fun r σ' => pe_X d 68 (115, [some (.inr (.inr a0)), o1, some (.inl x2)], r.toList ++ [], σ') Φ)) : pe_X d 68 (107, [some (.inr (.inr a0)), o1, some (.inl x2)], [], σ) Φ := by
  refine pe_blk 51 3 ck68 [pe_K σ a0 = 7] (112, [some (.inr (.inr a0)), o1, some (.inl x2)], [.inl x2, .inr (.inr (pe_R σ a0 0))], σ) rfl ?_ ?_
  · first
    | (simp (disch := omega) only [pe_all, pe_K_wI, pe_K_wR]; done)
    | (simp (disch := omega) only [pe_all, pe_K_wI, pe_K_wR]; (repeat' apply And.intro) <;> first | assumption | omega | decide)
  · try simp (disch := omega) only [pe_K_wI, pe_K_wR]
    have hrc : pe_K σ (pe_R σ a0 0) = 6 := by first | assumption | (simp (disch := omega) only [pe_K_wI, pe_K_wR]; done) | (simp (disch := omega) only [pe_K_wI, pe_K_wR]; assumption)
    exact pe_cal 54 ck68 rfl rfl rfl ⟨hrc, by decide⟩ k
set_option maxRecDepth 8000 in
theorem b68_115 {d : Nat} {Φ : Option pe_V → pe_H → Prop} {σ : pe_H} {o0 : Option pe_V} {o1 : Option pe_V} {x2 : Int} {s0 : Int}  (w0 : pe_in s0 := by unfold pe_in; omega)  (k1 : ¬ s0 = 59 → pe_X d 68 (126, [o0, o1, some (.inl x2)], [], σ) Φ) (k2 : s0 = 59 → pe_X d 68 (120, [o0, o1, some (.inl x2)], [], σ) Φ) : pe_X d 68 (115, [o0, o1, some (.inl x2)], [.inl s0], σ) Φ := by
  refine pe_blk 55 2 ck68 [] (cond (decide (¬ (pe_w s0) = (pe_w 59))) 126 120, [o0, o1, some (.inl x2)], [], σ) rfl ?_ ?_
  · exact trivial
  · try simp (disch := omega) only [pe_wi w0, pe_wi (x := 59) ⟨by decide, by decide⟩]
    exact pe_two' k1 k2
set_option maxRecDepth 8000 in
theorem b68_120 {d : Nat} {Φ : Option pe_V → pe_H → Prop} {σ : pe_H} {o0 : Option pe_V} {o1 : Option pe_V} {x2 : Int}    (k : pe_X d 68 (130, [o0, o1, some (.inl x2)], [.inl (x2 + 1)], σ) Φ) : pe_X d 68 (120, [o0, o1, some (.inl x2)], [], σ) Φ := by
  refine pe_blk 57 4 ck68 [] (130, [o0, o1, some (.inl x2)], [.inl (x2 + 1)], σ) rfl ?_ ?_
  · exact trivial
  · exact k
set_option maxRecDepth 8000 in
theorem b68_126 {d : Nat} {Φ : Option pe_V → pe_H → Prop} {σ : pe_H} {o0 : Option pe_V} {o1 : Option pe_V} {x2 : Int}    (k : pe_M d 65 [.inl x2] σ (fun r σ' => pe_X d 68 (130, [o0, o1, some (.inl x2)], r.toList ++ [], σ') Φ)) : pe_X d 68 (126, [o0, o1, some (.inl x2)], [], σ) Φ := by
  refine pe_blk 61 1 ck68 [] (127, [o0, o1, some (.inl x2)], [.inl x2], σ) rfl ?_ ?_
  · exact trivial
  · exact pe_cal 62 ck68 rfl rfl rfl trivial k
set_option maxRecDepth 8000 in
theorem b68_130 {d : Nat} {Φ : Option pe_V → pe_H → Prop} {σ : pe_H} {o0 : Option pe_V} {o1 : Option pe_V} {o2 : Option pe_V} {s0 : Int}    (k : Φ (some (.inl s0)) σ) : pe_X d 68 (130, [o0, o1, o2], [.inl s0], σ) Φ := by
  exact pe_fine 63 ck68 rfl rfl rfl trivial k
-- StepMachines$Text.isDigit(I)Z
def T69 : List (Nat × Instr × Nat) := [(0, .iload_n 0, 1), (1, .bipush 48, 2), (3, .if_icmp .lt 13, 3), (6, .iload_n 0, 1), (7, .bipush 57, 2), (9, .if_icmp .gt 7, 3), (12, .iconst 1, 1), (13, .goto 4, 3), (16, .iconst 0, 1), (17, .ireturn, 1)]
theorem ck69 : pe_ctx 69 7 false (some .boolean) 1 T69 := ⟨rfl, rfl, rfl, rfl, by decide +kernel, by decide, by decide⟩
theorem b69_0 {d : Nat} {Φ : Option pe_V → pe_H → Prop} {σ : pe_H} {x0 : Int}  (w0 : pe_in x0 := by unfold pe_in; omega)  (k1 : x0 < 48 → pe_X d 69 (16, [some (.inl x0)], [], σ) Φ) (k2 : ¬ (x0 < 48) → pe_X d 69 (6, [some (.inl x0)], [], σ) Φ) : pe_X d 69 (0, [some (.inl x0)], [], σ) Φ := by
  refine pe_blk 0 3 ck69 [] (cond (decide ((pe_w x0) < (pe_w 48))) 16 6, [some (.inl x0)], [], σ) rfl ?_ ?_
  · exact trivial
  · try simp (disch := omega) only [pe_wi w0, pe_wi (x := 48) ⟨by decide, by decide⟩]
    exact pe_two k1 k2
theorem b69_6 {d : Nat} {Φ : Option pe_V → pe_H → Prop} {σ : pe_H} {x0 : Int}  (w0 : pe_in x0 := by unfold pe_in; omega)  (k1 : 57 < x0 → pe_X d 69 (16, [some (.inl x0)], [], σ) Φ) (k2 : ¬ (57 < x0) → pe_X d 69 (12, [some (.inl x0)], [], σ) Φ) : pe_X d 69 (6, [some (.inl x0)], [], σ) Φ := by
  refine pe_blk 3 3 ck69 [] (cond (decide ((pe_w 57) < (pe_w x0))) 16 12, [some (.inl x0)], [], σ) rfl ?_ ?_
  · exact trivial
  · try simp (disch := omega) only [pe_wi w0, pe_wi (x := 57) ⟨by decide, by decide⟩]
    exact pe_two k1 k2
theorem b69_12 {d : Nat} {Φ : Option pe_V → pe_H → Prop} {σ : pe_H} {o0 : Option pe_V}    (k : pe_X d 69 (17, [o0], [.inl 1], σ) Φ) : pe_X d 69 (12, [o0], [], σ) Φ := by
  refine pe_blk 6 2 ck69 [] (17, [o0], [.inl 1], σ) rfl ?_ ?_
  · exact trivial
  · exact k
theorem b69_16 {d : Nat} {Φ : Option pe_V → pe_H → Prop} {σ : pe_H} {o0 : Option pe_V}    (k : pe_X d 69 (17, [o0], [.inl 0], σ) Φ) : pe_X d 69 (16, [o0], [], σ) Φ := by
  refine pe_blk 8 1 ck69 [] (17, [o0], [.inl 0], σ) rfl ?_ ?_
  · exact trivial
  · exact k
theorem b69_17 {d : Nat} {Φ : Option pe_V → pe_H → Prop} {σ : pe_H} {o0 : Option pe_V} {s0 : Int}   (h0 : s0 = 0 ∨ s0 = 1 := by first | assumption | omega) (k : Φ (some (.inl s0)) σ) : pe_X d 69 (17, [o0], [.inl s0], σ) Φ := by
  exact pe_fine 9 ck69 rfl rfl rfl h0 k
-- StepMachines$Text.isNumberedStep(I)Z
def T70 : List (Nat × Instr × Nat) := [(0, .iload_n 0, 1), (1, .tableswitch 121 97 122 #[119, 121, 121, 119, 121, 121, 119, 121, 121, 119, 121, 121, 119, 121, 121, 121, 121, 119, 119, 119, 121, 121, 121, 121, 119, 119], 119), (120, .iconst 1, 1), (121, .ireturn, 1), (122, .iconst 0, 1), (123, .ireturn, 1)]
theorem ck70 : pe_ctx 70 7 false (some .boolean) 1 T70 := ⟨rfl, rfl, rfl, rfl, by decide +kernel, by decide, by decide⟩
theorem b70_0 {d : Nat} {Φ : Option pe_V → pe_H → Prop} {σ : pe_H} {x0 : Int}  (w0 : pe_in x0 := by unfold pe_in; omega)  (k0 : x0 = 97 → pe_X d 70 (120, [some (.inl x0)], [], σ) Φ) (k1 : x0 = 98 → pe_X d 70 (122, [some (.inl x0)], [], σ) Φ) (k2 : x0 = 99 → pe_X d 70 (122, [some (.inl x0)], [], σ) Φ) (k3 : x0 = 100 → pe_X d 70 (120, [some (.inl x0)], [], σ) Φ) (k4 : x0 = 101 → pe_X d 70 (122, [some (.inl x0)], [], σ) Φ) (k5 : x0 = 102 → pe_X d 70 (122, [some (.inl x0)], [], σ) Φ) (k6 : x0 = 103 → pe_X d 70 (120, [some (.inl x0)], [], σ) Φ) (k7 : x0 = 104 → pe_X d 70 (122, [some (.inl x0)], [], σ) Φ) (k8 : x0 = 105 → pe_X d 70 (122, [some (.inl x0)], [], σ) Φ) (k9 : x0 = 106 → pe_X d 70 (120, [some (.inl x0)], [], σ) Φ) (k10 : x0 = 107 → pe_X d 70 (122, [some (.inl x0)], [], σ) Φ) (k11 : x0 = 108 → pe_X d 70 (122, [some (.inl x0)], [], σ) Φ) (k12 : x0 = 109 → pe_X d 70 (120, [some (.inl x0)], [], σ) Φ) (k13 : x0 = 110 → pe_X d 70 (122, [some (.inl x0)], [], σ) Φ) (k14 : x0 = 111 → pe_X d 70 (122, [some (.inl x0)], [], σ) Φ) (k15 : x0 = 112 → pe_X d 70 (122, [some (.inl x0)], [], σ) Φ) (k16 : x0 = 113 → pe_X d 70 (122, [some (.inl x0)], [], σ) Φ) (k17 : x0 = 114 → pe_X d 70 (120, [some (.inl x0)], [], σ) Φ) (k18 : x0 = 115 → pe_X d 70 (120, [some (.inl x0)], [], σ) Φ) (k19 : x0 = 116 → pe_X d 70 (120, [some (.inl x0)], [], σ) Φ) (k20 : x0 = 117 → pe_X d 70 (122, [some (.inl x0)], [], σ) Φ) (k21 : x0 = 118 → pe_X d 70 (122, [some (.inl x0)], [], σ) Φ) (k22 : x0 = 119 → pe_X d 70 (122, [some (.inl x0)], [], σ) Φ) (k23 : x0 = 120 → pe_X d 70 (122, [some (.inl x0)], [], σ) Φ) (k24 : x0 = 121 → pe_X d 70 (120, [some (.inl x0)], [], σ) Φ) (k25 : x0 = 122 → pe_X d 70 (120, [some (.inl x0)], [], σ) Φ) (kd : ¬ x0 = 97 → ¬ x0 = 98 → ¬ x0 = 99 → ¬ x0 = 100 → ¬ x0 = 101 → ¬ x0 = 102 → ¬ x0 = 103 → ¬ x0 = 104 → ¬ x0 = 105 → ¬ x0 = 106 → ¬ x0 = 107 → ¬ x0 = 108 → ¬ x0 = 109 → ¬ x0 = 110 → ¬ x0 = 111 → ¬ x0 = 112 → ¬ x0 = 113 → ¬ x0 = 114 → ¬ x0 = 115 → ¬ x0 = 116 → ¬ x0 = 117 → ¬ x0 = 118 → ¬ x0 = 119 → ¬ x0 = 120 → ¬ x0 = 121 → ¬ x0 = 122 → pe_X d 70 (122, [some (.inl x0)], [], σ) Φ) : pe_X d 70 (0, [some (.inl x0)], [], σ) Φ := by
  refine pe_blk 0 2 ck70 [] ((((1 : Nat) : Int) + pe_sw 121 [(97, 119), (98, 121), (99, 121), (100, 119), (101, 121), (102, 121), (103, 119), (104, 121), (105, 121), (106, 119), (107, 121), (108, 121), (109, 119), (110, 121), (111, 121), (112, 121), (113, 121), (114, 119), (115, 119), (116, 119), (117, 121), (118, 121), (119, 121), (120, 121), (121, 119), (122, 119)] (pe_w x0)).toNat, [some (.inl x0)], [], σ) rfl ?_ ?_
  · exact trivial
  · try simp (disch := omega) only [pe_wi w0]
    by_cases q0 : x0 = 97
    · have e : pe_sw 121 [(97, 119), (98, 121), (99, 121), (100, 119), (101, 121), (102, 121), (103, 119), (104, 121), (105, 121), (106, 119), (107, 121), (108, 121), (109, 119), (110, 121), (111, 121), (112, 121), (113, 121), (114, 119), (115, 119), (116, 119), (117, 121), (118, 121), (119, 121), (120, 121), (121, 119), (122, 119)] x0 = 119 := by rw [q0]; rfl
      rw [e]; exact k0 q0
    by_cases q1 : x0 = 98
    · have e : pe_sw 121 [(97, 119), (98, 121), (99, 121), (100, 119), (101, 121), (102, 121), (103, 119), (104, 121), (105, 121), (106, 119), (107, 121), (108, 121), (109, 119), (110, 121), (111, 121), (112, 121), (113, 121), (114, 119), (115, 119), (116, 119), (117, 121), (118, 121), (119, 121), (120, 121), (121, 119), (122, 119)] x0 = 121 := by rw [q1]; rfl
      rw [e]; exact k1 q1
    by_cases q2 : x0 = 99
    · have e : pe_sw 121 [(97, 119), (98, 121), (99, 121), (100, 119), (101, 121), (102, 121), (103, 119), (104, 121), (105, 121), (106, 119), (107, 121), (108, 121), (109, 119), (110, 121), (111, 121), (112, 121), (113, 121), (114, 119), (115, 119), (116, 119), (117, 121), (118, 121), (119, 121), (120, 121), (121, 119), (122, 119)] x0 = 121 := by rw [q2]; rfl
      rw [e]; exact k2 q2
    by_cases q3 : x0 = 100
    · have e : pe_sw 121 [(97, 119), (98, 121), (99, 121), (100, 119), (101, 121), (102, 121), (103, 119), (104, 121), (105, 121), (106, 119), (107, 121), (108, 121), (109, 119), (110, 121), (111, 121), (112, 121), (113, 121), (114, 119), (115, 119), (116, 119), (117, 121), (118, 121), (119, 121), (120, 121), (121, 119), (122, 119)] x0 = 119 := by rw [q3]; rfl
      rw [e]; exact k3 q3
    by_cases q4 : x0 = 101
    · have e : pe_sw 121 [(97, 119), (98, 121), (99, 121), (100, 119), (101, 121), (102, 121), (103, 119), (104, 121), (105, 121), (106, 119), (107, 121), (108, 121), (109, 119), (110, 121), (111, 121), (112, 121), (113, 121), (114, 119), (115, 119), (116, 119), (117, 121), (118, 121), (119, 121), (120, 121), (121, 119), (122, 119)] x0 = 121 := by rw [q4]; rfl
      rw [e]; exact k4 q4
    by_cases q5 : x0 = 102
    · have e : pe_sw 121 [(97, 119), (98, 121), (99, 121), (100, 119), (101, 121), (102, 121), (103, 119), (104, 121), (105, 121), (106, 119), (107, 121), (108, 121), (109, 119), (110, 121), (111, 121), (112, 121), (113, 121), (114, 119), (115, 119), (116, 119), (117, 121), (118, 121), (119, 121), (120, 121), (121, 119), (122, 119)] x0 = 121 := by rw [q5]; rfl
      rw [e]; exact k5 q5
    by_cases q6 : x0 = 103
    · have e : pe_sw 121 [(97, 119), (98, 121), (99, 121), (100, 119), (101, 121), (102, 121), (103, 119), (104, 121), (105, 121), (106, 119), (107, 121), (108, 121), (109, 119), (110, 121), (111, 121), (112, 121), (113, 121), (114, 119), (115, 119), (116, 119), (117, 121), (118, 121), (119, 121), (120, 121), (121, 119), (122, 119)] x0 = 119 := by rw [q6]; rfl
      rw [e]; exact k6 q6
    by_cases q7 : x0 = 104
    · have e : pe_sw 121 [(97, 119), (98, 121), (99, 121), (100, 119), (101, 121), (102, 121), (103, 119), (104, 121), (105, 121), (106, 119), (107, 121), (108, 121), (109, 119), (110, 121), (111, 121), (112, 121), (113, 121), (114, 119), (115, 119), (116, 119), (117, 121), (118, 121), (119, 121), (120, 121), (121, 119), (122, 119)] x0 = 121 := by rw [q7]; rfl
      rw [e]; exact k7 q7
    by_cases q8 : x0 = 105
    · have e : pe_sw 121 [(97, 119), (98, 121), (99, 121), (100, 119), (101, 121), (102, 121), (103, 119), (104, 121), (105, 121), (106, 119), (107, 121), (108, 121), (109, 119), (110, 121), (111, 121), (112, 121), (113, 121), (114, 119), (115, 119), (116, 119), (117, 121), (118, 121), (119, 121), (120, 121), (121, 119), (122, 119)] x0 = 121 := by rw [q8]; rfl
      rw [e]; exact k8 q8
    by_cases q9 : x0 = 106
    · have e : pe_sw 121 [(97, 119), (98, 121), (99, 121), (100, 119), (101, 121), (102, 121), (103, 119), (104, 121), (105, 121), (106, 119), (107, 121), (108, 121), (109, 119), (110, 121), (111, 121), (112, 121), (113, 121), (114, 119), (115, 119), (116, 119), (117, 121), (118, 121), (119, 121), (120, 121), (121, 119), (122, 119)] x0 = 119 := by rw [q9]; rfl
      rw [e]; exact k9 q9
    by_cases q10 : x0 = 107
    · have e : pe_sw 121 [(97, 119), (98, 121), (99, 121), (100, 119), (101, 121), (102, 121), (103, 119), (104, 121), (105, 121), (106, 119), (107, 121), (108, 121), (109, 119), (110, 121), (111, 121), (112, 121), (113, 121), (114, 119), (115, 119), (116, 119), (117, 121), (118, 121), (119, 121), (120, 121), (121, 119), (122, 119)] x0 = 121 := by rw [q10]; rfl
      rw [e]; exact k10 q10
    by_cases q11 : x0 = 108
    · have e : pe_sw 121 [(97, 119), (98, 121), (99, 121), (100, 119), (101, 121), (102, 121), (103, 119), (104, 121), (105, 121), (106, 119), (107, 121), (108, 121), (109, 119), (110, 121), (111, 121), (112, 121), (113, 121), (114, 119), (115, 119), (116, 119), (117, 121), (118, 121), (119, 121), (120, 121), (121, 119), (122, 119)] x0 = 121 := by rw [q11]; rfl
      rw [e]; exact k11 q11
    by_cases q12 : x0 = 109
    · have e : pe_sw 121 [(97, 119), (98, 121), (99, 121), (100, 119), (101, 121), (102, 121), (103, 119), (104, 121), (105, 121), (106, 119), (107, 121), (108, 121), (109, 119), (110, 121), (111, 121), (112, 121), (113, 121), (114, 119), (115, 119), (116, 119), (117, 121), (118, 121), (119, 121), (120, 121), (121, 119), (122, 119)] x0 = 119 := by rw [q12]; rfl
      rw [e]; exact k12 q12
    by_cases q13 : x0 = 110
    · have e : pe_sw 121 [(97, 119), (98, 121), (99, 121), (100, 119), (101, 121), (102, 121), (103, 119), (104, 121), (105, 121), (106, 119), (107, 121), (108, 121), (109, 119), (110, 121), (111, 121), (112, 121), (113, 121), (114, 119), (115, 119), (116, 119), (117, 121), (118, 121), (119, 121), (120, 121), (121, 119), (122, 119)] x0 = 121 := by rw [q13]; rfl
      rw [e]; exact k13 q13
    by_cases q14 : x0 = 111
    · have e : pe_sw 121 [(97, 119), (98, 121), (99, 121), (100, 119), (101, 121), (102, 121), (103, 119), (104, 121), (105, 121), (106, 119), (107, 121), (108, 121), (109, 119), (110, 121), (111, 121), (112, 121), (113, 121), (114, 119), (115, 119), (116, 119), (117, 121), (118, 121), (119, 121), (120, 121), (121, 119), (122, 119)] x0 = 121 := by rw [q14]; rfl
      rw [e]; exact k14 q14
    by_cases q15 : x0 = 112
    · have e : pe_sw 121 [(97, 119), (98, 121), (99, 121), (100, 119), (101, 121), (102, 121), (103, 119), (104, 121), (105, 121), (106, 119), (107, 121), (108, 121), (109, 119), (110, 121), (111, 121), (112, 121), (113, 121), (114, 119), (115, 119), (116, 119), (117, 121), (118, 121), (119, 121), (120, 121), (121, 119), (122, 119)] x0 = 121 := by rw [q15]; rfl
      rw [e]; exact k15 q15
    by_cases q16 : x0 = 113
    · have e : pe_sw 121 [(97, 119), (98, 121), (99, 121), (100, 119), (101, 121), (102, 121), (103, 119), (104, 121), (105, 121), (106, 119), (107, 121), (108, 121), (109, 119), (110, 121), (111, 121), (112, 121), (113, 121), (114, 119), (115, 119), (116, 119), (117, 121), (118, 121), (119, 121), (120, 121), (121, 119), (122, 119)] x0 = 121 := by rw [q16]; rfl
      rw [e]; exact k16 q16
    by_cases q17 : x0 = 114
    · have e : pe_sw 121 [(97, 119), (98, 121), (99, 121), (100, 119), (101, 121), (102, 121), (103, 119), (104, 121), (105, 121), (106, 119), (107, 121), (108, 121), (109, 119), (110, 121), (111, 121), (112, 121), (113, 121), (114, 119), (115, 119), (116, 119), (117, 121), (118, 121), (119, 121), (120, 121), (121, 119), (122, 119)] x0 = 119 := by rw [q17]; rfl
      rw [e]; exact k17 q17
    by_cases q18 : x0 = 115
    · have e : pe_sw 121 [(97, 119), (98, 121), (99, 121), (100, 119), (101, 121), (102, 121), (103, 119), (104, 121), (105, 121), (106, 119), (107, 121), (108, 121), (109, 119), (110, 121), (111, 121), (112, 121), (113, 121), (114, 119), (115, 119), (116, 119), (117, 121), (118, 121), (119, 121), (120, 121), (121, 119), (122, 119)] x0 = 119 := by rw [q18]; rfl
      rw [e]; exact k18 q18
    by_cases q19 : x0 = 116
    · have e : pe_sw 121 [(97, 119), (98, 121), (99, 121), (100, 119), (101, 121), (102, 121), (103, 119), (104, 121), (105, 121), (106, 119), (107, 121), (108, 121), (109, 119), (110, 121), (111, 121), (112, 121), (113, 121), (114, 119), (115, 119), (116, 119), (117, 121), (118, 121), (119, 121), (120, 121), (121, 119), (122, 119)] x0 = 119 := by rw [q19]; rfl
      rw [e]; exact k19 q19
    by_cases q20 : x0 = 117
    · have e : pe_sw 121 [(97, 119), (98, 121), (99, 121), (100, 119), (101, 121), (102, 121), (103, 119), (104, 121), (105, 121), (106, 119), (107, 121), (108, 121), (109, 119), (110, 121), (111, 121), (112, 121), (113, 121), (114, 119), (115, 119), (116, 119), (117, 121), (118, 121), (119, 121), (120, 121), (121, 119), (122, 119)] x0 = 121 := by rw [q20]; rfl
      rw [e]; exact k20 q20
    by_cases q21 : x0 = 118
    · have e : pe_sw 121 [(97, 119), (98, 121), (99, 121), (100, 119), (101, 121), (102, 121), (103, 119), (104, 121), (105, 121), (106, 119), (107, 121), (108, 121), (109, 119), (110, 121), (111, 121), (112, 121), (113, 121), (114, 119), (115, 119), (116, 119), (117, 121), (118, 121), (119, 121), (120, 121), (121, 119), (122, 119)] x0 = 121 := by rw [q21]; rfl
      rw [e]; exact k21 q21
    by_cases q22 : x0 = 119
    · have e : pe_sw 121 [(97, 119), (98, 121), (99, 121), (100, 119), (101, 121), (102, 121), (103, 119), (104, 121), (105, 121), (106, 119), (107, 121), (108, 121), (109, 119), (110, 121), (111, 121), (112, 121), (113, 121), (114, 119), (115, 119), (116, 119), (117, 121), (118, 121), (119, 121), (120, 121), (121, 119), (122, 119)] x0 = 121 := by rw [q22]; rfl
      rw [e]; exact k22 q22
    by_cases q23 : x0 = 120
    · have e : pe_sw 121 [(97, 119), (98, 121), (99, 121), (100, 119), (101, 121), (102, 121), (103, 119), (104, 121), (105, 121), (106, 119), (107, 121), (108, 121), (109, 119), (110, 121), (111, 121), (112, 121), (113, 121), (114, 119), (115, 119), (116, 119), (117, 121), (118, 121), (119, 121), (120, 121), (121, 119), (122, 119)] x0 = 121 := by rw [q23]; rfl
      rw [e]; exact k23 q23
    by_cases q24 : x0 = 121
    · have e : pe_sw 121 [(97, 119), (98, 121), (99, 121), (100, 119), (101, 121), (102, 121), (103, 119), (104, 121), (105, 121), (106, 119), (107, 121), (108, 121), (109, 119), (110, 121), (111, 121), (112, 121), (113, 121), (114, 119), (115, 119), (116, 119), (117, 121), (118, 121), (119, 121), (120, 121), (121, 119), (122, 119)] x0 = 119 := by rw [q24]; rfl
      rw [e]; exact k24 q24
    by_cases q25 : x0 = 122
    · have e : pe_sw 121 [(97, 119), (98, 121), (99, 121), (100, 119), (101, 121), (102, 121), (103, 119), (104, 121), (105, 121), (106, 119), (107, 121), (108, 121), (109, 119), (110, 121), (111, 121), (112, 121), (113, 121), (114, 119), (115, 119), (116, 119), (117, 121), (118, 121), (119, 121), (120, 121), (121, 119), (122, 119)] x0 = 119 := by rw [q25]; rfl
      rw [e]; exact k25 q25
    have e : pe_sw 121 [(97, 119), (98, 121), (99, 121), (100, 119), (101, 121), (102, 121), (103, 119), (104, 121), (105, 121), (106, 119), (107, 121), (108, 121), (109, 119), (110, 121), (111, 121), (112, 121), (113, 121), (114, 119), (115, 119), (116, 119), (117, 121), (118, 121), (119, 121), (120, 121), (121, 119), (122, 119)] x0 = 121 := by simp only [pe_sw, if_neg q0, if_neg q1, if_neg q2, if_neg q3, if_neg q4, if_neg q5, if_neg q6, if_neg q7, if_neg q8, if_neg q9, if_neg q10, if_neg q11, if_neg q12, if_neg q13, if_neg q14, if_neg q15, if_neg q16, if_neg q17, if_neg q18, if_neg q19, if_neg q20, if_neg q21, if_neg q22, if_neg q23, if_neg q24, if_neg q25]
    rw [e]; exact kd q0 q1 q2 q3 q4 q5 q6 q7 q8 q9 q10 q11 q12 q13 q14 q15 q16 q17 q18 q19 q20 q21 q22 q23 q24 q25
theorem b70_120 {d : Nat} {Φ : Option pe_V → pe_H → Prop} {σ : pe_H} {o0 : Option pe_V}    (k : Φ (some (.inl 1)) σ) : pe_X d 70 (120, [o0], [], σ) Φ := by
  refine pe_blk 2 1 ck70 [] (121, [o0], [.inl 1], σ) rfl ?_ ?_
  · exact trivial
  · exact pe_fine 3 ck70 rfl rfl rfl (Or.inr rfl) k
theorem b70_122 {d : Nat} {Φ : Option pe_V → pe_H → Prop} {σ : pe_H} {o0 : Option pe_V}    (k : Φ (some (.inl 0)) σ) : pe_X d 70 (122, [o0], [], σ) Φ := by
  refine pe_blk 4 1 ck70 [] (123, [o0], [.inl 0], σ) rfl ?_ ?_
  · exact trivial
  · exact pe_fine 5 ck70 rfl rfl rfl (Or.inl rfl) k
-- StepMachines$Text.behindStatement(I)I
def T71 : List (Nat × Instr × Nat) := [(0, .iload_n 1, 1), (1, .istore_n 2, 1), (2, .iload_n 2, 1), (3, .aload_n 0, 1), (4, .getfield 15, 3), (7, .invokevirtual 19, 3), (10, .if_icmp .ge 22, 3), (13, .aload_n 0, 1), (14, .getfield 15, 3), (17, .iload_n 2, 1), (18, .invokevirtual 32, 3), (21, .bipush 59, 2), (23, .if_icmp .eq 9, 3), (26, .iinc 2 1, 3), (29, .goto (-27), 3), (32, .iload_n 2, 1), (33, .iconst 1, 1), (34, .iadd, 1), (35, .ireturn, 1)]
theorem ck71 : pe_ctx 71 7 false (some .int) 3 T71 := ⟨rfl, rfl, rfl, rfl, by decide +kernel, by decide, by decide⟩
theorem b71_0 {d : Nat} {Φ : Option pe_V → pe_H → Prop} {σ : pe_H} {a0 : Nat} {x1 : Int} {o2 : Option pe_V}    (k : pe_X d 71 (2, [some (.inr (.inr a0)), some (.inl x1), some (.inl x1)], [], σ) Φ) : pe_X d 71 (0, [some (.inr (.inr a0)), some (.inl x1), o2], [], σ) Φ := by
  refine pe_blk 0 2 ck71 [] (2, [some (.inr (.inr a0)), some (.inl x1), some (.inl x1)], [], σ) rfl ?_ ?_
  · exact trivial
  · exact k
theorem b71_2 {d : Nat} {Φ : Option pe_V → pe_H → Prop} {σ : pe_H} {a0 : Nat} {o1 : Option pe_V} {x2 : Int}   (h0 : pe_K σ a0 = 7 := by first | assumption | omega) (h1 : pe_K σ (pe_R σ a0 0) = 6 := by first | assumption | omega) (k : pe_M d 57 [.inr (.inr (pe_R σ a0 0))] σ (fun r σ' => pe_X d 71 (10, [some (.inr (.inr a0)), o1, some (.inl x2)], r.toList ++ [.inl x2], σ') Φ)) : pe_X d 71 (2, [some (.inr (.inr a0)), o1, some (.inl x2)], [], σ) Φ := by
  refine pe_blk 2 3 ck71 [pe_K σ a0 = 7] (7, [some (.inr (.inr a0)), o1, some (.inl x2)], [.inr (.inr (pe_R σ a0 0)), .inl x2], σ) rfl ?_ ?_
  · first
    | (simp (disch := omega) only [pe_all, pe_K_wI, pe_K_wR]; done)
    | (simp (disch := omega) only [pe_all, pe_K_wI, pe_K_wR]; (repeat' apply And.intro) <;> first | assumption | omega | decide)
  · try simp (disch := omega) only [pe_K_wI, pe_K_wR]
    have hrc : pe_K σ (pe_R σ a0 0) = 6 := by first | assumption | (simp (disch := omega) only [pe_K_wI, pe_K_wR]; done) | (simp (disch := omega) only [pe_K_wI, pe_K_wR]; assumption)
    exact pe_cal 5 ck71 rfl rfl rfl ⟨hrc, by decide⟩ k
theorem b71_10 {d : Nat} {Φ : Option pe_V → pe_H → Prop} {σ : pe_H} {a0 : Nat} {o1 : Option pe_V} {x2 : Int} {s0 : Int} {s1 : Int}  (w0 : pe_in s1 := by unfold pe_in; omega) (w1 : pe_in s0 := by unfold pe_in; omega)  (k1 : s1 ≤ s0 → pe_X d 71 (32, [some (.inr (.inr a0)), o1, some (.inl x2)], [], σ) Φ) (k2 : ¬ (s1 ≤ s0) → pe_X d 71 (13, [some (.inr (.inr a0)), o1, some (.inl x2)], [], σ) Φ) : pe_X d 71 (10, [some (.inr (.inr a0)), o1, some (.inl x2)], [.inl s1, .inl s0], σ) Φ := by
  refine pe_blk 6 1 ck71 [] (cond (decide ((pe_w s1) ≤ (pe_w s0))) 32 13, [some (.inr (.inr a0)), o1, some (.inl x2)], [], σ) rfl ?_ ?_
  · exact trivial
  · try simp (disch := omega) only [pe_wi w0, pe_wi w1]
    exact pe_two k1 k2
theorem b71_13 {d : Nat} {Φ : Option pe_V → pe_H → Prop} {σ : pe_H} {a0 : Nat} {o1 : Option pe_V} {x2 : Int}   (h0 : pe_K σ a0 = 7 := by first | assumption | omega) (h1 : pe_K σ (pe_R σ a0 0) = 6 := by first | assumption | omega) (k : pe_M d 60 [.inr (.inr (pe_R σ a0 0)), .inl x2] σ (fun r σ' => pe_X d 71 (21, [some (.inr (.inr a0)), o1, some (.inl x2)], r.toList ++ [], σ') Φ)) : pe_X d 71 (13, [some (.inr (.inr a0)), o1, some (.inl x2)], [], σ) Φ := by
  refine pe_blk 7 3 ck71 [pe_K σ a0 = 7] (18, [some (.inr (.inr a0)), o1, some (.inl x2)], [.inl x2, .inr (.inr (pe_R σ a0 0))], σ) rfl ?_ ?_
  · first
    | (simp (disch := omega) only [pe_all, pe_K_wI, pe_K_wR]; done)
    | (simp (disch := omega) only [pe_all, pe_K_wI, pe_K_wR]; (repeat' apply And.intro) <;> first | assumption | omega | decide)
  · try simp (disch := omega) only [pe_K_wI, pe_K_wR]
    have hrc : pe_K σ (pe_R σ a0 0) = 6 := by first | assumption | (simp (disch := omega) only [pe_K_wI, pe_K_wR]; done) | (simp (disch := omega) only [pe_K_wI, pe_K_wR]; assumption)
    exact pe_cal 10 ck71 rfl rfl rfl ⟨hrc, by decide⟩ k
theorem b71_21 {d : Nat} {Φ : Option pe_V → pe_H → Prop} {σ : pe_H} {a0 : Nat} {o1 : Option pe_V} {x2 : Int} {s0 : Int}  (w0 : pe_in s0 := by unfold pe_in; omega)  (k1 : s0 = 59 → pe_X d 71 (32, [some (.inr (.inr a0)), o1, some (.inl x2)], [], σ) Φ) (k2 : ¬ (s0 = 59) → pe_X d 71 (26, [some (.inr (.inr a0)), o1, some (.inl x2)], [], σ) Φ) : pe_X d 71 (21, [some (.inr (.inr a0)), o1, some (.inl x2)], [.inl s0], σ) Φ := by
  refine pe_blk 11 2 ck71 [] (cond (decide ((pe_w s0) = (pe_w 59))) 32 26, [some (.inr (.inr a0)), o1, some (.inl x2)], [], σ) rfl ?_ ?_
  · exact trivial
  · try simp (disch := omega) only [pe_wi w0, pe_wi (x := 59) ⟨by decide, by decide⟩]
    exact pe_two k1 k2
theorem b71_26 {d : Nat} {Φ : Option pe_V → pe_H → Prop} {σ : pe_H} {a0 : Nat} {o1 : Option pe_V} {x2 : Int}    (k : pe_X d 71 (2, [some (.inr (.inr a0)), pe_nl o1, some (.inl (x2 + 1))], [], σ) Φ) : pe_X d 71 (26, [some (.inr (.inr a0)), o1, some (.inl x2)], [], σ) Φ := by
  refine pe_blk 13 2 ck71 [] (2, [some (.inr (.inr a0)), pe_nl o1, some (.inl (x2 + 1))], [], σ) rfl ?_ ?_
  · exact trivial
  · exact k
theorem b71_32 {d : Nat} {Φ : Option pe_V → pe_H → Prop} {σ : pe_H} {o0 : Option pe_V} {o1 : Option pe_V} {x2 : Int}    (k : Φ (some (.inl (x2 + 1))) σ) : pe_X d 71 (32, [o0, o1, some (.inl x2)], [], σ) Φ := by
  refine pe_blk 15 3 ck71 [] (35, [o0, o1, some (.inl x2)], [.inl (x2 + 1)], σ) rfl ?_ ?_
  · exact trivial
  · exact pe_fine 18 ck71 rfl rfl rfl trivial k
-- StepMachines$Text.digit(I)I
def T72 : List (Nat × Instr × Nat) := [(0, .aload_n 0, 1), (1, .getfield 15, 3), (4, .iload_n 1, 1), (5, .invokevirtual 32, 3), (8, .bipush 48, 2), (10, .isub, 1), (11, .ireturn, 1)]
theorem ck72 : pe_ctx 72 7 false (some .int) 2 T72 := ⟨rfl, rfl, rfl, rfl, by decide +kernel, by decide, by decide⟩
theorem b72_0 {d : Nat} {Φ : Option pe_V → pe_H → Prop} {σ : pe_H} {a0 : Nat} {x1 : Int}   (h0 : pe_K σ a0 = 7 := by first | assumption | omega) (h1 : pe_K σ (pe_R σ a0 0) = 6 := by first | assumption | omega) (k : pe_M d 60 [.inr (.inr (pe_R σ a0 0)), .inl x1] σ (fun r σ' => pe_X d 72 (8, [some (.inr (.inr a0)), some (.inl x1)], r.toList ++ [], σ') Φ)) : pe_X d 72 (0, [some (.inr (.inr a0)), some (.inl x1)], [], σ) Φ := by
  refine pe_blk 0 3 ck72 [pe_K σ a0 = 7] (5, [some (.inr (.inr a0)), some (.inl x1)], [.inl x1, .inr (.inr (pe_R σ a0 0))], σ) rfl ?_ ?_
  · first
    | (simp (disch := omega) only [pe_all, pe_K_wI, pe_K_wR]; done)
    | (simp (disch := omega) only [pe_all, pe_K_wI, pe_K_wR]; (repeat' apply And.intro) <;> first | assumption | omega | decide)
  · try simp (disch := omega) only [pe_K_wI, pe_K_wR]
    have hrc : pe_K σ (pe_R σ a0 0) = 6 := by first | assumption | (simp (disch := omega) only [pe_K_wI, pe_K_wR]; done) | (simp (disch := omega) only [pe_K_wI, pe_K_wR]; assumption)
    exact pe_cal 3 ck72 rfl rfl rfl ⟨hrc, by decide⟩ k
theorem b72_8 {d : Nat} {Φ : Option pe_V → pe_H → Prop} {σ : pe_H} {o0 : Option pe_V} {o1 : Option pe_V} {s0 : Int}    (k : Φ (some (.inl (s0 - 48))) σ) : pe_X d 72 (8, [o0, o1], [.inl s0], σ) Φ := by
  refine pe_blk 4 2 ck72 [] (11, [o0, o1], [.inl (s0 - 48)], σ) rfl ?_ ?_
  · exact trivial
  · exact pe_fine 6 ck72 rfl rfl rfl trivial k
-- StepMachines$Text.twoDigits(I)I
def T73 : List (Nat × Instr × Nat) := [(0, .bipush 10, 2), (2, .aload_n 0, 1), (3, .iload_n 1, 1), (4, .invokevirtual 49, 3), (7, .imul, 1), (8, .aload_n 0, 1), (9, .iload_n 1, 1), (10, .iconst 1, 1), (11, .iadd, 1), (12, .invokevirtual 49, 3), (15, .iadd, 1), (16, .ireturn, 1)]
theorem ck73 : pe_ctx 73 7 false (some .int) 2 T73 := ⟨rfl, rfl, rfl, rfl, by decide +kernel, by decide, by decide⟩
theorem b73_0 {d : Nat} {Φ : Option pe_V → pe_H → Prop} {σ : pe_H} {a0 : Nat} {x1 : Int}   (h0 : pe_K σ a0 = 7 := by first | assumption | omega) (k : pe_M d 72 [.inr (.inr a0), .inl x1] σ (fun r σ' => pe_X d 73 (7, [some (.inr (.inr a0)), some (.inl x1)], r.toList ++ [.inl 10], σ') Φ)) : pe_X d 73 (0, [some (.inr (.inr a0)), some (.inl x1)], [], σ) Φ := by
  refine pe_blk 0 3 ck73 [] (4, [some (.inr (.inr a0)), some (.inl x1)], [.inl x1, .inr (.inr a0), .inl 10], σ) rfl ?_ ?_
  · exact trivial
  · try simp (disch := omega) only [pe_K_wI, pe_K_wR]
    have hrc : pe_K σ a0 = 7 := by first | assumption | (simp (disch := omega) only [pe_K_wI, pe_K_wR]; done) | (simp (disch := omega) only [pe_K_wI, pe_K_wR]; assumption)
    exact pe_cal 3 ck73 rfl rfl rfl ⟨hrc, by decide⟩ k
theorem b73_7 {d : Nat} {Φ : Option pe_V → pe_H → Prop} {σ : pe_H} {a0 : Nat} {x1 : Int} {s0 : Int} {s1 : Int}   (h0 : pe_K σ a0 = 7 := by first | assumption | omega) (k : pe_M d 72 [.inr (.inr a0), .inl (x1 + 1)] σ (fun r σ' => pe_X d 73 (15, [some (.inr (.inr a0)), some (.inl x1)], r.toList ++ [.inl (s0 * s1)], σ') Φ)) : pe_X d 73 (7, [some (.inr (.inr a0)), some (.inl x1)], [.inl s1, .inl s0], σ) Φ := by
  refine pe_blk 4 5 ck73 [] (12, [some (.inr (.inr a0)), some (.inl x1)], [.inl (x1 + 1), .inr (.inr a0), .inl (s0 * s1)], σ) rfl ?_ ?_
  · exact trivial
  · try simp (disch := omega) only [pe_K_wI, pe_K_wR]
    have hrc : pe_K σ a0 = 7 := by first | assumption | (simp (disch := omega) only [pe_K_wI, pe_K_wR]; done) | (simp (disch := omega) only [pe_K_wI, pe_K_wR]; assumption)
    exact pe_cal 9 ck73 rfl rfl rfl ⟨hrc, by decide⟩ k
theorem b73_15 {d : Nat} {Φ : Option pe_V → pe_H → Prop} {σ : pe_H} {o0 : Option pe_V} {o1 : Option pe_V} {s0 : Int} {s1 : Int}    (k : Φ (some (.inl (s0 + s1))) σ) : pe_X d 73 (15, [o0, o1], [.inl s1, .inl s0], σ) Φ := by
  refine pe_blk 10 1 ck73 [] (16, [o0, o1], [.inl (s0 + s1)], σ) rfl ?_ ?_
  · exact trivial
  · exact pe_fine 11 ck73 rfl rfl rfl trivial k
-- StepMachines$Text.isDone(ILStepMachines$Machine;)Z
def T74 : List (Nat × Instr × Nat) := [(0, .aload_n 0, 1), (1, .iload_n 1, 1), (2, .iconst 1, 1), (3, .iadd, 1), (4, .invokevirtual 49, 3), (7, .istore_n 3, 1), (8, .aload_n 0, 1), (9, .getfield 15, 3), (12, .iload_n 1, 1), (13, .invokevirtual 32, 3), (16, .lookupswitch 151 #[(99, 59), (110, 66), (112, 52), (119, 131), (120, 102)], 52), (68, .aload_n 0, 1), (69, .iload_n 1, 1), (70, .aload_n 2, 1), (71, .invokevirtual 52, 3), (74, .ireturn, 1), (75, .aload_n 0, 1), (76, .iload_n 1, 1), (77, .aload_n 2, 1), (78, .invokevirtual 56, 3), (81, .ireturn, 1), (82, .iload_n 3, 1), (83, .aload_n 2, 1), (84, .getfield 59, 3), (87, .if_icmp .ge 15, 3), (90, .aload_n 2, 1), (91, .getfield 65, 3), (94, .iload_n 3, 1), (95, .aaload, 1), (96, .invokevirtual 69, 3), (99, .ifCond .ne 5, 3), (102, .iconst 0, 1), (103, .ireturn, 1), (104, .aload_n 2, 1), (105, .iload_n 3, 1), (106, .aload_n 0, 1), (107, .iload_n 1, 1), (108, .iconst 2, 1), (109, .iadd, 1), (110, .invokevirtual 75, 3), (113, .invokevirtual 78, 3), (116, .iconst 1, 1), (117, .ireturn, 1), (118, .iload_n 3, 1), (119, .aload_n 2, 1), (120, .getfield 59, 3), (123, .if_icmp .ge 15, 3), (126, .aload_n 2, 1), (127, .getfield 65, 3), (130, .iload_n 3, 1), (131, .aaload, 1), (132, .invokevirtual 82, 3), (135, .ifCond .eq 5, 3), (138, .iconst 0, 1), (139, .ireturn, 1), (140, .aload_n 2, 1), (141, .iload_n 3, 1), (142, .invokevirtual 85, 3), (145, .iconst 1, 1), (146, .ireturn, 1), (147, .iload_n 3, 1), (148, .iconst 1, 1), (149, .if_icmp .lt 9, 3), (152, .iload_n 3, 1), (153, .bipush 8, 2), (155, .if_icmp .le 5, 3), (158, .iconst 0, 1), (159, .ireturn, 1), (160, .aload_n 2, 1), (161, .iload_n 3, 1), (162, .putfield 89, 3), (165, .iconst 1, 1), (166, .ireturn, 1), (167, .aload_n 0, 1), (168, .aload_n 0, 1), (169, .iload_n 1, 1), (170, .iconst 1, 1), (171, .iadd, 1), (172, .invokevirtual 75, 3), (175, .aload_n 2, 1), (176, .invokevirtual 92, 3), (179, .ireturn, 1)]
theorem ck74 : pe_ctx 74 7 false (some .boolean) 4 T74 := ⟨rfl, rfl, rfl, rfl, by decide +kernel, by decide, by decide⟩
theorem b74_0 {d : Nat} {Φ : Option pe_V → pe_H → Prop} {σ : pe_H} {a0 : Nat} {x1 : Int} {a2 : Nat} {o3 : Option pe_V} (f_a2 : pk_Fm a2 σ := by assumption)  (h0 : pe_K σ a0 = 7 := by first | assumption | omega) (k : pe_M d 72 [.inr (.inr a0), .inl (x1 + 1)] σ (fun r σ' => pe_X d 74 (7, [some (.inr (.inr a0)), some (.inl x1), some (.inr (.inr a2)), o3], r.toList ++ [], σ') Φ)) : pe_X d 74 (0, [some (.inr (.inr a0)), some (.inl x1), some (.inr (.inr a2)), o3], [], σ) Φ := by
  refine pe_blk 0 4 ck74 [] (4, [some (.inr (.inr a0)), some (.inl x1), some (.inr (.inr a2)), o3], [.inl (x1 + 1), .inr (.inr a0)], σ) rfl ?_ ?_
  · exact trivial
  · try simp (disch := omega) only [pe_K_wI, pe_K_wR]
    have hrc : pe_K σ a0 = 7 := by first | assumption | (simp (disch := omega) only [pe_K_wI, pe_K_wR]; done) | (simp (disch := omega) only [pe_K_wI, pe_K_wR]; assumption)
    exact pe_cal 4 ck74 rfl rfl rfl ⟨hrc, by decide⟩ k
theorem b74_7 {d : Nat} {Φ : Option pe_V → pe_H → Prop} {σ : pe_H} {a0 : Nat} {x1 : Int} {a2 : Nat} {o3 : Option pe_V} {s0 : Int} (f_a2 : pk_Fm a2 σ := by assumption)  (h0 : pe_K σ a0 = 7 := by first | assumption | omega) (h1 : pe_K σ (pe_R σ a0 0) = 6 := by first | assumption | omega) (k : pe_M d 60 [.inr (.inr (pe_R σ a0 0)), .inl x1] σ (fun r σ' => pe_X d 74 (16, [some (.inr (.inr a0)), some (.inl x1), some (.inr (.inr a2)), some (.inl s0)], r.toList ++ [], σ') Φ)) : pe_X d 74 (7, [some (.inr (.inr a0)), some (.inl x1), some (.inr (.inr a2)), o3], [.inl s0], σ) Φ := by
  refine pe_blk 5 4 ck74 [pe_K σ a0 = 7] (13, [some (.inr (.inr a0)), some (.inl x1), some (.inr (.inr a2)), some (.inl s0)], [.inl x1, .inr (.inr (pe_R σ a0 0))], σ) rfl ?_ ?_
  · first
    | (simp (disch := omega) only [pe_all, pe_K_wI, pe_K_wR]; done)
    | (simp (disch := omega) only [pe_all, pe_K_wI, pe_K_wR]; (repeat' apply And.intro) <;> first | assumption | omega | decide)
  · try simp (disch := omega) only [pe_K_wI, pe_K_wR]
    have hrc : pe_K σ (pe_R σ a0 0) = 6 := by first | assumption | (simp (disch := omega) only [pe_K_wI, pe_K_wR]; done) | (simp (disch := omega) only [pe_K_wI, pe_K_wR]; assumption)
    exact pe_cal 9 ck74 rfl rfl rfl ⟨hrc, by decide⟩ k
theorem b74_16 {d : Nat} {Φ : Option pe_V → pe_H → Prop} {σ : pe_H} {a0 : Nat} {x1 : Int} {a2 : Nat} {x3 : Int} {s0 : Int} (f_a2 : pk_Fm a2 σ := by assumption) (w0 : pe_in s0 := by unfold pe_in; omega)  (k0 : s0 = 99 → pe_X d 74 (75, [some (.inr (.inr a0)), some (.inl x1), some (.inr (.inr a2)), some (.inl x3)], [], σ) Φ) (k1 : s0 = 110 → pe_X d 74 (82, [some (.inr (.inr a0)), some (.inl x1), some (.inr (.inr a2)), some (.inl x3)], [], σ) Φ) (k2 : s0 = 112 → pe_X d 74 (68, [some (.inr (.inr a0)), some (.inl x1), some (.inr (.inr a2)), some (.inl x3)], [], σ) Φ) (k3 : s0 = 119 → pe_X d 74 (147, [some (.inr (.inr a0)), some (.inl x1), some (.inr (.inr a2)), some (.inl x3)], [], σ) Φ) (k4 : s0 = 120 → pe_X d 74 (118, [some (.inr (.inr a0)), some (.inl x1), some (.inr (.inr a2)), some (.inl x3)], [], σ) Φ) (kd : ¬ s0 = 99 → ¬ s0 = 110 → ¬ s0 = 112 → ¬ s0 = 119 → ¬ s0 = 120 → pe_X d 74 (167, [some (.inr (.inr a0)), some (.inl x1), some (.inr (.inr a2)), some (.inl x3)], [], σ) Φ) : pe_X d 74 (16, [some (.inr (.inr a0)), some (.inl x1), some (.inr (.inr a2)), some (.inl x3)], [.inl s0], σ) Φ := by
  refine pe_blk 10 1 ck74 [] ((((16 : Nat) : Int) + pe_sw 151 [(99, 59), (110, 66), (112, 52), (119, 131), (120, 102)] (pe_w s0)).toNat, [some (.inr (.inr a0)), some (.inl x1), some (.inr (.inr a2)), some (.inl x3)], [], σ) rfl ?_ ?_
  · exact trivial
  · try simp (disch := omega) only [pe_wi w0]
    by_cases q0 : s0 = 99
    · have e : pe_sw 151 [(99, 59), (110, 66), (112, 52), (119, 131), (120, 102)] s0 = 59 := by rw [q0]; rfl
      rw [e]; exact k0 q0
    by_cases q1 : s0 = 110
    · have e : pe_sw 151 [(99, 59), (110, 66), (112, 52), (119, 131), (120, 102)] s0 = 66 := by rw [q1]; rfl
      rw [e]; exact k1 q1
    by_cases q2 : s0 = 112
    · have e : pe_sw 151 [(99, 59), (110, 66), (112, 52), (119, 131), (120, 102)] s0 = 52 := by rw [q2]; rfl
      rw [e]; exact k2 q2
    by_cases q3 : s0 = 119
    · have e : pe_sw 151 [(99, 59), (110, 66), (112, 52), (119, 131), (120, 102)] s0 = 131 := by rw [q3]; rfl
      rw [e]; exact k3 q3
    by_cases q4 : s0 = 120
    · have e : pe_sw 151 [(99, 59), (110, 66), (112, 52), (119, 131), (120, 102)] s0 = 102 := by rw [q4]; rfl
      rw [e]; exact k4 q4
    have e : pe_sw 151 [(99, 59), (110, 66), (112, 52), (119, 131), (120, 102)] s0 = 151 := by simp only [pe_sw, if_neg q0, if_neg q1, if_neg q2, if_neg q3, if_neg q4]
    rw [e]; exact kd q0 q1 q2 q3 q4
theorem b74_68 {d : Nat} {Φ : Option pe_V → pe_H → Prop} {σ : pe_H} {a0 : Nat} {x1 : Int} {a2 : Nat} {o3 : Option pe_V} (f_a2 : pk_Fm a2 σ := by assumption)  (h0 : pe_K σ a0 = 7 := by first | assumption | omega) (k : pe_M d 75 [.inr (.inr a0), .inl x1, .inr (.inr a2)] σ (fun r σ' => pe_X d 74 (74, [some (.inr (.inr a0)), some (.inl x1), some (.inr (.inr a2)), o3], r.toList ++ [], σ') Φ)) : pe_X d 74 (68, [some (.inr (.inr a0)), some (.inl x1), some (.inr (.inr a2)), o3], [], σ) Φ := by
  refine pe_blk 11 3 ck74 [] (71, [some (.inr (.inr a0)), some (.inl x1), some (.inr (.inr a2)), o3], [.inr (.inr a2), .inl x1, .inr (.inr a0)], σ) rfl ?_ ?_
  · exact trivial
  · try simp (disch := omega) only [pe_K_wI, pe_K_wR]
    have hrc : pe_K σ a0 = 7 := by first | assumption | (simp (disch := omega) only [pe_K_wI, pe_K_wR]; done) | (simp (disch := omega) only [pe_K_wI, pe_K_wR]; assumption)
    exact pe_cal 14 ck74 rfl rfl rfl ⟨hrc, by decide⟩ k
theorem b74_74 {d : Nat} {Φ : Option pe_V → pe_H → Prop} {σ : pe_H} {o0 : Option pe_V} {o1 : Option pe_V} {o2 : Option pe_V} {o3 : Option pe_V} {s0 : Int}   (h0 : s0 = 0 ∨ s0 = 1 := by first | assumption | omega) (k : Φ (some (.inl s0)) σ) : pe_X d 74 (74, [o0, o1, o2, o3], [.inl s0], σ) Φ := by
  exact pe_fine 15 ck74 rfl rfl rfl h0 k
theorem b74_75 {d : Nat} {Φ : Option pe_V → pe_H → Prop} {σ : pe_H} {a0 : Nat} {x1 : Int} {a2 : Nat} {o3 : Option pe_V} (f_a2 : pk_Fm a2 σ := by assumption)  (h0 : pe_K σ a0 = 7 := by first | assumption | omega) (k : pe_M d 77 [.inr (.inr a0), .inl x1, .inr (.inr a2)] σ (fun r σ' => pe_X d 74 (81, [some (.inr (.inr a0)), some (.inl x1), some (.inr (.inr a2)), o3], r.toList ++ [], σ') Φ)) : pe_X d 74 (75, [some (.inr (.inr a0)), some (.inl x1), some (.inr (.inr a2)), o3], [], σ) Φ := by
  refine pe_blk 16 3 ck74 [] (78, [some (.inr (.inr a0)), some (.inl x1), some (.inr (.inr a2)), o3], [.inr (.inr a2), .inl x1, .inr (.inr a0)], σ) rfl ?_ ?_
  · exact trivial
  · try simp (disch := omega) only [pe_K_wI, pe_K_wR]
    have hrc : pe_K σ a0 = 7 := by first | assumption | (simp (disch := omega) only [pe_K_wI, pe_K_wR]; done) | (simp (disch := omega) only [pe_K_wI, pe_K_wR]; assumption)
    exact pe_cal 19 ck74 rfl rfl rfl ⟨hrc, by decide⟩ k
theorem b74_81 {d : Nat} {Φ : Option pe_V → pe_H → Prop} {σ : pe_H} {o0 : Option pe_V} {o1 : Option pe_V} {o2 : Option pe_V} {o3 : Option pe_V} {s0 : Int}   (h0 : s0 = 0 ∨ s0 = 1 := by first | assumption | omega) (k : Φ (some (.inl s0)) σ) : pe_X d 74 (81, [o0, o1, o2, o3], [.inl s0], σ) Φ := by
  exact pe_fine 20 ck74 rfl rfl rfl h0 k
theorem b74_82 {d : Nat} {Φ : Option pe_V → pe_H → Prop} {σ : pe_H} {a0 : Nat} {x1 : Int} {a2 : Nat} {x3 : Int} (f_a2 : pk_Fm a2 σ := by assumption) (w0 : pe_in (pe_I σ a2 4) := by unfold pe_in; omega) (w1 : pe_in x3 := by unfold pe_in; omega)  (k1 : (pe_I σ a2 4) ≤ x3 → pe_X d 74 (102, [some (.inr (.inr a0)), some (.inl x1), some (.inr (.inr a2)), some (.inl x3)], [], σ) Φ) (k2 : ¬ ((pe_I σ a2 4) ≤ x3) → pe_X d 74 (90, [some (.inr (.inr a0)), some (.inl x1), some (.inr (.inr a2)), some (.inl x3)], [], σ) Φ) : pe_X d 74 (82, [some (.inr (.inr a0)), some (.inl x1), some (.inr (.inr a2)), some (.inl x3)], [], σ) Φ := by
  refine pe_blk 21 4 ck74 [pe_K σ a2 = 2] (cond (decide ((pe_w (pe_I σ a2 4)) ≤ (pe_w x3))) 102 90, [some (.inr (.inr a0)), some (.inl x1), some (.inr (.inr a2)), some (.inl x3)], [], σ) rfl ?_ ?_
  · first
    | (simp (disch := omega) only [pe_all, pe_wi w0, pe_wi w1, pe_K_wI, pe_K_wR, pk_mK f_a2]; done)
    | (simp (disch := omega) only [pe_all, pe_wi w0, pe_wi w1, pe_K_wI, pe_K_wR, pk_mK f_a2]; (repeat' apply And.intro) <;> first | assumption | omega | decide)
  · try simp (disch := omega) only [pe_wi w0, pe_wi w1, pe_K_wI, pe_K_wR, pk_mK f_a2]
    exact pe_two k1 k2
theorem b74_90 {d : Nat} {Φ : Option pe_V → pe_H → Prop} {σ : pe_H} {a0 : Nat} {x1 : Int} {a2 : Nat} {x3 : Int} (f_a2 : pk_Fm a2 σ := by assumption) (w0 : pe_in x3 := by unfold pe_in; omega) (h0 : 0 ≤ x3 := by first | assumption | omega) (h1 : x3 < 8 := by first | assumption | omega) (k : pe_M d 4 [.inr (.inr (pk_c a2 x3))] σ (fun r σ' => pe_X d 74 (99, [some (.inr (.inr a0)), some (.inl x1), some (.inr (.inr a2)), some (.inl x3)], r.toList ++ [], σ') Φ)) : pe_X d 74 (90, [some (.inr (.inr a0)), some (.inl x1), some (.inr (.inr a2)), some (.inl x3)], [], σ) Φ := by
  refine pe_blk 25 4 ck74 [pe_K σ a2 = 2, 12 ≤ pe_K σ (pe_R σ a2 1) ∧ pe_K σ (pe_R σ a2 1) < 19, 0 ≤ (pe_w x3), (pe_w x3) < pe_L σ (pe_R σ a2 1)] (96, [some (.inr (.inr a0)), some (.inl x1), some (.inr (.inr a2)), some (.inl x3)], [.inr (.inr (pe_R σ (pe_R σ a2 1) (pe_w x3)))], σ) rfl ?_ ?_
  · first
    | (simp (disch := omega) only [pe_all, pe_wi w0, pe_K_wI, pe_K_wR, pe_L_wI, pe_L_wR, pe_R_nej, pe_R_ner, pe_R_wI, pk_mE2 f_a2 (i := x3) (by omega) (by omega), pk_mK f_a2, pk_mK2 f_a2, pk_mL2 f_a2, pk_mR2 f_a2, pk_oK (pk_mO f_a2 (i := x3) (by omega) (by omega))]; done)
    | (simp (disch := omega) only [pe_all, pe_wi w0, pe_K_wI, pe_K_wR, pe_L_wI, pe_L_wR, pe_R_nej, pe_R_ner, pe_R_wI, pk_mE2 f_a2 (i := x3) (by omega) (by omega), pk_mK f_a2, pk_mK2 f_a2, pk_mL2 f_a2, pk_mR2 f_a2, pk_oK (pk_mO f_a2 (i := x3) (by omega) (by omega))]; (repeat' apply And.intro) <;> first | assumption | omega | decide)
  · try simp (disch := omega) only [pe_wi w0, pe_K_wI, pe_K_wR, pe_L_wI, pe_L_wR, pe_R_nej, pe_R_ner, pe_R_wI, pk_mE2 f_a2 (i := x3) (by omega) (by omega), pk_mK f_a2, pk_mK2 f_a2, pk_mL2 f_a2, pk_mR2 f_a2, pk_oK (pk_mO f_a2 (i := x3) (by omega) (by omega))]
    have hrc : pe_K σ (pk_c a2 x3) = 0 := by first | assumption | (simp (disch := omega) only [pe_wi w0, pe_K_wI, pe_K_wR, pe_L_wI, pe_L_wR, pe_R_nej, pe_R_ner, pe_R_wI, pk_mE2 f_a2 (i := x3) (by omega) (by omega), pk_mK f_a2, pk_mK2 f_a2, pk_mL2 f_a2, pk_mR2 f_a2, pk_oK (pk_mO f_a2 (i := x3) (by omega) (by omega))]; done) | (simp (disch := omega) only [pe_wi w0, pe_K_wI, pe_K_wR, pe_L_wI, pe_L_wR, pe_R_nej, pe_R_ner, pe_R_wI, pk_mE2 f_a2 (i := x3) (by omega) (by omega), pk_mK f_a2, pk_mK2 f_a2, pk_mL2 f_a2, pk_mR2 f_a2, pk_oK (pk_mO f_a2 (i := x3) (by omega) (by omega))]; assumption)
    exact pe_cal 29 ck74 rfl rfl rfl ⟨hrc, by decide⟩ k
theorem b74_99 {d : Nat} {Φ : Option pe_V → pe_H → Prop} {σ : pe_H} {a0 : Nat} {x1 : Int} {a2 : Nat} {x3 : Int} {s0 : Int} (f_a2 : pk_Fm a2 σ := by assumption) (w0 : pe_in s0 := by unfold pe_in; omega)  (k1 : ¬ s0 = 0 → pe_X d 74 (104, [some (.inr (.inr a0)), some (.inl x1), some (.inr (.inr a2)), some (.inl x3)], [], σ) Φ) (k2 : s0 = 0 → pe_X d 74 (102, [some (.inr (.inr a0)), some (.inl x1), some (.inr (.inr a2)), some (.inl x3)], [], σ) Φ) : pe_X d 74 (99, [some (.inr (.inr a0)), some (.inl x1), some (.inr (.inr a2)), some (.inl x3)], [.inl s0], σ) Φ := by
  refine pe_blk 30 1 ck74 [] (cond (decide (¬ (pe_w s0) = 0)) 104 102, [some (.inr (.inr a0)), some (.inl x1), some (.inr (.inr a2)), some (.inl x3)], [], σ) rfl ?_ ?_
  · exact trivial
  · try simp (disch := omega) only [pe_wi w0]
    exact pe_two' k1 k2
theorem b74_102 {d : Nat} {Φ : Option pe_V → pe_H → Prop} {σ : pe_H} {o0 : Option pe_V} {o1 : Option pe_V} {o2 : Option pe_V} {o3 : Option pe_V}    (k : Φ (some (.inl 0)) σ) : pe_X d 74 (102, [o0, o1, o2, o3], [], σ) Φ := by
  refine pe_blk 31 1 ck74 [] (103, [o0, o1, o2, o3], [.inl 0], σ) rfl ?_ ?_
  · exact trivial
  · exact pe_fine 32 ck74 rfl rfl rfl (Or.inl rfl) k
theorem b74_104 {d : Nat} {Φ : Option pe_V → pe_H → Prop} {σ : pe_H} {a0 : Nat} {x1 : Int} {a2 : Nat} {x3 : Int} (f_a2 : pk_Fm a2 σ := by assumption)  (h0 : pe_K σ a0 = 7 := by first | assumption | omega) (k : pe_M d 73 [.inr (.inr a0), .inl (x1 + 2)] σ (fun r σ' => pe_X d 74 (113, [some (.inr (.inr a0)), some (.inl x1), some (.inr (.inr a2)), some (.inl x3)], r.toList ++ [.inl x3, .inr (.inr a2)], σ') Φ)) : pe_X d 74 (104, [some (.inr (.inr a0)), some (.inl x1), some (.inr (.inr a2)), some (.inl x3)], [], σ) Φ := by
  refine pe_blk 33 6 ck74 [] (110, [some (.inr (.inr a0)), some (.inl x1), some (.inr (.inr a2)), some (.inl x3)], [.inl (x1 + 2), .inr (.inr a0), .inl x3, .inr (.inr a2)], σ) rfl ?_ ?_
  · exact trivial
  · try simp (disch := omega) only [pe_K_wI, pe_K_wR]
    have hrc : pe_K σ a0 = 7 := by first | assumption | (simp (disch := omega) only [pe_K_wI, pe_K_wR]; done) | (simp (disch := omega) only [pe_K_wI, pe_K_wR]; assumption)
    exact pe_cal 39 ck74 rfl rfl rfl ⟨hrc, by decide⟩ k
theorem b74_113 {d : Nat} {Φ : Option pe_V → pe_H → Prop} {σ : pe_H} {o0 : Option pe_V} {o1 : Option pe_V} {o2 : Option pe_V} {o3 : Option pe_V} {b0 : Nat} {s1 : Int} {s2 : Int} (f_b0 : pk_Fm b0 σ := by assumption)   (k : pe_M d 25 [.inr (.inr b0), .inl s1, .inl s2] σ (fun r σ' => pe_X d 74 (116, [o0, o1, o2, o3], r.toList ++ [], σ') Φ)) : pe_X d 74 (113, [o0, o1, o2, o3], [.inl s2, .inl s1, .inr (.inr b0)], σ) Φ := by
  have hrc : pe_K σ b0 = 2 := by first | assumption | (simp (disch := omega) only [pe_K_wI, pe_K_wR, pk_mK f_b0]; done) | (simp (disch := omega) only [pe_K_wI, pe_K_wR, pk_mK f_b0]; assumption)
  exact pe_cal 40 ck74 rfl rfl rfl ⟨hrc, by decide⟩ k
theorem b74_116 {d : Nat} {Φ : Option pe_V → pe_H → Prop} {σ : pe_H} {o0 : Option pe_V} {o1 : Option pe_V} {o2 : Option pe_V} {o3 : Option pe_V}    (k : Φ (some (.inl 1)) σ) : pe_X d 74 (116, [o0, o1, o2, o3], [], σ) Φ := by
  refine pe_blk 41 1 ck74 [] (117, [o0, o1, o2, o3], [.inl 1], σ) rfl ?_ ?_
  · exact trivial
  · exact pe_fine 42 ck74 rfl rfl rfl (Or.inr rfl) k
theorem b74_118 {d : Nat} {Φ : Option pe_V → pe_H → Prop} {σ : pe_H} {o0 : Option pe_V} {o1 : Option pe_V} {a2 : Nat} {x3 : Int} (f_a2 : pk_Fm a2 σ := by assumption) (w0 : pe_in (pe_I σ a2 4) := by unfold pe_in; omega) (w1 : pe_in x3 := by unfold pe_in; omega)  (k1 : (pe_I σ a2 4) ≤ x3 → pe_X d 74 (138, [o0, o1, some (.inr (.inr a2)), some (.inl x3)], [], σ) Φ) (k2 : ¬ ((pe_I σ a2 4) ≤ x3) → pe_X d 74 (126, [o0, o1, some (.inr (.inr a2)), some (.inl x3)], [], σ) Φ) : pe_X d 74 (118, [o0, o1, some (.inr (.inr a2)), some (.inl x3)], [], σ) Φ := by
  refine pe_blk 43 4 ck74 [pe_K σ a2 = 2] (cond (decide ((pe_w (pe_I σ a2 4)) ≤ (pe_w x3))) 138 126, [o0, o1, some (.inr (.inr a2)), some (.inl x3)], [], σ) rfl ?_ ?_
  · first
    | (simp (disch := omega) only [pe_all, pe_wi w0, pe_wi w1, pe_K_wI, pe_K_wR, pk_mK f_a2]; done)
    | (simp (disch := omega) only [pe_all, pe_wi w0, pe_wi w1, pe_K_wI, pe_K_wR, pk_mK f_a2]; (repeat' apply And.intro) <;> first | assumption | omega | decide)
  · try simp (disch := omega) only [pe_wi w0, pe_wi w1, pe_K_wI, pe_K_wR, pk_mK f_a2]
    exact pe_two k1 k2
set_option maxRecDepth 8000 in
theorem b74_126 {d : Nat} {Φ : Option pe_V → pe_H → Prop} {σ : pe_H} {o0 : Option pe_V} {o1 : Option pe_V} {a2 : Nat} {x3 : Int} (f_a2 : pk_Fm a2 σ := by assumption) (w0 : pe_in x3 := by unfold pe_in; omega) (h0 : 0 ≤ x3 := by first | assumption | omega) (h1 : x3 < 8 := by first | assumption | omega) (k : pe_M d 3 [.inr (.inr (pk_c a2 x3))] σ (fun r σ' => pe_X d 74 (135, [o0, o1, some (.inr (.inr a2)), some (.inl x3)], r.toList ++ [], σ') Φ)) : pe_X d 74 (126, [o0, o1, some (.inr (.inr a2)), some (.inl x3)], [], σ) Φ := by
  refine pe_blk 47 4 ck74 [pe_K σ a2 = 2, 12 ≤ pe_K σ (pe_R σ a2 1) ∧ pe_K σ (pe_R σ a2 1) < 19, 0 ≤ (pe_w x3), (pe_w x3) < pe_L σ (pe_R σ a2 1)] (132, [o0, o1, some (.inr (.inr a2)), some (.inl x3)], [.inr (.inr (pe_R σ (pe_R σ a2 1) (pe_w x3)))], σ) rfl ?_ ?_
  · first
    | (simp (disch := omega) only [pe_all, pe_wi w0, pe_K_wI, pe_K_wR, pe_L_wI, pe_L_wR, pe_R_nej, pe_R_ner, pe_R_wI, pk_mE2 f_a2 (i := x3) (by omega) (by omega), pk_mK f_a2, pk_mK2 f_a2, pk_mL2 f_a2, pk_mR2 f_a2, pk_oK (pk_mO f_a2 (i := x3) (by omega) (by omega))]; done)
    | (simp (disch := omega) only [pe_all, pe_wi w0, pe_K_wI, pe_K_wR, pe_L_wI, pe_L_wR, pe_R_nej, pe_R_ner, pe_R_wI, pk_mE2 f_a2 (i := x3) (by omega) (by omega), pk_mK f_a2, pk_mK2 f_a2, pk_mL2 f_a2, pk_mR2 f_a2, pk_oK (pk_mO f_a2 (i := x3) (by omega) (by omega))]; (repeat' apply And.intro) <;> first | assumption | omega | decide)
  · try simp (disch := omega) only [pe_wi w0, pe_K_wI, pe_K_wR, pe_L_wI, pe_L_wR, pe_R_nej, pe_R_ner, pe_R_wI, pk_mE2 f_a2 (i := x3) (by omega) (by omega), pk_mK f_a2, pk_mK2 f_a2, pk_mL2 f_a2, pk_mR2 f_a2, pk_oK (pk_mO f_a2 (i := x3) (by omega) (by omega))]
    have hrc : pe_K σ (pk_c a2 x3) = 0 := by first | assumption | (simp (disch := omega) only [pe_wi w0, pe_K_wI, pe_K_wR, pe_L_wI, pe_L_wR, pe_R_nej, pe_R_ner, pe_R_wI, pk_mE2 f_a2 (i := x3) (by omega) (by omega), pk_mK f_a2, pk_mK2 f_a2, pk_mL2 f_a2, pk_mR2 f_a2, pk_oK (pk_mO f_a2 (i := x3) (by omega) (by omega))]; done) | (simp (disch := omega) only [pe_wi w0, pe_K_wI, pe_K_wR, pe_L_wI, pe_L_wR, pe_R_nej, pe_R_ner, pe_R_wI, pk_mE2 f_a2 (i := x3) (by omega) (by omega), pk_mK f_a2, pk_mK2 f_a2, pk_mL2 f_a2, pk_mR2 f_a2, pk_oK (pk_mO f_a2 (i := x3) (by omega) (by omega))]; assumption)
    exact pe_cal 51 ck74 rfl rfl rfl ⟨hrc, by decide⟩ k
set_option maxRecDepth 8000 in
theorem b74_135 {d : Nat} {Φ : Option pe_V → pe_H → Prop} {σ : pe_H} {o0 : Option pe_V} {o1 : Option pe_V} {a2 : Nat} {x3 : Int} {s0 : Int} (f_a2 : pk_Fm a2 σ := by assumption) (w0 : pe_in s0 := by unfold pe_in; omega)  (k1 : s0 = 0 → pe_X d 74 (140, [o0, o1, some (.inr (.inr a2)), some (.inl x3)], [], σ) Φ) (k2 : ¬ (s0 = 0) → pe_X d 74 (138, [o0, o1, some (.inr (.inr a2)), some (.inl x3)], [], σ) Φ) : pe_X d 74 (135, [o0, o1, some (.inr (.inr a2)), some (.inl x3)], [.inl s0], σ) Φ := by
  refine pe_blk 52 1 ck74 [] (cond (decide ((pe_w s0) = 0)) 140 138, [o0, o1, some (.inr (.inr a2)), some (.inl x3)], [], σ) rfl ?_ ?_
  · exact trivial
  · try simp (disch := omega) only [pe_wi w0]
    exact pe_two k1 k2
set_option maxRecDepth 8000 in
theorem b74_138 {d : Nat} {Φ : Option pe_V → pe_H → Prop} {σ : pe_H} {o0 : Option pe_V} {o1 : Option pe_V} {o2 : Option pe_V} {o3 : Option pe_V}    (k : Φ (some (.inl 0)) σ) : pe_X d 74 (138, [o0, o1, o2, o3], [], σ) Φ := by
  refine pe_blk 53 1 ck74 [] (139, [o0, o1, o2, o3], [.inl 0], σ) rfl ?_ ?_
  · exact trivial
  · exact pe_fine 54 ck74 rfl rfl rfl (Or.inl rfl) k
set_option maxRecDepth 8000 in
theorem b74_140 {d : Nat} {Φ : Option pe_V → pe_H → Prop} {σ : pe_H} {o0 : Option pe_V} {o1 : Option pe_V} {a2 : Nat} {x3 : Int} (f_a2 : pk_Fm a2 σ := by assumption)   (k : pe_M d 26 [.inr (.inr a2), .inl x3] σ (fun r σ' => pe_X d 74 (145, [o0, o1, some (.inr (.inr a2)), some (.inl x3)], r.toList ++ [], σ') Φ)) : pe_X d 74 (140, [o0, o1, some (.inr (.inr a2)), some (.inl x3)], [], σ) Φ := by
  refine pe_blk 55 2 ck74 [] (142, [o0, o1, some (.inr (.inr a2)), some (.inl x3)], [.inl x3, .inr (.inr a2)], σ) rfl ?_ ?_
  · exact trivial
  · try simp (disch := omega) only [pe_K_wI, pe_K_wR, pk_mK f_a2]
    have hrc : pe_K σ a2 = 2 := by first | assumption | (simp (disch := omega) only [pe_K_wI, pe_K_wR, pk_mK f_a2]; done) | (simp (disch := omega) only [pe_K_wI, pe_K_wR, pk_mK f_a2]; assumption)
    exact pe_cal 57 ck74 rfl rfl rfl ⟨hrc, by decide⟩ k
set_option maxRecDepth 8000 in
theorem b74_145 {d : Nat} {Φ : Option pe_V → pe_H → Prop} {σ : pe_H} {o0 : Option pe_V} {o1 : Option pe_V} {o2 : Option pe_V} {o3 : Option pe_V}    (k : Φ (some (.inl 1)) σ) : pe_X d 74 (145, [o0, o1, o2, o3], [], σ) Φ := by
  refine pe_blk 58 1 ck74 [] (146, [o0, o1, o2, o3], [.inl 1], σ) rfl ?_ ?_
  · exact trivial
  · exact pe_fine 59 ck74 rfl rfl rfl (Or.inr rfl) k
set_option maxRecDepth 8000 in
theorem b74_147 {d : Nat} {Φ : Option pe_V → pe_H → Prop} {σ : pe_H} {o0 : Option pe_V} {o1 : Option pe_V} {a2 : Nat} {x3 : Int} (f_a2 : pk_Fm a2 σ := by assumption) (w0 : pe_in x3 := by unfold pe_in; omega)  (k1 : x3 < 1 → pe_X d 74 (158, [o0, o1, some (.inr (.inr a2)), some (.inl x3)], [], σ) Φ) (k2 : ¬ (x3 < 1) → pe_X d 74 (152, [o0, o1, some (.inr (.inr a2)), some (.inl x3)], [], σ) Φ) : pe_X d 74 (147, [o0, o1, some (.inr (.inr a2)), some (.inl x3)], [], σ) Φ := by
  refine pe_blk 60 3 ck74 [] (cond (decide ((pe_w x3) < (pe_w 1))) 158 152, [o0, o1, some (.inr (.inr a2)), some (.inl x3)], [], σ) rfl ?_ ?_
  · exact trivial
  · try simp (disch := omega) only [pe_wi w0, pe_wi (x := 1) ⟨by decide, by decide⟩]
    exact pe_two k1 k2
set_option maxRecDepth 8000 in
theorem b74_152 {d : Nat} {Φ : Option pe_V → pe_H → Prop} {σ : pe_H} {o0 : Option pe_V} {o1 : Option pe_V} {a2 : Nat} {x3 : Int} (f_a2 : pk_Fm a2 σ := by assumption) (w0 : pe_in x3 := by unfold pe_in; omega)  (k1 : x3 ≤ 8 → pe_X d 74 (160, [o0, o1, some (.inr (.inr a2)), some (.inl x3)], [], σ) Φ) (k2 : ¬ (x3 ≤ 8) → pe_X d 74 (158, [o0, o1, some (.inr (.inr a2)), some (.inl x3)], [], σ) Φ) : pe_X d 74 (152, [o0, o1, some (.inr (.inr a2)), some (.inl x3)], [], σ) Φ := by
  refine pe_blk 63 3 ck74 [] (cond (decide ((pe_w x3) ≤ (pe_w 8))) 160 158, [o0, o1, some (.inr (.inr a2)), some (.inl x3)], [], σ) rfl ?_ ?_
  · exact trivial
  · try simp (disch := omega) only [pe_wi w0, pe_wi (x := 8) ⟨by decide, by decide⟩]
    exact pe_two k1 k2
set_option maxRecDepth 8000 in
theorem b74_158 {d : Nat} {Φ : Option pe_V → pe_H → Prop} {σ : pe_H} {o0 : Option pe_V} {o1 : Option pe_V} {o2 : Option pe_V} {o3 : Option pe_V}    (k : Φ (some (.inl 0)) σ) : pe_X d 74 (158, [o0, o1, o2, o3], [], σ) Φ := by
  refine pe_blk 66 1 ck74 [] (159, [o0, o1, o2, o3], [.inl 0], σ) rfl ?_ ?_
  · exact trivial
  · exact pe_fine 67 ck74 rfl rfl rfl (Or.inl rfl) k
set_option maxRecDepth 8000 in
theorem b74_160 {d : Nat} {Φ : Option pe_V → pe_H → Prop} {σ : pe_H} {o0 : Option pe_V} {o1 : Option pe_V} {a2 : Nat} {x3 : Int} (f_a2 : pk_Fm a2 σ := by assumption)   (k : Φ (some (.inl 1)) (pe_wI σ a2 5 x3)) : pe_X d 74 (160, [o0, o1, some (.inr (.inr a2)), some (.inl x3)], [], σ) Φ := by
  refine pe_blk 68 4 ck74 [pe_K σ a2 = 2] (166, [o0, o1, some (.inr (.inr a2)), some (.inl x3)], [.inl 1], pe_wI σ a2 5 x3) rfl ?_ ?_
  · first
    | (simp (disch := omega) only [pe_all, pe_K_wI, pe_K_wR, pk_mK f_a2]; done)
    | (simp (disch := omega) only [pe_all, pe_K_wI, pe_K_wR, pk_mK f_a2]; (repeat' apply And.intro) <;> first | assumption | omega | decide)
  · try simp (disch := omega) only [pe_K_wI, pe_K_wR, pk_mK f_a2]
    exact pe_fine 72 ck74 rfl rfl rfl (Or.inr rfl) k
set_option maxRecDepth 8000 in
theorem b74_167 {d : Nat} {Φ : Option pe_V → pe_H → Prop} {σ : pe_H} {a0 : Nat} {x1 : Int} {a2 : Nat} {o3 : Option pe_V} (f_a2 : pk_Fm a2 σ := by assumption)  (h0 : pe_K σ a0 = 7 := by first | assumption | omega) (k : pe_M d 73 [.inr (.inr a0), .inl (x1 + 1)] σ (fun r σ' => pe_X d 74 (175, [some (.inr (.inr a0)), some (.inl x1), some (.inr (.inr a2)), o3], r.toList ++ [.inr (.inr a0)], σ') Φ)) : pe_X d 74 (167, [some (.inr (.inr a0)), some (.inl x1), some (.inr (.inr a2)), o3], [], σ) Φ := by
  refine pe_blk 73 5 ck74 [] (172, [some (.inr (.inr a0)), some (.inl x1), some (.inr (.inr a2)), o3], [.inl (x1 + 1), .inr (.inr a0), .inr (.inr a0)], σ) rfl ?_ ?_
  · exact trivial
  · try simp (disch := omega) only [pe_K_wI, pe_K_wR]
    have hrc : pe_K σ a0 = 7 := by first | assumption | (simp (disch := omega) only [pe_K_wI, pe_K_wR]; done) | (simp (disch := omega) only [pe_K_wI, pe_K_wR]; assumption)
    exact pe_cal 78 ck74 rfl rfl rfl ⟨hrc, by decide⟩ k
set_option maxRecDepth 8000 in
theorem b74_175 {d : Nat} {Φ : Option pe_V → pe_H → Prop} {σ : pe_H} {o0 : Option pe_V} {o1 : Option pe_V} {a2 : Nat} {o3 : Option pe_V} {b0 : Nat} {s1 : Int} (f_a2 : pk_Fm a2 σ := by assumption)  (h0 : pe_K σ b0 = 7 := by first | assumption | omega) (k : pe_M d 78 [.inr (.inr b0), .inl s1, .inr (.inr a2)] σ (fun r σ' => pe_X d 74 (179, [o0, o1, some (.inr (.inr a2)), o3], r.toList ++ [], σ') Φ)) : pe_X d 74 (175, [o0, o1, some (.inr (.inr a2)), o3], [.inl s1, .inr (.inr b0)], σ) Φ := by
  refine pe_blk 79 1 ck74 [] (176, [o0, o1, some (.inr (.inr a2)), o3], [.inr (.inr a2), .inl s1, .inr (.inr b0)], σ) rfl ?_ ?_
  · exact trivial
  · try simp (disch := omega) only [pe_K_wI, pe_K_wR]
    have hrc : pe_K σ b0 = 7 := by first | assumption | (simp (disch := omega) only [pe_K_wI, pe_K_wR]; done) | (simp (disch := omega) only [pe_K_wI, pe_K_wR]; assumption)
    exact pe_cal 80 ck74 rfl rfl rfl ⟨hrc, by decide⟩ k
set_option maxRecDepth 8000 in
theorem b74_179 {d : Nat} {Φ : Option pe_V → pe_H → Prop} {σ : pe_H} {o0 : Option pe_V} {o1 : Option pe_V} {o2 : Option pe_V} {o3 : Option pe_V} {s0 : Int}   (h0 : s0 = 0 ∨ s0 = 1 := by first | assumption | omega) (k : Φ (some (.inl s0)) σ) : pe_X d 74 (179, [o0, o1, o2, o3], [.inl s0], σ) Φ := by
  exact pe_fine 81 ck74 rfl rfl rfl h0 k
-- StepMachines$Text.isProgramDone(ILStepMachines$Machine;)Z
def T75 : List (Nat × Instr × Nat) := [(0, .aload_n 0, 1), (1, .iload_n 1, 1), (2, .iconst 1, 1), (3, .iadd, 1), (4, .invokevirtual 49, 3), (7, .istore_n 3, 1), (8, .aload_n 0, 1), (9, .iload_n 1, 1), (10, .iconst 2, 1), (11, .iadd, 1), (12, .invokevirtual 95, 3), (15, .astore 4, 2), (17, .iload_n 3, 1), (18, .ifCond .lt 13, 3), (21, .iload_n 3, 1), (22, .iconst 5, 1), (23, .if_icmp .ge 8, 3), (26, .aload 4, 2), (28, .ifnonnull 5, 3), (31, .iconst 0, 1), (32, .ireturn, 1), (33, .aload_n 2, 1), (34, .getfield 99, 3), (37, .iload_n 3, 1), (38, .aload 4, 2), (40, .aastore, 1), (41, .iconst 1, 1), (42, .ireturn, 1)]
theorem ck75 : pe_ctx 75 7 false (some .boolean) 5 T75 := ⟨rfl, rfl, rfl, rfl, by decide +kernel, by decide, by decide⟩
theorem b75_0 {d : Nat} {Φ : Option pe_V → pe_H → Prop} {σ : pe_H} {a0 : Nat} {x1 : Int} {a2 : Nat} {o3 : Option pe_V} {o4 : Option pe_V} (f_a2 : pk_Fm a2 σ := by assumption)  (h0 : pe_K σ a0 = 7 := by first | assumption | omega) (k : pe_M d 72 [.inr (.inr a0), .inl (x1 + 1)] σ (fun r σ' => pe_X d 75 (7, [some (.inr (.inr a0)), some (.inl x1), some (.inr (.inr a2)), o3, o4], r.toList ++ [], σ') Φ)) : pe_X d 75 (0, [some (.inr (.inr a0)), some (.inl x1), some (.inr (.inr a2)), o3, o4], [], σ) Φ := by
  refine pe_blk 0 4 ck75 [] (4, [some (.inr (.inr a0)), some (.inl x1), some (.inr (.inr a2)), o3, o4], [.inl (x1 + 1), .inr (.inr a0)], σ) rfl ?_ ?_
  · exact trivial
  · try simp (disch := omega) only [pe_K_wI, pe_K_wR]
    have hrc : pe_K σ a0 = 7 := by first | assumption | (simp (disch := omega) only [pe_K_wI, pe_K_wR]; done) | (simp (disch := omega) only [pe_K_wI, pe_K_wR]; assumption)
    exact pe_cal 4 ck75 rfl rfl rfl ⟨hrc, by decide⟩ k
theorem b75_7 {d : Nat} {Φ : Option pe_V → pe_H → Prop} {σ : pe_H} {a0 : Nat} {x1 : Int} {a2 : Nat} {o3 : Option pe_V} {o4 : Option pe_V} {s0 : Int} (f_a2 : pk_Fm a2 σ := by assumption)  (h0 : pe_K σ a0 = 7 := by first | assumption | omega) (k : pe_M d 76 [.inr (.inr a0), .inl (x1 + 2)] σ (fun r σ' => pe_X d 75 (15, [some (.inr (.inr a0)), some (.inl x1), some (.inr (.inr a2)), some (.inl s0), o4], r.toList ++ [], σ') Φ)) : pe_X d 75 (7, [some (.inr (.inr a0)), some (.inl x1), some (.inr (.inr a2)), o3, o4], [.inl s0], σ) Φ := by
  refine pe_blk 5 5 ck75 [] (12, [some (.inr (.inr a0)), some (.inl x1), some (.inr (.inr a2)), some (.inl s0), o4], [.inl (x1 + 2), .inr (.inr a0)], σ) rfl ?_ ?_
  · exact trivial
  · try simp (disch := omega) only [pe_K_wI, pe_K_wR]
    have hrc : pe_K σ a0 = 7 := by first | assumption | (simp (disch := omega) only [pe_K_wI, pe_K_wR]; done) | (simp (disch := omega) only [pe_K_wI, pe_K_wR]; assumption)
    exact pe_cal 10 ck75 rfl rfl rfl ⟨hrc, by decide⟩ k
theorem b75_15 {d : Nat} {Φ : Option pe_V → pe_H → Prop} {σ : pe_H} {o0 : Option pe_V} {o1 : Option pe_V} {a2 : Nat} {x3 : Int} {o4 : Option pe_V} {b0 : Nat} (f_a2 : pk_Fm a2 σ := by assumption) (w0 : pe_in x3 := by unfold pe_in; omega)  (k1 : x3 < 0 → pe_X d 75 (31, [o0, o1, some (.inr (.inr a2)), some (.inl x3), some (.inr (.inr b0))], [], σ) Φ) (k2 : ¬ (x3 < 0) → pe_X d 75 (21, [o0, o1, some (.inr (.inr a2)), some (.inl x3), some (.inr (.inr b0))], [], σ) Φ) : pe_X d 75 (15, [o0, o1, some (.inr (.inr a2)), some (.inl x3), o4], [.inr (.inr b0)], σ) Φ := by
  refine pe_blk 11 3 ck75 [] (cond (decide ((pe_w x3) < 0)) 31 21, [o0, o1, some (.inr (.inr a2)), some (.inl x3), some (.inr (.inr b0))], [], σ) rfl ?_ ?_
  · exact trivial
  · try simp (disch := omega) only [pe_wi w0]
    exact pe_two k1 k2
theorem b75_21 {d : Nat} {Φ : Option pe_V → pe_H → Prop} {σ : pe_H} {o0 : Option pe_V} {o1 : Option pe_V} {a2 : Nat} {x3 : Int} {a4 : Nat} (f_a2 : pk_Fm a2 σ := by assumption) (w0 : pe_in x3 := by unfold pe_in; omega)  (k1 : 5 ≤ x3 → pe_X d 75 (31, [o0, o1, some (.inr (.inr a2)), some (.inl x3), some (.inr (.inr a4))], [], σ) Φ) (k2 : ¬ (5 ≤ x3) → pe_X d 75 (26, [o0, o1, some (.inr (.inr a2)), some (.inl x3), some (.inr (.inr a4))], [], σ) Φ) : pe_X d 75 (21, [o0, o1, some (.inr (.inr a2)), some (.inl x3), some (.inr (.inr a4))], [], σ) Φ := by
  refine pe_blk 14 3 ck75 [] (cond (decide ((pe_w 5) ≤ (pe_w x3))) 31 26, [o0, o1, some (.inr (.inr a2)), some (.inl x3), some (.inr (.inr a4))], [], σ) rfl ?_ ?_
  · exact trivial
  · try simp (disch := omega) only [pe_wi w0, pe_wi (x := 5) ⟨by decide, by decide⟩]
    exact pe_two k1 k2
theorem b75_26 {d : Nat} {Φ : Option pe_V → pe_H → Prop} {σ : pe_H} {o0 : Option pe_V} {o1 : Option pe_V} {a2 : Nat} {x3 : Int} {a4 : Nat} (f_a2 : pk_Fm a2 σ := by assumption)   (k1 : ¬ a4 = 0 → pe_X d 75 (33, [o0, o1, some (.inr (.inr a2)), some (.inl x3), some (.inr (.inr a4))], [], σ) Φ) (k2 : a4 = 0 → pe_X d 75 (31, [o0, o1, some (.inr (.inr a2)), some (.inl x3), some (.inr (.inr a4))], [], σ) Φ) : pe_X d 75 (26, [o0, o1, some (.inr (.inr a2)), some (.inl x3), some (.inr (.inr a4))], [], σ) Φ := by
  refine pe_blk 17 2 ck75 [] (cond (decide (¬ a4 = 0)) 33 31, [o0, o1, some (.inr (.inr a2)), some (.inl x3), some (.inr (.inr a4))], [], σ) rfl ?_ ?_
  · exact trivial
  · exact pe_two' k1 k2
theorem b75_31 {d : Nat} {Φ : Option pe_V → pe_H → Prop} {σ : pe_H} {o0 : Option pe_V} {o1 : Option pe_V} {o2 : Option pe_V} {o3 : Option pe_V} {o4 : Option pe_V}    (k : Φ (some (.inl 0)) σ) : pe_X d 75 (31, [o0, o1, o2, o3, o4], [], σ) Φ := by
  refine pe_blk 19 1 ck75 [] (32, [o0, o1, o2, o3, o4], [.inl 0], σ) rfl ?_ ?_
  · exact trivial
  · exact pe_fine 20 ck75 rfl rfl rfl (Or.inl rfl) k
theorem b75_33 {d : Nat} {Φ : Option pe_V → pe_H → Prop} {σ : pe_H} {o0 : Option pe_V} {o1 : Option pe_V} {a2 : Nat} {x3 : Int} {a4 : Nat} (f_a2 : pk_Fm a2 σ := by assumption) (w0 : pe_in x3 := by unfold pe_in; omega) (h0 : a4 = 0 ∨ 16 = pe_ak (pe_K σ a4) := by first | assumption | omega) (h1 : 0 ≤ x3 := by first | assumption | omega) (h2 : x3 < 5 := by first | assumption | omega) (k : Φ (some (.inl 1)) (pe_wR σ (a2 + 1) x3 a4)) : pe_X d 75 (33, [o0, o1, some (.inr (.inr a2)), some (.inl x3), some (.inr (.inr a4))], [], σ) Φ := by
  have hX0 := pk_m2 f_a2
  refine pe_blk 21 6 ck75 [pe_K σ a2 = 2, 12 ≤ pe_K σ (pe_R σ a2 0) ∧ pe_K σ (pe_R σ a2 0) < 19, a4 = 0 ∨ pe_K σ (pe_R σ a2 0) = pe_ak (pe_K σ a4), 0 ≤ (pe_w x3), (pe_w x3) < pe_L σ (pe_R σ a2 0), 2 ≤ (pe_R σ a2 0)] (42, [o0, o1, some (.inr (.inr a2)), some (.inl x3), some (.inr (.inr a4))], [.inl 1], pe_wR σ (pe_R σ a2 0) (pe_w x3) a4) rfl ?_ ?_
  · first
    | (simp (disch := omega) only [pe_all, pe_wi w0, pe_K_wI, pe_K_wR, pe_L_wI, pe_L_wR, pe_R_nej, pe_R_ner, pe_R_wI, pk_mK f_a2, pk_mK1 f_a2, pk_mL1 f_a2, pk_mR1 f_a2]; done)
    | (simp (disch := omega) only [pe_all, pe_wi w0, pe_K_wI, pe_K_wR, pe_L_wI, pe_L_wR, pe_R_nej, pe_R_ner, pe_R_wI, pk_mK f_a2, pk_mK1 f_a2, pk_mL1 f_a2, pk_mR1 f_a2]; (repeat' apply And.intro) <;> first | assumption | omega | decide)
  · try simp (disch := omega) only [pe_wi w0, pe_K_wI, pe_K_wR, pe_L_wI, pe_L_wR, pe_R_nej, pe_R_ner, pe_R_wI, pk_mK f_a2, pk_mK1 f_a2, pk_mL1 f_a2, pk_mR1 f_a2]
    exact pe_fine 27 ck75 rfl rfl rfl (Or.inr rfl) k
-- StepMachines$Text.programFrom(I)LStepMachines$Program;
def T76 : List (Nat × Instr × Nat) := [(0, .iconst 0, 1), (1, .istore_n 2, 1), (2, .iconst (-1), 1), (3, .istore_n 3, 1), (4, .iload_n 1, 1), (5, .istore 4, 2), (7, .iload 4, 2), (9, .aload_n 0, 1), (10, .getfield 15, 3), (13, .invokevirtual 19, 3), (16, .if_icmp .ge 113, 3), (19, .aload_n 0, 1), (20, .getfield 15, 3), (23, .iload 4, 2), (25, .invokevirtual 32, 3), (28, .bipush 59, 2), (30, .if_icmp .eq 99, 3), (33, .aload_n 0, 1), (34, .getfield 15, 3), (37, .iload 4, 2), (39, .invokevirtual 32, 3), (42, .bipush 102, 2), (44, .if_icmp .ne 7, 3), (47, .iconst 1, 1), (48, .goto 4, 3), (51, .iconst 0, 1), (52, .istore 5, 2), (54, .iload_n 2, 1), (55, .bipush 16, 2), (57, .if_icmp .ge 12, 3), (60, .iload 5, 2), (62, .ifCond .eq 9, 3), (65, .iload_n 3, 1), (66, .ifCond .lt 5, 3), (69, .aconst_null, 1), (70, .areturn, 1), (71, .iload 5, 2), (73, .ifCond .eq 17, 3), (76, .iload_n 2, 1), (77, .istore_n 3, 1), (78, .aload_n 0, 1), (79, .getfield 9, 3), (82, .iload_n 2, 1), (83, .sipush 1020, 3), (86, .iastore, 1), (87, .goto 33, 3), (90, .aload_n 0, 1), (91, .getfield 9, 3), (94, .iload_n 2, 1), (95, .aload_n 0, 1), (96, .getfield 15, 3), (99, .iload 4, 2), (101, .invokevirtual 32, 3), (104, .bipush 10, 2), (106, .imul, 1), (107, .aload_n 0, 1), (108, .iload 4, 2), (110, .iconst 1, 1), (111, .iadd, 1), (112, .invokevirtual 49, 3), (115, .iadd, 1), (116, .iastore, 1), (117, .iinc 4 1, 3), (120, .iinc 2 1, 3), (123, .iinc 4 1, 3), (126, .goto (-119), 3), (129, .new 103, 3), (132, .dup, 1), (133, .aload_n 0, 1), (134, .getfield 9, 3), (137, .iload_n 2, 1), (138, .invokestatic 105, 3), (141, .iload_n 3, 1), (142, .invokespecial 111, 3), (145, .areturn, 1)]
theorem ck76 : pe_ctx 76 7 false (some (.object "StepMachines$Program")) 6 T76 := ⟨rfl, rfl, rfl, rfl, by decide +kernel, by decide, by decide⟩
theorem b76_0 {d : Nat} {Φ : Option pe_V → pe_H → Prop} {σ : pe_H} {a0 : Nat} {x1 : Int} {o2 : Option pe_V} {o3 : Option pe_V} {o4 : Option pe_V} {o5 : Option pe_V}    (k : pe_X d 76 (7, [some (.inr (.inr a0)), some (.inl x1), some (.inl 0), some (.inl (-1)), some (.inl x1), o5], [], σ) Φ) : pe_X d 76 (0, [some (.inr (.inr a0)), some (.inl x1), o2, o3, o4, o5], [], σ) Φ := by
  refine pe_blk 0 6 ck76 [] (7, [some (.inr (.inr a0)), some (.inl x1), some (.inl 0), some (.inl (-1)), some (.inl x1), o5], [], σ) rfl ?_ ?_
  · exact trivial
  · exact k
theorem b76_7 {d : Nat} {Φ : Option pe_V → pe_H → Prop} {σ : pe_H} {a0 : Nat} {o1 : Option pe_V} {x2 : Int} {x3 : Int} {x4 : Int} {o5 : Option pe_V}   (h0 : pe_K σ a0 = 7 := by first | assumption | omega) (h1 : pe_K σ (pe_R σ a0 0) = 6 := by first | assumption | omega) (k : pe_M d 57 [.inr (.inr (pe_R σ a0 0))] σ (fun r σ' => pe_X d 76 (16, [some (.inr (.inr a0)), o1, some (.inl x2), some (.inl x3), some (.inl x4), o5], r.toList ++ [.inl x4], σ') Φ)) : pe_X d 76 (7, [some (.inr (.inr a0)), o1, some (.inl x2), some (.inl x3), some (.inl x4), o5], [], σ) Φ := by
  refine pe_blk 6 3 ck76 [pe_K σ a0 = 7] (13, [some (.inr (.inr a0)), o1, some (.inl x2), some (.inl x3), some (.inl x4), o5], [.inr (.inr (pe_R σ a0 0)), .inl x4], σ) rfl ?_ ?_
  · first
    | (simp (disch := omega) only [pe_all, pe_K_wI, pe_K_wR]; done)
    | (simp (disch := omega) only [pe_all, pe_K_wI, pe_K_wR]; (repeat' apply And.intro) <;> first | assumption | omega | decide)
  · try simp (disch := omega) only [pe_K_wI, pe_K_wR]
    have hrc : pe_K σ (pe_R σ a0 0) = 6 := by first | assumption | (simp (disch := omega) only [pe_K_wI, pe_K_wR]; done) | (simp (disch := omega) only [pe_K_wI, pe_K_wR]; assumption)
    exact pe_cal 9 ck76 rfl rfl rfl ⟨hrc, by decide⟩ k
theorem b76_16 {d : Nat} {Φ : Option pe_V → pe_H → Prop} {σ : pe_H} {a0 : Nat} {o1 : Option pe_V} {x2 : Int} {x3 : Int} {x4 : Int} {o5 : Option pe_V} {s0 : Int} {s1 : Int}  (w0 : pe_in s1 := by unfold pe_in; omega) (w1 : pe_in s0 := by unfold pe_in; omega)  (k1 : s1 ≤ s0 → pe_X d 76 (129, [some (.inr (.inr a0)), o1, some (.inl x2), some (.inl x3), some (.inl x4), o5], [], σ) Φ) (k2 : ¬ (s1 ≤ s0) → pe_X d 76 (19, [some (.inr (.inr a0)), o1, some (.inl x2), some (.inl x3), some (.inl x4), o5], [], σ) Φ) : pe_X d 76 (16, [some (.inr (.inr a0)), o1, some (.inl x2), some (.inl x3), some (.inl x4), o5], [.inl s1, .inl s0], σ) Φ := by
  refine pe_blk 10 1 ck76 [] (cond (decide ((pe_w s1) ≤ (pe_w s0))) 129 19, [some (.inr (.inr a0)), o1, some (.inl x2), some (.inl x3), some (.inl x4), o5], [], σ) rfl ?_ ?_
  · exact trivial
  · try simp (disch := omega) only [pe_wi w0, pe_wi w1]
    exact pe_two k1 k2
theorem b76_19 {d : Nat} {Φ : Option pe_V → pe_H → Prop} {σ : pe_H} {a0 : Nat} {o1 : Option pe_V} {x2 : Int} {x3 : Int} {x4 : Int} {o5 : Option pe_V}   (h0 : pe_K σ a0 = 7 := by first | assumption | omega) (h1 : pe_K σ (pe_R σ a0 0) = 6 := by first | assumption | omega) (k : pe_M d 60 [.inr (.inr (pe_R σ a0 0)), .inl x4] σ (fun r σ' => pe_X d 76 (28, [some (.inr (.inr a0)), o1, some (.inl x2), some (.inl x3), some (.inl x4), o5], r.toList ++ [], σ') Φ)) : pe_X d 76 (19, [some (.inr (.inr a0)), o1, some (.inl x2), some (.inl x3), some (.inl x4), o5], [], σ) Φ := by
  refine pe_blk 11 3 ck76 [pe_K σ a0 = 7] (25, [some (.inr (.inr a0)), o1, some (.inl x2), some (.inl x3), some (.inl x4), o5], [.inl x4, .inr (.inr (pe_R σ a0 0))], σ) rfl ?_ ?_
  · first
    | (simp (disch := omega) only [pe_all, pe_K_wI, pe_K_wR]; done)
    | (simp (disch := omega) only [pe_all, pe_K_wI, pe_K_wR]; (repeat' apply And.intro) <;> first | assumption | omega | decide)
  · try simp (disch := omega) only [pe_K_wI, pe_K_wR]
    have hrc : pe_K σ (pe_R σ a0 0) = 6 := by first | assumption | (simp (disch := omega) only [pe_K_wI, pe_K_wR]; done) | (simp (disch := omega) only [pe_K_wI, pe_K_wR]; assumption)
    exact pe_cal 14 ck76 rfl rfl rfl ⟨hrc, by decide⟩ k
theorem b76_28 {d : Nat} {Φ : Option pe_V → pe_H → Prop} {σ : pe_H} {a0 : Nat} {o1 : Option pe_V} {x2 : Int} {x3 : Int} {x4 : Int} {o5 : Option pe_V} {s0 : Int}  (w0 : pe_in s0 := by unfold pe_in; omega)  (k1 : s0 = 59 → pe_X d 76 (129, [some (.inr (.inr a0)), o1, some (.inl x2), some (.inl x3), some (.inl x4), o5], [], σ) Φ) (k2 : ¬ (s0 = 59) → pe_X d 76 (33, [some (.inr (.inr a0)), o1, some (.inl x2), some (.inl x3), some (.inl x4), o5], [], σ) Φ) : pe_X d 76 (28, [some (.inr (.inr a0)), o1, some (.inl x2), some (.inl x3), some (.inl x4), o5], [.inl s0], σ) Φ := by
  refine pe_blk 15 2 ck76 [] (cond (decide ((pe_w s0) = (pe_w 59))) 129 33, [some (.inr (.inr a0)), o1, some (.inl x2), some (.inl x3), some (.inl x4), o5], [], σ) rfl ?_ ?_
  · exact trivial
  · try simp (disch := omega) only [pe_wi w0, pe_wi (x := 59) ⟨by decide, by decide⟩]
    exact pe_two k1 k2
theorem b76_33 {d : Nat} {Φ : Option pe_V → pe_H → Prop} {σ : pe_H} {a0 : Nat} {o1 : Option pe_V} {x2 : Int} {x3 : Int} {x4 : Int} {o5 : Option pe_V}   (h0 : pe_K σ a0 = 7 := by first | assumption | omega) (h1 : pe_K σ (pe_R σ a0 0) = 6 := by first | assumption | omega) (k : pe_M d 60 [.inr (.inr (pe_R σ a0 0)), .inl x4] σ (fun r σ' => pe_X d 76 (42, [some (.inr (.inr a0)), o1, some (.inl x2), some (.inl x3), some (.inl x4), o5], r.toList ++ [], σ') Φ)) : pe_X d 76 (33, [some (.inr (.inr a0)), o1, some (.inl x2), some (.inl x3), some (.inl x4), o5], [], σ) Φ := by
  refine pe_blk 17 3 ck76 [pe_K σ a0 = 7] (39, [some (.inr (.inr a0)), o1, some (.inl x2), some (.inl x3), some (.inl x4), o5], [.inl x4, .inr (.inr (pe_R σ a0 0))], σ) rfl ?_ ?_
  · first
    | (simp (disch := omega) only [pe_all, pe_K_wI, pe_K_wR]; done)
    | (simp (disch := omega) only [pe_all, pe_K_wI, pe_K_wR]; (repeat' apply And.intro) <;> first | assumption | omega | decide)
  · try simp (disch := omega) only [pe_K_wI, pe_K_wR]
    have hrc : pe_K σ (pe_R σ a0 0) = 6 := by first | assumption | (simp (disch := omega) only [pe_K_wI, pe_K_wR]; done) | (simp (disch := omega) only [pe_K_wI, pe_K_wR]; assumption)
    exact pe_cal 20 ck76 rfl rfl rfl ⟨hrc, by decide⟩ k
theorem b76_42 {d : Nat} {Φ : Option pe_V → pe_H → Prop} {σ : pe_H} {a0 : Nat} {o1 : Option pe_V} {x2 : Int} {x3 : Int} {x4 : Int} {o5 : Option pe_V} {s0 : Int}  (w0 : pe_in s0 := by unfold pe_in; omega)  (k1 : ¬ s0 = 102 → pe_X d 76 (51, [some (.inr (.inr a0)), o1, some (.inl x2), some (.inl x3), some (.inl x4), o5], [], σ) Φ) (k2 : s0 = 102 → pe_X d 76 (47, [some (.inr (.inr a0)), o1, some (.inl x2), some (.inl x3), some (.inl x4), o5], [], σ) Φ) : pe_X d 76 (42, [some (.inr (.inr a0)), o1, some (.inl x2), some (.inl x3), some (.inl x4), o5], [.inl s0], σ) Φ := by
  refine pe_blk 21 2 ck76 [] (cond (decide (¬ (pe_w s0) = (pe_w 102))) 51 47, [some (.inr (.inr a0)), o1, some (.inl x2), some (.inl x3), some (.inl x4), o5], [], σ) rfl ?_ ?_
  · exact trivial
  · try simp (disch := omega) only [pe_wi w0, pe_wi (x := 102) ⟨by decide, by decide⟩]
    exact pe_two' k1 k2
theorem b76_47 {d : Nat} {Φ : Option pe_V → pe_H → Prop} {σ : pe_H} {a0 : Nat} {o1 : Option pe_V} {x2 : Int} {x3 : Int} {x4 : Int} {o5 : Option pe_V}    (k : pe_X d 76 (52, [some (.inr (.inr a0)), o1, some (.inl x2), some (.inl x3), some (.inl x4), o5], [.inl 1], σ) Φ) : pe_X d 76 (47, [some (.inr (.inr a0)), o1, some (.inl x2), some (.inl x3), some (.inl x4), o5], [], σ) Φ := by
  refine pe_blk 23 2 ck76 [] (52, [some (.inr (.inr a0)), o1, some (.inl x2), some (.inl x3), some (.inl x4), o5], [.inl 1], σ) rfl ?_ ?_
  · exact trivial
  · exact k
theorem b76_51 {d : Nat} {Φ : Option pe_V → pe_H → Prop} {σ : pe_H} {a0 : Nat} {o1 : Option pe_V} {x2 : Int} {x3 : Int} {x4 : Int} {o5 : Option pe_V}    (k : pe_X d 76 (52, [some (.inr (.inr a0)), o1, some (.inl x2), some (.inl x3), some (.inl x4), o5], [.inl 0], σ) Φ) : pe_X d 76 (51, [some (.inr (.inr a0)), o1, some (.inl x2), some (.inl x3), some (.inl x4), o5], [], σ) Φ := by
  refine pe_blk 25 1 ck76 [] (52, [some (.inr (.inr a0)), o1, some (.inl x2), some (.inl x3), some (.inl x4), o5], [.inl 0], σ) rfl ?_ ?_
  · exact trivial
  · exact k
theorem b76_52 {d : Nat} {Φ : Option pe_V → pe_H → Prop} {σ : pe_H} {a0 : Nat} {o1 : Option pe_V} {x2 : Int} {x3 : Int} {x4 : Int} {o5 : Option pe_V} {s0 : Int}  (w0 : pe_in x2 := by unfold pe_in; omega)  (k1 : 16 ≤ x2 → pe_X d 76 (69, [some (.inr (.inr a0)), o1, some (.inl x2), some (.inl x3), some (.inl x4), some (.inl s0)], [], σ) Φ) (k2 : ¬ (16 ≤ x2) → pe_X d 76 (60, [some (.inr (.inr a0)), o1, some (.inl x2), some (.inl x3), some (.inl x4), some (.inl s0)], [], σ) Φ) : pe_X d 76 (52, [some (.inr (.inr a0)), o1, some (.inl x2), some (.inl x3), some (.inl x4), o5], [.inl s0], σ) Φ := by
  refine pe_blk 26 4 ck76 [] (cond (decide ((pe_w 16) ≤ (pe_w x2))) 69 60, [some (.inr (.inr a0)), o1, some (.inl x2), some (.inl x3), some (.inl x4), some (.inl s0)], [], σ) rfl ?_ ?_
  · exact trivial
  · try simp (disch := omega) only [pe_wi w0, pe_wi (x := 16) ⟨by decide, by decide⟩]
    exact pe_two k1 k2
theorem b76_60 {d : Nat} {Φ : Option pe_V → pe_H → Prop} {σ : pe_H} {a0 : Nat} {o1 : Option pe_V} {x2 : Int} {x3 : Int} {x4 : Int} {x5 : Int}  (w0 : pe_in x5 := by unfold pe_in; omega)  (k1 : x5 = 0 → pe_X d 76 (71, [some (.inr (.inr a0)), o1, some (.inl x2), some (.inl x3), some (.inl x4), some (.inl x5)], [], σ) Φ) (k2 : ¬ (x5 = 0) → pe_X d 76 (65, [some (.inr (.inr a0)), o1, some (.inl x2), some (.inl x3), some (.inl x4), some (.inl x5)], [], σ) Φ) : pe_X d 76 (60, [some (.inr (.inr a0)), o1, some (.inl x2), some (.inl x3), some (.inl x4), some (.inl x5)], [], σ) Φ := by
  refine pe_blk 30 2 ck76 [] (cond (decide ((pe_w x5) = 0)) 71 65, [some (.inr (.inr a0)), o1, some (.inl x2), some (.inl x3), some (.inl x4), some (.inl x5)], [], σ) rfl ?_ ?_
  · exact trivial
  · try simp (disch := omega) only [pe_wi w0]
    exact pe_two k1 k2
theorem b76_65 {d : Nat} {Φ : Option pe_V → pe_H → Prop} {σ : pe_H} {a0 : Nat} {o1 : Option pe_V} {x2 : Int} {x3 : Int} {x4 : Int} {x5 : Int}  (w0 : pe_in x3 := by unfold pe_in; omega)  (k1 : x3 < 0 → pe_X d 76 (71, [some (.inr (.inr a0)), o1, some (.inl x2), some (.inl x3), some (.inl x4), some (.inl x5)], [], σ) Φ) (k2 : ¬ (x3 < 0) → pe_X d 76 (69, [some (.inr (.inr a0)), o1, some (.inl x2), some (.inl x3), some (.inl x4), some (.inl x5)], [], σ) Φ) : pe_X d 76 (65, [some (.inr (.inr a0)), o1, some (.inl x2), some (.inl x3), some (.inl x4), some (.inl x5)], [], σ) Φ := by
  refine pe_blk 32 2 ck76 [] (cond (decide ((pe_w x3) < 0)) 71 69, [some (.inr (.inr a0)), o1, some (.inl x2), some (.inl x3), some (.inl x4), some (.inl x5)], [], σ) rfl ?_ ?_
  · exact trivial
  · try simp (disch := omega) only [pe_wi w0]
    exact pe_two k1 k2
theorem b76_69 {d : Nat} {Φ : Option pe_V → pe_H → Prop} {σ : pe_H} {o0 : Option pe_V} {o1 : Option pe_V} {o2 : Option pe_V} {o3 : Option pe_V} {o4 : Option pe_V} {o5 : Option pe_V}    (k : Φ (some (.inr (.inr 0))) σ) : pe_X d 76 (69, [o0, o1, o2, o3, o4, o5], [], σ) Φ := by
  refine pe_blk 34 1 ck76 [] (70, [o0, o1, o2, o3, o4, o5], [.inr (.inr 0)], σ) rfl ?_ ?_
  · exact trivial
  · exact pe_fine 35 ck76 rfl rfl rfl trivial k
theorem b76_71 {d : Nat} {Φ : Option pe_V → pe_H → Prop} {σ : pe_H} {a0 : Nat} {o1 : Option pe_V} {x2 : Int} {x3 : Int} {x4 : Int} {x5 : Int}  (w0 : pe_in x5 := by unfold pe_in; omega)  (k1 : x5 = 0 → pe_X d 76 (90, [some (.inr (.inr a0)), o1, some (.inl x2), some (.inl x3), some (.inl x4), some (.inl x5)], [], σ) Φ) (k2 : ¬ (x5 = 0) → pe_X d 76 (76, [some (.inr (.inr a0)), o1, some (.inl x2), some (.inl x3), some (.inl x4), some (.inl x5)], [], σ) Φ) : pe_X d 76 (71, [some (.inr (.inr a0)), o1, some (.inl x2), some (.inl x3), some (.inl x4), some (.inl x5)], [], σ) Φ := by
  refine pe_blk 36 2 ck76 [] (cond (decide ((pe_w x5) = 0)) 90 76, [some (.inr (.inr a0)), o1, some (.inl x2), some (.inl x3), some (.inl x4), some (.inl x5)], [], σ) rfl ?_ ?_
  · exact trivial
  · try simp (disch := omega) only [pe_wi w0]
    exact pe_two k1 k2
theorem b76_76 {d : Nat} {Φ : Option pe_V → pe_H → Prop} {σ : pe_H} {a0 : Nat} {o1 : Option pe_V} {x2 : Int} {o3 : Option pe_V} {x4 : Int} {o5 : Option pe_V}  (w0 : pe_in x2 := by unfold pe_in; omega) (h0 : pe_K σ a0 = 7 := by first | assumption | omega) (h1 : pe_K σ (pe_R σ a0 1) = 10 := by first | assumption | omega) (h2 : 0 ≤ x2 := by first | assumption | omega) (h3 : x2 < pe_L σ (pe_R σ a0 1) := by first | assumption | omega) (h4 : 2 ≤ (pe_R σ a0 1) := by first | assumption | omega) (k : pe_X d 76 (120, [some (.inr (.inr a0)), o1, some (.inl x2), some (.inl x2), some (.inl x4), o5], [], pe_wI σ (pe_R σ a0 1) x2 1020) Φ) : pe_X d 76 (76, [some (.inr (.inr a0)), o1, some (.inl x2), o3, some (.inl x4), o5], [], σ) Φ := by
  refine pe_blk 38 8 ck76 [pe_K σ a0 = 7, pe_K σ (pe_R σ a0 1) = 10, 0 ≤ (pe_w x2), (pe_w x2) < pe_L σ (pe_R σ a0 1), 2 ≤ (pe_R σ a0 1)] (120, [some (.inr (.inr a0)), o1, some (.inl x2), some (.inl x2), some (.inl x4), o5], [], pe_wI σ (pe_R σ a0 1) (pe_w x2) 1020) rfl ?_ ?_
  · first
    | (simp (disch := omega) only [pe_all, pe_wi w0, pe_K_wI, pe_K_wR, pe_L_wI, pe_L_wR]; done)
    | (simp (disch := omega) only [pe_all, pe_wi w0, pe_K_wI, pe_K_wR, pe_L_wI, pe_L_wR]; (repeat' apply And.intro) <;> first | assumption | omega | decide)
  · try simp (disch := omega) only [pe_wi w0, pe_K_wI, pe_K_wR, pe_L_wI, pe_L_wR]
    exact k
set_option maxRecDepth 8000 in
theorem b76_90 {d : Nat} {Φ : Option pe_V → pe_H → Prop} {σ : pe_H} {a0 : Nat} {o1 : Option pe_V} {x2 : Int} {x3 : Int} {x4 : Int} {o5 : Option pe_V}   (h0 : pe_K σ a0 = 7 := by first | assumption | omega) (h1 : pe_K σ (pe_R σ a0 0) = 6 := by first | assumption | omega) (k : pe_M d 60 [.inr (.inr (pe_R σ a0 0)), .inl x4] σ (fun r σ' => pe_X d 76 (104, [some (.inr (.inr a0)), o1, some (.inl x2), some (.inl x3), some (.inl x4), o5], r.toList ++ [.inl x2, .inr (.inr (pe_R σ a0 1))], σ') Φ)) : pe_X d 76 (90, [some (.inr (.inr a0)), o1, some (.inl x2), some (.inl x3), some (.inl x4), o5], [], σ) Φ := by
  refine pe_blk 46 6 ck76 [pe_K σ a0 = 7, pe_K σ a0 = 7] (101, [some (.inr (.inr a0)), o1, some (.inl x2), some (.inl x3), some (.inl x4), o5], [.inl x4, .inr (.inr (pe_R σ a0 0)), .inl x2, .inr (.inr (pe_R σ a0 1))], σ) rfl ?_ ?_
  · first
    | (simp (disch := omega) only [pe_all, pe_K_wI, pe_K_wR]; done)
    | (simp (disch := omega) only [pe_all, pe_K_wI, pe_K_wR]; (repeat' apply And.intro) <;> first | assumption | omega | decide)
  · try simp (disch := omega) only [pe_K_wI, pe_K_wR]
    have hrc : pe_K σ (pe_R σ a0 0) = 6 := by first | assumption | (simp (disch := omega) only [pe_K_wI, pe_K_wR]; done) | (simp (disch := omega) only [pe_K_wI, pe_K_wR]; assumption)
    exact pe_cal 52 ck76 rfl rfl rfl ⟨hrc, by decide⟩ k
set_option maxRecDepth 8000 in
theorem b76_104 {d : Nat} {Φ : Option pe_V → pe_H → Prop} {σ : pe_H} {a0 : Nat} {o1 : Option pe_V} {x2 : Int} {x3 : Int} {x4 : Int} {o5 : Option pe_V} {b0 : Nat} {s1 : Int} {s2 : Int}   (h0 : pe_K σ a0 = 7 := by first | assumption | omega) (k : pe_M d 72 [.inr (.inr a0), .inl (x4 + 1)] σ (fun r σ' => pe_X d 76 (115, [some (.inr (.inr a0)), o1, some (.inl x2), some (.inl x3), some (.inl x4), o5], r.toList ++ [.inl (s2 * 10), .inl s1, .inr (.inr b0)], σ') Φ)) : pe_X d 76 (104, [some (.inr (.inr a0)), o1, some (.inl x2), some (.inl x3), some (.inl x4), o5], [.inl s2, .inl s1, .inr (.inr b0)], σ) Φ := by
  refine pe_blk 53 6 ck76 [] (112, [some (.inr (.inr a0)), o1, some (.inl x2), some (.inl x3), some (.inl x4), o5], [.inl (x4 + 1), .inr (.inr a0), .inl (s2 * 10), .inl s1, .inr (.inr b0)], σ) rfl ?_ ?_
  · exact trivial
  · try simp (disch := omega) only [pe_K_wI, pe_K_wR]
    have hrc : pe_K σ a0 = 7 := by first | assumption | (simp (disch := omega) only [pe_K_wI, pe_K_wR]; done) | (simp (disch := omega) only [pe_K_wI, pe_K_wR]; assumption)
    exact pe_cal 59 ck76 rfl rfl rfl ⟨hrc, by decide⟩ k
set_option maxRecDepth 8000 in
theorem b76_115 {d : Nat} {Φ : Option pe_V → pe_H → Prop} {σ : pe_H} {a0 : Nat} {o1 : Option pe_V} {x2 : Int} {x3 : Int} {x4 : Int} {o5 : Option pe_V} {b0 : Nat} {s1 : Int} {s2 : Int} {s3 : Int}  (w0 : pe_in s1 := by unfold pe_in; omega) (h0 : pe_K σ b0 = 10 := by first | assumption | omega) (h1 : 0 ≤ s1 := by first | assumption | omega) (h2 : s1 < pe_L σ b0 := by first | assumption | omega) (h3 : 2 ≤ b0 := by first | assumption | omega) (k : pe_X d 76 (120, [some (.inr (.inr a0)), o1, some (.inl x2), some (.inl x3), some (.inl (x4 + 1)), o5], [], pe_wI σ b0 s1 (s2 + s3)) Φ) : pe_X d 76 (115, [some (.inr (.inr a0)), o1, some (.inl x2), some (.inl x3), some (.inl x4), o5], [.inl s3, .inl s2, .inl s1, .inr (.inr b0)], σ) Φ := by
  refine pe_blk 60 3 ck76 [pe_K σ b0 = 10, 0 ≤ (pe_w s1), (pe_w s1) < pe_L σ b0, 2 ≤ b0] (120, [some (.inr (.inr a0)), o1, some (.inl x2), some (.inl x3), some (.inl (x4 + 1)), o5], [], pe_wI σ b0 (pe_w s1) (s2 + s3)) rfl ?_ ?_
  · first
    | (simp (disch := omega) only [pe_all, pe_wi w0, pe_K_wI, pe_K_wR, pe_L_wI, pe_L_wR]; done)
    | (simp (disch := omega) only [pe_all, pe_wi w0, pe_K_wI, pe_K_wR, pe_L_wI, pe_L_wR]; (repeat' apply And.intro) <;> first | assumption | omega | decide)
  · try simp (disch := omega) only [pe_wi w0, pe_K_wI, pe_K_wR, pe_L_wI, pe_L_wR]
    exact k
set_option maxRecDepth 8000 in
theorem b76_120 {d : Nat} {Φ : Option pe_V → pe_H → Prop} {σ : pe_H} {a0 : Nat} {o1 : Option pe_V} {x2 : Int} {x3 : Int} {x4 : Int} {o5 : Option pe_V}    (k : pe_X d 76 (7, [some (.inr (.inr a0)), pe_nl o1, some (.inl (x2 + 1)), some (.inl x3), some (.inl (x4 + 1)), o5], [], σ) Φ) : pe_X d 76 (120, [some (.inr (.inr a0)), o1, some (.inl x2), some (.inl x3), some (.inl x4), o5], [], σ) Φ := by
  refine pe_blk 63 3 ck76 [] (7, [some (.inr (.inr a0)), pe_nl o1, some (.inl (x2 + 1)), some (.inl x3), some (.inl (x4 + 1)), o5], [], σ) rfl ?_ ?_
  · exact trivial
  · exact k
set_option maxRecDepth 8000 in
theorem b76_129 {d : Nat} {Φ : Option pe_V → pe_H → Prop} {σ : pe_H} {a0 : Nat} {o1 : Option pe_V} {x2 : Int} {x3 : Int} {o4 : Option pe_V} {o5 : Option pe_V}   (h0 : pe_K (pe_new σ 4 0 2) a0 = 7 := by first | assumption | omega) (k : pe_M d 246 [.inr (.inr (pe_R (pe_new σ 4 0 2) a0 1)), .inl x2] (pe_new σ 4 0 2) (fun r σ' => pe_X d 76 (141, [some (.inr (.inr a0)), o1, some (.inl x2), some (.inl x3), o4, o5], r.toList ++ [.inr (.inr (pe_n σ)), .inr (.inr (pe_n σ))], σ') Φ)) : pe_X d 76 (129, [some (.inr (.inr a0)), o1, some (.inl x2), some (.inl x3), o4, o5], [], σ) Φ := by
  refine pe_blk 66 5 ck76 [pe_K (pe_new σ 4 0 2) a0 = 7] (138, [some (.inr (.inr a0)), o1, some (.inl x2), some (.inl x3), o4, o5], [.inl x2, .inr (.inr (pe_R (pe_new σ 4 0 2) a0 1)), .inr (.inr (pe_n σ)), .inr (.inr (pe_n σ))], pe_new σ 4 0 2) rfl ?_ ?_
  · first
    | (simp (disch := omega) only [pe_all, pe_K_wI, pe_K_wR]; done)
    | (simp (disch := omega) only [pe_all, pe_K_wI, pe_K_wR]; (repeat' apply And.intro) <;> first | assumption | omega | decide)
  · try simp (disch := omega) only [pe_K_wI, pe_K_wR]
    exact pe_cal 71 ck76 rfl rfl rfl trivial k
set_option maxRecDepth 8000 in
theorem b76_141 {d : Nat} {Φ : Option pe_V → pe_H → Prop} {σ : pe_H} {o0 : Option pe_V} {o1 : Option pe_V} {o2 : Option pe_V} {x3 : Int} {o4 : Option pe_V} {o5 : Option pe_V} {b0 : Nat} {b1 : Nat} {b2 : Nat}   (h0 : ¬ b1 = 0 := by first | assumption | omega) (k : pe_M d 48 [.inr (.inr b1), .inr (.inr b2), .inl x3] σ (fun r σ' => pe_X d 76 (145, [o0, o1, o2, some (.inl x3), o4, o5], r.toList ++ [.inr (.inr b0)], σ') Φ)) : pe_X d 76 (141, [o0, o1, o2, some (.inl x3), o4, o5], [.inr (.inr b2), .inr (.inr b1), .inr (.inr b0)], σ) Φ := by
  refine pe_blk 72 1 ck76 [] (142, [o0, o1, o2, some (.inl x3), o4, o5], [.inl x3, .inr (.inr b2), .inr (.inr b1), .inr (.inr b0)], σ) rfl ?_ ?_
  · exact trivial
  · exact pe_cal 73 ck76 rfl rfl rfl (show ¬ _ = 0 by assumption) k
set_option maxRecDepth 8000 in
theorem b76_145 {d : Nat} {Φ : Option pe_V → pe_H → Prop} {σ : pe_H} {o0 : Option pe_V} {o1 : Option pe_V} {o2 : Option pe_V} {o3 : Option pe_V} {o4 : Option pe_V} {o5 : Option pe_V} {b0 : Nat}    (k : Φ (some (.inr (.inr b0))) σ) : pe_X d 76 (145, [o0, o1, o2, o3, o4, o5], [.inr (.inr b0)], σ) Φ := by
  exact pe_fine 74 ck76 rfl rfl rfl trivial k
-- StepMachines$Text.isComingDone(ILStepMachines$Machine;)Z
def T77 : List (Nat × Instr × Nat) := [(0, .aload_n 0, 1), (1, .iload_n 1, 1), (2, .iconst 1, 1), (3, .iadd, 1), (4, .invokevirtual 49, 3), (7, .istore_n 3, 1), (8, .aload_n 0, 1), (9, .iload_n 1, 1), (10, .iconst 2, 1), (11, .iadd, 1), (12, .invokevirtual 49, 3), (15, .istore 4, 2), (17, .iload_n 3, 1), (18, .iconst 5, 1), (19, .if_icmp .ge 9, 3), (22, .iload 4, 2), (24, .iconst 5, 1), (25, .if_icmp .le 5, 3), (28, .iconst 0, 1), (29, .ireturn, 1), (30, .aload_n 2, 1), (31, .iload_n 3, 1), (32, .new 114, 3), (35, .dup, 1), (36, .iload 4, 2), (38, .aload_n 0, 1), (39, .iload_n 1, 1), (40, .iconst 3, 1), (41, .iadd, 1), (42, .invokevirtual 49, 3), (45, .invokespecial 116, 3), (48, .invokevirtual 118, 3), (51, .ifCond .lt 7, 3), (54, .iconst 1, 1), (55, .goto 4, 3), (58, .iconst 0, 1), (59, .ireturn, 1)]
theorem ck77 : pe_ctx 77 7 false (some .boolean) 5 T77 := ⟨rfl, rfl, rfl, rfl, by decide +kernel, by decide, by decide⟩
theorem b77_0 {d : Nat} {Φ : Option pe_V → pe_H → Prop} {σ : pe_H} {a0 : Nat} {x1 : Int} {a2 : Nat} {o3 : Option pe_V} {o4 : Option pe_V} (f_a2 : pk_Fm a2 σ := by assumption)  (h0 : pe_K σ a0 = 7 := by first | assumption | omega) (k : pe_M d 72 [.inr (.inr a0), .inl (x1 + 1)] σ (fun r σ' => pe_X d 77 (7, [some (.inr (.inr a0)), some (.inl x1), some (.inr (.inr a2)), o3, o4], r.toList ++ [], σ') Φ)) : pe_X d 77 (0, [some (.inr (.inr a0)), some (.inl x1), some (.inr (.inr a2)), o3, o4], [], σ) Φ := by
  refine pe_blk 0 4 ck77 [] (4, [some (.inr (.inr a0)), some (.inl x1), some (.inr (.inr a2)), o3, o4], [.inl (x1 + 1), .inr (.inr a0)], σ) rfl ?_ ?_
  · exact trivial
  · try simp (disch := omega) only [pe_K_wI, pe_K_wR]
    have hrc : pe_K σ a0 = 7 := by first | assumption | (simp (disch := omega) only [pe_K_wI, pe_K_wR]; done) | (simp (disch := omega) only [pe_K_wI, pe_K_wR]; assumption)
    exact pe_cal 4 ck77 rfl rfl rfl ⟨hrc, by decide⟩ k
theorem b77_7 {d : Nat} {Φ : Option pe_V → pe_H → Prop} {σ : pe_H} {a0 : Nat} {x1 : Int} {a2 : Nat} {o3 : Option pe_V} {o4 : Option pe_V} {s0 : Int} (f_a2 : pk_Fm a2 σ := by assumption)  (h0 : pe_K σ a0 = 7 := by first | assumption | omega) (k : pe_M d 72 [.inr (.inr a0), .inl (x1 + 2)] σ (fun r σ' => pe_X d 77 (15, [some (.inr (.inr a0)), some (.inl x1), some (.inr (.inr a2)), some (.inl s0), o4], r.toList ++ [], σ') Φ)) : pe_X d 77 (7, [some (.inr (.inr a0)), some (.inl x1), some (.inr (.inr a2)), o3, o4], [.inl s0], σ) Φ := by
  refine pe_blk 5 5 ck77 [] (12, [some (.inr (.inr a0)), some (.inl x1), some (.inr (.inr a2)), some (.inl s0), o4], [.inl (x1 + 2), .inr (.inr a0)], σ) rfl ?_ ?_
  · exact trivial
  · try simp (disch := omega) only [pe_K_wI, pe_K_wR]
    have hrc : pe_K σ a0 = 7 := by first | assumption | (simp (disch := omega) only [pe_K_wI, pe_K_wR]; done) | (simp (disch := omega) only [pe_K_wI, pe_K_wR]; assumption)
    exact pe_cal 10 ck77 rfl rfl rfl ⟨hrc, by decide⟩ k
theorem b77_15 {d : Nat} {Φ : Option pe_V → pe_H → Prop} {σ : pe_H} {a0 : Nat} {x1 : Int} {a2 : Nat} {x3 : Int} {o4 : Option pe_V} {s0 : Int} (f_a2 : pk_Fm a2 σ := by assumption) (w0 : pe_in x3 := by unfold pe_in; omega)  (k1 : 5 ≤ x3 → pe_X d 77 (28, [some (.inr (.inr a0)), some (.inl x1), some (.inr (.inr a2)), some (.inl x3), some (.inl s0)], [], σ) Φ) (k2 : ¬ (5 ≤ x3) → pe_X d 77 (22, [some (.inr (.inr a0)), some (.inl x1), some (.inr (.inr a2)), some (.inl x3), some (.inl s0)], [], σ) Φ) : pe_X d 77 (15, [some (.inr (.inr a0)), some (.inl x1), some (.inr (.inr a2)), some (.inl x3), o4], [.inl s0], σ) Φ := by
  refine pe_blk 11 4 ck77 [] (cond (decide ((pe_w 5) ≤ (pe_w x3))) 28 22, [some (.inr (.inr a0)), some (.inl x1), some (.inr (.inr a2)), some (.inl x3), some (.inl s0)], [], σ) rfl ?_ ?_
  · exact trivial
  · try simp (disch := omega) only [pe_wi w0, pe_wi (x := 5) ⟨by decide, by decide⟩]
    exact pe_two k1 k2
theorem b77_22 {d : Nat} {Φ : Option pe_V → pe_H → Prop} {σ : pe_H} {a0 : Nat} {x1 : Int} {a2 : Nat} {x3 : Int} {x4 : Int} (f_a2 : pk_Fm a2 σ := by assumption) (w0 : pe_in x4 := by unfold pe_in; omega)  (k1 : x4 ≤ 5 → pe_X d 77 (30, [some (.inr (.inr a0)), some (.inl x1), some (.inr (.inr a2)), some (.inl x3), some (.inl x4)], [], σ) Φ) (k2 : ¬ (x4 ≤ 5) → pe_X d 77 (28, [some (.inr (.inr a0)), some (.inl x1), some (.inr (.inr a2)), some (.inl x3), some (.inl x4)], [], σ) Φ) : pe_X d 77 (22, [some (.inr (.inr a0)), some (.inl x1), some (.inr (.inr a2)), some (.inl x3), some (.inl x4)], [], σ) Φ := by
  refine pe_blk 15 3 ck77 [] (cond (decide ((pe_w x4) ≤ (pe_w 5))) 30 28, [some (.inr (.inr a0)), some (.inl x1), some (.inr (.inr a2)), some (.inl x3), some (.inl x4)], [], σ) rfl ?_ ?_
  · exact trivial
  · try simp (disch := omega) only [pe_wi w0, pe_wi (x := 5) ⟨by decide, by decide⟩]
    exact pe_two k1 k2
theorem b77_28 {d : Nat} {Φ : Option pe_V → pe_H → Prop} {σ : pe_H} {o0 : Option pe_V} {o1 : Option pe_V} {o2 : Option pe_V} {o3 : Option pe_V} {o4 : Option pe_V}    (k : Φ (some (.inl 0)) σ) : pe_X d 77 (28, [o0, o1, o2, o3, o4], [], σ) Φ := by
  refine pe_blk 18 1 ck77 [] (29, [o0, o1, o2, o3, o4], [.inl 0], σ) rfl ?_ ?_
  · exact trivial
  · exact pe_fine 19 ck77 rfl rfl rfl (Or.inl rfl) k
theorem b77_30 {d : Nat} {Φ : Option pe_V → pe_H → Prop} {σ : pe_H} {a0 : Nat} {x1 : Int} {a2 : Nat} {x3 : Int} {x4 : Int} (f_a2 : pk_Fm a2 σ := by assumption)  (h0 : pe_K (pe_new σ 3 0 2) a0 = 7 := by first | assumption | omega) (k : pe_M d 72 [.inr (.inr a0), .inl (x1 + 3)] (pe_new σ 3 0 2) (fun r σ' => pe_X d 77 (45, [some (.inr (.inr a0)), some (.inl x1), some (.inr (.inr a2)), some (.inl x3), some (.inl x4)], r.toList ++ [.inl x4, .inr (.inr (pe_n σ)), .inr (.inr (pe_n σ)), .inl x3, .inr (.inr a2)], σ') Φ)) : pe_X d 77 (30, [some (.inr (.inr a0)), some (.inl x1), some (.inr (.inr a2)), some (.inl x3), some (.inl x4)], [], σ) Φ := by
  refine pe_blk 20 9 ck77 [] (42, [some (.inr (.inr a0)), some (.inl x1), some (.inr (.inr a2)), some (.inl x3), some (.inl x4)], [.inl (x1 + 3), .inr (.inr a0), .inl x4, .inr (.inr (pe_n σ)), .inr (.inr (pe_n σ)), .inl x3, .inr (.inr a2)], pe_new σ 3 0 2) rfl ?_ ?_
  · exact trivial
  · try simp (disch := omega) only [pe_K_wI, pe_K_wR]
    have hrc : pe_K (pe_new σ 3 0 2) a0 = 7 := by first | assumption | (simp (disch := omega) only [pe_K_wI, pe_K_wR]; done) | (simp (disch := omega) only [pe_K_wI, pe_K_wR]; assumption)
    exact pe_cal 29 ck77 rfl rfl rfl ⟨hrc, by decide⟩ k
theorem b77_45 {d : Nat} {Φ : Option pe_V → pe_H → Prop} {σ : pe_H} {o0 : Option pe_V} {o1 : Option pe_V} {o2 : Option pe_V} {o3 : Option pe_V} {o4 : Option pe_V} {b0 : Nat} {s1 : Int} {b2 : Nat} {b3 : Nat} {s4 : Int} {s5 : Int} (f_b0 : pk_Fm b0 σ := by assumption)  (h0 : ¬ b3 = 0 := by first | assumption | omega) (k : pe_M d 41 [.inr (.inr b3), .inl s4, .inl s5] σ (fun r σ' => pe_X d 77 (48, [o0, o1, o2, o3, o4], r.toList ++ [.inr (.inr b2), .inl s1, .inr (.inr b0)], σ') Φ)) : pe_X d 77 (45, [o0, o1, o2, o3, o4], [.inl s5, .inl s4, .inr (.inr b3), .inr (.inr b2), .inl s1, .inr (.inr b0)], σ) Φ := by
  exact pe_cal 30 ck77 rfl rfl rfl (show ¬ _ = 0 by assumption) k
theorem b77_48 {d : Nat} {Φ : Option pe_V → pe_H → Prop} {σ : pe_H} {o0 : Option pe_V} {o1 : Option pe_V} {o2 : Option pe_V} {o3 : Option pe_V} {o4 : Option pe_V} {b0 : Nat} {s1 : Int} {b2 : Nat} (f_b0 : pk_Fm b0 σ := by assumption)   (k : pe_M d 24 [.inr (.inr b0), .inl s1, .inr (.inr b2)] σ (fun r σ' => pe_X d 77 (51, [o0, o1, o2, o3, o4], r.toList ++ [], σ') Φ)) : pe_X d 77 (48, [o0, o1, o2, o3, o4], [.inr (.inr b2), .inl s1, .inr (.inr b0)], σ) Φ := by
  have hrc : pe_K σ b0 = 2 := by first | assumption | (simp (disch := omega) only [pe_K_wI, pe_K_wR, pk_mK f_b0]; done) | (simp (disch := omega) only [pe_K_wI, pe_K_wR, pk_mK f_b0]; assumption)
  exact pe_cal 31 ck77 rfl rfl rfl ⟨hrc, by decide⟩ k
theorem b77_51 {d : Nat} {Φ : Option pe_V → pe_H → Prop} {σ : pe_H} {o0 : Option pe_V} {o1 : Option pe_V} {o2 : Option pe_V} {o3 : Option pe_V} {o4 : Option pe_V} {s0 : Int}  (w0 : pe_in s0 := by unfold pe_in; omega)  (k1 : s0 < 0 → pe_X d 77 (58, [o0, o1, o2, o3, o4], [], σ) Φ) (k2 : ¬ (s0 < 0) → pe_X d 77 (54, [o0, o1, o2, o3, o4], [], σ) Φ) : pe_X d 77 (51, [o0, o1, o2, o3, o4], [.inl s0], σ) Φ := by
  refine pe_blk 32 1 ck77 [] (cond (decide ((pe_w s0) < 0)) 58 54, [o0, o1, o2, o3, o4], [], σ) rfl ?_ ?_
  · exact trivial
  · try simp (disch := omega) only [pe_wi w0]
    exact pe_two k1 k2
theorem b77_54 {d : Nat} {Φ : Option pe_V → pe_H → Prop} {σ : pe_H} {o0 : Option pe_V} {o1 : Option pe_V} {o2 : Option pe_V} {o3 : Option pe_V} {o4 : Option pe_V}    (k : pe_X d 77 (59, [o0, o1, o2, o3, o4], [.inl 1], σ) Φ) : pe_X d 77 (54, [o0, o1, o2, o3, o4], [], σ) Φ := by
  refine pe_blk 33 2 ck77 [] (59, [o0, o1, o2, o3, o4], [.inl 1], σ) rfl ?_ ?_
  · exact trivial
  · exact k
theorem b77_58 {d : Nat} {Φ : Option pe_V → pe_H → Prop} {σ : pe_H} {o0 : Option pe_V} {o1 : Option pe_V} {o2 : Option pe_V} {o3 : Option pe_V} {o4 : Option pe_V}    (k : pe_X d 77 (59, [o0, o1, o2, o3, o4], [.inl 0], σ) Φ) : pe_X d 77 (58, [o0, o1, o2, o3, o4], [], σ) Φ := by
  refine pe_blk 35 1 ck77 [] (59, [o0, o1, o2, o3, o4], [.inl 0], σ) rfl ?_ ?_
  · exact trivial
  · exact k
theorem b77_59 {d : Nat} {Φ : Option pe_V → pe_H → Prop} {σ : pe_H} {o0 : Option pe_V} {o1 : Option pe_V} {o2 : Option pe_V} {o3 : Option pe_V} {o4 : Option pe_V} {s0 : Int}   (h0 : s0 = 0 ∨ s0 = 1 := by first | assumption | omega) (k : Φ (some (.inl s0)) σ) : pe_X d 77 (59, [o0, o1, o2, o3, o4], [.inl s0], σ) Φ := by
  exact pe_fine 36 ck77 rfl rfl rfl h0 k
-- StepMachines$Text.areRoundsDone(ILStepMachines$Machine;)Z
def T78 : List (Nat × Instr × Nat) := [(0, .iload_n 1, 1), (1, .iconst 1, 1), (2, .if_icmp .lt 21, 3), (5, .iload_n 1, 1), (6, .bipush 60, 2), (8, .if_icmp .gt 15, 3), (11, .aload_n 2, 1), (12, .getfield 122, 3), (15, .iload_n 1, 1), (16, .iadd, 1), (17, .sipush 999, 3), (20, .if_icmp .le 5, 3), (23, .iconst 0, 1), (24, .ireturn, 1), (25, .iconst 0, 1), (26, .istore_n 3, 1), (27, .iload_n 3, 1), (28, .iload_n 1, 1), (29, .if_icmp .ge 14, 3), (32, .aload_n 2, 1), (33, .invokevirtual 125, 3), (36, .pop, 1), (37, .iinc 3 1, 3), (40, .goto (-13), 3), (43, .iconst 1, 1), (44, .ireturn, 1)]
theorem ck78 : pe_ctx 78 7 false (some .boolean) 4 T78 := ⟨rfl, rfl, rfl, rfl, by decide +kernel, by decide, by decide⟩
theorem b78_0 {d : Nat} {Φ : Option pe_V → pe_H → Prop} {σ : pe_H} {o0 : Option pe_V} {x1 : Int} {a2 : Nat} {o3 : Option pe_V} (f_a2 : pk_Fm a2 σ := by assumption) (w0 : pe_in x1 := by unfold pe_in; omega)  (k1 : x1 < 1 → pe_X d 78 (23, [o0, some (.inl x1), some (.inr (.inr a2)), o3], [], σ) Φ) (k2 : ¬ (x1 < 1) → pe_X d 78 (5, [o0, some (.inl x1), some (.inr (.inr a2)), o3], [], σ) Φ) : pe_X d 78 (0, [o0, some (.inl x1), some (.inr (.inr a2)), o3], [], σ) Φ := by
  refine pe_blk 0 3 ck78 [] (cond (decide ((pe_w x1) < (pe_w 1))) 23 5, [o0, some (.inl x1), some (.inr (.inr a2)), o3], [], σ) rfl ?_ ?_
  · exact trivial
  · try simp (disch := omega) only [pe_wi w0, pe_wi (x := 1) ⟨by decide, by decide⟩]
    exact pe_two k1 k2
theorem b78_5 {d : Nat} {Φ : Option pe_V → pe_H → Prop} {σ : pe_H} {o0 : Option pe_V} {x1 : Int} {a2 : Nat} {o3 : Option pe_V} (f_a2 : pk_Fm a2 σ := by assumption) (w0 : pe_in x1 := by unfold pe_in; omega)  (k1 : 60 < x1 → pe_X d 78 (23, [o0, some (.inl x1), some (.inr (.inr a2)), o3], [], σ) Φ) (k2 : ¬ (60 < x1) → pe_X d 78 (11, [o0, some (.inl x1), some (.inr (.inr a2)), o3], [], σ) Φ) : pe_X d 78 (5, [o0, some (.inl x1), some (.inr (.inr a2)), o3], [], σ) Φ := by
  refine pe_blk 3 3 ck78 [] (cond (decide ((pe_w 60) < (pe_w x1))) 23 11, [o0, some (.inl x1), some (.inr (.inr a2)), o3], [], σ) rfl ?_ ?_
  · exact trivial
  · try simp (disch := omega) only [pe_wi w0, pe_wi (x := 60) ⟨by decide, by decide⟩]
    exact pe_two k1 k2
theorem b78_11 {d : Nat} {Φ : Option pe_V → pe_H → Prop} {σ : pe_H} {o0 : Option pe_V} {x1 : Int} {a2 : Nat} {o3 : Option pe_V} (f_a2 : pk_Fm a2 σ := by assumption) (w0 : pe_in ((pe_I σ a2 6) + x1) := by unfold pe_in; omega)  (k1 : ((pe_I σ a2 6) + x1) ≤ 999 → pe_X d 78 (25, [o0, some (.inl x1), some (.inr (.inr a2)), o3], [], σ) Φ) (k2 : ¬ (((pe_I σ a2 6) + x1) ≤ 999) → pe_X d 78 (23, [o0, some (.inl x1), some (.inr (.inr a2)), o3], [], σ) Φ) : pe_X d 78 (11, [o0, some (.inl x1), some (.inr (.inr a2)), o3], [], σ) Φ := by
  refine pe_blk 6 6 ck78 [pe_K σ a2 = 2] (cond (decide ((pe_w ((pe_I σ a2 6) + x1)) ≤ (pe_w 999))) 25 23, [o0, some (.inl x1), some (.inr (.inr a2)), o3], [], σ) rfl ?_ ?_
  · first
    | (simp (disch := omega) only [pe_all, pe_wi w0, pe_wi (x := 999) ⟨by decide, by decide⟩, pe_K_wI, pe_K_wR, pk_mK f_a2]; done)
    | (simp (disch := omega) only [pe_all, pe_wi w0, pe_wi (x := 999) ⟨by decide, by decide⟩, pe_K_wI, pe_K_wR, pk_mK f_a2]; (repeat' apply And.intro) <;> first | assumption | omega | decide)
  · try simp (disch := omega) only [pe_wi w0, pe_wi (x := 999) ⟨by decide, by decide⟩, pe_K_wI, pe_K_wR, pk_mK f_a2]
    exact pe_two k1 k2
theorem b78_23 {d : Nat} {Φ : Option pe_V → pe_H → Prop} {σ : pe_H} {o0 : Option pe_V} {o1 : Option pe_V} {o2 : Option pe_V} {o3 : Option pe_V}    (k : Φ (some (.inl 0)) σ) : pe_X d 78 (23, [o0, o1, o2, o3], [], σ) Φ := by
  refine pe_blk 12 1 ck78 [] (24, [o0, o1, o2, o3], [.inl 0], σ) rfl ?_ ?_
  · exact trivial
  · exact pe_fine 13 ck78 rfl rfl rfl (Or.inl rfl) k
theorem b78_25 {d : Nat} {Φ : Option pe_V → pe_H → Prop} {σ : pe_H} {o0 : Option pe_V} {x1 : Int} {a2 : Nat} {o3 : Option pe_V} (f_a2 : pk_Fm a2 σ := by assumption)   (k : pe_X d 78 (27, [o0, some (.inl x1), some (.inr (.inr a2)), some (.inl 0)], [], σ) Φ) : pe_X d 78 (25, [o0, some (.inl x1), some (.inr (.inr a2)), o3], [], σ) Φ := by
  refine pe_blk 14 2 ck78 [] (27, [o0, some (.inl x1), some (.inr (.inr a2)), some (.inl 0)], [], σ) rfl ?_ ?_
  · exact trivial
  · exact k
theorem b78_27 {d : Nat} {Φ : Option pe_V → pe_H → Prop} {σ : pe_H} {o0 : Option pe_V} {x1 : Int} {a2 : Nat} {x3 : Int} (f_a2 : pk_Fm a2 σ := by assumption) (w0 : pe_in x1 := by unfold pe_in; omega) (w1 : pe_in x3 := by unfold pe_in; omega)  (k1 : x1 ≤ x3 → pe_X d 78 (43, [o0, some (.inl x1), some (.inr (.inr a2)), some (.inl x3)], [], σ) Φ) (k2 : ¬ (x1 ≤ x3) → pe_X d 78 (32, [o0, some (.inl x1), some (.inr (.inr a2)), some (.inl x3)], [], σ) Φ) : pe_X d 78 (27, [o0, some (.inl x1), some (.inr (.inr a2)), some (.inl x3)], [], σ) Φ := by
  refine pe_blk 16 3 ck78 [] (cond (decide ((pe_w x1) ≤ (pe_w x3))) 43 32, [o0, some (.inl x1), some (.inr (.inr a2)), some (.inl x3)], [], σ) rfl ?_ ?_
  · exact trivial
  · try simp (disch := omega) only [pe_wi w0, pe_wi w1]
    exact pe_two k1 k2
theorem b78_32 {d : Nat} {Φ : Option pe_V → pe_H → Prop} {σ : pe_H} {o0 : Option pe_V} {x1 : Int} {a2 : Nat} {x3 : Int} (f_a2 : pk_Fm a2 σ := by assumption)   (k : pe_M d 28 [.inr (.inr a2)] σ (fun r σ' => pe_X d 78 (36, [o0, some (.inl x1), some (.inr (.inr a2)), some (.inl x3)], r.toList ++ [], σ') Φ)) : pe_X d 78 (32, [o0, some (.inl x1), some (.inr (.inr a2)), some (.inl x3)], [], σ) Φ := by
  refine pe_blk 19 1 ck78 [] (33, [o0, some (.inl x1), some (.inr (.inr a2)), some (.inl x3)], [.inr (.inr a2)], σ) rfl ?_ ?_
  · exact trivial
  · try simp (disch := omega) only [pe_K_wI, pe_K_wR, pk_mK f_a2]
    have hrc : pe_K σ a2 = 2 := by first | assumption | (simp (disch := omega) only [pe_K_wI, pe_K_wR, pk_mK f_a2]; done) | (simp (disch := omega) only [pe_K_wI, pe_K_wR, pk_mK f_a2]; assumption)
    exact pe_cal 20 ck78 rfl rfl rfl ⟨hrc, by decide⟩ k
theorem b78_36 {d : Nat} {Φ : Option pe_V → pe_H → Prop} {σ : pe_H} {o0 : Option pe_V} {x1 : Int} {a2 : Nat} {x3 : Int} {s0 : Int} (f_a2 : pk_Fm a2 σ := by assumption)   (k : pe_X d 78 (27, [o0, some (.inl x1), some (.inr (.inr a2)), some (.inl (x3 + 1))], [], σ) Φ) : pe_X d 78 (36, [o0, some (.inl x1), some (.inr (.inr a2)), some (.inl x3)], [.inl s0], σ) Φ := by
  refine pe_blk 21 3 ck78 [] (27, [o0, some (.inl x1), some (.inr (.inr a2)), some (.inl (x3 + 1))], [], σ) rfl ?_ ?_
  · exact trivial
  · exact k
theorem b78_43 {d : Nat} {Φ : Option pe_V → pe_H → Prop} {σ : pe_H} {o0 : Option pe_V} {o1 : Option pe_V} {o2 : Option pe_V} {o3 : Option pe_V}    (k : Φ (some (.inl 1)) σ) : pe_X d 78 (43, [o0, o1, o2, o3], [], σ) Φ := by
  refine pe_blk 24 1 ck78 [] (44, [o0, o1, o2, o3], [.inl 1], σ) rfl ?_ ?_
  · exact trivial
  · exact pe_fine 25 ck78 rfl rfl rfl (Or.inr rfl) k
-- StepMachines.text(I)I
def T80 : List (Nat × Instr × Nat) := [(0, .aload_n 0, 1), (1, .iload_n 1, 1), (2, .invokevirtual 50, 3), (5, .istore_n 2, 1), (6, .iload_n 2, 1), (7, .ifCond .eq 5, 3), (10, .iload_n 2, 1), (11, .ireturn, 1), (12, .aload_n 0, 1), (13, .getfield 31, 3), (16, .iload_n 1, 1), (17, .aaload, 1), (18, .getfield 54, 3), (21, .ifCond .eq 6, 3), (24, .bipush (-12), 2), (26, .ireturn, 1), (27, .new 57, 3), (30, .dup, 1), (31, .aload_n 0, 1), (32, .getfield 31, 3), (35, .iload_n 1, 1), (36, .aaload, 1), (37, .invokespecial 59, 3), (40, .astore_n 3, 1), (41, .aload_n 3, 1), (42, .invokevirtual 62, 3), (45, .istore 4, 2), (47, .iload 4, 2), (49, .ifCond .ge 6, 3), (52, .iload 4, 2), (54, .ireturn, 1), (55, .aload_n 0, 1), (56, .invokevirtual 66, 3), (59, .astore 5, 2), (61, .iconst 0, 1), (62, .istore 6, 2), (64, .iconst 0, 1), (65, .istore 7, 2), (67, .iload 7, 2), (69, .iload 4, 2), (71, .if_icmp .ge 35, 3), (74, .aload_n 3, 1), (75, .iload 6, 2), (77, .aload 5, 2), (79, .invokevirtual 70, 3), (82, .ifCond .ne 10, 3), (85, .sipush (-2000), 3), (88, .iload 6, 2), (90, .isub, 1), (91, .ireturn, 1), (92, .aload_n 3, 1), (93, .iload 6, 2), (95, .invokevirtual 74, 3), (98, .istore 6, 2), (100, .iinc 7 1, 3), (103, .goto (-36), 3), (106, .aload_n 0, 1), (107, .getfield 10, 3), (110, .aload 5, 2), (112, .invokevirtual 77, 3), (115, .iload 4, 2), (117, .ireturn, 1)]
theorem ck80 : pe_ctx 80 8 false (some .int) 8 T80 := ⟨rfl, rfl, rfl, rfl, by decide +kernel, by decide, by decide⟩
theorem b80_0 {d : Nat} {Φ : Option pe_V → pe_H → Prop} {σ : pe_H} {a0 : Nat} {x1 : Int} {o2 : Option pe_V} {o3 : Option pe_V} {o4 : Option pe_V} {o5 : Option pe_V} {o6 : Option pe_V} {o7 : Option pe_V} (f_a0 : pk_Fs a0 σ := by assumption)   (k : pe_M d 119 [.inr (.inr a0), .inl x1] σ (fun r σ' => pe_X d 80 (5, [some (.inr (.inr a0)), some (.inl x1), o2, o3, o4, o5, o6, o7], r.toList ++ [], σ') Φ)) : pe_X d 80 (0, [some (.inr (.inr a0)), some (.inl x1), o2, o3, o4, o5, o6, o7], [], σ) Φ := by
  refine pe_blk 0 2 ck80 [] (2, [some (.inr (.inr a0)), some (.inl x1), o2, o3, o4, o5, o6, o7], [.inl x1, .inr (.inr a0)], σ) rfl ?_ ?_
  · exact trivial
  · try simp (disch := omega) only [pe_K_wI, pe_K_wR, pk_sK f_a0]
    have hrc : pe_K σ a0 = 8 := by first | assumption | (simp (disch := omega) only [pe_K_wI, pe_K_wR, pk_sK f_a0]; done) | (simp (disch := omega) only [pe_K_wI, pe_K_wR, pk_sK f_a0]; assumption)
    exact pe_cal 2 ck80 rfl rfl rfl ⟨hrc, by decide⟩ k
theorem b80_5 {d : Nat} {Φ : Option pe_V → pe_H → Prop} {σ : pe_H} {a0 : Nat} {x1 : Int} {o2 : Option pe_V} {o3 : Option pe_V} {o4 : Option pe_V} {o5 : Option pe_V} {o6 : Option pe_V} {o7 : Option pe_V} {s0 : Int} (f_a0 : pk_Fs a0 σ := by assumption) (w0 : pe_in s0 := by unfold pe_in; omega)  (k1 : s0 = 0 → pe_X d 80 (12, [some (.inr (.inr a0)), some (.inl x1), some (.inl s0), o3, o4, o5, o6, o7], [], σ) Φ) (k2 : ¬ (s0 = 0) → pe_X d 80 (10, [some (.inr (.inr a0)), some (.inl x1), some (.inl s0), o3, o4, o5, o6, o7], [], σ) Φ) : pe_X d 80 (5, [some (.inr (.inr a0)), some (.inl x1), o2, o3, o4, o5, o6, o7], [.inl s0], σ) Φ := by
  refine pe_blk 3 3 ck80 [] (cond (decide ((pe_w s0) = 0)) 12 10, [some (.inr (.inr a0)), some (.inl x1), some (.inl s0), o3, o4, o5, o6, o7], [], σ) rfl ?_ ?_
  · exact trivial
  · try simp (disch := omega) only [pe_wi w0]
    exact pe_two k1 k2
theorem b80_10 {d : Nat} {Φ : Option pe_V → pe_H → Prop} {σ : pe_H} {o0 : Option pe_V} {o1 : Option pe_V} {x2 : Int} {o3 : Option pe_V} {o4 : Option pe_V} {o5 : Option pe_V} {o6 : Option pe_V} {o7 : Option pe_V}    (k : Φ (some (.inl x2)) σ) : pe_X d 80 (10, [o0, o1, some (.inl x2), o3, o4, o5, o6, o7], [], σ) Φ := by
  refine pe_blk 6 1 ck80 [] (11, [o0, o1, some (.inl x2), o3, o4, o5, o6, o7], [.inl x2], σ) rfl ?_ ?_
  · exact trivial
  · exact pe_fine 7 ck80 rfl rfl rfl trivial k
theorem b80_12 {d : Nat} {Φ : Option pe_V → pe_H → Prop} {σ : pe_H} {a0 : Nat} {x1 : Int} {o2 : Option pe_V} {o3 : Option pe_V} {o4 : Option pe_V} {o5 : Option pe_V} {o6 : Option pe_V} {o7 : Option pe_V} (f_a0 : pk_Fs a0 σ := by assumption) (w0 : pe_in x1 := by unfold pe_in; omega) (w1 : pe_in (pe_I σ (pe_R σ (a0 + 177) x1) 0) := by unfold pe_in; omega) (h0 : 0 ≤ x1 := by first | assumption | omega) (h1 : x1 < 8 := by first | assumption | omega) (h2 : pe_K σ (pe_R σ (a0 + 177) x1) = 6 := by first | assumption | omega) (k1 : (pe_I σ (pe_R σ (a0 + 177) x1) 0) = 0 → pe_X d 80 (27, [some (.inr (.inr a0)), some (.inl x1), o2, o3, o4, o5, o6, o7], [], σ) Φ) (k2 : ¬ ((pe_I σ (pe_R σ (a0 + 177) x1) 0) = 0) → pe_X d 80 (24, [some (.inr (.inr a0)), some (.inl x1), o2, o3, o4, o5, o6, o7], [], σ) Φ) : pe_X d 80 (12, [some (.inr (.inr a0)), some (.inl x1), o2, o3, o4, o5, o6, o7], [], σ) Φ := by
  refine pe_blk 8 6 ck80 [pe_K σ a0 = 8, 12 ≤ pe_K σ (pe_R σ a0 4) ∧ pe_K σ (pe_R σ a0 4) < 19, 0 ≤ (pe_w x1), (pe_w x1) < pe_L σ (pe_R σ a0 4), pe_K σ (pe_R σ (pe_R σ a0 4) (pe_w x1)) = 6] (cond (decide ((pe_w (pe_I σ (pe_R σ (pe_R σ a0 4) (pe_w x1)) 0)) = 0)) 27 24, [some (.inr (.inr a0)), some (.inl x1), o2, o3, o4, o5, o6, o7], [], σ) rfl ?_ ?_
  · first
    | (simp (disch := omega) only [pe_all, pe_wi w0, pe_wi w1, pe_K_wI, pe_K_wR, pe_L_wI, pe_L_wR, pe_R_nej, pe_R_ner, pe_R_wI, pk_sK f_a0, pk_sK4 f_a0, pk_sL4 f_a0, pk_sR4 f_a0]; done)
    | (simp (disch := omega) only [pe_all, pe_wi w0, pe_wi w1, pe_K_wI, pe_K_wR, pe_L_wI, pe_L_wR, pe_R_nej, pe_R_ner, pe_R_wI, pk_sK f_a0, pk_sK4 f_a0, pk_sL4 f_a0, pk_sR4 f_a0]; (repeat' apply And.intro) <;> first | assumption | omega | decide)
  · try simp (disch := omega) only [pe_wi w0, pe_wi w1, pe_K_wI, pe_K_wR, pe_L_wI, pe_L_wR, pe_R_nej, pe_R_ner, pe_R_wI, pk_sK f_a0, pk_sK4 f_a0, pk_sL4 f_a0, pk_sR4 f_a0]
    exact pe_two k1 k2
theorem b80_24 {d : Nat} {Φ : Option pe_V → pe_H → Prop} {σ : pe_H} {o0 : Option pe_V} {o1 : Option pe_V} {o2 : Option pe_V} {o3 : Option pe_V} {o4 : Option pe_V} {o5 : Option pe_V} {o6 : Option pe_V} {o7 : Option pe_V}    (k : Φ (some (.inl (-12))) σ) : pe_X d 80 (24, [o0, o1, o2, o3, o4, o5, o6, o7], [], σ) Φ := by
  refine pe_blk 14 1 ck80 [] (26, [o0, o1, o2, o3, o4, o5, o6, o7], [.inl (-12)], σ) rfl ?_ ?_
  · exact trivial
  · exact pe_fine 15 ck80 rfl rfl rfl trivial k
theorem b80_27 {d : Nat} {Φ : Option pe_V → pe_H → Prop} {σ : pe_H} {a0 : Nat} {x1 : Int} {o2 : Option pe_V} {o3 : Option pe_V} {o4 : Option pe_V} {o5 : Option pe_V} {o6 : Option pe_V} {o7 : Option pe_V} (f_a0 : pk_Fs a0 σ := by assumption) (w0 : pe_in x1 := by unfold pe_in; omega) (h0 : pe_K (pe_new σ 7 0 2) a0 = 8 := by first | assumption | omega) (h1 : 12 ≤ pe_K (pe_new σ 7 0 2) (pe_R (pe_new σ 7 0 2) a0 4) ∧ pe_K (pe_new σ 7 0 2) (pe_R (pe_new σ 7 0 2) a0 4) < 19 := by first | assumption | omega) (h2 : 0 ≤ x1 := by first | assumption | omega) (h3 : x1 < pe_L (pe_new σ 7 0 2) (pe_R (pe_new σ 7 0 2) a0 4) := by first | assumption | omega) (h4 : ¬ (pe_n σ) = 0 := by first | assumption | omega) (k : pe_M d 63 [.inr (.inr (pe_n σ)), .inr (.inr (pe_R (pe_new σ 7 0 2) (pe_R (pe_new σ 7 0 2) a0 4) x1))] (pe_new σ 7 0 2) (fun r σ' => pe_X d 80 (40, [some (.inr (.inr a0)), some (.inl x1), o2, o3, o4, o5, o6, o7], r.toList ++ [.inr (.inr (pe_n σ))], σ') Φ)) : pe_X d 80 (27, [some (.inr (.inr a0)), some (.inl x1), o2, o3, o4, o5, o6, o7], [], σ) Φ := by
  refine pe_blk 16 6 ck80 [pe_K (pe_new σ 7 0 2) a0 = 8, 12 ≤ pe_K (pe_new σ 7 0 2) (pe_R (pe_new σ 7 0 2) a0 4) ∧ pe_K (pe_new σ 7 0 2) (pe_R (pe_new σ 7 0 2) a0 4) < 19, 0 ≤ (pe_w x1), (pe_w x1) < pe_L (pe_new σ 7 0 2) (pe_R (pe_new σ 7 0 2) a0 4)] (37, [some (.inr (.inr a0)), some (.inl x1), o2, o3, o4, o5, o6, o7], [.inr (.inr (pe_R (pe_new σ 7 0 2) (pe_R (pe_new σ 7 0 2) a0 4) (pe_w x1))), .inr (.inr (pe_n σ)), .inr (.inr (pe_n σ))], pe_new σ 7 0 2) rfl ?_ ?_
  · first
    | (simp (disch := omega) only [pe_all, pe_wi w0, pe_K_wI, pe_K_wR, pe_L_wI, pe_L_wR]; done)
    | (simp (disch := omega) only [pe_all, pe_wi w0, pe_K_wI, pe_K_wR, pe_L_wI, pe_L_wR]; (repeat' apply And.intro) <;> first | assumption | omega | decide)
  · try simp (disch := omega) only [pe_wi w0, pe_K_wI, pe_K_wR, pe_L_wI, pe_L_wR]
    exact pe_cal 22 ck80 rfl rfl rfl (show ¬ _ = 0 by assumption) k
theorem b80_40 {d : Nat} {Φ : Option pe_V → pe_H → Prop} {σ : pe_H} {a0 : Nat} {o1 : Option pe_V} {o2 : Option pe_V} {o3 : Option pe_V} {o4 : Option pe_V} {o5 : Option pe_V} {o6 : Option pe_V} {o7 : Option pe_V} {b0 : Nat} (f_a0 : pk_Fs a0 σ := by assumption)  (h0 : pe_K σ b0 = 7 := by first | assumption | omega) (k : pe_M d 64 [.inr (.inr b0)] σ (fun r σ' => pe_X d 80 (45, [some (.inr (.inr a0)), o1, pe_nl o2, some (.inr (.inr b0)), o4, o5, o6, o7], r.toList ++ [], σ') Φ)) : pe_X d 80 (40, [some (.inr (.inr a0)), o1, o2, o3, o4, o5, o6, o7], [.inr (.inr b0)], σ) Φ := by
  refine pe_blk 23 2 ck80 [] (42, [some (.inr (.inr a0)), o1, pe_nl o2, some (.inr (.inr b0)), o4, o5, o6, o7], [.inr (.inr b0)], σ) rfl ?_ ?_
  · exact trivial
  · try simp (disch := omega) only [pe_K_wI, pe_K_wR]
    have hrc : pe_K σ b0 = 7 := by first | assumption | (simp (disch := omega) only [pe_K_wI, pe_K_wR]; done) | (simp (disch := omega) only [pe_K_wI, pe_K_wR]; assumption)
    exact pe_cal 25 ck80 rfl rfl rfl ⟨hrc, by decide⟩ k
theorem b80_45 {d : Nat} {Φ : Option pe_V → pe_H → Prop} {σ : pe_H} {a0 : Nat} {o1 : Option pe_V} {o2 : Option pe_V} {a3 : Nat} {o4 : Option pe_V} {o5 : Option pe_V} {o6 : Option pe_V} {o7 : Option pe_V} {s0 : Int} (f_a0 : pk_Fs a0 σ := by assumption) (w0 : pe_in s0 := by unfold pe_in; omega)  (k1 : 0 ≤ s0 → pe_X d 80 (55, [some (.inr (.inr a0)), o1, o2, some (.inr (.inr a3)), some (.inl s0), o5, o6, o7], [], σ) Φ) (k2 : ¬ (0 ≤ s0) → pe_X d 80 (52, [some (.inr (.inr a0)), o1, o2, some (.inr (.inr a3)), some (.inl s0), o5, o6, o7], [], σ) Φ) : pe_X d 80 (45, [some (.inr (.inr a0)), o1, o2, some (.inr (.inr a3)), o4, o5, o6, o7], [.inl s0], σ) Φ := by
  refine pe_blk 26 3 ck80 [] (cond (decide (0 ≤ (pe_w s0))) 55 52, [some (.inr (.inr a0)), o1, o2, some (.inr (.inr a3)), some (.inl s0), o5, o6, o7], [], σ) rfl ?_ ?_
  · exact trivial
  · try simp (disch := omega) only [pe_wi w0]
    exact pe_two k1 k2
theorem b80_52 {d : Nat} {Φ : Option pe_V → pe_H → Prop} {σ : pe_H} {o0 : Option pe_V} {o1 : Option pe_V} {o2 : Option pe_V} {o3 : Option pe_V} {x4 : Int} {o5 : Option pe_V} {o6 : Option pe_V} {o7 : Option pe_V}    (k : Φ (some (.inl x4)) σ) : pe_X d 80 (52, [o0, o1, o2, o3, some (.inl x4), o5, o6, o7], [], σ) Φ := by
  refine pe_blk 29 1 ck80 [] (54, [o0, o1, o2, o3, some (.inl x4), o5, o6, o7], [.inl x4], σ) rfl ?_ ?_
  · exact trivial
  · exact pe_fine 30 ck80 rfl rfl rfl trivial k
theorem b80_55 {d : Nat} {Φ : Option pe_V → pe_H → Prop} {σ : pe_H} {a0 : Nat} {o1 : Option pe_V} {o2 : Option pe_V} {a3 : Nat} {x4 : Int} {o5 : Option pe_V} {o6 : Option pe_V} {o7 : Option pe_V} (f_a0 : pk_Fs a0 σ := by assumption)   (k : pe_M d 122 [.inr (.inr a0)] σ (fun r σ' => pe_X d 80 (59, [some (.inr (.inr a0)), o1, o2, some (.inr (.inr a3)), some (.inl x4), o5, o6, o7], r.toList ++ [], σ') Φ)) : pe_X d 80 (55, [some (.inr (.inr a0)), o1, o2, some (.inr (.inr a3)), some (.inl x4), o5, o6, o7], [], σ) Φ := by
  refine pe_blk 31 1 ck80 [] (56, [some (.inr (.inr a0)), o1, o2, some (.inr (.inr a3)), some (.inl x4), o5, o6, o7], [.inr (.inr a0)], σ) rfl ?_ ?_
  · exact trivial
  · try simp (disch := omega) only [pe_K_wI, pe_K_wR, pk_sK f_a0]
    have hrc : pe_K σ a0 = 8 := by first | assumption | (simp (disch := omega) only [pe_K_wI, pe_K_wR, pk_sK f_a0]; done) | (simp (disch := omega) only [pe_K_wI, pe_K_wR, pk_sK f_a0]; assumption)
    exact pe_cal 32 ck80 rfl rfl rfl ⟨hrc, by decide⟩ k
theorem b80_59 {d : Nat} {Φ : Option pe_V → pe_H → Prop} {σ : pe_H} {a0 : Nat} {o1 : Option pe_V} {o2 : Option pe_V} {a3 : Nat} {x4 : Int} {o5 : Option pe_V} {o6 : Option pe_V} {o7 : Option pe_V} {b0 : Nat} (f_a0 : pk_Fs a0 σ := by assumption) (f_b0 : pk_Fm b0 σ := by assumption)   (k : pe_X d 80 (67, [some (.inr (.inr a0)), o1, o2, some (.inr (.inr a3)), some (.inl x4), some (.inr (.inr b0)), some (.inl 0), some (.inl 0)], [], σ) Φ) : pe_X d 80 (59, [some (.inr (.inr a0)), o1, o2, some (.inr (.inr a3)), some (.inl x4), o5, o6, o7], [.inr (.inr b0)], σ) Φ := by
  refine pe_blk 33 5 ck80 [] (67, [some (.inr (.inr a0)), o1, o2, some (.inr (.inr a3)), some (.inl x4), some (.inr (.inr b0)), some (.inl 0), some (.inl 0)], [], σ) rfl ?_ ?_
  · exact trivial
  · exact k
theorem b80_67 {d : Nat} {Φ : Option pe_V → pe_H → Prop} {σ : pe_H} {a0 : Nat} {o1 : Option pe_V} {o2 : Option pe_V} {a3 : Nat} {x4 : Int} {a5 : Nat} {x6 : Int} {x7 : Int} (f_a0 : pk_Fs a0 σ := by assumption) (f_a5 : pk_Fm a5 σ := by assumption) (w0 : pe_in x4 := by unfold pe_in; omega) (w1 : pe_in x7 := by unfold pe_in; omega)  (k1 : x4 ≤ x7 → pe_X d 80 (106, [some (.inr (.inr a0)), o1, o2, some (.inr (.inr a3)), some (.inl x4), some (.inr (.inr a5)), some (.inl x6), some (.inl x7)], [], σ) Φ) (k2 : ¬ (x4 ≤ x7) → pe_X d 80 (74, [some (.inr (.inr a0)), o1, o2, some (.inr (.inr a3)), some (.inl x4), some (.inr (.inr a5)), some (.inl x6), some (.inl x7)], [], σ) Φ) : pe_X d 80 (67, [some (.inr (.inr a0)), o1, o2, some (.inr (.inr a3)), some (.inl x4), some (.inr (.inr a5)), some (.inl x6), some (.inl x7)], [], σ) Φ := by
  refine pe_blk 38 3 ck80 [] (cond (decide ((pe_w x4) ≤ (pe_w x7))) 106 74, [some (.inr (.inr a0)), o1, o2, some (.inr (.inr a3)), some (.inl x4), some (.inr (.inr a5)), some (.inl x6), some (.inl x7)], [], σ) rfl ?_ ?_
  · exact trivial
  · try simp (disch := omega) only [pe_wi w0, pe_wi w1]
    exact pe_two k1 k2
theorem b80_74 {d : Nat} {Φ : Option pe_V → pe_H → Prop} {σ : pe_H} {a0 : Nat} {o1 : Option pe_V} {o2 : Option pe_V} {a3 : Nat} {x4 : Int} {a5 : Nat} {x6 : Int} {x7 : Int} (f_a0 : pk_Fs a0 σ := by assumption) (f_a5 : pk_Fm a5 σ := by assumption)  (h0 : pe_K σ a3 = 7 := by first | assumption | omega) (k : pe_M d 74 [.inr (.inr a3), .inl x6, .inr (.inr a5)] σ (fun r σ' => pe_X d 80 (82, [some (.inr (.inr a0)), o1, o2, some (.inr (.inr a3)), some (.inl x4), some (.inr (.inr a5)), some (.inl x6), some (.inl x7)], r.toList ++ [], σ') Φ)) : pe_X d 80 (74, [some (.inr (.inr a0)), o1, o2, some (.inr (.inr a3)), some (.inl x4), some (.inr (.inr a5)), some (.inl x6), some (.inl x7)], [], σ) Φ := by
  refine pe_blk 41 3 ck80 [] (79, [some (.inr (.inr a0)), o1, o2, some (.inr (.inr a3)), some (.inl x4), some (.inr (.inr a5)), some (.inl x6), some (.inl x7)], [.inr (.inr a5), .inl x6, .inr (.inr a3)], σ) rfl ?_ ?_
  · exact trivial
  · try simp (disch := omega) only [pe_K_wI, pe_K_wR]
    have hrc : pe_K σ a3 = 7 := by first | assumption | (simp (disch := omega) only [pe_K_wI, pe_K_wR]; done) | (simp (disch := omega) only [pe_K_wI, pe_K_wR]; assumption)
    exact pe_cal 44 ck80 rfl rfl rfl ⟨hrc, by decide⟩ k
theorem b80_82 {d : Nat} {Φ : Option pe_V → pe_H → Prop} {σ : pe_H} {a0 : Nat} {o1 : Option pe_V} {o2 : Option pe_V} {a3 : Nat} {x4 : Int} {a5 : Nat} {x6 : Int} {x7 : Int} {s0 : Int} (f_a0 : pk_Fs a0 σ := by assumption) (f_a5 : pk_Fm a5 σ := by assumption) (w0 : pe_in s0 := by unfold pe_in; omega)  (k1 : ¬ s0 = 0 → pe_X d 80 (92, [some (.inr (.inr a0)), o1, o2, some (.inr (.inr a3)), some (.inl x4), some (.inr (.inr a5)), some (.inl x6), some (.inl x7)], [], σ) Φ) (k2 : s0 = 0 → pe_X d 80 (85, [some (.inr (.inr a0)), o1, o2, some (.inr (.inr a3)), some (.inl x4), some (.inr (.inr a5)), some (.inl x6), some (.inl x7)], [], σ) Φ) : pe_X d 80 (82, [some (.inr (.inr a0)), o1, o2, some (.inr (.inr a3)), some (.inl x4), some (.inr (.inr a5)), some (.inl x6), some (.inl x7)], [.inl s0], σ) Φ := by
  refine pe_blk 45 1 ck80 [] (cond (decide (¬ (pe_w s0) = 0)) 92 85, [some (.inr (.inr a0)), o1, o2, some (.inr (.inr a3)), some (.inl x4), some (.inr (.inr a5)), some (.inl x6), some (.inl x7)], [], σ) rfl ?_ ?_
  · exact trivial
  · try simp (disch := omega) only [pe_wi w0]
    exact pe_two' k1 k2
theorem b80_85 {d : Nat} {Φ : Option pe_V → pe_H → Prop} {σ : pe_H} {o0 : Option pe_V} {o1 : Option pe_V} {o2 : Option pe_V} {o3 : Option pe_V} {o4 : Option pe_V} {o5 : Option pe_V} {x6 : Int} {o7 : Option pe_V}    (k : Φ (some (.inl ((-2000) - x6))) σ) : pe_X d 80 (85, [o0, o1, o2, o3, o4, o5, some (.inl x6), o7], [], σ) Φ := by
  refine pe_blk 46 3 ck80 [] (91, [o0, o1, o2, o3, o4, o5, some (.inl x6), o7], [.inl ((-2000) - x6)], σ) rfl ?_ ?_
  · exact trivial
  · exact pe_fine 49 ck80 rfl rfl rfl trivial k
set_option maxRecDepth 8000 in
theorem b80_92 {d : Nat} {Φ : Option pe_V → pe_H → Prop} {σ : pe_H} {a0 : Nat} {o1 : Option pe_V} {o2 : Option pe_V} {a3 : Nat} {x4 : Int} {a5 : Nat} {x6 : Int} {x7 : Int} (f_a0 : pk_Fs a0 σ := by assumption) (f_a5 : pk_Fm a5 σ := by assumption)  (h0 : pe_K σ a3 = 7 := by first | assumption | omega) (k : pe_M d 71 [.inr (.inr a3), .inl x6] σ (fun r σ' => pe_X d 80 (98, [some (.inr (.inr a0)), o1, o2, some (.inr (.inr a3)), some (.inl x4), some (.inr (.inr a5)), some (.inl x6), some (.inl x7)], r.toList ++ [], σ') Φ)) : pe_X d 80 (92, [some (.inr (.inr a0)), o1, o2, some (.inr (.inr a3)), some (.inl x4), some (.inr (.inr a5)), some (.inl x6), some (.inl x7)], [], σ) Φ := by
  refine pe_blk 50 2 ck80 [] (95, [some (.inr (.inr a0)), o1, o2, some (.inr (.inr a3)), some (.inl x4), some (.inr (.inr a5)), some (.inl x6), some (.inl x7)], [.inl x6, .inr (.inr a3)], σ) rfl ?_ ?_
  · exact trivial
  · try simp (disch := omega) only [pe_K_wI, pe_K_wR]
    have hrc : pe_K σ a3 = 7 := by first | assumption | (simp (disch := omega) only [pe_K_wI, pe_K_wR]; done) | (simp (disch := omega) only [pe_K_wI, pe_K_wR]; assumption)
    exact pe_cal 52 ck80 rfl rfl rfl ⟨hrc, by decide⟩ k
set_option maxRecDepth 8000 in
theorem b80_98 {d : Nat} {Φ : Option pe_V → pe_H → Prop} {σ : pe_H} {a0 : Nat} {o1 : Option pe_V} {o2 : Option pe_V} {a3 : Nat} {x4 : Int} {a5 : Nat} {o6 : Option pe_V} {x7 : Int} {s0 : Int} (f_a0 : pk_Fs a0 σ := by assumption) (f_a5 : pk_Fm a5 σ := by assumption)   (k : pe_X d 80 (67, [some (.inr (.inr a0)), o1, o2, some (.inr (.inr a3)), some (.inl x4), some (.inr (.inr a5)), some (.inl s0), some (.inl (x7 + 1))], [], σ) Φ) : pe_X d 80 (98, [some (.inr (.inr a0)), o1, o2, some (.inr (.inr a3)), some (.inl x4), some (.inr (.inr a5)), o6, some (.inl x7)], [.inl s0], σ) Φ := by
  refine pe_blk 53 3 ck80 [] (67, [some (.inr (.inr a0)), o1, o2, some (.inr (.inr a3)), some (.inl x4), some (.inr (.inr a5)), some (.inl s0), some (.inl (x7 + 1))], [], σ) rfl ?_ ?_
  · exact trivial
  · exact k
set_option maxRecDepth 8000 in
theorem b80_106 {d : Nat} {Φ : Option pe_V → pe_H → Prop} {σ : pe_H} {a0 : Nat} {o1 : Option pe_V} {o2 : Option pe_V} {o3 : Option pe_V} {x4 : Int} {a5 : Nat} {o6 : Option pe_V} {o7 : Option pe_V} (f_a0 : pk_Fs a0 σ := by assumption) (f_a5 : pk_Fm a5 σ := by assumption)   (k : pe_M d 15 [.inr (.inr (a0 + 1)), .inr (.inr a5)] σ (fun r σ' => pe_X d 80 (115, [some (.inr (.inr a0)), o1, o2, o3, some (.inl x4), some (.inr (.inr a5)), o6, o7], r.toList ++ [], σ') Φ)) : pe_X d 80 (106, [some (.inr (.inr a0)), o1, o2, o3, some (.inl x4), some (.inr (.inr a5)), o6, o7], [], σ) Φ := by
  refine pe_blk 56 3 ck80 [pe_K σ a0 = 8] (112, [some (.inr (.inr a0)), o1, o2, o3, some (.inl x4), some (.inr (.inr a5)), o6, o7], [.inr (.inr a5), .inr (.inr (pe_R σ a0 0))], σ) rfl ?_ ?_
  · first
    | (simp (disch := omega) only [pe_all, pe_K_wI, pe_K_wR, pe_R_nej, pe_R_ner, pe_R_wI, pk_mK (pk_sM0 f_a0), pk_sK f_a0, pk_sR0 f_a0]; done)
    | (simp (disch := omega) only [pe_all, pe_K_wI, pe_K_wR, pe_R_nej, pe_R_ner, pe_R_wI, pk_mK (pk_sM0 f_a0), pk_sK f_a0, pk_sR0 f_a0]; (repeat' apply And.intro) <;> first | assumption | omega | decide)
  · try simp (disch := omega) only [pe_K_wI, pe_K_wR, pe_R_nej, pe_R_ner, pe_R_wI, pk_mK (pk_sM0 f_a0), pk_sK f_a0, pk_sR0 f_a0]
    have hrc : pe_K σ (a0 + 1) = 2 := by first | assumption | (simp (disch := omega) only [pe_K_wI, pe_K_wR, pe_R_nej, pe_R_ner, pe_R_wI, pk_mK (pk_sM0 f_a0), pk_sK f_a0, pk_sR0 f_a0]; done) | (simp (disch := omega) only [pe_K_wI, pe_K_wR, pe_R_nej, pe_R_ner, pe_R_wI, pk_mK (pk_sM0 f_a0), pk_sK f_a0, pk_sR0 f_a0]; assumption)
    exact pe_cal 59 ck80 rfl rfl rfl ⟨hrc, by decide⟩ k
set_option maxRecDepth 8000 in
theorem b80_115 {d : Nat} {Φ : Option pe_V → pe_H → Prop} {σ : pe_H} {o0 : Option pe_V} {o1 : Option pe_V} {o2 : Option pe_V} {o3 : Option pe_V} {x4 : Int} {o5 : Option pe_V} {o6 : Option pe_V} {o7 : Option pe_V}    (k : Φ (some (.inl x4)) σ) : pe_X d 80 (115, [o0, o1, o2, o3, some (.inl x4), o5, o6, o7], [], σ) Φ := by
  refine pe_blk 60 1 ck80 [] (117, [o0, o1, o2, o3, some (.inl x4), o5, o6, o7], [.inl x4], σ) rfl ?_ ?_
  · exact trivial
  · exact pe_fine 61 ck80 rfl rfl rfl trivial k
-- StepMachines.program(III)I
-- StepMachines.comes(II)I
def T82 : List (Nat × Instr × Nat) := [(0, .iload_n 1, 1), (1, .invokestatic 81, 3), (4, .ifCond .ne 5, 3), (7, .iconst (-1), 1), (8, .ireturn, 1), (9, .aload_n 0, 1), (10, .iload_n 2, 1), (11, .invokevirtual 100, 3), (14, .istore_n 3, 1), (15, .iload_n 3, 1), (16, .ifCond .eq 5, 3), (19, .iload_n 3, 1), (20, .ireturn, 1), (21, .aload_n 0, 1), (22, .getfield 10, 3), (25, .iload_n 1, 1), (26, .aload_n 0, 1), (27, .getfield 25, 3), (30, .iload_n 2, 1), (31, .aaload, 1), (32, .invokevirtual 103, 3), (35, .ireturn, 1)]
theorem ck82 : pe_ctx 82 8 false (some .int) 4 T82 := ⟨rfl, rfl, rfl, rfl, by decide +kernel, by decide, by decide⟩
theorem b82_0 {d : Nat} {Φ : Option pe_V → pe_H → Prop} {σ : pe_H} {a0 : Nat} {x1 : Int} {x2 : Int} {o3 : Option pe_V} (f_a0 : pk_Fs a0 σ := by assumption)   (k : pe_M d 116 [.inl x1] σ (fun r σ' => pe_X d 82 (4, [some (.inr (.inr a0)), some (.inl x1), some (.inl x2), o3], r.toList ++ [], σ') Φ)) : pe_X d 82 (0, [some (.inr (.inr a0)), some (.inl x1), some (.inl x2), o3], [], σ) Φ := by
  refine pe_blk 0 1 ck82 [] (1, [some (.inr (.inr a0)), some (.inl x1), some (.inl x2), o3], [.inl x1], σ) rfl ?_ ?_
  · exact trivial
  · exact pe_cal 1 ck82 rfl rfl rfl trivial k
theorem b82_4 {d : Nat} {Φ : Option pe_V → pe_H → Prop} {σ : pe_H} {a0 : Nat} {x1 : Int} {x2 : Int} {o3 : Option pe_V} {s0 : Int} (f_a0 : pk_Fs a0 σ := by assumption) (w0 : pe_in s0 := by unfold pe_in; omega)  (k1 : ¬ s0 = 0 → pe_X d 82 (9, [some (.inr (.inr a0)), some (.inl x1), some (.inl x2), o3], [], σ) Φ) (k2 : s0 = 0 → pe_X d 82 (7, [some (.inr (.inr a0)), some (.inl x1), some (.inl x2), o3], [], σ) Φ) : pe_X d 82 (4, [some (.inr (.inr a0)), some (.inl x1), some (.inl x2), o3], [.inl s0], σ) Φ := by
  refine pe_blk 2 1 ck82 [] (cond (decide (¬ (pe_w s0) = 0)) 9 7, [some (.inr (.inr a0)), some (.inl x1), some (.inl x2), o3], [], σ) rfl ?_ ?_
  · exact trivial
  · try simp (disch := omega) only [pe_wi w0]
    exact pe_two' k1 k2
theorem b82_7 {d : Nat} {Φ : Option pe_V → pe_H → Prop} {σ : pe_H} {o0 : Option pe_V} {o1 : Option pe_V} {o2 : Option pe_V} {o3 : Option pe_V}    (k : Φ (some (.inl (-1))) σ) : pe_X d 82 (7, [o0, o1, o2, o3], [], σ) Φ := by
  refine pe_blk 3 1 ck82 [] (8, [o0, o1, o2, o3], [.inl (-1)], σ) rfl ?_ ?_
  · exact trivial
  · exact pe_fine 4 ck82 rfl rfl rfl trivial k
theorem b82_9 {d : Nat} {Φ : Option pe_V → pe_H → Prop} {σ : pe_H} {a0 : Nat} {x1 : Int} {x2 : Int} {o3 : Option pe_V} (f_a0 : pk_Fs a0 σ := by assumption)   (k : pe_M d 120 [.inr (.inr a0), .inl x2] σ (fun r σ' => pe_X d 82 (14, [some (.inr (.inr a0)), some (.inl x1), some (.inl x2), o3], r.toList ++ [], σ') Φ)) : pe_X d 82 (9, [some (.inr (.inr a0)), some (.inl x1), some (.inl x2), o3], [], σ) Φ := by
  refine pe_blk 5 2 ck82 [] (11, [some (.inr (.inr a0)), some (.inl x1), some (.inl x2), o3], [.inl x2, .inr (.inr a0)], σ) rfl ?_ ?_
  · exact trivial
  · try simp (disch := omega) only [pe_K_wI, pe_K_wR, pk_sK f_a0]
    have hrc : pe_K σ a0 = 8 := by first | assumption | (simp (disch := omega) only [pe_K_wI, pe_K_wR, pk_sK f_a0]; done) | (simp (disch := omega) only [pe_K_wI, pe_K_wR, pk_sK f_a0]; assumption)
    exact pe_cal 7 ck82 rfl rfl rfl ⟨hrc, by decide⟩ k
theorem b82_14 {d : Nat} {Φ : Option pe_V → pe_H → Prop} {σ : pe_H} {a0 : Nat} {x1 : Int} {x2 : Int} {o3 : Option pe_V} {s0 : Int} (f_a0 : pk_Fs a0 σ := by assumption) (w0 : pe_in s0 := by unfold pe_in; omega)  (k1 : s0 = 0 → pe_X d 82 (21, [some (.inr (.inr a0)), some (.inl x1), some (.inl x2), some (.inl s0)], [], σ) Φ) (k2 : ¬ (s0 = 0) → pe_X d 82 (19, [some (.inr (.inr a0)), some (.inl x1), some (.inl x2), some (.inl s0)], [], σ) Φ) : pe_X d 82 (14, [some (.inr (.inr a0)), some (.inl x1), some (.inl x2), o3], [.inl s0], σ) Φ := by
  refine pe_blk 8 3 ck82 [] (cond (decide ((pe_w s0) = 0)) 21 19, [some (.inr (.inr a0)), some (.inl x1), some (.inl x2), some (.inl s0)], [], σ) rfl ?_ ?_
  · exact trivial
  · try simp (disch := omega) only [pe_wi w0]
    exact pe_two k1 k2
theorem b82_19 {d : Nat} {Φ : Option pe_V → pe_H → Prop} {σ : pe_H} {o0 : Option pe_V} {o1 : Option pe_V} {o2 : Option pe_V} {x3 : Int}    (k : Φ (some (.inl x3)) σ) : pe_X d 82 (19, [o0, o1, o2, some (.inl x3)], [], σ) Φ := by
  refine pe_blk 11 1 ck82 [] (20, [o0, o1, o2, some (.inl x3)], [.inl x3], σ) rfl ?_ ?_
  · exact trivial
  · exact pe_fine 12 ck82 rfl rfl rfl trivial k
theorem b82_21 {d : Nat} {Φ : Option pe_V → pe_H → Prop} {σ : pe_H} {a0 : Nat} {x1 : Int} {x2 : Int} {o3 : Option pe_V} (f_a0 : pk_Fs a0 σ := by assumption) (w0 : pe_in x2 := by unfold pe_in; omega) (h0 : 0 ≤ x2 := by first | assumption | omega) (h1 : x2 < 8 := by first | assumption | omega) (k : pe_M d 24 [.inr (.inr (a0 + 1)), .inl x1, .inr (.inr (pe_R σ (a0 + 176) x2))] σ (fun r σ' => pe_X d 82 (35, [some (.inr (.inr a0)), some (.inl x1), some (.inl x2), o3], r.toList ++ [], σ') Φ)) : pe_X d 82 (21, [some (.inr (.inr a0)), some (.inl x1), some (.inl x2), o3], [], σ) Φ := by
  refine pe_blk 13 7 ck82 [pe_K σ a0 = 8, pe_K σ a0 = 8, 12 ≤ pe_K σ (pe_R σ a0 3) ∧ pe_K σ (pe_R σ a0 3) < 19, 0 ≤ (pe_w x2), (pe_w x2) < pe_L σ (pe_R σ a0 3)] (32, [some (.inr (.inr a0)), some (.inl x1), some (.inl x2), o3], [.inr (.inr (pe_R σ (pe_R σ a0 3) (pe_w x2))), .inl x1, .inr (.inr (pe_R σ a0 0))], σ) rfl ?_ ?_
  · first
    | (simp (disch := omega) only [pe_all, pe_wi w0, pe_K_wI, pe_K_wR, pe_L_wI, pe_L_wR, pe_R_nej, pe_R_ner, pe_R_wI, pk_mK (pk_sM0 f_a0), pk_sK f_a0, pk_sK3 f_a0, pk_sL3 f_a0, pk_sR0 f_a0, pk_sR3 f_a0]; done)
    | (simp (disch := omega) only [pe_all, pe_wi w0, pe_K_wI, pe_K_wR, pe_L_wI, pe_L_wR, pe_R_nej, pe_R_ner, pe_R_wI, pk_mK (pk_sM0 f_a0), pk_sK f_a0, pk_sK3 f_a0, pk_sL3 f_a0, pk_sR0 f_a0, pk_sR3 f_a0]; (repeat' apply And.intro) <;> first | assumption | omega | decide)
  · try simp (disch := omega) only [pe_wi w0, pe_K_wI, pe_K_wR, pe_L_wI, pe_L_wR, pe_R_nej, pe_R_ner, pe_R_wI, pk_mK (pk_sM0 f_a0), pk_sK f_a0, pk_sK3 f_a0, pk_sL3 f_a0, pk_sR0 f_a0, pk_sR3 f_a0]
    have hrc : pe_K σ (a0 + 1) = 2 := by first | assumption | (simp (disch := omega) only [pe_wi w0, pe_K_wI, pe_K_wR, pe_L_wI, pe_L_wR, pe_R_nej, pe_R_ner, pe_R_wI, pk_mK (pk_sM0 f_a0), pk_sK f_a0, pk_sK3 f_a0, pk_sL3 f_a0, pk_sR0 f_a0, pk_sR3 f_a0]; done) | (simp (disch := omega) only [pe_wi w0, pe_K_wI, pe_K_wR, pe_L_wI, pe_L_wR, pe_R_nej, pe_R_ner, pe_R_wI, pk_mK (pk_sM0 f_a0), pk_sK f_a0, pk_sK3 f_a0, pk_sL3 f_a0, pk_sR0 f_a0, pk_sR3 f_a0]; assumption)
    exact pe_cal 20 ck82 rfl rfl rfl ⟨hrc, by decide⟩ k
theorem b82_35 {d : Nat} {Φ : Option pe_V → pe_H → Prop} {σ : pe_H} {o0 : Option pe_V} {o1 : Option pe_V} {o2 : Option pe_V} {o3 : Option pe_V} {s0 : Int}    (k : Φ (some (.inl s0)) σ) : pe_X d 82 (35, [o0, o1, o2, o3], [.inl s0], σ) Φ := by
  exact pe_fine 21 ck82 rfl rfl rfl trivial k
-- StepMachines.coroutine(II)I
def T83 : List (Nat × Instr × Nat) := [(0, .aload_n 0, 1), (1, .iload_n 1, 1), (2, .invokevirtual 107, 3), (5, .ifCond .eq 13, 3), (8, .iload_n 2, 1), (9, .ifCond .lt 9, 3), (12, .iload_n 2, 1), (13, .bipush 11, 2), (15, .if_icmp .le 5, 3), (18, .iconst (-1), 1), (19, .ireturn, 1), (20, .aload_n 0, 1), (21, .getfield 10, 3), (24, .getfield 110, 3), (27, .iload_n 1, 1), (28, .aaload, 1), (29, .astore_n 3, 1), (30, .iload_n 2, 1), (31, .tableswitch 92 5 11 #[41, 46, 54, 62, 73, 78, 83], 41), (72, .aload_n 3, 1), (73, .getfield 114, 3), (76, .ireturn, 1), (77, .aload_n 3, 1), (78, .getfield 119, 3), (81, .getfield 122, 3), (84, .ireturn, 1), (85, .aload_n 3, 1), (86, .getfield 119, 3), (89, .getfield 123, 3), (92, .ireturn, 1), (93, .aload_n 3, 1), (94, .getfield 119, 3), (97, .invokevirtual 126, 3), (100, .bipush 100, 2), (102, .iadd, 1), (103, .ireturn, 1), (104, .aload_n 3, 1), (105, .getfield 129, 3), (108, .ireturn, 1), (109, .aload_n 3, 1), (110, .getfield 132, 3), (113, .ireturn, 1), (114, .aload_n 0, 1), (115, .getfield 10, 3), (118, .iload_n 1, 1), (119, .invokevirtual 135, 3), (122, .ireturn, 1), (123, .aload_n 3, 1), (124, .iload_n 2, 1), (125, .invokevirtual 138, 3), (128, .ireturn, 1)]
theorem ck83 : pe_ctx 83 8 false (some .int) 4 T83 := ⟨rfl, rfl, rfl, rfl, by decide +kernel, by decide, by decide⟩
theorem b83_0 {d : Nat} {Φ : Option pe_V → pe_H → Prop} {σ : pe_H} {a0 : Nat} {x1 : Int} {x2 : Int} {o3 : Option pe_V} (f_a0 : pk_Fs a0 σ := by assumption)   (k : pe_M d 117 [.inr (.inr a0), .inl x1] σ (fun r σ' => pe_X d 83 (5, [some (.inr (.inr a0)), some (.inl x1), some (.inl x2), o3], r.toList ++ [], σ') Φ)) : pe_X d 83 (0, [some (.inr (.inr a0)), some (.inl x1), some (.inl x2), o3], [], σ) Φ := by
  refine pe_blk 0 2 ck83 [] (2, [some (.inr (.inr a0)), some (.inl x1), some (.inl x2), o3], [.inl x1, .inr (.inr a0)], σ) rfl ?_ ?_
  · exact trivial
  · try simp (disch := omega) only [pe_K_wI, pe_K_wR, pk_sK f_a0]
    have hrc : pe_K σ a0 = 8 := by first | assumption | (simp (disch := omega) only [pe_K_wI, pe_K_wR, pk_sK f_a0]; done) | (simp (disch := omega) only [pe_K_wI, pe_K_wR, pk_sK f_a0]; assumption)
    exact pe_cal 2 ck83 rfl rfl rfl ⟨hrc, by decide⟩ k
theorem b83_5 {d : Nat} {Φ : Option pe_V → pe_H → Prop} {σ : pe_H} {a0 : Nat} {x1 : Int} {x2 : Int} {o3 : Option pe_V} {s0 : Int} (f_a0 : pk_Fs a0 σ := by assumption) (w0 : pe_in s0 := by unfold pe_in; omega)  (k1 : s0 = 0 → pe_X d 83 (18, [some (.inr (.inr a0)), some (.inl x1), some (.inl x2), o3], [], σ) Φ) (k2 : ¬ (s0 = 0) → pe_X d 83 (8, [some (.inr (.inr a0)), some (.inl x1), some (.inl x2), o3], [], σ) Φ) : pe_X d 83 (5, [some (.inr (.inr a0)), some (.inl x1), some (.inl x2), o3], [.inl s0], σ) Φ := by
  refine pe_blk 3 1 ck83 [] (cond (decide ((pe_w s0) = 0)) 18 8, [some (.inr (.inr a0)), some (.inl x1), some (.inl x2), o3], [], σ) rfl ?_ ?_
  · exact trivial
  · try simp (disch := omega) only [pe_wi w0]
    exact pe_two k1 k2
theorem b83_8 {d : Nat} {Φ : Option pe_V → pe_H → Prop} {σ : pe_H} {a0 : Nat} {x1 : Int} {x2 : Int} {o3 : Option pe_V} (f_a0 : pk_Fs a0 σ := by assumption) (w0 : pe_in x2 := by unfold pe_in; omega)  (k1 : x2 < 0 → pe_X d 83 (18, [some (.inr (.inr a0)), some (.inl x1), some (.inl x2), o3], [], σ) Φ) (k2 : ¬ (x2 < 0) → pe_X d 83 (12, [some (.inr (.inr a0)), some (.inl x1), some (.inl x2), o3], [], σ) Φ) : pe_X d 83 (8, [some (.inr (.inr a0)), some (.inl x1), some (.inl x2), o3], [], σ) Φ := by
  refine pe_blk 4 2 ck83 [] (cond (decide ((pe_w x2) < 0)) 18 12, [some (.inr (.inr a0)), some (.inl x1), some (.inl x2), o3], [], σ) rfl ?_ ?_
  · exact trivial
  · try simp (disch := omega) only [pe_wi w0]
    exact pe_two k1 k2
theorem b83_12 {d : Nat} {Φ : Option pe_V → pe_H → Prop} {σ : pe_H} {a0 : Nat} {x1 : Int} {x2 : Int} {o3 : Option pe_V} (f_a0 : pk_Fs a0 σ := by assumption) (w0 : pe_in x2 := by unfold pe_in; omega)  (k1 : x2 ≤ 11 → pe_X d 83 (20, [some (.inr (.inr a0)), some (.inl x1), some (.inl x2), o3], [], σ) Φ) (k2 : ¬ (x2 ≤ 11) → pe_X d 83 (18, [some (.inr (.inr a0)), some (.inl x1), some (.inl x2), o3], [], σ) Φ) : pe_X d 83 (12, [some (.inr (.inr a0)), some (.inl x1), some (.inl x2), o3], [], σ) Φ := by
  refine pe_blk 6 3 ck83 [] (cond (decide ((pe_w x2) ≤ (pe_w 11))) 20 18, [some (.inr (.inr a0)), some (.inl x1), some (.inl x2), o3], [], σ) rfl ?_ ?_
  · exact trivial
  · try simp (disch := omega) only [pe_wi w0, pe_wi (x := 11) ⟨by decide, by decide⟩]
    exact pe_two k1 k2
theorem b83_18 {d : Nat} {Φ : Option pe_V → pe_H → Prop} {σ : pe_H} {o0 : Option pe_V} {o1 : Option pe_V} {o2 : Option pe_V} {o3 : Option pe_V}    (k : Φ (some (.inl (-1))) σ) : pe_X d 83 (18, [o0, o1, o2, o3], [], σ) Φ := by
  refine pe_blk 9 1 ck83 [] (19, [o0, o1, o2, o3], [.inl (-1)], σ) rfl ?_ ?_
  · exact trivial
  · exact pe_fine 10 ck83 rfl rfl rfl trivial k
theorem b83_20 {d : Nat} {Φ : Option pe_V → pe_H → Prop} {σ : pe_H} {a0 : Nat} {x1 : Int} {x2 : Int} {o3 : Option pe_V} (f_a0 : pk_Fs a0 σ := by assumption) (w0 : pe_in x1 := by unfold pe_in; omega) (w1 : pe_in x2 := by unfold pe_in; omega) (h0 : 0 ≤ x1 := by first | assumption | omega) (h1 : x1 < 8 := by first | assumption | omega) (k0 : x2 = 5 → pe_X d 83 (72, [some (.inr (.inr a0)), some (.inl x1), some (.inl x2), some (.inr (.inr (pk_c (a0 + 1) x1)))], [], σ) Φ) (k1 : x2 = 6 → pe_X d 83 (77, [some (.inr (.inr a0)), some (.inl x1), some (.inl x2), some (.inr (.inr (pk_c (a0 + 1) x1)))], [], σ) Φ) (k2 : x2 = 7 → pe_X d 83 (85, [some (.inr (.inr a0)), some (.inl x1), some (.inl x2), some (.inr (.inr (pk_c (a0 + 1) x1)))], [], σ) Φ) (k3 : x2 = 8 → pe_X d 83 (93, [some (.inr (.inr a0)), some (.inl x1), some (.inl x2), some (.inr (.inr (pk_c (a0 + 1) x1)))], [], σ) Φ) (k4 : x2 = 9 → pe_X d 83 (104, [some (.inr (.inr a0)), some (.inl x1), some (.inl x2), some (.inr (.inr (pk_c (a0 + 1) x1)))], [], σ) Φ) (k5 : x2 = 10 → pe_X d 83 (109, [some (.inr (.inr a0)), some (.inl x1), some (.inl x2), some (.inr (.inr (pk_c (a0 + 1) x1)))], [], σ) Φ) (k6 : x2 = 11 → pe_X d 83 (114, [some (.inr (.inr a0)), some (.inl x1), some (.inl x2), some (.inr (.inr (pk_c (a0 + 1) x1)))], [], σ) Φ) (kd : ¬ x2 = 5 → ¬ x2 = 6 → ¬ x2 = 7 → ¬ x2 = 8 → ¬ x2 = 9 → ¬ x2 = 10 → ¬ x2 = 11 → pe_X d 83 (123, [some (.inr (.inr a0)), some (.inl x1), some (.inl x2), some (.inr (.inr (pk_c (a0 + 1) x1)))], [], σ) Φ) : pe_X d 83 (20, [some (.inr (.inr a0)), some (.inl x1), some (.inl x2), o3], [], σ) Φ := by
  refine pe_blk 11 8 ck83 [pe_K σ a0 = 8, pe_K σ (pe_R σ a0 0) = 2, 12 ≤ pe_K σ (pe_R σ (pe_R σ a0 0) 1) ∧ pe_K σ (pe_R σ (pe_R σ a0 0) 1) < 19, 0 ≤ (pe_w x1), (pe_w x1) < pe_L σ (pe_R σ (pe_R σ a0 0) 1)] ((((31 : Nat) : Int) + pe_sw 92 [(5, 41), (6, 46), (7, 54), (8, 62), (9, 73), (10, 78), (11, 83)] (pe_w x2)).toNat, [some (.inr (.inr a0)), some (.inl x1), some (.inl x2), some (.inr (.inr (pe_R σ (pe_R σ (pe_R σ a0 0) 1) (pe_w x1))))], [], σ) rfl ?_ ?_
  · first
    | (simp (disch := omega) only [pe_all, pe_wi w0, pe_wi w1, pe_K_wI, pe_K_wR, pe_L_wI, pe_L_wR, pe_R_nej, pe_R_ner, pe_R_wI, pk_mE2 (pk_sM0 f_a0) (i := x1) (by omega) (by omega), pk_mK (pk_sM0 f_a0), pk_mK2 (pk_sM0 f_a0), pk_mL2 (pk_sM0 f_a0), pk_mR2 (pk_sM0 f_a0), pk_sK f_a0, pk_sR0 f_a0]; done)
    | (simp (disch := omega) only [pe_all, pe_wi w0, pe_wi w1, pe_K_wI, pe_K_wR, pe_L_wI, pe_L_wR, pe_R_nej, pe_R_ner, pe_R_wI, pk_mE2 (pk_sM0 f_a0) (i := x1) (by omega) (by omega), pk_mK (pk_sM0 f_a0), pk_mK2 (pk_sM0 f_a0), pk_mL2 (pk_sM0 f_a0), pk_mR2 (pk_sM0 f_a0), pk_sK f_a0, pk_sR0 f_a0]; (repeat' apply And.intro) <;> first | assumption | omega | decide)
  · try simp (disch := omega) only [pe_wi w0, pe_wi w1, pe_K_wI, pe_K_wR, pe_L_wI, pe_L_wR, pe_R_nej, pe_R_ner, pe_R_wI, pk_mE2 (pk_sM0 f_a0) (i := x1) (by omega) (by omega), pk_mK (pk_sM0 f_a0), pk_mK2 (pk_sM0 f_a0), pk_mL2 (pk_sM0 f_a0), pk_mR2 (pk_sM0 f_a0), pk_sK f_a0, pk_sR0 f_a0]
    by_cases q0 : x2 = 5
    · have e : pe_sw 92 [(5, 41), (6, 46), (7, 54), (8, 62), (9, 73), (10, 78), (11, 83)] x2 = 41 := by rw [q0]; rfl
      rw [e]; exact k0 q0
    by_cases q1 : x2 = 6
    · have e : pe_sw 92 [(5, 41), (6, 46), (7, 54), (8, 62), (9, 73), (10, 78), (11, 83)] x2 = 46 := by rw [q1]; rfl
      rw [e]; exact k1 q1
    by_cases q2 : x2 = 7
    · have e : pe_sw 92 [(5, 41), (6, 46), (7, 54), (8, 62), (9, 73), (10, 78), (11, 83)] x2 = 54 := by rw [q2]; rfl
      rw [e]; exact k2 q2
    by_cases q3 : x2 = 8
    · have e : pe_sw 92 [(5, 41), (6, 46), (7, 54), (8, 62), (9, 73), (10, 78), (11, 83)] x2 = 62 := by rw [q3]; rfl
      rw [e]; exact k3 q3
    by_cases q4 : x2 = 9
    · have e : pe_sw 92 [(5, 41), (6, 46), (7, 54), (8, 62), (9, 73), (10, 78), (11, 83)] x2 = 73 := by rw [q4]; rfl
      rw [e]; exact k4 q4
    by_cases q5 : x2 = 10
    · have e : pe_sw 92 [(5, 41), (6, 46), (7, 54), (8, 62), (9, 73), (10, 78), (11, 83)] x2 = 78 := by rw [q5]; rfl
      rw [e]; exact k5 q5
    by_cases q6 : x2 = 11
    · have e : pe_sw 92 [(5, 41), (6, 46), (7, 54), (8, 62), (9, 73), (10, 78), (11, 83)] x2 = 83 := by rw [q6]; rfl
      rw [e]; exact k6 q6
    have e : pe_sw 92 [(5, 41), (6, 46), (7, 54), (8, 62), (9, 73), (10, 78), (11, 83)] x2 = 92 := by simp only [pe_sw, if_neg q0, if_neg q1, if_neg q2, if_neg q3, if_neg q4, if_neg q5, if_neg q6]
    rw [e]; exact kd q0 q1 q2 q3 q4 q5 q6
theorem b83_72 {d : Nat} {Φ : Option pe_V → pe_H → Prop} {σ : pe_H} {o0 : Option pe_V} {o1 : Option pe_V} {o2 : Option pe_V} {a3 : Nat} (f_a3 : pk_Fo a3 σ := by assumption)   (k : Φ (some (.inl (pe_I σ a3 0))) σ) : pe_X d 83 (72, [o0, o1, o2, some (.inr (.inr a3))], [], σ) Φ := by
  refine pe_blk 19 2 ck83 [pe_K σ a3 = 0] (76, [o0, o1, o2, some (.inr (.inr a3))], [.inl (pe_I σ a3 0)], σ) rfl ?_ ?_
  · first
    | (simp (disch := omega) only [pe_all, pe_K_wI, pe_K_wR, pk_oK f_a3]; done)
    | (simp (disch := omega) only [pe_all, pe_K_wI, pe_K_wR, pk_oK f_a3]; (repeat' apply And.intro) <;> first | assumption | omega | decide)
  · try simp (disch := omega) only [pe_K_wI, pe_K_wR, pk_oK f_a3]
    exact pe_fine 21 ck83 rfl rfl rfl trivial k
theorem b83_77 {d : Nat} {Φ : Option pe_V → pe_H → Prop} {σ : pe_H} {o0 : Option pe_V} {o1 : Option pe_V} {o2 : Option pe_V} {a3 : Nat} (f_a3 : pk_Fo a3 σ := by assumption)  (h0 : pe_K σ (pe_R σ a3 1) = 3 := by first | assumption | omega) (k : Φ (some (.inl (pe_I σ (pe_R σ a3 1) 0))) σ) : pe_X d 83 (77, [o0, o1, o2, some (.inr (.inr a3))], [], σ) Φ := by
  refine pe_blk 22 3 ck83 [pe_K σ a3 = 0, pe_K σ (pe_R σ a3 1) = 3] (84, [o0, o1, o2, some (.inr (.inr a3))], [.inl (pe_I σ (pe_R σ a3 1) 0)], σ) rfl ?_ ?_
  · first
    | (simp (disch := omega) only [pe_all, pe_K_wI, pe_K_wR, pk_oK f_a3]; done)
    | (simp (disch := omega) only [pe_all, pe_K_wI, pe_K_wR, pk_oK f_a3]; (repeat' apply And.intro) <;> first | assumption | omega | decide)
  · try simp (disch := omega) only [pe_K_wI, pe_K_wR, pk_oK f_a3]
    exact pe_fine 25 ck83 rfl rfl rfl trivial k
theorem b83_85 {d : Nat} {Φ : Option pe_V → pe_H → Prop} {σ : pe_H} {o0 : Option pe_V} {o1 : Option pe_V} {o2 : Option pe_V} {a3 : Nat} (f_a3 : pk_Fo a3 σ := by assumption)  (h0 : pe_K σ (pe_R σ a3 1) = 3 := by first | assumption | omega) (k : Φ (some (.inl (pe_I σ (pe_R σ a3 1) 1))) σ) : pe_X d 83 (85, [o0, o1, o2, some (.inr (.inr a3))], [], σ) Φ := by
  refine pe_blk 26 3 ck83 [pe_K σ a3 = 0, pe_K σ (pe_R σ a3 1) = 3] (92, [o0, o1, o2, some (.inr (.inr a3))], [.inl (pe_I σ (pe_R σ a3 1) 1)], σ) rfl ?_ ?_
  · first
    | (simp (disch := omega) only [pe_all, pe_K_wI, pe_K_wR, pk_oK f_a3]; done)
    | (simp (disch := omega) only [pe_all, pe_K_wI, pe_K_wR, pk_oK f_a3]; (repeat' apply And.intro) <;> first | assumption | omega | decide)
  · try simp (disch := omega) only [pe_K_wI, pe_K_wR, pk_oK f_a3]
    exact pe_fine 29 ck83 rfl rfl rfl trivial k
theorem b83_93 {d : Nat} {Φ : Option pe_V → pe_H → Prop} {σ : pe_H} {o0 : Option pe_V} {o1 : Option pe_V} {o2 : Option pe_V} {a3 : Nat} (f_a3 : pk_Fo a3 σ := by assumption)  (h0 : pe_K σ (pe_R σ a3 1) = 3 := by first | assumption | omega) (k : pe_M d 42 [.inr (.inr (pe_R σ a3 1))] σ (fun r σ' => pe_X d 83 (100, [o0, o1, o2, some (.inr (.inr a3))], r.toList ++ [], σ') Φ)) : pe_X d 83 (93, [o0, o1, o2, some (.inr (.inr a3))], [], σ) Φ := by
  refine pe_blk 30 2 ck83 [pe_K σ a3 = 0] (97, [o0, o1, o2, some (.inr (.inr a3))], [.inr (.inr (pe_R σ a3 1))], σ) rfl ?_ ?_
  · first
    | (simp (disch := omega) only [pe_all, pe_K_wI, pe_K_wR, pk_oK f_a3]; done)
    | (simp (disch := omega) only [pe_all, pe_K_wI, pe_K_wR, pk_oK f_a3]; (repeat' apply And.intro) <;> first | assumption | omega | decide)
  · try simp (disch := omega) only [pe_K_wI, pe_K_wR, pk_oK f_a3]
    have hrc : pe_K σ (pe_R σ a3 1) = 3 := by first | assumption | (simp (disch := omega) only [pe_K_wI, pe_K_wR, pk_oK f_a3]; done) | (simp (disch := omega) only [pe_K_wI, pe_K_wR, pk_oK f_a3]; assumption)
    exact pe_cal 32 ck83 rfl rfl rfl ⟨hrc, by decide⟩ k
theorem b83_100 {d : Nat} {Φ : Option pe_V → pe_H → Prop} {σ : pe_H} {o0 : Option pe_V} {o1 : Option pe_V} {o2 : Option pe_V} {o3 : Option pe_V} {s0 : Int}    (k : Φ (some (.inl (s0 + 100))) σ) : pe_X d 83 (100, [o0, o1, o2, o3], [.inl s0], σ) Φ := by
  refine pe_blk 33 2 ck83 [] (103, [o0, o1, o2, o3], [.inl (s0 + 100)], σ) rfl ?_ ?_
  · exact trivial
  · exact pe_fine 35 ck83 rfl rfl rfl trivial k
theorem b83_104 {d : Nat} {Φ : Option pe_V → pe_H → Prop} {σ : pe_H} {o0 : Option pe_V} {o1 : Option pe_V} {o2 : Option pe_V} {a3 : Nat} (f_a3 : pk_Fo a3 σ := by assumption)   (k : Φ (some (.inl (pe_I σ a3 9))) σ) : pe_X d 83 (104, [o0, o1, o2, some (.inr (.inr a3))], [], σ) Φ := by
  refine pe_blk 36 2 ck83 [pe_K σ a3 = 0] (108, [o0, o1, o2, some (.inr (.inr a3))], [.inl (pe_I σ a3 9)], σ) rfl ?_ ?_
  · first
    | (simp (disch := omega) only [pe_all, pe_K_wI, pe_K_wR, pk_oK f_a3]; done)
    | (simp (disch := omega) only [pe_all, pe_K_wI, pe_K_wR, pk_oK f_a3]; (repeat' apply And.intro) <;> first | assumption | omega | decide)
  · try simp (disch := omega) only [pe_K_wI, pe_K_wR, pk_oK f_a3]
    exact pe_fine 38 ck83 rfl rfl rfl trivial k
theorem b83_109 {d : Nat} {Φ : Option pe_V → pe_H → Prop} {σ : pe_H} {o0 : Option pe_V} {o1 : Option pe_V} {o2 : Option pe_V} {a3 : Nat} (f_a3 : pk_Fo a3 σ := by assumption)   (k : Φ (some (.inl (pe_I σ a3 7))) σ) : pe_X d 83 (109, [o0, o1, o2, some (.inr (.inr a3))], [], σ) Φ := by
  refine pe_blk 39 2 ck83 [pe_K σ a3 = 0] (113, [o0, o1, o2, some (.inr (.inr a3))], [.inl (pe_I σ a3 7)], σ) rfl ?_ ?_
  · first
    | (simp (disch := omega) only [pe_all, pe_K_wI, pe_K_wR, pk_oK f_a3]; done)
    | (simp (disch := omega) only [pe_all, pe_K_wI, pe_K_wR, pk_oK f_a3]; (repeat' apply And.intro) <;> first | assumption | omega | decide)
  · try simp (disch := omega) only [pe_K_wI, pe_K_wR, pk_oK f_a3]
    exact pe_fine 41 ck83 rfl rfl rfl trivial k
theorem b83_114 {d : Nat} {Φ : Option pe_V → pe_H → Prop} {σ : pe_H} {a0 : Nat} {x1 : Int} {o2 : Option pe_V} {o3 : Option pe_V} (f_a0 : pk_Fs a0 σ := by assumption)   (k : pe_M d 23 [.inr (.inr (a0 + 1)), .inl x1] σ (fun r σ' => pe_X d 83 (122, [some (.inr (.inr a0)), some (.inl x1), o2, o3], r.toList ++ [], σ') Φ)) : pe_X d 83 (114, [some (.inr (.inr a0)), some (.inl x1), o2, o3], [], σ) Φ := by
  refine pe_blk 42 3 ck83 [pe_K σ a0 = 8] (119, [some (.inr (.inr a0)), some (.inl x1), o2, o3], [.inl x1, .inr (.inr (pe_R σ a0 0))], σ) rfl ?_ ?_
  · first
    | (simp (disch := omega) only [pe_all, pe_K_wI, pe_K_wR, pe_R_nej, pe_R_ner, pe_R_wI, pk_mK (pk_sM0 f_a0), pk_sK f_a0, pk_sR0 f_a0]; done)
    | (simp (disch := omega) only [pe_all, pe_K_wI, pe_K_wR, pe_R_nej, pe_R_ner, pe_R_wI, pk_mK (pk_sM0 f_a0), pk_sK f_a0, pk_sR0 f_a0]; (repeat' apply And.intro) <;> first | assumption | omega | decide)
  · try simp (disch := omega) only [pe_K_wI, pe_K_wR, pe_R_nej, pe_R_ner, pe_R_wI, pk_mK (pk_sM0 f_a0), pk_sK f_a0, pk_sR0 f_a0]
    have hrc : pe_K σ (a0 + 1) = 2 := by first | assumption | (simp (disch := omega) only [pe_K_wI, pe_K_wR, pe_R_nej, pe_R_ner, pe_R_wI, pk_mK (pk_sM0 f_a0), pk_sK f_a0, pk_sR0 f_a0]; done) | (simp (disch := omega) only [pe_K_wI, pe_K_wR, pe_R_nej, pe_R_ner, pe_R_wI, pk_mK (pk_sM0 f_a0), pk_sK f_a0, pk_sR0 f_a0]; assumption)
    exact pe_cal 45 ck83 rfl rfl rfl ⟨hrc, by decide⟩ k
theorem b83_122 {d : Nat} {Φ : Option pe_V → pe_H → Prop} {σ : pe_H} {o0 : Option pe_V} {o1 : Option pe_V} {o2 : Option pe_V} {o3 : Option pe_V} {s0 : Int}    (k : Φ (some (.inl s0)) σ) : pe_X d 83 (122, [o0, o1, o2, o3], [.inl s0], σ) Φ := by
  exact pe_fine 46 ck83 rfl rfl rfl trivial k
theorem b83_123 {d : Nat} {Φ : Option pe_V → pe_H → Prop} {σ : pe_H} {o0 : Option pe_V} {o1 : Option pe_V} {x2 : Int} {a3 : Nat} (f_a3 : pk_Fo a3 σ := by assumption)   (k : pe_M d 9 [.inr (.inr a3), .inl x2] σ (fun r σ' => pe_X d 83 (128, [o0, o1, some (.inl x2), some (.inr (.inr a3))], r.toList ++ [], σ') Φ)) : pe_X d 83 (123, [o0, o1, some (.inl x2), some (.inr (.inr a3))], [], σ) Φ := by
  refine pe_blk 47 2 ck83 [] (125, [o0, o1, some (.inl x2), some (.inr (.inr a3))], [.inl x2, .inr (.inr a3)], σ) rfl ?_ ?_
  · exact trivial
  · try simp (disch := omega) only [pe_K_wI, pe_K_wR, pk_oK f_a3]
    have hrc : pe_K σ a3 = 0 := by first | assumption | (simp (disch := omega) only [pe_K_wI, pe_K_wR, pk_oK f_a3]; done) | (simp (disch := omega) only [pe_K_wI, pe_K_wR, pk_oK f_a3]; assumption)
    exact pe_cal 49 ck83 rfl rfl rfl ⟨hrc, by decide⟩ k
theorem b83_128 {d : Nat} {Φ : Option pe_V → pe_H → Prop} {σ : pe_H} {o0 : Option pe_V} {o1 : Option pe_V} {o2 : Option pe_V} {o3 : Option pe_V} {s0 : Int}    (k : Φ (some (.inl s0)) σ) : pe_X d 83 (128, [o0, o1, o2, o3], [.inl s0], σ) Φ := by
  exact pe_fine 50 ck83 rfl rfl rfl trivial k
-- StepMachines.frame(III)I
def T84 : List (Nat × Instr × Nat) := [(0, .aload_n 0, 1), (1, .iload_n 1, 1), (2, .invokevirtual 107, 3), (5, .ifCond .eq 12, 3), (8, .iload_n 3, 1), (9, .ifCond .lt 8, 3), (12, .iload_n 3, 1), (13, .iconst 4, 1), (14, .if_icmp .le 5, 3), (17, .iconst (-1), 1), (18, .ireturn, 1), (19, .aload_n 0, 1), (20, .getfield 10, 3), (23, .getfield 110, 3), (26, .iload_n 1, 1), (27, .aaload, 1), (28, .astore 4, 2), (30, .iload_n 2, 1), (31, .ifCond .lt 12, 3), (34, .iload_n 2, 1), (35, .aload 4, 2), (37, .getfield 129, 3), (40, .if_icmp .lt 5, 3), (43, .iconst (-1), 1), (44, .ireturn, 1), (45, .aload 4, 2), (47, .getfield 141, 3), (50, .iload_n 2, 1), (51, .aaload, 1), (52, .astore 5, 2), (54, .iload_n 3, 1), (55, .tableswitch 61 0 3 #[29, 35, 41, 47], 29), (84, .aload 5, 2), (86, .getfield 145, 3), (89, .ireturn, 1), (90, .aload 5, 2), (92, .getfield 149, 3), (95, .ireturn, 1), (96, .aload 5, 2), (98, .getfield 152, 3), (101, .ireturn, 1), (102, .aload 5, 2), (104, .getfield 155, 3), (107, .ifCond .eq 7, 3), (110, .iconst 1, 1), (111, .goto 4, 3), (114, .iconst 0, 1), (115, .ireturn, 1), (116, .aload_n 0, 1), (117, .aload 5, 2), (119, .getfield 158, 3), (122, .invokevirtual 161, 3), (125, .ireturn, 1)]
theorem ck84 : pe_ctx 84 8 false (some .int) 6 T84 := ⟨rfl, rfl, rfl, rfl, by decide +kernel, by decide, by decide⟩
theorem b84_0 {d : Nat} {Φ : Option pe_V → pe_H → Prop} {σ : pe_H} {a0 : Nat} {x1 : Int} {x2 : Int} {x3 : Int} {o4 : Option pe_V} {o5 : Option pe_V} (f_a0 : pk_Fs a0 σ := by assumption)   (k : pe_M d 117 [.inr (.inr a0), .inl x1] σ (fun r σ' => pe_X d 84 (5, [some (.inr (.inr a0)), some (.inl x1), some (.inl x2), some (.inl x3), o4, o5], r.toList ++ [], σ') Φ)) : pe_X d 84 (0, [some (.inr (.inr a0)), some (.inl x1), some (.inl x2), some (.inl x3), o4, o5], [], σ) Φ := by
  refine pe_blk 0 2 ck84 [] (2, [some (.inr (.inr a0)), some (.inl x1), some (.inl x2), some (.inl x3), o4, o5], [.inl x1, .inr (.inr a0)], σ) rfl ?_ ?_
  · exact trivial
  · try simp (disch := omega) only [pe_K_wI, pe_K_wR, pk_sK f_a0]
    have hrc : pe_K σ a0 = 8 := by first | assumption | (simp (disch := omega) only [pe_K_wI, pe_K_wR, pk_sK f_a0]; done) | (simp (disch := omega) only [pe_K_wI, pe_K_wR, pk_sK f_a0]; assumption)
    exact pe_cal 2 ck84 rfl rfl rfl ⟨hrc, by decide⟩ k
theorem b84_5 {d : Nat} {Φ : Option pe_V → pe_H → Prop} {σ : pe_H} {a0 : Nat} {x1 : Int} {x2 : Int} {x3 : Int} {o4 : Option pe_V} {o5 : Option pe_V} {s0 : Int} (f_a0 : pk_Fs a0 σ := by assumption) (w0 : pe_in s0 := by unfold pe_in; omega)  (k1 : s0 = 0 → pe_X d 84 (17, [some (.inr (.inr a0)), some (.inl x1), some (.inl x2), some (.inl x3), o4, o5], [], σ) Φ) (k2 : ¬ (s0 = 0) → pe_X d 84 (8, [some (.inr (.inr a0)), some (.inl x1), some (.inl x2), some (.inl x3), o4, o5], [], σ) Φ) : pe_X d 84 (5, [some (.inr (.inr a0)), some (.inl x1), some (.inl x2), some (.inl x3), o4, o5], [.inl s0], σ) Φ := by
  refine pe_blk 3 1 ck84 [] (cond (decide ((pe_w s0) = 0)) 17 8, [some (.inr (.inr a0)), some (.inl x1), some (.inl x2), some (.inl x3), o4, o5], [], σ) rfl ?_ ?_
  · exact trivial
  · try simp (disch := omega) only [pe_wi w0]
    exact pe_two k1 k2
theorem b84_8 {d : Nat} {Φ : Option pe_V → pe_H → Prop} {σ : pe_H} {a0 : Nat} {x1 : Int} {x2 : Int} {x3 : Int} {o4 : Option pe_V} {o5 : Option pe_V} (f_a0 : pk_Fs a0 σ := by assumption) (w0 : pe_in x3 := by unfold pe_in; omega)  (k1 : x3 < 0 → pe_X d 84 (17, [some (.inr (.inr a0)), some (.inl x1), some (.inl x2), some (.inl x3), o4, o5], [], σ) Φ) (k2 : ¬ (x3 < 0) → pe_X d 84 (12, [some (.inr (.inr a0)), some (.inl x1), some (.inl x2), some (.inl x3), o4, o5], [], σ) Φ) : pe_X d 84 (8, [some (.inr (.inr a0)), some (.inl x1), some (.inl x2), some (.inl x3), o4, o5], [], σ) Φ := by
  refine pe_blk 4 2 ck84 [] (cond (decide ((pe_w x3) < 0)) 17 12, [some (.inr (.inr a0)), some (.inl x1), some (.inl x2), some (.inl x3), o4, o5], [], σ) rfl ?_ ?_
  · exact trivial
  · try simp (disch := omega) only [pe_wi w0]
    exact pe_two k1 k2
theorem b84_12 {d : Nat} {Φ : Option pe_V → pe_H → Prop} {σ : pe_H} {a0 : Nat} {x1 : Int} {x2 : Int} {x3 : Int} {o4 : Option pe_V} {o5 : Option pe_V} (f_a0 : pk_Fs a0 σ := by assumption) (w0 : pe_in x3 := by unfold pe_in; omega)  (k1 : x3 ≤ 4 → pe_X d 84 (19, [some (.inr (.inr a0)), some (.inl x1), some (.inl x2), some (.inl x3), o4, o5], [], σ) Φ) (k2 : ¬ (x3 ≤ 4) → pe_X d 84 (17, [some (.inr (.inr a0)), some (.inl x1), some (.inl x2), some (.inl x3), o4, o5], [], σ) Φ) : pe_X d 84 (12, [some (.inr (.inr a0)), some (.inl x1), some (.inl x2), some (.inl x3), o4, o5], [], σ) Φ := by
  refine pe_blk 6 3 ck84 [] (cond (decide ((pe_w x3) ≤ (pe_w 4))) 19 17, [some (.inr (.inr a0)), some (.inl x1), some (.inl x2), some (.inl x3), o4, o5], [], σ) rfl ?_ ?_
  · exact trivial
  · try simp (disch := omega) only [pe_wi w0, pe_wi (x := 4) ⟨by decide, by decide⟩]
    exact pe_two k1 k2
theorem b84_17 {d : Nat} {Φ : Option pe_V → pe_H → Prop} {σ : pe_H} {o0 : Option pe_V} {o1 : Option pe_V} {o2 : Option pe_V} {o3 : Option pe_V} {o4 : Option pe_V} {o5 : Option pe_V}    (k : Φ (some (.inl (-1))) σ) : pe_X d 84 (17, [o0, o1, o2, o3, o4, o5], [], σ) Φ := by
  refine pe_blk 9 1 ck84 [] (18, [o0, o1, o2, o3, o4, o5], [.inl (-1)], σ) rfl ?_ ?_
  · exact trivial
  · exact pe_fine 10 ck84 rfl rfl rfl trivial k
theorem b84_19 {d : Nat} {Φ : Option pe_V → pe_H → Prop} {σ : pe_H} {a0 : Nat} {x1 : Int} {x2 : Int} {x3 : Int} {o4 : Option pe_V} {o5 : Option pe_V} (f_a0 : pk_Fs a0 σ := by assumption) (w0 : pe_in x1 := by unfold pe_in; omega) (w1 : pe_in x2 := by unfold pe_in; omega) (h0 : 0 ≤ x1 := by first | assumption | omega) (h1 : x1 < 8 := by first | assumption | omega) (k1 : x2 < 0 → pe_X d 84 (43, [some (.inr (.inr a0)), some (.inl x1), some (.inl x2), some (.inl x3), some (.inr (.inr (pk_c (a0 + 1) x1))), o5], [], σ) Φ) (k2 : ¬ (x2 < 0) → pe_X d 84 (34, [some (.inr (.inr a0)), some (.inl x1), some (.inl x2), some (.inl x3), some (.inr (.inr (pk_c (a0 + 1) x1))), o5], [], σ) Φ) : pe_X d 84 (19, [some (.inr (.inr a0)), some (.inl x1), some (.inl x2), some (.inl x3), o4, o5], [], σ) Φ := by
  refine pe_blk 11 8 ck84 [pe_K σ a0 = 8, pe_K σ (pe_R σ a0 0) = 2, 12 ≤ pe_K σ (pe_R σ (pe_R σ a0 0) 1) ∧ pe_K σ (pe_R σ (pe_R σ a0 0) 1) < 19, 0 ≤ (pe_w x1), (pe_w x1) < pe_L σ (pe_R σ (pe_R σ a0 0) 1)] (cond (decide ((pe_w x2) < 0)) 43 34, [some (.inr (.inr a0)), some (.inl x1), some (.inl x2), some (.inl x3), some (.inr (.inr (pe_R σ (pe_R σ (pe_R σ a0 0) 1) (pe_w x1)))), o5], [], σ) rfl ?_ ?_
  · first
    | (simp (disch := omega) only [pe_all, pe_wi w0, pe_wi w1, pe_K_wI, pe_K_wR, pe_L_wI, pe_L_wR, pe_R_nej, pe_R_ner, pe_R_wI, pk_mE2 (pk_sM0 f_a0) (i := x1) (by omega) (by omega), pk_mK (pk_sM0 f_a0), pk_mK2 (pk_sM0 f_a0), pk_mL2 (pk_sM0 f_a0), pk_mR2 (pk_sM0 f_a0), pk_sK f_a0, pk_sR0 f_a0]; done)
    | (simp (disch := omega) only [pe_all, pe_wi w0, pe_wi w1, pe_K_wI, pe_K_wR, pe_L_wI, pe_L_wR, pe_R_nej, pe_R_ner, pe_R_wI, pk_mE2 (pk_sM0 f_a0) (i := x1) (by omega) (by omega), pk_mK (pk_sM0 f_a0), pk_mK2 (pk_sM0 f_a0), pk_mL2 (pk_sM0 f_a0), pk_mR2 (pk_sM0 f_a0), pk_sK f_a0, pk_sR0 f_a0]; (repeat' apply And.intro) <;> first | assumption | omega | decide)
  · try simp (disch := omega) only [pe_wi w0, pe_wi w1, pe_K_wI, pe_K_wR, pe_L_wI, pe_L_wR, pe_R_nej, pe_R_ner, pe_R_wI, pk_mE2 (pk_sM0 f_a0) (i := x1) (by omega) (by omega), pk_mK (pk_sM0 f_a0), pk_mK2 (pk_sM0 f_a0), pk_mL2 (pk_sM0 f_a0), pk_mR2 (pk_sM0 f_a0), pk_sK f_a0, pk_sR0 f_a0]
    exact pe_two k1 k2
theorem b84_34 {d : Nat} {Φ : Option pe_V → pe_H → Prop} {σ : pe_H} {a0 : Nat} {o1 : Option pe_V} {x2 : Int} {x3 : Int} {a4 : Nat} {o5 : Option pe_V} (f_a0 : pk_Fs a0 σ := by assumption) (f_a4 : pk_Fo a4 σ := by assumption) (w0 : pe_in (pe_I σ a4 9) := by unfold pe_in; omega) (w1 : pe_in x2 := by unfold pe_in; omega)  (k1 : x2 < (pe_I σ a4 9) → pe_X d 84 (45, [some (.inr (.inr a0)), o1, some (.inl x2), some (.inl x3), some (.inr (.inr a4)), o5], [], σ) Φ) (k2 : ¬ (x2 < (pe_I σ a4 9)) → pe_X d 84 (43, [some (.inr (.inr a0)), o1, some (.inl x2), some (.inl x3), some (.inr (.inr a4)), o5], [], σ) Φ) : pe_X d 84 (34, [some (.inr (.inr a0)), o1, some (.inl x2), some (.inl x3), some (.inr (.inr a4)), o5], [], σ) Φ := by
  refine pe_blk 19 4 ck84 [pe_K σ a4 = 0] (cond (decide ((pe_w x2) < (pe_w (pe_I σ a4 9)))) 45 43, [some (.inr (.inr a0)), o1, some (.inl x2), some (.inl x3), some (.inr (.inr a4)), o5], [], σ) rfl ?_ ?_
  · first
    | (simp (disch := omega) only [pe_all, pe_wi w0, pe_wi w1, pe_K_wI, pe_K_wR, pk_oK f_a4]; done)
    | (simp (disch := omega) only [pe_all, pe_wi w0, pe_wi w1, pe_K_wI, pe_K_wR, pk_oK f_a4]; (repeat' apply And.intro) <;> first | assumption | omega | decide)
  · try simp (disch := omega) only [pe_wi w0, pe_wi w1, pe_K_wI, pe_K_wR, pk_oK f_a4]
    exact pe_two k1 k2
theorem b84_43 {d : Nat} {Φ : Option pe_V → pe_H → Prop} {σ : pe_H} {o0 : Option pe_V} {o1 : Option pe_V} {o2 : Option pe_V} {o3 : Option pe_V} {o4 : Option pe_V} {o5 : Option pe_V}    (k : Φ (some (.inl (-1))) σ) : pe_X d 84 (43, [o0, o1, o2, o3, o4, o5], [], σ) Φ := by
  refine pe_blk 23 1 ck84 [] (44, [o0, o1, o2, o3, o4, o5], [.inl (-1)], σ) rfl ?_ ?_
  · exact trivial
  · exact pe_fine 24 ck84 rfl rfl rfl trivial k
theorem b84_45 {d : Nat} {Φ : Option pe_V → pe_H → Prop} {σ : pe_H} {a0 : Nat} {o1 : Option pe_V} {x2 : Int} {x3 : Int} {a4 : Nat} {o5 : Option pe_V} (f_a0 : pk_Fs a0 σ := by assumption) (f_a4 : pk_Fo a4 σ := by assumption) (w0 : pe_in x2 := by unfold pe_in; omega) (w1 : pe_in x3 := by unfold pe_in; omega) (h0 : 0 ≤ x2 := by first | assumption | omega) (h1 : x2 < 6 := by first | assumption | omega) (k0 : x3 = 0 → pe_X d 84 (84, [some (.inr (.inr a0)), o1, some (.inl x2), some (.inl x3), some (.inr (.inr a4)), some (.inr (.inr (pk_f a4 x2)))], [], σ) Φ) (k1 : x3 = 1 → pe_X d 84 (90, [some (.inr (.inr a0)), o1, some (.inl x2), some (.inl x3), some (.inr (.inr a4)), some (.inr (.inr (pk_f a4 x2)))], [], σ) Φ) (k2 : x3 = 2 → pe_X d 84 (96, [some (.inr (.inr a0)), o1, some (.inl x2), some (.inl x3), some (.inr (.inr a4)), some (.inr (.inr (pk_f a4 x2)))], [], σ) Φ) (k3 : x3 = 3 → pe_X d 84 (102, [some (.inr (.inr a0)), o1, some (.inl x2), some (.inl x3), some (.inr (.inr a4)), some (.inr (.inr (pk_f a4 x2)))], [], σ) Φ) (kd : ¬ x3 = 0 → ¬ x3 = 1 → ¬ x3 = 2 → ¬ x3 = 3 → pe_X d 84 (116, [some (.inr (.inr a0)), o1, some (.inl x2), some (.inl x3), some (.inr (.inr a4)), some (.inr (.inr (pk_f a4 x2)))], [], σ) Φ) : pe_X d 84 (45, [some (.inr (.inr a0)), o1, some (.inl x2), some (.inl x3), some (.inr (.inr a4)), o5], [], σ) Φ := by
  refine pe_blk 25 7 ck84 [pe_K σ a4 = 0, 12 ≤ pe_K σ (pe_R σ a4 10) ∧ pe_K σ (pe_R σ a4 10) < 19, 0 ≤ (pe_w x2), (pe_w x2) < pe_L σ (pe_R σ a4 10)] ((((55 : Nat) : Int) + pe_sw 61 [(0, 29), (1, 35), (2, 41), (3, 47)] (pe_w x3)).toNat, [some (.inr (.inr a0)), o1, some (.inl x2), some (.inl x3), some (.inr (.inr a4)), some (.inr (.inr (pe_R σ (pe_R σ a4 10) (pe_w x2))))], [], σ) rfl ?_ ?_
  · first
    | (simp (disch := omega) only [pe_all, pe_wi w0, pe_wi w1, pe_K_wI, pe_K_wR, pe_L_wI, pe_L_wR, pe_R_nej, pe_R_ner, pe_R_wI, pk_oE f_a4 (i := x2) (by omega) (by omega), pk_oK f_a4, pk_oK1 f_a4, pk_oL1 f_a4, pk_oR f_a4]; done)
    | (simp (disch := omega) only [pe_all, pe_wi w0, pe_wi w1, pe_K_wI, pe_K_wR, pe_L_wI, pe_L_wR, pe_R_nej, pe_R_ner, pe_R_wI, pk_oE f_a4 (i := x2) (by omega) (by omega), pk_oK f_a4, pk_oK1 f_a4, pk_oL1 f_a4, pk_oR f_a4]; (repeat' apply And.intro) <;> first | assumption | omega | decide)
  · try simp (disch := omega) only [pe_wi w0, pe_wi w1, pe_K_wI, pe_K_wR, pe_L_wI, pe_L_wR, pe_R_nej, pe_R_ner, pe_R_wI, pk_oE f_a4 (i := x2) (by omega) (by omega), pk_oK f_a4, pk_oK1 f_a4, pk_oL1 f_a4, pk_oR f_a4]
    by_cases q0 : x3 = 0
    · have e : pe_sw 61 [(0, 29), (1, 35), (2, 41), (3, 47)] x3 = 29 := by rw [q0]; rfl
      rw [e]; exact k0 q0
    by_cases q1 : x3 = 1
    · have e : pe_sw 61 [(0, 29), (1, 35), (2, 41), (3, 47)] x3 = 35 := by rw [q1]; rfl
      rw [e]; exact k1 q1
    by_cases q2 : x3 = 2
    · have e : pe_sw 61 [(0, 29), (1, 35), (2, 41), (3, 47)] x3 = 41 := by rw [q2]; rfl
      rw [e]; exact k2 q2
    by_cases q3 : x3 = 3
    · have e : pe_sw 61 [(0, 29), (1, 35), (2, 41), (3, 47)] x3 = 47 := by rw [q3]; rfl
      rw [e]; exact k3 q3
    have e : pe_sw 61 [(0, 29), (1, 35), (2, 41), (3, 47)] x3 = 61 := by simp only [pe_sw, if_neg q0, if_neg q1, if_neg q2, if_neg q3]
    rw [e]; exact kd q0 q1 q2 q3
theorem b84_84 {d : Nat} {Φ : Option pe_V → pe_H → Prop} {σ : pe_H} {o0 : Option pe_V} {o1 : Option pe_V} {o2 : Option pe_V} {o3 : Option pe_V} {o4 : Option pe_V} {a5 : Nat}   (h0 : pe_K σ a5 = 1 := by first | assumption | omega) (k : Φ (some (.inl (pe_I σ a5 1))) σ) : pe_X d 84 (84, [o0, o1, o2, o3, o4, some (.inr (.inr a5))], [], σ) Φ := by
  refine pe_blk 32 2 ck84 [pe_K σ a5 = 1] (89, [o0, o1, o2, o3, o4, some (.inr (.inr a5))], [.inl (pe_I σ a5 1)], σ) rfl ?_ ?_
  · first
    | (simp (disch := omega) only [pe_all, pe_K_wI, pe_K_wR]; done)
    | (simp (disch := omega) only [pe_all, pe_K_wI, pe_K_wR]; (repeat' apply And.intro) <;> first | assumption | omega | decide)
  · try simp (disch := omega) only [pe_K_wI, pe_K_wR]
    exact pe_fine 34 ck84 rfl rfl rfl trivial k
theorem b84_90 {d : Nat} {Φ : Option pe_V → pe_H → Prop} {σ : pe_H} {o0 : Option pe_V} {o1 : Option pe_V} {o2 : Option pe_V} {o3 : Option pe_V} {o4 : Option pe_V} {a5 : Nat}   (h0 : pe_K σ a5 = 1 := by first | assumption | omega) (k : Φ (some (.inl (pe_I σ a5 2))) σ) : pe_X d 84 (90, [o0, o1, o2, o3, o4, some (.inr (.inr a5))], [], σ) Φ := by
  refine pe_blk 35 2 ck84 [pe_K σ a5 = 1] (95, [o0, o1, o2, o3, o4, some (.inr (.inr a5))], [.inl (pe_I σ a5 2)], σ) rfl ?_ ?_
  · first
    | (simp (disch := omega) only [pe_all, pe_K_wI, pe_K_wR]; done)
    | (simp (disch := omega) only [pe_all, pe_K_wI, pe_K_wR]; (repeat' apply And.intro) <;> first | assumption | omega | decide)
  · try simp (disch := omega) only [pe_K_wI, pe_K_wR]
    exact pe_fine 37 ck84 rfl rfl rfl trivial k
theorem b84_96 {d : Nat} {Φ : Option pe_V → pe_H → Prop} {σ : pe_H} {o0 : Option pe_V} {o1 : Option pe_V} {o2 : Option pe_V} {o3 : Option pe_V} {o4 : Option pe_V} {a5 : Nat}   (h0 : pe_K σ a5 = 1 := by first | assumption | omega) (k : Φ (some (.inl (pe_I σ a5 3))) σ) : pe_X d 84 (96, [o0, o1, o2, o3, o4, some (.inr (.inr a5))], [], σ) Φ := by
  refine pe_blk 38 2 ck84 [pe_K σ a5 = 1] (101, [o0, o1, o2, o3, o4, some (.inr (.inr a5))], [.inl (pe_I σ a5 3)], σ) rfl ?_ ?_
  · first
    | (simp (disch := omega) only [pe_all, pe_K_wI, pe_K_wR]; done)
    | (simp (disch := omega) only [pe_all, pe_K_wI, pe_K_wR]; (repeat' apply And.intro) <;> first | assumption | omega | decide)
  · try simp (disch := omega) only [pe_K_wI, pe_K_wR]
    exact pe_fine 40 ck84 rfl rfl rfl trivial k
theorem b84_102 {d : Nat} {Φ : Option pe_V → pe_H → Prop} {σ : pe_H} {o0 : Option pe_V} {o1 : Option pe_V} {o2 : Option pe_V} {o3 : Option pe_V} {o4 : Option pe_V} {a5 : Nat}  (w0 : pe_in (pe_I σ a5 4) := by unfold pe_in; omega) (h0 : pe_K σ a5 = 1 := by first | assumption | omega) (k1 : (pe_I σ a5 4) = 0 → pe_X d 84 (114, [o0, o1, o2, o3, o4, some (.inr (.inr a5))], [], σ) Φ) (k2 : ¬ ((pe_I σ a5 4) = 0) → pe_X d 84 (110, [o0, o1, o2, o3, o4, some (.inr (.inr a5))], [], σ) Φ) : pe_X d 84 (102, [o0, o1, o2, o3, o4, some (.inr (.inr a5))], [], σ) Φ := by
  refine pe_blk 41 3 ck84 [pe_K σ a5 = 1] (cond (decide ((pe_w (pe_I σ a5 4)) = 0)) 114 110, [o0, o1, o2, o3, o4, some (.inr (.inr a5))], [], σ) rfl ?_ ?_
  · first
    | (simp (disch := omega) only [pe_all, pe_wi w0, pe_K_wI, pe_K_wR]; done)
    | (simp (disch := omega) only [pe_all, pe_wi w0, pe_K_wI, pe_K_wR]; (repeat' apply And.intro) <;> first | assumption | omega | decide)
  · try simp (disch := omega) only [pe_wi w0, pe_K_wI, pe_K_wR]
    exact pe_two k1 k2
theorem b84_110 {d : Nat} {Φ : Option pe_V → pe_H → Prop} {σ : pe_H} {o0 : Option pe_V} {o1 : Option pe_V} {o2 : Option pe_V} {o3 : Option pe_V} {o4 : Option pe_V} {o5 : Option pe_V}    (k : pe_X d 84 (115, [o0, o1, o2, o3, o4, o5], [.inl 1], σ) Φ) : pe_X d 84 (110, [o0, o1, o2, o3, o4, o5], [], σ) Φ := by
  refine pe_blk 44 2 ck84 [] (115, [o0, o1, o2, o3, o4, o5], [.inl 1], σ) rfl ?_ ?_
  · exact trivial
  · exact k
theorem b84_114 {d : Nat} {Φ : Option pe_V → pe_H → Prop} {σ : pe_H} {o0 : Option pe_V} {o1 : Option pe_V} {o2 : Option pe_V} {o3 : Option pe_V} {o4 : Option pe_V} {o5 : Option pe_V}    (k : pe_X d 84 (115, [o0, o1, o2, o3, o4, o5], [.inl 0], σ) Φ) : pe_X d 84 (114, [o0, o1, o2, o3, o4, o5], [], σ) Φ := by
  refine pe_blk 46 1 ck84 [] (115, [o0, o1, o2, o3, o4, o5], [.inl 0], σ) rfl ?_ ?_
  · exact trivial
  · exact k
theorem b84_115 {d : Nat} {Φ : Option pe_V → pe_H → Prop} {σ : pe_H} {o0 : Option pe_V} {o1 : Option pe_V} {o2 : Option pe_V} {o3 : Option pe_V} {o4 : Option pe_V} {o5 : Option pe_V} {s0 : Int}    (k : Φ (some (.inl s0)) σ) : pe_X d 84 (115, [o0, o1, o2, o3, o4, o5], [.inl s0], σ) Φ := by
  exact pe_fine 47 ck84 rfl rfl rfl trivial k
set_option maxRecDepth 8000 in
theorem b84_116 {d : Nat} {Φ : Option pe_V → pe_H → Prop} {σ : pe_H} {a0 : Nat} {o1 : Option pe_V} {o2 : Option pe_V} {o3 : Option pe_V} {o4 : Option pe_V} {a5 : Nat} (f_a0 : pk_Fs a0 σ := by assumption)  (h0 : pe_K σ a5 = 1 := by first | assumption | omega) (k : pe_M d 121 [.inr (.inr a0), .inl (pe_I σ a5 5)] σ (fun r σ' => pe_X d 84 (125, [some (.inr (.inr a0)), o1, o2, o3, o4, some (.inr (.inr a5))], r.toList ++ [], σ') Φ)) : pe_X d 84 (116, [some (.inr (.inr a0)), o1, o2, o3, o4, some (.inr (.inr a5))], [], σ) Φ := by
  refine pe_blk 48 3 ck84 [pe_K σ a5 = 1] (122, [some (.inr (.inr a0)), o1, o2, o3, o4, some (.inr (.inr a5))], [.inl (pe_I σ a5 5), .inr (.inr a0)], σ) rfl ?_ ?_
  · first
    | (simp (disch := omega) only [pe_all, pe_K_wI, pe_K_wR, pk_sK f_a0]; done)
    | (simp (disch := omega) only [pe_all, pe_K_wI, pe_K_wR, pk_sK f_a0]; (repeat' apply And.intro) <;> first | assumption | omega | decide)
  · try simp (disch := omega) only [pe_K_wI, pe_K_wR, pk_sK f_a0]
    have hrc : pe_K σ a0 = 8 := by first | assumption | (simp (disch := omega) only [pe_K_wI, pe_K_wR, pk_sK f_a0]; done) | (simp (disch := omega) only [pe_K_wI, pe_K_wR, pk_sK f_a0]; assumption)
    exact pe_cal 51 ck84 rfl rfl rfl ⟨hrc, by decide⟩ k
set_option maxRecDepth 8000 in
theorem b84_125 {d : Nat} {Φ : Option pe_V → pe_H → Prop} {σ : pe_H} {o0 : Option pe_V} {o1 : Option pe_V} {o2 : Option pe_V} {o3 : Option pe_V} {o4 : Option pe_V} {o5 : Option pe_V} {s0 : Int}    (k : Φ (some (.inl s0)) σ) : pe_X d 84 (125, [o0, o1, o2, o3, o4, o5], [.inl s0], σ) Φ := by
  exact pe_fine 52 ck84 rfl rfl rfl trivial k
-- StepMachines.cause(II)I
def T85 : List (Nat × Instr × Nat) := [(0, .aload_n 0, 1), (1, .iload_n 1, 1), (2, .invokevirtual 107, 3), (5, .ifCond .eq 19, 3), (8, .iload_n 2, 1), (9, .ifCond .lt 15, 3), (12, .iload_n 2, 1), (13, .aload_n 0, 1), (14, .getfield 10, 3), (17, .iload_n 1, 1), (18, .invokevirtual 135, 3), (21, .if_icmp .lt 5, 3), (24, .iconst (-1), 1), (25, .ireturn, 1), (26, .aload_n 0, 1), (27, .getfield 10, 3), (30, .getfield 110, 3), (33, .iload_n 1, 1), (34, .aaload, 1), (35, .getfield 164, 3), (38, .istore_n 3, 1), (39, .iconst 0, 1), (40, .istore 4, 2), (42, .iload 4, 2), (44, .iload_n 2, 1), (45, .if_icmp .ge 18, 3), (48, .aload_n 0, 1), (49, .getfield 10, 3), (52, .iload_n 3, 1), (53, .invokevirtual 167, 3), (56, .istore_n 3, 1), (57, .iinc 4 1, 3), (60, .goto (-18), 3), (63, .aload_n 0, 1), (64, .getfield 10, 3), (67, .iload_n 3, 1), (68, .invokevirtual 170, 3), (71, .ireturn, 1)]
theorem ck85 : pe_ctx 85 8 false (some .int) 5 T85 := ⟨rfl, rfl, rfl, rfl, by decide +kernel, by decide, by decide⟩
theorem b85_0 {d : Nat} {Φ : Option pe_V → pe_H → Prop} {σ : pe_H} {a0 : Nat} {x1 : Int} {x2 : Int} {o3 : Option pe_V} {o4 : Option pe_V} (f_a0 : pk_Fs a0 σ := by assumption)   (k : pe_M d 117 [.inr (.inr a0), .inl x1] σ (fun r σ' => pe_X d 85 (5, [some (.inr (.inr a0)), some (.inl x1), some (.inl x2), o3, o4], r.toList ++ [], σ') Φ)) : pe_X d 85 (0, [some (.inr (.inr a0)), some (.inl x1), some (.inl x2), o3, o4], [], σ) Φ := by
  refine pe_blk 0 2 ck85 [] (2, [some (.inr (.inr a0)), some (.inl x1), some (.inl x2), o3, o4], [.inl x1, .inr (.inr a0)], σ) rfl ?_ ?_
  · exact trivial
  · try simp (disch := omega) only [pe_K_wI, pe_K_wR, pk_sK f_a0]
    have hrc : pe_K σ a0 = 8 := by first | assumption | (simp (disch := omega) only [pe_K_wI, pe_K_wR, pk_sK f_a0]; done) | (simp (disch := omega) only [pe_K_wI, pe_K_wR, pk_sK f_a0]; assumption)
    exact pe_cal 2 ck85 rfl rfl rfl ⟨hrc, by decide⟩ k
theorem b85_5 {d : Nat} {Φ : Option pe_V → pe_H → Prop} {σ : pe_H} {a0 : Nat} {x1 : Int} {x2 : Int} {o3 : Option pe_V} {o4 : Option pe_V} {s0 : Int} (f_a0 : pk_Fs a0 σ := by assumption) (w0 : pe_in s0 := by unfold pe_in; omega)  (k1 : s0 = 0 → pe_X d 85 (24, [some (.inr (.inr a0)), some (.inl x1), some (.inl x2), o3, o4], [], σ) Φ) (k2 : ¬ (s0 = 0) → pe_X d 85 (8, [some (.inr (.inr a0)), some (.inl x1), some (.inl x2), o3, o4], [], σ) Φ) : pe_X d 85 (5, [some (.inr (.inr a0)), some (.inl x1), some (.inl x2), o3, o4], [.inl s0], σ) Φ := by
  refine pe_blk 3 1 ck85 [] (cond (decide ((pe_w s0) = 0)) 24 8, [some (.inr (.inr a0)), some (.inl x1), some (.inl x2), o3, o4], [], σ) rfl ?_ ?_
  · exact trivial
  · try simp (disch := omega) only [pe_wi w0]
    exact pe_two k1 k2
theorem b85_8 {d : Nat} {Φ : Option pe_V → pe_H → Prop} {σ : pe_H} {a0 : Nat} {x1 : Int} {x2 : Int} {o3 : Option pe_V} {o4 : Option pe_V} (f_a0 : pk_Fs a0 σ := by assumption) (w0 : pe_in x2 := by unfold pe_in; omega)  (k1 : x2 < 0 → pe_X d 85 (24, [some (.inr (.inr a0)), some (.inl x1), some (.inl x2), o3, o4], [], σ) Φ) (k2 : ¬ (x2 < 0) → pe_X d 85 (12, [some (.inr (.inr a0)), some (.inl x1), some (.inl x2), o3, o4], [], σ) Φ) : pe_X d 85 (8, [some (.inr (.inr a0)), some (.inl x1), some (.inl x2), o3, o4], [], σ) Φ := by
  refine pe_blk 4 2 ck85 [] (cond (decide ((pe_w x2) < 0)) 24 12, [some (.inr (.inr a0)), some (.inl x1), some (.inl x2), o3, o4], [], σ) rfl ?_ ?_
  · exact trivial
  · try simp (disch := omega) only [pe_wi w0]
    exact pe_two k1 k2
theorem b85_12 {d : Nat} {Φ : Option pe_V → pe_H → Prop} {σ : pe_H} {a0 : Nat} {x1 : Int} {x2 : Int} {o3 : Option pe_V} {o4 : Option pe_V} (f_a0 : pk_Fs a0 σ := by assumption)   (k : pe_M d 23 [.inr (.inr (a0 + 1)), .inl x1] σ (fun r σ' => pe_X d 85 (21, [some (.inr (.inr a0)), some (.inl x1), some (.inl x2), o3, o4], r.toList ++ [.inl x2], σ') Φ)) : pe_X d 85 (12, [some (.inr (.inr a0)), some (.inl x1), some (.inl x2), o3, o4], [], σ) Φ := by
  refine pe_blk 6 4 ck85 [pe_K σ a0 = 8] (18, [some (.inr (.inr a0)), some (.inl x1), some (.inl x2), o3, o4], [.inl x1, .inr (.inr (pe_R σ a0 0)), .inl x2], σ) rfl ?_ ?_
  · first
    | (simp (disch := omega) only [pe_all, pe_K_wI, pe_K_wR, pe_R_nej, pe_R_ner, pe_R_wI, pk_mK (pk_sM0 f_a0), pk_sK f_a0, pk_sR0 f_a0]; done)
    | (simp (disch := omega) only [pe_all, pe_K_wI, pe_K_wR, pe_R_nej, pe_R_ner, pe_R_wI, pk_mK (pk_sM0 f_a0), pk_sK f_a0, pk_sR0 f_a0]; (repeat' apply And.intro) <;> first | assumption | omega | decide)
  · try simp (disch := omega) only [pe_K_wI, pe_K_wR, pe_R_nej, pe_R_ner, pe_R_wI, pk_mK (pk_sM0 f_a0), pk_sK f_a0, pk_sR0 f_a0]
    have hrc : pe_K σ (a0 + 1) = 2 := by first | assumption | (simp (disch := omega) only [pe_K_wI, pe_K_wR, pe_R_nej, pe_R_ner, pe_R_wI, pk_mK (pk_sM0 f_a0), pk_sK f_a0, pk_sR0 f_a0]; done) | (simp (disch := omega) only [pe_K_wI, pe_K_wR, pe_R_nej, pe_R_ner, pe_R_wI, pk_mK (pk_sM0 f_a0), pk_sK f_a0, pk_sR0 f_a0]; assumption)
    exact pe_cal 10 ck85 rfl rfl rfl ⟨hrc, by decide⟩ k
theorem b85_21 {d : Nat} {Φ : Option pe_V → pe_H → Prop} {σ : pe_H} {a0 : Nat} {x1 : Int} {x2 : Int} {o3 : Option pe_V} {o4 : Option pe_V} {s0 : Int} {s1 : Int} (f_a0 : pk_Fs a0 σ := by assumption) (w0 : pe_in s1 := by unfold pe_in; omega) (w1 : pe_in s0 := by unfold pe_in; omega)  (k1 : s0 < s1 → pe_X d 85 (26, [some (.inr (.inr a0)), some (.inl x1), some (.inl x2), o3, o4], [], σ) Φ) (k2 : ¬ (s0 < s1) → pe_X d 85 (24, [some (.inr (.inr a0)), some (.inl x1), some (.inl x2), o3, o4], [], σ) Φ) : pe_X d 85 (21, [some (.inr (.inr a0)), some (.inl x1), some (.inl x2), o3, o4], [.inl s1, .inl s0], σ) Φ := by
  refine pe_blk 11 1 ck85 [] (cond (decide ((pe_w s0) < (pe_w s1))) 26 24, [some (.inr (.inr a0)), some (.inl x1), some (.inl x2), o3, o4], [], σ) rfl ?_ ?_
  · exact trivial
  · try simp (disch := omega) only [pe_wi w0, pe_wi w1]
    exact pe_two k1 k2
theorem b85_24 {d : Nat} {Φ : Option pe_V → pe_H → Prop} {σ : pe_H} {o0 : Option pe_V} {o1 : Option pe_V} {o2 : Option pe_V} {o3 : Option pe_V} {o4 : Option pe_V}    (k : Φ (some (.inl (-1))) σ) : pe_X d 85 (24, [o0, o1, o2, o3, o4], [], σ) Φ := by
  refine pe_blk 12 1 ck85 [] (25, [o0, o1, o2, o3, o4], [.inl (-1)], σ) rfl ?_ ?_
  · exact trivial
  · exact pe_fine 13 ck85 rfl rfl rfl trivial k
theorem b85_26 {d : Nat} {Φ : Option pe_V → pe_H → Prop} {σ : pe_H} {a0 : Nat} {x1 : Int} {x2 : Int} {o3 : Option pe_V} {o4 : Option pe_V} (f_a0 : pk_Fs a0 σ := by assumption) (w0 : pe_in x1 := by unfold pe_in; omega) (h0 : 0 ≤ x1 := by first | assumption | omega) (h1 : x1 < 8 := by first | assumption | omega) (k : pe_X d 85 (42, [some (.inr (.inr a0)), some (.inl x1), some (.inl x2), some (.inl (pe_I σ (pk_c (a0 + 1) x1) 8)), some (.inl 0)], [], σ) Φ) : pe_X d 85 (26, [some (.inr (.inr a0)), some (.inl x1), some (.inl x2), o3, o4], [], σ) Φ := by
  refine pe_blk 14 9 ck85 [pe_K σ a0 = 8, pe_K σ (pe_R σ a0 0) = 2, 12 ≤ pe_K σ (pe_R σ (pe_R σ a0 0) 1) ∧ pe_K σ (pe_R σ (pe_R σ a0 0) 1) < 19, 0 ≤ (pe_w x1), (pe_w x1) < pe_L σ (pe_R σ (pe_R σ a0 0) 1), pe_K σ (pe_R σ (pe_R σ (pe_R σ a0 0) 1) (pe_w x1)) = 0] (42, [some (.inr (.inr a0)), some (.inl x1), some (.inl x2), some (.inl (pe_I σ (pe_R σ (pe_R σ (pe_R σ a0 0) 1) (pe_w x1)) 8)), some (.inl 0)], [], σ) rfl ?_ ?_
  · first
    | (simp (disch := omega) only [pe_all, pe_wi w0, pe_K_wI, pe_K_wR, pe_L_wI, pe_L_wR, pe_R_nej, pe_R_ner, pe_R_wI, pk_mE2 (pk_sM0 f_a0) (i := x1) (by omega) (by omega), pk_mK (pk_sM0 f_a0), pk_mK2 (pk_sM0 f_a0), pk_mL2 (pk_sM0 f_a0), pk_mR2 (pk_sM0 f_a0), pk_oK (pk_mO (pk_sM0 f_a0) (i := x1) (by omega) (by omega)), pk_sK f_a0, pk_sR0 f_a0]; done)
    | (simp (disch := omega) only [pe_all, pe_wi w0, pe_K_wI, pe_K_wR, pe_L_wI, pe_L_wR, pe_R_nej, pe_R_ner, pe_R_wI, pk_mE2 (pk_sM0 f_a0) (i := x1) (by omega) (by omega), pk_mK (pk_sM0 f_a0), pk_mK2 (pk_sM0 f_a0), pk_mL2 (pk_sM0 f_a0), pk_mR2 (pk_sM0 f_a0), pk_oK (pk_mO (pk_sM0 f_a0) (i := x1) (by omega) (by omega)), pk_sK f_a0, pk_sR0 f_a0]; (repeat' apply And.intro) <;> first | assumption | omega | decide)
  · try simp (disch := omega) only [pe_wi w0, pe_K_wI, pe_K_wR, pe_L_wI, pe_L_wR, pe_R_nej, pe_R_ner, pe_R_wI, pk_mE2 (pk_sM0 f_a0) (i := x1) (by omega) (by omega), pk_mK (pk_sM0 f_a0), pk_mK2 (pk_sM0 f_a0), pk_mL2 (pk_sM0 f_a0), pk_mR2 (pk_sM0 f_a0), pk_oK (pk_mO (pk_sM0 f_a0) (i := x1) (by omega) (by omega)), pk_sK f_a0, pk_sR0 f_a0]
    exact k
theorem b85_42 {d : Nat} {Φ : Option pe_V → pe_H → Prop} {σ : pe_H} {a0 : Nat} {o1 : Option pe_V} {x2 : Int} {x3 : Int} {x4 : Int} (f_a0 : pk_Fs a0 σ := by assumption) (w0 : pe_in x2 := by unfold pe_in; omega) (w1 : pe_in x4 := by unfold pe_in; omega)  (k1 : x2 ≤ x4 → pe_X d 85 (63, [some (.inr (.inr a0)), o1, some (.inl x2), some (.inl x3), some (.inl x4)], [], σ) Φ) (k2 : ¬ (x2 ≤ x4) → pe_X d 85 (48, [some (.inr (.inr a0)), o1, some (.inl x2), some (.inl x3), some (.inl x4)], [], σ) Φ) : pe_X d 85 (42, [some (.inr (.inr a0)), o1, some (.inl x2), some (.inl x3), some (.inl x4)], [], σ) Φ := by
  refine pe_blk 23 3 ck85 [] (cond (decide ((pe_w x2) ≤ (pe_w x4))) 63 48, [some (.inr (.inr a0)), o1, some (.inl x2), some (.inl x3), some (.inl x4)], [], σ) rfl ?_ ?_
  · exact trivial
  · try simp (disch := omega) only [pe_wi w0, pe_wi w1]
    exact pe_two k1 k2
theorem b85_48 {d : Nat} {Φ : Option pe_V → pe_H → Prop} {σ : pe_H} {a0 : Nat} {o1 : Option pe_V} {x2 : Int} {x3 : Int} {x4 : Int} (f_a0 : pk_Fs a0 σ := by assumption)   (k : pe_M d 22 [.inr (.inr (a0 + 1)), .inl x3] σ (fun r σ' => pe_X d 85 (56, [some (.inr (.inr a0)), o1, some (.inl x2), some (.inl x3), some (.inl x4)], r.toList ++ [], σ') Φ)) : pe_X d 85 (48, [some (.inr (.inr a0)), o1, some (.inl x2), some (.inl x3), some (.inl x4)], [], σ) Φ := by
  refine pe_blk 26 3 ck85 [pe_K σ a0 = 8] (53, [some (.inr (.inr a0)), o1, some (.inl x2), some (.inl x3), some (.inl x4)], [.inl x3, .inr (.inr (pe_R σ a0 0))], σ) rfl ?_ ?_
  · first
    | (simp (disch := omega) only [pe_all, pe_K_wI, pe_K_wR, pe_R_nej, pe_R_ner, pe_R_wI, pk_mK (pk_sM0 f_a0), pk_sK f_a0, pk_sR0 f_a0]; done)
    | (simp (disch := omega) only [pe_all, pe_K_wI, pe_K_wR, pe_R_nej, pe_R_ner, pe_R_wI, pk_mK (pk_sM0 f_a0), pk_sK f_a0, pk_sR0 f_a0]; (repeat' apply And.intro) <;> first | assumption | omega | decide)
  · try simp (disch := omega) only [pe_K_wI, pe_K_wR, pe_R_nej, pe_R_ner, pe_R_wI, pk_mK (pk_sM0 f_a0), pk_sK f_a0, pk_sR0 f_a0]
    have hrc : pe_K σ (a0 + 1) = 2 := by first | assumption | (simp (disch := omega) only [pe_K_wI, pe_K_wR, pe_R_nej, pe_R_ner, pe_R_wI, pk_mK (pk_sM0 f_a0), pk_sK f_a0, pk_sR0 f_a0]; done) | (simp (disch := omega) only [pe_K_wI, pe_K_wR, pe_R_nej, pe_R_ner, pe_R_wI, pk_mK (pk_sM0 f_a0), pk_sK f_a0, pk_sR0 f_a0]; assumption)
    exact pe_cal 29 ck85 rfl rfl rfl ⟨hrc, by decide⟩ k
theorem b85_56 {d : Nat} {Φ : Option pe_V → pe_H → Prop} {σ : pe_H} {a0 : Nat} {o1 : Option pe_V} {x2 : Int} {o3 : Option pe_V} {x4 : Int} {s0 : Int} (f_a0 : pk_Fs a0 σ := by assumption)   (k : pe_X d 85 (42, [some (.inr (.inr a0)), o1, some (.inl x2), some (.inl s0), some (.inl (x4 + 1))], [], σ) Φ) : pe_X d 85 (56, [some (.inr (.inr a0)), o1, some (.inl x2), o3, some (.inl x4)], [.inl s0], σ) Φ := by
  refine pe_blk 30 3 ck85 [] (42, [some (.inr (.inr a0)), o1, some (.inl x2), some (.inl s0), some (.inl (x4 + 1))], [], σ) rfl ?_ ?_
  · exact trivial
  · exact k
theorem b85_63 {d : Nat} {Φ : Option pe_V → pe_H → Prop} {σ : pe_H} {a0 : Nat} {o1 : Option pe_V} {o2 : Option pe_V} {x3 : Int} {o4 : Option pe_V} (f_a0 : pk_Fs a0 σ := by assumption)   (k : pe_M d 21 [.inr (.inr (a0 + 1)), .inl x3] σ (fun r σ' => pe_X d 85 (71, [some (.inr (.inr a0)), o1, o2, some (.inl x3), o4], r.toList ++ [], σ') Φ)) : pe_X d 85 (63, [some (.inr (.inr a0)), o1, o2, some (.inl x3), o4], [], σ) Φ := by
  refine pe_blk 33 3 ck85 [pe_K σ a0 = 8] (68, [some (.inr (.inr a0)), o1, o2, some (.inl x3), o4], [.inl x3, .inr (.inr (pe_R σ a0 0))], σ) rfl ?_ ?_
  · first
    | (simp (disch := omega) only [pe_all, pe_K_wI, pe_K_wR, pe_R_nej, pe_R_ner, pe_R_wI, pk_mK (pk_sM0 f_a0), pk_sK f_a0, pk_sR0 f_a0]; done)
    | (simp (disch := omega) only [pe_all, pe_K_wI, pe_K_wR, pe_R_nej, pe_R_ner, pe_R_wI, pk_mK (pk_sM0 f_a0), pk_sK f_a0, pk_sR0 f_a0]; (repeat' apply And.intro) <;> first | assumption | omega | decide)
  · try simp (disch := omega) only [pe_K_wI, pe_K_wR, pe_R_nej, pe_R_ner, pe_R_wI, pk_mK (pk_sM0 f_a0), pk_sK f_a0, pk_sR0 f_a0]
    have hrc : pe_K σ (a0 + 1) = 2 := by first | assumption | (simp (disch := omega) only [pe_K_wI, pe_K_wR, pe_R_nej, pe_R_ner, pe_R_wI, pk_mK (pk_sM0 f_a0), pk_sK f_a0, pk_sR0 f_a0]; done) | (simp (disch := omega) only [pe_K_wI, pe_K_wR, pe_R_nej, pe_R_ner, pe_R_wI, pk_mK (pk_sM0 f_a0), pk_sK f_a0, pk_sR0 f_a0]; assumption)
    exact pe_cal 36 ck85 rfl rfl rfl ⟨hrc, by decide⟩ k
theorem b85_71 {d : Nat} {Φ : Option pe_V → pe_H → Prop} {σ : pe_H} {o0 : Option pe_V} {o1 : Option pe_V} {o2 : Option pe_V} {o3 : Option pe_V} {o4 : Option pe_V} {s0 : Int}    (k : Φ (some (.inl s0)) σ) : pe_X d 85 (71, [o0, o1, o2, o3, o4], [.inl s0], σ) Φ := by
  exact pe_fine 37 ck85 rfl rfl rfl trivial k
-- StepMachines.channel(III)I
def T86 : List (Nat × Instr × Nat) := [(0, .iload_n 1, 1), (1, .ifCond .lt 17, 3), (4, .iload_n 1, 1), (5, .iconst 3, 1), (6, .if_icmp .ge 12, 3), (9, .iload_n 3, 1), (10, .ifCond .lt 8, 3), (13, .iload_n 3, 1), (14, .iconst 1, 1), (15, .if_icmp .le 5, 3), (18, .iconst (-1), 1), (19, .ireturn, 1), (20, .iload_n 3, 1), (21, .ifCond .ne 15, 3), (24, .aload_n 0, 1), (25, .getfield 10, 3), (28, .getfield 173, 3), (31, .iload_n 1, 1), (32, .aaload, 1), (33, .goto 12, 3), (36, .aload_n 0, 1), (37, .getfield 10, 3), (40, .getfield 177, 3), (43, .iload_n 1, 1), (44, .aaload, 1), (45, .astore 4, 2), (47, .iload_n 2, 1), (48, .iconst (-1), 1), (49, .if_icmp .ne 9, 3), (52, .aload 4, 2), (54, .getfield 180, 3), (57, .ireturn, 1), (58, .iload_n 2, 1), (59, .ifCond .lt 12, 3), (62, .iload_n 2, 1), (63, .aload 4, 2), (65, .getfield 180, 3), (68, .if_icmp .lt 7, 3), (71, .iconst (-1), 1), (72, .goto 10, 3), (75, .aload 4, 2), (77, .getfield 185, 3), (80, .iload_n 2, 1), (81, .iaload, 1), (82, .ireturn, 1)]
theorem ck86 : pe_ctx 86 8 false (some .int) 5 T86 := ⟨rfl, rfl, rfl, rfl, by decide +kernel, by decide, by decide⟩
theorem b86_0 {d : Nat} {Φ : Option pe_V → pe_H → Prop} {σ : pe_H} {a0 : Nat} {x1 : Int} {x2 : Int} {x3 : Int} {o4 : Option pe_V} (f_a0 : pk_Fs a0 σ := by assumption) (w0 : pe_in x1 := by unfold pe_in; omega)  (k1 : x1 < 0 → pe_X d 86 (18, [some (.inr (.inr a0)), some (.inl x1), some (.inl x2), some (.inl x3), o4], [], σ) Φ) (k2 : ¬ (x1 < 0) → pe_X d 86 (4, [some (.inr (.inr a0)), some (.inl x1), some (.inl x2), some (.inl x3), o4], [], σ) Φ) : pe_X d 86 (0, [some (.inr (.inr a0)), some (.inl x1), some (.inl x2), some (.inl x3), o4], [], σ) Φ := by
  refine pe_blk 0 2 ck86 [] (cond (decide ((pe_w x1) < 0)) 18 4, [some (.inr (.inr a0)), some (.inl x1), some (.inl x2), some (.inl x3), o4], [], σ) rfl ?_ ?_
  · exact trivial
  · try simp (disch := omega) only [pe_wi w0]
    exact pe_two k1 k2
theorem b86_4 {d : Nat} {Φ : Option pe_V → pe_H → Prop} {σ : pe_H} {a0 : Nat} {x1 : Int} {x2 : Int} {x3 : Int} {o4 : Option pe_V} (f_a0 : pk_Fs a0 σ := by assumption) (w0 : pe_in x1 := by unfold pe_in; omega)  (k1 : 3 ≤ x1 → pe_X d 86 (18, [some (.inr (.inr a0)), some (.inl x1), some (.inl x2), some (.inl x3), o4], [], σ) Φ) (k2 : ¬ (3 ≤ x1) → pe_X d 86 (9, [some (.inr (.inr a0)), some (.inl x1), some (.inl x2), some (.inl x3), o4], [], σ) Φ) : pe_X d 86 (4, [some (.inr (.inr a0)), some (.inl x1), some (.inl x2), some (.inl x3), o4], [], σ) Φ := by
  refine pe_blk 2 3 ck86 [] (cond (decide ((pe_w 3) ≤ (pe_w x1))) 18 9, [some (.inr (.inr a0)), some (.inl x1), some (.inl x2), some (.inl x3), o4], [], σ) rfl ?_ ?_
  · exact trivial
  · try simp (disch := omega) only [pe_wi w0, pe_wi (x := 3) ⟨by decide, by decide⟩]
    exact pe_two k1 k2
theorem b86_9 {d : Nat} {Φ : Option pe_V → pe_H → Prop} {σ : pe_H} {a0 : Nat} {x1 : Int} {x2 : Int} {x3 : Int} {o4 : Option pe_V} (f_a0 : pk_Fs a0 σ := by assumption) (w0 : pe_in x3 := by unfold pe_in; omega)  (k1 : x3 < 0 → pe_X d 86 (18, [some (.inr (.inr a0)), some (.inl x1), some (.inl x2), some (.inl x3), o4], [], σ) Φ) (k2 : ¬ (x3 < 0) → pe_X d 86 (13, [some (.inr (.inr a0)), some (.inl x1), some (.inl x2), some (.inl x3), o4], [], σ) Φ) : pe_X d 86 (9, [some (.inr (.inr a0)), some (.inl x1), some (.inl x2), some (.inl x3), o4], [], σ) Φ := by
  refine pe_blk 5 2 ck86 [] (cond (decide ((pe_w x3) < 0)) 18 13, [some (.inr (.inr a0)), some (.inl x1), some (.inl x2), some (.inl x3), o4], [], σ) rfl ?_ ?_
  · exact trivial
  · try simp (disch := omega) only [pe_wi w0]
    exact pe_two k1 k2
theorem b86_13 {d : Nat} {Φ : Option pe_V → pe_H → Prop} {σ : pe_H} {a0 : Nat} {x1 : Int} {x2 : Int} {x3 : Int} {o4 : Option pe_V} (f_a0 : pk_Fs a0 σ := by assumption) (w0 : pe_in x3 := by unfold pe_in; omega)  (k1 : x3 ≤ 1 → pe_X d 86 (20, [some (.inr (.inr a0)), some (.inl x1), some (.inl x2), some (.inl x3), o4], [], σ) Φ) (k2 : ¬ (x3 ≤ 1) → pe_X d 86 (18, [some (.inr (.inr a0)), some (.inl x1), some (.inl x2), some (.inl x3), o4], [], σ) Φ) : pe_X d 86 (13, [some (.inr (.inr a0)), some (.inl x1), some (.inl x2), some (.inl x3), o4], [], σ) Φ := by
  refine pe_blk 7 3 ck86 [] (cond (decide ((pe_w x3) ≤ (pe_w 1))) 20 18, [some (.inr (.inr a0)), some (.inl x1), some (.inl x2), some (.inl x3), o4], [], σ) rfl ?_ ?_
  · exact trivial
  · try simp (disch := omega) only [pe_wi w0, pe_wi (x := 1) ⟨by decide, by decide⟩]
    exact pe_two k1 k2
theorem b86_18 {d : Nat} {Φ : Option pe_V → pe_H → Prop} {σ : pe_H} {o0 : Option pe_V} {o1 : Option pe_V} {o2 : Option pe_V} {o3 : Option pe_V} {o4 : Option pe_V}    (k : Φ (some (.inl (-1))) σ) : pe_X d 86 (18, [o0, o1, o2, o3, o4], [], σ) Φ := by
  refine pe_blk 10 1 ck86 [] (19, [o0, o1, o2, o3, o4], [.inl (-1)], σ) rfl ?_ ?_
  · exact trivial
  · exact pe_fine 11 ck86 rfl rfl rfl trivial k
theorem b86_20 {d : Nat} {Φ : Option pe_V → pe_H → Prop} {σ : pe_H} {a0 : Nat} {x1 : Int} {x2 : Int} {x3 : Int} {o4 : Option pe_V} (f_a0 : pk_Fs a0 σ := by assumption) (w0 : pe_in x3 := by unfold pe_in; omega)  (k1 : ¬ x3 = 0 → pe_X d 86 (36, [some (.inr (.inr a0)), some (.inl x1), some (.inl x2), some (.inl x3), o4], [], σ) Φ) (k2 : x3 = 0 → pe_X d 86 (24, [some (.inr (.inr a0)), some (.inl x1), some (.inl x2), some (.inl x3), o4], [], σ) Φ) : pe_X d 86 (20, [some (.inr (.inr a0)), some (.inl x1), some (.inl x2), some (.inl x3), o4], [], σ) Φ := by
  refine pe_blk 12 2 ck86 [] (cond (decide (¬ (pe_w x3) = 0)) 36 24, [some (.inr (.inr a0)), some (.inl x1), some (.inl x2), some (.inl x3), o4], [], σ) rfl ?_ ?_
  · exact trivial
  · try simp (disch := omega) only [pe_wi w0]
    exact pe_two' k1 k2
theorem b86_24 {d : Nat} {Φ : Option pe_V → pe_H → Prop} {σ : pe_H} {a0 : Nat} {x1 : Int} {x2 : Int} {o3 : Option pe_V} {o4 : Option pe_V} (f_a0 : pk_Fs a0 σ := by assumption) (w0 : pe_in x1 := by unfold pe_in; omega) (h0 : 0 ≤ x1 := by first | assumption | omega) (h1 : x1 < 3 := by first | assumption | omega) (k : pe_X d 86 (45, [some (.inr (.inr a0)), some (.inl x1), some (.inl x2), o3, o4], [.inr (.inr (pk_q (a0 + 1) x1))], σ) Φ) : pe_X d 86 (24, [some (.inr (.inr a0)), some (.inl x1), some (.inl x2), o3, o4], [], σ) Φ := by
  refine pe_blk 14 6 ck86 [pe_K σ a0 = 8, pe_K σ (pe_R σ a0 0) = 2, 12 ≤ pe_K σ (pe_R σ (pe_R σ a0 0) 2) ∧ pe_K σ (pe_R σ (pe_R σ a0 0) 2) < 19, 0 ≤ (pe_w x1), (pe_w x1) < pe_L σ (pe_R σ (pe_R σ a0 0) 2)] (45, [some (.inr (.inr a0)), some (.inl x1), some (.inl x2), o3, o4], [.inr (.inr (pe_R σ (pe_R σ (pe_R σ a0 0) 2) (pe_w x1)))], σ) rfl ?_ ?_
  · first
    | (simp (disch := omega) only [pe_all, pe_wi w0, pe_K_wI, pe_K_wR, pe_L_wI, pe_L_wR, pe_R_nej, pe_R_ner, pe_R_wI, pk_mE3 (pk_sM0 f_a0) (i := x1) (by omega) (by omega), pk_mK (pk_sM0 f_a0), pk_mK3 (pk_sM0 f_a0), pk_mL3 (pk_sM0 f_a0), pk_mR3 (pk_sM0 f_a0), pk_sK f_a0, pk_sR0 f_a0]; done)
    | (simp (disch := omega) only [pe_all, pe_wi w0, pe_K_wI, pe_K_wR, pe_L_wI, pe_L_wR, pe_R_nej, pe_R_ner, pe_R_wI, pk_mE3 (pk_sM0 f_a0) (i := x1) (by omega) (by omega), pk_mK (pk_sM0 f_a0), pk_mK3 (pk_sM0 f_a0), pk_mL3 (pk_sM0 f_a0), pk_mR3 (pk_sM0 f_a0), pk_sK f_a0, pk_sR0 f_a0]; (repeat' apply And.intro) <;> first | assumption | omega | decide)
  · try simp (disch := omega) only [pe_wi w0, pe_K_wI, pe_K_wR, pe_L_wI, pe_L_wR, pe_R_nej, pe_R_ner, pe_R_wI, pk_mE3 (pk_sM0 f_a0) (i := x1) (by omega) (by omega), pk_mK (pk_sM0 f_a0), pk_mK3 (pk_sM0 f_a0), pk_mL3 (pk_sM0 f_a0), pk_mR3 (pk_sM0 f_a0), pk_sK f_a0, pk_sR0 f_a0]
    exact k
theorem b86_36 {d : Nat} {Φ : Option pe_V → pe_H → Prop} {σ : pe_H} {a0 : Nat} {x1 : Int} {x2 : Int} {o3 : Option pe_V} {o4 : Option pe_V} (f_a0 : pk_Fs a0 σ := by assumption) (w0 : pe_in x1 := by unfold pe_in; omega) (h0 : 0 ≤ x1 := by first | assumption | omega) (h1 : x1 < 3 := by first | assumption | omega) (k : pe_X d 86 (45, [some (.inr (.inr a0)), some (.inl x1), some (.inl x2), o3, o4], [.inr (.inr (pk_g (a0 + 1) x1))], σ) Φ) : pe_X d 86 (36, [some (.inr (.inr a0)), some (.inl x1), some (.inl x2), o3, o4], [], σ) Φ := by
  refine pe_blk 20 5 ck86 [pe_K σ a0 = 8, pe_K σ (pe_R σ a0 0) = 2, 12 ≤ pe_K σ (pe_R σ (pe_R σ a0 0) 3) ∧ pe_K σ (pe_R σ (pe_R σ a0 0) 3) < 19, 0 ≤ (pe_w x1), (pe_w x1) < pe_L σ (pe_R σ (pe_R σ a0 0) 3)] (45, [some (.inr (.inr a0)), some (.inl x1), some (.inl x2), o3, o4], [.inr (.inr (pe_R σ (pe_R σ (pe_R σ a0 0) 3) (pe_w x1)))], σ) rfl ?_ ?_
  · first
    | (simp (disch := omega) only [pe_all, pe_wi w0, pe_K_wI, pe_K_wR, pe_L_wI, pe_L_wR, pe_R_nej, pe_R_ner, pe_R_wI, pk_mE4 (pk_sM0 f_a0) (i := x1) (by omega) (by omega), pk_mK (pk_sM0 f_a0), pk_mK4 (pk_sM0 f_a0), pk_mL4 (pk_sM0 f_a0), pk_mR4 (pk_sM0 f_a0), pk_sK f_a0, pk_sR0 f_a0]; done)
    | (simp (disch := omega) only [pe_all, pe_wi w0, pe_K_wI, pe_K_wR, pe_L_wI, pe_L_wR, pe_R_nej, pe_R_ner, pe_R_wI, pk_mE4 (pk_sM0 f_a0) (i := x1) (by omega) (by omega), pk_mK (pk_sM0 f_a0), pk_mK4 (pk_sM0 f_a0), pk_mL4 (pk_sM0 f_a0), pk_mR4 (pk_sM0 f_a0), pk_sK f_a0, pk_sR0 f_a0]; (repeat' apply And.intro) <;> first | assumption | omega | decide)
  · try simp (disch := omega) only [pe_wi w0, pe_K_wI, pe_K_wR, pe_L_wI, pe_L_wR, pe_R_nej, pe_R_ner, pe_R_wI, pk_mE4 (pk_sM0 f_a0) (i := x1) (by omega) (by omega), pk_mK (pk_sM0 f_a0), pk_mK4 (pk_sM0 f_a0), pk_mL4 (pk_sM0 f_a0), pk_mR4 (pk_sM0 f_a0), pk_sK f_a0, pk_sR0 f_a0]
    exact k
theorem b86_45 {d : Nat} {Φ : Option pe_V → pe_H → Prop} {σ : pe_H} {o0 : Option pe_V} {o1 : Option pe_V} {x2 : Int} {o3 : Option pe_V} {o4 : Option pe_V} {b0 : Nat} (f_b0 : pk_Fq b0 σ := by assumption) (w0 : pe_in x2 := by unfold pe_in; omega)  (k1 : ¬ x2 = (-1) → pe_X d 86 (58, [o0, o1, some (.inl x2), pe_nl o3, some (.inr (.inr b0))], [], σ) Φ) (k2 : x2 = (-1) → pe_X d 86 (52, [o0, o1, some (.inl x2), pe_nl o3, some (.inr (.inr b0))], [], σ) Φ) : pe_X d 86 (45, [o0, o1, some (.inl x2), o3, o4], [.inr (.inr b0)], σ) Φ := by
  refine pe_blk 25 4 ck86 [] (cond (decide (¬ (pe_w x2) = (pe_w (-1)))) 58 52, [o0, o1, some (.inl x2), pe_nl o3, some (.inr (.inr b0))], [], σ) rfl ?_ ?_
  · exact trivial
  · try simp (disch := omega) only [pe_wi w0, pe_wi (x := (-1)) ⟨by decide, by decide⟩]
    exact pe_two' k1 k2
theorem b86_52 {d : Nat} {Φ : Option pe_V → pe_H → Prop} {σ : pe_H} {o0 : Option pe_V} {o1 : Option pe_V} {o2 : Option pe_V} {o3 : Option pe_V} {a4 : Nat} (f_a4 : pk_Fq a4 σ := by assumption)   (k : Φ (some (.inl (pe_I σ a4 1))) σ) : pe_X d 86 (52, [o0, o1, o2, o3, some (.inr (.inr a4))], [], σ) Φ := by
  refine pe_blk 29 2 ck86 [pe_K σ a4 = 5] (57, [o0, o1, o2, o3, some (.inr (.inr a4))], [.inl (pe_I σ a4 1)], σ) rfl ?_ ?_
  · first
    | (simp (disch := omega) only [pe_all, pe_K_wI, pe_K_wR, pk_qK f_a4]; done)
    | (simp (disch := omega) only [pe_all, pe_K_wI, pe_K_wR, pk_qK f_a4]; (repeat' apply And.intro) <;> first | assumption | omega | decide)
  · try simp (disch := omega) only [pe_K_wI, pe_K_wR, pk_qK f_a4]
    exact pe_fine 31 ck86 rfl rfl rfl trivial k
theorem b86_58 {d : Nat} {Φ : Option pe_V → pe_H → Prop} {σ : pe_H} {o0 : Option pe_V} {o1 : Option pe_V} {x2 : Int} {o3 : Option pe_V} {a4 : Nat} (f_a4 : pk_Fq a4 σ := by assumption) (w0 : pe_in x2 := by unfold pe_in; omega)  (k1 : x2 < 0 → pe_X d 86 (71, [o0, o1, some (.inl x2), o3, some (.inr (.inr a4))], [], σ) Φ) (k2 : ¬ (x2 < 0) → pe_X d 86 (62, [o0, o1, some (.inl x2), o3, some (.inr (.inr a4))], [], σ) Φ) : pe_X d 86 (58, [o0, o1, some (.inl x2), o3, some (.inr (.inr a4))], [], σ) Φ := by
  refine pe_blk 32 2 ck86 [] (cond (decide ((pe_w x2) < 0)) 71 62, [o0, o1, some (.inl x2), o3, some (.inr (.inr a4))], [], σ) rfl ?_ ?_
  · exact trivial
  · try simp (disch := omega) only [pe_wi w0]
    exact pe_two k1 k2
theorem b86_62 {d : Nat} {Φ : Option pe_V → pe_H → Prop} {σ : pe_H} {o0 : Option pe_V} {o1 : Option pe_V} {x2 : Int} {o3 : Option pe_V} {a4 : Nat} (f_a4 : pk_Fq a4 σ := by assumption) (w0 : pe_in (pe_I σ a4 1) := by unfold pe_in; omega) (w1 : pe_in x2 := by unfold pe_in; omega)  (k1 : x2 < (pe_I σ a4 1) → pe_X d 86 (75, [o0, o1, some (.inl x2), o3, some (.inr (.inr a4))], [], σ) Φ) (k2 : ¬ (x2 < (pe_I σ a4 1)) → pe_X d 86 (71, [o0, o1, some (.inl x2), o3, some (.inr (.inr a4))], [], σ) Φ) : pe_X d 86 (62, [o0, o1, some (.inl x2), o3, some (.inr (.inr a4))], [], σ) Φ := by
  refine pe_blk 34 4 ck86 [pe_K σ a4 = 5] (cond (decide ((pe_w x2) < (pe_w (pe_I σ a4 1)))) 75 71, [o0, o1, some (.inl x2), o3, some (.inr (.inr a4))], [], σ) rfl ?_ ?_
  · first
    | (simp (disch := omega) only [pe_all, pe_wi w0, pe_wi w1, pe_K_wI, pe_K_wR, pk_qK f_a4]; done)
    | (simp (disch := omega) only [pe_all, pe_wi w0, pe_wi w1, pe_K_wI, pe_K_wR, pk_qK f_a4]; (repeat' apply And.intro) <;> first | assumption | omega | decide)
  · try simp (disch := omega) only [pe_wi w0, pe_wi w1, pe_K_wI, pe_K_wR, pk_qK f_a4]
    exact pe_two k1 k2
theorem b86_71 {d : Nat} {Φ : Option pe_V → pe_H → Prop} {σ : pe_H} {o0 : Option pe_V} {o1 : Option pe_V} {o2 : Option pe_V} {o3 : Option pe_V} {o4 : Option pe_V}    (k : pe_X d 86 (82, [o0, o1, o2, o3, o4], [.inl (-1)], σ) Φ) : pe_X d 86 (71, [o0, o1, o2, o3, o4], [], σ) Φ := by
  refine pe_blk 38 2 ck86 [] (82, [o0, o1, o2, o3, o4], [.inl (-1)], σ) rfl ?_ ?_
  · exact trivial
  · exact k
theorem b86_75 {d : Nat} {Φ : Option pe_V → pe_H → Prop} {σ : pe_H} {o0 : Option pe_V} {o1 : Option pe_V} {x2 : Int} {o3 : Option pe_V} {a4 : Nat} (f_a4 : pk_Fq a4 σ := by assumption) (w0 : pe_in x2 := by unfold pe_in; omega) (h0 : 0 ≤ x2 := by first | assumption | omega) (h1 : x2 < 8 := by first | assumption | omega) (k : pe_X d 86 (82, [o0, o1, some (.inl x2), o3, some (.inr (.inr a4))], [.inl (pe_I σ (a4 + 1) x2)], σ) Φ) : pe_X d 86 (75, [o0, o1, some (.inl x2), o3, some (.inr (.inr a4))], [], σ) Φ := by
  refine pe_blk 40 4 ck86 [pe_K σ a4 = 5, pe_K σ (pe_R σ a4 0) = 10, 0 ≤ (pe_w x2), (pe_w x2) < pe_L σ (pe_R σ a4 0)] (82, [o0, o1, some (.inl x2), o3, some (.inr (.inr a4))], [.inl (pe_I σ (pe_R σ a4 0) (pe_w x2))], σ) rfl ?_ ?_
  · first
    | (simp (disch := omega) only [pe_all, pe_wi w0, pe_K_wI, pe_K_wR, pe_L_wI, pe_L_wR, pe_R_nej, pe_R_ner, pe_R_wI, pk_qK f_a4, pk_qK1 f_a4, pk_qL1 f_a4, pk_qR f_a4]; done)
    | (simp (disch := omega) only [pe_all, pe_wi w0, pe_K_wI, pe_K_wR, pe_L_wI, pe_L_wR, pe_R_nej, pe_R_ner, pe_R_wI, pk_qK f_a4, pk_qK1 f_a4, pk_qL1 f_a4, pk_qR f_a4]; (repeat' apply And.intro) <;> first | assumption | omega | decide)
  · try simp (disch := omega) only [pe_wi w0, pe_K_wI, pe_K_wR, pe_L_wI, pe_L_wR, pe_R_nej, pe_R_ner, pe_R_wI, pk_qK f_a4, pk_qK1 f_a4, pk_qL1 f_a4, pk_qR f_a4]
    exact k
theorem b86_82 {d : Nat} {Φ : Option pe_V → pe_H → Prop} {σ : pe_H} {o0 : Option pe_V} {o1 : Option pe_V} {o2 : Option pe_V} {o3 : Option pe_V} {o4 : Option pe_V} {s0 : Int}    (k : Φ (some (.inl s0)) σ) : pe_X d 86 (82, [o0, o1, o2, o3, o4], [.inl s0], σ) Φ := by
  exact pe_fine 44 ck86 rfl rfl rfl trivial k
-- StepMachines.send(II)I
def T87 : List (Nat × Instr × Nat) := [(0, .aload_n 0, 1), (1, .iload_n 1, 1), (2, .invokevirtual 107, 3), (5, .ifCond .eq 14, 3), (8, .iload_n 2, 1), (9, .ifCond .lt 10, 3), (12, .iload_n 2, 1), (13, .sipush 999, 3), (16, .if_icmp .le 5, 3), (19, .iconst (-1), 1), (20, .ireturn, 1), (21, .aload_n 0, 1), (22, .getfield 10, 3), (25, .getfield 110, 3), (28, .iload_n 1, 1), (29, .aaload, 1), (30, .invokevirtual 189, 3), (33, .ifCond .ne 6, 3), (36, .bipush (-3), 2), (38, .ireturn, 1), (39, .aload_n 0, 1), (40, .getfield 10, 3), (43, .iload_n 1, 1), (44, .iload_n 2, 1), (45, .invokevirtual 193, 3), (48, .aload_n 0, 1), (49, .getfield 10, 3), (52, .getfield 110, 3), (55, .iload_n 1, 1), (56, .aaload, 1), (57, .getfield 196, 3), (60, .ireturn, 1)]
theorem ck87 : pe_ctx 87 8 false (some .int) 3 T87 := ⟨rfl, rfl, rfl, rfl, by decide +kernel, by decide, by decide⟩
theorem b87_0 {d : Nat} {Φ : Option pe_V → pe_H → Prop} {σ : pe_H} {a0 : Nat} {x1 : Int} {x2 : Int} (f_a0 : pk_Fs a0 σ := by assumption)   (k : pe_M d 117 [.inr (.inr a0), .inl x1] σ (fun r σ' => pe_X d 87 (5, [some (.inr (.inr a0)), some (.inl x1), some (.inl x2)], r.toList ++ [], σ') Φ)) : pe_X d 87 (0, [some (.inr (.inr a0)), some (.inl x1), some (.inl x2)], [], σ) Φ := by
  refine pe_blk 0 2 ck87 [] (2, [some (.inr (.inr a0)), some (.inl x1), some (.inl x2)], [.inl x1, .inr (.inr a0)], σ) rfl ?_ ?_
  · exact trivial
  · try simp (disch := omega) only [pe_K_wI, pe_K_wR, pk_sK f_a0]
    have hrc : pe_K σ a0 = 8 := by first | assumption | (simp (disch := omega) only [pe_K_wI, pe_K_wR, pk_sK f_a0]; done) | (simp (disch := omega) only [pe_K_wI, pe_K_wR, pk_sK f_a0]; assumption)
    exact pe_cal 2 ck87 rfl rfl rfl ⟨hrc, by decide⟩ k
theorem b87_5 {d : Nat} {Φ : Option pe_V → pe_H → Prop} {σ : pe_H} {a0 : Nat} {x1 : Int} {x2 : Int} {s0 : Int} (f_a0 : pk_Fs a0 σ := by assumption) (w0 : pe_in s0 := by unfold pe_in; omega)  (k1 : s0 = 0 → pe_X d 87 (19, [some (.inr (.inr a0)), some (.inl x1), some (.inl x2)], [], σ) Φ) (k2 : ¬ (s0 = 0) → pe_X d 87 (8, [some (.inr (.inr a0)), some (.inl x1), some (.inl x2)], [], σ) Φ) : pe_X d 87 (5, [some (.inr (.inr a0)), some (.inl x1), some (.inl x2)], [.inl s0], σ) Φ := by
  refine pe_blk 3 1 ck87 [] (cond (decide ((pe_w s0) = 0)) 19 8, [some (.inr (.inr a0)), some (.inl x1), some (.inl x2)], [], σ) rfl ?_ ?_
  · exact trivial
  · try simp (disch := omega) only [pe_wi w0]
    exact pe_two k1 k2
theorem b87_8 {d : Nat} {Φ : Option pe_V → pe_H → Prop} {σ : pe_H} {a0 : Nat} {x1 : Int} {x2 : Int} (f_a0 : pk_Fs a0 σ := by assumption) (w0 : pe_in x2 := by unfold pe_in; omega)  (k1 : x2 < 0 → pe_X d 87 (19, [some (.inr (.inr a0)), some (.inl x1), some (.inl x2)], [], σ) Φ) (k2 : ¬ (x2 < 0) → pe_X d 87 (12, [some (.inr (.inr a0)), some (.inl x1), some (.inl x2)], [], σ) Φ) : pe_X d 87 (8, [some (.inr (.inr a0)), some (.inl x1), some (.inl x2)], [], σ) Φ := by
  refine pe_blk 4 2 ck87 [] (cond (decide ((pe_w x2) < 0)) 19 12, [some (.inr (.inr a0)), some (.inl x1), some (.inl x2)], [], σ) rfl ?_ ?_
  · exact trivial
  · try simp (disch := omega) only [pe_wi w0]
    exact pe_two k1 k2
theorem b87_12 {d : Nat} {Φ : Option pe_V → pe_H → Prop} {σ : pe_H} {a0 : Nat} {x1 : Int} {x2 : Int} (f_a0 : pk_Fs a0 σ := by assumption) (w0 : pe_in x2 := by unfold pe_in; omega)  (k1 : x2 ≤ 999 → pe_X d 87 (21, [some (.inr (.inr a0)), some (.inl x1), some (.inl x2)], [], σ) Φ) (k2 : ¬ (x2 ≤ 999) → pe_X d 87 (19, [some (.inr (.inr a0)), some (.inl x1), some (.inl x2)], [], σ) Φ) : pe_X d 87 (12, [some (.inr (.inr a0)), some (.inl x1), some (.inl x2)], [], σ) Φ := by
  refine pe_blk 6 3 ck87 [] (cond (decide ((pe_w x2) ≤ (pe_w 999))) 21 19, [some (.inr (.inr a0)), some (.inl x1), some (.inl x2)], [], σ) rfl ?_ ?_
  · exact trivial
  · try simp (disch := omega) only [pe_wi w0, pe_wi (x := 999) ⟨by decide, by decide⟩]
    exact pe_two k1 k2
theorem b87_19 {d : Nat} {Φ : Option pe_V → pe_H → Prop} {σ : pe_H} {o0 : Option pe_V} {o1 : Option pe_V} {o2 : Option pe_V}    (k : Φ (some (.inl (-1))) σ) : pe_X d 87 (19, [o0, o1, o2], [], σ) Φ := by
  refine pe_blk 9 1 ck87 [] (20, [o0, o1, o2], [.inl (-1)], σ) rfl ?_ ?_
  · exact trivial
  · exact pe_fine 10 ck87 rfl rfl rfl trivial k
theorem b87_21 {d : Nat} {Φ : Option pe_V → pe_H → Prop} {σ : pe_H} {a0 : Nat} {x1 : Int} {x2 : Int} (f_a0 : pk_Fs a0 σ := by assumption) (w0 : pe_in x1 := by unfold pe_in; omega) (h0 : 0 ≤ x1 := by first | assumption | omega) (h1 : x1 < 8 := by first | assumption | omega) (k : pe_M d 4 [.inr (.inr (pk_c (a0 + 1) x1))] σ (fun r σ' => pe_X d 87 (33, [some (.inr (.inr a0)), some (.inl x1), some (.inl x2)], r.toList ++ [], σ') Φ)) : pe_X d 87 (21, [some (.inr (.inr a0)), some (.inl x1), some (.inl x2)], [], σ) Φ := by
  refine pe_blk 11 5 ck87 [pe_K σ a0 = 8, pe_K σ (pe_R σ a0 0) = 2, 12 ≤ pe_K σ (pe_R σ (pe_R σ a0 0) 1) ∧ pe_K σ (pe_R σ (pe_R σ a0 0) 1) < 19, 0 ≤ (pe_w x1), (pe_w x1) < pe_L σ (pe_R σ (pe_R σ a0 0) 1)] (30, [some (.inr (.inr a0)), some (.inl x1), some (.inl x2)], [.inr (.inr (pe_R σ (pe_R σ (pe_R σ a0 0) 1) (pe_w x1)))], σ) rfl ?_ ?_
  · first
    | (simp (disch := omega) only [pe_all, pe_wi w0, pe_K_wI, pe_K_wR, pe_L_wI, pe_L_wR, pe_R_nej, pe_R_ner, pe_R_wI, pk_mE2 (pk_sM0 f_a0) (i := x1) (by omega) (by omega), pk_mK (pk_sM0 f_a0), pk_mK2 (pk_sM0 f_a0), pk_mL2 (pk_sM0 f_a0), pk_mR2 (pk_sM0 f_a0), pk_oK (pk_mO (pk_sM0 f_a0) (i := x1) (by omega) (by omega)), pk_sK f_a0, pk_sR0 f_a0]; done)
    | (simp (disch := omega) only [pe_all, pe_wi w0, pe_K_wI, pe_K_wR, pe_L_wI, pe_L_wR, pe_R_nej, pe_R_ner, pe_R_wI, pk_mE2 (pk_sM0 f_a0) (i := x1) (by omega) (by omega), pk_mK (pk_sM0 f_a0), pk_mK2 (pk_sM0 f_a0), pk_mL2 (pk_sM0 f_a0), pk_mR2 (pk_sM0 f_a0), pk_oK (pk_mO (pk_sM0 f_a0) (i := x1) (by omega) (by omega)), pk_sK f_a0, pk_sR0 f_a0]; (repeat' apply And.intro) <;> first | assumption | omega | decide)
  · try simp (disch := omega) only [pe_wi w0, pe_K_wI, pe_K_wR, pe_L_wI, pe_L_wR, pe_R_nej, pe_R_ner, pe_R_wI, pk_mE2 (pk_sM0 f_a0) (i := x1) (by omega) (by omega), pk_mK (pk_sM0 f_a0), pk_mK2 (pk_sM0 f_a0), pk_mL2 (pk_sM0 f_a0), pk_mR2 (pk_sM0 f_a0), pk_oK (pk_mO (pk_sM0 f_a0) (i := x1) (by omega) (by omega)), pk_sK f_a0, pk_sR0 f_a0]
    have hrc : pe_K σ (pk_c (a0 + 1) x1) = 0 := by first | assumption | (simp (disch := omega) only [pe_wi w0, pe_K_wI, pe_K_wR, pe_L_wI, pe_L_wR, pe_R_nej, pe_R_ner, pe_R_wI, pk_mE2 (pk_sM0 f_a0) (i := x1) (by omega) (by omega), pk_mK (pk_sM0 f_a0), pk_mK2 (pk_sM0 f_a0), pk_mL2 (pk_sM0 f_a0), pk_mR2 (pk_sM0 f_a0), pk_oK (pk_mO (pk_sM0 f_a0) (i := x1) (by omega) (by omega)), pk_sK f_a0, pk_sR0 f_a0]; done) | (simp (disch := omega) only [pe_wi w0, pe_K_wI, pe_K_wR, pe_L_wI, pe_L_wR, pe_R_nej, pe_R_ner, pe_R_wI, pk_mE2 (pk_sM0 f_a0) (i := x1) (by omega) (by omega), pk_mK (pk_sM0 f_a0), pk_mK2 (pk_sM0 f_a0), pk_mL2 (pk_sM0 f_a0), pk_mR2 (pk_sM0 f_a0), pk_oK (pk_mO (pk_sM0 f_a0) (i := x1) (by omega) (by omega)), pk_sK f_a0, pk_sR0 f_a0]; assumption)
    exact pe_cal 16 ck87 rfl rfl rfl ⟨hrc, by decide⟩ k
theorem b87_33 {d : Nat} {Φ : Option pe_V → pe_H → Prop} {σ : pe_H} {a0 : Nat} {x1 : Int} {x2 : Int} {s0 : Int} (f_a0 : pk_Fs a0 σ := by assumption) (w0 : pe_in s0 := by unfold pe_in; omega)  (k1 : ¬ s0 = 0 → pe_X d 87 (39, [some (.inr (.inr a0)), some (.inl x1), some (.inl x2)], [], σ) Φ) (k2 : s0 = 0 → pe_X d 87 (36, [some (.inr (.inr a0)), some (.inl x1), some (.inl x2)], [], σ) Φ) : pe_X d 87 (33, [some (.inr (.inr a0)), some (.inl x1), some (.inl x2)], [.inl s0], σ) Φ := by
  refine pe_blk 17 1 ck87 [] (cond (decide (¬ (pe_w s0) = 0)) 39 36, [some (.inr (.inr a0)), some (.inl x1), some (.inl x2)], [], σ) rfl ?_ ?_
  · exact trivial
  · try simp (disch := omega) only [pe_wi w0]
    exact pe_two' k1 k2
theorem b87_36 {d : Nat} {Φ : Option pe_V → pe_H → Prop} {σ : pe_H} {o0 : Option pe_V} {o1 : Option pe_V} {o2 : Option pe_V}    (k : Φ (some (.inl (-3))) σ) : pe_X d 87 (36, [o0, o1, o2], [], σ) Φ := by
  refine pe_blk 18 1 ck87 [] (38, [o0, o1, o2], [.inl (-3)], σ) rfl ?_ ?_
  · exact trivial
  · exact pe_fine 19 ck87 rfl rfl rfl trivial k
theorem b87_39 {d : Nat} {Φ : Option pe_V → pe_H → Prop} {σ : pe_H} {a0 : Nat} {x1 : Int} {x2 : Int} (f_a0 : pk_Fs a0 σ := by assumption)   (k : pe_M d 25 [.inr (.inr (a0 + 1)), .inl x1, .inl x2] σ (fun r σ' => pe_X d 87 (48, [some (.inr (.inr a0)), some (.inl x1), some (.inl x2)], r.toList ++ [], σ') Φ)) : pe_X d 87 (39, [some (.inr (.inr a0)), some (.inl x1), some (.inl x2)], [], σ) Φ := by
  refine pe_blk 20 4 ck87 [pe_K σ a0 = 8] (45, [some (.inr (.inr a0)), some (.inl x1), some (.inl x2)], [.inl x2, .inl x1, .inr (.inr (pe_R σ a0 0))], σ) rfl ?_ ?_
  · first
    | (simp (disch := omega) only [pe_all, pe_K_wI, pe_K_wR, pe_R_nej, pe_R_ner, pe_R_wI, pk_mK (pk_sM0 f_a0), pk_sK f_a0, pk_sR0 f_a0]; done)
    | (simp (disch := omega) only [pe_all, pe_K_wI, pe_K_wR, pe_R_nej, pe_R_ner, pe_R_wI, pk_mK (pk_sM0 f_a0), pk_sK f_a0, pk_sR0 f_a0]; (repeat' apply And.intro) <;> first | assumption | omega | decide)
  · try simp (disch := omega) only [pe_K_wI, pe_K_wR, pe_R_nej, pe_R_ner, pe_R_wI, pk_mK (pk_sM0 f_a0), pk_sK f_a0, pk_sR0 f_a0]
    have hrc : pe_K σ (a0 + 1) = 2 := by first | assumption | (simp (disch := omega) only [pe_K_wI, pe_K_wR, pe_R_nej, pe_R_ner, pe_R_wI, pk_mK (pk_sM0 f_a0), pk_sK f_a0, pk_sR0 f_a0]; done) | (simp (disch := omega) only [pe_K_wI, pe_K_wR, pe_R_nej, pe_R_ner, pe_R_wI, pk_mK (pk_sM0 f_a0), pk_sK f_a0, pk_sR0 f_a0]; assumption)
    exact pe_cal 24 ck87 rfl rfl rfl ⟨hrc, by decide⟩ k
theorem b87_48 {d : Nat} {Φ : Option pe_V → pe_H → Prop} {σ : pe_H} {a0 : Nat} {x1 : Int} {o2 : Option pe_V} (f_a0 : pk_Fs a0 σ := by assumption) (w0 : pe_in x1 := by unfold pe_in; omega) (h0 : 0 ≤ x1 := by first | assumption | omega) (h1 : x1 < 8 := by first | assumption | omega) (k : Φ (some (.inl (pe_I σ (pk_c (a0 + 1) x1) 2))) σ) : pe_X d 87 (48, [some (.inr (.inr a0)), some (.inl x1), o2], [], σ) Φ := by
  refine pe_blk 25 6 ck87 [pe_K σ a0 = 8, pe_K σ (pe_R σ a0 0) = 2, 12 ≤ pe_K σ (pe_R σ (pe_R σ a0 0) 1) ∧ pe_K σ (pe_R σ (pe_R σ a0 0) 1) < 19, 0 ≤ (pe_w x1), (pe_w x1) < pe_L σ (pe_R σ (pe_R σ a0 0) 1), pe_K σ (pe_R σ (pe_R σ (pe_R σ a0 0) 1) (pe_w x1)) = 0] (60, [some (.inr (.inr a0)), some (.inl x1), o2], [.inl (pe_I σ (pe_R σ (pe_R σ (pe_R σ a0 0) 1) (pe_w x1)) 2)], σ) rfl ?_ ?_
  · first
    | (simp (disch := omega) only [pe_all, pe_wi w0, pe_K_wI, pe_K_wR, pe_L_wI, pe_L_wR, pe_R_nej, pe_R_ner, pe_R_wI, pk_mE2 (pk_sM0 f_a0) (i := x1) (by omega) (by omega), pk_mK (pk_sM0 f_a0), pk_mK2 (pk_sM0 f_a0), pk_mL2 (pk_sM0 f_a0), pk_mR2 (pk_sM0 f_a0), pk_oK (pk_mO (pk_sM0 f_a0) (i := x1) (by omega) (by omega)), pk_sK f_a0, pk_sR0 f_a0]; done)
    | (simp (disch := omega) only [pe_all, pe_wi w0, pe_K_wI, pe_K_wR, pe_L_wI, pe_L_wR, pe_R_nej, pe_R_ner, pe_R_wI, pk_mE2 (pk_sM0 f_a0) (i := x1) (by omega) (by omega), pk_mK (pk_sM0 f_a0), pk_mK2 (pk_sM0 f_a0), pk_mL2 (pk_sM0 f_a0), pk_mR2 (pk_sM0 f_a0), pk_oK (pk_mO (pk_sM0 f_a0) (i := x1) (by omega) (by omega)), pk_sK f_a0, pk_sR0 f_a0]; (repeat' apply And.intro) <;> first | assumption | omega | decide)
  · try simp (disch := omega) only [pe_wi w0, pe_K_wI, pe_K_wR, pe_L_wI, pe_L_wR, pe_R_nej, pe_R_ner, pe_R_wI, pk_mE2 (pk_sM0 f_a0) (i := x1) (by omega) (by omega), pk_mK (pk_sM0 f_a0), pk_mK2 (pk_sM0 f_a0), pk_mL2 (pk_sM0 f_a0), pk_mR2 (pk_sM0 f_a0), pk_oK (pk_mO (pk_sM0 f_a0) (i := x1) (by omega) (by omega)), pk_sK f_a0, pk_sR0 f_a0]
    exact pe_fine 31 ck87 rfl rfl rfl trivial k
-- StepMachines.close(I)I
def T88 : List (Nat × Instr × Nat) := [(0, .aload_n 0, 1), (1, .iload_n 1, 1), (2, .invokevirtual 107, 3), (5, .ifCond .ne 5, 3), (8, .iconst (-1), 1), (9, .ireturn, 1), (10, .aload_n 0, 1), (11, .getfield 10, 3), (14, .getfield 110, 3), (17, .iload_n 1, 1), (18, .aaload, 1), (19, .invokevirtual 199, 3), (22, .ifCond .eq 6, 3), (25, .bipush (-3), 2), (27, .ireturn, 1), (28, .aload_n 0, 1), (29, .getfield 10, 3), (32, .iload_n 1, 1), (33, .invokevirtual 202, 3), (36, .aload_n 0, 1), (37, .getfield 10, 3), (40, .getfield 110, 3), (43, .iload_n 1, 1), (44, .aaload, 1), (45, .getfield 196, 3), (48, .ireturn, 1)]
theorem ck88 : pe_ctx 88 8 false (some .int) 2 T88 := ⟨rfl, rfl, rfl, rfl, by decide +kernel, by decide, by decide⟩
theorem b88_0 {d : Nat} {Φ : Option pe_V → pe_H → Prop} {σ : pe_H} {a0 : Nat} {x1 : Int} (f_a0 : pk_Fs a0 σ := by assumption)   (k : pe_M d 117 [.inr (.inr a0), .inl x1] σ (fun r σ' => pe_X d 88 (5, [some (.inr (.inr a0)), some (.inl x1)], r.toList ++ [], σ') Φ)) : pe_X d 88 (0, [some (.inr (.inr a0)), some (.inl x1)], [], σ) Φ := by
  refine pe_blk 0 2 ck88 [] (2, [some (.inr (.inr a0)), some (.inl x1)], [.inl x1, .inr (.inr a0)], σ) rfl ?_ ?_
  · exact trivial
  · try simp (disch := omega) only [pe_K_wI, pe_K_wR, pk_sK f_a0]
    have hrc : pe_K σ a0 = 8 := by first | assumption | (simp (disch := omega) only [pe_K_wI, pe_K_wR, pk_sK f_a0]; done) | (simp (disch := omega) only [pe_K_wI, pe_K_wR, pk_sK f_a0]; assumption)
    exact pe_cal 2 ck88 rfl rfl rfl ⟨hrc, by decide⟩ k
theorem b88_5 {d : Nat} {Φ : Option pe_V → pe_H → Prop} {σ : pe_H} {a0 : Nat} {x1 : Int} {s0 : Int} (f_a0 : pk_Fs a0 σ := by assumption) (w0 : pe_in s0 := by unfold pe_in; omega)  (k1 : ¬ s0 = 0 → pe_X d 88 (10, [some (.inr (.inr a0)), some (.inl x1)], [], σ) Φ) (k2 : s0 = 0 → pe_X d 88 (8, [some (.inr (.inr a0)), some (.inl x1)], [], σ) Φ) : pe_X d 88 (5, [some (.inr (.inr a0)), some (.inl x1)], [.inl s0], σ) Φ := by
  refine pe_blk 3 1 ck88 [] (cond (decide (¬ (pe_w s0) = 0)) 10 8, [some (.inr (.inr a0)), some (.inl x1)], [], σ) rfl ?_ ?_
  · exact trivial
  · try simp (disch := omega) only [pe_wi w0]
    exact pe_two' k1 k2
theorem b88_8 {d : Nat} {Φ : Option pe_V → pe_H → Prop} {σ : pe_H} {o0 : Option pe_V} {o1 : Option pe_V}    (k : Φ (some (.inl (-1))) σ) : pe_X d 88 (8, [o0, o1], [], σ) Φ := by
  refine pe_blk 4 1 ck88 [] (9, [o0, o1], [.inl (-1)], σ) rfl ?_ ?_
  · exact trivial
  · exact pe_fine 5 ck88 rfl rfl rfl trivial k
theorem b88_10 {d : Nat} {Φ : Option pe_V → pe_H → Prop} {σ : pe_H} {a0 : Nat} {x1 : Int} (f_a0 : pk_Fs a0 σ := by assumption) (w0 : pe_in x1 := by unfold pe_in; omega) (h0 : 0 ≤ x1 := by first | assumption | omega) (h1 : x1 < 8 := by first | assumption | omega) (k : pe_M d 3 [.inr (.inr (pk_c (a0 + 1) x1))] σ (fun r σ' => pe_X d 88 (22, [some (.inr (.inr a0)), some (.inl x1)], r.toList ++ [], σ') Φ)) : pe_X d 88 (10, [some (.inr (.inr a0)), some (.inl x1)], [], σ) Φ := by
  refine pe_blk 6 5 ck88 [pe_K σ a0 = 8, pe_K σ (pe_R σ a0 0) = 2, 12 ≤ pe_K σ (pe_R σ (pe_R σ a0 0) 1) ∧ pe_K σ (pe_R σ (pe_R σ a0 0) 1) < 19, 0 ≤ (pe_w x1), (pe_w x1) < pe_L σ (pe_R σ (pe_R σ a0 0) 1)] (19, [some (.inr (.inr a0)), some (.inl x1)], [.inr (.inr (pe_R σ (pe_R σ (pe_R σ a0 0) 1) (pe_w x1)))], σ) rfl ?_ ?_
  · first
    | (simp (disch := omega) only [pe_all, pe_wi w0, pe_K_wI, pe_K_wR, pe_L_wI, pe_L_wR, pe_R_nej, pe_R_ner, pe_R_wI, pk_mE2 (pk_sM0 f_a0) (i := x1) (by omega) (by omega), pk_mK (pk_sM0 f_a0), pk_mK2 (pk_sM0 f_a0), pk_mL2 (pk_sM0 f_a0), pk_mR2 (pk_sM0 f_a0), pk_oK (pk_mO (pk_sM0 f_a0) (i := x1) (by omega) (by omega)), pk_sK f_a0, pk_sR0 f_a0]; done)
    | (simp (disch := omega) only [pe_all, pe_wi w0, pe_K_wI, pe_K_wR, pe_L_wI, pe_L_wR, pe_R_nej, pe_R_ner, pe_R_wI, pk_mE2 (pk_sM0 f_a0) (i := x1) (by omega) (by omega), pk_mK (pk_sM0 f_a0), pk_mK2 (pk_sM0 f_a0), pk_mL2 (pk_sM0 f_a0), pk_mR2 (pk_sM0 f_a0), pk_oK (pk_mO (pk_sM0 f_a0) (i := x1) (by omega) (by omega)), pk_sK f_a0, pk_sR0 f_a0]; (repeat' apply And.intro) <;> first | assumption | omega | decide)
  · try simp (disch := omega) only [pe_wi w0, pe_K_wI, pe_K_wR, pe_L_wI, pe_L_wR, pe_R_nej, pe_R_ner, pe_R_wI, pk_mE2 (pk_sM0 f_a0) (i := x1) (by omega) (by omega), pk_mK (pk_sM0 f_a0), pk_mK2 (pk_sM0 f_a0), pk_mL2 (pk_sM0 f_a0), pk_mR2 (pk_sM0 f_a0), pk_oK (pk_mO (pk_sM0 f_a0) (i := x1) (by omega) (by omega)), pk_sK f_a0, pk_sR0 f_a0]
    have hrc : pe_K σ (pk_c (a0 + 1) x1) = 0 := by first | assumption | (simp (disch := omega) only [pe_wi w0, pe_K_wI, pe_K_wR, pe_L_wI, pe_L_wR, pe_R_nej, pe_R_ner, pe_R_wI, pk_mE2 (pk_sM0 f_a0) (i := x1) (by omega) (by omega), pk_mK (pk_sM0 f_a0), pk_mK2 (pk_sM0 f_a0), pk_mL2 (pk_sM0 f_a0), pk_mR2 (pk_sM0 f_a0), pk_oK (pk_mO (pk_sM0 f_a0) (i := x1) (by omega) (by omega)), pk_sK f_a0, pk_sR0 f_a0]; done) | (simp (disch := omega) only [pe_wi w0, pe_K_wI, pe_K_wR, pe_L_wI, pe_L_wR, pe_R_nej, pe_R_ner, pe_R_wI, pk_mE2 (pk_sM0 f_a0) (i := x1) (by omega) (by omega), pk_mK (pk_sM0 f_a0), pk_mK2 (pk_sM0 f_a0), pk_mL2 (pk_sM0 f_a0), pk_mR2 (pk_sM0 f_a0), pk_oK (pk_mO (pk_sM0 f_a0) (i := x1) (by omega) (by omega)), pk_sK f_a0, pk_sR0 f_a0]; assumption)
    exact pe_cal 11 ck88 rfl rfl rfl ⟨hrc, by decide⟩ k
theorem b88_22 {d : Nat} {Φ : Option pe_V → pe_H → Prop} {σ : pe_H} {a0 : Nat} {x1 : Int} {s0 : Int} (f_a0 : pk_Fs a0 σ := by assumption) (w0 : pe_in s0 := by unfold pe_in; omega)  (k1 : s0 = 0 → pe_X d 88 (28, [some (.inr (.inr a0)), some (.inl x1)], [], σ) Φ) (k2 : ¬ (s0 = 0) → pe_X d 88 (25, [some (.inr (.inr a0)), some (.inl x1)], [], σ) Φ) : pe_X d 88 (22, [some (.inr (.inr a0)), some (.inl x1)], [.inl s0], σ) Φ := by
  refine pe_blk 12 1 ck88 [] (cond (decide ((pe_w s0) = 0)) 28 25, [some (.inr (.inr a0)), some (.inl x1)], [], σ) rfl ?_ ?_
  · exact trivial
  · try simp (disch := omega) only [pe_wi w0]
    exact pe_two k1 k2
theorem b88_25 {d : Nat} {Φ : Option pe_V → pe_H → Prop} {σ : pe_H} {o0 : Option pe_V} {o1 : Option pe_V}    (k : Φ (some (.inl (-3))) σ) : pe_X d 88 (25, [o0, o1], [], σ) Φ := by
  refine pe_blk 13 1 ck88 [] (27, [o0, o1], [.inl (-3)], σ) rfl ?_ ?_
  · exact trivial
  · exact pe_fine 14 ck88 rfl rfl rfl trivial k
theorem b88_28 {d : Nat} {Φ : Option pe_V → pe_H → Prop} {σ : pe_H} {a0 : Nat} {x1 : Int} (f_a0 : pk_Fs a0 σ := by assumption)   (k : pe_M d 26 [.inr (.inr (a0 + 1)), .inl x1] σ (fun r σ' => pe_X d 88 (36, [some (.inr (.inr a0)), some (.inl x1)], r.toList ++ [], σ') Φ)) : pe_X d 88 (28, [some (.inr (.inr a0)), some (.inl x1)], [], σ) Φ := by
  refine pe_blk 15 3 ck88 [pe_K σ a0 = 8] (33, [some (.inr (.inr a0)), some (.inl x1)], [.inl x1, .inr (.inr (pe_R σ a0 0))], σ) rfl ?_ ?_
  · first
    | (simp (disch := omega) only [pe_all, pe_K_wI, pe_K_wR, pe_R_nej, pe_R_ner, pe_R_wI, pk_mK (pk_sM0 f_a0), pk_sK f_a0, pk_sR0 f_a0]; done)
    | (simp (disch := omega) only [pe_all, pe_K_wI, pe_K_wR, pe_R_nej, pe_R_ner, pe_R_wI, pk_mK (pk_sM0 f_a0), pk_sK f_a0, pk_sR0 f_a0]; (repeat' apply And.intro) <;> first | assumption | omega | decide)
  · try simp (disch := omega) only [pe_K_wI, pe_K_wR, pe_R_nej, pe_R_ner, pe_R_wI, pk_mK (pk_sM0 f_a0), pk_sK f_a0, pk_sR0 f_a0]
    have hrc : pe_K σ (a0 + 1) = 2 := by first | assumption | (simp (disch := omega) only [pe_K_wI, pe_K_wR, pe_R_nej, pe_R_ner, pe_R_wI, pk_mK (pk_sM0 f_a0), pk_sK f_a0, pk_sR0 f_a0]; done) | (simp (disch := omega) only [pe_K_wI, pe_K_wR, pe_R_nej, pe_R_ner, pe_R_wI, pk_mK (pk_sM0 f_a0), pk_sK f_a0, pk_sR0 f_a0]; assumption)
    exact pe_cal 18 ck88 rfl rfl rfl ⟨hrc, by decide⟩ k
theorem b88_36 {d : Nat} {Φ : Option pe_V → pe_H → Prop} {σ : pe_H} {a0 : Nat} {x1 : Int} (f_a0 : pk_Fs a0 σ := by assumption) (w0 : pe_in x1 := by unfold pe_in; omega) (h0 : 0 ≤ x1 := by first | assumption | omega) (h1 : x1 < 8 := by first | assumption | omega) (k : Φ (some (.inl (pe_I σ (pk_c (a0 + 1) x1) 2))) σ) : pe_X d 88 (36, [some (.inr (.inr a0)), some (.inl x1)], [], σ) Φ := by
  refine pe_blk 19 6 ck88 [pe_K σ a0 = 8, pe_K σ (pe_R σ a0 0) = 2, 12 ≤ pe_K σ (pe_R σ (pe_R σ a0 0) 1) ∧ pe_K σ (pe_R σ (pe_R σ a0 0) 1) < 19, 0 ≤ (pe_w x1), (pe_w x1) < pe_L σ (pe_R σ (pe_R σ a0 0) 1), pe_K σ (pe_R σ (pe_R σ (pe_R σ a0 0) 1) (pe_w x1)) = 0] (48, [some (.inr (.inr a0)), some (.inl x1)], [.inl (pe_I σ (pe_R σ (pe_R σ (pe_R σ a0 0) 1) (pe_w x1)) 2)], σ) rfl ?_ ?_
  · first
    | (simp (disch := omega) only [pe_all, pe_wi w0, pe_K_wI, pe_K_wR, pe_L_wI, pe_L_wR, pe_R_nej, pe_R_ner, pe_R_wI, pk_mE2 (pk_sM0 f_a0) (i := x1) (by omega) (by omega), pk_mK (pk_sM0 f_a0), pk_mK2 (pk_sM0 f_a0), pk_mL2 (pk_sM0 f_a0), pk_mR2 (pk_sM0 f_a0), pk_oK (pk_mO (pk_sM0 f_a0) (i := x1) (by omega) (by omega)), pk_sK f_a0, pk_sR0 f_a0]; done)
    | (simp (disch := omega) only [pe_all, pe_wi w0, pe_K_wI, pe_K_wR, pe_L_wI, pe_L_wR, pe_R_nej, pe_R_ner, pe_R_wI, pk_mE2 (pk_sM0 f_a0) (i := x1) (by omega) (by omega), pk_mK (pk_sM0 f_a0), pk_mK2 (pk_sM0 f_a0), pk_mL2 (pk_sM0 f_a0), pk_mR2 (pk_sM0 f_a0), pk_oK (pk_mO (pk_sM0 f_a0) (i := x1) (by omega) (by omega)), pk_sK f_a0, pk_sR0 f_a0]; (repeat' apply And.intro) <;> first | assumption | omega | decide)
  · try simp (disch := omega) only [pe_wi w0, pe_K_wI, pe_K_wR, pe_L_wI, pe_L_wR, pe_R_nej, pe_R_ner, pe_R_wI, pk_mE2 (pk_sM0 f_a0) (i := x1) (by omega) (by omega), pk_mK (pk_sM0 f_a0), pk_mK2 (pk_sM0 f_a0), pk_mL2 (pk_sM0 f_a0), pk_mR2 (pk_sM0 f_a0), pk_oK (pk_mO (pk_sM0 f_a0) (i := x1) (by omega) (by omega)), pk_sK f_a0, pk_sR0 f_a0]
    exact pe_fine 25 ck88 rfl rfl rfl trivial k
-- StepMachines.width(I)I
def T89 : List (Nat × Instr × Nat) := [(0, .iload_n 1, 1), (1, .iconst 1, 1), (2, .if_icmp .lt 9, 3), (5, .iload_n 1, 1), (6, .bipush 8, 2), (8, .if_icmp .le 5, 3), (11, .iconst (-1), 1), (12, .ireturn, 1), (13, .aload_n 0, 1), (14, .getfield 10, 3), (17, .getfield 206, 3), (20, .istore_n 2, 1), (21, .aload_n 0, 1), (22, .getfield 10, 3), (25, .iload_n 1, 1), (26, .putfield 206, 3), (29, .iload_n 2, 1), (30, .ireturn, 1)]
theorem ck89 : pe_ctx 89 8 false (some .int) 3 T89 := ⟨rfl, rfl, rfl, rfl, by decide +kernel, by decide, by decide⟩
theorem b89_0 {d : Nat} {Φ : Option pe_V → pe_H → Prop} {σ : pe_H} {a0 : Nat} {x1 : Int} {o2 : Option pe_V} (f_a0 : pk_Fs a0 σ := by assumption) (w0 : pe_in x1 := by unfold pe_in; omega)  (k1 : x1 < 1 → pe_X d 89 (11, [some (.inr (.inr a0)), some (.inl x1), o2], [], σ) Φ) (k2 : ¬ (x1 < 1) → pe_X d 89 (5, [some (.inr (.inr a0)), some (.inl x1), o2], [], σ) Φ) : pe_X d 89 (0, [some (.inr (.inr a0)), some (.inl x1), o2], [], σ) Φ := by
  refine pe_blk 0 3 ck89 [] (cond (decide ((pe_w x1) < (pe_w 1))) 11 5, [some (.inr (.inr a0)), some (.inl x1), o2], [], σ) rfl ?_ ?_
  · exact trivial
  · try simp (disch := omega) only [pe_wi w0, pe_wi (x := 1) ⟨by decide, by decide⟩]
    exact pe_two k1 k2
theorem b89_5 {d : Nat} {Φ : Option pe_V → pe_H → Prop} {σ : pe_H} {a0 : Nat} {x1 : Int} {o2 : Option pe_V} (f_a0 : pk_Fs a0 σ := by assumption) (w0 : pe_in x1 := by unfold pe_in; omega)  (k1 : x1 ≤ 8 → pe_X d 89 (13, [some (.inr (.inr a0)), some (.inl x1), o2], [], σ) Φ) (k2 : ¬ (x1 ≤ 8) → pe_X d 89 (11, [some (.inr (.inr a0)), some (.inl x1), o2], [], σ) Φ) : pe_X d 89 (5, [some (.inr (.inr a0)), some (.inl x1), o2], [], σ) Φ := by
  refine pe_blk 3 3 ck89 [] (cond (decide ((pe_w x1) ≤ (pe_w 8))) 13 11, [some (.inr (.inr a0)), some (.inl x1), o2], [], σ) rfl ?_ ?_
  · exact trivial
  · try simp (disch := omega) only [pe_wi w0, pe_wi (x := 8) ⟨by decide, by decide⟩]
    exact pe_two k1 k2
theorem b89_11 {d : Nat} {Φ : Option pe_V → pe_H → Prop} {σ : pe_H} {o0 : Option pe_V} {o1 : Option pe_V} {o2 : Option pe_V}    (k : Φ (some (.inl (-1))) σ) : pe_X d 89 (11, [o0, o1, o2], [], σ) Φ := by
  refine pe_blk 6 1 ck89 [] (12, [o0, o1, o2], [.inl (-1)], σ) rfl ?_ ?_
  · exact trivial
  · exact pe_fine 7 ck89 rfl rfl rfl trivial k
theorem b89_13 {d : Nat} {Φ : Option pe_V → pe_H → Prop} {σ : pe_H} {a0 : Nat} {x1 : Int} {o2 : Option pe_V} (f_a0 : pk_Fs a0 σ := by assumption)   (k : Φ (some (.inl (pe_I σ (a0 + 1) 5))) (pe_wI σ (a0 + 1) 5 x1)) : pe_X d 89 (13, [some (.inr (.inr a0)), some (.inl x1), o2], [], σ) Φ := by
  refine pe_blk 8 9 ck89 [pe_K σ a0 = 8, pe_K σ (pe_R σ a0 0) = 2, pe_K σ a0 = 8, pe_K σ (pe_R σ a0 0) = 2] (30, [some (.inr (.inr a0)), some (.inl x1), some (.inl (pe_I σ (pe_R σ a0 0) 5))], [.inl (pe_I σ (pe_R σ a0 0) 5)], pe_wI σ (pe_R σ a0 0) 5 x1) rfl ?_ ?_
  · first
    | (simp (disch := omega) only [pe_all, pe_K_wI, pe_K_wR, pe_R_nej, pe_R_ner, pe_R_wI, pk_mK (pk_sM0 f_a0), pk_sK f_a0, pk_sR0 f_a0]; done)
    | (simp (disch := omega) only [pe_all, pe_K_wI, pe_K_wR, pe_R_nej, pe_R_ner, pe_R_wI, pk_mK (pk_sM0 f_a0), pk_sK f_a0, pk_sR0 f_a0]; (repeat' apply And.intro) <;> first | assumption | omega | decide)
  · try simp (disch := omega) only [pe_K_wI, pe_K_wR, pe_R_nej, pe_R_ner, pe_R_wI, pk_mK (pk_sM0 f_a0), pk_sK f_a0, pk_sR0 f_a0]
    exact pe_fine 17 ck89 rfl rfl rfl trivial k
-- StepMachines.rounds(I)I
def T90 : List (Nat × Instr × Nat) := [(0, .iload_n 1, 1), (1, .iconst 1, 1), (2, .if_icmp .lt 9, 3), (5, .iload_n 1, 1), (6, .bipush 60, 2), (8, .if_icmp .le 5, 3), (11, .iconst (-1), 1), (12, .ireturn, 1), (13, .aload_n 0, 1), (14, .getfield 10, 3), (17, .getfield 209, 3), (20, .iload_n 1, 1), (21, .iadd, 1), (22, .sipush 999, 3), (25, .if_icmp .le 6, 3), (28, .bipush (-3), 2), (30, .ireturn, 1), (31, .iconst 0, 1), (32, .istore_n 2, 1), (33, .iload_n 2, 1), (34, .iload_n 1, 1), (35, .if_icmp .ge 17, 3), (38, .aload_n 0, 1), (39, .getfield 10, 3), (42, .invokevirtual 212, 3), (45, .pop, 1), (46, .iinc 2 1, 3), (49, .goto (-16), 3), (52, .aload_n 0, 1), (53, .getfield 10, 3), (56, .invokevirtual 215, 3), (59, .invokestatic 218, 3), (62, .ireturn, 1)]
theorem ck90 : pe_ctx 90 8 false (some .int) 3 T90 := ⟨rfl, rfl, rfl, rfl, by decide +kernel, by decide, by decide⟩
theorem b90_0 {d : Nat} {Φ : Option pe_V → pe_H → Prop} {σ : pe_H} {a0 : Nat} {x1 : Int} {o2 : Option pe_V} (f_a0 : pk_Fs a0 σ := by assumption) (w0 : pe_in x1 := by unfold pe_in; omega)  (k1 : x1 < 1 → pe_X d 90 (11, [some (.inr (.inr a0)), some (.inl x1), o2], [], σ) Φ) (k2 : ¬ (x1 < 1) → pe_X d 90 (5, [some (.inr (.inr a0)), some (.inl x1), o2], [], σ) Φ) : pe_X d 90 (0, [some (.inr (.inr a0)), some (.inl x1), o2], [], σ) Φ := by
  refine pe_blk 0 3 ck90 [] (cond (decide ((pe_w x1) < (pe_w 1))) 11 5, [some (.inr (.inr a0)), some (.inl x1), o2], [], σ) rfl ?_ ?_
  · exact trivial
  · try simp (disch := omega) only [pe_wi w0, pe_wi (x := 1) ⟨by decide, by decide⟩]
    exact pe_two k1 k2
theorem b90_5 {d : Nat} {Φ : Option pe_V → pe_H → Prop} {σ : pe_H} {a0 : Nat} {x1 : Int} {o2 : Option pe_V} (f_a0 : pk_Fs a0 σ := by assumption) (w0 : pe_in x1 := by unfold pe_in; omega)  (k1 : x1 ≤ 60 → pe_X d 90 (13, [some (.inr (.inr a0)), some (.inl x1), o2], [], σ) Φ) (k2 : ¬ (x1 ≤ 60) → pe_X d 90 (11, [some (.inr (.inr a0)), some (.inl x1), o2], [], σ) Φ) : pe_X d 90 (5, [some (.inr (.inr a0)), some (.inl x1), o2], [], σ) Φ := by
  refine pe_blk 3 3 ck90 [] (cond (decide ((pe_w x1) ≤ (pe_w 60))) 13 11, [some (.inr (.inr a0)), some (.inl x1), o2], [], σ) rfl ?_ ?_
  · exact trivial
  · try simp (disch := omega) only [pe_wi w0, pe_wi (x := 60) ⟨by decide, by decide⟩]
    exact pe_two k1 k2
theorem b90_11 {d : Nat} {Φ : Option pe_V → pe_H → Prop} {σ : pe_H} {o0 : Option pe_V} {o1 : Option pe_V} {o2 : Option pe_V}    (k : Φ (some (.inl (-1))) σ) : pe_X d 90 (11, [o0, o1, o2], [], σ) Φ := by
  refine pe_blk 6 1 ck90 [] (12, [o0, o1, o2], [.inl (-1)], σ) rfl ?_ ?_
  · exact trivial
  · exact pe_fine 7 ck90 rfl rfl rfl trivial k
theorem b90_13 {d : Nat} {Φ : Option pe_V → pe_H → Prop} {σ : pe_H} {a0 : Nat} {x1 : Int} {o2 : Option pe_V} (f_a0 : pk_Fs a0 σ := by assumption) (w0 : pe_in ((pe_I σ (a0 + 1) 6) + x1) := by unfold pe_in; omega)  (k1 : ((pe_I σ (a0 + 1) 6) + x1) ≤ 999 → pe_X d 90 (31, [some (.inr (.inr a0)), some (.inl x1), o2], [], σ) Φ) (k2 : ¬ (((pe_I σ (a0 + 1) 6) + x1) ≤ 999) → pe_X d 90 (28, [some (.inr (.inr a0)), some (.inl x1), o2], [], σ) Φ) : pe_X d 90 (13, [some (.inr (.inr a0)), some (.inl x1), o2], [], σ) Φ := by
  refine pe_blk 8 7 ck90 [pe_K σ a0 = 8, pe_K σ (pe_R σ a0 0) = 2] (cond (decide ((pe_w ((pe_I σ (pe_R σ a0 0) 6) + x1)) ≤ (pe_w 999))) 31 28, [some (.inr (.inr a0)), some (.inl x1), o2], [], σ) rfl ?_ ?_
  · first
    | (simp (disch := omega) only [pe_all, pe_wi w0, pe_wi (x := 999) ⟨by decide, by decide⟩, pe_K_wI, pe_K_wR, pe_R_nej, pe_R_ner, pe_R_wI, pk_mK (pk_sM0 f_a0), pk_sK f_a0, pk_sR0 f_a0]; done)
    | (simp (disch := omega) only [pe_all, pe_wi w0, pe_wi (x := 999) ⟨by decide, by decide⟩, pe_K_wI, pe_K_wR, pe_R_nej, pe_R_ner, pe_R_wI, pk_mK (pk_sM0 f_a0), pk_sK f_a0, pk_sR0 f_a0]; (repeat' apply And.intro) <;> first | assumption | omega | decide)
  · try simp (disch := omega) only [pe_wi w0, pe_wi (x := 999) ⟨by decide, by decide⟩, pe_K_wI, pe_K_wR, pe_R_nej, pe_R_ner, pe_R_wI, pk_mK (pk_sM0 f_a0), pk_sK f_a0, pk_sR0 f_a0]
    exact pe_two k1 k2
theorem b90_28 {d : Nat} {Φ : Option pe_V → pe_H → Prop} {σ : pe_H} {o0 : Option pe_V} {o1 : Option pe_V} {o2 : Option pe_V}    (k : Φ (some (.inl (-3))) σ) : pe_X d 90 (28, [o0, o1, o2], [], σ) Φ := by
  refine pe_blk 15 1 ck90 [] (30, [o0, o1, o2], [.inl (-3)], σ) rfl ?_ ?_
  · exact trivial
  · exact pe_fine 16 ck90 rfl rfl rfl trivial k
theorem b90_31 {d : Nat} {Φ : Option pe_V → pe_H → Prop} {σ : pe_H} {a0 : Nat} {x1 : Int} {o2 : Option pe_V} (f_a0 : pk_Fs a0 σ := by assumption)   (k : pe_X d 90 (33, [some (.inr (.inr a0)), some (.inl x1), some (.inl 0)], [], σ) Φ) : pe_X d 90 (31, [some (.inr (.inr a0)), some (.inl x1), o2], [], σ) Φ := by
  refine pe_blk 17 2 ck90 [] (33, [some (.inr (.inr a0)), some (.inl x1), some (.inl 0)], [], σ) rfl ?_ ?_
  · exact trivial
  · exact k
theorem b90_33 {d : Nat} {Φ : Option pe_V → pe_H → Prop} {σ : pe_H} {a0 : Nat} {x1 : Int} {x2 : Int} (f_a0 : pk_Fs a0 σ := by assumption) (w0 : pe_in x1 := by unfold pe_in; omega) (w1 : pe_in x2 := by unfold pe_in; omega)  (k1 : x1 ≤ x2 → pe_X d 90 (52, [some (.inr (.inr a0)), some (.inl x1), some (.inl x2)], [], σ) Φ) (k2 : ¬ (x1 ≤ x2) → pe_X d 90 (38, [some (.inr (.inr a0)), some (.inl x1), some (.inl x2)], [], σ) Φ) : pe_X d 90 (33, [some (.inr (.inr a0)), some (.inl x1), some (.inl x2)], [], σ) Φ := by
  refine pe_blk 19 3 ck90 [] (cond (decide ((pe_w x1) ≤ (pe_w x2))) 52 38, [some (.inr (.inr a0)), some (.inl x1), some (.inl x2)], [], σ) rfl ?_ ?_
  · exact trivial
  · try simp (disch := omega) only [pe_wi w0, pe_wi w1]
    exact pe_two k1 k2
theorem b90_38 {d : Nat} {Φ : Option pe_V → pe_H → Prop} {σ : pe_H} {a0 : Nat} {x1 : Int} {x2 : Int} (f_a0 : pk_Fs a0 σ := by assumption)   (k : pe_M d 28 [.inr (.inr (a0 + 1))] σ (fun r σ' => pe_X d 90 (45, [some (.inr (.inr a0)), some (.inl x1), some (.inl x2)], r.toList ++ [], σ') Φ)) : pe_X d 90 (38, [some (.inr (.inr a0)), some (.inl x1), some (.inl x2)], [], σ) Φ := by
  refine pe_blk 22 2 ck90 [pe_K σ a0 = 8] (42, [some (.inr (.inr a0)), some (.inl x1), some (.inl x2)], [.inr (.inr (pe_R σ a0 0))], σ) rfl ?_ ?_
  · first
    | (simp (disch := omega) only [pe_all, pe_K_wI, pe_K_wR, pe_R_nej, pe_R_ner, pe_R_wI, pk_mK (pk_sM0 f_a0), pk_sK f_a0, pk_sR0 f_a0]; done)
    | (simp (disch := omega) only [pe_all, pe_K_wI, pe_K_wR, pe_R_nej, pe_R_ner, pe_R_wI, pk_mK (pk_sM0 f_a0), pk_sK f_a0, pk_sR0 f_a0]; (repeat' apply And.intro) <;> first | assumption | omega | decide)
  · try simp (disch := omega) only [pe_K_wI, pe_K_wR, pe_R_nej, pe_R_ner, pe_R_wI, pk_mK (pk_sM0 f_a0), pk_sK f_a0, pk_sR0 f_a0]
    have hrc : pe_K σ (a0 + 1) = 2 := by first | assumption | (simp (disch := omega) only [pe_K_wI, pe_K_wR, pe_R_nej, pe_R_ner, pe_R_wI, pk_mK (pk_sM0 f_a0), pk_sK f_a0, pk_sR0 f_a0]; done) | (simp (disch := omega) only [pe_K_wI, pe_K_wR, pe_R_nej, pe_R_ner, pe_R_wI, pk_mK (pk_sM0 f_a0), pk_sK f_a0, pk_sR0 f_a0]; assumption)
    exact pe_cal 24 ck90 rfl rfl rfl ⟨hrc, by decide⟩ k
theorem b90_45 {d : Nat} {Φ : Option pe_V → pe_H → Prop} {σ : pe_H} {a0 : Nat} {x1 : Int} {x2 : Int} {s0 : Int} (f_a0 : pk_Fs a0 σ := by assumption)   (k : pe_X d 90 (33, [some (.inr (.inr a0)), some (.inl x1), some (.inl (x2 + 1))], [], σ) Φ) : pe_X d 90 (45, [some (.inr (.inr a0)), some (.inl x1), some (.inl x2)], [.inl s0], σ) Φ := by
  refine pe_blk 25 3 ck90 [] (33, [some (.inr (.inr a0)), some (.inl x1), some (.inl (x2 + 1))], [], σ) rfl ?_ ?_
  · exact trivial
  · exact k
theorem b90_52 {d : Nat} {Φ : Option pe_V → pe_H → Prop} {σ : pe_H} {a0 : Nat} {o1 : Option pe_V} {o2 : Option pe_V} (f_a0 : pk_Fs a0 σ := by assumption)   (k : pe_M d 17 [.inr (.inr (a0 + 1))] σ (fun r σ' => pe_X d 90 (59, [some (.inr (.inr a0)), o1, o2], r.toList ++ [], σ') Φ)) : pe_X d 90 (52, [some (.inr (.inr a0)), o1, o2], [], σ) Φ := by
  refine pe_blk 28 2 ck90 [pe_K σ a0 = 8] (56, [some (.inr (.inr a0)), o1, o2], [.inr (.inr (pe_R σ a0 0))], σ) rfl ?_ ?_
  · first
    | (simp (disch := omega) only [pe_all, pe_K_wI, pe_K_wR, pe_R_nej, pe_R_ner, pe_R_wI, pk_mK (pk_sM0 f_a0), pk_sK f_a0, pk_sR0 f_a0]; done)
    | (simp (disch := omega) only [pe_all, pe_K_wI, pe_K_wR, pe_R_nej, pe_R_ner, pe_R_wI, pk_mK (pk_sM0 f_a0), pk_sK f_a0, pk_sR0 f_a0]; (repeat' apply And.intro) <;> first | assumption | omega | decide)
  · try simp (disch := omega) only [pe_K_wI, pe_K_wR, pe_R_nej, pe_R_ner, pe_R_wI, pk_mK (pk_sM0 f_a0), pk_sK f_a0, pk_sR0 f_a0]
    have hrc : pe_K σ (a0 + 1) = 2 := by first | assumption | (simp (disch := omega) only [pe_K_wI, pe_K_wR, pe_R_nej, pe_R_ner, pe_R_wI, pk_mK (pk_sM0 f_a0), pk_sK f_a0, pk_sR0 f_a0]; done) | (simp (disch := omega) only [pe_K_wI, pe_K_wR, pe_R_nej, pe_R_ner, pe_R_wI, pk_mK (pk_sM0 f_a0), pk_sK f_a0, pk_sR0 f_a0]; assumption)
    exact pe_cal 30 ck90 rfl rfl rfl ⟨hrc, by decide⟩ k
theorem b90_59 {d : Nat} {Φ : Option pe_V → pe_H → Prop} {σ : pe_H} {o0 : Option pe_V} {o1 : Option pe_V} {o2 : Option pe_V} {s0 : Int}    (k : pe_M d 245 [.inl s0] σ (fun r σ' => pe_X d 90 (62, [o0, o1, o2], r.toList ++ [], σ') Φ)) : pe_X d 90 (59, [o0, o1, o2], [.inl s0], σ) Φ := by
  exact pe_cal 31 ck90 rfl rfl rfl trivial k
theorem b90_62 {d : Nat} {Φ : Option pe_V → pe_H → Prop} {σ : pe_H} {o0 : Option pe_V} {o1 : Option pe_V} {o2 : Option pe_V} {s0 : Int}    (k : Φ (some (.inl s0)) σ) : pe_X d 90 (62, [o0, o1, o2], [.inl s0], σ) Φ := by
  exact pe_fine 32 ck90 rfl rfl rfl trivial k
-- StepMachines.then(III)I
def T91 : List (Nat × Instr × Nat) := [(0, .aload_n 0, 1), (1, .iload_n 1, 1), (2, .invokevirtual 107, 3), (5, .ifCond .eq 22, 3), (8, .iload_n 2, 1), (9, .ifCond .lt 18, 3), (12, .iload_n 2, 1), (13, .bipush 60, 2), (15, .if_icmp .gt 12, 3), (18, .iload_n 3, 1), (19, .ifCond .lt 8, 3), (22, .iload_n 3, 1), (23, .iconst 4, 1), (24, .if_icmp .le 5, 3), (27, .iconst (-1), 1), (28, .ireturn, 1), (29, .aload_n 0, 1), (30, .invokevirtual 66, 3), (33, .astore 4, 2), (35, .aload 4, 2), (37, .iload_n 2, 1), (38, .invokevirtual 223, 3), (41, .aload 4, 2), (43, .getfield 110, 3), (46, .iload_n 1, 1), (47, .aaload, 1), (48, .iload_n 3, 1), (49, .invokevirtual 138, 3), (52, .ireturn, 1)]
theorem ck91 : pe_ctx 91 8 false (some .int) 5 T91 := ⟨rfl, rfl, rfl, rfl, by decide +kernel, by decide, by decide⟩
theorem b91_0 {d : Nat} {Φ : Option pe_V → pe_H → Prop} {σ : pe_H} {a0 : Nat} {x1 : Int} {x2 : Int} {x3 : Int} {o4 : Option pe_V} (f_a0 : pk_Fs a0 σ := by assumption)   (k : pe_M d 117 [.inr (.inr a0), .inl x1] σ (fun r σ' => pe_X d 91 (5, [some (.inr (.inr a0)), some (.inl x1), some (.inl x2), some (.inl x3), o4], r.toList ++ [], σ') Φ)) : pe_X d 91 (0, [some (.inr (.inr a0)), some (.inl x1), some (.inl x2), some (.inl x3), o4], [], σ) Φ := by
  refine pe_blk 0 2 ck91 [] (2, [some (.inr (.inr a0)), some (.inl x1), some (.inl x2), some (.inl x3), o4], [.inl x1, .inr (.inr a0)], σ) rfl ?_ ?_
  · exact trivial
  · try simp (disch := omega) only [pe_K_wI, pe_K_wR, pk_sK f_a0]
    have hrc : pe_K σ a0 = 8 := by first | assumption | (simp (disch := omega) only [pe_K_wI, pe_K_wR, pk_sK f_a0]; done) | (simp (disch := omega) only [pe_K_wI, pe_K_wR, pk_sK f_a0]; assumption)
    exact pe_cal 2 ck91 rfl rfl rfl ⟨hrc, by decide⟩ k
theorem b91_5 {d : Nat} {Φ : Option pe_V → pe_H → Prop} {σ : pe_H} {a0 : Nat} {x1 : Int} {x2 : Int} {x3 : Int} {o4 : Option pe_V} {s0 : Int} (f_a0 : pk_Fs a0 σ := by assumption) (w0 : pe_in s0 := by unfold pe_in; omega)  (k1 : s0 = 0 → pe_X d 91 (27, [some (.inr (.inr a0)), some (.inl x1), some (.inl x2), some (.inl x3), o4], [], σ) Φ) (k2 : ¬ (s0 = 0) → pe_X d 91 (8, [some (.inr (.inr a0)), some (.inl x1), some (.inl x2), some (.inl x3), o4], [], σ) Φ) : pe_X d 91 (5, [some (.inr (.inr a0)), some (.inl x1), some (.inl x2), some (.inl x3), o4], [.inl s0], σ) Φ := by
  refine pe_blk 3 1 ck91 [] (cond (decide ((pe_w s0) = 0)) 27 8, [some (.inr (.inr a0)), some (.inl x1), some (.inl x2), some (.inl x3), o4], [], σ) rfl ?_ ?_
  · exact trivial
  · try simp (disch := omega) only [pe_wi w0]
    exact pe_two k1 k2
theorem b91_8 {d : Nat} {Φ : Option pe_V → pe_H → Prop} {σ : pe_H} {a0 : Nat} {x1 : Int} {x2 : Int} {x3 : Int} {o4 : Option pe_V} (f_a0 : pk_Fs a0 σ := by assumption) (w0 : pe_in x2 := by unfold pe_in; omega)  (k1 : x2 < 0 → pe_X d 91 (27, [some (.inr (.inr a0)), some (.inl x1), some (.inl x2), some (.inl x3), o4], [], σ) Φ) (k2 : ¬ (x2 < 0) → pe_X d 91 (12, [some (.inr (.inr a0)), some (.inl x1), some (.inl x2), some (.inl x3), o4], [], σ) Φ) : pe_X d 91 (8, [some (.inr (.inr a0)), some (.inl x1), some (.inl x2), some (.inl x3), o4], [], σ) Φ := by
  refine pe_blk 4 2 ck91 [] (cond (decide ((pe_w x2) < 0)) 27 12, [some (.inr (.inr a0)), some (.inl x1), some (.inl x2), some (.inl x3), o4], [], σ) rfl ?_ ?_
  · exact trivial
  · try simp (disch := omega) only [pe_wi w0]
    exact pe_two k1 k2
theorem b91_12 {d : Nat} {Φ : Option pe_V → pe_H → Prop} {σ : pe_H} {a0 : Nat} {x1 : Int} {x2 : Int} {x3 : Int} {o4 : Option pe_V} (f_a0 : pk_Fs a0 σ := by assumption) (w0 : pe_in x2 := by unfold pe_in; omega)  (k1 : 60 < x2 → pe_X d 91 (27, [some (.inr (.inr a0)), some (.inl x1), some (.inl x2), some (.inl x3), o4], [], σ) Φ) (k2 : ¬ (60 < x2) → pe_X d 91 (18, [some (.inr (.inr a0)), some (.inl x1), some (.inl x2), some (.inl x3), o4], [], σ) Φ) : pe_X d 91 (12, [some (.inr (.inr a0)), some (.inl x1), some (.inl x2), some (.inl x3), o4], [], σ) Φ := by
  refine pe_blk 6 3 ck91 [] (cond (decide ((pe_w 60) < (pe_w x2))) 27 18, [some (.inr (.inr a0)), some (.inl x1), some (.inl x2), some (.inl x3), o4], [], σ) rfl ?_ ?_
  · exact trivial
  · try simp (disch := omega) only [pe_wi w0, pe_wi (x := 60) ⟨by decide, by decide⟩]
    exact pe_two k1 k2
theorem b91_18 {d : Nat} {Φ : Option pe_V → pe_H → Prop} {σ : pe_H} {a0 : Nat} {x1 : Int} {x2 : Int} {x3 : Int} {o4 : Option pe_V} (f_a0 : pk_Fs a0 σ := by assumption) (w0 : pe_in x3 := by unfold pe_in; omega)  (k1 : x3 < 0 → pe_X d 91 (27, [some (.inr (.inr a0)), some (.inl x1), some (.inl x2), some (.inl x3), o4], [], σ) Φ) (k2 : ¬ (x3 < 0) → pe_X d 91 (22, [some (.inr (.inr a0)), some (.inl x1), some (.inl x2), some (.inl x3), o4], [], σ) Φ) : pe_X d 91 (18, [some (.inr (.inr a0)), some (.inl x1), some (.inl x2), some (.inl x3), o4], [], σ) Φ := by
  refine pe_blk 9 2 ck91 [] (cond (decide ((pe_w x3) < 0)) 27 22, [some (.inr (.inr a0)), some (.inl x1), some (.inl x2), some (.inl x3), o4], [], σ) rfl ?_ ?_
  · exact trivial
  · try simp (disch := omega) only [pe_wi w0]
    exact pe_two k1 k2
theorem b91_22 {d : Nat} {Φ : Option pe_V → pe_H → Prop} {σ : pe_H} {a0 : Nat} {x1 : Int} {x2 : Int} {x3 : Int} {o4 : Option pe_V} (f_a0 : pk_Fs a0 σ := by assumption) (w0 : pe_in x3 := by unfold pe_in; omega)  (k1 : x3 ≤ 4 → pe_X d 91 (29, [some (.inr (.inr a0)), some (.inl x1), some (.inl x2), some (.inl x3), o4], [], σ) Φ) (k2 : ¬ (x3 ≤ 4) → pe_X d 91 (27, [some (.inr (.inr a0)), some (.inl x1), some (.inl x2), some (.inl x3), o4], [], σ) Φ) : pe_X d 91 (22, [some (.inr (.inr a0)), some (.inl x1), some (.inl x2), some (.inl x3), o4], [], σ) Φ := by
  refine pe_blk 11 3 ck91 [] (cond (decide ((pe_w x3) ≤ (pe_w 4))) 29 27, [some (.inr (.inr a0)), some (.inl x1), some (.inl x2), some (.inl x3), o4], [], σ) rfl ?_ ?_
  · exact trivial
  · try simp (disch := omega) only [pe_wi w0, pe_wi (x := 4) ⟨by decide, by decide⟩]
    exact pe_two k1 k2
theorem b91_27 {d : Nat} {Φ : Option pe_V → pe_H → Prop} {σ : pe_H} {o0 : Option pe_V} {o1 : Option pe_V} {o2 : Option pe_V} {o3 : Option pe_V} {o4 : Option pe_V}    (k : Φ (some (.inl (-1))) σ) : pe_X d 91 (27, [o0, o1, o2, o3, o4], [], σ) Φ := by
  refine pe_blk 14 1 ck91 [] (28, [o0, o1, o2, o3, o4], [.inl (-1)], σ) rfl ?_ ?_
  · exact trivial
  · exact pe_fine 15 ck91 rfl rfl rfl trivial k
theorem b91_29 {d : Nat} {Φ : Option pe_V → pe_H → Prop} {σ : pe_H} {a0 : Nat} {x1 : Int} {x2 : Int} {x3 : Int} {o4 : Option pe_V} (f_a0 : pk_Fs a0 σ := by assumption)   (k : pe_M d 122 [.inr (.inr a0)] σ (fun r σ' => pe_X d 91 (33, [some (.inr (.inr a0)), some (.inl x1), some (.inl x2), some (.inl x3), o4], r.toList ++ [], σ') Φ)) : pe_X d 91 (29, [some (.inr (.inr a0)), some (.inl x1), some (.inl x2), some (.inl x3), o4], [], σ) Φ := by
  refine pe_blk 16 1 ck91 [] (30, [some (.inr (.inr a0)), some (.inl x1), some (.inl x2), some (.inl x3), o4], [.inr (.inr a0)], σ) rfl ?_ ?_
  · exact trivial
  · try simp (disch := omega) only [pe_K_wI, pe_K_wR, pk_sK f_a0]
    have hrc : pe_K σ a0 = 8 := by first | assumption | (simp (disch := omega) only [pe_K_wI, pe_K_wR, pk_sK f_a0]; done) | (simp (disch := omega) only [pe_K_wI, pe_K_wR, pk_sK f_a0]; assumption)
    exact pe_cal 17 ck91 rfl rfl rfl ⟨hrc, by decide⟩ k
theorem b91_33 {d : Nat} {Φ : Option pe_V → pe_H → Prop} {σ : pe_H} {o0 : Option pe_V} {x1 : Int} {x2 : Int} {x3 : Int} {o4 : Option pe_V} {b0 : Nat} (f_b0 : pk_Fm b0 σ := by assumption)   (k : pe_M d 27 [.inr (.inr b0), .inl x2] σ (fun r σ' => pe_X d 91 (41, [o0, some (.inl x1), some (.inl x2), some (.inl x3), some (.inr (.inr b0))], r.toList ++ [], σ') Φ)) : pe_X d 91 (33, [o0, some (.inl x1), some (.inl x2), some (.inl x3), o4], [.inr (.inr b0)], σ) Φ := by
  refine pe_blk 18 3 ck91 [] (38, [o0, some (.inl x1), some (.inl x2), some (.inl x3), some (.inr (.inr b0))], [.inl x2, .inr (.inr b0)], σ) rfl ?_ ?_
  · exact trivial
  · try simp (disch := omega) only [pe_K_wI, pe_K_wR, pk_mK f_b0]
    have hrc : pe_K σ b0 = 2 := by first | assumption | (simp (disch := omega) only [pe_K_wI, pe_K_wR, pk_mK f_b0]; done) | (simp (disch := omega) only [pe_K_wI, pe_K_wR, pk_mK f_b0]; assumption)
    exact pe_cal 21 ck91 rfl rfl rfl ⟨hrc, by decide⟩ k
theorem b91_41 {d : Nat} {Φ : Option pe_V → pe_H → Prop} {σ : pe_H} {o0 : Option pe_V} {x1 : Int} {o2 : Option pe_V} {x3 : Int} {a4 : Nat} (f_a4 : pk_Fm a4 σ := by assumption) (w0 : pe_in x1 := by unfold pe_in; omega) (h0 : 0 ≤ x1 := by first | assumption | omega) (h1 : x1 < 8 := by first | assumption | omega) (k : pe_M d 9 [.inr (.inr (pk_c a4 x1)), .inl x3] σ (fun r σ' => pe_X d 91 (52, [o0, some (.inl x1), o2, some (.inl x3), some (.inr (.inr a4))], r.toList ++ [], σ') Φ)) : pe_X d 91 (41, [o0, some (.inl x1), o2, some (.inl x3), some (.inr (.inr a4))], [], σ) Φ := by
  refine pe_blk 22 5 ck91 [pe_K σ a4 = 2, 12 ≤ pe_K σ (pe_R σ a4 1) ∧ pe_K σ (pe_R σ a4 1) < 19, 0 ≤ (pe_w x1), (pe_w x1) < pe_L σ (pe_R σ a4 1)] (49, [o0, some (.inl x1), o2, some (.inl x3), some (.inr (.inr a4))], [.inl x3, .inr (.inr (pe_R σ (pe_R σ a4 1) (pe_w x1)))], σ) rfl ?_ ?_
  · first
    | (simp (disch := omega) only [pe_all, pe_wi w0, pe_K_wI, pe_K_wR, pe_L_wI, pe_L_wR, pe_R_nej, pe_R_ner, pe_R_wI, pk_mE2 f_a4 (i := x1) (by omega) (by omega), pk_mK f_a4, pk_mK2 f_a4, pk_mL2 f_a4, pk_mR2 f_a4, pk_oK (pk_mO f_a4 (i := x1) (by omega) (by omega))]; done)
    | (simp (disch := omega) only [pe_all, pe_wi w0, pe_K_wI, pe_K_wR, pe_L_wI, pe_L_wR, pe_R_nej, pe_R_ner, pe_R_wI, pk_mE2 f_a4 (i := x1) (by omega) (by omega), pk_mK f_a4, pk_mK2 f_a4, pk_mL2 f_a4, pk_mR2 f_a4, pk_oK (pk_mO f_a4 (i := x1) (by omega) (by omega))]; (repeat' apply And.intro) <;> first | assumption | omega | decide)
  · try simp (disch := omega) only [pe_wi w0, pe_K_wI, pe_K_wR, pe_L_wI, pe_L_wR, pe_R_nej, pe_R_ner, pe_R_wI, pk_mE2 f_a4 (i := x1) (by omega) (by omega), pk_mK f_a4, pk_mK2 f_a4, pk_mL2 f_a4, pk_mR2 f_a4, pk_oK (pk_mO f_a4 (i := x1) (by omega) (by omega))]
    have hrc : pe_K σ (pk_c a4 x1) = 0 := by first | assumption | (simp (disch := omega) only [pe_wi w0, pe_K_wI, pe_K_wR, pe_L_wI, pe_L_wR, pe_R_nej, pe_R_ner, pe_R_wI, pk_mE2 f_a4 (i := x1) (by omega) (by omega), pk_mK f_a4, pk_mK2 f_a4, pk_mL2 f_a4, pk_mR2 f_a4, pk_oK (pk_mO f_a4 (i := x1) (by omega) (by omega))]; done) | (simp (disch := omega) only [pe_wi w0, pe_K_wI, pe_K_wR, pe_L_wI, pe_L_wR, pe_R_nej, pe_R_ner, pe_R_wI, pk_mE2 f_a4 (i := x1) (by omega) (by omega), pk_mK f_a4, pk_mK2 f_a4, pk_mL2 f_a4, pk_mR2 f_a4, pk_oK (pk_mO f_a4 (i := x1) (by omega) (by omega))]; assumption)
    exact pe_cal 27 ck91 rfl rfl rfl ⟨hrc, by decide⟩ k
theorem b91_52 {d : Nat} {Φ : Option pe_V → pe_H → Prop} {σ : pe_H} {o0 : Option pe_V} {o1 : Option pe_V} {o2 : Option pe_V} {o3 : Option pe_V} {o4 : Option pe_V} {s0 : Int}    (k : Φ (some (.inl s0)) σ) : pe_X d 91 (52, [o0, o1, o2, o3, o4], [.inl s0], σ) Φ := by
  exact pe_fine 28 ck91 rfl rfl rfl trivial k
-- StepMachines.ends(I)I
def T92 : List (Nat × Instr × Nat) := [(0, .aload_n 0, 1), (1, .iload_n 1, 1), (2, .invokevirtual 107, 3), (5, .ifCond .ne 5, 3), (8, .iconst (-1), 1), (9, .ireturn, 1), (10, .aload_n 0, 1), (11, .invokevirtual 66, 3), (14, .astore_n 2, 1), (15, .iconst 0, 1), (16, .istore_n 3, 1), (17, .iload_n 3, 1), (18, .bipush 60, 2), (20, .if_icmp .gt 28, 3), (23, .aload_n 2, 1), (24, .getfield 110, 3), (27, .iload_n 1, 1), (28, .aaload, 1), (29, .invokevirtual 199, 3), (32, .ifCond .eq 5, 3), (35, .iload_n 3, 1), (36, .ireturn, 1), (37, .aload_n 2, 1), (38, .invokevirtual 212, 3), (41, .pop, 1), (42, .iinc 3 1, 3), (45, .goto (-28), 3), (48, .bipush (-4), 2), (50, .ireturn, 1)]
theorem ck92 : pe_ctx 92 8 false (some .int) 4 T92 := ⟨rfl, rfl, rfl, rfl, by decide +kernel, by decide, by decide⟩
theorem b92_0 {d : Nat} {Φ : Option pe_V → pe_H → Prop} {σ : pe_H} {a0 : Nat} {x1 : Int} {o2 : Option pe_V} {o3 : Option pe_V} (f_a0 : pk_Fs a0 σ := by assumption)   (k : pe_M d 117 [.inr (.inr a0), .inl x1] σ (fun r σ' => pe_X d 92 (5, [some (.inr (.inr a0)), some (.inl x1), o2, o3], r.toList ++ [], σ') Φ)) : pe_X d 92 (0, [some (.inr (.inr a0)), some (.inl x1), o2, o3], [], σ) Φ := by
  refine pe_blk 0 2 ck92 [] (2, [some (.inr (.inr a0)), some (.inl x1), o2, o3], [.inl x1, .inr (.inr a0)], σ) rfl ?_ ?_
  · exact trivial
  · try simp (disch := omega) only [pe_K_wI, pe_K_wR, pk_sK f_a0]
    have hrc : pe_K σ a0 = 8 := by first | assumption | (simp (disch := omega) only [pe_K_wI, pe_K_wR, pk_sK f_a0]; done) | (simp (disch := omega) only [pe_K_wI, pe_K_wR, pk_sK f_a0]; assumption)
    exact pe_cal 2 ck92 rfl rfl rfl ⟨hrc, by decide⟩ k
theorem b92_5 {d : Nat} {Φ : Option pe_V → pe_H → Prop} {σ : pe_H} {a0 : Nat} {x1 : Int} {o2 : Option pe_V} {o3 : Option pe_V} {s0 : Int} (f_a0 : pk_Fs a0 σ := by assumption) (w0 : pe_in s0 := by unfold pe_in; omega)  (k1 : ¬ s0 = 0 → pe_X d 92 (10, [some (.inr (.inr a0)), some (.inl x1), o2, o3], [], σ) Φ) (k2 : s0 = 0 → pe_X d 92 (8, [some (.inr (.inr a0)), some (.inl x1), o2, o3], [], σ) Φ) : pe_X d 92 (5, [some (.inr (.inr a0)), some (.inl x1), o2, o3], [.inl s0], σ) Φ := by
  refine pe_blk 3 1 ck92 [] (cond (decide (¬ (pe_w s0) = 0)) 10 8, [some (.inr (.inr a0)), some (.inl x1), o2, o3], [], σ) rfl ?_ ?_
  · exact trivial
  · try simp (disch := omega) only [pe_wi w0]
    exact pe_two' k1 k2
theorem b92_8 {d : Nat} {Φ : Option pe_V → pe_H → Prop} {σ : pe_H} {o0 : Option pe_V} {o1 : Option pe_V} {o2 : Option pe_V} {o3 : Option pe_V}    (k : Φ (some (.inl (-1))) σ) : pe_X d 92 (8, [o0, o1, o2, o3], [], σ) Φ := by
  refine pe_blk 4 1 ck92 [] (9, [o0, o1, o2, o3], [.inl (-1)], σ) rfl ?_ ?_
  · exact trivial
  · exact pe_fine 5 ck92 rfl rfl rfl trivial k
theorem b92_10 {d : Nat} {Φ : Option pe_V → pe_H → Prop} {σ : pe_H} {a0 : Nat} {x1 : Int} {o2 : Option pe_V} {o3 : Option pe_V} (f_a0 : pk_Fs a0 σ := by assumption)   (k : pe_M d 122 [.inr (.inr a0)] σ (fun r σ' => pe_X d 92 (14, [some (.inr (.inr a0)), some (.inl x1), o2, o3], r.toList ++ [], σ') Φ)) : pe_X d 92 (10, [some (.inr (.inr a0)), some (.inl x1), o2, o3], [], σ) Φ := by
  refine pe_blk 6 1 ck92 [] (11, [some (.inr (.inr a0)), some (.inl x1), o2, o3], [.inr (.inr a0)], σ) rfl ?_ ?_
  · exact trivial
  · try simp (disch := omega) only [pe_K_wI, pe_K_wR, pk_sK f_a0]
    have hrc : pe_K σ a0 = 8 := by first | assumption | (simp (disch := omega) only [pe_K_wI, pe_K_wR, pk_sK f_a0]; done) | (simp (disch := omega) only [pe_K_wI, pe_K_wR, pk_sK f_a0]; assumption)
    exact pe_cal 7 ck92 rfl rfl rfl ⟨hrc, by decide⟩ k
theorem b92_14 {d : Nat} {Φ : Option pe_V → pe_H → Prop} {σ : pe_H} {o0 : Option pe_V} {x1 : Int} {o2 : Option pe_V} {o3 : Option pe_V} {b0 : Nat} (f_b0 : pk_Fm b0 σ := by assumption)   (k : pe_X d 92 (17, [o0, some (.inl x1), some (.inr (.inr b0)), some (.inl 0)], [], σ) Φ) : pe_X d 92 (14, [o0, some (.inl x1), o2, o3], [.inr (.inr b0)], σ) Φ := by
  refine pe_blk 8 3 ck92 [] (17, [o0, some (.inl x1), some (.inr (.inr b0)), some (.inl 0)], [], σ) rfl ?_ ?_
  · exact trivial
  · exact k
theorem b92_17 {d : Nat} {Φ : Option pe_V → pe_H → Prop} {σ : pe_H} {o0 : Option pe_V} {x1 : Int} {a2 : Nat} {x3 : Int} (f_a2 : pk_Fm a2 σ := by assumption) (w0 : pe_in x3 := by unfold pe_in; omega)  (k1 : 60 < x3 → pe_X d 92 (48, [o0, some (.inl x1), some (.inr (.inr a2)), some (.inl x3)], [], σ) Φ) (k2 : ¬ (60 < x3) → pe_X d 92 (23, [o0, some (.inl x1), some (.inr (.inr a2)), some (.inl x3)], [], σ) Φ) : pe_X d 92 (17, [o0, some (.inl x1), some (.inr (.inr a2)), some (.inl x3)], [], σ) Φ := by
  refine pe_blk 11 3 ck92 [] (cond (decide ((pe_w 60) < (pe_w x3))) 48 23, [o0, some (.inl x1), some (.inr (.inr a2)), some (.inl x3)], [], σ) rfl ?_ ?_
  · exact trivial
  · try simp (disch := omega) only [pe_wi w0, pe_wi (x := 60) ⟨by decide, by decide⟩]
    exact pe_two k1 k2
theorem b92_23 {d : Nat} {Φ : Option pe_V → pe_H → Prop} {σ : pe_H} {o0 : Option pe_V} {x1 : Int} {a2 : Nat} {x3 : Int} (f_a2 : pk_Fm a2 σ := by assumption) (w0 : pe_in x1 := by unfold pe_in; omega) (h0 : 0 ≤ x1 := by first | assumption | omega) (h1 : x1 < 8 := by first | assumption | omega) (k : pe_M d 3 [.inr (.inr (pk_c a2 x1))] σ (fun r σ' => pe_X d 92 (32, [o0, some (.inl x1), some (.inr (.inr a2)), some (.inl x3)], r.toList ++ [], σ') Φ)) : pe_X d 92 (23, [o0, some (.inl x1), some (.inr (.inr a2)), some (.inl x3)], [], σ) Φ := by
  refine pe_blk 14 4 ck92 [pe_K σ a2 = 2, 12 ≤ pe_K σ (pe_R σ a2 1) ∧ pe_K σ (pe_R σ a2 1) < 19, 0 ≤ (pe_w x1), (pe_w x1) < pe_L σ (pe_R σ a2 1)] (29, [o0, some (.inl x1), some (.inr (.inr a2)), some (.inl x3)], [.inr (.inr (pe_R σ (pe_R σ a2 1) (pe_w x1)))], σ) rfl ?_ ?_
  · first
    | (simp (disch := omega) only [pe_all, pe_wi w0, pe_K_wI, pe_K_wR, pe_L_wI, pe_L_wR, pe_R_nej, pe_R_ner, pe_R_wI, pk_mE2 f_a2 (i := x1) (by omega) (by omega), pk_mK f_a2, pk_mK2 f_a2, pk_mL2 f_a2, pk_mR2 f_a2, pk_oK (pk_mO f_a2 (i := x1) (by omega) (by omega))]; done)
    | (simp (disch := omega) only [pe_all, pe_wi w0, pe_K_wI, pe_K_wR, pe_L_wI, pe_L_wR, pe_R_nej, pe_R_ner, pe_R_wI, pk_mE2 f_a2 (i := x1) (by omega) (by omega), pk_mK f_a2, pk_mK2 f_a2, pk_mL2 f_a2, pk_mR2 f_a2, pk_oK (pk_mO f_a2 (i := x1) (by omega) (by omega))]; (repeat' apply And.intro) <;> first | assumption | omega | decide)
  · try simp (disch := omega) only [pe_wi w0, pe_K_wI, pe_K_wR, pe_L_wI, pe_L_wR, pe_R_nej, pe_R_ner, pe_R_wI, pk_mE2 f_a2 (i := x1) (by omega) (by omega), pk_mK f_a2, pk_mK2 f_a2, pk_mL2 f_a2, pk_mR2 f_a2, pk_oK (pk_mO f_a2 (i := x1) (by omega) (by omega))]
    have hrc : pe_K σ (pk_c a2 x1) = 0 := by first | assumption | (simp (disch := omega) only [pe_wi w0, pe_K_wI, pe_K_wR, pe_L_wI, pe_L_wR, pe_R_nej, pe_R_ner, pe_R_wI, pk_mE2 f_a2 (i := x1) (by omega) (by omega), pk_mK f_a2, pk_mK2 f_a2, pk_mL2 f_a2, pk_mR2 f_a2, pk_oK (pk_mO f_a2 (i := x1) (by omega) (by omega))]; done) | (simp (disch := omega) only [pe_wi w0, pe_K_wI, pe_K_wR, pe_L_wI, pe_L_wR, pe_R_nej, pe_R_ner, pe_R_wI, pk_mE2 f_a2 (i := x1) (by omega) (by omega), pk_mK f_a2, pk_mK2 f_a2, pk_mL2 f_a2, pk_mR2 f_a2, pk_oK (pk_mO f_a2 (i := x1) (by omega) (by omega))]; assumption)
    exact pe_cal 18 ck92 rfl rfl rfl ⟨hrc, by decide⟩ k
theorem b92_32 {d : Nat} {Φ : Option pe_V → pe_H → Prop} {σ : pe_H} {o0 : Option pe_V} {x1 : Int} {a2 : Nat} {x3 : Int} {s0 : Int} (f_a2 : pk_Fm a2 σ := by assumption) (w0 : pe_in s0 := by unfold pe_in; omega)  (k1 : s0 = 0 → pe_X d 92 (37, [o0, some (.inl x1), some (.inr (.inr a2)), some (.inl x3)], [], σ) Φ) (k2 : ¬ (s0 = 0) → pe_X d 92 (35, [o0, some (.inl x1), some (.inr (.inr a2)), some (.inl x3)], [], σ) Φ) : pe_X d 92 (32, [o0, some (.inl x1), some (.inr (.inr a2)), some (.inl x3)], [.inl s0], σ) Φ := by
  refine pe_blk 19 1 ck92 [] (cond (decide ((pe_w s0) = 0)) 37 35, [o0, some (.inl x1), some (.inr (.inr a2)), some (.inl x3)], [], σ) rfl ?_ ?_
  · exact trivial
  · try simp (disch := omega) only [pe_wi w0]
    exact pe_two k1 k2
theorem b92_35 {d : Nat} {Φ : Option pe_V → pe_H → Prop} {σ : pe_H} {o0 : Option pe_V} {o1 : Option pe_V} {o2 : Option pe_V} {x3 : Int}    (k : Φ (some (.inl x3)) σ) : pe_X d 92 (35, [o0, o1, o2, some (.inl x3)], [], σ) Φ := by
  refine pe_blk 20 1 ck92 [] (36, [o0, o1, o2, some (.inl x3)], [.inl x3], σ) rfl ?_ ?_
  · exact trivial
  · exact pe_fine 21 ck92 rfl rfl rfl trivial k
theorem b92_37 {d : Nat} {Φ : Option pe_V → pe_H → Prop} {σ : pe_H} {o0 : Option pe_V} {x1 : Int} {a2 : Nat} {x3 : Int} (f_a2 : pk_Fm a2 σ := by assumption)   (k : pe_M d 28 [.inr (.inr a2)] σ (fun r σ' => pe_X d 92 (41, [o0, some (.inl x1), some (.inr (.inr a2)), some (.inl x3)], r.toList ++ [], σ') Φ)) : pe_X d 92 (37, [o0, some (.inl x1), some (.inr (.inr a2)), some (.inl x3)], [], σ) Φ := by
  refine pe_blk 22 1 ck92 [] (38, [o0, some (.inl x1), some (.inr (.inr a2)), some (.inl x3)], [.inr (.inr a2)], σ) rfl ?_ ?_
  · exact trivial
  · try simp (disch := omega) only [pe_K_wI, pe_K_wR, pk_mK f_a2]
    have hrc : pe_K σ a2 = 2 := by first | assumption | (simp (disch := omega) only [pe_K_wI, pe_K_wR, pk_mK f_a2]; done) | (simp (disch := omega) only [pe_K_wI, pe_K_wR, pk_mK f_a2]; assumption)
    exact pe_cal 23 ck92 rfl rfl rfl ⟨hrc, by decide⟩ k
theorem b92_41 {d : Nat} {Φ : Option pe_V → pe_H → Prop} {σ : pe_H} {o0 : Option pe_V} {x1 : Int} {a2 : Nat} {x3 : Int} {s0 : Int} (f_a2 : pk_Fm a2 σ := by assumption)   (k : pe_X d 92 (17, [o0, some (.inl x1), some (.inr (.inr a2)), some (.inl (x3 + 1))], [], σ) Φ) : pe_X d 92 (41, [o0, some (.inl x1), some (.inr (.inr a2)), some (.inl x3)], [.inl s0], σ) Φ := by
  refine pe_blk 24 3 ck92 [] (17, [o0, some (.inl x1), some (.inr (.inr a2)), some (.inl (x3 + 1))], [], σ) rfl ?_ ?_
  · exact trivial
  · exact k
theorem b92_48 {d : Nat} {Φ : Option pe_V → pe_H → Prop} {σ : pe_H} {o0 : Option pe_V} {o1 : Option pe_V} {o2 : Option pe_V} {o3 : Option pe_V}    (k : Φ (some (.inl (-4))) σ) : pe_X d 92 (48, [o0, o1, o2, o3], [], σ) Φ := by
  refine pe_blk 27 1 ck92 [] (50, [o0, o1, o2, o3], [.inl (-4)], σ) rfl ?_ ?_
  · exact trivial
  · exact pe_fine 28 ck92 rfl rfl rfl trivial k

