def yT46 : List (Nat × Instr × Nat) := [(0, .aload_n 0, 1), (1, .getfield 15, 3), (4, .ifCond .eq 29, 3), (7, .aload_n 0, 1), (8, .getfield 9, 3), (11, .iconst 2, 1), (12, .if_icmp .eq 21, 3), (15, .aload_n 0, 1), (16, .getfield 9, 3), (19, .iconst 4, 1), (20, .if_icmp .eq 13, 3), (23, .new 18, 3), (33, .return_, 1)]
theorem yk46 : pe_chk cX3_fail yT46 = true := by decide +kernel
theorem pb46_0 {d : Nat} {G : pe_S → Prop} {σ : pe_H} {a0 : Nat}  (w0 : pe_in (pe_I σ a0 1) := by unfold pe_in; omega) (h0 : pe_K σ a0 = 3 := by first | assumption | omega) (k1 : (pe_I σ a0 1) = 0 → py_X d 3 false cX3_fail (33, [some (.inr (.inr a0))], [], σ) G) (k2 : ¬ ((pe_I σ a0 1) = 0) → py_X d 3 false cX3_fail (7, [some (.inr (.inr a0))], [], σ) G) : py_X d 3 false cX3_fail (0, [some (.inr (.inr a0))], [], σ) G := by
  refine py_blk 0 3 yk46 [pe_K σ a0 = 3] (cond (decide ((pe_w (pe_I σ a0 1)) = 0)) 33 7, [some (.inr (.inr a0))], [], σ) rfl ?_ ?_
  · first
    | (simp (disch := omega) only [pe_all, pe_wi w0, pe_K_wI, pe_K_wR]; done)
    | (simp (disch := omega) only [pe_all, pe_wi w0, pe_K_wI, pe_K_wR]; (repeat' apply And.intro) <;> first | assumption | omega | decide)
  · try simp (disch := omega) only [pe_wi w0, pe_K_wI, pe_K_wR]
    exact py_two k1 k2
theorem pb46_7 {d : Nat} {G : pe_S → Prop} {σ : pe_H} {a0 : Nat}  (w0 : pe_in (pe_I σ a0 0) := by unfold pe_in; omega) (h0 : pe_K σ a0 = 3 := by first | assumption | omega) (k1 : (pe_I σ a0 0) = 2 → py_X d 3 false cX3_fail (33, [some (.inr (.inr a0))], [], σ) G) (k2 : ¬ ((pe_I σ a0 0) = 2) → py_X d 3 false cX3_fail (15, [some (.inr (.inr a0))], [], σ) G) : py_X d 3 false cX3_fail (7, [some (.inr (.inr a0))], [], σ) G := by
  refine py_blk 3 4 yk46 [pe_K σ a0 = 3] (cond (decide ((pe_w (pe_I σ a0 0)) = (pe_w 2))) 33 15, [some (.inr (.inr a0))], [], σ) rfl ?_ ?_
  · first
    | (simp (disch := omega) only [pe_all, pe_wi w0, pe_wi (x := 2) ⟨by decide, by decide⟩, pe_K_wI, pe_K_wR]; done)
    | (simp (disch := omega) only [pe_all, pe_wi w0, pe_wi (x := 2) ⟨by decide, by decide⟩, pe_K_wI, pe_K_wR]; (repeat' apply And.intro) <;> first | assumption | omega | decide)
  · try simp (disch := omega) only [pe_wi w0, pe_wi (x := 2) ⟨by decide, by decide⟩, pe_K_wI, pe_K_wR]
    exact py_two k1 k2
theorem pb46_15 {d : Nat} {G : pe_S → Prop} {σ : pe_H} {a0 : Nat}  (w0 : pe_in (pe_I σ a0 0) := by unfold pe_in; omega) (h0 : pe_K σ a0 = 3 := by first | assumption | omega) (k1 : (pe_I σ a0 0) = 4 → py_X d 3 false cX3_fail (33, [some (.inr (.inr a0))], [], σ) G) (k2 : ¬ ((pe_I σ a0 0) = 4) → py_X d 3 false cX3_fail (23, [some (.inr (.inr a0))], [], σ) G) : py_X d 3 false cX3_fail (15, [some (.inr (.inr a0))], [], σ) G := by
  refine py_blk 7 4 yk46 [pe_K σ a0 = 3] (cond (decide ((pe_w (pe_I σ a0 0)) = (pe_w 4))) 33 23, [some (.inr (.inr a0))], [], σ) rfl ?_ ?_
  · first
    | (simp (disch := omega) only [pe_all, pe_wi w0, pe_wi (x := 4) ⟨by decide, by decide⟩, pe_K_wI, pe_K_wR]; done)
    | (simp (disch := omega) only [pe_all, pe_wi w0, pe_wi (x := 4) ⟨by decide, by decide⟩, pe_K_wI, pe_K_wR]; (repeat' apply And.intro) <;> first | assumption | omega | decide)
  · try simp (disch := omega) only [pe_wi w0, pe_wi (x := 4) ⟨by decide, by decide⟩, pe_K_wI, pe_K_wR]
    exact py_two k1 k2
def yT112 : List (Nat × Instr × Nat) := [(0, .iload_n 1, 1), (1, .invokestatic 286, 3), (4, .ifCond .ne 14, 3), (7, .new 295, 3), (18, .aload_n 0, 1), (19, .getfield 31, 3), (22, .iload_n 1, 1), (23, .aaload, 1), (24, .ifnonnull 14, 3), (27, .new 302, 3), (38, .aload_n 0, 1), (39, .getfield 31, 3), (42, .iload_n 1, 1), (43, .aaload, 1), (44, .iload_n 2, 1), (45, .invokevirtual 290, 3), (48, .ifCond .ne 14, 3), (51, .new 302, 3), (62, .aload_n 0, 1), (63, .getfield 31, 3), (66, .iload_n 1, 1), (67, .aaload, 1), (68, .iload_n 2, 1), (69, .invokevirtual 274, 3), (72, .i2l, 1), (73, .lreturn, 1)]
theorem yk112 : pe_chk cX8_element yT112 = true := by decide +kernel
theorem pb112_0 {d : Nat} {G : pe_S → Prop} {σ : pe_H} {a0 : Nat} {x1 : Int} {x2 : Int}    (k : pe_M d 115 [.inl x1] σ (fun r σ' => py_X d 8 false cX8_element (4, [some (.inr (.inr a0)), some (.inl x1), some (.inl x2)], r.toList ++ [], σ') G)) : py_X d 8 false cX8_element (0, [some (.inr (.inr a0)), some (.inl x1), some (.inl x2)], [], σ) G := by
  refine py_blk 0 1 yk112 [] (1, [some (.inr (.inr a0)), some (.inl x1), some (.inl x2)], [.inl x1], σ) rfl ?_ ?_
  · exact trivial
  · exact py_cal 1 yk112 rfl rfl rfl trivial k
theorem pb112_4 {d : Nat} {G : pe_S → Prop} {σ : pe_H} {a0 : Nat} {x1 : Int} {x2 : Int} {s0 : Int}  (w0 : pe_in s0 := by unfold pe_in; omega)  (k1 : ¬ s0 = 0 → py_X d 8 false cX8_element (18, [some (.inr (.inr a0)), some (.inl x1), some (.inl x2)], [], σ) G) (k2 : s0 = 0 → py_X d 8 false cX8_element (7, [some (.inr (.inr a0)), some (.inl x1), some (.inl x2)], [], σ) G) : py_X d 8 false cX8_element (4, [some (.inr (.inr a0)), some (.inl x1), some (.inl x2)], [.inl s0], σ) G := by
  refine py_blk 2 1 yk112 [] (cond (decide (¬ (pe_w s0) = 0)) 18 7, [some (.inr (.inr a0)), some (.inl x1), some (.inl x2)], [], σ) rfl ?_ ?_
  · exact trivial
  · try simp (disch := omega) only [pe_wi w0]
    exact py_two' k1 k2
theorem pb112_18 {d : Nat} {G : pe_S → Prop} {σ : pe_H} {a0 : Nat} {x1 : Int} {x2 : Int}  (w0 : pe_in x1 := by unfold pe_in; omega) (h0 : pe_K σ a0 = 8 := by first | assumption | omega) (h1 : 12 ≤ pe_K σ (pe_R σ a0 4) ∧ pe_K σ (pe_R σ a0 4) < 19 := by first | assumption | omega) (h2 : 0 ≤ x1 := by first | assumption | omega) (h3 : x1 < pe_L σ (pe_R σ a0 4) := by first | assumption | omega) (k1 : ¬ (pe_R σ (pe_R σ a0 4) x1) = 0 → py_X d 8 false cX8_element (38, [some (.inr (.inr a0)), some (.inl x1), some (.inl x2)], [], σ) G) (k2 : (pe_R σ (pe_R σ a0 4) x1) = 0 → py_X d 8 false cX8_element (27, [some (.inr (.inr a0)), some (.inl x1), some (.inl x2)], [], σ) G) : py_X d 8 false cX8_element (18, [some (.inr (.inr a0)), some (.inl x1), some (.inl x2)], [], σ) G := by
  refine py_blk 4 5 yk112 [pe_K σ a0 = 8, 12 ≤ pe_K σ (pe_R σ a0 4) ∧ pe_K σ (pe_R σ a0 4) < 19, 0 ≤ (pe_w x1), (pe_w x1) < pe_L σ (pe_R σ a0 4)] (cond (decide (¬ (pe_R σ (pe_R σ a0 4) (pe_w x1)) = 0)) 38 27, [some (.inr (.inr a0)), some (.inl x1), some (.inl x2)], [], σ) rfl ?_ ?_
  · first
    | (simp (disch := omega) only [pe_all, pe_wi w0, pe_K_wI, pe_K_wR, pe_L_wI, pe_L_wR]; done)
    | (simp (disch := omega) only [pe_all, pe_wi w0, pe_K_wI, pe_K_wR, pe_L_wI, pe_L_wR]; (repeat' apply And.intro) <;> first | assumption | omega | decide)
  · try simp (disch := omega) only [pe_wi w0, pe_K_wI, pe_K_wR, pe_L_wI, pe_L_wR]
    exact py_two' k1 k2
theorem pb112_38 {d : Nat} {G : pe_S → Prop} {σ : pe_H} {a0 : Nat} {x1 : Int} {x2 : Int}  (w0 : pe_in x1 := by unfold pe_in; omega) (h0 : pe_K σ a0 = 8 := by first | assumption | omega) (h1 : 12 ≤ pe_K σ (pe_R σ a0 4) ∧ pe_K σ (pe_R σ a0 4) < 19 := by first | assumption | omega) (h2 : 0 ≤ x1 := by first | assumption | omega) (h3 : x1 < pe_L σ (pe_R σ a0 4) := by first | assumption | omega) (h4 : pe_K σ (pe_R σ (pe_R σ a0 4) x1) = 6 := by first | assumption | omega) (k : pe_M d 58 [.inr (.inr (pe_R σ (pe_R σ a0 4) x1)), .inl x2] σ (fun r σ' => py_X d 8 false cX8_element (48, [some (.inr (.inr a0)), some (.inl x1), some (.inl x2)], r.toList ++ [], σ') G)) : py_X d 8 false cX8_element (38, [some (.inr (.inr a0)), some (.inl x1), some (.inl x2)], [], σ) G := by
  refine py_blk 10 5 yk112 [pe_K σ a0 = 8, 12 ≤ pe_K σ (pe_R σ a0 4) ∧ pe_K σ (pe_R σ a0 4) < 19, 0 ≤ (pe_w x1), (pe_w x1) < pe_L σ (pe_R σ a0 4)] (45, [some (.inr (.inr a0)), some (.inl x1), some (.inl x2)], [.inl x2, .inr (.inr (pe_R σ (pe_R σ a0 4) (pe_w x1)))], σ) rfl ?_ ?_
  · first
    | (simp (disch := omega) only [pe_all, pe_wi w0, pe_K_wI, pe_K_wR, pe_L_wI, pe_L_wR]; done)
    | (simp (disch := omega) only [pe_all, pe_wi w0, pe_K_wI, pe_K_wR, pe_L_wI, pe_L_wR]; (repeat' apply And.intro) <;> first | assumption | omega | decide)
  · try simp (disch := omega) only [pe_wi w0, pe_K_wI, pe_K_wR, pe_L_wI, pe_L_wR]
    have hrc : pe_K σ (pe_R σ (pe_R σ a0 4) x1) = 6 := by first | assumption | (simp (disch := omega) only [pe_wi w0, pe_K_wI, pe_K_wR, pe_L_wI, pe_L_wR]; done) | (simp (disch := omega) only [pe_wi w0, pe_K_wI, pe_K_wR, pe_L_wI, pe_L_wR]; assumption)
    exact py_cal 15 yk112 rfl rfl rfl ⟨hrc, by decide⟩ k
theorem pb112_48 {d : Nat} {G : pe_S → Prop} {σ : pe_H} {a0 : Nat} {x1 : Int} {x2 : Int} {s0 : Int}  (w0 : pe_in s0 := by unfold pe_in; omega)  (k1 : ¬ s0 = 0 → py_X d 8 false cX8_element (62, [some (.inr (.inr a0)), some (.inl x1), some (.inl x2)], [], σ) G) (k2 : s0 = 0 → py_X d 8 false cX8_element (51, [some (.inr (.inr a0)), some (.inl x1), some (.inl x2)], [], σ) G) : py_X d 8 false cX8_element (48, [some (.inr (.inr a0)), some (.inl x1), some (.inl x2)], [.inl s0], σ) G := by
  refine py_blk 16 1 yk112 [] (cond (decide (¬ (pe_w s0) = 0)) 62 51, [some (.inr (.inr a0)), some (.inl x1), some (.inl x2)], [], σ) rfl ?_ ?_
  · exact trivial
  · try simp (disch := omega) only [pe_wi w0]
    exact py_two' k1 k2
theorem pb112_62 {d : Nat} {G : pe_S → Prop} {σ : pe_H} {a0 : Nat} {x1 : Int} {x2 : Int}  (w0 : pe_in x1 := by unfold pe_in; omega) (h0 : pe_K σ a0 = 8 := by first | assumption | omega) (h1 : 12 ≤ pe_K σ (pe_R σ a0 4) ∧ pe_K σ (pe_R σ a0 4) < 19 := by first | assumption | omega) (h2 : 0 ≤ x1 := by first | assumption | omega) (h3 : x1 < pe_L σ (pe_R σ a0 4) := by first | assumption | omega) (h4 : pe_K σ (pe_R σ (pe_R σ a0 4) x1) = 6 := by first | assumption | omega) (k : pe_M d 60 [.inr (.inr (pe_R σ (pe_R σ a0 4) x1)), .inl x2] σ (fun r σ' => py_X d 8 false cX8_element (72, [some (.inr (.inr a0)), some (.inl x1), some (.inl x2)], r.toList ++ [], σ') G)) : py_X d 8 false cX8_element (62, [some (.inr (.inr a0)), some (.inl x1), some (.inl x2)], [], σ) G := by
  refine py_blk 18 5 yk112 [pe_K σ a0 = 8, 12 ≤ pe_K σ (pe_R σ a0 4) ∧ pe_K σ (pe_R σ a0 4) < 19, 0 ≤ (pe_w x1), (pe_w x1) < pe_L σ (pe_R σ a0 4)] (69, [some (.inr (.inr a0)), some (.inl x1), some (.inl x2)], [.inl x2, .inr (.inr (pe_R σ (pe_R σ a0 4) (pe_w x1)))], σ) rfl ?_ ?_
  · first
    | (simp (disch := omega) only [pe_all, pe_wi w0, pe_K_wI, pe_K_wR, pe_L_wI, pe_L_wR]; done)
    | (simp (disch := omega) only [pe_all, pe_wi w0, pe_K_wI, pe_K_wR, pe_L_wI, pe_L_wR]; (repeat' apply And.intro) <;> first | assumption | omega | decide)
  · try simp (disch := omega) only [pe_wi w0, pe_K_wI, pe_K_wR, pe_L_wI, pe_L_wR]
    have hrc : pe_K σ (pe_R σ (pe_R σ a0 4) x1) = 6 := by first | assumption | (simp (disch := omega) only [pe_wi w0, pe_K_wI, pe_K_wR, pe_L_wI, pe_L_wR]; done) | (simp (disch := omega) only [pe_wi w0, pe_K_wI, pe_K_wR, pe_L_wI, pe_L_wR]; assumption)
    exact py_cal 23 yk112 rfl rfl rfl ⟨hrc, by decide⟩ k
theorem pb112_72 {d : Nat} {G : pe_S → Prop} {σ : pe_H} {o0 : Option pe_V} {o1 : Option pe_V} {o2 : Option pe_V} {s0 : Int}  (w0 : pe_in s0 := by unfold pe_in; omega)  (k : py_X d 8 false cX8_element (73, [o0, o1, o2], [.inr (.inl s0)], σ) G) : py_X d 8 false cX8_element (72, [o0, o1, o2], [.inl s0], σ) G := by
  refine py_blk 24 1 yk112 [] (73, [o0, o1, o2], [.inr (.inl (pe_w s0))], σ) rfl ?_ ?_
  · exact trivial
  · try simp (disch := omega) only [pe_wi w0]
    exact k
def yT301 : List (Nat × Instr × Nat) := [(0, .aload_n 0, 1), (1, .iload_n 1, 1), (2, .invokevirtual 100, 3), (5, .istore_n 2, 1), (6, .iload_n 2, 1), (7, .ifCond .eq 5, 3), (10, .iload_n 2, 1), (11, .ireturn, 1), (12, .aload_n 0, 1), (13, .getfield 25, 3), (16, .iload_n 1, 1), (17, .aaload, 1), (18, .invokevirtual 328, 3), (21, .bipush (-15), 2), (23, .ireturn, 1), (24, .astore_n 3, 1), (25, .aload_n 0, 1), (26, .getfield 25, 3), (29, .iload_n 1, 1), (30, .aaload, 1), (31, .invokevirtual 331, 3), (34, .ireturn, 1)]
theorem yk301 : pe_chk cX8_toss yT301 = true := by decide +kernel
theorem pb301_0 {d : Nat} {G : pe_S → Prop} {σ : pe_H} {a0 : Nat} {x1 : Int} {o2 : Option pe_V} {o3 : Option pe_V}   (h0 : pe_K σ a0 = 8 := by first | assumption | omega) (k : pe_M d 120 [.inr (.inr a0), .inl x1] σ (fun r σ' => py_X d 8 false cX8_toss (5, [some (.inr (.inr a0)), some (.inl x1), o2, o3], r.toList ++ [], σ') G)) : py_X d 8 false cX8_toss (0, [some (.inr (.inr a0)), some (.inl x1), o2, o3], [], σ) G := by
  refine py_blk 0 2 yk301 [] (2, [some (.inr (.inr a0)), some (.inl x1), o2, o3], [.inl x1, .inr (.inr a0)], σ) rfl ?_ ?_
  · exact trivial
  · try simp (disch := omega) only [pe_K_wI, pe_K_wR]
    have hrc : pe_K σ a0 = 8 := by first | assumption | (simp (disch := omega) only [pe_K_wI, pe_K_wR]; done) | (simp (disch := omega) only [pe_K_wI, pe_K_wR]; assumption)
    exact py_cal 2 yk301 rfl rfl rfl ⟨hrc, by decide⟩ k
theorem pb301_5 {d : Nat} {G : pe_S → Prop} {σ : pe_H} {a0 : Nat} {x1 : Int} {o2 : Option pe_V} {o3 : Option pe_V} {s0 : Int}  (w0 : pe_in s0 := by unfold pe_in; omega)  (k1 : s0 = 0 → py_X d 8 false cX8_toss (12, [some (.inr (.inr a0)), some (.inl x1), some (.inl s0), o3], [], σ) G) (k2 : ¬ (s0 = 0) → py_X d 8 false cX8_toss (10, [some (.inr (.inr a0)), some (.inl x1), some (.inl s0), o3], [], σ) G) : py_X d 8 false cX8_toss (5, [some (.inr (.inr a0)), some (.inl x1), o2, o3], [.inl s0], σ) G := by
  refine py_blk 3 3 yk301 [] (cond (decide ((pe_w s0) = 0)) 12 10, [some (.inr (.inr a0)), some (.inl x1), some (.inl s0), o3], [], σ) rfl ?_ ?_
  · exact trivial
  · try simp (disch := omega) only [pe_wi w0]
    exact py_two k1 k2
theorem pb301_10 {d : Nat} {G : pe_S → Prop} {σ : pe_H} {o0 : Option pe_V} {o1 : Option pe_V} {x2 : Int} {o3 : Option pe_V}    (k : py_X d 8 false cX8_toss (11, [o0, o1, some (.inl x2), o3], [.inl x2], σ) G) : py_X d 8 false cX8_toss (10, [o0, o1, some (.inl x2), o3], [], σ) G := by
  refine py_blk 6 1 yk301 [] (11, [o0, o1, some (.inl x2), o3], [.inl x2], σ) rfl ?_ ?_
  · exact trivial
  · exact k
theorem pb301_12 {d : Nat} {G : pe_S → Prop} {σ : pe_H} {a0 : Nat} {x1 : Int} {o2 : Option pe_V} {o3 : Option pe_V}  (w0 : pe_in x1 := by unfold pe_in; omega) (h0 : pe_K σ a0 = 8 := by first | assumption | omega) (h1 : 12 ≤ pe_K σ (pe_R σ a0 3) ∧ pe_K σ (pe_R σ a0 3) < 19 := by first | assumption | omega) (h2 : 0 ≤ x1 := by first | assumption | omega) (h3 : x1 < pe_L σ (pe_R σ a0 3) := by first | assumption | omega) (k : py_X d 8 false cX8_toss (18, [some (.inr (.inr a0)), some (.inl x1), o2, o3], [.inr (.inr (pe_R σ (pe_R σ a0 3) x1))], σ) G) : py_X d 8 false cX8_toss (12, [some (.inr (.inr a0)), some (.inl x1), o2, o3], [], σ) G := by
  refine py_blk 8 4 yk301 [pe_K σ a0 = 8, 12 ≤ pe_K σ (pe_R σ a0 3) ∧ pe_K σ (pe_R σ a0 3) < 19, 0 ≤ (pe_w x1), (pe_w x1) < pe_L σ (pe_R σ a0 3)] (18, [some (.inr (.inr a0)), some (.inl x1), o2, o3], [.inr (.inr (pe_R σ (pe_R σ a0 3) (pe_w x1)))], σ) rfl ?_ ?_
  · first
    | (simp (disch := omega) only [pe_all, pe_wi w0, pe_K_wI, pe_K_wR, pe_L_wI, pe_L_wR]; done)
    | (simp (disch := omega) only [pe_all, pe_wi w0, pe_K_wI, pe_K_wR, pe_L_wI, pe_L_wR]; (repeat' apply And.intro) <;> first | assumption | omega | decide)
  · try simp (disch := omega) only [pe_wi w0, pe_K_wI, pe_K_wR, pe_L_wI, pe_L_wR]
    exact k
theorem pb301_21 {d : Nat} {G : pe_S → Prop} {σ : pe_H} {o0 : Option pe_V} {o1 : Option pe_V} {o2 : Option pe_V} {o3 : Option pe_V}    (k : py_X d 8 false cX8_toss (23, [o0, o1, o2, o3], [.inl (-15)], σ) G) : py_X d 8 false cX8_toss (21, [o0, o1, o2, o3], [], σ) G := by
  refine py_blk 13 1 yk301 [] (23, [o0, o1, o2, o3], [.inl (-15)], σ) rfl ?_ ?_
  · exact trivial
  · exact k
theorem pb301_25 {d : Nat} {G : pe_S → Prop} {σ : pe_H} {a0 : Nat} {x1 : Int} {o2 : Option pe_V} {o3 : Option pe_V}  (w0 : pe_in x1 := by unfold pe_in; omega) (h0 : pe_K σ a0 = 8 := by first | assumption | omega) (h1 : 12 ≤ pe_K σ (pe_R σ a0 3) ∧ pe_K σ (pe_R σ a0 3) < 19 := by first | assumption | omega) (h2 : 0 ≤ x1 := by first | assumption | omega) (h3 : x1 < pe_L σ (pe_R σ a0 3) := by first | assumption | omega) (h4 : pe_K σ (pe_R σ (pe_R σ a0 3) x1) = 3 := by first | assumption | omega) (k : pe_M d 47 [.inr (.inr (pe_R σ (pe_R σ a0 3) x1))] σ (fun r σ' => py_X d 8 false cX8_toss (34, [some (.inr (.inr a0)), some (.inl x1), o2, o3], r.toList ++ [], σ') G)) : py_X d 8 false cX8_toss (25, [some (.inr (.inr a0)), some (.inl x1), o2, o3], [], σ) G := by
  refine py_blk 16 4 yk301 [pe_K σ a0 = 8, 12 ≤ pe_K σ (pe_R σ a0 3) ∧ pe_K σ (pe_R σ a0 3) < 19, 0 ≤ (pe_w x1), (pe_w x1) < pe_L σ (pe_R σ a0 3)] (31, [some (.inr (.inr a0)), some (.inl x1), o2, o3], [.inr (.inr (pe_R σ (pe_R σ a0 3) (pe_w x1)))], σ) rfl ?_ ?_
  · first
    | (simp (disch := omega) only [pe_all, pe_wi w0, pe_K_wI, pe_K_wR, pe_L_wI, pe_L_wR]; done)
    | (simp (disch := omega) only [pe_all, pe_wi w0, pe_K_wI, pe_K_wR, pe_L_wI, pe_L_wR]; (repeat' apply And.intro) <;> first | assumption | omega | decide)
  · try simp (disch := omega) only [pe_wi w0, pe_K_wI, pe_K_wR, pe_L_wI, pe_L_wR]
    have hrc : pe_K σ (pe_R σ (pe_R σ a0 3) x1) = 3 := by first | assumption | (simp (disch := omega) only [pe_wi w0, pe_K_wI, pe_K_wR, pe_L_wI, pe_L_wR]; done) | (simp (disch := omega) only [pe_wi w0, pe_K_wI, pe_K_wR, pe_L_wI, pe_L_wR]; assumption)
    exact py_cal 20 yk301 rfl rfl rfl ⟨hrc, by decide⟩ k
def yT302 : List (Nat × Instr × Nat) := [(0, .aload_n 3, 1), (1, .iconst 0, 1), (2, .aload_n 0, 1), (3, .iload_n 1, 1), (4, .iload_n 2, 1), (5, .invokevirtual 7, 3), (8, .lastore, 1), (9, .goto 11, 3), (12, .astore 4, 2), (14, .iconst 1, 1), (15, .ireturn, 1), (16, .astore 4, 2), (18, .iconst 2, 1), (19, .ireturn, 1), (20, .iconst 0, 1), (21, .ireturn, 1)]
theorem yk302 : pe_chk cL_element yT302 = true := by decide +kernel
theorem pb302_0 {d : Nat} {G : pe_S → Prop} {σ : pe_H} {a0 : Nat} {x1 : Int} {x2 : Int} {a3 : Nat} {o4 : Option pe_V}    (k : py_X d 10 false cL_element (5, [some (.inr (.inr a0)), some (.inl x1), some (.inl x2), some (.inr (.inr a3)), o4], [.inl x2, .inl x1, .inr (.inr a0), .inl 0, .inr (.inr a3)], σ) G) : py_X d 10 false cL_element (0, [some (.inr (.inr a0)), some (.inl x1), some (.inl x2), some (.inr (.inr a3)), o4], [], σ) G := by
  refine py_blk 0 5 yk302 [] (5, [some (.inr (.inr a0)), some (.inl x1), some (.inl x2), some (.inr (.inr a3)), o4], [.inl x2, .inl x1, .inr (.inr a0), .inl 0, .inr (.inr a3)], σ) rfl ?_ ?_
  · exact trivial
  · exact k
theorem pb302_8 {d : Nat} {G : pe_S → Prop} {σ : pe_H} {o0 : Option pe_V} {o1 : Option pe_V} {o2 : Option pe_V} {o3 : Option pe_V} {o4 : Option pe_V} {b0 : Nat} {s1 : Int} {z2 : Int}  (w0 : pe_in s1 := by unfold pe_in; omega) (h0 : pe_K σ b0 = 11 := by first | assumption | omega) (h1 : 0 ≤ s1 := by first | assumption | omega) (h2 : s1 < pe_L σ b0 := by first | assumption | omega) (h3 : 2 ≤ b0 := by first | assumption | omega) (k : py_X d 10 false cL_element (20, [o0, o1, o2, o3, o4], [], pe_wI σ b0 s1 z2) G) : py_X d 10 false cL_element (8, [o0, o1, o2, o3, o4], [.inr (.inl z2), .inl s1, .inr (.inr b0)], σ) G := by
  refine py_blk 6 2 yk302 [pe_K σ b0 = 11, 0 ≤ (pe_w s1), (pe_w s1) < pe_L σ b0, 2 ≤ b0] (20, [o0, o1, o2, o3, o4], [], pe_wI σ b0 (pe_w s1) z2) rfl ?_ ?_
  · first
    | (simp (disch := omega) only [pe_all, pe_wi w0, pe_K_wI, pe_K_wR, pe_L_wI, pe_L_wR]; done)
    | (simp (disch := omega) only [pe_all, pe_wi w0, pe_K_wI, pe_K_wR, pe_L_wI, pe_L_wR]; (repeat' apply And.intro) <;> first | assumption | omega | decide)
  · try simp (disch := omega) only [pe_wi w0, pe_K_wI, pe_K_wR, pe_L_wI, pe_L_wR]
    exact k
theorem pb302_14 {d : Nat} {G : pe_S → Prop} {σ : pe_H} {o0 : Option pe_V} {o1 : Option pe_V} {o2 : Option pe_V} {o3 : Option pe_V} {o4 : Option pe_V}    (k : py_X d 10 false cL_element (15, [o0, o1, o2, o3, o4], [.inl 1], σ) G) : py_X d 10 false cL_element (14, [o0, o1, o2, o3, o4], [], σ) G := by
  refine py_blk 9 1 yk302 [] (15, [o0, o1, o2, o3, o4], [.inl 1], σ) rfl ?_ ?_
  · exact trivial
  · exact k
theorem pb302_18 {d : Nat} {G : pe_S → Prop} {σ : pe_H} {o0 : Option pe_V} {o1 : Option pe_V} {o2 : Option pe_V} {o3 : Option pe_V} {o4 : Option pe_V}    (k : py_X d 10 false cL_element (19, [o0, o1, o2, o3, o4], [.inl 2], σ) G) : py_X d 10 false cL_element (18, [o0, o1, o2, o3, o4], [], σ) G := by
  refine py_blk 12 1 yk302 [] (19, [o0, o1, o2, o3, o4], [.inl 2], σ) rfl ?_ ?_
  · exact trivial
  · exact k
theorem pb302_20 {d : Nat} {G : pe_S → Prop} {σ : pe_H} {o0 : Option pe_V} {o1 : Option pe_V} {o2 : Option pe_V} {o3 : Option pe_V} {o4 : Option pe_V}    (k : py_X d 10 false cL_element (21, [o0, o1, o2, o3, o4], [.inl 0], σ) G) : py_X d 10 false cL_element (20, [o0, o1, o2, o3, o4], [], σ) G := by
  refine py_blk 14 1 yk302 [] (21, [o0, o1, o2, o3, o4], [.inl 0], σ) rfl ?_ ?_
  · exact trivial
  · exact k
