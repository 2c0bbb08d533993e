/-! THE MODEL, blocks 1: by program -/
-- finishOf(I)I
def T147 : List (Nat × Instr × Nat) := [(0, .iconst (-1), 1), (1, .istore_n 2, 1), (2, .aload_n 0, 1), (3, .getfield 55, 3), (6, .iload_n 1, 1), (7, .iaload, 1), (8, .iconst 1, 1), (9, .isub, 1), (10, .istore_n 3, 1), (11, .iload_n 3, 1), (12, .aload_n 0, 1), (13, .getfield 58, 3), (16, .iload_n 1, 1), (17, .iaload, 1), (18, .if_icmp .lt 33, 3), (21, .aload_n 0, 1), (22, .getfield 70, 3), (25, .bipush 16, 2), (27, .iload_n 1, 1), (28, .imul, 1), (29, .iload_n 3, 1), (30, .iadd, 1), (31, .iaload, 1), (32, .bipush 102, 2), (34, .if_icmp .ne 9, 3), (37, .iload_n 3, 1), (38, .iconst 1, 1), (39, .iadd, 1), (40, .goto 4, 3), (43, .iload_n 2, 1), (44, .istore_n 2, 1), (45, .iinc 3 (-1), 3), (48, .goto (-37), 3), (51, .aload_n 0, 1), (52, .getfield 64, 3), (55, .iload_n 1, 1), (56, .iaload, 1), (57, .iconst 1, 1), (58, .if_icmp .ne 7, 3), (61, .iconst (-1), 1), (62, .goto 4, 3), (65, .iload_n 2, 1), (66, .ireturn, 1)]
theorem ck147 : pe_ctx 147 9 false (some .int) 4 T147 := ⟨rfl, rfl, rfl, rfl, by decide +kernel, by decide, by decide⟩
theorem b147_0 {d : Nat} {Φ : Option pe_V → pe_H → Prop} {σ : pe_H} {M : Nat} (hF : pm_F M σ) {x1 : Int} {o2 : Option pe_V} {o3 : Option pe_V} (w0 : pe_in x1 := by unfold pe_in; omega) (h0 : 0 ≤ x1 := by first | assumption | omega) (h1 : x1 < 48 := by first | assumption | omega) (k : pe_X d 147 (11, [some (.inr (.inr M)), some (.inl x1), some (.inl (-1)), some (.inl ((pe_I σ (M + 16) x1) - 1))], [], σ) Φ) : pe_X d 147 (0, [some (.inr (.inr M)), some (.inl x1), o2, o3], [], σ) Φ := by
  refine pe_blk 0 9 ck147 [pe_K σ M = 9, pe_K σ (pe_R σ M 16) = 10, 0 ≤ (pe_w x1), (pe_w x1) < pe_L σ (pe_R σ M 16)] (11, [some (.inr (.inr M)), some (.inl x1), some (.inl (-1)), some (.inl ((pe_I σ (pe_R σ M 16) (pe_w x1)) - 1))], [], σ) rfl ?_ ?_
  · first
    | (simp only [pe_all, pe_wi w0, pm_K16 hF, pm_KM hF, pm_L16 hF, pm_R16 hF]; done)
    | (simp only [pe_all, pe_wi w0, pm_K16 hF, pm_KM hF, pm_L16 hF, pm_R16 hF]; (repeat' apply And.intro) <;> first | assumption | omega | decide)
  · try simp only [pe_wi w0, pm_K16 hF, pm_KM hF, pm_L16 hF, pm_R16 hF]
    exact k
theorem b147_11 {d : Nat} {Φ : Option pe_V → pe_H → Prop} {σ : pe_H} {M : Nat} (hF : pm_F M σ) {x1 : Int} {x2 : Int} {x3 : Int} (w0 : pe_in x1 := by unfold pe_in; omega) (w1 : pe_in x3 := by unfold pe_in; omega) (w2 : pe_in (pe_I σ (M + 17) x1) := by unfold pe_in; omega) (h0 : 0 ≤ x1 := by first | assumption | omega) (h1 : x1 < 48 := by first | assumption | omega) (k1 : x3 < (pe_I σ (M + 17) x1) → pe_X d 147 (51, [some (.inr (.inr M)), some (.inl x1), some (.inl x2), some (.inl x3)], [], σ) Φ) (k2 : ¬ (x3 < (pe_I σ (M + 17) x1)) → pe_X d 147 (21, [some (.inr (.inr M)), some (.inl x1), some (.inl x2), some (.inl x3)], [], σ) Φ) : pe_X d 147 (11, [some (.inr (.inr M)), some (.inl x1), some (.inl x2), some (.inl x3)], [], σ) Φ := by
  refine pe_blk 9 6 ck147 [pe_K σ M = 9, pe_K σ (pe_R σ M 17) = 10, 0 ≤ (pe_w x1), (pe_w x1) < pe_L σ (pe_R σ M 17)] (cond (decide ((pe_w x3) < (pe_w (pe_I σ (pe_R σ M 17) (pe_w x1))))) 51 21, [some (.inr (.inr M)), some (.inl x1), some (.inl x2), some (.inl x3)], [], σ) rfl ?_ ?_
  · first
    | (simp only [pe_all, pe_wi w0, pe_wi w1, pe_wi w2, pm_K17 hF, pm_KM hF, pm_L17 hF, pm_R17 hF]; done)
    | (simp only [pe_all, pe_wi w0, pe_wi w1, pe_wi w2, pm_K17 hF, pm_KM hF, pm_L17 hF, pm_R17 hF]; (repeat' apply And.intro) <;> first | assumption | omega | decide)
  · try simp only [pe_wi w0, pe_wi w1, pe_wi w2, pm_K17 hF, pm_KM hF, pm_L17 hF, pm_R17 hF]
    exact pe_two k1 k2
theorem b147_21 {d : Nat} {Φ : Option pe_V → pe_H → Prop} {σ : pe_H} {M : Nat} (hF : pm_F M σ) {x1 : Int} {x2 : Int} {x3 : Int} (w0 : pe_in ((16 * x1) + x3) := by unfold pe_in; omega) (w1 : pe_in (pe_I σ (M + 21) ((16 * x1) + x3)) := by unfold pe_in; omega) (h0 : 0 ≤ ((16 * x1) + x3) := by first | assumption | omega) (h1 : ((16 * x1) + x3) < 768 := by first | assumption | omega) (k1 : ¬ (pe_I σ (M + 21) ((16 * x1) + x3)) = 102 → pe_X d 147 (43, [some (.inr (.inr M)), some (.inl x1), some (.inl x2), some (.inl x3)], [], σ) Φ) (k2 : (pe_I σ (M + 21) ((16 * x1) + x3)) = 102 → pe_X d 147 (37, [some (.inr (.inr M)), some (.inl x1), some (.inl x2), some (.inl x3)], [], σ) Φ) : pe_X d 147 (21, [some (.inr (.inr M)), some (.inl x1), some (.inl x2), some (.inl x3)], [], σ) Φ := by
  refine pe_blk 15 10 ck147 [pe_K σ M = 9, pe_K σ (pe_R σ M 21) = 10, 0 ≤ (pe_w ((16 * x1) + x3)), (pe_w ((16 * x1) + x3)) < pe_L σ (pe_R σ M 21)] (cond (decide (¬ (pe_w (pe_I σ (pe_R σ M 21) (pe_w ((16 * x1) + x3)))) = (pe_w 102))) 43 37, [some (.inr (.inr M)), some (.inl x1), some (.inl x2), some (.inl x3)], [], σ) rfl ?_ ?_
  · first
    | (simp only [pe_all, pe_wi w0, pe_wi w1, pe_wi (x := 102) ⟨by decide, by decide⟩, pm_K21 hF, pm_KM hF, pm_L21 hF, pm_R21 hF]; done)
    | (simp only [pe_all, pe_wi w0, pe_wi w1, pe_wi (x := 102) ⟨by decide, by decide⟩, pm_K21 hF, pm_KM hF, pm_L21 hF, pm_R21 hF]; (repeat' apply And.intro) <;> first | assumption | omega | decide)
  · try simp only [pe_wi w0, pe_wi w1, pe_wi (x := 102) ⟨by decide, by decide⟩, pm_K21 hF, pm_KM hF, pm_L21 hF, pm_R21 hF]
    exact pe_two' k1 k2
theorem b147_37 {d : Nat} {Φ : Option pe_V → pe_H → Prop} {σ : pe_H} {M : Nat} (hF : pm_F M σ) {x1 : Int} {o2 : Option pe_V} {x3 : Int}   (k : pe_X d 147 (44, [some (.inr (.inr M)), some (.inl x1), o2, some (.inl x3)], [.inl (x3 + 1)], σ) Φ) : pe_X d 147 (37, [some (.inr (.inr M)), some (.inl x1), o2, some (.inl x3)], [], σ) Φ := by
  refine pe_blk 25 4 ck147 [] (44, [some (.inr (.inr M)), some (.inl x1), o2, some (.inl x3)], [.inl (x3 + 1)], σ) rfl ?_ ?_
  · exact trivial
  · exact k
theorem b147_43 {d : Nat} {Φ : Option pe_V → pe_H → Prop} {σ : pe_H} {M : Nat} (hF : pm_F M σ) {x1 : Int} {x2 : Int} {x3 : Int}   (k : pe_X d 147 (44, [some (.inr (.inr M)), some (.inl x1), some (.inl x2), some (.inl x3)], [.inl x2], σ) Φ) : pe_X d 147 (43, [some (.inr (.inr M)), some (.inl x1), some (.inl x2), some (.inl x3)], [], σ) Φ := by
  refine pe_blk 29 1 ck147 [] (44, [some (.inr (.inr M)), some (.inl x1), some (.inl x2), some (.inl x3)], [.inl x2], σ) rfl ?_ ?_
  · exact trivial
  · exact k
theorem b147_44 {d : Nat} {Φ : Option pe_V → pe_H → Prop} {σ : pe_H} {M : Nat} (hF : pm_F M σ) {x1 : Int} {o2 : Option pe_V} {x3 : Int} {s0 : Int}   (k : pe_X d 147 (11, [some (.inr (.inr M)), some (.inl x1), some (.inl s0), some (.inl (x3 + (-1)))], [], σ) Φ) : pe_X d 147 (44, [some (.inr (.inr M)), some (.inl x1), o2, some (.inl x3)], [.inl s0], σ) Φ := by
  refine pe_blk 30 3 ck147 [] (11, [some (.inr (.inr M)), some (.inl x1), some (.inl s0), some (.inl (x3 + (-1)))], [], σ) rfl ?_ ?_
  · exact trivial
  · exact k
theorem b147_51 {d : Nat} {Φ : Option pe_V → pe_H → Prop} {σ : pe_H} {M : Nat} (hF : pm_F M σ) {x1 : Int} {x2 : Int} {o3 : Option pe_V} (w0 : pe_in x1 := by unfold pe_in; omega) (w1 : pe_in (pe_I σ (M + 19) x1) := by unfold pe_in; omega) (h0 : 0 ≤ x1 := by first | assumption | omega) (h1 : x1 < 48 := by first | assumption | omega) (k1 : ¬ (pe_I σ (M + 19) x1) = 1 → pe_X d 147 (65, [some (.inr (.inr M)), some (.inl x1), some (.inl x2), o3], [], σ) Φ) (k2 : (pe_I σ (M + 19) x1) = 1 → pe_X d 147 (61, [some (.inr (.inr M)), some (.inl x1), some (.inl x2), o3], [], σ) Φ) : pe_X d 147 (51, [some (.inr (.inr M)), some (.inl x1), some (.inl x2), o3], [], σ) Φ := by
  refine pe_blk 33 6 ck147 [pe_K σ M = 9, pe_K σ (pe_R σ M 19) = 10, 0 ≤ (pe_w x1), (pe_w x1) < pe_L σ (pe_R σ M 19)] (cond (decide (¬ (pe_w (pe_I σ (pe_R σ M 19) (pe_w x1))) = (pe_w 1))) 65 61, [some (.inr (.inr M)), some (.inl x1), some (.inl x2), o3], [], σ) rfl ?_ ?_
  · first
    | (simp only [pe_all, pe_wi w0, pe_wi w1, pe_wi (x := 1) ⟨by decide, by decide⟩, pm_K19 hF, pm_KM hF, pm_L19 hF, pm_R19 hF]; done)
    | (simp only [pe_all, pe_wi w0, pe_wi w1, pe_wi (x := 1) ⟨by decide, by decide⟩, pm_K19 hF, pm_KM hF, pm_L19 hF, pm_R19 hF]; (repeat' apply And.intro) <;> first | assumption | omega | decide)
  · try simp only [pe_wi w0, pe_wi w1, pe_wi (x := 1) ⟨by decide, by decide⟩, pm_K19 hF, pm_KM hF, pm_L19 hF, pm_R19 hF]
    exact pe_two' k1 k2
theorem b147_61 {d : Nat} {Φ : Option pe_V → pe_H → Prop} {σ : pe_H} {M : Nat} (hF : pm_F M σ) {o1 : Option pe_V} {o2 : Option pe_V} {o3 : Option pe_V}   (k : pe_X d 147 (66, [some (.inr (.inr M)), o1, o2, o3], [.inl (-1)], σ) Φ) : pe_X d 147 (61, [some (.inr (.inr M)), o1, o2, o3], [], σ) Φ := by
  refine pe_blk 39 2 ck147 [] (66, [some (.inr (.inr M)), o1, o2, o3], [.inl (-1)], σ) rfl ?_ ?_
  · exact trivial
  · exact k
theorem b147_65 {d : Nat} {Φ : Option pe_V → pe_H → Prop} {σ : pe_H} {M : Nat} (hF : pm_F M σ) {o1 : Option pe_V} {x2 : Int} {o3 : Option pe_V}   (k : pe_X d 147 (66, [some (.inr (.inr M)), o1, some (.inl x2), o3], [.inl x2], σ) Φ) : pe_X d 147 (65, [some (.inr (.inr M)), o1, some (.inl x2), o3], [], σ) Φ := by
  refine pe_blk 41 1 ck147 [] (66, [some (.inr (.inr M)), o1, some (.inl x2), o3], [.inl x2], σ) rfl ?_ ?_
  · exact trivial
  · exact k
theorem b147_66 {d : Nat} {Φ : Option pe_V → pe_H → Prop} {σ : pe_H} {M : Nat} (hF : pm_F M σ) {o1 : Option pe_V} {o2 : Option pe_V} {o3 : Option pe_V} {s0 : Int}   (k : Φ (some (.inl s0)) σ) : pe_X d 147 (66, [some (.inr (.inr M)), o1, o2, o3], [.inl s0], σ) Φ := by
  exact pe_fine 42 ck147 rfl rfl rfl trivial k
