/-! THE MODEL, blocks 3: by program -/
-- StepMachinesModel.doneBut(I)I
def T209 : List (Nat × Instr × Nat) := [(0, .iconst 0, 1), (1, .istore_n 2, 1), (2, .iconst 0, 1), (3, .istore_n 3, 1), (4, .iload_n 3, 1), (5, .aload_n 0, 1), (6, .getfield 144, 3), (9, .if_icmp .ge 33, 3), (12, .iload_n 2, 1), (13, .iload_n 3, 1), (14, .iload_n 1, 1), (15, .if_icmp .eq 18, 3), (18, .aload_n 0, 1), (19, .getfield 28, 3), (22, .iload_n 3, 1), (23, .iaload, 1), (24, .bipush 6, 2), (26, .if_icmp .ne 7, 3), (29, .iconst 1, 1), (30, .goto 4, 3), (33, .iconst 0, 1), (34, .iadd, 1), (35, .istore_n 2, 1), (36, .iinc 3 1, 3), (39, .goto (-35), 3), (42, .iload_n 2, 1), (43, .ireturn, 1)]
theorem ck209 : pe_ctx 209 9 false (some .int) 4 T209 := ⟨rfl, rfl, rfl, rfl, by decide +kernel, by decide, by decide⟩
theorem b209_0 {d : Nat} {Φ : Option pe_V → pe_H → Prop} {σ : pe_H} {M q : Nat} {y : Nat → Int → Int} (hF : pm_F M σ) {x1 : Int} {o2 : Option pe_V} {o3 : Option pe_V}    (k : pe_X d 209 (4, [some (.inr (.inr M)), some (.inl x1), some (.inl 0), some (.inl 0)], [], pm_h M σ q y) Φ) : pe_X d 209 (0, [some (.inr (.inr M)), some (.inl x1), o2, o3], [], pm_h M σ q y) Φ := by
  refine pe_blk 0 4 ck209 [] (4, [some (.inr (.inr M)), some (.inl x1), some (.inl 0), some (.inl 0)], [], pm_h M σ q y) rfl ?_ ?_
  · exact trivial
  · exact k
theorem b209_4 {d : Nat} {Φ : Option pe_V → pe_H → Prop} {σ : pe_H} {M q : Nat} {y : Nat → Int → Int} (hF : pm_F M σ) {x1 : Int} {x2 : Int} {x3 : Int}  (w0 : pe_in (y 0 3) := by unfold pe_in; omega) (w1 : pe_in x3 := by unfold pe_in; omega)  (k1 : (y 0 3) ≤ x3 → pe_X d 209 (42, [some (.inr (.inr M)), some (.inl x1), some (.inl x2), some (.inl x3)], [], pm_h M σ q y) Φ) (k2 : ¬ ((y 0 3) ≤ x3) → pe_X d 209 (12, [some (.inr (.inr M)), some (.inl x1), some (.inl x2), some (.inl x3)], [], pm_h M σ q y) Φ) : pe_X d 209 (4, [some (.inr (.inr M)), some (.inl x1), some (.inl x2), some (.inl x3)], [], pm_h M σ q y) Φ := by
  refine pe_blk 4 4 ck209 [pe_K (pm_h M σ q y) M = 9] (cond (decide ((pe_w (pe_I (pm_h M σ q y) M 3)) ≤ (pe_w x3))) 42 12, [some (.inr (.inr M)), some (.inl x1), some (.inl x2), some (.inl x3)], [], pm_h M σ q y) rfl ?_ ?_
  · first
    | (simp (disch := omega) only [pe_all, pe_wi w0, pe_wi w1, pe_I_wR, pe_K_wI, pe_K_wR, pm_I0, pm_KM hF, pm_Kh, pm_uj, pm_uk, pm_us]; done)
    | (simp (disch := omega) only [pe_all, pe_wi w0, pe_wi w1, pe_I_wR, pe_K_wI, pe_K_wR, pm_I0, pm_KM hF, pm_Kh, pm_uj, pm_uk, pm_us]; (repeat' apply And.intro) <;> first | assumption | omega | decide)
  · try simp (disch := omega) only [pe_wi w0, pe_wi w1, pe_I_wR, pe_K_wI, pe_K_wR, pm_I0, pm_KM hF, pm_Kh, pm_uj, pm_uk, pm_us]
    exact pe_two k1 k2
theorem b209_12 {d : Nat} {Φ : Option pe_V → pe_H → Prop} {σ : pe_H} {M q : Nat} {y : Nat → Int → Int} (hF : pm_F M σ) {x1 : Int} {x2 : Int} {x3 : Int}  (w0 : pe_in x1 := by unfold pe_in; omega) (w1 : pe_in x3 := by unfold pe_in; omega)  (k1 : x3 = x1 → pe_X d 209 (33, [some (.inr (.inr M)), some (.inl x1), some (.inl x2), some (.inl x3)], [.inl x2], pm_h M σ q y) Φ) (k2 : ¬ (x3 = x1) → pe_X d 209 (18, [some (.inr (.inr M)), some (.inl x1), some (.inl x2), some (.inl x3)], [.inl x2], pm_h M σ q y) Φ) : pe_X d 209 (12, [some (.inr (.inr M)), some (.inl x1), some (.inl x2), some (.inl x3)], [], pm_h M σ q y) Φ := by
  refine pe_blk 8 4 ck209 [] (cond (decide ((pe_w x3) = (pe_w x1))) 33 18, [some (.inr (.inr M)), some (.inl x1), some (.inl x2), some (.inl x3)], [.inl x2], pm_h M σ q y) rfl ?_ ?_
  · exact trivial
  · try simp (disch := omega) only [pe_wi w0, pe_wi w1]
    exact pe_two k1 k2
theorem b209_18 {d : Nat} {Φ : Option pe_V → pe_H → Prop} {σ : pe_H} {M q : Nat} {y : Nat → Int → Int} (hF : pm_F M σ) {x1 : Int} {o2 : Option pe_V} {x3 : Int} {s0 : Int}  (w0 : pe_in x3 := by unfold pe_in; omega) (w1 : pe_in (y 7 x3) := by unfold pe_in; omega) (h0 : 0 ≤ x3 := by first | assumption | omega) (h1 : x3 < 8 := by first | assumption | omega) (k1 : ¬ (y 7 x3) = 6 → pe_X d 209 (33, [some (.inr (.inr M)), some (.inl x1), o2, some (.inl x3)], [.inl s0], pm_h M σ q y) Φ) (k2 : (y 7 x3) = 6 → pe_X d 209 (29, [some (.inr (.inr M)), some (.inl x1), o2, some (.inl x3)], [.inl s0], pm_h M σ q y) Φ) : pe_X d 209 (18, [some (.inr (.inr M)), some (.inl x1), o2, some (.inl x3)], [.inl s0], pm_h M σ q y) Φ := by
  refine pe_blk 12 6 ck209 [pe_K (pm_h M σ q y) M = 9, pe_K (pm_h M σ q y) (pe_R (pm_h M σ q y) M 7) = 10, 0 ≤ (pe_w x3), (pe_w x3) < pe_L (pm_h M σ q y) (pe_R (pm_h M σ q y) M 7)] (cond (decide (¬ (pe_w (pe_I (pm_h M σ q y) (pe_R (pm_h M σ q y) M 7) (pe_w x3))) = (pe_w 6))) 33 29, [some (.inr (.inr M)), some (.inl x1), o2, some (.inl x3)], [.inl s0], pm_h M σ q y) rfl ?_ ?_
  · first
    | (simp (disch := omega) only [pe_all, pe_wi w0, pe_wi w1, pe_wi (x := 6) ⟨by decide, by decide⟩, pe_I_wR, pe_K_wI, pe_K_wR, pe_L_wI, pe_L_wR, pe_R_nej, pe_R_wI, pm_Ik, pm_K7 hF, pm_KM hF, pm_Kh, pm_L7 hF, pm_Lh, pm_R7 hF, pm_Rh, pm_uj, pm_uk, pm_us]; done)
    | (simp (disch := omega) only [pe_all, pe_wi w0, pe_wi w1, pe_wi (x := 6) ⟨by decide, by decide⟩, pe_I_wR, pe_K_wI, pe_K_wR, pe_L_wI, pe_L_wR, pe_R_nej, pe_R_wI, pm_Ik, pm_K7 hF, pm_KM hF, pm_Kh, pm_L7 hF, pm_Lh, pm_R7 hF, pm_Rh, pm_uj, pm_uk, pm_us]; (repeat' apply And.intro) <;> first | assumption | omega | decide)
  · try simp (disch := omega) only [pe_wi w0, pe_wi w1, pe_wi (x := 6) ⟨by decide, by decide⟩, pe_I_wR, pe_K_wI, pe_K_wR, pe_L_wI, pe_L_wR, pe_R_nej, pe_R_wI, pm_Ik, pm_K7 hF, pm_KM hF, pm_Kh, pm_L7 hF, pm_Lh, pm_R7 hF, pm_Rh, pm_uj, pm_uk, pm_us]
    exact pe_two' k1 k2
theorem b209_29 {d : Nat} {Φ : Option pe_V → pe_H → Prop} {σ : pe_H} {M q : Nat} {y : Nat → Int → Int} (hF : pm_F M σ) {x1 : Int} {o2 : Option pe_V} {x3 : Int} {s0 : Int}    (k : pe_X d 209 (34, [some (.inr (.inr M)), some (.inl x1), o2, some (.inl x3)], [.inl 1, .inl s0], pm_h M σ q y) Φ) : pe_X d 209 (29, [some (.inr (.inr M)), some (.inl x1), o2, some (.inl x3)], [.inl s0], pm_h M σ q y) Φ := by
  refine pe_blk 18 2 ck209 [] (34, [some (.inr (.inr M)), some (.inl x1), o2, some (.inl x3)], [.inl 1, .inl s0], pm_h M σ q y) rfl ?_ ?_
  · exact trivial
  · exact k
theorem b209_33 {d : Nat} {Φ : Option pe_V → pe_H → Prop} {σ : pe_H} {M q : Nat} {y : Nat → Int → Int} (hF : pm_F M σ) {x1 : Int} {o2 : Option pe_V} {x3 : Int} {s0 : Int}    (k : pe_X d 209 (34, [some (.inr (.inr M)), some (.inl x1), o2, some (.inl x3)], [.inl 0, .inl s0], pm_h M σ q y) Φ) : pe_X d 209 (33, [some (.inr (.inr M)), some (.inl x1), o2, some (.inl x3)], [.inl s0], pm_h M σ q y) Φ := by
  refine pe_blk 20 1 ck209 [] (34, [some (.inr (.inr M)), some (.inl x1), o2, some (.inl x3)], [.inl 0, .inl s0], pm_h M σ q y) rfl ?_ ?_
  · exact trivial
  · exact k
theorem b209_34 {d : Nat} {Φ : Option pe_V → pe_H → Prop} {σ : pe_H} {M q : Nat} {y : Nat → Int → Int} (hF : pm_F M σ) {x1 : Int} {o2 : Option pe_V} {x3 : Int} {s0 : Int} {s1 : Int}    (k : pe_X d 209 (4, [some (.inr (.inr M)), some (.inl x1), some (.inl (s0 + s1)), some (.inl (x3 + 1))], [], pm_h M σ q y) Φ) : pe_X d 209 (34, [some (.inr (.inr M)), some (.inl x1), o2, some (.inl x3)], [.inl s1, .inl s0], pm_h M σ q y) Φ := by
  refine pe_blk 21 4 ck209 [] (4, [some (.inr (.inr M)), some (.inl x1), some (.inl (s0 + s1)), some (.inl (x3 + 1))], [], pm_h M σ q y) rfl ?_ ?_
  · exact trivial
  · exact k
theorem b209_42 {d : Nat} {Φ : Option pe_V → pe_H → Prop} {σ : pe_H} {M q : Nat} {y : Nat → Int → Int} (hF : pm_F M σ) {o1 : Option pe_V} {x2 : Int} {o3 : Option pe_V}    (k : Φ (some (.inl x2)) (pm_h M σ q y)) : pe_X d 209 (42, [some (.inr (.inr M)), o1, some (.inl x2), o3], [], pm_h M σ q y) Φ := by
  refine pe_blk 25 1 ck209 [] (43, [some (.inr (.inr M)), o1, some (.inl x2), o3], [.inl x2], pm_h M σ q y) rfl ?_ ?_
  · exact trivial
  · exact pe_fine 26 ck209 rfl rfl rfl trivial k
-- StepMachinesModel.closeBest(I)I
def T210 : List (Nat × Instr × Nat) := [(0, .aload_n 0, 1), (1, .iconst 0, 1), (2, .putfield 141, 3), (5, .iload_n 1, 1), (6, .i2l, 1), (7, .lconst 0, 1), (8, .ldc2_w 401, 3), (11, .invokestatic 147, 3), (14, .ifCond .ne 5, 3), (17, .iconst (-1), 1), (18, .ireturn, 1), (19, .bipush (-4), 2), (21, .istore_n 2, 1), (22, .iconst (-1), 1), (23, .istore_n 3, 1), (24, .aload_n 0, 1), (25, .invokevirtual 338, 3), (28, .iconst 0, 1), (29, .istore 4, 2), (31, .iload 4, 2), (33, .aload_n 0, 1), (34, .getfield 144, 3), (37, .if_icmp .ge 98, 3), (40, .aload_n 0, 1), (41, .iload 4, 2), (43, .invokevirtual 151, 3), (46, .ifCond .ne 83, 3), (49, .aload_n 0, 1), (50, .iload_n 1, 1), (51, .invokevirtual 311, 3), (54, .aload_n 0, 1), (55, .iload 4, 2), (57, .invokevirtual 403, 3), (60, .istore 5, 2), (62, .aload_n 0, 1), (63, .invokevirtual 344, 3), (66, .aload_n 0, 1), (67, .iload 4, 2), (69, .invokevirtual 306, 3), (72, .aload_n 0, 1), (73, .iload_n 1, 1), (74, .invokevirtual 311, 3), (77, .aload_n 0, 1), (78, .iload 4, 2), (80, .invokevirtual 403, 3), (83, .istore 6, 2), (85, .aload_n 0, 1), (86, .invokevirtual 344, 3), (89, .iload 6, 2), (91, .iload 5, 2), (93, .if_icmp .le 14, 3), (96, .iload 6, 2), (98, .iload_n 3, 1), (99, .if_icmp .le 8, 3), (102, .iload 4, 2), (104, .goto 4, 3), (107, .iload_n 2, 1), (108, .istore_n 2, 1), (109, .iload 6, 2), (111, .iload 5, 2), (113, .if_icmp .le 14, 3), (116, .iload 6, 2), (118, .iload_n 3, 1), (119, .if_icmp .le 8, 3), (122, .iload 6, 2), (124, .goto 4, 3), (127, .iload_n 3, 1), (128, .istore_n 3, 1), (129, .iinc 4 1, 3), (132, .goto (-101), 3), (135, .iload_n 2, 1), (136, .ireturn, 1)]
theorem ck210 : pe_ctx 210 9 false (some .int) 7 T210 := ⟨rfl, rfl, rfl, rfl, by decide +kernel, by decide, by decide⟩
theorem b210_0 {d : Nat} {Φ : Option pe_V → pe_H → Prop} {σ : pe_H} {M q : Nat} {y : Nat → Int → Int} (hF : pm_F M σ) {x1 : Int} {o2 : Option pe_V} {o3 : Option pe_V} {o4 : Option pe_V} {o5 : Option pe_V} {o6 : Option pe_V}  (w0 : pe_in x1 := by unfold pe_in; omega)  (k : pe_M d 134 [.inr (.inl x1), .inr (.inl 0), .inr (.inl 40)] (pm_h M σ q (pm_u y 0 37 0)) (fun r σ' => pe_X d 210 (14, [some (.inr (.inr M)), some (.inl x1), o2, o3, o4, o5, o6], r.toList ++ [], σ') Φ)) : pe_X d 210 (0, [some (.inr (.inr M)), some (.inl x1), o2, o3, o4, o5, o6], [], pm_h M σ q y) Φ := by
  refine pe_blk 0 7 ck210 [pe_K (pm_h M σ q y) M = 9] (11, [some (.inr (.inr M)), some (.inl x1), o2, o3, o4, o5, o6], [.inr (.inl 40), .inr (.inl 0), .inr (.inl (pe_w x1))], pe_wI (pm_h M σ q y) M 37 0) rfl ?_ ?_
  · first
    | (simp (disch := omega) only [pe_all, pe_wi w0, pe_K_wI, pe_K_wR, pm_KM hF, pm_Kh, pm_wI0]; done)
    | (simp (disch := omega) only [pe_all, pe_wi w0, pe_K_wI, pe_K_wR, pm_KM hF, pm_Kh, pm_wI0]; (repeat' apply And.intro) <;> first | assumption | omega | decide)
  · try simp (disch := omega) only [pe_wi w0, pe_K_wI, pe_K_wR, pm_KM hF, pm_Kh, pm_wI0]
    exact pe_cal 7 ck210 rfl rfl rfl trivial k
theorem b210_14 {d : Nat} {Φ : Option pe_V → pe_H → Prop} {σ : pe_H} {M q : Nat} {y : Nat → Int → Int} (hF : pm_F M σ) {x1 : Int} {o2 : Option pe_V} {o3 : Option pe_V} {o4 : Option pe_V} {o5 : Option pe_V} {o6 : Option pe_V} {s0 : Int}  (w0 : pe_in s0 := by unfold pe_in; omega)  (k1 : ¬ s0 = 0 → pe_X d 210 (19, [some (.inr (.inr M)), some (.inl x1), o2, o3, o4, o5, o6], [], pm_h M σ q y) Φ) (k2 : s0 = 0 → pe_X d 210 (17, [some (.inr (.inr M)), some (.inl x1), o2, o3, o4, o5, o6], [], pm_h M σ q y) Φ) : pe_X d 210 (14, [some (.inr (.inr M)), some (.inl x1), o2, o3, o4, o5, o6], [.inl s0], pm_h M σ q y) Φ := by
  refine pe_blk 8 1 ck210 [] (cond (decide (¬ (pe_w s0) = 0)) 19 17, [some (.inr (.inr M)), some (.inl x1), o2, o3, o4, o5, o6], [], pm_h M σ q y) rfl ?_ ?_
  · exact trivial
  · try simp (disch := omega) only [pe_wi w0]
    exact pe_two' k1 k2
theorem b210_17 {d : Nat} {Φ : Option pe_V → pe_H → Prop} {σ : pe_H} {M q : Nat} {y : Nat → Int → Int} (hF : pm_F M σ) {o1 : Option pe_V} {o2 : Option pe_V} {o3 : Option pe_V} {o4 : Option pe_V} {o5 : Option pe_V} {o6 : Option pe_V}    (k : Φ (some (.inl (-1))) (pm_h M σ q y)) : pe_X d 210 (17, [some (.inr (.inr M)), o1, o2, o3, o4, o5, o6], [], pm_h M σ q y) Φ := by
  refine pe_blk 9 1 ck210 [] (18, [some (.inr (.inr M)), o1, o2, o3, o4, o5, o6], [.inl (-1)], pm_h M σ q y) rfl ?_ ?_
  · exact trivial
  · exact pe_fine 10 ck210 rfl rfl rfl trivial k
theorem b210_19 {d : Nat} {Φ : Option pe_V → pe_H → Prop} {σ : pe_H} {M q : Nat} {y : Nat → Int → Int} (hF : pm_F M σ) {x1 : Int} {o2 : Option pe_V} {o3 : Option pe_V} {o4 : Option pe_V} {o5 : Option pe_V} {o6 : Option pe_V}    (k : pe_M d 187 [.inr (.inr M)] (pm_h M σ q y) (fun r σ' => pe_X d 210 (28, [some (.inr (.inr M)), some (.inl x1), some (.inl (-4)), some (.inl (-1)), o4, o5, o6], r.toList ++ [], σ') Φ)) : pe_X d 210 (19, [some (.inr (.inr M)), some (.inl x1), o2, o3, o4, o5, o6], [], pm_h M σ q y) Φ := by
  refine pe_blk 11 5 ck210 [] (25, [some (.inr (.inr M)), some (.inl x1), some (.inl (-4)), some (.inl (-1)), o4, o5, o6], [.inr (.inr M)], pm_h M σ q y) rfl ?_ ?_
  · exact trivial
  · try simp (disch := omega) only [pe_K_wI, pe_K_wR, pm_KM hF, pm_Kh]
    have hrc : pe_K (pm_h M σ q y) M = 9 := by first | assumption | (simp (disch := omega) only [pe_K_wI, pe_K_wR, pm_KM hF, pm_Kh]; done) | (simp (disch := omega) only [pe_K_wI, pe_K_wR, pm_KM hF, pm_Kh]; assumption)
    exact pe_cal 16 ck210 rfl rfl rfl ⟨hrc, by decide⟩ k
theorem b210_28 {d : Nat} {Φ : Option pe_V → pe_H → Prop} {σ : pe_H} {M q : Nat} {y : Nat → Int → Int} (hF : pm_F M σ) {x1 : Int} {x2 : Int} {x3 : Int} {o4 : Option pe_V} {o5 : Option pe_V} {o6 : Option pe_V}    (k : pe_X d 210 (31, [some (.inr (.inr M)), some (.inl x1), some (.inl x2), some (.inl x3), some (.inl 0), o5, o6], [], pm_h M σ q y) Φ) : pe_X d 210 (28, [some (.inr (.inr M)), some (.inl x1), some (.inl x2), some (.inl x3), o4, o5, o6], [], pm_h M σ q y) Φ := by
  refine pe_blk 17 2 ck210 [] (31, [some (.inr (.inr M)), some (.inl x1), some (.inl x2), some (.inl x3), some (.inl 0), o5, o6], [], pm_h M σ q y) rfl ?_ ?_
  · exact trivial
  · exact k
theorem b210_31 {d : Nat} {Φ : Option pe_V → pe_H → Prop} {σ : pe_H} {M q : Nat} {y : Nat → Int → Int} (hF : pm_F M σ) {x1 : Int} {x2 : Int} {x3 : Int} {x4 : Int} {o5 : Option pe_V} {o6 : Option pe_V}  (w0 : pe_in (y 0 3) := by unfold pe_in; omega) (w1 : pe_in x4 := by unfold pe_in; omega)  (k1 : (y 0 3) ≤ x4 → pe_X d 210 (135, [some (.inr (.inr M)), some (.inl x1), some (.inl x2), some (.inl x3), some (.inl x4), o5, o6], [], pm_h M σ q y) Φ) (k2 : ¬ ((y 0 3) ≤ x4) → pe_X d 210 (40, [some (.inr (.inr M)), some (.inl x1), some (.inl x2), some (.inl x3), some (.inl x4), o5, o6], [], pm_h M σ q y) Φ) : pe_X d 210 (31, [some (.inr (.inr M)), some (.inl x1), some (.inl x2), some (.inl x3), some (.inl x4), o5, o6], [], pm_h M σ q y) Φ := by
  refine pe_blk 19 4 ck210 [pe_K (pm_h M σ q y) M = 9] (cond (decide ((pe_w (pe_I (pm_h M σ q y) M 3)) ≤ (pe_w x4))) 135 40, [some (.inr (.inr M)), some (.inl x1), some (.inl x2), some (.inl x3), some (.inl x4), o5, o6], [], pm_h M σ q y) rfl ?_ ?_
  · first
    | (simp (disch := omega) only [pe_all, pe_wi w0, pe_wi w1, pe_I_wR, pe_K_wI, pe_K_wR, pm_I0, pm_KM hF, pm_Kh, pm_uj, pm_uk, pm_us]; done)
    | (simp (disch := omega) only [pe_all, pe_wi w0, pe_wi w1, pe_I_wR, pe_K_wI, pe_K_wR, pm_I0, pm_KM hF, pm_Kh, pm_uj, pm_uk, pm_us]; (repeat' apply And.intro) <;> first | assumption | omega | decide)
  · try simp (disch := omega) only [pe_wi w0, pe_wi w1, pe_I_wR, pe_K_wI, pe_K_wR, pm_I0, pm_KM hF, pm_Kh, pm_uj, pm_uk, pm_us]
    exact pe_two k1 k2
theorem b210_40 {d : Nat} {Φ : Option pe_V → pe_H → Prop} {σ : pe_H} {M q : Nat} {y : Nat → Int → Int} (hF : pm_F M σ) {x1 : Int} {x2 : Int} {x3 : Int} {x4 : Int} {o5 : Option pe_V} {o6 : Option pe_V}    (k : pe_M d 139 [.inr (.inr M), .inl x4] (pm_h M σ q y) (fun r σ' => pe_X d 210 (46, [some (.inr (.inr M)), some (.inl x1), some (.inl x2), some (.inl x3), some (.inl x4), o5, o6], r.toList ++ [], σ') Φ)) : pe_X d 210 (40, [some (.inr (.inr M)), some (.inl x1), some (.inl x2), some (.inl x3), some (.inl x4), o5, o6], [], pm_h M σ q y) Φ := by
  refine pe_blk 23 2 ck210 [] (43, [some (.inr (.inr M)), some (.inl x1), some (.inl x2), some (.inl x3), some (.inl x4), o5, o6], [.inl x4, .inr (.inr M)], pm_h M σ q y) rfl ?_ ?_
  · exact trivial
  · try simp (disch := omega) only [pe_K_wI, pe_K_wR, pm_KM hF, pm_Kh]
    have hrc : pe_K (pm_h M σ q y) M = 9 := by first | assumption | (simp (disch := omega) only [pe_K_wI, pe_K_wR, pm_KM hF, pm_Kh]; done) | (simp (disch := omega) only [pe_K_wI, pe_K_wR, pm_KM hF, pm_Kh]; assumption)
    exact pe_cal 25 ck210 rfl rfl rfl ⟨hrc, by decide⟩ k
theorem b210_46 {d : Nat} {Φ : Option pe_V → pe_H → Prop} {σ : pe_H} {M q : Nat} {y : Nat → Int → Int} (hF : pm_F M σ) {x1 : Int} {x2 : Int} {x3 : Int} {x4 : Int} {o5 : Option pe_V} {o6 : Option pe_V} {s0 : Int}  (w0 : pe_in s0 := by unfold pe_in; omega)  (k1 : ¬ s0 = 0 → pe_X d 210 (129, [some (.inr (.inr M)), some (.inl x1), some (.inl x2), some (.inl x3), some (.inl x4), o5, o6], [], pm_h M σ q y) Φ) (k2 : s0 = 0 → pe_X d 210 (49, [some (.inr (.inr M)), some (.inl x1), some (.inl x2), some (.inl x3), some (.inl x4), o5, o6], [], pm_h M σ q y) Φ) : pe_X d 210 (46, [some (.inr (.inr M)), some (.inl x1), some (.inl x2), some (.inl x3), some (.inl x4), o5, o6], [.inl s0], pm_h M σ q y) Φ := by
  refine pe_blk 26 1 ck210 [] (cond (decide (¬ (pe_w s0) = 0)) 129 49, [some (.inr (.inr M)), some (.inl x1), some (.inl x2), some (.inl x3), some (.inl x4), o5, o6], [], pm_h M σ q y) rfl ?_ ?_
  · exact trivial
  · try simp (disch := omega) only [pe_wi w0]
    exact pe_two' k1 k2
theorem b210_49 {d : Nat} {Φ : Option pe_V → pe_H → Prop} {σ : pe_H} {M q : Nat} {y : Nat → Int → Int} (hF : pm_F M σ) {x1 : Int} {x2 : Int} {x3 : Int} {x4 : Int} {o5 : Option pe_V} {o6 : Option pe_V}    (k : pe_M d 170 [.inr (.inr M), .inl x1] (pm_h M σ q y) (fun r σ' => pe_X d 210 (54, [some (.inr (.inr M)), some (.inl x1), some (.inl x2), some (.inl x3), some (.inl x4), o5, o6], r.toList ++ [], σ') Φ)) : pe_X d 210 (49, [some (.inr (.inr M)), some (.inl x1), some (.inl x2), some (.inl x3), some (.inl x4), o5, o6], [], pm_h M σ q y) Φ := by
  refine pe_blk 27 2 ck210 [] (51, [some (.inr (.inr M)), some (.inl x1), some (.inl x2), some (.inl x3), some (.inl x4), o5, o6], [.inl x1, .inr (.inr M)], pm_h M σ q y) rfl ?_ ?_
  · exact trivial
  · try simp (disch := omega) only [pe_K_wI, pe_K_wR, pm_KM hF, pm_Kh]
    have hrc : pe_K (pm_h M σ q y) M = 9 := by first | assumption | (simp (disch := omega) only [pe_K_wI, pe_K_wR, pm_KM hF, pm_Kh]; done) | (simp (disch := omega) only [pe_K_wI, pe_K_wR, pm_KM hF, pm_Kh]; assumption)
    exact pe_cal 29 ck210 rfl rfl rfl ⟨hrc, by decide⟩ k
theorem b210_54 {d : Nat} {Φ : Option pe_V → pe_H → Prop} {σ : pe_H} {M q : Nat} {y : Nat → Int → Int} (hF : pm_F M σ) {x1 : Int} {x2 : Int} {x3 : Int} {x4 : Int} {o5 : Option pe_V} {o6 : Option pe_V}    (k : pe_M d 209 [.inr (.inr M), .inl x4] (pm_h M σ q y) (fun r σ' => pe_X d 210 (60, [some (.inr (.inr M)), some (.inl x1), some (.inl x2), some (.inl x3), some (.inl x4), o5, o6], r.toList ++ [], σ') Φ)) : pe_X d 210 (54, [some (.inr (.inr M)), some (.inl x1), some (.inl x2), some (.inl x3), some (.inl x4), o5, o6], [], pm_h M σ q y) Φ := by
  refine pe_blk 30 2 ck210 [] (57, [some (.inr (.inr M)), some (.inl x1), some (.inl x2), some (.inl x3), some (.inl x4), o5, o6], [.inl x4, .inr (.inr M)], pm_h M σ q y) rfl ?_ ?_
  · exact trivial
  · try simp (disch := omega) only [pe_K_wI, pe_K_wR, pm_KM hF, pm_Kh]
    have hrc : pe_K (pm_h M σ q y) M = 9 := by first | assumption | (simp (disch := omega) only [pe_K_wI, pe_K_wR, pm_KM hF, pm_Kh]; done) | (simp (disch := omega) only [pe_K_wI, pe_K_wR, pm_KM hF, pm_Kh]; assumption)
    exact pe_cal 32 ck210 rfl rfl rfl ⟨hrc, by decide⟩ k
theorem b210_60 {d : Nat} {Φ : Option pe_V → pe_H → Prop} {σ : pe_H} {M q : Nat} {y : Nat → Int → Int} (hF : pm_F M σ) {x1 : Int} {x2 : Int} {x3 : Int} {x4 : Int} {o5 : Option pe_V} {o6 : Option pe_V} {s0 : Int}    (k : pe_M d 188 [.inr (.inr M)] (pm_h M σ q y) (fun r σ' => pe_X d 210 (66, [some (.inr (.inr M)), some (.inl x1), some (.inl x2), some (.inl x3), some (.inl x4), some (.inl s0), o6], r.toList ++ [], σ') Φ)) : pe_X d 210 (60, [some (.inr (.inr M)), some (.inl x1), some (.inl x2), some (.inl x3), some (.inl x4), o5, o6], [.inl s0], pm_h M σ q y) Φ := by
  refine pe_blk 33 2 ck210 [] (63, [some (.inr (.inr M)), some (.inl x1), some (.inl x2), some (.inl x3), some (.inl x4), some (.inl s0), o6], [.inr (.inr M)], pm_h M σ q y) rfl ?_ ?_
  · exact trivial
  · try simp (disch := omega) only [pe_K_wI, pe_K_wR, pm_KM hF, pm_Kh]
    have hrc : pe_K (pm_h M σ q y) M = 9 := by first | assumption | (simp (disch := omega) only [pe_K_wI, pe_K_wR, pm_KM hF, pm_Kh]; done) | (simp (disch := omega) only [pe_K_wI, pe_K_wR, pm_KM hF, pm_Kh]; assumption)
    exact pe_cal 35 ck210 rfl rfl rfl ⟨hrc, by decide⟩ k
theorem b210_66 {d : Nat} {Φ : Option pe_V → pe_H → Prop} {σ : pe_H} {M q : Nat} {y : Nat → Int → Int} (hF : pm_F M σ) {x1 : Int} {x2 : Int} {x3 : Int} {x4 : Int} {x5 : Int} {o6 : Option pe_V}    (k : pe_M d 167 [.inr (.inr M), .inl x4] (pm_h M σ q y) (fun r σ' => pe_X d 210 (72, [some (.inr (.inr M)), some (.inl x1), some (.inl x2), some (.inl x3), some (.inl x4), some (.inl x5), o6], r.toList ++ [], σ') Φ)) : pe_X d 210 (66, [some (.inr (.inr M)), some (.inl x1), some (.inl x2), some (.inl x3), some (.inl x4), some (.inl x5), o6], [], pm_h M σ q y) Φ := by
  refine pe_blk 36 2 ck210 [] (69, [some (.inr (.inr M)), some (.inl x1), some (.inl x2), some (.inl x3), some (.inl x4), some (.inl x5), o6], [.inl x4, .inr (.inr M)], pm_h M σ q y) rfl ?_ ?_
  · exact trivial
  · try simp (disch := omega) only [pe_K_wI, pe_K_wR, pm_KM hF, pm_Kh]
    have hrc : pe_K (pm_h M σ q y) M = 9 := by first | assumption | (simp (disch := omega) only [pe_K_wI, pe_K_wR, pm_KM hF, pm_Kh]; done) | (simp (disch := omega) only [pe_K_wI, pe_K_wR, pm_KM hF, pm_Kh]; assumption)
    exact pe_cal 38 ck210 rfl rfl rfl ⟨hrc, by decide⟩ k
theorem b210_72 {d : Nat} {Φ : Option pe_V → pe_H → Prop} {σ : pe_H} {M q : Nat} {y : Nat → Int → Int} (hF : pm_F M σ) {x1 : Int} {x2 : Int} {x3 : Int} {x4 : Int} {x5 : Int} {o6 : Option pe_V}    (k : pe_M d 170 [.inr (.inr M), .inl x1] (pm_h M σ q y) (fun r σ' => pe_X d 210 (77, [some (.inr (.inr M)), some (.inl x1), some (.inl x2), some (.inl x3), some (.inl x4), some (.inl x5), o6], r.toList ++ [], σ') Φ)) : pe_X d 210 (72, [some (.inr (.inr M)), some (.inl x1), some (.inl x2), some (.inl x3), some (.inl x4), some (.inl x5), o6], [], pm_h M σ q y) Φ := by
  refine pe_blk 39 2 ck210 [] (74, [some (.inr (.inr M)), some (.inl x1), some (.inl x2), some (.inl x3), some (.inl x4), some (.inl x5), o6], [.inl x1, .inr (.inr M)], pm_h M σ q y) rfl ?_ ?_
  · exact trivial
  · try simp (disch := omega) only [pe_K_wI, pe_K_wR, pm_KM hF, pm_Kh]
    have hrc : pe_K (pm_h M σ q y) M = 9 := by first | assumption | (simp (disch := omega) only [pe_K_wI, pe_K_wR, pm_KM hF, pm_Kh]; done) | (simp (disch := omega) only [pe_K_wI, pe_K_wR, pm_KM hF, pm_Kh]; assumption)
    exact pe_cal 41 ck210 rfl rfl rfl ⟨hrc, by decide⟩ k
theorem b210_77 {d : Nat} {Φ : Option pe_V → pe_H → Prop} {σ : pe_H} {M q : Nat} {y : Nat → Int → Int} (hF : pm_F M σ) {x1 : Int} {x2 : Int} {x3 : Int} {x4 : Int} {x5 : Int} {o6 : Option pe_V}    (k : pe_M d 209 [.inr (.inr M), .inl x4] (pm_h M σ q y) (fun r σ' => pe_X d 210 (83, [some (.inr (.inr M)), some (.inl x1), some (.inl x2), some (.inl x3), some (.inl x4), some (.inl x5), o6], r.toList ++ [], σ') Φ)) : pe_X d 210 (77, [some (.inr (.inr M)), some (.inl x1), some (.inl x2), some (.inl x3), some (.inl x4), some (.inl x5), o6], [], pm_h M σ q y) Φ := by
  refine pe_blk 42 2 ck210 [] (80, [some (.inr (.inr M)), some (.inl x1), some (.inl x2), some (.inl x3), some (.inl x4), some (.inl x5), o6], [.inl x4, .inr (.inr M)], pm_h M σ q y) rfl ?_ ?_
  · exact trivial
  · try simp (disch := omega) only [pe_K_wI, pe_K_wR, pm_KM hF, pm_Kh]
    have hrc : pe_K (pm_h M σ q y) M = 9 := by first | assumption | (simp (disch := omega) only [pe_K_wI, pe_K_wR, pm_KM hF, pm_Kh]; done) | (simp (disch := omega) only [pe_K_wI, pe_K_wR, pm_KM hF, pm_Kh]; assumption)
    exact pe_cal 44 ck210 rfl rfl rfl ⟨hrc, by decide⟩ k
theorem b210_83 {d : Nat} {Φ : Option pe_V → pe_H → Prop} {σ : pe_H} {M q : Nat} {y : Nat → Int → Int} (hF : pm_F M σ) {x1 : Int} {x2 : Int} {x3 : Int} {x4 : Int} {x5 : Int} {o6 : Option pe_V} {s0 : Int}    (k : pe_M d 188 [.inr (.inr M)] (pm_h M σ q y) (fun r σ' => pe_X d 210 (89, [some (.inr (.inr M)), some (.inl x1), some (.inl x2), some (.inl x3), some (.inl x4), some (.inl x5), some (.inl s0)], r.toList ++ [], σ') Φ)) : pe_X d 210 (83, [some (.inr (.inr M)), some (.inl x1), some (.inl x2), some (.inl x3), some (.inl x4), some (.inl x5), o6], [.inl s0], pm_h M σ q y) Φ := by
  refine pe_blk 45 2 ck210 [] (86, [some (.inr (.inr M)), some (.inl x1), some (.inl x2), some (.inl x3), some (.inl x4), some (.inl x5), some (.inl s0)], [.inr (.inr M)], pm_h M σ q y) rfl ?_ ?_
  · exact trivial
  · try simp (disch := omega) only [pe_K_wI, pe_K_wR, pm_KM hF, pm_Kh]
    have hrc : pe_K (pm_h M σ q y) M = 9 := by first | assumption | (simp (disch := omega) only [pe_K_wI, pe_K_wR, pm_KM hF, pm_Kh]; done) | (simp (disch := omega) only [pe_K_wI, pe_K_wR, pm_KM hF, pm_Kh]; assumption)
    exact pe_cal 47 ck210 rfl rfl rfl ⟨hrc, by decide⟩ k
set_option maxRecDepth 8000 in
theorem b210_89 {d : Nat} {Φ : Option pe_V → pe_H → Prop} {σ : pe_H} {M q : Nat} {y : Nat → Int → Int} (hF : pm_F M σ) {x1 : Int} {x2 : Int} {x3 : Int} {x4 : Int} {x5 : Int} {x6 : Int}  (w0 : pe_in x5 := by unfold pe_in; omega) (w1 : pe_in x6 := by unfold pe_in; omega)  (k1 : x6 ≤ x5 → pe_X d 210 (107, [some (.inr (.inr M)), some (.inl x1), some (.inl x2), some (.inl x3), some (.inl x4), some (.inl x5), some (.inl x6)], [], pm_h M σ q y) Φ) (k2 : ¬ (x6 ≤ x5) → pe_X d 210 (96, [some (.inr (.inr M)), some (.inl x1), some (.inl x2), some (.inl x3), some (.inl x4), some (.inl x5), some (.inl x6)], [], pm_h M σ q y) Φ) : pe_X d 210 (89, [some (.inr (.inr M)), some (.inl x1), some (.inl x2), some (.inl x3), some (.inl x4), some (.inl x5), some (.inl x6)], [], pm_h M σ q y) Φ := by
  refine pe_blk 48 3 ck210 [] (cond (decide ((pe_w x6) ≤ (pe_w x5))) 107 96, [some (.inr (.inr M)), some (.inl x1), some (.inl x2), some (.inl x3), some (.inl x4), some (.inl x5), some (.inl x6)], [], pm_h M σ q y) rfl ?_ ?_
  · exact trivial
  · try simp (disch := omega) only [pe_wi w0, pe_wi w1]
    exact pe_two k1 k2
set_option maxRecDepth 8000 in
theorem b210_96 {d : Nat} {Φ : Option pe_V → pe_H → Prop} {σ : pe_H} {M q : Nat} {y : Nat → Int → Int} (hF : pm_F M σ) {x1 : Int} {x2 : Int} {x3 : Int} {x4 : Int} {x5 : Int} {x6 : Int}  (w0 : pe_in x3 := by unfold pe_in; omega) (w1 : pe_in x6 := by unfold pe_in; omega)  (k1 : x6 ≤ x3 → pe_X d 210 (107, [some (.inr (.inr M)), some (.inl x1), some (.inl x2), some (.inl x3), some (.inl x4), some (.inl x5), some (.inl x6)], [], pm_h M σ q y) Φ) (k2 : ¬ (x6 ≤ x3) → pe_X d 210 (102, [some (.inr (.inr M)), some (.inl x1), some (.inl x2), some (.inl x3), some (.inl x4), some (.inl x5), some (.inl x6)], [], pm_h M σ q y) Φ) : pe_X d 210 (96, [some (.inr (.inr M)), some (.inl x1), some (.inl x2), some (.inl x3), some (.inl x4), some (.inl x5), some (.inl x6)], [], pm_h M σ q y) Φ := by
  refine pe_blk 51 3 ck210 [] (cond (decide ((pe_w x6) ≤ (pe_w x3))) 107 102, [some (.inr (.inr M)), some (.inl x1), some (.inl x2), some (.inl x3), some (.inl x4), some (.inl x5), some (.inl x6)], [], pm_h M σ q y) rfl ?_ ?_
  · exact trivial
  · try simp (disch := omega) only [pe_wi w0, pe_wi w1]
    exact pe_two k1 k2
set_option maxRecDepth 8000 in
theorem b210_102 {d : Nat} {Φ : Option pe_V → pe_H → Prop} {σ : pe_H} {M q : Nat} {y : Nat → Int → Int} (hF : pm_F M σ) {x1 : Int} {o2 : Option pe_V} {x3 : Int} {x4 : Int} {x5 : Int} {x6 : Int}    (k : pe_X d 210 (108, [some (.inr (.inr M)), some (.inl x1), o2, some (.inl x3), some (.inl x4), some (.inl x5), some (.inl x6)], [.inl x4], pm_h M σ q y) Φ) : pe_X d 210 (102, [some (.inr (.inr M)), some (.inl x1), o2, some (.inl x3), some (.inl x4), some (.inl x5), some (.inl x6)], [], pm_h M σ q y) Φ := by
  refine pe_blk 54 2 ck210 [] (108, [some (.inr (.inr M)), some (.inl x1), o2, some (.inl x3), some (.inl x4), some (.inl x5), some (.inl x6)], [.inl x4], pm_h M σ q y) rfl ?_ ?_
  · exact trivial
  · exact k
set_option maxRecDepth 8000 in
theorem b210_107 {d : Nat} {Φ : Option pe_V → pe_H → Prop} {σ : pe_H} {M q : Nat} {y : Nat → Int → Int} (hF : pm_F M σ) {x1 : Int} {x2 : Int} {x3 : Int} {x4 : Int} {x5 : Int} {x6 : Int}    (k : pe_X d 210 (108, [some (.inr (.inr M)), some (.inl x1), some (.inl x2), some (.inl x3), some (.inl x4), some (.inl x5), some (.inl x6)], [.inl x2], pm_h M σ q y) Φ) : pe_X d 210 (107, [some (.inr (.inr M)), some (.inl x1), some (.inl x2), some (.inl x3), some (.inl x4), some (.inl x5), some (.inl x6)], [], pm_h M σ q y) Φ := by
  refine pe_blk 56 1 ck210 [] (108, [some (.inr (.inr M)), some (.inl x1), some (.inl x2), some (.inl x3), some (.inl x4), some (.inl x5), some (.inl x6)], [.inl x2], pm_h M σ q y) rfl ?_ ?_
  · exact trivial
  · exact k
set_option maxRecDepth 8000 in
theorem b210_108 {d : Nat} {Φ : Option pe_V → pe_H → Prop} {σ : pe_H} {M q : Nat} {y : Nat → Int → Int} (hF : pm_F M σ) {x1 : Int} {o2 : Option pe_V} {x3 : Int} {x4 : Int} {x5 : Int} {x6 : Int} {s0 : Int}  (w0 : pe_in x5 := by unfold pe_in; omega) (w1 : pe_in x6 := by unfold pe_in; omega)  (k1 : x6 ≤ x5 → pe_X d 210 (127, [some (.inr (.inr M)), some (.inl x1), some (.inl s0), some (.inl x3), some (.inl x4), some (.inl x5), some (.inl x6)], [], pm_h M σ q y) Φ) (k2 : ¬ (x6 ≤ x5) → pe_X d 210 (116, [some (.inr (.inr M)), some (.inl x1), some (.inl s0), some (.inl x3), some (.inl x4), some (.inl x5), some (.inl x6)], [], pm_h M σ q y) Φ) : pe_X d 210 (108, [some (.inr (.inr M)), some (.inl x1), o2, some (.inl x3), some (.inl x4), some (.inl x5), some (.inl x6)], [.inl s0], pm_h M σ q y) Φ := by
  refine pe_blk 57 4 ck210 [] (cond (decide ((pe_w x6) ≤ (pe_w x5))) 127 116, [some (.inr (.inr M)), some (.inl x1), some (.inl s0), some (.inl x3), some (.inl x4), some (.inl x5), some (.inl x6)], [], pm_h M σ q y) rfl ?_ ?_
  · exact trivial
  · try simp (disch := omega) only [pe_wi w0, pe_wi w1]
    exact pe_two k1 k2
set_option maxRecDepth 8000 in
theorem b210_116 {d : Nat} {Φ : Option pe_V → pe_H → Prop} {σ : pe_H} {M q : Nat} {y : Nat → Int → Int} (hF : pm_F M σ) {x1 : Int} {x2 : Int} {x3 : Int} {x4 : Int} {o5 : Option pe_V} {x6 : Int}  (w0 : pe_in x3 := by unfold pe_in; omega) (w1 : pe_in x6 := by unfold pe_in; omega)  (k1 : x6 ≤ x3 → pe_X d 210 (127, [some (.inr (.inr M)), some (.inl x1), some (.inl x2), some (.inl x3), some (.inl x4), o5, some (.inl x6)], [], pm_h M σ q y) Φ) (k2 : ¬ (x6 ≤ x3) → pe_X d 210 (122, [some (.inr (.inr M)), some (.inl x1), some (.inl x2), some (.inl x3), some (.inl x4), o5, some (.inl x6)], [], pm_h M σ q y) Φ) : pe_X d 210 (116, [some (.inr (.inr M)), some (.inl x1), some (.inl x2), some (.inl x3), some (.inl x4), o5, some (.inl x6)], [], pm_h M σ q y) Φ := by
  refine pe_blk 61 3 ck210 [] (cond (decide ((pe_w x6) ≤ (pe_w x3))) 127 122, [some (.inr (.inr M)), some (.inl x1), some (.inl x2), some (.inl x3), some (.inl x4), o5, some (.inl x6)], [], pm_h M σ q y) rfl ?_ ?_
  · exact trivial
  · try simp (disch := omega) only [pe_wi w0, pe_wi w1]
    exact pe_two k1 k2
set_option maxRecDepth 8000 in
theorem b210_122 {d : Nat} {Φ : Option pe_V → pe_H → Prop} {σ : pe_H} {M q : Nat} {y : Nat → Int → Int} (hF : pm_F M σ) {x1 : Int} {x2 : Int} {o3 : Option pe_V} {x4 : Int} {o5 : Option pe_V} {x6 : Int}    (k : pe_X d 210 (128, [some (.inr (.inr M)), some (.inl x1), some (.inl x2), o3, some (.inl x4), o5, some (.inl x6)], [.inl x6], pm_h M σ q y) Φ) : pe_X d 210 (122, [some (.inr (.inr M)), some (.inl x1), some (.inl x2), o3, some (.inl x4), o5, some (.inl x6)], [], pm_h M σ q y) Φ := by
  refine pe_blk 64 2 ck210 [] (128, [some (.inr (.inr M)), some (.inl x1), some (.inl x2), o3, some (.inl x4), o5, some (.inl x6)], [.inl x6], pm_h M σ q y) rfl ?_ ?_
  · exact trivial
  · exact k
set_option maxRecDepth 8000 in
theorem b210_127 {d : Nat} {Φ : Option pe_V → pe_H → Prop} {σ : pe_H} {M q : Nat} {y : Nat → Int → Int} (hF : pm_F M σ) {x1 : Int} {x2 : Int} {x3 : Int} {x4 : Int} {o5 : Option pe_V} {o6 : Option pe_V}    (k : pe_X d 210 (128, [some (.inr (.inr M)), some (.inl x1), some (.inl x2), some (.inl x3), some (.inl x4), o5, o6], [.inl x3], pm_h M σ q y) Φ) : pe_X d 210 (127, [some (.inr (.inr M)), some (.inl x1), some (.inl x2), some (.inl x3), some (.inl x4), o5, o6], [], pm_h M σ q y) Φ := by
  refine pe_blk 66 1 ck210 [] (128, [some (.inr (.inr M)), some (.inl x1), some (.inl x2), some (.inl x3), some (.inl x4), o5, o6], [.inl x3], pm_h M σ q y) rfl ?_ ?_
  · exact trivial
  · exact k
set_option maxRecDepth 8000 in
theorem b210_128 {d : Nat} {Φ : Option pe_V → pe_H → Prop} {σ : pe_H} {M q : Nat} {y : Nat → Int → Int} (hF : pm_F M σ) {x1 : Int} {x2 : Int} {o3 : Option pe_V} {x4 : Int} {o5 : Option pe_V} {o6 : Option pe_V} {s0 : Int}    (k : pe_X d 210 (129, [some (.inr (.inr M)), some (.inl x1), some (.inl x2), some (.inl s0), some (.inl x4), o5, o6], [], pm_h M σ q y) Φ) : pe_X d 210 (128, [some (.inr (.inr M)), some (.inl x1), some (.inl x2), o3, some (.inl x4), o5, o6], [.inl s0], pm_h M σ q y) Φ := by
  refine pe_blk 67 1 ck210 [] (129, [some (.inr (.inr M)), some (.inl x1), some (.inl x2), some (.inl s0), some (.inl x4), o5, o6], [], pm_h M σ q y) rfl ?_ ?_
  · exact trivial
  · exact k
set_option maxRecDepth 8000 in
theorem b210_129 {d : Nat} {Φ : Option pe_V → pe_H → Prop} {σ : pe_H} {M q : Nat} {y : Nat → Int → Int} (hF : pm_F M σ) {x1 : Int} {x2 : Int} {x3 : Int} {x4 : Int} {o5 : Option pe_V} {o6 : Option pe_V}    (k : pe_X d 210 (31, [some (.inr (.inr M)), some (.inl x1), some (.inl x2), some (.inl x3), some (.inl (x4 + 1)), o5, o6], [], pm_h M σ q y) Φ) : pe_X d 210 (129, [some (.inr (.inr M)), some (.inl x1), some (.inl x2), some (.inl x3), some (.inl x4), o5, o6], [], pm_h M σ q y) Φ := by
  refine pe_blk 68 2 ck210 [] (31, [some (.inr (.inr M)), some (.inl x1), some (.inl x2), some (.inl x3), some (.inl (x4 + 1)), o5, o6], [], pm_h M σ q y) rfl ?_ ?_
  · exact trivial
  · exact k
set_option maxRecDepth 8000 in
theorem b210_135 {d : Nat} {Φ : Option pe_V → pe_H → Prop} {σ : pe_H} {M q : Nat} {y : Nat → Int → Int} (hF : pm_F M σ) {o1 : Option pe_V} {x2 : Int} {o3 : Option pe_V} {o4 : Option pe_V} {o5 : Option pe_V} {o6 : Option pe_V}    (k : Φ (some (.inl x2)) (pm_h M σ q y)) : pe_X d 210 (135, [some (.inr (.inr M)), o1, some (.inl x2), o3, o4, o5, o6], [], pm_h M σ q y) Φ := by
  refine pe_blk 70 1 ck210 [] (136, [some (.inr (.inr M)), o1, some (.inl x2), o3, o4, o5, o6], [.inl x2], pm_h M σ q y) rfl ?_ ?_
  · exact trivial
  · exact pe_fine 71 ck210 rfl rfl rfl trivial k
-- StepMachinesModel.sendBest(II)I
def T211 : List (Nat × Instr × Nat) := [(0, .aload_n 0, 1), (1, .iconst 0, 1), (2, .putfield 141, 3), (5, .aload_n 0, 1), (6, .iload_n 1, 1), (7, .invokevirtual 187, 3), (10, .ifCond .eq 13, 3), (13, .iload_n 2, 1), (14, .i2l, 1), (15, .lconst 0, 1), (16, .lconst 1, 1), (17, .invokestatic 147, 3), (20, .ifCond .ne 5, 3), (23, .iconst (-1), 1), (24, .ireturn, 1), (25, .aload_n 0, 1), (26, .iload_n 1, 1), (27, .invokevirtual 249, 3), (30, .ifCond .ne 6, 3), (33, .bipush (-3), 2), (35, .ireturn, 1), (36, .iconst 0, 1), (37, .istore_n 3, 1), (38, .bipush (-5), 2), (40, .istore 4, 2), (42, .aload_n 0, 1), (43, .invokevirtual 338, 3), (46, .iconst 0, 1), (47, .istore 5, 2), (49, .iload 5, 2), (51, .bipush 20, 2), (53, .if_icmp .gt 62, 3), (56, .aload_n 0, 1), (57, .iload_n 1, 1), (58, .iload 5, 2), (60, .invokevirtual 303, 3), (63, .aload_n 0, 1), (64, .getfield 34, 3), (67, .iload_n 1, 1), (68, .iaload, 1), (69, .iload 4, 2), (71, .if_icmp .le 8, 3), (74, .iload 5, 2), (76, .goto 4, 3), (79, .iload_n 3, 1), (80, .istore_n 3, 1), (81, .aload_n 0, 1), (82, .getfield 34, 3), (85, .iload_n 1, 1), (86, .iaload, 1), (87, .iload 4, 2), (89, .if_icmp .le 12, 3), (92, .aload_n 0, 1), (93, .getfield 34, 3), (96, .iload_n 1, 1), (97, .iaload, 1), (98, .goto 5, 3), (101, .iload 4, 2), (103, .istore 4, 2), (105, .aload_n 0, 1), (106, .invokevirtual 344, 3), (109, .iinc 5 1, 3), (112, .goto (-63), 3), (115, .iload_n 2, 1), (116, .ifCond .ne 7, 3), (119, .iload_n 3, 1), (120, .goto 5, 3), (123, .iload 4, 2), (125, .ireturn, 1)]
theorem ck211 : pe_ctx 211 9 false (some .int) 6 T211 := ⟨rfl, rfl, rfl, rfl, by decide +kernel, by decide, by decide⟩
theorem b211_0 {d : Nat} {Φ : Option pe_V → pe_H → Prop} {σ : pe_H} {M q : Nat} {y : Nat → Int → Int} (hF : pm_F M σ) {x1 : Int} {x2 : Int} {o3 : Option pe_V} {o4 : Option pe_V} {o5 : Option pe_V}    (k : pe_M d 138 [.inr (.inr M), .inl x1] (pm_h M σ q (pm_u y 0 37 0)) (fun r σ' => pe_X d 211 (10, [some (.inr (.inr M)), some (.inl x1), some (.inl x2), o3, o4, o5], r.toList ++ [], σ') Φ)) : pe_X d 211 (0, [some (.inr (.inr M)), some (.inl x1), some (.inl x2), o3, o4, o5], [], pm_h M σ q y) Φ := by
  refine pe_blk 0 5 ck211 [pe_K (pm_h M σ q y) M = 9] (7, [some (.inr (.inr M)), some (.inl x1), some (.inl x2), o3, o4, o5], [.inl x1, .inr (.inr M)], pe_wI (pm_h M σ q y) M 37 0) rfl ?_ ?_
  · first
    | (simp (disch := omega) only [pe_all, pe_K_wI, pe_K_wR, pm_KM hF, pm_Kh, pm_wI0]; done)
    | (simp (disch := omega) only [pe_all, pe_K_wI, pe_K_wR, pm_KM hF, pm_Kh, pm_wI0]; (repeat' apply And.intro) <;> first | assumption | omega | decide)
  · try simp (disch := omega) only [pe_K_wI, pe_K_wR, pm_KM hF, pm_Kh, pm_wI0]
    have hrc : pe_K (pm_h M σ q (pm_u y 0 37 0)) M = 9 := by first | assumption | (simp (disch := omega) only [pe_K_wI, pe_K_wR, pm_KM hF, pm_Kh, pm_wI0]; done) | (simp (disch := omega) only [pe_K_wI, pe_K_wR, pm_KM hF, pm_Kh, pm_wI0]; assumption)
    exact pe_cal 5 ck211 rfl rfl rfl ⟨hrc, by decide⟩ k
theorem b211_10 {d : Nat} {Φ : Option pe_V → pe_H → Prop} {σ : pe_H} {M q : Nat} {y : Nat → Int → Int} (hF : pm_F M σ) {x1 : Int} {x2 : Int} {o3 : Option pe_V} {o4 : Option pe_V} {o5 : Option pe_V} {s0 : Int}  (w0 : pe_in s0 := by unfold pe_in; omega)  (k1 : s0 = 0 → pe_X d 211 (23, [some (.inr (.inr M)), some (.inl x1), some (.inl x2), o3, o4, o5], [], pm_h M σ q y) Φ) (k2 : ¬ (s0 = 0) → pe_X d 211 (13, [some (.inr (.inr M)), some (.inl x1), some (.inl x2), o3, o4, o5], [], pm_h M σ q y) Φ) : pe_X d 211 (10, [some (.inr (.inr M)), some (.inl x1), some (.inl x2), o3, o4, o5], [.inl s0], pm_h M σ q y) Φ := by
  refine pe_blk 6 1 ck211 [] (cond (decide ((pe_w s0) = 0)) 23 13, [some (.inr (.inr M)), some (.inl x1), some (.inl x2), o3, o4, o5], [], pm_h M σ q y) rfl ?_ ?_
  · exact trivial
  · try simp (disch := omega) only [pe_wi w0]
    exact pe_two k1 k2
theorem b211_13 {d : Nat} {Φ : Option pe_V → pe_H → Prop} {σ : pe_H} {M q : Nat} {y : Nat → Int → Int} (hF : pm_F M σ) {x1 : Int} {x2 : Int} {o3 : Option pe_V} {o4 : Option pe_V} {o5 : Option pe_V}  (w0 : pe_in x2 := by unfold pe_in; omega)  (k : pe_M d 134 [.inr (.inl x2), .inr (.inl 0), .inr (.inl 1)] (pm_h M σ q y) (fun r σ' => pe_X d 211 (20, [some (.inr (.inr M)), some (.inl x1), some (.inl x2), o3, o4, o5], r.toList ++ [], σ') Φ)) : pe_X d 211 (13, [some (.inr (.inr M)), some (.inl x1), some (.inl x2), o3, o4, o5], [], pm_h M σ q y) Φ := by
  refine pe_blk 7 4 ck211 [] (17, [some (.inr (.inr M)), some (.inl x1), some (.inl x2), o3, o4, o5], [.inr (.inl 1), .inr (.inl 0), .inr (.inl (pe_w x2))], pm_h M σ q y) rfl ?_ ?_
  · exact trivial
  · try simp (disch := omega) only [pe_wi w0]
    exact pe_cal 11 ck211 rfl rfl rfl trivial k
theorem b211_20 {d : Nat} {Φ : Option pe_V → pe_H → Prop} {σ : pe_H} {M q : Nat} {y : Nat → Int → Int} (hF : pm_F M σ) {x1 : Int} {x2 : Int} {o3 : Option pe_V} {o4 : Option pe_V} {o5 : Option pe_V} {s0 : Int}  (w0 : pe_in s0 := by unfold pe_in; omega)  (k1 : ¬ s0 = 0 → pe_X d 211 (25, [some (.inr (.inr M)), some (.inl x1), some (.inl x2), o3, o4, o5], [], pm_h M σ q y) Φ) (k2 : s0 = 0 → pe_X d 211 (23, [some (.inr (.inr M)), some (.inl x1), some (.inl x2), o3, o4, o5], [], pm_h M σ q y) Φ) : pe_X d 211 (20, [some (.inr (.inr M)), some (.inl x1), some (.inl x2), o3, o4, o5], [.inl s0], pm_h M σ q y) Φ := by
  refine pe_blk 12 1 ck211 [] (cond (decide (¬ (pe_w s0) = 0)) 25 23, [some (.inr (.inr M)), some (.inl x1), some (.inl x2), o3, o4, o5], [], pm_h M σ q y) rfl ?_ ?_
  · exact trivial
  · try simp (disch := omega) only [pe_wi w0]
    exact pe_two' k1 k2
theorem b211_23 {d : Nat} {Φ : Option pe_V → pe_H → Prop} {σ : pe_H} {M q : Nat} {y : Nat → Int → Int} (hF : pm_F M σ) {o1 : Option pe_V} {o2 : Option pe_V} {o3 : Option pe_V} {o4 : Option pe_V} {o5 : Option pe_V}    (k : Φ (some (.inl (-1))) (pm_h M σ q y)) : pe_X d 211 (23, [some (.inr (.inr M)), o1, o2, o3, o4, o5], [], pm_h M σ q y) Φ := by
  refine pe_blk 13 1 ck211 [] (24, [some (.inr (.inr M)), o1, o2, o3, o4, o5], [.inl (-1)], pm_h M σ q y) rfl ?_ ?_
  · exact trivial
  · exact pe_fine 14 ck211 rfl rfl rfl trivial k
theorem b211_25 {d : Nat} {Φ : Option pe_V → pe_H → Prop} {σ : pe_H} {M q : Nat} {y : Nat → Int → Int} (hF : pm_F M σ) {x1 : Int} {x2 : Int} {o3 : Option pe_V} {o4 : Option pe_V} {o5 : Option pe_V}    (k : pe_M d 140 [.inr (.inr M), .inl x1] (pm_h M σ q y) (fun r σ' => pe_X d 211 (30, [some (.inr (.inr M)), some (.inl x1), some (.inl x2), o3, o4, o5], r.toList ++ [], σ') Φ)) : pe_X d 211 (25, [some (.inr (.inr M)), some (.inl x1), some (.inl x2), o3, o4, o5], [], pm_h M σ q y) Φ := by
  refine pe_blk 15 2 ck211 [] (27, [some (.inr (.inr M)), some (.inl x1), some (.inl x2), o3, o4, o5], [.inl x1, .inr (.inr M)], pm_h M σ q y) rfl ?_ ?_
  · exact trivial
  · try simp (disch := omega) only [pe_K_wI, pe_K_wR, pm_KM hF, pm_Kh]
    have hrc : pe_K (pm_h M σ q y) M = 9 := by first | assumption | (simp (disch := omega) only [pe_K_wI, pe_K_wR, pm_KM hF, pm_Kh]; done) | (simp (disch := omega) only [pe_K_wI, pe_K_wR, pm_KM hF, pm_Kh]; assumption)
    exact pe_cal 17 ck211 rfl rfl rfl ⟨hrc, by decide⟩ k
theorem b211_30 {d : Nat} {Φ : Option pe_V → pe_H → Prop} {σ : pe_H} {M q : Nat} {y : Nat → Int → Int} (hF : pm_F M σ) {x1 : Int} {x2 : Int} {o3 : Option pe_V} {o4 : Option pe_V} {o5 : Option pe_V} {s0 : Int}  (w0 : pe_in s0 := by unfold pe_in; omega)  (k1 : ¬ s0 = 0 → pe_X d 211 (36, [some (.inr (.inr M)), some (.inl x1), some (.inl x2), o3, o4, o5], [], pm_h M σ q y) Φ) (k2 : s0 = 0 → pe_X d 211 (33, [some (.inr (.inr M)), some (.inl x1), some (.inl x2), o3, o4, o5], [], pm_h M σ q y) Φ) : pe_X d 211 (30, [some (.inr (.inr M)), some (.inl x1), some (.inl x2), o3, o4, o5], [.inl s0], pm_h M σ q y) Φ := by
  refine pe_blk 18 1 ck211 [] (cond (decide (¬ (pe_w s0) = 0)) 36 33, [some (.inr (.inr M)), some (.inl x1), some (.inl x2), o3, o4, o5], [], pm_h M σ q y) rfl ?_ ?_
  · exact trivial
  · try simp (disch := omega) only [pe_wi w0]
    exact pe_two' k1 k2
theorem b211_33 {d : Nat} {Φ : Option pe_V → pe_H → Prop} {σ : pe_H} {M q : Nat} {y : Nat → Int → Int} (hF : pm_F M σ) {o1 : Option pe_V} {o2 : Option pe_V} {o3 : Option pe_V} {o4 : Option pe_V} {o5 : Option pe_V}    (k : Φ (some (.inl (-3))) (pm_h M σ q y)) : pe_X d 211 (33, [some (.inr (.inr M)), o1, o2, o3, o4, o5], [], pm_h M σ q y) Φ := by
  refine pe_blk 19 1 ck211 [] (35, [some (.inr (.inr M)), o1, o2, o3, o4, o5], [.inl (-3)], pm_h M σ q y) rfl ?_ ?_
  · exact trivial
  · exact pe_fine 20 ck211 rfl rfl rfl trivial k
theorem b211_36 {d : Nat} {Φ : Option pe_V → pe_H → Prop} {σ : pe_H} {M q : Nat} {y : Nat → Int → Int} (hF : pm_F M σ) {x1 : Int} {x2 : Int} {o3 : Option pe_V} {o4 : Option pe_V} {o5 : Option pe_V}    (k : pe_M d 187 [.inr (.inr M)] (pm_h M σ q y) (fun r σ' => pe_X d 211 (46, [some (.inr (.inr M)), some (.inl x1), some (.inl x2), some (.inl 0), some (.inl (-5)), o5], r.toList ++ [], σ') Φ)) : pe_X d 211 (36, [some (.inr (.inr M)), some (.inl x1), some (.inl x2), o3, o4, o5], [], pm_h M σ q y) Φ := by
  refine pe_blk 21 5 ck211 [] (43, [some (.inr (.inr M)), some (.inl x1), some (.inl x2), some (.inl 0), some (.inl (-5)), o5], [.inr (.inr M)], pm_h M σ q y) rfl ?_ ?_
  · exact trivial
  · try simp (disch := omega) only [pe_K_wI, pe_K_wR, pm_KM hF, pm_Kh]
    have hrc : pe_K (pm_h M σ q y) M = 9 := by first | assumption | (simp (disch := omega) only [pe_K_wI, pe_K_wR, pm_KM hF, pm_Kh]; done) | (simp (disch := omega) only [pe_K_wI, pe_K_wR, pm_KM hF, pm_Kh]; assumption)
    exact pe_cal 26 ck211 rfl rfl rfl ⟨hrc, by decide⟩ k
theorem b211_46 {d : Nat} {Φ : Option pe_V → pe_H → Prop} {σ : pe_H} {M q : Nat} {y : Nat → Int → Int} (hF : pm_F M σ) {x1 : Int} {x2 : Int} {x3 : Int} {x4 : Int} {o5 : Option pe_V}    (k : pe_X d 211 (49, [some (.inr (.inr M)), some (.inl x1), some (.inl x2), some (.inl x3), some (.inl x4), some (.inl 0)], [], pm_h M σ q y) Φ) : pe_X d 211 (46, [some (.inr (.inr M)), some (.inl x1), some (.inl x2), some (.inl x3), some (.inl x4), o5], [], pm_h M σ q y) Φ := by
  refine pe_blk 27 2 ck211 [] (49, [some (.inr (.inr M)), some (.inl x1), some (.inl x2), some (.inl x3), some (.inl x4), some (.inl 0)], [], pm_h M σ q y) rfl ?_ ?_
  · exact trivial
  · exact k
theorem b211_49 {d : Nat} {Φ : Option pe_V → pe_H → Prop} {σ : pe_H} {M q : Nat} {y : Nat → Int → Int} (hF : pm_F M σ) {x1 : Int} {x2 : Int} {x3 : Int} {x4 : Int} {x5 : Int}  (w0 : pe_in x5 := by unfold pe_in; omega)  (k1 : 20 < x5 → pe_X d 211 (115, [some (.inr (.inr M)), some (.inl x1), some (.inl x2), some (.inl x3), some (.inl x4), some (.inl x5)], [], pm_h M σ q y) Φ) (k2 : ¬ (20 < x5) → pe_X d 211 (56, [some (.inr (.inr M)), some (.inl x1), some (.inl x2), some (.inl x3), some (.inl x4), some (.inl x5)], [], pm_h M σ q y) Φ) : pe_X d 211 (49, [some (.inr (.inr M)), some (.inl x1), some (.inl x2), some (.inl x3), some (.inl x4), some (.inl x5)], [], pm_h M σ q y) Φ := by
  refine pe_blk 29 3 ck211 [] (cond (decide ((pe_w 20) < (pe_w x5))) 115 56, [some (.inr (.inr M)), some (.inl x1), some (.inl x2), some (.inl x3), some (.inl x4), some (.inl x5)], [], pm_h M σ q y) rfl ?_ ?_
  · exact trivial
  · try simp (disch := omega) only [pe_wi w0, pe_wi (x := 20) ⟨by decide, by decide⟩]
    exact pe_two k1 k2
theorem b211_56 {d : Nat} {Φ : Option pe_V → pe_H → Prop} {σ : pe_H} {M q : Nat} {y : Nat → Int → Int} (hF : pm_F M σ) {x1 : Int} {x2 : Int} {x3 : Int} {x4 : Int} {x5 : Int}    (k : pe_M d 166 [.inr (.inr M), .inl x1, .inl x5] (pm_h M σ q y) (fun r σ' => pe_X d 211 (63, [some (.inr (.inr M)), some (.inl x1), some (.inl x2), some (.inl x3), some (.inl x4), some (.inl x5)], r.toList ++ [], σ') Φ)) : pe_X d 211 (56, [some (.inr (.inr M)), some (.inl x1), some (.inl x2), some (.inl x3), some (.inl x4), some (.inl x5)], [], pm_h M σ q y) Φ := by
  refine pe_blk 32 3 ck211 [] (60, [some (.inr (.inr M)), some (.inl x1), some (.inl x2), some (.inl x3), some (.inl x4), some (.inl x5)], [.inl x5, .inl x1, .inr (.inr M)], pm_h M σ q y) rfl ?_ ?_
  · exact trivial
  · try simp (disch := omega) only [pe_K_wI, pe_K_wR, pm_KM hF, pm_Kh]
    have hrc : pe_K (pm_h M σ q y) M = 9 := by first | assumption | (simp (disch := omega) only [pe_K_wI, pe_K_wR, pm_KM hF, pm_Kh]; done) | (simp (disch := omega) only [pe_K_wI, pe_K_wR, pm_KM hF, pm_Kh]; assumption)
    exact pe_cal 35 ck211 rfl rfl rfl ⟨hrc, by decide⟩ k
theorem b211_63 {d : Nat} {Φ : Option pe_V → pe_H → Prop} {σ : pe_H} {M q : Nat} {y : Nat → Int → Int} (hF : pm_F M σ) {x1 : Int} {x2 : Int} {x3 : Int} {x4 : Int} {x5 : Int}  (w0 : pe_in x1 := by unfold pe_in; omega) (w1 : pe_in x4 := by unfold pe_in; omega) (w2 : pe_in (y 9 x1) := by unfold pe_in; omega) (h0 : 0 ≤ x1 := by first | assumption | omega) (h1 : x1 < 8 := by first | assumption | omega) (k1 : (y 9 x1) ≤ x4 → pe_X d 211 (79, [some (.inr (.inr M)), some (.inl x1), some (.inl x2), some (.inl x3), some (.inl x4), some (.inl x5)], [], pm_h M σ q y) Φ) (k2 : ¬ ((y 9 x1) ≤ x4) → pe_X d 211 (74, [some (.inr (.inr M)), some (.inl x1), some (.inl x2), some (.inl x3), some (.inl x4), some (.inl x5)], [], pm_h M σ q y) Φ) : pe_X d 211 (63, [some (.inr (.inr M)), some (.inl x1), some (.inl x2), some (.inl x3), some (.inl x4), some (.inl x5)], [], pm_h M σ q y) Φ := by
  refine pe_blk 36 6 ck211 [pe_K (pm_h M σ q y) M = 9, pe_K (pm_h M σ q y) (pe_R (pm_h M σ q y) M 9) = 10, 0 ≤ (pe_w x1), (pe_w x1) < pe_L (pm_h M σ q y) (pe_R (pm_h M σ q y) M 9)] (cond (decide ((pe_w (pe_I (pm_h M σ q y) (pe_R (pm_h M σ q y) M 9) (pe_w x1))) ≤ (pe_w x4))) 79 74, [some (.inr (.inr M)), some (.inl x1), some (.inl x2), some (.inl x3), some (.inl x4), some (.inl x5)], [], pm_h M σ q y) rfl ?_ ?_
  · first
    | (simp (disch := omega) only [pe_all, pe_wi w0, pe_wi w1, pe_wi w2, pe_I_wR, pe_K_wI, pe_K_wR, pe_L_wI, pe_L_wR, pe_R_nej, pe_R_wI, pm_Ik, pm_K9 hF, pm_KM hF, pm_Kh, pm_L9 hF, pm_Lh, pm_R9 hF, pm_Rh, pm_uj, pm_uk, pm_us]; done)
    | (simp (disch := omega) only [pe_all, pe_wi w0, pe_wi w1, pe_wi w2, pe_I_wR, pe_K_wI, pe_K_wR, pe_L_wI, pe_L_wR, pe_R_nej, pe_R_wI, pm_Ik, pm_K9 hF, pm_KM hF, pm_Kh, pm_L9 hF, pm_Lh, pm_R9 hF, pm_Rh, pm_uj, pm_uk, pm_us]; (repeat' apply And.intro) <;> first | assumption | omega | decide)
  · try simp (disch := omega) only [pe_wi w0, pe_wi w1, pe_wi w2, pe_I_wR, pe_K_wI, pe_K_wR, pe_L_wI, pe_L_wR, pe_R_nej, pe_R_wI, pm_Ik, pm_K9 hF, pm_KM hF, pm_Kh, pm_L9 hF, pm_Lh, pm_R9 hF, pm_Rh, pm_uj, pm_uk, pm_us]
    exact pe_two k1 k2
theorem b211_74 {d : Nat} {Φ : Option pe_V → pe_H → Prop} {σ : pe_H} {M q : Nat} {y : Nat → Int → Int} (hF : pm_F M σ) {x1 : Int} {x2 : Int} {o3 : Option pe_V} {x4 : Int} {x5 : Int}    (k : pe_X d 211 (80, [some (.inr (.inr M)), some (.inl x1), some (.inl x2), o3, some (.inl x4), some (.inl x5)], [.inl x5], pm_h M σ q y) Φ) : pe_X d 211 (74, [some (.inr (.inr M)), some (.inl x1), some (.inl x2), o3, some (.inl x4), some (.inl x5)], [], pm_h M σ q y) Φ := by
  refine pe_blk 42 2 ck211 [] (80, [some (.inr (.inr M)), some (.inl x1), some (.inl x2), o3, some (.inl x4), some (.inl x5)], [.inl x5], pm_h M σ q y) rfl ?_ ?_
  · exact trivial
  · exact k
theorem b211_79 {d : Nat} {Φ : Option pe_V → pe_H → Prop} {σ : pe_H} {M q : Nat} {y : Nat → Int → Int} (hF : pm_F M σ) {x1 : Int} {x2 : Int} {x3 : Int} {x4 : Int} {x5 : Int}    (k : pe_X d 211 (80, [some (.inr (.inr M)), some (.inl x1), some (.inl x2), some (.inl x3), some (.inl x4), some (.inl x5)], [.inl x3], pm_h M σ q y) Φ) : pe_X d 211 (79, [some (.inr (.inr M)), some (.inl x1), some (.inl x2), some (.inl x3), some (.inl x4), some (.inl x5)], [], pm_h M σ q y) Φ := by
  refine pe_blk 44 1 ck211 [] (80, [some (.inr (.inr M)), some (.inl x1), some (.inl x2), some (.inl x3), some (.inl x4), some (.inl x5)], [.inl x3], pm_h M σ q y) rfl ?_ ?_
  · exact trivial
  · exact k
set_option maxRecDepth 8000 in
theorem b211_80 {d : Nat} {Φ : Option pe_V → pe_H → Prop} {σ : pe_H} {M q : Nat} {y : Nat → Int → Int} (hF : pm_F M σ) {x1 : Int} {x2 : Int} {o3 : Option pe_V} {x4 : Int} {x5 : Int} {s0 : Int}  (w0 : pe_in x1 := by unfold pe_in; omega) (w1 : pe_in x4 := by unfold pe_in; omega) (w2 : pe_in (y 9 x1) := by unfold pe_in; omega) (h0 : 0 ≤ x1 := by first | assumption | omega) (h1 : x1 < 8 := by first | assumption | omega) (k1 : (y 9 x1) ≤ x4 → pe_X d 211 (101, [some (.inr (.inr M)), some (.inl x1), some (.inl x2), some (.inl s0), some (.inl x4), some (.inl x5)], [], pm_h M σ q y) Φ) (k2 : ¬ ((y 9 x1) ≤ x4) → pe_X d 211 (92, [some (.inr (.inr M)), some (.inl x1), some (.inl x2), some (.inl s0), some (.inl x4), some (.inl x5)], [], pm_h M σ q y) Φ) : pe_X d 211 (80, [some (.inr (.inr M)), some (.inl x1), some (.inl x2), o3, some (.inl x4), some (.inl x5)], [.inl s0], pm_h M σ q y) Φ := by
  refine pe_blk 45 7 ck211 [pe_K (pm_h M σ q y) M = 9, pe_K (pm_h M σ q y) (pe_R (pm_h M σ q y) M 9) = 10, 0 ≤ (pe_w x1), (pe_w x1) < pe_L (pm_h M σ q y) (pe_R (pm_h M σ q y) M 9)] (cond (decide ((pe_w (pe_I (pm_h M σ q y) (pe_R (pm_h M σ q y) M 9) (pe_w x1))) ≤ (pe_w x4))) 101 92, [some (.inr (.inr M)), some (.inl x1), some (.inl x2), some (.inl s0), some (.inl x4), some (.inl x5)], [], pm_h M σ q y) rfl ?_ ?_
  · first
    | (simp (disch := omega) only [pe_all, pe_wi w0, pe_wi w1, pe_wi w2, pe_I_wR, pe_K_wI, pe_K_wR, pe_L_wI, pe_L_wR, pe_R_nej, pe_R_wI, pm_Ik, pm_K9 hF, pm_KM hF, pm_Kh, pm_L9 hF, pm_Lh, pm_R9 hF, pm_Rh, pm_uj, pm_uk, pm_us]; done)
    | (simp (disch := omega) only [pe_all, pe_wi w0, pe_wi w1, pe_wi w2, pe_I_wR, pe_K_wI, pe_K_wR, pe_L_wI, pe_L_wR, pe_R_nej, pe_R_wI, pm_Ik, pm_K9 hF, pm_KM hF, pm_Kh, pm_L9 hF, pm_Lh, pm_R9 hF, pm_Rh, pm_uj, pm_uk, pm_us]; (repeat' apply And.intro) <;> first | assumption | omega | decide)
  · try simp (disch := omega) only [pe_wi w0, pe_wi w1, pe_wi w2, pe_I_wR, pe_K_wI, pe_K_wR, pe_L_wI, pe_L_wR, pe_R_nej, pe_R_wI, pm_Ik, pm_K9 hF, pm_KM hF, pm_Kh, pm_L9 hF, pm_Lh, pm_R9 hF, pm_Rh, pm_uj, pm_uk, pm_us]
    exact pe_two k1 k2
set_option maxRecDepth 8000 in
theorem b211_92 {d : Nat} {Φ : Option pe_V → pe_H → Prop} {σ : pe_H} {M q : Nat} {y : Nat → Int → Int} (hF : pm_F M σ) {x1 : Int} {x2 : Int} {x3 : Int} {o4 : Option pe_V} {x5 : Int}  (w0 : pe_in x1 := by unfold pe_in; omega) (h0 : 0 ≤ x1 := by first | assumption | omega) (h1 : x1 < 8 := by first | assumption | omega) (k : pe_X d 211 (103, [some (.inr (.inr M)), some (.inl x1), some (.inl x2), some (.inl x3), o4, some (.inl x5)], [.inl (y 9 x1)], pm_h M σ q y) Φ) : pe_X d 211 (92, [some (.inr (.inr M)), some (.inl x1), some (.inl x2), some (.inl x3), o4, some (.inl x5)], [], pm_h M σ q y) Φ := by
  refine pe_blk 52 5 ck211 [pe_K (pm_h M σ q y) M = 9, pe_K (pm_h M σ q y) (pe_R (pm_h M σ q y) M 9) = 10, 0 ≤ (pe_w x1), (pe_w x1) < pe_L (pm_h M σ q y) (pe_R (pm_h M σ q y) M 9)] (103, [some (.inr (.inr M)), some (.inl x1), some (.inl x2), some (.inl x3), o4, some (.inl x5)], [.inl (pe_I (pm_h M σ q y) (pe_R (pm_h M σ q y) M 9) (pe_w x1))], pm_h M σ q y) rfl ?_ ?_
  · first
    | (simp (disch := omega) only [pe_all, pe_wi w0, pe_I_wR, pe_K_wI, pe_K_wR, pe_L_wI, pe_L_wR, pe_R_nej, pe_R_wI, pm_Ik, pm_K9 hF, pm_KM hF, pm_Kh, pm_L9 hF, pm_Lh, pm_R9 hF, pm_Rh, pm_uj, pm_uk, pm_us]; done)
    | (simp (disch := omega) only [pe_all, pe_wi w0, pe_I_wR, pe_K_wI, pe_K_wR, pe_L_wI, pe_L_wR, pe_R_nej, pe_R_wI, pm_Ik, pm_K9 hF, pm_KM hF, pm_Kh, pm_L9 hF, pm_Lh, pm_R9 hF, pm_Rh, pm_uj, pm_uk, pm_us]; (repeat' apply And.intro) <;> first | assumption | omega | decide)
  · try simp (disch := omega) only [pe_wi w0, pe_I_wR, pe_K_wI, pe_K_wR, pe_L_wI, pe_L_wR, pe_R_nej, pe_R_wI, pm_Ik, pm_K9 hF, pm_KM hF, pm_Kh, pm_L9 hF, pm_Lh, pm_R9 hF, pm_Rh, pm_uj, pm_uk, pm_us]
    exact k
set_option maxRecDepth 8000 in
theorem b211_101 {d : Nat} {Φ : Option pe_V → pe_H → Prop} {σ : pe_H} {M q : Nat} {y : Nat → Int → Int} (hF : pm_F M σ) {x1 : Int} {x2 : Int} {x3 : Int} {x4 : Int} {x5 : Int}    (k : pe_X d 211 (103, [some (.inr (.inr M)), some (.inl x1), some (.inl x2), some (.inl x3), some (.inl x4), some (.inl x5)], [.inl x4], pm_h M σ q y) Φ) : pe_X d 211 (101, [some (.inr (.inr M)), some (.inl x1), some (.inl x2), some (.inl x3), some (.inl x4), some (.inl x5)], [], pm_h M σ q y) Φ := by
  refine pe_blk 57 1 ck211 [] (103, [some (.inr (.inr M)), some (.inl x1), some (.inl x2), some (.inl x3), some (.inl x4), some (.inl x5)], [.inl x4], pm_h M σ q y) rfl ?_ ?_
  · exact trivial
  · exact k
set_option maxRecDepth 8000 in
theorem b211_103 {d : Nat} {Φ : Option pe_V → pe_H → Prop} {σ : pe_H} {M q : Nat} {y : Nat → Int → Int} (hF : pm_F M σ) {x1 : Int} {x2 : Int} {x3 : Int} {o4 : Option pe_V} {x5 : Int} {s0 : Int}    (k : pe_M d 188 [.inr (.inr M)] (pm_h M σ q y) (fun r σ' => pe_X d 211 (109, [some (.inr (.inr M)), some (.inl x1), some (.inl x2), some (.inl x3), some (.inl s0), some (.inl x5)], r.toList ++ [], σ') Φ)) : pe_X d 211 (103, [some (.inr (.inr M)), some (.inl x1), some (.inl x2), some (.inl x3), o4, some (.inl x5)], [.inl s0], pm_h M σ q y) Φ := by
  refine pe_blk 58 2 ck211 [] (106, [some (.inr (.inr M)), some (.inl x1), some (.inl x2), some (.inl x3), some (.inl s0), some (.inl x5)], [.inr (.inr M)], pm_h M σ q y) rfl ?_ ?_
  · exact trivial
  · try simp (disch := omega) only [pe_K_wI, pe_K_wR, pm_KM hF, pm_Kh]
    have hrc : pe_K (pm_h M σ q y) M = 9 := by first | assumption | (simp (disch := omega) only [pe_K_wI, pe_K_wR, pm_KM hF, pm_Kh]; done) | (simp (disch := omega) only [pe_K_wI, pe_K_wR, pm_KM hF, pm_Kh]; assumption)
    exact pe_cal 60 ck211 rfl rfl rfl ⟨hrc, by decide⟩ k
set_option maxRecDepth 8000 in
theorem b211_109 {d : Nat} {Φ : Option pe_V → pe_H → Prop} {σ : pe_H} {M q : Nat} {y : Nat → Int → Int} (hF : pm_F M σ) {x1 : Int} {x2 : Int} {x3 : Int} {x4 : Int} {x5 : Int}    (k : pe_X d 211 (49, [some (.inr (.inr M)), some (.inl x1), some (.inl x2), some (.inl x3), some (.inl x4), some (.inl (x5 + 1))], [], pm_h M σ q y) Φ) : pe_X d 211 (109, [some (.inr (.inr M)), some (.inl x1), some (.inl x2), some (.inl x3), some (.inl x4), some (.inl x5)], [], pm_h M σ q y) Φ := by
  refine pe_blk 61 2 ck211 [] (49, [some (.inr (.inr M)), some (.inl x1), some (.inl x2), some (.inl x3), some (.inl x4), some (.inl (x5 + 1))], [], pm_h M σ q y) rfl ?_ ?_
  · exact trivial
  · exact k
set_option maxRecDepth 8000 in
theorem b211_115 {d : Nat} {Φ : Option pe_V → pe_H → Prop} {σ : pe_H} {M q : Nat} {y : Nat → Int → Int} (hF : pm_F M σ) {o1 : Option pe_V} {x2 : Int} {x3 : Int} {x4 : Int} {o5 : Option pe_V}  (w0 : pe_in x2 := by unfold pe_in; omega)  (k1 : ¬ x2 = 0 → pe_X d 211 (123, [some (.inr (.inr M)), o1, some (.inl x2), some (.inl x3), some (.inl x4), o5], [], pm_h M σ q y) Φ) (k2 : x2 = 0 → pe_X d 211 (119, [some (.inr (.inr M)), o1, some (.inl x2), some (.inl x3), some (.inl x4), o5], [], pm_h M σ q y) Φ) : pe_X d 211 (115, [some (.inr (.inr M)), o1, some (.inl x2), some (.inl x3), some (.inl x4), o5], [], pm_h M σ q y) Φ := by
  refine pe_blk 63 2 ck211 [] (cond (decide (¬ (pe_w x2) = 0)) 123 119, [some (.inr (.inr M)), o1, some (.inl x2), some (.inl x3), some (.inl x4), o5], [], pm_h M σ q y) rfl ?_ ?_
  · exact trivial
  · try simp (disch := omega) only [pe_wi w0]
    exact pe_two' k1 k2
set_option maxRecDepth 8000 in
theorem b211_119 {d : Nat} {Φ : Option pe_V → pe_H → Prop} {σ : pe_H} {M q : Nat} {y : Nat → Int → Int} (hF : pm_F M σ) {o1 : Option pe_V} {o2 : Option pe_V} {x3 : Int} {o4 : Option pe_V} {o5 : Option pe_V}    (k : pe_X d 211 (125, [some (.inr (.inr M)), o1, o2, some (.inl x3), o4, o5], [.inl x3], pm_h M σ q y) Φ) : pe_X d 211 (119, [some (.inr (.inr M)), o1, o2, some (.inl x3), o4, o5], [], pm_h M σ q y) Φ := by
  refine pe_blk 65 2 ck211 [] (125, [some (.inr (.inr M)), o1, o2, some (.inl x3), o4, o5], [.inl x3], pm_h M σ q y) rfl ?_ ?_
  · exact trivial
  · exact k
set_option maxRecDepth 8000 in
theorem b211_123 {d : Nat} {Φ : Option pe_V → pe_H → Prop} {σ : pe_H} {M q : Nat} {y : Nat → Int → Int} (hF : pm_F M σ) {o1 : Option pe_V} {o2 : Option pe_V} {o3 : Option pe_V} {x4 : Int} {o5 : Option pe_V}    (k : pe_X d 211 (125, [some (.inr (.inr M)), o1, o2, o3, some (.inl x4), o5], [.inl x4], pm_h M σ q y) Φ) : pe_X d 211 (123, [some (.inr (.inr M)), o1, o2, o3, some (.inl x4), o5], [], pm_h M σ q y) Φ := by
  refine pe_blk 67 1 ck211 [] (125, [some (.inr (.inr M)), o1, o2, o3, some (.inl x4), o5], [.inl x4], pm_h M σ q y) rfl ?_ ?_
  · exact trivial
  · exact k
set_option maxRecDepth 8000 in
theorem b211_125 {d : Nat} {Φ : Option pe_V → pe_H → Prop} {σ : pe_H} {M q : Nat} {y : Nat → Int → Int} (hF : pm_F M σ) {o1 : Option pe_V} {o2 : Option pe_V} {o3 : Option pe_V} {o4 : Option pe_V} {o5 : Option pe_V} {s0 : Int}    (k : Φ (some (.inl s0)) (pm_h M σ q y)) : pe_X d 211 (125, [some (.inr (.inr M)), o1, o2, o3, o4, o5], [.inl s0], pm_h M σ q y) Φ := by
  exact pe_fine 68 ck211 rfl rfl rfl trivial k
-- StepMachinesModel.firstOut()I
def T212 : List (Nat × Instr × Nat) := [(0, .aload_n 0, 1), (1, .iconst 0, 1), (2, .putfield 141, 3), (5, .bipush (-4), 2), (7, .istore_n 1, 1), (8, .aload_n 0, 1), (9, .invokevirtual 338, 3), (12, .iconst 0, 1), (13, .istore_n 2, 1), (14, .iload_n 2, 1), (15, .bipush 60, 2), (17, .if_icmp .ge 52, 3), (20, .iload_n 1, 1), (21, .ifCond .ge 48, 3), (24, .aload_n 0, 1), (25, .iconst 0, 1), (26, .invokevirtual 259, 3), (29, .aload_n 0, 1), (30, .getfield 144, 3), (33, .iconst 1, 1), (34, .isub, 1), (35, .istore_n 3, 1), (36, .iload_n 3, 1), (37, .ifCond .lt 26, 3), (40, .aload_n 0, 1), (41, .getfield 202, 3), (44, .iload_n 3, 1), (45, .invokestatic 252, 3), (48, .ifCond .eq 7, 3), (51, .iload_n 3, 1), (52, .goto 4, 3), (55, .iload_n 1, 1), (56, .istore_n 1, 1), (57, .iinc 3 (-1), 3), (60, .goto (-24), 3), (63, .iinc 2 1, 3), (66, .goto (-52), 3), (69, .aload_n 0, 1), (70, .invokevirtual 344, 3), (73, .iload_n 1, 1), (74, .ireturn, 1)]
theorem ck212 : pe_ctx 212 9 false (some .int) 4 T212 := ⟨rfl, rfl, rfl, rfl, by decide +kernel, by decide, by decide⟩
theorem b212_0 {d : Nat} {Φ : Option pe_V → pe_H → Prop} {σ : pe_H} {M q : Nat} {y : Nat → Int → Int} (hF : pm_F M σ) {o1 : Option pe_V} {o2 : Option pe_V} {o3 : Option pe_V}    (k : pe_M d 187 [.inr (.inr M)] (pm_h M σ q (pm_u y 0 37 0)) (fun r σ' => pe_X d 212 (12, [some (.inr (.inr M)), some (.inl (-4)), o2, o3], r.toList ++ [], σ') Φ)) : pe_X d 212 (0, [some (.inr (.inr M)), o1, o2, o3], [], pm_h M σ q y) Φ := by
  refine pe_blk 0 6 ck212 [pe_K (pm_h M σ q y) M = 9] (9, [some (.inr (.inr M)), some (.inl (-4)), o2, o3], [.inr (.inr M)], pe_wI (pm_h M σ q y) M 37 0) rfl ?_ ?_
  · first
    | (simp (disch := omega) only [pe_all, pe_K_wI, pe_K_wR, pm_KM hF, pm_Kh, pm_wI0]; done)
    | (simp (disch := omega) only [pe_all, pe_K_wI, pe_K_wR, pm_KM hF, pm_Kh, pm_wI0]; (repeat' apply And.intro) <;> first | assumption | omega | decide)
  · try simp (disch := omega) only [pe_K_wI, pe_K_wR, pm_KM hF, pm_Kh, pm_wI0]
    have hrc : pe_K (pm_h M σ q (pm_u y 0 37 0)) M = 9 := by first | assumption | (simp (disch := omega) only [pe_K_wI, pe_K_wR, pm_KM hF, pm_Kh, pm_wI0]; done) | (simp (disch := omega) only [pe_K_wI, pe_K_wR, pm_KM hF, pm_Kh, pm_wI0]; assumption)
    exact pe_cal 6 ck212 rfl rfl rfl ⟨hrc, by decide⟩ k
theorem b212_12 {d : Nat} {Φ : Option pe_V → pe_H → Prop} {σ : pe_H} {M q : Nat} {y : Nat → Int → Int} (hF : pm_F M σ) {x1 : Int} {o2 : Option pe_V} {o3 : Option pe_V}    (k : pe_X d 212 (14, [some (.inr (.inr M)), some (.inl x1), some (.inl 0), o3], [], pm_h M σ q y) Φ) : pe_X d 212 (12, [some (.inr (.inr M)), some (.inl x1), o2, o3], [], pm_h M σ q y) Φ := by
  refine pe_blk 7 2 ck212 [] (14, [some (.inr (.inr M)), some (.inl x1), some (.inl 0), o3], [], pm_h M σ q y) rfl ?_ ?_
  · exact trivial
  · exact k
theorem b212_14 {d : Nat} {Φ : Option pe_V → pe_H → Prop} {σ : pe_H} {M q : Nat} {y : Nat → Int → Int} (hF : pm_F M σ) {x1 : Int} {x2 : Int} {o3 : Option pe_V}  (w0 : pe_in x2 := by unfold pe_in; omega)  (k1 : 60 ≤ x2 → pe_X d 212 (69, [some (.inr (.inr M)), some (.inl x1), some (.inl x2), o3], [], pm_h M σ q y) Φ) (k2 : ¬ (60 ≤ x2) → pe_X d 212 (20, [some (.inr (.inr M)), some (.inl x1), some (.inl x2), o3], [], pm_h M σ q y) Φ) : pe_X d 212 (14, [some (.inr (.inr M)), some (.inl x1), some (.inl x2), o3], [], pm_h M σ q y) Φ := by
  refine pe_blk 9 3 ck212 [] (cond (decide ((pe_w 60) ≤ (pe_w x2))) 69 20, [some (.inr (.inr M)), some (.inl x1), some (.inl x2), o3], [], pm_h M σ q y) rfl ?_ ?_
  · exact trivial
  · try simp (disch := omega) only [pe_wi w0, pe_wi (x := 60) ⟨by decide, by decide⟩]
    exact pe_two k1 k2
theorem b212_20 {d : Nat} {Φ : Option pe_V → pe_H → Prop} {σ : pe_H} {M q : Nat} {y : Nat → Int → Int} (hF : pm_F M σ) {x1 : Int} {x2 : Int} {o3 : Option pe_V}  (w0 : pe_in x1 := by unfold pe_in; omega)  (k1 : 0 ≤ x1 → pe_X d 212 (69, [some (.inr (.inr M)), some (.inl x1), some (.inl x2), o3], [], pm_h M σ q y) Φ) (k2 : ¬ (0 ≤ x1) → pe_X d 212 (24, [some (.inr (.inr M)), some (.inl x1), some (.inl x2), o3], [], pm_h M σ q y) Φ) : pe_X d 212 (20, [some (.inr (.inr M)), some (.inl x1), some (.inl x2), o3], [], pm_h M σ q y) Φ := by
  refine pe_blk 12 2 ck212 [] (cond (decide (0 ≤ (pe_w x1))) 69 24, [some (.inr (.inr M)), some (.inl x1), some (.inl x2), o3], [], pm_h M σ q y) rfl ?_ ?_
  · exact trivial
  · try simp (disch := omega) only [pe_wi w0]
    exact pe_two k1 k2
theorem b212_24 {d : Nat} {Φ : Option pe_V → pe_H → Prop} {σ : pe_H} {M q : Nat} {y : Nat → Int → Int} (hF : pm_F M σ) {x1 : Int} {x2 : Int} {o3 : Option pe_V}    (k : pe_M d 169 [.inr (.inr M), .inl 0] (pm_h M σ q y) (fun r σ' => pe_X d 212 (29, [some (.inr (.inr M)), some (.inl x1), some (.inl x2), o3], r.toList ++ [], σ') Φ)) : pe_X d 212 (24, [some (.inr (.inr M)), some (.inl x1), some (.inl x2), o3], [], pm_h M σ q y) Φ := by
  refine pe_blk 14 2 ck212 [] (26, [some (.inr (.inr M)), some (.inl x1), some (.inl x2), o3], [.inl 0, .inr (.inr M)], pm_h M σ q y) rfl ?_ ?_
  · exact trivial
  · try simp (disch := omega) only [pe_K_wI, pe_K_wR, pm_KM hF, pm_Kh]
    have hrc : pe_K (pm_h M σ q y) M = 9 := by first | assumption | (simp (disch := omega) only [pe_K_wI, pe_K_wR, pm_KM hF, pm_Kh]; done) | (simp (disch := omega) only [pe_K_wI, pe_K_wR, pm_KM hF, pm_Kh]; assumption)
    exact pe_cal 16 ck212 rfl rfl rfl ⟨hrc, by decide⟩ k
theorem b212_29 {d : Nat} {Φ : Option pe_V → pe_H → Prop} {σ : pe_H} {M q : Nat} {y : Nat → Int → Int} (hF : pm_F M σ) {x1 : Int} {x2 : Int} {o3 : Option pe_V}    (k : pe_X d 212 (36, [some (.inr (.inr M)), some (.inl x1), some (.inl x2), some (.inl ((y 0 3) - 1))], [], pm_h M σ q y) Φ) : pe_X d 212 (29, [some (.inr (.inr M)), some (.inl x1), some (.inl x2), o3], [], pm_h M σ q y) Φ := by
  refine pe_blk 17 5 ck212 [pe_K (pm_h M σ q y) M = 9] (36, [some (.inr (.inr M)), some (.inl x1), some (.inl x2), some (.inl ((pe_I (pm_h M σ q y) M 3) - 1))], [], pm_h M σ q y) rfl ?_ ?_
  · first
    | (simp (disch := omega) only [pe_all, pe_I_wR, pe_K_wI, pe_K_wR, pm_I0, pm_KM hF, pm_Kh, pm_uj, pm_uk, pm_us]; done)
    | (simp (disch := omega) only [pe_all, pe_I_wR, pe_K_wI, pe_K_wR, pm_I0, pm_KM hF, pm_Kh, pm_uj, pm_uk, pm_us]; (repeat' apply And.intro) <;> first | assumption | omega | decide)
  · try simp (disch := omega) only [pe_I_wR, pe_K_wI, pe_K_wR, pm_I0, pm_KM hF, pm_Kh, pm_uj, pm_uk, pm_us]
    exact k
theorem b212_36 {d : Nat} {Φ : Option pe_V → pe_H → Prop} {σ : pe_H} {M q : Nat} {y : Nat → Int → Int} (hF : pm_F M σ) {x1 : Int} {x2 : Int} {x3 : Int}  (w0 : pe_in x3 := by unfold pe_in; omega)  (k1 : x3 < 0 → pe_X d 212 (63, [some (.inr (.inr M)), some (.inl x1), some (.inl x2), some (.inl x3)], [], pm_h M σ q y) Φ) (k2 : ¬ (x3 < 0) → pe_X d 212 (40, [some (.inr (.inr M)), some (.inl x1), some (.inl x2), some (.inl x3)], [], pm_h M σ q y) Φ) : pe_X d 212 (36, [some (.inr (.inr M)), some (.inl x1), some (.inl x2), some (.inl x3)], [], pm_h M σ q y) Φ := by
  refine pe_blk 22 2 ck212 [] (cond (decide ((pe_w x3) < 0)) 63 40, [some (.inr (.inr M)), some (.inl x1), some (.inl x2), some (.inl x3)], [], pm_h M σ q y) rfl ?_ ?_
  · exact trivial
  · try simp (disch := omega) only [pe_wi w0]
    exact pe_two k1 k2
theorem b212_40 {d : Nat} {Φ : Option pe_V → pe_H → Prop} {σ : pe_H} {M q : Nat} {y : Nat → Int → Int} (hF : pm_F M σ) {x1 : Int} {x2 : Int} {x3 : Int}    (k : pe_M d 135 [.inl (y 0 30), .inl x3] (pm_h M σ q y) (fun r σ' => pe_X d 212 (48, [some (.inr (.inr M)), some (.inl x1), some (.inl x2), some (.inl x3)], r.toList ++ [], σ') Φ)) : pe_X d 212 (40, [some (.inr (.inr M)), some (.inl x1), some (.inl x2), some (.inl x3)], [], pm_h M σ q y) Φ := by
  refine pe_blk 24 3 ck212 [pe_K (pm_h M σ q y) M = 9] (45, [some (.inr (.inr M)), some (.inl x1), some (.inl x2), some (.inl x3)], [.inl x3, .inl (pe_I (pm_h M σ q y) M 30)], pm_h M σ q y) rfl ?_ ?_
  · first
    | (simp (disch := omega) only [pe_all, pe_I_wR, pe_K_wI, pe_K_wR, pm_I0, pm_KM hF, pm_Kh, pm_uj, pm_uk, pm_us]; done)
    | (simp (disch := omega) only [pe_all, pe_I_wR, pe_K_wI, pe_K_wR, pm_I0, pm_KM hF, pm_Kh, pm_uj, pm_uk, pm_us]; (repeat' apply And.intro) <;> first | assumption | omega | decide)
  · try simp (disch := omega) only [pe_I_wR, pe_K_wI, pe_K_wR, pm_I0, pm_KM hF, pm_Kh, pm_uj, pm_uk, pm_us]
    exact pe_cal 27 ck212 rfl rfl rfl trivial k
theorem b212_48 {d : Nat} {Φ : Option pe_V → pe_H → Prop} {σ : pe_H} {M q : Nat} {y : Nat → Int → Int} (hF : pm_F M σ) {x1 : Int} {x2 : Int} {x3 : Int} {s0 : Int}  (w0 : pe_in s0 := by unfold pe_in; omega)  (k1 : s0 = 0 → pe_X d 212 (55, [some (.inr (.inr M)), some (.inl x1), some (.inl x2), some (.inl x3)], [], pm_h M σ q y) Φ) (k2 : ¬ (s0 = 0) → pe_X d 212 (51, [some (.inr (.inr M)), some (.inl x1), some (.inl x2), some (.inl x3)], [], pm_h M σ q y) Φ) : pe_X d 212 (48, [some (.inr (.inr M)), some (.inl x1), some (.inl x2), some (.inl x3)], [.inl s0], pm_h M σ q y) Φ := by
  refine pe_blk 28 1 ck212 [] (cond (decide ((pe_w s0) = 0)) 55 51, [some (.inr (.inr M)), some (.inl x1), some (.inl x2), some (.inl x3)], [], pm_h M σ q y) rfl ?_ ?_
  · exact trivial
  · try simp (disch := omega) only [pe_wi w0]
    exact pe_two k1 k2
theorem b212_51 {d : Nat} {Φ : Option pe_V → pe_H → Prop} {σ : pe_H} {M q : Nat} {y : Nat → Int → Int} (hF : pm_F M σ) {o1 : Option pe_V} {x2 : Int} {x3 : Int}    (k : pe_X d 212 (56, [some (.inr (.inr M)), o1, some (.inl x2), some (.inl x3)], [.inl x3], pm_h M σ q y) Φ) : pe_X d 212 (51, [some (.inr (.inr M)), o1, some (.inl x2), some (.inl x3)], [], pm_h M σ q y) Φ := by
  refine pe_blk 29 2 ck212 [] (56, [some (.inr (.inr M)), o1, some (.inl x2), some (.inl x3)], [.inl x3], pm_h M σ q y) rfl ?_ ?_
  · exact trivial
  · exact k
theorem b212_55 {d : Nat} {Φ : Option pe_V → pe_H → Prop} {σ : pe_H} {M q : Nat} {y : Nat → Int → Int} (hF : pm_F M σ) {x1 : Int} {x2 : Int} {x3 : Int}    (k : pe_X d 212 (56, [some (.inr (.inr M)), some (.inl x1), some (.inl x2), some (.inl x3)], [.inl x1], pm_h M σ q y) Φ) : pe_X d 212 (55, [some (.inr (.inr M)), some (.inl x1), some (.inl x2), some (.inl x3)], [], pm_h M σ q y) Φ := by
  refine pe_blk 31 1 ck212 [] (56, [some (.inr (.inr M)), some (.inl x1), some (.inl x2), some (.inl x3)], [.inl x1], pm_h M σ q y) rfl ?_ ?_
  · exact trivial
  · exact k
theorem b212_56 {d : Nat} {Φ : Option pe_V → pe_H → Prop} {σ : pe_H} {M q : Nat} {y : Nat → Int → Int} (hF : pm_F M σ) {o1 : Option pe_V} {x2 : Int} {x3 : Int} {s0 : Int}    (k : pe_X d 212 (36, [some (.inr (.inr M)), some (.inl s0), some (.inl x2), some (.inl (x3 + (-1)))], [], pm_h M σ q y) Φ) : pe_X d 212 (56, [some (.inr (.inr M)), o1, some (.inl x2), some (.inl x3)], [.inl s0], pm_h M σ q y) Φ := by
  refine pe_blk 32 3 ck212 [] (36, [some (.inr (.inr M)), some (.inl s0), some (.inl x2), some (.inl (x3 + (-1)))], [], pm_h M σ q y) rfl ?_ ?_
  · exact trivial
  · exact k
theorem b212_63 {d : Nat} {Φ : Option pe_V → pe_H → Prop} {σ : pe_H} {M q : Nat} {y : Nat → Int → Int} (hF : pm_F M σ) {x1 : Int} {x2 : Int} {o3 : Option pe_V}    (k : pe_X d 212 (14, [some (.inr (.inr M)), some (.inl x1), some (.inl (x2 + 1)), o3], [], pm_h M σ q y) Φ) : pe_X d 212 (63, [some (.inr (.inr M)), some (.inl x1), some (.inl x2), o3], [], pm_h M σ q y) Φ := by
  refine pe_blk 35 2 ck212 [] (14, [some (.inr (.inr M)), some (.inl x1), some (.inl (x2 + 1)), o3], [], pm_h M σ q y) rfl ?_ ?_
  · exact trivial
  · exact k
theorem b212_69 {d : Nat} {Φ : Option pe_V → pe_H → Prop} {σ : pe_H} {M q : Nat} {y : Nat → Int → Int} (hF : pm_F M σ) {x1 : Int} {o2 : Option pe_V} {o3 : Option pe_V}    (k : pe_M d 188 [.inr (.inr M)] (pm_h M σ q y) (fun r σ' => pe_X d 212 (73, [some (.inr (.inr M)), some (.inl x1), o2, o3], r.toList ++ [], σ') Φ)) : pe_X d 212 (69, [some (.inr (.inr M)), some (.inl x1), o2, o3], [], pm_h M σ q y) Φ := by
  refine pe_blk 37 1 ck212 [] (70, [some (.inr (.inr M)), some (.inl x1), o2, o3], [.inr (.inr M)], pm_h M σ q y) rfl ?_ ?_
  · exact trivial
  · try simp (disch := omega) only [pe_K_wI, pe_K_wR, pm_KM hF, pm_Kh]
    have hrc : pe_K (pm_h M σ q y) M = 9 := by first | assumption | (simp (disch := omega) only [pe_K_wI, pe_K_wR, pm_KM hF, pm_Kh]; done) | (simp (disch := omega) only [pe_K_wI, pe_K_wR, pm_KM hF, pm_Kh]; assumption)
    exact pe_cal 38 ck212 rfl rfl rfl ⟨hrc, by decide⟩ k
theorem b212_73 {d : Nat} {Φ : Option pe_V → pe_H → Prop} {σ : pe_H} {M q : Nat} {y : Nat → Int → Int} (hF : pm_F M σ) {x1 : Int} {o2 : Option pe_V} {o3 : Option pe_V}    (k : Φ (some (.inl x1)) (pm_h M σ q y)) : pe_X d 212 (73, [some (.inr (.inr M)), some (.inl x1), o2, o3], [], pm_h M σ q y) Φ := by
  refine pe_blk 39 1 ck212 [] (74, [some (.inr (.inr M)), some (.inl x1), o2, o3], [.inl x1], pm_h M σ q y) rfl ?_ ?_
  · exact trivial
  · exact pe_fine 40 ck212 rfl rfl rfl trivial k
-- StepMachinesModel.leastOf(I)J
def T213 : List (Nat × Instr × Nat) := [(0, .iload_n 0, 1), (1, .ifCond .ne 9, 3), (4, .ldc2_w 406, 3), (7, .goto 17, 3), (10, .iload_n 0, 1), (11, .iconst 1, 1), (12, .if_icmp .ne 9, 3), (15, .ldc2_w 408, 3), (18, .goto 6, 3), (21, .ldc2_w 410, 3), (24, .lreturn, 1)]
theorem ck213 : pe_ctx 213 9 false (some .long) 1 T213 := ⟨rfl, rfl, rfl, rfl, by decide +kernel, by decide, by decide⟩
theorem b213_0 {d : Nat} {Φ : Option pe_V → pe_H → Prop} {σ : pe_H} {M q : Nat} {y : Nat → Int → Int} (hF : pm_F M σ) {x0 : Int}  (w0 : pe_in x0 := by unfold pe_in; omega)  (k1 : ¬ x0 = 0 → pe_X d 213 (10, [some (.inl x0)], [], pm_h M σ q y) Φ) (k2 : x0 = 0 → pe_X d 213 (4, [some (.inl x0)], [], pm_h M σ q y) Φ) : pe_X d 213 (0, [some (.inl x0)], [], pm_h M σ q y) Φ := by
  refine pe_blk 0 2 ck213 [] (cond (decide (¬ (pe_w x0) = 0)) 10 4, [some (.inl x0)], [], pm_h M σ q y) rfl ?_ ?_
  · exact trivial
  · try simp (disch := omega) only [pe_wi w0]
    exact pe_two' k1 k2
theorem b213_4 {d : Nat} {Φ : Option pe_V → pe_H → Prop} {σ : pe_H} {M q : Nat} {y : Nat → Int → Int} (hF : pm_F M σ) {o0 : Option pe_V}    (k : pe_X d 213 (24, [o0], [.inr (.inl (-128))], pm_h M σ q y) Φ) : pe_X d 213 (4, [o0], [], pm_h M σ q y) Φ := by
  refine pe_blk 2 2 ck213 [] (24, [o0], [.inr (.inl (-128))], pm_h M σ q y) rfl ?_ ?_
  · exact trivial
  · exact k
theorem b213_10 {d : Nat} {Φ : Option pe_V → pe_H → Prop} {σ : pe_H} {M q : Nat} {y : Nat → Int → Int} (hF : pm_F M σ) {x0 : Int}  (w0 : pe_in x0 := by unfold pe_in; omega)  (k1 : ¬ x0 = 1 → pe_X d 213 (21, [some (.inl x0)], [], pm_h M σ q y) Φ) (k2 : x0 = 1 → pe_X d 213 (15, [some (.inl x0)], [], pm_h M σ q y) Φ) : pe_X d 213 (10, [some (.inl x0)], [], pm_h M σ q y) Φ := by
  refine pe_blk 4 3 ck213 [] (cond (decide (¬ (pe_w x0) = (pe_w 1))) 21 15, [some (.inl x0)], [], pm_h M σ q y) rfl ?_ ?_
  · exact trivial
  · try simp (disch := omega) only [pe_wi w0, pe_wi (x := 1) ⟨by decide, by decide⟩]
    exact pe_two' k1 k2
theorem b213_15 {d : Nat} {Φ : Option pe_V → pe_H → Prop} {σ : pe_H} {M q : Nat} {y : Nat → Int → Int} (hF : pm_F M σ) {o0 : Option pe_V}    (k : pe_X d 213 (24, [o0], [.inr (.inl (-32768))], pm_h M σ q y) Φ) : pe_X d 213 (15, [o0], [], pm_h M σ q y) Φ := by
  refine pe_blk 7 2 ck213 [] (24, [o0], [.inr (.inl (-32768))], pm_h M σ q y) rfl ?_ ?_
  · exact trivial
  · exact k
theorem b213_21 {d : Nat} {Φ : Option pe_V → pe_H → Prop} {σ : pe_H} {M q : Nat} {y : Nat → Int → Int} (hF : pm_F M σ) {o0 : Option pe_V}    (k : pe_X d 213 (24, [o0], [.inr (.inl (-2147483648))], pm_h M σ q y) Φ) : pe_X d 213 (21, [o0], [], pm_h M σ q y) Φ := by
  refine pe_blk 9 1 ck213 [] (24, [o0], [.inr (.inl (-2147483648))], pm_h M σ q y) rfl ?_ ?_
  · exact trivial
  · exact k
theorem b213_24 {d : Nat} {Φ : Option pe_V → pe_H → Prop} {σ : pe_H} {M q : Nat} {y : Nat → Int → Int} (hF : pm_F M σ) {o0 : Option pe_V} {z0 : Int}    (k : Φ (some (.inr (.inl z0))) (pm_h M σ q y)) : pe_X d 213 (24, [o0], [.inr (.inl z0)], pm_h M σ q y) Φ := by
  exact pe_fine 10 ck213 rfl rfl rfl trivial k
-- StepMachinesModel.isSkipped(II)Z
def T214 : List (Nat × Instr × Nat) := [(0, .aload_n 0, 1), (1, .getfield 107, 3), (4, .bipush 100, 2), (6, .iload_n 1, 1), (7, .imul, 1), (8, .iload_n 2, 1), (9, .iadd, 1), (10, .laload, 1), (11, .aload_n 0, 1), (12, .getfield 101, 3), (15, .iload_n 1, 1), (16, .iaload, 1), (17, .invokestatic 412, 3), (20, .lcmp, 1), (21, .ifCond .ne 7, 3), (24, .iconst 1, 1), (25, .goto 4, 3), (28, .iconst 0, 1), (29, .ireturn, 1)]
theorem ck214 : pe_ctx 214 9 false (some .boolean) 3 T214 := ⟨rfl, rfl, rfl, rfl, by decide +kernel, by decide, by decide⟩
theorem b214_0 {d : Nat} {Φ : Option pe_V → pe_H → Prop} {σ : pe_H} {M q : Nat} {y : Nat → Int → Int} (hF : pm_F M σ) {x1 : Int} {x2 : Int}  (w0 : pe_in ((100 * x1) + x2) := by unfold pe_in; omega) (w1 : pe_in x1 := by unfold pe_in; omega) (h0 : 0 ≤ ((100 * x1) + x2) := by first | assumption | omega) (h1 : ((100 * x1) + x2) < 800 := by first | assumption | omega) (h2 : 0 ≤ x1 := by first | assumption | omega) (h3 : x1 < 8 := by first | assumption | omega) (k : pe_M d 213 [.inl (y 30 x1)] (pm_h M σ q y) (fun r σ' => pe_X d 214 (20, [some (.inr (.inr M)), some (.inl x1), some (.inl x2)], r.toList ++ [.inr (.inl (y 32 ((100 * x1) + x2)))], σ') Φ)) : pe_X d 214 (0, [some (.inr (.inr M)), some (.inl x1), some (.inl x2)], [], pm_h M σ q y) Φ := by
  refine pe_blk 0 12 ck214 [pe_K (pm_h M σ q y) M = 9, pe_K (pm_h M σ q y) (pe_R (pm_h M σ q y) M 36) = 11, 0 ≤ (pe_w ((100 * x1) + x2)), (pe_w ((100 * x1) + x2)) < pe_L (pm_h M σ q y) (pe_R (pm_h M σ q y) M 36), pe_K (pm_h M σ q y) M = 9, pe_K (pm_h M σ q y) (pe_R (pm_h M σ q y) M 34) = 10, 0 ≤ (pe_w x1), (pe_w x1) < pe_L (pm_h M σ q y) (pe_R (pm_h M σ q y) M 34)] (17, [some (.inr (.inr M)), some (.inl x1), some (.inl x2)], [.inl (pe_I (pm_h M σ q y) (pe_R (pm_h M σ q y) M 34) (pe_w x1)), .inr (.inl (pe_I (pm_h M σ q y) (pe_R (pm_h M σ q y) M 36) (pe_w ((100 * x1) + x2))))], pm_h M σ q y) rfl ?_ ?_
  · first
    | (simp (disch := omega) only [pe_all, pe_wi w0, pe_wi w1, pe_I_wR, pe_K_wI, pe_K_wR, pe_L_wI, pe_L_wR, pe_R_nej, pe_R_wI, pm_Ik, pm_K30 hF, pm_K32 hF, pm_KM hF, pm_Kh, pm_L30 hF, pm_L32 hF, pm_Lh, pm_R34 hF, pm_R36 hF, pm_Rh, pm_uj, pm_uk, pm_us]; done)
    | (simp (disch := omega) only [pe_all, pe_wi w0, pe_wi w1, pe_I_wR, pe_K_wI, pe_K_wR, pe_L_wI, pe_L_wR, pe_R_nej, pe_R_wI, pm_Ik, pm_K30 hF, pm_K32 hF, pm_KM hF, pm_Kh, pm_L30 hF, pm_L32 hF, pm_Lh, pm_R34 hF, pm_R36 hF, pm_Rh, pm_uj, pm_uk, pm_us]; (repeat' apply And.intro) <;> first | assumption | omega | decide)
  · try simp (disch := omega) only [pe_wi w0, pe_wi w1, pe_I_wR, pe_K_wI, pe_K_wR, pe_L_wI, pe_L_wR, pe_R_nej, pe_R_wI, pm_Ik, pm_K30 hF, pm_K32 hF, pm_KM hF, pm_Kh, pm_L30 hF, pm_L32 hF, pm_Lh, pm_R34 hF, pm_R36 hF, pm_Rh, pm_uj, pm_uk, pm_us]
    exact pe_cal 12 ck214 rfl rfl rfl trivial k
theorem b214_20 {d : Nat} {Φ : Option pe_V → pe_H → Prop} {σ : pe_H} {M q : Nat} {y : Nat → Int → Int} (hF : pm_F M σ) {o1 : Option pe_V} {o2 : Option pe_V} {z0 : Int} {z1 : Int}  (w0 : pe_in (pe_lcmp z0 z1) := by unfold pe_in; omega)  (k1 : ¬ (pe_lcmp z0 z1) = 0 → pe_X d 214 (28, [some (.inr (.inr M)), o1, o2], [], pm_h M σ q y) Φ) (k2 : (pe_lcmp z0 z1) = 0 → pe_X d 214 (24, [some (.inr (.inr M)), o1, o2], [], pm_h M σ q y) Φ) : pe_X d 214 (20, [some (.inr (.inr M)), o1, o2], [.inr (.inl z1), .inr (.inl z0)], pm_h M σ q y) Φ := by
  refine pe_blk 13 2 ck214 [] (cond (decide (¬ (pe_w (pe_lcmp z0 z1)) = 0)) 28 24, [some (.inr (.inr M)), o1, o2], [], pm_h M σ q y) rfl ?_ ?_
  · exact trivial
  · try simp (disch := omega) only [pe_wi w0]
    exact pe_two' k1 k2
theorem b214_24 {d : Nat} {Φ : Option pe_V → pe_H → Prop} {σ : pe_H} {M q : Nat} {y : Nat → Int → Int} (hF : pm_F M σ) {o1 : Option pe_V} {o2 : Option pe_V}    (k : pe_X d 214 (29, [some (.inr (.inr M)), o1, o2], [.inl 1], pm_h M σ q y) Φ) : pe_X d 214 (24, [some (.inr (.inr M)), o1, o2], [], pm_h M σ q y) Φ := by
  refine pe_blk 15 2 ck214 [] (29, [some (.inr (.inr M)), o1, o2], [.inl 1], pm_h M σ q y) rfl ?_ ?_
  · exact trivial
  · exact k
theorem b214_28 {d : Nat} {Φ : Option pe_V → pe_H → Prop} {σ : pe_H} {M q : Nat} {y : Nat → Int → Int} (hF : pm_F M σ) {o1 : Option pe_V} {o2 : Option pe_V}    (k : pe_X d 214 (29, [some (.inr (.inr M)), o1, o2], [.inl 0], pm_h M σ q y) Φ) : pe_X d 214 (28, [some (.inr (.inr M)), o1, o2], [], pm_h M σ q y) Φ := by
  refine pe_blk 17 1 ck214 [] (29, [some (.inr (.inr M)), o1, o2], [.inl 0], pm_h M σ q y) rfl ?_ ?_
  · exact trivial
  · exact k
theorem b214_29 {d : Nat} {Φ : Option pe_V → pe_H → Prop} {σ : pe_H} {M q : Nat} {y : Nat → Int → Int} (hF : pm_F M σ) {o1 : Option pe_V} {o2 : Option pe_V} {s0 : Int}   (h0 : s0 = 0 ∨ s0 = 1 := by first | assumption | omega) (k : Φ (some (.inl s0)) (pm_h M σ q y)) : pe_X d 214 (29, [some (.inr (.inr M)), o1, o2], [.inl s0], pm_h M σ q y) Φ := by
  exact pe_fine 18 ck214 rfl rfl rfl h0 k
-- StepMachinesModel.isYieldRow(II)Z
def T215 : List (Nat × Instr × Nat) := [(0, .iconst 1, 1), (1, .istore_n 3, 1), (2, .aload_n 0, 1), (3, .iload_n 2, 1), (4, .iconst 0, 1), (5, .iconst 0, 1), (6, .invokevirtual 318, 3), (9, .pop, 1), (10, .aload_n 0, 1), (11, .getfield 144, 3), (14, .iconst 1, 1), (15, .isub, 1), (16, .istore 4, 2), (18, .iconst 0, 1), (19, .istore 5, 2), (21, .iload 5, 2), (23, .aload_n 0, 1), (24, .getfield 104, 3), (27, .iload_n 1, 1), (28, .iaload, 1), (29, .if_icmp .ge 82, 3), (32, .iload_n 3, 1), (33, .ifCond .eq 78, 3), (36, .aload_n 0, 1), (37, .iload 4, 2), (39, .invokevirtual 249, 3), (42, .istore_n 3, 1), (43, .iload_n 3, 1), (44, .ifCond .eq 61, 3), (47, .aload_n 0, 1), (48, .iload 4, 2), (50, .iconst 0, 1), (51, .invokevirtual 303, 3), (54, .aload_n 0, 1), (55, .getfield 28, 3), (58, .iload 4, 2), (60, .iaload, 1), (61, .iconst 2, 1), (62, .if_icmp .ne 41, 3), (65, .aload_n 0, 1), (66, .iload_n 1, 1), (67, .iload 5, 2), (69, .invokevirtual 416, 3), (72, .ifCond .ne 27, 3), (75, .aload_n 0, 1), (76, .getfield 107, 3), (79, .bipush 100, 2), (81, .iload_n 1, 1), (82, .imul, 1), (83, .iload 5, 2), (85, .iadd, 1), (86, .laload, 1), (87, .aload_n 0, 1), (88, .getfield 34, 3), (91, .iload 4, 2), (93, .iaload, 1), (94, .i2l, 1), (95, .lcmp, 1), (96, .ifCond .ne 7, 3), (99, .iconst 1, 1), (100, .goto 4, 3), (103, .iconst 0, 1), (104, .istore_n 3, 1), (105, .iinc 5 1, 3), (108, .goto (-87), 3), (111, .aload_n 0, 1), (112, .invokevirtual 344, 3), (115, .iload_n 3, 1), (116, .ireturn, 1)]
theorem ck215 : pe_ctx 215 9 false (some .boolean) 6 T215 := ⟨rfl, rfl, rfl, rfl, by decide +kernel, by decide, by decide⟩
theorem b215_0 {d : Nat} {Φ : Option pe_V → pe_H → Prop} {σ : pe_H} {M q : Nat} {y : Nat → Int → Int} (hF : pm_F M σ) {x1 : Int} {x2 : Int} {o3 : Option pe_V} {o4 : Option pe_V} {o5 : Option pe_V}    (k : pe_M d 171 [.inr (.inr M), .inl x2, .inl 0, .inl 0] (pm_h M σ q y) (fun r σ' => pe_X d 215 (9, [some (.inr (.inr M)), some (.inl x1), some (.inl x2), some (.inl 1), o4, o5], r.toList ++ [], σ') Φ)) : pe_X d 215 (0, [some (.inr (.inr M)), some (.inl x1), some (.inl x2), o3, o4, o5], [], pm_h M σ q y) Φ := by
  refine pe_blk 0 6 ck215 [] (6, [some (.inr (.inr M)), some (.inl x1), some (.inl x2), some (.inl 1), o4, o5], [.inl 0, .inl 0, .inl x2, .inr (.inr M)], pm_h M σ q y) rfl ?_ ?_
  · exact trivial
  · try simp (disch := omega) only [pe_K_wI, pe_K_wR, pm_KM hF, pm_Kh]
    have hrc : pe_K (pm_h M σ q y) M = 9 := by first | assumption | (simp (disch := omega) only [pe_K_wI, pe_K_wR, pm_KM hF, pm_Kh]; done) | (simp (disch := omega) only [pe_K_wI, pe_K_wR, pm_KM hF, pm_Kh]; assumption)
    exact pe_cal 6 ck215 rfl rfl rfl ⟨hrc, by decide⟩ k
theorem b215_9 {d : Nat} {Φ : Option pe_V → pe_H → Prop} {σ : pe_H} {M q : Nat} {y : Nat → Int → Int} (hF : pm_F M σ) {x1 : Int} {o2 : Option pe_V} {x3 : Int} {o4 : Option pe_V} {o5 : Option pe_V} {s0 : Int}    (k : pe_X d 215 (21, [some (.inr (.inr M)), some (.inl x1), o2, some (.inl x3), some (.inl ((y 0 3) - 1)), some (.inl 0)], [], pm_h M σ q y) Φ) : pe_X d 215 (9, [some (.inr (.inr M)), some (.inl x1), o2, some (.inl x3), o4, o5], [.inl s0], pm_h M σ q y) Φ := by
  refine pe_blk 7 8 ck215 [pe_K (pm_h M σ q y) M = 9] (21, [some (.inr (.inr M)), some (.inl x1), o2, some (.inl x3), some (.inl ((pe_I (pm_h M σ q y) M 3) - 1)), some (.inl 0)], [], pm_h M σ q y) rfl ?_ ?_
  · first
    | (simp (disch := omega) only [pe_all, pe_I_wR, pe_K_wI, pe_K_wR, pm_I0, pm_KM hF, pm_Kh, pm_uj, pm_uk, pm_us]; done)
    | (simp (disch := omega) only [pe_all, pe_I_wR, pe_K_wI, pe_K_wR, pm_I0, pm_KM hF, pm_Kh, pm_uj, pm_uk, pm_us]; (repeat' apply And.intro) <;> first | assumption | omega | decide)
  · try simp (disch := omega) only [pe_I_wR, pe_K_wI, pe_K_wR, pm_I0, pm_KM hF, pm_Kh, pm_uj, pm_uk, pm_us]
    exact k
theorem b215_21 {d : Nat} {Φ : Option pe_V → pe_H → Prop} {σ : pe_H} {M q : Nat} {y : Nat → Int → Int} (hF : pm_F M σ) {x1 : Int} {o2 : Option pe_V} {x3 : Int} {x4 : Int} {x5 : Int}  (w0 : pe_in x1 := by unfold pe_in; omega) (w1 : pe_in (y 31 x1) := by unfold pe_in; omega) (w2 : pe_in x5 := by unfold pe_in; omega) (h0 : 0 ≤ x1 := by first | assumption | omega) (h1 : x1 < 8 := by first | assumption | omega) (k1 : (y 31 x1) ≤ x5 → pe_X d 215 (111, [some (.inr (.inr M)), some (.inl x1), o2, some (.inl x3), some (.inl x4), some (.inl x5)], [], pm_h M σ q y) Φ) (k2 : ¬ ((y 31 x1) ≤ x5) → pe_X d 215 (32, [some (.inr (.inr M)), some (.inl x1), o2, some (.inl x3), some (.inl x4), some (.inl x5)], [], pm_h M σ q y) Φ) : pe_X d 215 (21, [some (.inr (.inr M)), some (.inl x1), o2, some (.inl x3), some (.inl x4), some (.inl x5)], [], pm_h M σ q y) Φ := by
  refine pe_blk 15 6 ck215 [pe_K (pm_h M σ q y) M = 9, pe_K (pm_h M σ q y) (pe_R (pm_h M σ q y) M 35) = 10, 0 ≤ (pe_w x1), (pe_w x1) < pe_L (pm_h M σ q y) (pe_R (pm_h M σ q y) M 35)] (cond (decide ((pe_w (pe_I (pm_h M σ q y) (pe_R (pm_h M σ q y) M 35) (pe_w x1))) ≤ (pe_w x5))) 111 32, [some (.inr (.inr M)), some (.inl x1), o2, some (.inl x3), some (.inl x4), some (.inl x5)], [], pm_h M σ q y) rfl ?_ ?_
  · first
    | (simp (disch := omega) only [pe_all, pe_wi w0, pe_wi w1, pe_wi w2, pe_I_wR, pe_K_wI, pe_K_wR, pe_L_wI, pe_L_wR, pe_R_nej, pe_R_wI, pm_Ik, pm_K31 hF, pm_KM hF, pm_Kh, pm_L31 hF, pm_Lh, pm_R35 hF, pm_Rh, pm_uj, pm_uk, pm_us]; done)
    | (simp (disch := omega) only [pe_all, pe_wi w0, pe_wi w1, pe_wi w2, pe_I_wR, pe_K_wI, pe_K_wR, pe_L_wI, pe_L_wR, pe_R_nej, pe_R_wI, pm_Ik, pm_K31 hF, pm_KM hF, pm_Kh, pm_L31 hF, pm_Lh, pm_R35 hF, pm_Rh, pm_uj, pm_uk, pm_us]; (repeat' apply And.intro) <;> first | assumption | omega | decide)
  · try simp (disch := omega) only [pe_wi w0, pe_wi w1, pe_wi w2, pe_I_wR, pe_K_wI, pe_K_wR, pe_L_wI, pe_L_wR, pe_R_nej, pe_R_wI, pm_Ik, pm_K31 hF, pm_KM hF, pm_Kh, pm_L31 hF, pm_Lh, pm_R35 hF, pm_Rh, pm_uj, pm_uk, pm_us]
    exact pe_two k1 k2
theorem b215_32 {d : Nat} {Φ : Option pe_V → pe_H → Prop} {σ : pe_H} {M q : Nat} {y : Nat → Int → Int} (hF : pm_F M σ) {x1 : Int} {o2 : Option pe_V} {x3 : Int} {x4 : Int} {x5 : Int}  (w0 : pe_in x3 := by unfold pe_in; omega)  (k1 : x3 = 0 → pe_X d 215 (111, [some (.inr (.inr M)), some (.inl x1), o2, some (.inl x3), some (.inl x4), some (.inl x5)], [], pm_h M σ q y) Φ) (k2 : ¬ (x3 = 0) → pe_X d 215 (36, [some (.inr (.inr M)), some (.inl x1), o2, some (.inl x3), some (.inl x4), some (.inl x5)], [], pm_h M σ q y) Φ) : pe_X d 215 (32, [some (.inr (.inr M)), some (.inl x1), o2, some (.inl x3), some (.inl x4), some (.inl x5)], [], pm_h M σ q y) Φ := by
  refine pe_blk 21 2 ck215 [] (cond (decide ((pe_w x3) = 0)) 111 36, [some (.inr (.inr M)), some (.inl x1), o2, some (.inl x3), some (.inl x4), some (.inl x5)], [], pm_h M σ q y) rfl ?_ ?_
  · exact trivial
  · try simp (disch := omega) only [pe_wi w0]
    exact pe_two k1 k2
theorem b215_36 {d : Nat} {Φ : Option pe_V → pe_H → Prop} {σ : pe_H} {M q : Nat} {y : Nat → Int → Int} (hF : pm_F M σ) {x1 : Int} {o2 : Option pe_V} {o3 : Option pe_V} {x4 : Int} {x5 : Int}    (k : pe_M d 140 [.inr (.inr M), .inl x4] (pm_h M σ q y) (fun r σ' => pe_X d 215 (42, [some (.inr (.inr M)), some (.inl x1), o2, o3, some (.inl x4), some (.inl x5)], r.toList ++ [], σ') Φ)) : pe_X d 215 (36, [some (.inr (.inr M)), some (.inl x1), o2, o3, some (.inl x4), some (.inl x5)], [], pm_h M σ q y) Φ := by
  refine pe_blk 23 2 ck215 [] (39, [some (.inr (.inr M)), some (.inl x1), o2, o3, some (.inl x4), some (.inl x5)], [.inl x4, .inr (.inr M)], pm_h M σ q y) rfl ?_ ?_
  · exact trivial
  · try simp (disch := omega) only [pe_K_wI, pe_K_wR, pm_KM hF, pm_Kh]
    have hrc : pe_K (pm_h M σ q y) M = 9 := by first | assumption | (simp (disch := omega) only [pe_K_wI, pe_K_wR, pm_KM hF, pm_Kh]; done) | (simp (disch := omega) only [pe_K_wI, pe_K_wR, pm_KM hF, pm_Kh]; assumption)
    exact pe_cal 25 ck215 rfl rfl rfl ⟨hrc, by decide⟩ k
theorem b215_42 {d : Nat} {Φ : Option pe_V → pe_H → Prop} {σ : pe_H} {M q : Nat} {y : Nat → Int → Int} (hF : pm_F M σ) {x1 : Int} {o2 : Option pe_V} {o3 : Option pe_V} {x4 : Int} {x5 : Int} {s0 : Int}  (w0 : pe_in s0 := by unfold pe_in; omega)  (k1 : s0 = 0 → pe_X d 215 (105, [some (.inr (.inr M)), some (.inl x1), pe_nl o2, some (.inl s0), some (.inl x4), some (.inl x5)], [], pm_h M σ q y) Φ) (k2 : ¬ (s0 = 0) → pe_X d 215 (47, [some (.inr (.inr M)), some (.inl x1), pe_nl o2, some (.inl s0), some (.inl x4), some (.inl x5)], [], pm_h M σ q y) Φ) : pe_X d 215 (42, [some (.inr (.inr M)), some (.inl x1), o2, o3, some (.inl x4), some (.inl x5)], [.inl s0], pm_h M σ q y) Φ := by
  refine pe_blk 26 3 ck215 [] (cond (decide ((pe_w s0) = 0)) 105 47, [some (.inr (.inr M)), some (.inl x1), pe_nl o2, some (.inl s0), some (.inl x4), some (.inl x5)], [], pm_h M σ q y) rfl ?_ ?_
  · exact trivial
  · try simp (disch := omega) only [pe_wi w0]
    exact pe_two k1 k2
theorem b215_47 {d : Nat} {Φ : Option pe_V → pe_H → Prop} {σ : pe_H} {M q : Nat} {y : Nat → Int → Int} (hF : pm_F M σ) {x1 : Int} {o2 : Option pe_V} {o3 : Option pe_V} {x4 : Int} {x5 : Int}    (k : pe_M d 166 [.inr (.inr M), .inl x4, .inl 0] (pm_h M σ q y) (fun r σ' => pe_X d 215 (54, [some (.inr (.inr M)), some (.inl x1), o2, o3, some (.inl x4), some (.inl x5)], r.toList ++ [], σ') Φ)) : pe_X d 215 (47, [some (.inr (.inr M)), some (.inl x1), o2, o3, some (.inl x4), some (.inl x5)], [], pm_h M σ q y) Φ := by
  refine pe_blk 29 3 ck215 [] (51, [some (.inr (.inr M)), some (.inl x1), o2, o3, some (.inl x4), some (.inl x5)], [.inl 0, .inl x4, .inr (.inr M)], pm_h M σ q y) rfl ?_ ?_
  · exact trivial
  · try simp (disch := omega) only [pe_K_wI, pe_K_wR, pm_KM hF, pm_Kh]
    have hrc : pe_K (pm_h M σ q y) M = 9 := by first | assumption | (simp (disch := omega) only [pe_K_wI, pe_K_wR, pm_KM hF, pm_Kh]; done) | (simp (disch := omega) only [pe_K_wI, pe_K_wR, pm_KM hF, pm_Kh]; assumption)
    exact pe_cal 32 ck215 rfl rfl rfl ⟨hrc, by decide⟩ k
theorem b215_54 {d : Nat} {Φ : Option pe_V → pe_H → Prop} {σ : pe_H} {M q : Nat} {y : Nat → Int → Int} (hF : pm_F M σ) {x1 : Int} {o2 : Option pe_V} {o3 : Option pe_V} {x4 : Int} {x5 : Int}  (w0 : pe_in x4 := by unfold pe_in; omega) (w1 : pe_in (y 7 x4) := by unfold pe_in; omega) (h0 : 0 ≤ x4 := by first | assumption | omega) (h1 : x4 < 8 := by first | assumption | omega) (k1 : ¬ (y 7 x4) = 2 → pe_X d 215 (103, [some (.inr (.inr M)), some (.inl x1), o2, o3, some (.inl x4), some (.inl x5)], [], pm_h M σ q y) Φ) (k2 : (y 7 x4) = 2 → pe_X d 215 (65, [some (.inr (.inr M)), some (.inl x1), o2, o3, some (.inl x4), some (.inl x5)], [], pm_h M σ q y) Φ) : pe_X d 215 (54, [some (.inr (.inr M)), some (.inl x1), o2, o3, some (.inl x4), some (.inl x5)], [], pm_h M σ q y) Φ := by
  refine pe_blk 33 6 ck215 [pe_K (pm_h M σ q y) M = 9, pe_K (pm_h M σ q y) (pe_R (pm_h M σ q y) M 7) = 10, 0 ≤ (pe_w x4), (pe_w x4) < pe_L (pm_h M σ q y) (pe_R (pm_h M σ q y) M 7)] (cond (decide (¬ (pe_w (pe_I (pm_h M σ q y) (pe_R (pm_h M σ q y) M 7) (pe_w x4))) = (pe_w 2))) 103 65, [some (.inr (.inr M)), some (.inl x1), o2, o3, some (.inl x4), some (.inl x5)], [], pm_h M σ q y) rfl ?_ ?_
  · first
    | (simp (disch := omega) only [pe_all, pe_wi w0, pe_wi w1, pe_wi (x := 2) ⟨by decide, by decide⟩, pe_I_wR, pe_K_wI, pe_K_wR, pe_L_wI, pe_L_wR, pe_R_nej, pe_R_wI, pm_Ik, pm_K7 hF, pm_KM hF, pm_Kh, pm_L7 hF, pm_Lh, pm_R7 hF, pm_Rh, pm_uj, pm_uk, pm_us]; done)
    | (simp (disch := omega) only [pe_all, pe_wi w0, pe_wi w1, pe_wi (x := 2) ⟨by decide, by decide⟩, pe_I_wR, pe_K_wI, pe_K_wR, pe_L_wI, pe_L_wR, pe_R_nej, pe_R_wI, pm_Ik, pm_K7 hF, pm_KM hF, pm_Kh, pm_L7 hF, pm_Lh, pm_R7 hF, pm_Rh, pm_uj, pm_uk, pm_us]; (repeat' apply And.intro) <;> first | assumption | omega | decide)
  · try simp (disch := omega) only [pe_wi w0, pe_wi w1, pe_wi (x := 2) ⟨by decide, by decide⟩, pe_I_wR, pe_K_wI, pe_K_wR, pe_L_wI, pe_L_wR, pe_R_nej, pe_R_wI, pm_Ik, pm_K7 hF, pm_KM hF, pm_Kh, pm_L7 hF, pm_Lh, pm_R7 hF, pm_Rh, pm_uj, pm_uk, pm_us]
    exact pe_two' k1 k2
theorem b215_65 {d : Nat} {Φ : Option pe_V → pe_H → Prop} {σ : pe_H} {M q : Nat} {y : Nat → Int → Int} (hF : pm_F M σ) {x1 : Int} {o2 : Option pe_V} {o3 : Option pe_V} {x4 : Int} {x5 : Int}    (k : pe_M d 214 [.inr (.inr M), .inl x1, .inl x5] (pm_h M σ q y) (fun r σ' => pe_X d 215 (72, [some (.inr (.inr M)), some (.inl x1), o2, o3, some (.inl x4), some (.inl x5)], r.toList ++ [], σ') Φ)) : pe_X d 215 (65, [some (.inr (.inr M)), some (.inl x1), o2, o3, some (.inl x4), some (.inl x5)], [], pm_h M σ q y) Φ := by
  refine pe_blk 39 3 ck215 [] (69, [some (.inr (.inr M)), some (.inl x1), o2, o3, some (.inl x4), some (.inl x5)], [.inl x5, .inl x1, .inr (.inr M)], pm_h M σ q y) rfl ?_ ?_
  · exact trivial
  · try simp (disch := omega) only [pe_K_wI, pe_K_wR, pm_KM hF, pm_Kh]
    have hrc : pe_K (pm_h M σ q y) M = 9 := by first | assumption | (simp (disch := omega) only [pe_K_wI, pe_K_wR, pm_KM hF, pm_Kh]; done) | (simp (disch := omega) only [pe_K_wI, pe_K_wR, pm_KM hF, pm_Kh]; assumption)
    exact pe_cal 42 ck215 rfl rfl rfl ⟨hrc, by decide⟩ k
theorem b215_72 {d : Nat} {Φ : Option pe_V → pe_H → Prop} {σ : pe_H} {M q : Nat} {y : Nat → Int → Int} (hF : pm_F M σ) {x1 : Int} {o2 : Option pe_V} {o3 : Option pe_V} {x4 : Int} {x5 : Int} {s0 : Int}  (w0 : pe_in s0 := by unfold pe_in; omega)  (k1 : ¬ s0 = 0 → pe_X d 215 (99, [some (.inr (.inr M)), some (.inl x1), o2, o3, some (.inl x4), some (.inl x5)], [], pm_h M σ q y) Φ) (k2 : s0 = 0 → pe_X d 215 (75, [some (.inr (.inr M)), some (.inl x1), o2, o3, some (.inl x4), some (.inl x5)], [], pm_h M σ q y) Φ) : pe_X d 215 (72, [some (.inr (.inr M)), some (.inl x1), o2, o3, some (.inl x4), some (.inl x5)], [.inl s0], pm_h M σ q y) Φ := by
  refine pe_blk 43 1 ck215 [] (cond (decide (¬ (pe_w s0) = 0)) 99 75, [some (.inr (.inr M)), some (.inl x1), o2, o3, some (.inl x4), some (.inl x5)], [], pm_h M σ q y) rfl ?_ ?_
  · exact trivial
  · try simp (disch := omega) only [pe_wi w0]
    exact pe_two' k1 k2
set_option maxRecDepth 8000 in
theorem b215_75 {d : Nat} {Φ : Option pe_V → pe_H → Prop} {σ : pe_H} {M q : Nat} {y : Nat → Int → Int} (hF : pm_F M σ) {x1 : Int} {o2 : Option pe_V} {o3 : Option pe_V} {x4 : Int} {x5 : Int}  (w0 : pe_in ((100 * x1) + x5) := by unfold pe_in; omega) (w1 : pe_in x4 := by unfold pe_in; omega) (w2 : pe_in (y 9 x4) := by unfold pe_in; omega) (w3 : pe_in (pe_lcmp (y 32 ((100 * x1) + x5)) (y 9 x4)) := by unfold pe_in; omega) (h0 : 0 ≤ ((100 * x1) + x5) := by first | assumption | omega) (h1 : ((100 * x1) + x5) < 800 := by first | assumption | omega) (h2 : 0 ≤ x4 := by first | assumption | omega) (h3 : x4 < 8 := by first | assumption | omega) (k1 : ¬ (pe_lcmp (y 32 ((100 * x1) + x5)) (y 9 x4)) = 0 → pe_X d 215 (103, [some (.inr (.inr M)), some (.inl x1), o2, o3, some (.inl x4), some (.inl x5)], [], pm_h M σ q y) Φ) (k2 : (pe_lcmp (y 32 ((100 * x1) + x5)) (y 9 x4)) = 0 → pe_X d 215 (99, [some (.inr (.inr M)), some (.inl x1), o2, o3, some (.inl x4), some (.inl x5)], [], pm_h M σ q y) Φ) : pe_X d 215 (75, [some (.inr (.inr M)), some (.inl x1), o2, o3, some (.inl x4), some (.inl x5)], [], pm_h M σ q y) Φ := by
  refine pe_blk 44 15 ck215 [pe_K (pm_h M σ q y) M = 9, pe_K (pm_h M σ q y) (pe_R (pm_h M σ q y) M 36) = 11, 0 ≤ (pe_w ((100 * x1) + x5)), (pe_w ((100 * x1) + x5)) < pe_L (pm_h M σ q y) (pe_R (pm_h M σ q y) M 36), pe_K (pm_h M σ q y) M = 9, pe_K (pm_h M σ q y) (pe_R (pm_h M σ q y) M 9) = 10, 0 ≤ (pe_w x4), (pe_w x4) < pe_L (pm_h M σ q y) (pe_R (pm_h M σ q y) M 9)] (cond (decide (¬ (pe_w (pe_lcmp (pe_I (pm_h M σ q y) (pe_R (pm_h M σ q y) M 36) (pe_w ((100 * x1) + x5))) (pe_w (pe_I (pm_h M σ q y) (pe_R (pm_h M σ q y) M 9) (pe_w x4))))) = 0)) 103 99, [some (.inr (.inr M)), some (.inl x1), o2, o3, some (.inl x4), some (.inl x5)], [], pm_h M σ q y) rfl ?_ ?_
  · first
    | (simp (disch := omega) only [pe_all, pe_wi w0, pe_wi w1, pe_wi w2, pe_wi w3, pe_I_wR, pe_K_wI, pe_K_wR, pe_L_wI, pe_L_wR, pe_R_nej, pe_R_wI, pm_Ik, pm_K32 hF, pm_K9 hF, pm_KM hF, pm_Kh, pm_L32 hF, pm_L9 hF, pm_Lh, pm_R36 hF, pm_R9 hF, pm_Rh, pm_uj, pm_uk, pm_us]; done)
    | (simp (disch := omega) only [pe_all, pe_wi w0, pe_wi w1, pe_wi w2, pe_wi w3, pe_I_wR, pe_K_wI, pe_K_wR, pe_L_wI, pe_L_wR, pe_R_nej, pe_R_wI, pm_Ik, pm_K32 hF, pm_K9 hF, pm_KM hF, pm_Kh, pm_L32 hF, pm_L9 hF, pm_Lh, pm_R36 hF, pm_R9 hF, pm_Rh, pm_uj, pm_uk, pm_us]; (repeat' apply And.intro) <;> first | assumption | omega | decide)
  · try simp (disch := omega) only [pe_wi w0, pe_wi w1, pe_wi w2, pe_wi w3, pe_I_wR, pe_K_wI, pe_K_wR, pe_L_wI, pe_L_wR, pe_R_nej, pe_R_wI, pm_Ik, pm_K32 hF, pm_K9 hF, pm_KM hF, pm_Kh, pm_L32 hF, pm_L9 hF, pm_Lh, pm_R36 hF, pm_R9 hF, pm_Rh, pm_uj, pm_uk, pm_us]
    exact pe_two' k1 k2
set_option maxRecDepth 8000 in
theorem b215_99 {d : Nat} {Φ : Option pe_V → pe_H → Prop} {σ : pe_H} {M q : Nat} {y : Nat → Int → Int} (hF : pm_F M σ) {x1 : Int} {o2 : Option pe_V} {o3 : Option pe_V} {x4 : Int} {x5 : Int}    (k : pe_X d 215 (104, [some (.inr (.inr M)), some (.inl x1), o2, o3, some (.inl x4), some (.inl x5)], [.inl 1], pm_h M σ q y) Φ) : pe_X d 215 (99, [some (.inr (.inr M)), some (.inl x1), o2, o3, some (.inl x4), some (.inl x5)], [], pm_h M σ q y) Φ := by
  refine pe_blk 59 2 ck215 [] (104, [some (.inr (.inr M)), some (.inl x1), o2, o3, some (.inl x4), some (.inl x5)], [.inl 1], pm_h M σ q y) rfl ?_ ?_
  · exact trivial
  · exact k
set_option maxRecDepth 8000 in
theorem b215_103 {d : Nat} {Φ : Option pe_V → pe_H → Prop} {σ : pe_H} {M q : Nat} {y : Nat → Int → Int} (hF : pm_F M σ) {x1 : Int} {o2 : Option pe_V} {o3 : Option pe_V} {x4 : Int} {x5 : Int}    (k : pe_X d 215 (104, [some (.inr (.inr M)), some (.inl x1), o2, o3, some (.inl x4), some (.inl x5)], [.inl 0], pm_h M σ q y) Φ) : pe_X d 215 (103, [some (.inr (.inr M)), some (.inl x1), o2, o3, some (.inl x4), some (.inl x5)], [], pm_h M σ q y) Φ := by
  refine pe_blk 61 1 ck215 [] (104, [some (.inr (.inr M)), some (.inl x1), o2, o3, some (.inl x4), some (.inl x5)], [.inl 0], pm_h M σ q y) rfl ?_ ?_
  · exact trivial
  · exact k
set_option maxRecDepth 8000 in
theorem b215_104 {d : Nat} {Φ : Option pe_V → pe_H → Prop} {σ : pe_H} {M q : Nat} {y : Nat → Int → Int} (hF : pm_F M σ) {x1 : Int} {o2 : Option pe_V} {o3 : Option pe_V} {x4 : Int} {x5 : Int} {s0 : Int}    (k : pe_X d 215 (105, [some (.inr (.inr M)), some (.inl x1), pe_nl o2, some (.inl s0), some (.inl x4), some (.inl x5)], [], pm_h M σ q y) Φ) : pe_X d 215 (104, [some (.inr (.inr M)), some (.inl x1), o2, o3, some (.inl x4), some (.inl x5)], [.inl s0], pm_h M σ q y) Φ := by
  refine pe_blk 62 1 ck215 [] (105, [some (.inr (.inr M)), some (.inl x1), pe_nl o2, some (.inl s0), some (.inl x4), some (.inl x5)], [], pm_h M σ q y) rfl ?_ ?_
  · exact trivial
  · exact k
set_option maxRecDepth 8000 in
theorem b215_105 {d : Nat} {Φ : Option pe_V → pe_H → Prop} {σ : pe_H} {M q : Nat} {y : Nat → Int → Int} (hF : pm_F M σ) {x1 : Int} {o2 : Option pe_V} {x3 : Int} {x4 : Int} {x5 : Int}    (k : pe_X d 215 (21, [some (.inr (.inr M)), some (.inl x1), o2, some (.inl x3), some (.inl x4), some (.inl (x5 + 1))], [], pm_h M σ q y) Φ) : pe_X d 215 (105, [some (.inr (.inr M)), some (.inl x1), o2, some (.inl x3), some (.inl x4), some (.inl x5)], [], pm_h M σ q y) Φ := by
  refine pe_blk 63 2 ck215 [] (21, [some (.inr (.inr M)), some (.inl x1), o2, some (.inl x3), some (.inl x4), some (.inl (x5 + 1))], [], pm_h M σ q y) rfl ?_ ?_
  · exact trivial
  · exact k
set_option maxRecDepth 8000 in
theorem b215_111 {d : Nat} {Φ : Option pe_V → pe_H → Prop} {σ : pe_H} {M q : Nat} {y : Nat → Int → Int} (hF : pm_F M σ) {o1 : Option pe_V} {o2 : Option pe_V} {x3 : Int} {o4 : Option pe_V} {o5 : Option pe_V}    (k : pe_M d 188 [.inr (.inr M)] (pm_h M σ q y) (fun r σ' => pe_X d 215 (115, [some (.inr (.inr M)), o1, o2, some (.inl x3), o4, o5], r.toList ++ [], σ') Φ)) : pe_X d 215 (111, [some (.inr (.inr M)), o1, o2, some (.inl x3), o4, o5], [], pm_h M σ q y) Φ := by
  refine pe_blk 65 1 ck215 [] (112, [some (.inr (.inr M)), o1, o2, some (.inl x3), o4, o5], [.inr (.inr M)], pm_h M σ q y) rfl ?_ ?_
  · exact trivial
  · try simp (disch := omega) only [pe_K_wI, pe_K_wR, pm_KM hF, pm_Kh]
    have hrc : pe_K (pm_h M σ q y) M = 9 := by first | assumption | (simp (disch := omega) only [pe_K_wI, pe_K_wR, pm_KM hF, pm_Kh]; done) | (simp (disch := omega) only [pe_K_wI, pe_K_wR, pm_KM hF, pm_Kh]; assumption)
    exact pe_cal 66 ck215 rfl rfl rfl ⟨hrc, by decide⟩ k
set_option maxRecDepth 8000 in
theorem b215_115 {d : Nat} {Φ : Option pe_V → pe_H → Prop} {σ : pe_H} {M q : Nat} {y : Nat → Int → Int} (hF : pm_F M σ) {o1 : Option pe_V} {o2 : Option pe_V} {x3 : Int} {o4 : Option pe_V} {o5 : Option pe_V}   (h0 : x3 = 0 ∨ x3 = 1 := by first | assumption | omega) (k : Φ (some (.inl x3)) (pm_h M σ q y)) : pe_X d 215 (115, [some (.inr (.inr M)), o1, o2, some (.inl x3), o4, o5], [], pm_h M σ q y) Φ := by
  refine pe_blk 67 1 ck215 [] (116, [some (.inr (.inr M)), o1, o2, some (.inl x3), o4, o5], [.inl x3], pm_h M σ q y) rfl ?_ ?_
  · exact trivial
  · exact pe_fine 68 ck215 rfl rfl rfl h0 k
-- StepMachinesModel.whatProgram(I)I
def T216 : List (Nat × Instr × Nat) := [(0, .aload_n 0, 1), (1, .iconst 0, 1), (2, .putfield 141, 3), (5, .aload_n 0, 1), (6, .iload_n 1, 1), (7, .invokevirtual 332, 3), (10, .ifCond .lt 12, 3), (13, .aload_n 0, 1), (14, .getfield 144, 3), (17, .bipush 8, 2), (19, .if_icmp .ne 22, 3), (22, .aload_n 0, 1), (23, .iload_n 1, 1), (24, .invokevirtual 332, 3), (27, .ifCond .ge 11, 3), (30, .aload_n 0, 1), (31, .iload_n 1, 1), (32, .invokevirtual 332, 3), (35, .goto 5, 3), (38, .bipush (-2), 2), (40, .ireturn, 1), (41, .iconst 0, 1), (42, .istore_n 2, 1), (43, .aload_n 0, 1), (44, .invokevirtual 338, 3), (47, .iconst 0, 1), (48, .istore_n 3, 1), (49, .iload_n 3, 1), (50, .iconst 5, 1), (51, .if_icmp .ge 28, 3), (54, .iload_n 2, 1), (55, .aload_n 0, 1), (56, .iload_n 1, 1), (57, .iload_n 3, 1), (58, .invokevirtual 419, 3), (61, .ifCond .eq 9, 3), (64, .iconst 1, 1), (65, .iload_n 3, 1), (66, .ishl, 1), (67, .goto 4, 3), (70, .iconst 0, 1), (71, .ior, 1), (72, .istore_n 2, 1), (73, .iinc 3 1, 3), (76, .goto (-27), 3), (79, .iload_n 2, 1), (80, .ireturn, 1)]
theorem ck216 : pe_ctx 216 9 false (some .int) 4 T216 := ⟨rfl, rfl, rfl, rfl, by decide +kernel, by decide, by decide⟩
theorem b216_0 {d : Nat} {Φ : Option pe_V → pe_H → Prop} {σ : pe_H} {M q : Nat} {y : Nat → Int → Int} (hF : pm_F M σ) {x1 : Int} {o2 : Option pe_V} {o3 : Option pe_V}    (k : pe_M d 235 [.inr (.inr M), .inl x1] (pm_h M σ q (pm_u y 0 37 0)) (fun r σ' => pe_X d 216 (10, [some (.inr (.inr M)), some (.inl x1), o2, o3], r.toList ++ [], σ') Φ)) : pe_X d 216 (0, [some (.inr (.inr M)), some (.inl x1), o2, o3], [], pm_h M σ q y) Φ := by
  refine pe_blk 0 5 ck216 [pe_K (pm_h M σ q y) M = 9] (7, [some (.inr (.inr M)), some (.inl x1), o2, o3], [.inl x1, .inr (.inr M)], pe_wI (pm_h M σ q y) M 37 0) rfl ?_ ?_
  · first
    | (simp (disch := omega) only [pe_all, pe_K_wI, pe_K_wR, pm_KM hF, pm_Kh, pm_wI0]; done)
    | (simp (disch := omega) only [pe_all, pe_K_wI, pe_K_wR, pm_KM hF, pm_Kh, pm_wI0]; (repeat' apply And.intro) <;> first | assumption | omega | decide)
  · try simp (disch := omega) only [pe_K_wI, pe_K_wR, pm_KM hF, pm_Kh, pm_wI0]
    have hrc : pe_K (pm_h M σ q (pm_u y 0 37 0)) M = 9 := by first | assumption | (simp (disch := omega) only [pe_K_wI, pe_K_wR, pm_KM hF, pm_Kh, pm_wI0]; done) | (simp (disch := omega) only [pe_K_wI, pe_K_wR, pm_KM hF, pm_Kh, pm_wI0]; assumption)
    exact pe_cal 5 ck216 rfl rfl rfl ⟨hrc, by decide⟩ k
theorem b216_10 {d : Nat} {Φ : Option pe_V → pe_H → Prop} {σ : pe_H} {M q : Nat} {y : Nat → Int → Int} (hF : pm_F M σ) {x1 : Int} {o2 : Option pe_V} {o3 : Option pe_V} {s0 : Int}  (w0 : pe_in s0 := by unfold pe_in; omega)  (k1 : s0 < 0 → pe_X d 216 (22, [some (.inr (.inr M)), some (.inl x1), o2, o3], [], pm_h M σ q y) Φ) (k2 : ¬ (s0 < 0) → pe_X d 216 (13, [some (.inr (.inr M)), some (.inl x1), o2, o3], [], pm_h M σ q y) Φ) : pe_X d 216 (10, [some (.inr (.inr M)), some (.inl x1), o2, o3], [.inl s0], pm_h M σ q y) Φ := by
  refine pe_blk 6 1 ck216 [] (cond (decide ((pe_w s0) < 0)) 22 13, [some (.inr (.inr M)), some (.inl x1), o2, o3], [], pm_h M σ q y) rfl ?_ ?_
  · exact trivial
  · try simp (disch := omega) only [pe_wi w0]
    exact pe_two k1 k2
theorem b216_13 {d : Nat} {Φ : Option pe_V → pe_H → Prop} {σ : pe_H} {M q : Nat} {y : Nat → Int → Int} (hF : pm_F M σ) {x1 : Int} {o2 : Option pe_V} {o3 : Option pe_V}  (w0 : pe_in (y 0 3) := by unfold pe_in; omega)  (k1 : ¬ (y 0 3) = 8 → pe_X d 216 (41, [some (.inr (.inr M)), some (.inl x1), o2, o3], [], pm_h M σ q y) Φ) (k2 : (y 0 3) = 8 → pe_X d 216 (22, [some (.inr (.inr M)), some (.inl x1), o2, o3], [], pm_h M σ q y) Φ) : pe_X d 216 (13, [some (.inr (.inr M)), some (.inl x1), o2, o3], [], pm_h M σ q y) Φ := by
  refine pe_blk 7 4 ck216 [pe_K (pm_h M σ q y) M = 9] (cond (decide (¬ (pe_w (pe_I (pm_h M σ q y) M 3)) = (pe_w 8))) 41 22, [some (.inr (.inr M)), some (.inl x1), o2, o3], [], pm_h M σ q y) rfl ?_ ?_
  · first
    | (simp (disch := omega) only [pe_all, pe_wi w0, pe_wi (x := 8) ⟨by decide, by decide⟩, pe_I_wR, pe_K_wI, pe_K_wR, pm_I0, pm_KM hF, pm_Kh, pm_uj, pm_uk, pm_us]; done)
    | (simp (disch := omega) only [pe_all, pe_wi w0, pe_wi (x := 8) ⟨by decide, by decide⟩, pe_I_wR, pe_K_wI, pe_K_wR, pm_I0, pm_KM hF, pm_Kh, pm_uj, pm_uk, pm_us]; (repeat' apply And.intro) <;> first | assumption | omega | decide)
  · try simp (disch := omega) only [pe_wi w0, pe_wi (x := 8) ⟨by decide, by decide⟩, pe_I_wR, pe_K_wI, pe_K_wR, pm_I0, pm_KM hF, pm_Kh, pm_uj, pm_uk, pm_us]
    exact pe_two' k1 k2
theorem b216_22 {d : Nat} {Φ : Option pe_V → pe_H → Prop} {σ : pe_H} {M q : Nat} {y : Nat → Int → Int} (hF : pm_F M σ) {x1 : Int} {o2 : Option pe_V} {o3 : Option pe_V}    (k : pe_M d 235 [.inr (.inr M), .inl x1] (pm_h M σ q y) (fun r σ' => pe_X d 216 (27, [some (.inr (.inr M)), some (.inl x1), o2, o3], r.toList ++ [], σ') Φ)) : pe_X d 216 (22, [some (.inr (.inr M)), some (.inl x1), o2, o3], [], pm_h M σ q y) Φ := by
  refine pe_blk 11 2 ck216 [] (24, [some (.inr (.inr M)), some (.inl x1), o2, o3], [.inl x1, .inr (.inr M)], pm_h M σ q y) rfl ?_ ?_
  · exact trivial
  · try simp (disch := omega) only [pe_K_wI, pe_K_wR, pm_KM hF, pm_Kh]
    have hrc : pe_K (pm_h M σ q y) M = 9 := by first | assumption | (simp (disch := omega) only [pe_K_wI, pe_K_wR, pm_KM hF, pm_Kh]; done) | (simp (disch := omega) only [pe_K_wI, pe_K_wR, pm_KM hF, pm_Kh]; assumption)
    exact pe_cal 13 ck216 rfl rfl rfl ⟨hrc, by decide⟩ k
theorem b216_27 {d : Nat} {Φ : Option pe_V → pe_H → Prop} {σ : pe_H} {M q : Nat} {y : Nat → Int → Int} (hF : pm_F M σ) {x1 : Int} {o2 : Option pe_V} {o3 : Option pe_V} {s0 : Int}  (w0 : pe_in s0 := by unfold pe_in; omega)  (k1 : 0 ≤ s0 → pe_X d 216 (38, [some (.inr (.inr M)), some (.inl x1), o2, o3], [], pm_h M σ q y) Φ) (k2 : ¬ (0 ≤ s0) → pe_X d 216 (30, [some (.inr (.inr M)), some (.inl x1), o2, o3], [], pm_h M σ q y) Φ) : pe_X d 216 (27, [some (.inr (.inr M)), some (.inl x1), o2, o3], [.inl s0], pm_h M σ q y) Φ := by
  refine pe_blk 14 1 ck216 [] (cond (decide (0 ≤ (pe_w s0))) 38 30, [some (.inr (.inr M)), some (.inl x1), o2, o3], [], pm_h M σ q y) rfl ?_ ?_
  · exact trivial
  · try simp (disch := omega) only [pe_wi w0]
    exact pe_two k1 k2
theorem b216_30 {d : Nat} {Φ : Option pe_V → pe_H → Prop} {σ : pe_H} {M q : Nat} {y : Nat → Int → Int} (hF : pm_F M σ) {x1 : Int} {o2 : Option pe_V} {o3 : Option pe_V}    (k : pe_M d 235 [.inr (.inr M), .inl x1] (pm_h M σ q y) (fun r σ' => pe_X d 216 (35, [some (.inr (.inr M)), some (.inl x1), o2, o3], r.toList ++ [], σ') Φ)) : pe_X d 216 (30, [some (.inr (.inr M)), some (.inl x1), o2, o3], [], pm_h M σ q y) Φ := by
  refine pe_blk 15 2 ck216 [] (32, [some (.inr (.inr M)), some (.inl x1), o2, o3], [.inl x1, .inr (.inr M)], pm_h M σ q y) rfl ?_ ?_
  · exact trivial
  · try simp (disch := omega) only [pe_K_wI, pe_K_wR, pm_KM hF, pm_Kh]
    have hrc : pe_K (pm_h M σ q y) M = 9 := by first | assumption | (simp (disch := omega) only [pe_K_wI, pe_K_wR, pm_KM hF, pm_Kh]; done) | (simp (disch := omega) only [pe_K_wI, pe_K_wR, pm_KM hF, pm_Kh]; assumption)
    exact pe_cal 17 ck216 rfl rfl rfl ⟨hrc, by decide⟩ k
theorem b216_35 {d : Nat} {Φ : Option pe_V → pe_H → Prop} {σ : pe_H} {M q : Nat} {y : Nat → Int → Int} (hF : pm_F M σ) {o1 : Option pe_V} {o2 : Option pe_V} {o3 : Option pe_V} {s0 : Int}    (k : pe_X d 216 (40, [some (.inr (.inr M)), o1, o2, o3], [.inl s0], pm_h M σ q y) Φ) : pe_X d 216 (35, [some (.inr (.inr M)), o1, o2, o3], [.inl s0], pm_h M σ q y) Φ := by
  refine pe_blk 18 1 ck216 [] (40, [some (.inr (.inr M)), o1, o2, o3], [.inl s0], pm_h M σ q y) rfl ?_ ?_
  · exact trivial
  · exact k
theorem b216_38 {d : Nat} {Φ : Option pe_V → pe_H → Prop} {σ : pe_H} {M q : Nat} {y : Nat → Int → Int} (hF : pm_F M σ) {o1 : Option pe_V} {o2 : Option pe_V} {o3 : Option pe_V}    (k : pe_X d 216 (40, [some (.inr (.inr M)), o1, o2, o3], [.inl (-2)], pm_h M σ q y) Φ) : pe_X d 216 (38, [some (.inr (.inr M)), o1, o2, o3], [], pm_h M σ q y) Φ := by
  refine pe_blk 19 1 ck216 [] (40, [some (.inr (.inr M)), o1, o2, o3], [.inl (-2)], pm_h M σ q y) rfl ?_ ?_
  · exact trivial
  · exact k
theorem b216_40 {d : Nat} {Φ : Option pe_V → pe_H → Prop} {σ : pe_H} {M q : Nat} {y : Nat → Int → Int} (hF : pm_F M σ) {o1 : Option pe_V} {o2 : Option pe_V} {o3 : Option pe_V} {s0 : Int}    (k : Φ (some (.inl s0)) (pm_h M σ q y)) : pe_X d 216 (40, [some (.inr (.inr M)), o1, o2, o3], [.inl s0], pm_h M σ q y) Φ := by
  exact pe_fine 20 ck216 rfl rfl rfl trivial k
theorem b216_41 {d : Nat} {Φ : Option pe_V → pe_H → Prop} {σ : pe_H} {M q : Nat} {y : Nat → Int → Int} (hF : pm_F M σ) {x1 : Int} {o2 : Option pe_V} {o3 : Option pe_V}    (k : pe_M d 187 [.inr (.inr M)] (pm_h M σ q y) (fun r σ' => pe_X d 216 (47, [some (.inr (.inr M)), some (.inl x1), some (.inl 0), o3], r.toList ++ [], σ') Φ)) : pe_X d 216 (41, [some (.inr (.inr M)), some (.inl x1), o2, o3], [], pm_h M σ q y) Φ := by
  refine pe_blk 21 3 ck216 [] (44, [some (.inr (.inr M)), some (.inl x1), some (.inl 0), o3], [.inr (.inr M)], pm_h M σ q y) rfl ?_ ?_
  · exact trivial
  · try simp (disch := omega) only [pe_K_wI, pe_K_wR, pm_KM hF, pm_Kh]
    have hrc : pe_K (pm_h M σ q y) M = 9 := by first | assumption | (simp (disch := omega) only [pe_K_wI, pe_K_wR, pm_KM hF, pm_Kh]; done) | (simp (disch := omega) only [pe_K_wI, pe_K_wR, pm_KM hF, pm_Kh]; assumption)
    exact pe_cal 24 ck216 rfl rfl rfl ⟨hrc, by decide⟩ k
theorem b216_47 {d : Nat} {Φ : Option pe_V → pe_H → Prop} {σ : pe_H} {M q : Nat} {y : Nat → Int → Int} (hF : pm_F M σ) {x1 : Int} {x2 : Int} {o3 : Option pe_V}    (k : pe_X d 216 (49, [some (.inr (.inr M)), some (.inl x1), some (.inl x2), some (.inl 0)], [], pm_h M σ q y) Φ) : pe_X d 216 (47, [some (.inr (.inr M)), some (.inl x1), some (.inl x2), o3], [], pm_h M σ q y) Φ := by
  refine pe_blk 25 2 ck216 [] (49, [some (.inr (.inr M)), some (.inl x1), some (.inl x2), some (.inl 0)], [], pm_h M σ q y) rfl ?_ ?_
  · exact trivial
  · exact k
theorem b216_49 {d : Nat} {Φ : Option pe_V → pe_H → Prop} {σ : pe_H} {M q : Nat} {y : Nat → Int → Int} (hF : pm_F M σ) {x1 : Int} {x2 : Int} {x3 : Int}  (w0 : pe_in x3 := by unfold pe_in; omega)  (k1 : 5 ≤ x3 → pe_X d 216 (79, [some (.inr (.inr M)), some (.inl x1), some (.inl x2), some (.inl x3)], [], pm_h M σ q y) Φ) (k2 : ¬ (5 ≤ x3) → pe_X d 216 (54, [some (.inr (.inr M)), some (.inl x1), some (.inl x2), some (.inl x3)], [], pm_h M σ q y) Φ) : pe_X d 216 (49, [some (.inr (.inr M)), some (.inl x1), some (.inl x2), some (.inl x3)], [], pm_h M σ q y) Φ := by
  refine pe_blk 27 3 ck216 [] (cond (decide ((pe_w 5) ≤ (pe_w x3))) 79 54, [some (.inr (.inr M)), some (.inl x1), some (.inl x2), some (.inl x3)], [], pm_h M σ q y) rfl ?_ ?_
  · exact trivial
  · try simp (disch := omega) only [pe_wi w0, pe_wi (x := 5) ⟨by decide, by decide⟩]
    exact pe_two k1 k2
theorem b216_54 {d : Nat} {Φ : Option pe_V → pe_H → Prop} {σ : pe_H} {M q : Nat} {y : Nat → Int → Int} (hF : pm_F M σ) {x1 : Int} {x2 : Int} {x3 : Int}    (k : pe_M d 215 [.inr (.inr M), .inl x1, .inl x3] (pm_h M σ q y) (fun r σ' => pe_X d 216 (61, [some (.inr (.inr M)), some (.inl x1), some (.inl x2), some (.inl x3)], r.toList ++ [.inl x2], σ') Φ)) : pe_X d 216 (54, [some (.inr (.inr M)), some (.inl x1), some (.inl x2), some (.inl x3)], [], pm_h M σ q y) Φ := by
  refine pe_blk 30 4 ck216 [] (58, [some (.inr (.inr M)), some (.inl x1), some (.inl x2), some (.inl x3)], [.inl x3, .inl x1, .inr (.inr M), .inl x2], pm_h M σ q y) rfl ?_ ?_
  · exact trivial
  · try simp (disch := omega) only [pe_K_wI, pe_K_wR, pm_KM hF, pm_Kh]
    have hrc : pe_K (pm_h M σ q y) M = 9 := by first | assumption | (simp (disch := omega) only [pe_K_wI, pe_K_wR, pm_KM hF, pm_Kh]; done) | (simp (disch := omega) only [pe_K_wI, pe_K_wR, pm_KM hF, pm_Kh]; assumption)
    exact pe_cal 34 ck216 rfl rfl rfl ⟨hrc, by decide⟩ k
theorem b216_61 {d : Nat} {Φ : Option pe_V → pe_H → Prop} {σ : pe_H} {M q : Nat} {y : Nat → Int → Int} (hF : pm_F M σ) {x1 : Int} {o2 : Option pe_V} {x3 : Int} {s0 : Int} {s1 : Int}  (w0 : pe_in s1 := by unfold pe_in; omega)  (k1 : s1 = 0 → pe_X d 216 (70, [some (.inr (.inr M)), some (.inl x1), o2, some (.inl x3)], [.inl s0], pm_h M σ q y) Φ) (k2 : ¬ (s1 = 0) → pe_X d 216 (64, [some (.inr (.inr M)), some (.inl x1), o2, some (.inl x3)], [.inl s0], pm_h M σ q y) Φ) : pe_X d 216 (61, [some (.inr (.inr M)), some (.inl x1), o2, some (.inl x3)], [.inl s1, .inl s0], pm_h M σ q y) Φ := by
  refine pe_blk 35 1 ck216 [] (cond (decide ((pe_w s1) = 0)) 70 64, [some (.inr (.inr M)), some (.inl x1), o2, some (.inl x3)], [.inl s0], pm_h M σ q y) rfl ?_ ?_
  · exact trivial
  · try simp (disch := omega) only [pe_wi w0]
    exact pe_two k1 k2
theorem b216_64 {d : Nat} {Φ : Option pe_V → pe_H → Prop} {σ : pe_H} {M q : Nat} {y : Nat → Int → Int} (hF : pm_F M σ) {x1 : Int} {o2 : Option pe_V} {x3 : Int} {s0 : Int}    (k : pe_X d 216 (71, [some (.inr (.inr M)), some (.inl x1), o2, some (.inl x3)], [.inl (pe_shl 1 x3), .inl s0], pm_h M σ q y) Φ) : pe_X d 216 (64, [some (.inr (.inr M)), some (.inl x1), o2, some (.inl x3)], [.inl s0], pm_h M σ q y) Φ := by
  refine pe_blk 36 4 ck216 [] (71, [some (.inr (.inr M)), some (.inl x1), o2, some (.inl x3)], [.inl (pe_shl 1 x3), .inl s0], pm_h M σ q y) rfl ?_ ?_
  · exact trivial
  · exact k
theorem b216_70 {d : Nat} {Φ : Option pe_V → pe_H → Prop} {σ : pe_H} {M q : Nat} {y : Nat → Int → Int} (hF : pm_F M σ) {x1 : Int} {o2 : Option pe_V} {x3 : Int} {s0 : Int}    (k : pe_X d 216 (71, [some (.inr (.inr M)), some (.inl x1), o2, some (.inl x3)], [.inl 0, .inl s0], pm_h M σ q y) Φ) : pe_X d 216 (70, [some (.inr (.inr M)), some (.inl x1), o2, some (.inl x3)], [.inl s0], pm_h M σ q y) Φ := by
  refine pe_blk 40 1 ck216 [] (71, [some (.inr (.inr M)), some (.inl x1), o2, some (.inl x3)], [.inl 0, .inl s0], pm_h M σ q y) rfl ?_ ?_
  · exact trivial
  · exact k
theorem b216_71 {d : Nat} {Φ : Option pe_V → pe_H → Prop} {σ : pe_H} {M q : Nat} {y : Nat → Int → Int} (hF : pm_F M σ) {x1 : Int} {o2 : Option pe_V} {x3 : Int} {s0 : Int} {s1 : Int}    (k : pe_X d 216 (49, [some (.inr (.inr M)), some (.inl x1), some (.inl (pe_or s0 s1)), some (.inl (x3 + 1))], [], pm_h M σ q y) Φ) : pe_X d 216 (71, [some (.inr (.inr M)), some (.inl x1), o2, some (.inl x3)], [.inl s1, .inl s0], pm_h M σ q y) Φ := by
  refine pe_blk 41 4 ck216 [] (49, [some (.inr (.inr M)), some (.inl x1), some (.inl (pe_or s0 s1)), some (.inl (x3 + 1))], [], pm_h M σ q y) rfl ?_ ?_
  · exact trivial
  · exact k
theorem b216_79 {d : Nat} {Φ : Option pe_V → pe_H → Prop} {σ : pe_H} {M q : Nat} {y : Nat → Int → Int} (hF : pm_F M σ) {o1 : Option pe_V} {x2 : Int} {o3 : Option pe_V}    (k : Φ (some (.inl x2)) (pm_h M σ q y)) : pe_X d 216 (79, [some (.inr (.inr M)), o1, some (.inl x2), o3], [], pm_h M σ q y) Φ := by
  refine pe_blk 45 1 ck216 [] (80, [some (.inr (.inr M)), o1, some (.inl x2), o3], [.inl x2], pm_h M σ q y) rfl ?_ ?_
  · exact trivial
  · exact pe_fine 46 ck216 rfl rfl rfl trivial k
-- StepMachinesModel.layOuts(III)V
def T217 : List (Nat × Instr × Nat) := [(0, .aload_n 0, 1), (1, .iload_n 1, 1), (2, .iconst 0, 1), (3, .iconst 0, 1), (4, .invokevirtual 318, 3), (7, .pop, 1), (8, .aload_n 0, 1), (9, .getfield 144, 3), (12, .iconst 1, 1), (13, .isub, 1), (14, .istore 4, 2), (16, .iconst 0, 1), (17, .istore 5, 2), (19, .iload 5, 2), (21, .iload_n 3, 1), (22, .if_icmp .ge 58, 3), (25, .aload_n 0, 1), (26, .iload 4, 2), (28, .invokevirtual 249, 3), (31, .ifCond .eq 10, 3), (34, .aload_n 0, 1), (35, .iload 4, 2), (37, .iconst 0, 1), (38, .invokevirtual 303, 3), (41, .aload_n 0, 1), (42, .getfield 132, 3), (45, .bipush 20, 2), (47, .iload_n 2, 1), (48, .imul, 1), (49, .iload 5, 2), (51, .iadd, 1), (52, .sipush 10000, 3), (55, .aload_n 0, 1), (56, .getfield 28, 3), (59, .iload 4, 2), (61, .iaload, 1), (62, .imul, 1), (63, .aload_n 0, 1), (64, .getfield 34, 3), (67, .iload 4, 2), (69, .iaload, 1), (70, .iadd, 1), (71, .iconst 4, 1), (72, .iadd, 1), (73, .iastore, 1), (74, .iinc 5 1, 3), (77, .goto (-58), 3), (80, .aload_n 0, 1), (81, .invokevirtual 344, 3), (84, .return_, 1)]
theorem ck217 : pe_ctx 217 9 false none 6 T217 := ⟨rfl, rfl, rfl, rfl, by decide +kernel, by decide, by decide⟩
theorem b217_0 {d : Nat} {Φ : Option pe_V → pe_H → Prop} {σ : pe_H} {M q : Nat} {y : Nat → Int → Int} (hF : pm_F M σ) {x1 : Int} {x2 : Int} {x3 : Int} {o4 : Option pe_V} {o5 : Option pe_V}    (k : pe_M d 171 [.inr (.inr M), .inl x1, .inl 0, .inl 0] (pm_h M σ q y) (fun r σ' => pe_X d 217 (7, [some (.inr (.inr M)), some (.inl x1), some (.inl x2), some (.inl x3), o4, o5], r.toList ++ [], σ') Φ)) : pe_X d 217 (0, [some (.inr (.inr M)), some (.inl x1), some (.inl x2), some (.inl x3), o4, o5], [], pm_h M σ q y) Φ := by
  refine pe_blk 0 4 ck217 [] (4, [some (.inr (.inr M)), some (.inl x1), some (.inl x2), some (.inl x3), o4, o5], [.inl 0, .inl 0, .inl x1, .inr (.inr M)], pm_h M σ q y) rfl ?_ ?_
  · exact trivial
  · try simp (disch := omega) only [pe_K_wI, pe_K_wR, pm_KM hF, pm_Kh]
    have hrc : pe_K (pm_h M σ q y) M = 9 := by first | assumption | (simp (disch := omega) only [pe_K_wI, pe_K_wR, pm_KM hF, pm_Kh]; done) | (simp (disch := omega) only [pe_K_wI, pe_K_wR, pm_KM hF, pm_Kh]; assumption)
    exact pe_cal 4 ck217 rfl rfl rfl ⟨hrc, by decide⟩ k
theorem b217_7 {d : Nat} {Φ : Option pe_V → pe_H → Prop} {σ : pe_H} {M q : Nat} {y : Nat → Int → Int} (hF : pm_F M σ) {o1 : Option pe_V} {x2 : Int} {x3 : Int} {o4 : Option pe_V} {o5 : Option pe_V} {s0 : Int}    (k : pe_X d 217 (19, [some (.inr (.inr M)), o1, some (.inl x2), some (.inl x3), some (.inl ((y 0 3) - 1)), some (.inl 0)], [], pm_h M σ q y) Φ) : pe_X d 217 (7, [some (.inr (.inr M)), o1, some (.inl x2), some (.inl x3), o4, o5], [.inl s0], pm_h M σ q y) Φ := by
  refine pe_blk 5 8 ck217 [pe_K (pm_h M σ q y) M = 9] (19, [some (.inr (.inr M)), o1, some (.inl x2), some (.inl x3), some (.inl ((pe_I (pm_h M σ q y) M 3) - 1)), some (.inl 0)], [], pm_h M σ q y) rfl ?_ ?_
  · first
    | (simp (disch := omega) only [pe_all, pe_I_wR, pe_K_wI, pe_K_wR, pm_I0, pm_KM hF, pm_Kh, pm_uj, pm_uk, pm_us]; done)
    | (simp (disch := omega) only [pe_all, pe_I_wR, pe_K_wI, pe_K_wR, pm_I0, pm_KM hF, pm_Kh, pm_uj, pm_uk, pm_us]; (repeat' apply And.intro) <;> first | assumption | omega | decide)
  · try simp (disch := omega) only [pe_I_wR, pe_K_wI, pe_K_wR, pm_I0, pm_KM hF, pm_Kh, pm_uj, pm_uk, pm_us]
    exact k
theorem b217_19 {d : Nat} {Φ : Option pe_V → pe_H → Prop} {σ : pe_H} {M q : Nat} {y : Nat → Int → Int} (hF : pm_F M σ) {o1 : Option pe_V} {x2 : Int} {x3 : Int} {x4 : Int} {x5 : Int}  (w0 : pe_in x3 := by unfold pe_in; omega) (w1 : pe_in x5 := by unfold pe_in; omega)  (k1 : x3 ≤ x5 → pe_X d 217 (80, [some (.inr (.inr M)), o1, some (.inl x2), some (.inl x3), some (.inl x4), some (.inl x5)], [], pm_h M σ q y) Φ) (k2 : ¬ (x3 ≤ x5) → pe_X d 217 (25, [some (.inr (.inr M)), o1, some (.inl x2), some (.inl x3), some (.inl x4), some (.inl x5)], [], pm_h M σ q y) Φ) : pe_X d 217 (19, [some (.inr (.inr M)), o1, some (.inl x2), some (.inl x3), some (.inl x4), some (.inl x5)], [], pm_h M σ q y) Φ := by
  refine pe_blk 13 3 ck217 [] (cond (decide ((pe_w x3) ≤ (pe_w x5))) 80 25, [some (.inr (.inr M)), o1, some (.inl x2), some (.inl x3), some (.inl x4), some (.inl x5)], [], pm_h M σ q y) rfl ?_ ?_
  · exact trivial
  · try simp (disch := omega) only [pe_wi w0, pe_wi w1]
    exact pe_two k1 k2
theorem b217_25 {d : Nat} {Φ : Option pe_V → pe_H → Prop} {σ : pe_H} {M q : Nat} {y : Nat → Int → Int} (hF : pm_F M σ) {o1 : Option pe_V} {x2 : Int} {x3 : Int} {x4 : Int} {x5 : Int}    (k : pe_M d 140 [.inr (.inr M), .inl x4] (pm_h M σ q y) (fun r σ' => pe_X d 217 (31, [some (.inr (.inr M)), o1, some (.inl x2), some (.inl x3), some (.inl x4), some (.inl x5)], r.toList ++ [], σ') Φ)) : pe_X d 217 (25, [some (.inr (.inr M)), o1, some (.inl x2), some (.inl x3), some (.inl x4), some (.inl x5)], [], pm_h M σ q y) Φ := by
  refine pe_blk 16 2 ck217 [] (28, [some (.inr (.inr M)), o1, some (.inl x2), some (.inl x3), some (.inl x4), some (.inl x5)], [.inl x4, .inr (.inr M)], pm_h M σ q y) rfl ?_ ?_
  · exact trivial
  · try simp (disch := omega) only [pe_K_wI, pe_K_wR, pm_KM hF, pm_Kh]
    have hrc : pe_K (pm_h M σ q y) M = 9 := by first | assumption | (simp (disch := omega) only [pe_K_wI, pe_K_wR, pm_KM hF, pm_Kh]; done) | (simp (disch := omega) only [pe_K_wI, pe_K_wR, pm_KM hF, pm_Kh]; assumption)
    exact pe_cal 18 ck217 rfl rfl rfl ⟨hrc, by decide⟩ k
theorem b217_31 {d : Nat} {Φ : Option pe_V → pe_H → Prop} {σ : pe_H} {M q : Nat} {y : Nat → Int → Int} (hF : pm_F M σ) {o1 : Option pe_V} {x2 : Int} {x3 : Int} {x4 : Int} {x5 : Int} {s0 : Int}  (w0 : pe_in s0 := by unfold pe_in; omega)  (k1 : s0 = 0 → pe_X d 217 (41, [some (.inr (.inr M)), o1, some (.inl x2), some (.inl x3), some (.inl x4), some (.inl x5)], [], pm_h M σ q y) Φ) (k2 : ¬ (s0 = 0) → pe_X d 217 (34, [some (.inr (.inr M)), o1, some (.inl x2), some (.inl x3), some (.inl x4), some (.inl x5)], [], pm_h M σ q y) Φ) : pe_X d 217 (31, [some (.inr (.inr M)), o1, some (.inl x2), some (.inl x3), some (.inl x4), some (.inl x5)], [.inl s0], pm_h M σ q y) Φ := by
  refine pe_blk 19 1 ck217 [] (cond (decide ((pe_w s0) = 0)) 41 34, [some (.inr (.inr M)), o1, some (.inl x2), some (.inl x3), some (.inl x4), some (.inl x5)], [], pm_h M σ q y) rfl ?_ ?_
  · exact trivial
  · try simp (disch := omega) only [pe_wi w0]
    exact pe_two k1 k2
theorem b217_34 {d : Nat} {Φ : Option pe_V → pe_H → Prop} {σ : pe_H} {M q : Nat} {y : Nat → Int → Int} (hF : pm_F M σ) {o1 : Option pe_V} {x2 : Int} {x3 : Int} {x4 : Int} {x5 : Int}    (k : pe_M d 166 [.inr (.inr M), .inl x4, .inl 0] (pm_h M σ q y) (fun r σ' => pe_X d 217 (41, [some (.inr (.inr M)), o1, some (.inl x2), some (.inl x3), some (.inl x4), some (.inl x5)], r.toList ++ [], σ') Φ)) : pe_X d 217 (34, [some (.inr (.inr M)), o1, some (.inl x2), some (.inl x3), some (.inl x4), some (.inl x5)], [], pm_h M σ q y) Φ := by
  refine pe_blk 20 3 ck217 [] (38, [some (.inr (.inr M)), o1, some (.inl x2), some (.inl x3), some (.inl x4), some (.inl x5)], [.inl 0, .inl x4, .inr (.inr M)], pm_h M σ q y) rfl ?_ ?_
  · exact trivial
  · try simp (disch := omega) only [pe_K_wI, pe_K_wR, pm_KM hF, pm_Kh]
    have hrc : pe_K (pm_h M σ q y) M = 9 := by first | assumption | (simp (disch := omega) only [pe_K_wI, pe_K_wR, pm_KM hF, pm_Kh]; done) | (simp (disch := omega) only [pe_K_wI, pe_K_wR, pm_KM hF, pm_Kh]; assumption)
    exact pe_cal 23 ck217 rfl rfl rfl ⟨hrc, by decide⟩ k
set_option maxHeartbeats 8000000 in
theorem b217_41 {d : Nat} {Φ : Option pe_V → pe_H → Prop} {σ : pe_H} {M q : Nat} {y : Nat → Int → Int} (hF : pm_F M σ) {o1 : Option pe_V} {x2 : Int} {x3 : Int} {x4 : Int} {x5 : Int}  (w0 : pe_in x4 := by unfold pe_in; omega) (w1 : pe_in ((20 * x2) + x5) := by unfold pe_in; omega) (h0 : 0 ≤ x4 := by first | assumption | omega) (h1 : x4 < 8 := by first | assumption | omega) (h2 : 0 ≤ ((20 * x2) + x5) := by first | assumption | omega) (h3 : ((20 * x2) + x5) < 40 := by first | assumption | omega) (k : pe_X d 217 (77, [some (.inr (.inr M)), o1, some (.inl x2), some (.inl x3), some (.inl x4), some (.inl (x5 + 1))], [], pm_h M σ q (pm_u y 40 ((20 * x2) + x5) (((10000 * (y 7 x4)) + (y 9 x4)) + 4))) Φ) : pe_X d 217 (41, [some (.inr (.inr M)), o1, some (.inl x2), some (.inl x3), some (.inl x4), some (.inl x5)], [], pm_h M σ q y) Φ := by
  have hM2 := pm_2 hF
  refine pe_blk 24 22 ck217 [pe_K (pm_h M σ q y) M = 9, pe_K (pm_h M σ q y) M = 9, pe_K (pm_h M σ q y) (pe_R (pm_h M σ q y) M 7) = 10, 0 ≤ (pe_w x4), (pe_w x4) < pe_L (pm_h M σ q y) (pe_R (pm_h M σ q y) M 7), pe_K (pm_h M σ q y) M = 9, pe_K (pm_h M σ q y) (pe_R (pm_h M σ q y) M 9) = 10, 0 ≤ (pe_w x4), (pe_w x4) < pe_L (pm_h M σ q y) (pe_R (pm_h M σ q y) M 9), pe_K (pm_h M σ q y) (pe_R (pm_h M σ q y) M 54) = 10, 0 ≤ (pe_w ((20 * x2) + x5)), (pe_w ((20 * x2) + x5)) < pe_L (pm_h M σ q y) (pe_R (pm_h M σ q y) M 54), 2 ≤ (pe_R (pm_h M σ q y) M 54)] (77, [some (.inr (.inr M)), o1, some (.inl x2), some (.inl x3), some (.inl x4), some (.inl (x5 + 1))], [], pe_wI (pm_h M σ q y) (pe_R (pm_h M σ q y) M 54) (pe_w ((20 * x2) + x5)) (((10000 * (pe_I (pm_h M σ q y) (pe_R (pm_h M σ q y) M 7) (pe_w x4))) + (pe_I (pm_h M σ q y) (pe_R (pm_h M σ q y) M 9) (pe_w x4))) + 4)) rfl ?_ ?_
  · first
    | (simp (disch := omega) only [pe_all, pe_wi w0, pe_wi w1, pe_I_wR, pe_K_wI, pe_K_wR, pe_L_wI, pe_L_wR, pe_R_nej, pe_R_wI, pm_Ik, pm_K40 hF, pm_K7 hF, pm_K9 hF, pm_KM hF, pm_Kh, pm_L40 hF, pm_L7 hF, pm_L9 hF, pm_Lh, pm_R54 hF, pm_R7 hF, pm_R9 hF, pm_Rh, pm_uj, pm_uk, pm_us, pm_wIk]; done)
    | (simp (disch := omega) only [pe_all, pe_wi w0, pe_wi w1, pe_I_wR, pe_K_wI, pe_K_wR, pe_L_wI, pe_L_wR, pe_R_nej, pe_R_wI, pm_Ik, pm_K40 hF, pm_K7 hF, pm_K9 hF, pm_KM hF, pm_Kh, pm_L40 hF, pm_L7 hF, pm_L9 hF, pm_Lh, pm_R54 hF, pm_R7 hF, pm_R9 hF, pm_Rh, pm_uj, pm_uk, pm_us, pm_wIk]; (repeat' apply And.intro) <;> first | assumption | omega | decide)
  · try simp (disch := omega) only [pe_wi w0, pe_wi w1, pe_I_wR, pe_K_wI, pe_K_wR, pe_L_wI, pe_L_wR, pe_R_nej, pe_R_wI, pm_Ik, pm_K40 hF, pm_K7 hF, pm_K9 hF, pm_KM hF, pm_Kh, pm_L40 hF, pm_L7 hF, pm_L9 hF, pm_Lh, pm_R54 hF, pm_R7 hF, pm_R9 hF, pm_Rh, pm_uj, pm_uk, pm_us, pm_wIk]
    exact k
theorem b217_77 {d : Nat} {Φ : Option pe_V → pe_H → Prop} {σ : pe_H} {M q : Nat} {y : Nat → Int → Int} (hF : pm_F M σ) {o1 : Option pe_V} {x2 : Int} {x3 : Int} {x4 : Int} {x5 : Int}    (k : pe_X d 217 (19, [some (.inr (.inr M)), o1, some (.inl x2), some (.inl x3), some (.inl x4), some (.inl x5)], [], pm_h M σ q y) Φ) : pe_X d 217 (77, [some (.inr (.inr M)), o1, some (.inl x2), some (.inl x3), some (.inl x4), some (.inl x5)], [], pm_h M σ q y) Φ := by
  refine pe_blk 46 1 ck217 [] (19, [some (.inr (.inr M)), o1, some (.inl x2), some (.inl x3), some (.inl x4), some (.inl x5)], [], pm_h M σ q y) rfl ?_ ?_
  · exact trivial
  · exact k
theorem b217_80 {d : Nat} {Φ : Option pe_V → pe_H → Prop} {σ : pe_H} {M q : Nat} {y : Nat → Int → Int} (hF : pm_F M σ) {o1 : Option pe_V} {o2 : Option pe_V} {o3 : Option pe_V} {o4 : Option pe_V} {o5 : Option pe_V}    (k : pe_M d 188 [.inr (.inr M)] (pm_h M σ q y) (fun r σ' => pe_X d 217 (84, [some (.inr (.inr M)), o1, o2, o3, o4, o5], r.toList ++ [], σ') Φ)) : pe_X d 217 (80, [some (.inr (.inr M)), o1, o2, o3, o4, o5], [], pm_h M σ q y) Φ := by
  refine pe_blk 47 1 ck217 [] (81, [some (.inr (.inr M)), o1, o2, o3, o4, o5], [.inr (.inr M)], pm_h M σ q y) rfl ?_ ?_
  · exact trivial
  · try simp (disch := omega) only [pe_K_wI, pe_K_wR, pm_KM hF, pm_Kh]
    have hrc : pe_K (pm_h M σ q y) M = 9 := by first | assumption | (simp (disch := omega) only [pe_K_wI, pe_K_wR, pm_KM hF, pm_Kh]; done) | (simp (disch := omega) only [pe_K_wI, pe_K_wR, pm_KM hF, pm_Kh]; assumption)
    exact pe_cal 48 ck217 rfl rfl rfl ⟨hrc, by decide⟩ k
theorem b217_84 {d : Nat} {Φ : Option pe_V → pe_H → Prop} {σ : pe_H} {M q : Nat} {y : Nat → Int → Int} (hF : pm_F M σ) {o1 : Option pe_V} {o2 : Option pe_V} {o3 : Option pe_V} {o4 : Option pe_V} {o5 : Option pe_V}    (k : Φ none (pm_h M σ q y)) : pe_X d 217 (84, [some (.inr (.inr M)), o1, o2, o3, o4, o5], [], pm_h M σ q y) Φ := by
  exact pe_fine 49 ck217 rfl rfl rfl trivial k
-- StepMachinesModel.alike(III)I
def T218 : List (Nat × Instr × Nat) := [(0, .aload_n 0, 1), (1, .iconst 0, 1), (2, .putfield 141, 3), (5, .iload_n 1, 1), (6, .i2l, 1), (7, .lconst 0, 1), (8, .ldc2_w 263, 3), (11, .invokestatic 147, 3), (14, .ifCond .eq 32, 3), (17, .iload_n 2, 1), (18, .i2l, 1), (19, .lconst 0, 1), (20, .ldc2_w 263, 3), (23, .invokestatic 147, 3), (26, .ifCond .eq 20, 3), (29, .iload_n 1, 1), (30, .iload_n 2, 1), (31, .if_icmp .eq 15, 3), (34, .iload_n 3, 1), (35, .i2l, 1), (36, .lconst 0, 1), (37, .ldc2_w 422, 3), (40, .invokestatic 147, 3), (43, .ifCond .ne 5, 3), (46, .iconst (-1), 1), (47, .ireturn, 1), (48, .aload_n 0, 1), (49, .getfield 144, 3), (52, .bipush 8, 2), (54, .if_icmp .ne 6, 3), (57, .bipush (-2), 2), (59, .ireturn, 1), (60, .aload_n 0, 1), (61, .invokevirtual 338, 3), (64, .aload_n 0, 1), (65, .iload_n 1, 1), (66, .iconst 0, 1), (67, .iload_n 3, 1), (68, .invokevirtual 424, 3), (71, .aload_n 0, 1), (72, .iload_n 2, 1), (73, .iconst 1, 1), (74, .iload_n 3, 1), (75, .invokevirtual 424, 3), (78, .iconst 1, 1), (79, .istore 4, 2), (81, .iconst 0, 1), (82, .istore 5, 2), (84, .iload 5, 2), (86, .iload_n 3, 1), (87, .if_icmp .ge 41, 3), (90, .iload 4, 2), (92, .ifCond .eq 27, 3), (95, .aload_n 0, 1), (96, .getfield 132, 3), (99, .iload 5, 2), (101, .iaload, 1), (102, .aload_n 0, 1), (103, .getfield 132, 3), (106, .bipush 20, 2), (108, .iload 5, 2), (110, .iadd, 1), (111, .iaload, 1), (112, .if_icmp .ne 7, 3), (115, .iconst 1, 1), (116, .goto 4, 3), (119, .iconst 0, 1), (120, .istore 4, 2), (122, .iinc 5 1, 3), (125, .goto (-41), 3), (128, .iload 4, 2), (130, .ifCond .eq 7, 3), (133, .iconst 1, 1), (134, .goto 4, 3), (137, .iconst 0, 1), (138, .ireturn, 1)]
theorem ck218 : pe_ctx 218 9 false (some .int) 6 T218 := ⟨rfl, rfl, rfl, rfl, by decide +kernel, by decide, by decide⟩
theorem b218_0 {d : Nat} {Φ : Option pe_V → pe_H → Prop} {σ : pe_H} {M q : Nat} {y : Nat → Int → Int} (hF : pm_F M σ) {x1 : Int} {x2 : Int} {x3 : Int} {o4 : Option pe_V} {o5 : Option pe_V}  (w0 : pe_in x1 := by unfold pe_in; omega)  (k : pe_M d 134 [.inr (.inl x1), .inr (.inl 0), .inr (.inl 4)] (pm_h M σ q (pm_u y 0 37 0)) (fun r σ' => pe_X d 218 (14, [some (.inr (.inr M)), some (.inl x1), some (.inl x2), some (.inl x3), o4, o5], r.toList ++ [], σ') Φ)) : pe_X d 218 (0, [some (.inr (.inr M)), some (.inl x1), some (.inl x2), some (.inl x3), o4, o5], [], pm_h M σ q y) Φ := by
  refine pe_blk 0 7 ck218 [pe_K (pm_h M σ q y) M = 9] (11, [some (.inr (.inr M)), some (.inl x1), some (.inl x2), some (.inl x3), o4, o5], [.inr (.inl 4), .inr (.inl 0), .inr (.inl (pe_w x1))], pe_wI (pm_h M σ q y) M 37 0) rfl ?_ ?_
  · first
    | (simp (disch := omega) only [pe_all, pe_wi w0, pe_K_wI, pe_K_wR, pm_KM hF, pm_Kh, pm_wI0]; done)
    | (simp (disch := omega) only [pe_all, pe_wi w0, pe_K_wI, pe_K_wR, pm_KM hF, pm_Kh, pm_wI0]; (repeat' apply And.intro) <;> first | assumption | omega | decide)
  · try simp (disch := omega) only [pe_wi w0, pe_K_wI, pe_K_wR, pm_KM hF, pm_Kh, pm_wI0]
    exact pe_cal 7 ck218 rfl rfl rfl trivial k
theorem b218_14 {d : Nat} {Φ : Option pe_V → pe_H → Prop} {σ : pe_H} {M q : Nat} {y : Nat → Int → Int} (hF : pm_F M σ) {x1 : Int} {x2 : Int} {x3 : Int} {o4 : Option pe_V} {o5 : Option pe_V} {s0 : Int}  (w0 : pe_in s0 := by unfold pe_in; omega)  (k1 : s0 = 0 → pe_X d 218 (46, [some (.inr (.inr M)), some (.inl x1), some (.inl x2), some (.inl x3), o4, o5], [], pm_h M σ q y) Φ) (k2 : ¬ (s0 = 0) → pe_X d 218 (17, [some (.inr (.inr M)), some (.inl x1), some (.inl x2), some (.inl x3), o4, o5], [], pm_h M σ q y) Φ) : pe_X d 218 (14, [some (.inr (.inr M)), some (.inl x1), some (.inl x2), some (.inl x3), o4, o5], [.inl s0], pm_h M σ q y) Φ := by
  refine pe_blk 8 1 ck218 [] (cond (decide ((pe_w s0) = 0)) 46 17, [some (.inr (.inr M)), some (.inl x1), some (.inl x2), some (.inl x3), o4, o5], [], pm_h M σ q y) rfl ?_ ?_
  · exact trivial
  · try simp (disch := omega) only [pe_wi w0]
    exact pe_two k1 k2
theorem b218_17 {d : Nat} {Φ : Option pe_V → pe_H → Prop} {σ : pe_H} {M q : Nat} {y : Nat → Int → Int} (hF : pm_F M σ) {x1 : Int} {x2 : Int} {x3 : Int} {o4 : Option pe_V} {o5 : Option pe_V}  (w0 : pe_in x2 := by unfold pe_in; omega)  (k : pe_M d 134 [.inr (.inl x2), .inr (.inl 0), .inr (.inl 4)] (pm_h M σ q y) (fun r σ' => pe_X d 218 (26, [some (.inr (.inr M)), some (.inl x1), some (.inl x2), some (.inl x3), o4, o5], r.toList ++ [], σ') Φ)) : pe_X d 218 (17, [some (.inr (.inr M)), some (.inl x1), some (.inl x2), some (.inl x3), o4, o5], [], pm_h M σ q y) Φ := by
  refine pe_blk 9 4 ck218 [] (23, [some (.inr (.inr M)), some (.inl x1), some (.inl x2), some (.inl x3), o4, o5], [.inr (.inl 4), .inr (.inl 0), .inr (.inl (pe_w x2))], pm_h M σ q y) rfl ?_ ?_
  · exact trivial
  · try simp (disch := omega) only [pe_wi w0]
    exact pe_cal 13 ck218 rfl rfl rfl trivial k
theorem b218_26 {d : Nat} {Φ : Option pe_V → pe_H → Prop} {σ : pe_H} {M q : Nat} {y : Nat → Int → Int} (hF : pm_F M σ) {x1 : Int} {x2 : Int} {x3 : Int} {o4 : Option pe_V} {o5 : Option pe_V} {s0 : Int}  (w0 : pe_in s0 := by unfold pe_in; omega)  (k1 : s0 = 0 → pe_X d 218 (46, [some (.inr (.inr M)), some (.inl x1), some (.inl x2), some (.inl x3), o4, o5], [], pm_h M σ q y) Φ) (k2 : ¬ (s0 = 0) → pe_X d 218 (29, [some (.inr (.inr M)), some (.inl x1), some (.inl x2), some (.inl x3), o4, o5], [], pm_h M σ q y) Φ) : pe_X d 218 (26, [some (.inr (.inr M)), some (.inl x1), some (.inl x2), some (.inl x3), o4, o5], [.inl s0], pm_h M σ q y) Φ := by
  refine pe_blk 14 1 ck218 [] (cond (decide ((pe_w s0) = 0)) 46 29, [some (.inr (.inr M)), some (.inl x1), some (.inl x2), some (.inl x3), o4, o5], [], pm_h M σ q y) rfl ?_ ?_
  · exact trivial
  · try simp (disch := omega) only [pe_wi w0]
    exact pe_two k1 k2
theorem b218_29 {d : Nat} {Φ : Option pe_V → pe_H → Prop} {σ : pe_H} {M q : Nat} {y : Nat → Int → Int} (hF : pm_F M σ) {x1 : Int} {x2 : Int} {x3 : Int} {o4 : Option pe_V} {o5 : Option pe_V}  (w0 : pe_in x2 := by unfold pe_in; omega) (w1 : pe_in x1 := by unfold pe_in; omega)  (k1 : x1 = x2 → pe_X d 218 (46, [some (.inr (.inr M)), some (.inl x1), some (.inl x2), some (.inl x3), o4, o5], [], pm_h M σ q y) Φ) (k2 : ¬ (x1 = x2) → pe_X d 218 (34, [some (.inr (.inr M)), some (.inl x1), some (.inl x2), some (.inl x3), o4, o5], [], pm_h M σ q y) Φ) : pe_X d 218 (29, [some (.inr (.inr M)), some (.inl x1), some (.inl x2), some (.inl x3), o4, o5], [], pm_h M σ q y) Φ := by
  refine pe_blk 15 3 ck218 [] (cond (decide ((pe_w x1) = (pe_w x2))) 46 34, [some (.inr (.inr M)), some (.inl x1), some (.inl x2), some (.inl x3), o4, o5], [], pm_h M σ q y) rfl ?_ ?_
  · exact trivial
  · try simp (disch := omega) only [pe_wi w0, pe_wi w1]
    exact pe_two k1 k2
theorem b218_34 {d : Nat} {Φ : Option pe_V → pe_H → Prop} {σ : pe_H} {M q : Nat} {y : Nat → Int → Int} (hF : pm_F M σ) {x1 : Int} {x2 : Int} {x3 : Int} {o4 : Option pe_V} {o5 : Option pe_V}  (w0 : pe_in x3 := by unfold pe_in; omega)  (k : pe_M d 134 [.inr (.inl x3), .inr (.inl 0), .inr (.inl 20)] (pm_h M σ q y) (fun r σ' => pe_X d 218 (43, [some (.inr (.inr M)), some (.inl x1), some (.inl x2), some (.inl x3), o4, o5], r.toList ++ [], σ') Φ)) : pe_X d 218 (34, [some (.inr (.inr M)), some (.inl x1), some (.inl x2), some (.inl x3), o4, o5], [], pm_h M σ q y) Φ := by
  refine pe_blk 18 4 ck218 [] (40, [some (.inr (.inr M)), some (.inl x1), some (.inl x2), some (.inl x3), o4, o5], [.inr (.inl 20), .inr (.inl 0), .inr (.inl (pe_w x3))], pm_h M σ q y) rfl ?_ ?_
  · exact trivial
  · try simp (disch := omega) only [pe_wi w0]
    exact pe_cal 22 ck218 rfl rfl rfl trivial k
theorem b218_43 {d : Nat} {Φ : Option pe_V → pe_H → Prop} {σ : pe_H} {M q : Nat} {y : Nat → Int → Int} (hF : pm_F M σ) {x1 : Int} {x2 : Int} {x3 : Int} {o4 : Option pe_V} {o5 : Option pe_V} {s0 : Int}  (w0 : pe_in s0 := by unfold pe_in; omega)  (k1 : ¬ s0 = 0 → pe_X d 218 (48, [some (.inr (.inr M)), some (.inl x1), some (.inl x2), some (.inl x3), o4, o5], [], pm_h M σ q y) Φ) (k2 : s0 = 0 → pe_X d 218 (46, [some (.inr (.inr M)), some (.inl x1), some (.inl x2), some (.inl x3), o4, o5], [], pm_h M σ q y) Φ) : pe_X d 218 (43, [some (.inr (.inr M)), some (.inl x1), some (.inl x2), some (.inl x3), o4, o5], [.inl s0], pm_h M σ q y) Φ := by
  refine pe_blk 23 1 ck218 [] (cond (decide (¬ (pe_w s0) = 0)) 48 46, [some (.inr (.inr M)), some (.inl x1), some (.inl x2), some (.inl x3), o4, o5], [], pm_h M σ q y) rfl ?_ ?_
  · exact trivial
  · try simp (disch := omega) only [pe_wi w0]
    exact pe_two' k1 k2
theorem b218_46 {d : Nat} {Φ : Option pe_V → pe_H → Prop} {σ : pe_H} {M q : Nat} {y : Nat → Int → Int} (hF : pm_F M σ) {o1 : Option pe_V} {o2 : Option pe_V} {o3 : Option pe_V} {o4 : Option pe_V} {o5 : Option pe_V}    (k : Φ (some (.inl (-1))) (pm_h M σ q y)) : pe_X d 218 (46, [some (.inr (.inr M)), o1, o2, o3, o4, o5], [], pm_h M σ q y) Φ := by
  refine pe_blk 24 1 ck218 [] (47, [some (.inr (.inr M)), o1, o2, o3, o4, o5], [.inl (-1)], pm_h M σ q y) rfl ?_ ?_
  · exact trivial
  · exact pe_fine 25 ck218 rfl rfl rfl trivial k
theorem b218_48 {d : Nat} {Φ : Option pe_V → pe_H → Prop} {σ : pe_H} {M q : Nat} {y : Nat → Int → Int} (hF : pm_F M σ) {x1 : Int} {x2 : Int} {x3 : Int} {o4 : Option pe_V} {o5 : Option pe_V}  (w0 : pe_in (y 0 3) := by unfold pe_in; omega)  (k1 : ¬ (y 0 3) = 8 → pe_X d 218 (60, [some (.inr (.inr M)), some (.inl x1), some (.inl x2), some (.inl x3), o4, o5], [], pm_h M σ q y) Φ) (k2 : (y 0 3) = 8 → pe_X d 218 (57, [some (.inr (.inr M)), some (.inl x1), some (.inl x2), some (.inl x3), o4, o5], [], pm_h M σ q y) Φ) : pe_X d 218 (48, [some (.inr (.inr M)), some (.inl x1), some (.inl x2), some (.inl x3), o4, o5], [], pm_h M σ q y) Φ := by
  refine pe_blk 26 4 ck218 [pe_K (pm_h M σ q y) M = 9] (cond (decide (¬ (pe_w (pe_I (pm_h M σ q y) M 3)) = (pe_w 8))) 60 57, [some (.inr (.inr M)), some (.inl x1), some (.inl x2), some (.inl x3), o4, o5], [], pm_h M σ q y) rfl ?_ ?_
  · first
    | (simp (disch := omega) only [pe_all, pe_wi w0, pe_wi (x := 8) ⟨by decide, by decide⟩, pe_I_wR, pe_K_wI, pe_K_wR, pm_I0, pm_KM hF, pm_Kh, pm_uj, pm_uk, pm_us]; done)
    | (simp (disch := omega) only [pe_all, pe_wi w0, pe_wi (x := 8) ⟨by decide, by decide⟩, pe_I_wR, pe_K_wI, pe_K_wR, pm_I0, pm_KM hF, pm_Kh, pm_uj, pm_uk, pm_us]; (repeat' apply And.intro) <;> first | assumption | omega | decide)
  · try simp (disch := omega) only [pe_wi w0, pe_wi (x := 8) ⟨by decide, by decide⟩, pe_I_wR, pe_K_wI, pe_K_wR, pm_I0, pm_KM hF, pm_Kh, pm_uj, pm_uk, pm_us]
    exact pe_two' k1 k2
theorem b218_57 {d : Nat} {Φ : Option pe_V → pe_H → Prop} {σ : pe_H} {M q : Nat} {y : Nat → Int → Int} (hF : pm_F M σ) {o1 : Option pe_V} {o2 : Option pe_V} {o3 : Option pe_V} {o4 : Option pe_V} {o5 : Option pe_V}    (k : Φ (some (.inl (-2))) (pm_h M σ q y)) : pe_X d 218 (57, [some (.inr (.inr M)), o1, o2, o3, o4, o5], [], pm_h M σ q y) Φ := by
  refine pe_blk 30 1 ck218 [] (59, [some (.inr (.inr M)), o1, o2, o3, o4, o5], [.inl (-2)], pm_h M σ q y) rfl ?_ ?_
  · exact trivial
  · exact pe_fine 31 ck218 rfl rfl rfl trivial k
theorem b218_60 {d : Nat} {Φ : Option pe_V → pe_H → Prop} {σ : pe_H} {M q : Nat} {y : Nat → Int → Int} (hF : pm_F M σ) {x1 : Int} {x2 : Int} {x3 : Int} {o4 : Option pe_V} {o5 : Option pe_V}    (k : pe_M d 187 [.inr (.inr M)] (pm_h M σ q y) (fun r σ' => pe_X d 218 (64, [some (.inr (.inr M)), some (.inl x1), some (.inl x2), some (.inl x3), o4, o5], r.toList ++ [], σ') Φ)) : pe_X d 218 (60, [some (.inr (.inr M)), some (.inl x1), some (.inl x2), some (.inl x3), o4, o5], [], pm_h M σ q y) Φ := by
  refine pe_blk 32 1 ck218 [] (61, [some (.inr (.inr M)), some (.inl x1), some (.inl x2), some (.inl x3), o4, o5], [.inr (.inr M)], pm_h M σ q y) rfl ?_ ?_
  · exact trivial
  · try simp (disch := omega) only [pe_K_wI, pe_K_wR, pm_KM hF, pm_Kh]
    have hrc : pe_K (pm_h M σ q y) M = 9 := by first | assumption | (simp (disch := omega) only [pe_K_wI, pe_K_wR, pm_KM hF, pm_Kh]; done) | (simp (disch := omega) only [pe_K_wI, pe_K_wR, pm_KM hF, pm_Kh]; assumption)
    exact pe_cal 33 ck218 rfl rfl rfl ⟨hrc, by decide⟩ k
theorem b218_64 {d : Nat} {Φ : Option pe_V → pe_H → Prop} {σ : pe_H} {M q : Nat} {y : Nat → Int → Int} (hF : pm_F M σ) {x1 : Int} {x2 : Int} {x3 : Int} {o4 : Option pe_V} {o5 : Option pe_V}    (k : pe_M d 217 [.inr (.inr M), .inl x1, .inl 0, .inl x3] (pm_h M σ q y) (fun r σ' => pe_X d 218 (71, [some (.inr (.inr M)), some (.inl x1), some (.inl x2), some (.inl x3), o4, o5], r.toList ++ [], σ') Φ)) : pe_X d 218 (64, [some (.inr (.inr M)), some (.inl x1), some (.inl x2), some (.inl x3), o4, o5], [], pm_h M σ q y) Φ := by
  refine pe_blk 34 4 ck218 [] (68, [some (.inr (.inr M)), some (.inl x1), some (.inl x2), some (.inl x3), o4, o5], [.inl x3, .inl 0, .inl x1, .inr (.inr M)], pm_h M σ q y) rfl ?_ ?_
  · exact trivial
  · try simp (disch := omega) only [pe_K_wI, pe_K_wR, pm_KM hF, pm_Kh]
    have hrc : pe_K (pm_h M σ q y) M = 9 := by first | assumption | (simp (disch := omega) only [pe_K_wI, pe_K_wR, pm_KM hF, pm_Kh]; done) | (simp (disch := omega) only [pe_K_wI, pe_K_wR, pm_KM hF, pm_Kh]; assumption)
    exact pe_cal 38 ck218 rfl rfl rfl ⟨hrc, by decide⟩ k
theorem b218_71 {d : Nat} {Φ : Option pe_V → pe_H → Prop} {σ : pe_H} {M q : Nat} {y : Nat → Int → Int} (hF : pm_F M σ) {o1 : Option pe_V} {x2 : Int} {x3 : Int} {o4 : Option pe_V} {o5 : Option pe_V}    (k : pe_M d 217 [.inr (.inr M), .inl x2, .inl 1, .inl x3] (pm_h M σ q y) (fun r σ' => pe_X d 218 (78, [some (.inr (.inr M)), o1, some (.inl x2), some (.inl x3), o4, o5], r.toList ++ [], σ') Φ)) : pe_X d 218 (71, [some (.inr (.inr M)), o1, some (.inl x2), some (.inl x3), o4, o5], [], pm_h M σ q y) Φ := by
  refine pe_blk 39 4 ck218 [] (75, [some (.inr (.inr M)), o1, some (.inl x2), some (.inl x3), o4, o5], [.inl x3, .inl 1, .inl x2, .inr (.inr M)], pm_h M σ q y) rfl ?_ ?_
  · exact trivial
  · try simp (disch := omega) only [pe_K_wI, pe_K_wR, pm_KM hF, pm_Kh]
    have hrc : pe_K (pm_h M σ q y) M = 9 := by first | assumption | (simp (disch := omega) only [pe_K_wI, pe_K_wR, pm_KM hF, pm_Kh]; done) | (simp (disch := omega) only [pe_K_wI, pe_K_wR, pm_KM hF, pm_Kh]; assumption)
    exact pe_cal 43 ck218 rfl rfl rfl ⟨hrc, by decide⟩ k
theorem b218_78 {d : Nat} {Φ : Option pe_V → pe_H → Prop} {σ : pe_H} {M q : Nat} {y : Nat → Int → Int} (hF : pm_F M σ) {o1 : Option pe_V} {o2 : Option pe_V} {x3 : Int} {o4 : Option pe_V} {o5 : Option pe_V}    (k : pe_X d 218 (84, [some (.inr (.inr M)), o1, o2, some (.inl x3), some (.inl 1), some (.inl 0)], [], pm_h M σ q y) Φ) : pe_X d 218 (78, [some (.inr (.inr M)), o1, o2, some (.inl x3), o4, o5], [], pm_h M σ q y) Φ := by
  refine pe_blk 44 4 ck218 [] (84, [some (.inr (.inr M)), o1, o2, some (.inl x3), some (.inl 1), some (.inl 0)], [], pm_h M σ q y) rfl ?_ ?_
  · exact trivial
  · exact k
set_option maxRecDepth 8000 in
theorem b218_84 {d : Nat} {Φ : Option pe_V → pe_H → Prop} {σ : pe_H} {M q : Nat} {y : Nat → Int → Int} (hF : pm_F M σ) {o1 : Option pe_V} {o2 : Option pe_V} {x3 : Int} {x4 : Int} {x5 : Int}  (w0 : pe_in x3 := by unfold pe_in; omega) (w1 : pe_in x5 := by unfold pe_in; omega)  (k1 : x3 ≤ x5 → pe_X d 218 (128, [some (.inr (.inr M)), o1, o2, some (.inl x3), some (.inl x4), some (.inl x5)], [], pm_h M σ q y) Φ) (k2 : ¬ (x3 ≤ x5) → pe_X d 218 (90, [some (.inr (.inr M)), o1, o2, some (.inl x3), some (.inl x4), some (.inl x5)], [], pm_h M σ q y) Φ) : pe_X d 218 (84, [some (.inr (.inr M)), o1, o2, some (.inl x3), some (.inl x4), some (.inl x5)], [], pm_h M σ q y) Φ := by
  refine pe_blk 48 3 ck218 [] (cond (decide ((pe_w x3) ≤ (pe_w x5))) 128 90, [some (.inr (.inr M)), o1, o2, some (.inl x3), some (.inl x4), some (.inl x5)], [], pm_h M σ q y) rfl ?_ ?_
  · exact trivial
  · try simp (disch := omega) only [pe_wi w0, pe_wi w1]
    exact pe_two k1 k2
set_option maxRecDepth 8000 in
theorem b218_90 {d : Nat} {Φ : Option pe_V → pe_H → Prop} {σ : pe_H} {M q : Nat} {y : Nat → Int → Int} (hF : pm_F M σ) {o1 : Option pe_V} {o2 : Option pe_V} {x3 : Int} {x4 : Int} {x5 : Int}  (w0 : pe_in x4 := by unfold pe_in; omega)  (k1 : x4 = 0 → pe_X d 218 (119, [some (.inr (.inr M)), o1, o2, some (.inl x3), some (.inl x4), some (.inl x5)], [], pm_h M σ q y) Φ) (k2 : ¬ (x4 = 0) → pe_X d 218 (95, [some (.inr (.inr M)), o1, o2, some (.inl x3), some (.inl x4), some (.inl x5)], [], pm_h M σ q y) Φ) : pe_X d 218 (90, [some (.inr (.inr M)), o1, o2, some (.inl x3), some (.inl x4), some (.inl x5)], [], pm_h M σ q y) Φ := by
  refine pe_blk 51 2 ck218 [] (cond (decide ((pe_w x4) = 0)) 119 95, [some (.inr (.inr M)), o1, o2, some (.inl x3), some (.inl x4), some (.inl x5)], [], pm_h M σ q y) rfl ?_ ?_
  · exact trivial
  · try simp (disch := omega) only [pe_wi w0]
    exact pe_two k1 k2
set_option maxRecDepth 8000 in
theorem b218_95 {d : Nat} {Φ : Option pe_V → pe_H → Prop} {σ : pe_H} {M q : Nat} {y : Nat → Int → Int} (hF : pm_F M σ) {o1 : Option pe_V} {o2 : Option pe_V} {x3 : Int} {o4 : Option pe_V} {x5 : Int}  (w0 : pe_in x5 := by unfold pe_in; omega) (w1 : pe_in (20 + x5) := by unfold pe_in; omega) (w2 : pe_in (y 40 (20 + x5)) := by unfold pe_in; omega) (w3 : pe_in (y 40 x5) := by unfold pe_in; omega) (h0 : 0 ≤ x5 := by first | assumption | omega) (h1 : x5 < 40 := by first | assumption | omega) (h2 : 0 ≤ (20 + x5) := by first | assumption | omega) (h3 : (20 + x5) < 40 := by first | assumption | omega) (k1 : ¬ (y 40 x5) = (y 40 (20 + x5)) → pe_X d 218 (119, [some (.inr (.inr M)), o1, o2, some (.inl x3), o4, some (.inl x5)], [], pm_h M σ q y) Φ) (k2 : (y 40 x5) = (y 40 (20 + x5)) → pe_X d 218 (115, [some (.inr (.inr M)), o1, o2, some (.inl x3), o4, some (.inl x5)], [], pm_h M σ q y) Φ) : pe_X d 218 (95, [some (.inr (.inr M)), o1, o2, some (.inl x3), o4, some (.inl x5)], [], pm_h M σ q y) Φ := by
  refine pe_blk 53 11 ck218 [pe_K (pm_h M σ q y) M = 9, pe_K (pm_h M σ q y) (pe_R (pm_h M σ q y) M 54) = 10, 0 ≤ (pe_w x5), (pe_w x5) < pe_L (pm_h M σ q y) (pe_R (pm_h M σ q y) M 54), pe_K (pm_h M σ q y) M = 9, pe_K (pm_h M σ q y) (pe_R (pm_h M σ q y) M 54) = 10, 0 ≤ (pe_w (20 + x5)), (pe_w (20 + x5)) < pe_L (pm_h M σ q y) (pe_R (pm_h M σ q y) M 54)] (cond (decide (¬ (pe_w (pe_I (pm_h M σ q y) (pe_R (pm_h M σ q y) M 54) (pe_w x5))) = (pe_w (pe_I (pm_h M σ q y) (pe_R (pm_h M σ q y) M 54) (pe_w (20 + x5)))))) 119 115, [some (.inr (.inr M)), o1, o2, some (.inl x3), o4, some (.inl x5)], [], pm_h M σ q y) rfl ?_ ?_
  · first
    | (simp (disch := omega) only [pe_all, pe_wi w0, pe_wi w1, pe_wi w2, pe_wi w3, pe_I_wR, pe_K_wI, pe_K_wR, pe_L_wI, pe_L_wR, pe_R_nej, pe_R_wI, pm_Ik, pm_K40 hF, pm_KM hF, pm_Kh, pm_L40 hF, pm_Lh, pm_R54 hF, pm_Rh, pm_uj, pm_uk, pm_us]; done)
    | (simp (disch := omega) only [pe_all, pe_wi w0, pe_wi w1, pe_wi w2, pe_wi w3, pe_I_wR, pe_K_wI, pe_K_wR, pe_L_wI, pe_L_wR, pe_R_nej, pe_R_wI, pm_Ik, pm_K40 hF, pm_KM hF, pm_Kh, pm_L40 hF, pm_Lh, pm_R54 hF, pm_Rh, pm_uj, pm_uk, pm_us]; (repeat' apply And.intro) <;> first | assumption | omega | decide)
  · try simp (disch := omega) only [pe_wi w0, pe_wi w1, pe_wi w2, pe_wi w3, pe_I_wR, pe_K_wI, pe_K_wR, pe_L_wI, pe_L_wR, pe_R_nej, pe_R_wI, pm_Ik, pm_K40 hF, pm_KM hF, pm_Kh, pm_L40 hF, pm_Lh, pm_R54 hF, pm_Rh, pm_uj, pm_uk, pm_us]
    exact pe_two' k1 k2
set_option maxRecDepth 8000 in
theorem b218_115 {d : Nat} {Φ : Option pe_V → pe_H → Prop} {σ : pe_H} {M q : Nat} {y : Nat → Int → Int} (hF : pm_F M σ) {o1 : Option pe_V} {o2 : Option pe_V} {x3 : Int} {o4 : Option pe_V} {x5 : Int}    (k : pe_X d 218 (120, [some (.inr (.inr M)), o1, o2, some (.inl x3), o4, some (.inl x5)], [.inl 1], pm_h M σ q y) Φ) : pe_X d 218 (115, [some (.inr (.inr M)), o1, o2, some (.inl x3), o4, some (.inl x5)], [], pm_h M σ q y) Φ := by
  refine pe_blk 64 2 ck218 [] (120, [some (.inr (.inr M)), o1, o2, some (.inl x3), o4, some (.inl x5)], [.inl 1], pm_h M σ q y) rfl ?_ ?_
  · exact trivial
  · exact k
set_option maxRecDepth 8000 in
theorem b218_119 {d : Nat} {Φ : Option pe_V → pe_H → Prop} {σ : pe_H} {M q : Nat} {y : Nat → Int → Int} (hF : pm_F M σ) {o1 : Option pe_V} {o2 : Option pe_V} {x3 : Int} {o4 : Option pe_V} {x5 : Int}    (k : pe_X d 218 (120, [some (.inr (.inr M)), o1, o2, some (.inl x3), o4, some (.inl x5)], [.inl 0], pm_h M σ q y) Φ) : pe_X d 218 (119, [some (.inr (.inr M)), o1, o2, some (.inl x3), o4, some (.inl x5)], [], pm_h M σ q y) Φ := by
  refine pe_blk 66 1 ck218 [] (120, [some (.inr (.inr M)), o1, o2, some (.inl x3), o4, some (.inl x5)], [.inl 0], pm_h M σ q y) rfl ?_ ?_
  · exact trivial
  · exact k
set_option maxRecDepth 8000 in
theorem b218_120 {d : Nat} {Φ : Option pe_V → pe_H → Prop} {σ : pe_H} {M q : Nat} {y : Nat → Int → Int} (hF : pm_F M σ) {o1 : Option pe_V} {o2 : Option pe_V} {x3 : Int} {o4 : Option pe_V} {x5 : Int} {s0 : Int}    (k : pe_X d 218 (84, [some (.inr (.inr M)), o1, o2, some (.inl x3), some (.inl s0), some (.inl (x5 + 1))], [], pm_h M σ q y) Φ) : pe_X d 218 (120, [some (.inr (.inr M)), o1, o2, some (.inl x3), o4, some (.inl x5)], [.inl s0], pm_h M σ q y) Φ := by
  refine pe_blk 67 3 ck218 [] (84, [some (.inr (.inr M)), o1, o2, some (.inl x3), some (.inl s0), some (.inl (x5 + 1))], [], pm_h M σ q y) rfl ?_ ?_
  · exact trivial
  · exact k
set_option maxRecDepth 8000 in
theorem b218_128 {d : Nat} {Φ : Option pe_V → pe_H → Prop} {σ : pe_H} {M q : Nat} {y : Nat → Int → Int} (hF : pm_F M σ) {o1 : Option pe_V} {o2 : Option pe_V} {o3 : Option pe_V} {x4 : Int} {o5 : Option pe_V}  (w0 : pe_in x4 := by unfold pe_in; omega)  (k1 : x4 = 0 → pe_X d 218 (137, [some (.inr (.inr M)), o1, o2, o3, some (.inl x4), o5], [], pm_h M σ q y) Φ) (k2 : ¬ (x4 = 0) → pe_X d 218 (133, [some (.inr (.inr M)), o1, o2, o3, some (.inl x4), o5], [], pm_h M σ q y) Φ) : pe_X d 218 (128, [some (.inr (.inr M)), o1, o2, o3, some (.inl x4), o5], [], pm_h M σ q y) Φ := by
  refine pe_blk 70 2 ck218 [] (cond (decide ((pe_w x4) = 0)) 137 133, [some (.inr (.inr M)), o1, o2, o3, some (.inl x4), o5], [], pm_h M σ q y) rfl ?_ ?_
  · exact trivial
  · try simp (disch := omega) only [pe_wi w0]
    exact pe_two k1 k2
set_option maxRecDepth 8000 in
theorem b218_133 {d : Nat} {Φ : Option pe_V → pe_H → Prop} {σ : pe_H} {M q : Nat} {y : Nat → Int → Int} (hF : pm_F M σ) {o1 : Option pe_V} {o2 : Option pe_V} {o3 : Option pe_V} {o4 : Option pe_V} {o5 : Option pe_V}    (k : pe_X d 218 (138, [some (.inr (.inr M)), o1, o2, o3, o4, o5], [.inl 1], pm_h M σ q y) Φ) : pe_X d 218 (133, [some (.inr (.inr M)), o1, o2, o3, o4, o5], [], pm_h M σ q y) Φ := by
  refine pe_blk 72 2 ck218 [] (138, [some (.inr (.inr M)), o1, o2, o3, o4, o5], [.inl 1], pm_h M σ q y) rfl ?_ ?_
  · exact trivial
  · exact k
set_option maxRecDepth 8000 in
theorem b218_137 {d : Nat} {Φ : Option pe_V → pe_H → Prop} {σ : pe_H} {M q : Nat} {y : Nat → Int → Int} (hF : pm_F M σ) {o1 : Option pe_V} {o2 : Option pe_V} {o3 : Option pe_V} {o4 : Option pe_V} {o5 : Option pe_V}    (k : pe_X d 218 (138, [some (.inr (.inr M)), o1, o2, o3, o4, o5], [.inl 0], pm_h M σ q y) Φ) : pe_X d 218 (137, [some (.inr (.inr M)), o1, o2, o3, o4, o5], [], pm_h M σ q y) Φ := by
  refine pe_blk 74 1 ck218 [] (138, [some (.inr (.inr M)), o1, o2, o3, o4, o5], [.inl 0], pm_h M σ q y) rfl ?_ ?_
  · exact trivial
  · exact k
set_option maxRecDepth 8000 in
theorem b218_138 {d : Nat} {Φ : Option pe_V → pe_H → Prop} {σ : pe_H} {M q : Nat} {y : Nat → Int → Int} (hF : pm_F M σ) {o1 : Option pe_V} {o2 : Option pe_V} {o3 : Option pe_V} {o4 : Option pe_V} {o5 : Option pe_V} {s0 : Int}    (k : Φ (some (.inl s0)) (pm_h M σ q y)) : pe_X d 218 (138, [some (.inr (.inr M)), o1, o2, o3, o4, o5], [.inl s0], pm_h M σ q y) Φ := by
  exact pe_fine 75 ck218 rfl rfl rfl trivial k
-- StepMachinesModel.gainOf(IIZ)I
def T219 : List (Nat × Instr × Nat) := [(0, .aload_n 0, 1), (1, .getfield 37, 3), (4, .iload_n 1, 1), (5, .iaload, 1), (6, .iload_n 3, 1), (7, .ifCond .eq 7, 3), (10, .iconst 2, 1), (11, .goto 4, 3), (14, .iconst 0, 1), (15, .isub, 1), (16, .aload_n 0, 1), (17, .getfield 28, 3), (20, .iload_n 2, 1), (21, .iaload, 1), (22, .bipush 7, 2), (24, .if_icmp .ne 8, 3), (27, .bipush 6, 2), (29, .goto 4, 3), (32, .iconst 0, 1), (33, .isub, 1), (34, .ireturn, 1)]
theorem ck219 : pe_ctx 219 9 false (some .int) 4 T219 := ⟨rfl, rfl, rfl, rfl, by decide +kernel, by decide, by decide⟩
theorem b219_0 {d : Nat} {Φ : Option pe_V → pe_H → Prop} {σ : pe_H} {M q : Nat} {y : Nat → Int → Int} (hF : pm_F M σ) {x1 : Int} {x2 : Int} {x3 : Int}  (w0 : pe_in x1 := by unfold pe_in; omega) (w1 : pe_in x3 := by unfold pe_in; omega) (h0 : 0 ≤ x1 := by first | assumption | omega) (h1 : x1 < 8 := by first | assumption | omega) (k1 : x3 = 0 → pe_X d 219 (14, [some (.inr (.inr M)), some (.inl x1), some (.inl x2), some (.inl x3)], [.inl (y 10 x1)], pm_h M σ q y) Φ) (k2 : ¬ (x3 = 0) → pe_X d 219 (10, [some (.inr (.inr M)), some (.inl x1), some (.inl x2), some (.inl x3)], [.inl (y 10 x1)], pm_h M σ q y) Φ) : pe_X d 219 (0, [some (.inr (.inr M)), some (.inl x1), some (.inl x2), some (.inl x3)], [], pm_h M σ q y) Φ := by
  refine pe_blk 0 6 ck219 [pe_K (pm_h M σ q y) M = 9, pe_K (pm_h M σ q y) (pe_R (pm_h M σ q y) M 10) = 10, 0 ≤ (pe_w x1), (pe_w x1) < pe_L (pm_h M σ q y) (pe_R (pm_h M σ q y) M 10)] (cond (decide ((pe_w x3) = 0)) 14 10, [some (.inr (.inr M)), some (.inl x1), some (.inl x2), some (.inl x3)], [.inl (pe_I (pm_h M σ q y) (pe_R (pm_h M σ q y) M 10) (pe_w x1))], pm_h M σ q y) rfl ?_ ?_
  · first
    | (simp (disch := omega) only [pe_all, pe_wi w0, pe_wi w1, pe_I_wR, pe_K_wI, pe_K_wR, pe_L_wI, pe_L_wR, pe_R_nej, pe_R_wI, pm_Ik, pm_K10 hF, pm_KM hF, pm_Kh, pm_L10 hF, pm_Lh, pm_R10 hF, pm_Rh, pm_uj, pm_uk, pm_us]; done)
    | (simp (disch := omega) only [pe_all, pe_wi w0, pe_wi w1, pe_I_wR, pe_K_wI, pe_K_wR, pe_L_wI, pe_L_wR, pe_R_nej, pe_R_wI, pm_Ik, pm_K10 hF, pm_KM hF, pm_Kh, pm_L10 hF, pm_Lh, pm_R10 hF, pm_Rh, pm_uj, pm_uk, pm_us]; (repeat' apply And.intro) <;> first | assumption | omega | decide)
  · try simp (disch := omega) only [pe_wi w0, pe_wi w1, pe_I_wR, pe_K_wI, pe_K_wR, pe_L_wI, pe_L_wR, pe_R_nej, pe_R_wI, pm_Ik, pm_K10 hF, pm_KM hF, pm_Kh, pm_L10 hF, pm_Lh, pm_R10 hF, pm_Rh, pm_uj, pm_uk, pm_us]
    exact pe_two k1 k2
theorem b219_10 {d : Nat} {Φ : Option pe_V → pe_H → Prop} {σ : pe_H} {M q : Nat} {y : Nat → Int → Int} (hF : pm_F M σ) {o1 : Option pe_V} {x2 : Int} {o3 : Option pe_V} {s0 : Int}    (k : pe_X d 219 (15, [some (.inr (.inr M)), o1, some (.inl x2), o3], [.inl 2, .inl s0], pm_h M σ q y) Φ) : pe_X d 219 (10, [some (.inr (.inr M)), o1, some (.inl x2), o3], [.inl s0], pm_h M σ q y) Φ := by
  refine pe_blk 6 2 ck219 [] (15, [some (.inr (.inr M)), o1, some (.inl x2), o3], [.inl 2, .inl s0], pm_h M σ q y) rfl ?_ ?_
  · exact trivial
  · exact k
theorem b219_14 {d : Nat} {Φ : Option pe_V → pe_H → Prop} {σ : pe_H} {M q : Nat} {y : Nat → Int → Int} (hF : pm_F M σ) {o1 : Option pe_V} {x2 : Int} {o3 : Option pe_V} {s0 : Int}    (k : pe_X d 219 (15, [some (.inr (.inr M)), o1, some (.inl x2), o3], [.inl 0, .inl s0], pm_h M σ q y) Φ) : pe_X d 219 (14, [some (.inr (.inr M)), o1, some (.inl x2), o3], [.inl s0], pm_h M σ q y) Φ := by
  refine pe_blk 8 1 ck219 [] (15, [some (.inr (.inr M)), o1, some (.inl x2), o3], [.inl 0, .inl s0], pm_h M σ q y) rfl ?_ ?_
  · exact trivial
  · exact k
theorem b219_15 {d : Nat} {Φ : Option pe_V → pe_H → Prop} {σ : pe_H} {M q : Nat} {y : Nat → Int → Int} (hF : pm_F M σ) {o1 : Option pe_V} {x2 : Int} {o3 : Option pe_V} {s0 : Int} {s1 : Int}  (w0 : pe_in x2 := by unfold pe_in; omega) (w1 : pe_in (y 7 x2) := by unfold pe_in; omega) (h0 : 0 ≤ x2 := by first | assumption | omega) (h1 : x2 < 8 := by first | assumption | omega) (k1 : ¬ (y 7 x2) = 7 → pe_X d 219 (32, [some (.inr (.inr M)), o1, some (.inl x2), o3], [.inl (s0 - s1)], pm_h M σ q y) Φ) (k2 : (y 7 x2) = 7 → pe_X d 219 (27, [some (.inr (.inr M)), o1, some (.inl x2), o3], [.inl (s0 - s1)], pm_h M σ q y) Φ) : pe_X d 219 (15, [some (.inr (.inr M)), o1, some (.inl x2), o3], [.inl s1, .inl s0], pm_h M σ q y) Φ := by
  refine pe_blk 9 7 ck219 [pe_K (pm_h M σ q y) M = 9, pe_K (pm_h M σ q y) (pe_R (pm_h M σ q y) M 7) = 10, 0 ≤ (pe_w x2), (pe_w x2) < pe_L (pm_h M σ q y) (pe_R (pm_h M σ q y) M 7)] (cond (decide (¬ (pe_w (pe_I (pm_h M σ q y) (pe_R (pm_h M σ q y) M 7) (pe_w x2))) = (pe_w 7))) 32 27, [some (.inr (.inr M)), o1, some (.inl x2), o3], [.inl (s0 - s1)], pm_h M σ q y) rfl ?_ ?_
  · first
    | (simp (disch := omega) only [pe_all, pe_wi w0, pe_wi w1, pe_wi (x := 7) ⟨by decide, by decide⟩, pe_I_wR, pe_K_wI, pe_K_wR, pe_L_wI, pe_L_wR, pe_R_nej, pe_R_wI, pm_Ik, pm_K7 hF, pm_KM hF, pm_Kh, pm_L7 hF, pm_Lh, pm_R7 hF, pm_Rh, pm_uj, pm_uk, pm_us]; done)
    | (simp (disch := omega) only [pe_all, pe_wi w0, pe_wi w1, pe_wi (x := 7) ⟨by decide, by decide⟩, pe_I_wR, pe_K_wI, pe_K_wR, pe_L_wI, pe_L_wR, pe_R_nej, pe_R_wI, pm_Ik, pm_K7 hF, pm_KM hF, pm_Kh, pm_L7 hF, pm_Lh, pm_R7 hF, pm_Rh, pm_uj, pm_uk, pm_us]; (repeat' apply And.intro) <;> first | assumption | omega | decide)
  · try simp (disch := omega) only [pe_wi w0, pe_wi w1, pe_wi (x := 7) ⟨by decide, by decide⟩, pe_I_wR, pe_K_wI, pe_K_wR, pe_L_wI, pe_L_wR, pe_R_nej, pe_R_wI, pm_Ik, pm_K7 hF, pm_KM hF, pm_Kh, pm_L7 hF, pm_Lh, pm_R7 hF, pm_Rh, pm_uj, pm_uk, pm_us]
    exact pe_two' k1 k2
theorem b219_27 {d : Nat} {Φ : Option pe_V → pe_H → Prop} {σ : pe_H} {M q : Nat} {y : Nat → Int → Int} (hF : pm_F M σ) {o1 : Option pe_V} {o2 : Option pe_V} {o3 : Option pe_V} {s0 : Int}    (k : pe_X d 219 (33, [some (.inr (.inr M)), o1, o2, o3], [.inl 6, .inl s0], pm_h M σ q y) Φ) : pe_X d 219 (27, [some (.inr (.inr M)), o1, o2, o3], [.inl s0], pm_h M σ q y) Φ := by
  refine pe_blk 16 2 ck219 [] (33, [some (.inr (.inr M)), o1, o2, o3], [.inl 6, .inl s0], pm_h M σ q y) rfl ?_ ?_
  · exact trivial
  · exact k
theorem b219_32 {d : Nat} {Φ : Option pe_V → pe_H → Prop} {σ : pe_H} {M q : Nat} {y : Nat → Int → Int} (hF : pm_F M σ) {o1 : Option pe_V} {o2 : Option pe_V} {o3 : Option pe_V} {s0 : Int}    (k : pe_X d 219 (33, [some (.inr (.inr M)), o1, o2, o3], [.inl 0, .inl s0], pm_h M σ q y) Φ) : pe_X d 219 (32, [some (.inr (.inr M)), o1, o2, o3], [.inl s0], pm_h M σ q y) Φ := by
  refine pe_blk 18 1 ck219 [] (33, [some (.inr (.inr M)), o1, o2, o3], [.inl 0, .inl s0], pm_h M σ q y) rfl ?_ ?_
  · exact trivial
  · exact k
theorem b219_33 {d : Nat} {Φ : Option pe_V → pe_H → Prop} {σ : pe_H} {M q : Nat} {y : Nat → Int → Int} (hF : pm_F M σ) {o1 : Option pe_V} {o2 : Option pe_V} {o3 : Option pe_V} {s0 : Int} {s1 : Int}    (k : Φ (some (.inl (s0 - s1))) (pm_h M σ q y)) : pe_X d 219 (33, [some (.inr (.inr M)), o1, o2, o3], [.inl s1, .inl s0], pm_h M σ q y) Φ := by
  refine pe_blk 19 1 ck219 [] (34, [some (.inr (.inr M)), o1, o2, o3], [.inl (s0 - s1)], pm_h M σ q y) rfl ?_ ?_
  · exact trivial
  · exact pe_fine 20 ck219 rfl rfl rfl trivial k
-- StepMachinesModel.closesIf(IZ)V
def T220 : List (Nat × Instr × Nat) := [(0, .iload_n 2, 1), (1, .ifCond .eq 16, 3), (4, .aload_n 0, 1), (5, .iload_n 1, 1), (6, .invokevirtual 151, 3), (9, .ifCond .ne 8, 3), (12, .aload_n 0, 1), (13, .iload_n 1, 1), (14, .invokevirtual 306, 3), (17, .return_, 1)]
theorem ck220 : pe_ctx 220 9 false none 3 T220 := ⟨rfl, rfl, rfl, rfl, by decide +kernel, by decide, by decide⟩
theorem b220_0 {d : Nat} {Φ : Option pe_V → pe_H → Prop} {σ : pe_H} {M q : Nat} {y : Nat → Int → Int} (hF : pm_F M σ) {x1 : Int} {x2 : Int}  (w0 : pe_in x2 := by unfold pe_in; omega)  (k1 : x2 = 0 → pe_X d 220 (17, [some (.inr (.inr M)), some (.inl x1), some (.inl x2)], [], pm_h M σ q y) Φ) (k2 : ¬ (x2 = 0) → pe_X d 220 (4, [some (.inr (.inr M)), some (.inl x1), some (.inl x2)], [], pm_h M σ q y) Φ) : pe_X d 220 (0, [some (.inr (.inr M)), some (.inl x1), some (.inl x2)], [], pm_h M σ q y) Φ := by
  refine pe_blk 0 2 ck220 [] (cond (decide ((pe_w x2) = 0)) 17 4, [some (.inr (.inr M)), some (.inl x1), some (.inl x2)], [], pm_h M σ q y) rfl ?_ ?_
  · exact trivial
  · try simp (disch := omega) only [pe_wi w0]
    exact pe_two k1 k2
theorem b220_4 {d : Nat} {Φ : Option pe_V → pe_H → Prop} {σ : pe_H} {M q : Nat} {y : Nat → Int → Int} (hF : pm_F M σ) {x1 : Int} {o2 : Option pe_V}    (k : pe_M d 139 [.inr (.inr M), .inl x1] (pm_h M σ q y) (fun r σ' => pe_X d 220 (9, [some (.inr (.inr M)), some (.inl x1), o2], r.toList ++ [], σ') Φ)) : pe_X d 220 (4, [some (.inr (.inr M)), some (.inl x1), o2], [], pm_h M σ q y) Φ := by
  refine pe_blk 2 2 ck220 [] (6, [some (.inr (.inr M)), some (.inl x1), o2], [.inl x1, .inr (.inr M)], pm_h M σ q y) rfl ?_ ?_
  · exact trivial
  · try simp (disch := omega) only [pe_K_wI, pe_K_wR, pm_KM hF, pm_Kh]
    have hrc : pe_K (pm_h M σ q y) M = 9 := by first | assumption | (simp (disch := omega) only [pe_K_wI, pe_K_wR, pm_KM hF, pm_Kh]; done) | (simp (disch := omega) only [pe_K_wI, pe_K_wR, pm_KM hF, pm_Kh]; assumption)
    exact pe_cal 4 ck220 rfl rfl rfl ⟨hrc, by decide⟩ k
theorem b220_9 {d : Nat} {Φ : Option pe_V → pe_H → Prop} {σ : pe_H} {M q : Nat} {y : Nat → Int → Int} (hF : pm_F M σ) {x1 : Int} {o2 : Option pe_V} {s0 : Int}  (w0 : pe_in s0 := by unfold pe_in; omega)  (k1 : ¬ s0 = 0 → pe_X d 220 (17, [some (.inr (.inr M)), some (.inl x1), o2], [], pm_h M σ q y) Φ) (k2 : s0 = 0 → pe_X d 220 (12, [some (.inr (.inr M)), some (.inl x1), o2], [], pm_h M σ q y) Φ) : pe_X d 220 (9, [some (.inr (.inr M)), some (.inl x1), o2], [.inl s0], pm_h M σ q y) Φ := by
  refine pe_blk 5 1 ck220 [] (cond (decide (¬ (pe_w s0) = 0)) 17 12, [some (.inr (.inr M)), some (.inl x1), o2], [], pm_h M σ q y) rfl ?_ ?_
  · exact trivial
  · try simp (disch := omega) only [pe_wi w0]
    exact pe_two' k1 k2
theorem b220_12 {d : Nat} {Φ : Option pe_V → pe_H → Prop} {σ : pe_H} {M q : Nat} {y : Nat → Int → Int} (hF : pm_F M σ) {x1 : Int} {o2 : Option pe_V}    (k : pe_M d 167 [.inr (.inr M), .inl x1] (pm_h M σ q y) (fun r σ' => pe_X d 220 (17, [some (.inr (.inr M)), some (.inl x1), o2], r.toList ++ [], σ') Φ)) : pe_X d 220 (12, [some (.inr (.inr M)), some (.inl x1), o2], [], pm_h M σ q y) Φ := by
  refine pe_blk 6 2 ck220 [] (14, [some (.inr (.inr M)), some (.inl x1), o2], [.inl x1, .inr (.inr M)], pm_h M σ q y) rfl ?_ ?_
  · exact trivial
  · try simp (disch := omega) only [pe_K_wI, pe_K_wR, pm_KM hF, pm_Kh]
    have hrc : pe_K (pm_h M σ q y) M = 9 := by first | assumption | (simp (disch := omega) only [pe_K_wI, pe_K_wR, pm_KM hF, pm_Kh]; done) | (simp (disch := omega) only [pe_K_wI, pe_K_wR, pm_KM hF, pm_Kh]; assumption)
    exact pe_cal 8 ck220 rfl rfl rfl ⟨hrc, by decide⟩ k
theorem b220_17 {d : Nat} {Φ : Option pe_V → pe_H → Prop} {σ : pe_H} {M q : Nat} {y : Nat → Int → Int} (hF : pm_F M σ) {o1 : Option pe_V} {o2 : Option pe_V}    (k : Φ none (pm_h M σ q y)) : pe_X d 220 (17, [some (.inr (.inr M)), o1, o2], [], pm_h M σ q y) Φ := by
  exact pe_fine 9 ck220 rfl rfl rfl trivial k
-- StepMachinesModel.two(III)I
def T221 : List (Nat × Instr × Nat) := [(0, .aload_n 0, 1), (1, .iconst 0, 1), (2, .putfield 141, 3), (5, .aload_n 0, 1), (6, .iload_n 1, 1), (7, .invokevirtual 187, 3), (10, .ifCond .eq 28, 3), (13, .aload_n 0, 1), (14, .iload_n 2, 1), (15, .invokevirtual 187, 3), (18, .ifCond .eq 20, 3), (21, .iload_n 1, 1), (22, .iload_n 2, 1), (23, .if_icmp .eq 15, 3), (26, .iload_n 3, 1), (27, .i2l, 1), (28, .lconst 0, 1), (29, .ldc2_w 401, 3), (32, .invokestatic 147, 3), (35, .ifCond .ne 5, 3), (38, .iconst (-1), 1), (39, .ireturn, 1), (40, .aload_n 0, 1), (41, .iload_n 1, 1), (42, .invokevirtual 151, 3), (45, .ifCond .ne 11, 3), (48, .aload_n 0, 1), (49, .iload_n 2, 1), (50, .invokevirtual 151, 3), (53, .ifCond .eq 6, 3), (56, .bipush (-3), 2), (58, .ireturn, 1), (59, .aload_n 0, 1), (60, .invokevirtual 338, 3), (63, .iconst 0, 1), (64, .istore 4, 2), (66, .iload 4, 2), (68, .iconst 4, 1), (69, .if_icmp .ge 112, 3), (72, .aload_n 0, 1), (73, .iload_n 1, 1), (74, .iload 4, 2), (76, .iconst 2, 1), (77, .idiv, 1), (78, .iconst 1, 1), (79, .if_icmp .ne 7, 3), (82, .iconst 1, 1), (83, .goto 4, 3), (86, .iconst 0, 1), (87, .invokevirtual 427, 3), (90, .aload_n 0, 1), (91, .iload_n 2, 1), (92, .iload 4, 2), (94, .iconst 2, 1), (95, .irem, 1), (96, .iconst 1, 1), (97, .if_icmp .ne 7, 3), (100, .iconst 1, 1), (101, .goto 4, 3), (104, .iconst 0, 1), (105, .invokevirtual 427, 3), (108, .aload_n 0, 1), (109, .iload_n 3, 1), (110, .invokevirtual 311, 3), (113, .aload_n 0, 1), (114, .getfield 135, 3), (117, .iconst 2, 1), (118, .iload 4, 2), (120, .imul, 1), (121, .aload_n 0, 1), (122, .iload_n 1, 1), (123, .iload_n 2, 1), (124, .iload 4, 2), (126, .iconst 2, 1), (127, .idiv, 1), (128, .iconst 1, 1), (129, .if_icmp .ne 7, 3), (132, .iconst 1, 1), (133, .goto 4, 3), (136, .iconst 0, 1), (137, .invokevirtual 430, 3), (140, .iastore, 1), (141, .aload_n 0, 1), (142, .getfield 135, 3), (145, .iconst 2, 1), (146, .iload 4, 2), (148, .imul, 1), (149, .iconst 1, 1), (150, .iadd, 1), (151, .aload_n 0, 1), (152, .iload_n 2, 1), (153, .iload_n 1, 1), (154, .iload 4, 2), (156, .iconst 2, 1), (157, .irem, 1), (158, .iconst 1, 1), (159, .if_icmp .ne 7, 3), (162, .iconst 1, 1), (163, .goto 4, 3), (166, .iconst 0, 1), (167, .invokevirtual 430, 3), (170, .iastore, 1), (171, .aload_n 0, 1), (172, .invokevirtual 344, 3), (175, .iinc 4 1, 3), (178, .goto (-112), 3), (181, .iconst 0, 1), (182, .istore 4, 2), (184, .iload 4, 2), (186, .iconst 4, 1), (187, .if_icmp .ge 98, 3), (190, .iconst 2, 1), (191, .iconst 1, 1), (192, .iload 4, 2), (194, .iconst 2, 1), (195, .idiv, 1), (196, .isub, 1), (197, .imul, 1), (198, .iload 4, 2), (200, .iconst 2, 1), (201, .irem, 1), (202, .iadd, 1), (203, .istore 5, 2), (205, .iconst 2, 1), (206, .iload 4, 2), (208, .iconst 2, 1), (209, .idiv, 1), (210, .imul, 1), (211, .iconst 1, 1), (212, .iadd, 1), (213, .iload 4, 2), (215, .iconst 2, 1), (216, .irem, 1), (217, .isub, 1), (218, .istore 6, 2), (220, .aload_n 0, 1), (221, .getfield 135, 3), (224, .iconst 2, 1), (225, .iload 4, 2), (227, .imul, 1), (228, .iaload, 1), (229, .aload_n 0, 1), (230, .getfield 135, 3), (233, .iconst 2, 1), (234, .iload 5, 2), (236, .imul, 1), (237, .iaload, 1), (238, .if_icmp .lt 41, 3), (241, .aload_n 0, 1), (242, .getfield 135, 3), (245, .iconst 2, 1), (246, .iload 4, 2), (248, .imul, 1), (249, .iconst 1, 1), (250, .iadd, 1), (251, .iaload, 1), (252, .aload_n 0, 1), (253, .getfield 135, 3), (256, .iconst 2, 1), (257, .iload 6, 2), (259, .imul, 1), (260, .iconst 1, 1), (261, .iadd, 1), (262, .iaload, 1), (263, .if_icmp .lt 16, 3), (266, .bipush 10, 2), (268, .iload 4, 2), (270, .iconst 2, 1), (271, .idiv, 1), (272, .imul, 1), (273, .iload 4, 2), (275, .iconst 2, 1), (276, .irem, 1), (277, .iadd, 1), (278, .ireturn, 1), (279, .iinc 4 1, 3), (282, .goto (-98), 3), (285, .bipush (-4), 2), (287, .ireturn, 1)]
theorem ck221 : pe_ctx 221 9 false (some .int) 7 T221 := ⟨rfl, rfl, rfl, rfl, by decide +kernel, by decide, by decide⟩
theorem b221_0 {d : Nat} {Φ : Option pe_V → pe_H → Prop} {σ : pe_H} {M q : Nat} {y : Nat → Int → Int} (hF : pm_F M σ) {x1 : Int} {x2 : Int} {x3 : Int} {o4 : Option pe_V} {o5 : Option pe_V} {o6 : Option pe_V}    (k : pe_M d 138 [.inr (.inr M), .inl x1] (pm_h M σ q (pm_u y 0 37 0)) (fun r σ' => pe_X d 221 (10, [some (.inr (.inr M)), some (.inl x1), some (.inl x2), some (.inl x3), o4, o5, o6], r.toList ++ [], σ') Φ)) : pe_X d 221 (0, [some (.inr (.inr M)), some (.inl x1), some (.inl x2), some (.inl x3), o4, o5, o6], [], pm_h M σ q y) Φ := by
  refine pe_blk 0 5 ck221 [pe_K (pm_h M σ q y) M = 9] (7, [some (.inr (.inr M)), some (.inl x1), some (.inl x2), some (.inl x3), o4, o5, o6], [.inl x1, .inr (.inr M)], pe_wI (pm_h M σ q y) M 37 0) rfl ?_ ?_
  · first
    | (simp (disch := omega) only [pe_all, pe_K_wI, pe_K_wR, pm_KM hF, pm_Kh, pm_wI0]; done)
    | (simp (disch := omega) only [pe_all, pe_K_wI, pe_K_wR, pm_KM hF, pm_Kh, pm_wI0]; (repeat' apply And.intro) <;> first | assumption | omega | decide)
  · try simp (disch := omega) only [pe_K_wI, pe_K_wR, pm_KM hF, pm_Kh, pm_wI0]
    have hrc : pe_K (pm_h M σ q (pm_u y 0 37 0)) M = 9 := by first | assumption | (simp (disch := omega) only [pe_K_wI, pe_K_wR, pm_KM hF, pm_Kh, pm_wI0]; done) | (simp (disch := omega) only [pe_K_wI, pe_K_wR, pm_KM hF, pm_Kh, pm_wI0]; assumption)
    exact pe_cal 5 ck221 rfl rfl rfl ⟨hrc, by decide⟩ k
theorem b221_10 {d : Nat} {Φ : Option pe_V → pe_H → Prop} {σ : pe_H} {M q : Nat} {y : Nat → Int → Int} (hF : pm_F M σ) {x1 : Int} {x2 : Int} {x3 : Int} {o4 : Option pe_V} {o5 : Option pe_V} {o6 : Option pe_V} {s0 : Int}  (w0 : pe_in s0 := by unfold pe_in; omega)  (k1 : s0 = 0 → pe_X d 221 (38, [some (.inr (.inr M)), some (.inl x1), some (.inl x2), some (.inl x3), o4, o5, o6], [], pm_h M σ q y) Φ) (k2 : ¬ (s0 = 0) → pe_X d 221 (13, [some (.inr (.inr M)), some (.inl x1), some (.inl x2), some (.inl x3), o4, o5, o6], [], pm_h M σ q y) Φ) : pe_X d 221 (10, [some (.inr (.inr M)), some (.inl x1), some (.inl x2), some (.inl x3), o4, o5, o6], [.inl s0], pm_h M σ q y) Φ := by
  refine pe_blk 6 1 ck221 [] (cond (decide ((pe_w s0) = 0)) 38 13, [some (.inr (.inr M)), some (.inl x1), some (.inl x2), some (.inl x3), o4, o5, o6], [], pm_h M σ q y) rfl ?_ ?_
  · exact trivial
  · try simp (disch := omega) only [pe_wi w0]
    exact pe_two k1 k2
theorem b221_13 {d : Nat} {Φ : Option pe_V → pe_H → Prop} {σ : pe_H} {M q : Nat} {y : Nat → Int → Int} (hF : pm_F M σ) {x1 : Int} {x2 : Int} {x3 : Int} {o4 : Option pe_V} {o5 : Option pe_V} {o6 : Option pe_V}    (k : pe_M d 138 [.inr (.inr M), .inl x2] (pm_h M σ q y) (fun r σ' => pe_X d 221 (18, [some (.inr (.inr M)), some (.inl x1), some (.inl x2), some (.inl x3), o4, o5, o6], r.toList ++ [], σ') Φ)) : pe_X d 221 (13, [some (.inr (.inr M)), some (.inl x1), some (.inl x2), some (.inl x3), o4, o5, o6], [], pm_h M σ q y) Φ := by
  refine pe_blk 7 2 ck221 [] (15, [some (.inr (.inr M)), some (.inl x1), some (.inl x2), some (.inl x3), o4, o5, o6], [.inl x2, .inr (.inr M)], pm_h M σ q y) rfl ?_ ?_
  · exact trivial
  · try simp (disch := omega) only [pe_K_wI, pe_K_wR, pm_KM hF, pm_Kh]
    have hrc : pe_K (pm_h M σ q y) M = 9 := by first | assumption | (simp (disch := omega) only [pe_K_wI, pe_K_wR, pm_KM hF, pm_Kh]; done) | (simp (disch := omega) only [pe_K_wI, pe_K_wR, pm_KM hF, pm_Kh]; assumption)
    exact pe_cal 9 ck221 rfl rfl rfl ⟨hrc, by decide⟩ k
theorem b221_18 {d : Nat} {Φ : Option pe_V → pe_H → Prop} {σ : pe_H} {M q : Nat} {y : Nat → Int → Int} (hF : pm_F M σ) {x1 : Int} {x2 : Int} {x3 : Int} {o4 : Option pe_V} {o5 : Option pe_V} {o6 : Option pe_V} {s0 : Int}  (w0 : pe_in s0 := by unfold pe_in; omega)  (k1 : s0 = 0 → pe_X d 221 (38, [some (.inr (.inr M)), some (.inl x1), some (.inl x2), some (.inl x3), o4, o5, o6], [], pm_h M σ q y) Φ) (k2 : ¬ (s0 = 0) → pe_X d 221 (21, [some (.inr (.inr M)), some (.inl x1), some (.inl x2), some (.inl x3), o4, o5, o6], [], pm_h M σ q y) Φ) : pe_X d 221 (18, [some (.inr (.inr M)), some (.inl x1), some (.inl x2), some (.inl x3), o4, o5, o6], [.inl s0], pm_h M σ q y) Φ := by
  refine pe_blk 10 1 ck221 [] (cond (decide ((pe_w s0) = 0)) 38 21, [some (.inr (.inr M)), some (.inl x1), some (.inl x2), some (.inl x3), o4, o5, o6], [], pm_h M σ q y) rfl ?_ ?_
  · exact trivial
  · try simp (disch := omega) only [pe_wi w0]
    exact pe_two k1 k2
theorem b221_21 {d : Nat} {Φ : Option pe_V → pe_H → Prop} {σ : pe_H} {M q : Nat} {y : Nat → Int → Int} (hF : pm_F M σ) {x1 : Int} {x2 : Int} {x3 : Int} {o4 : Option pe_V} {o5 : Option pe_V} {o6 : Option pe_V}  (w0 : pe_in x2 := by unfold pe_in; omega) (w1 : pe_in x1 := by unfold pe_in; omega)  (k1 : x1 = x2 → pe_X d 221 (38, [some (.inr (.inr M)), some (.inl x1), some (.inl x2), some (.inl x3), o4, o5, o6], [], pm_h M σ q y) Φ) (k2 : ¬ (x1 = x2) → pe_X d 221 (26, [some (.inr (.inr M)), some (.inl x1), some (.inl x2), some (.inl x3), o4, o5, o6], [], pm_h M σ q y) Φ) : pe_X d 221 (21, [some (.inr (.inr M)), some (.inl x1), some (.inl x2), some (.inl x3), o4, o5, o6], [], pm_h M σ q y) Φ := by
  refine pe_blk 11 3 ck221 [] (cond (decide ((pe_w x1) = (pe_w x2))) 38 26, [some (.inr (.inr M)), some (.inl x1), some (.inl x2), some (.inl x3), o4, o5, o6], [], pm_h M σ q y) rfl ?_ ?_
  · exact trivial
  · try simp (disch := omega) only [pe_wi w0, pe_wi w1]
    exact pe_two k1 k2
theorem b221_26 {d : Nat} {Φ : Option pe_V → pe_H → Prop} {σ : pe_H} {M q : Nat} {y : Nat → Int → Int} (hF : pm_F M σ) {x1 : Int} {x2 : Int} {x3 : Int} {o4 : Option pe_V} {o5 : Option pe_V} {o6 : Option pe_V}  (w0 : pe_in x3 := by unfold pe_in; omega)  (k : pe_M d 134 [.inr (.inl x3), .inr (.inl 0), .inr (.inl 40)] (pm_h M σ q y) (fun r σ' => pe_X d 221 (35, [some (.inr (.inr M)), some (.inl x1), some (.inl x2), some (.inl x3), o4, o5, o6], r.toList ++ [], σ') Φ)) : pe_X d 221 (26, [some (.inr (.inr M)), some (.inl x1), some (.inl x2), some (.inl x3), o4, o5, o6], [], pm_h M σ q y) Φ := by
  refine pe_blk 14 4 ck221 [] (32, [some (.inr (.inr M)), some (.inl x1), some (.inl x2), some (.inl x3), o4, o5, o6], [.inr (.inl 40), .inr (.inl 0), .inr (.inl (pe_w x3))], pm_h M σ q y) rfl ?_ ?_
  · exact trivial
  · try simp (disch := omega) only [pe_wi w0]
    exact pe_cal 18 ck221 rfl rfl rfl trivial k
theorem b221_35 {d : Nat} {Φ : Option pe_V → pe_H → Prop} {σ : pe_H} {M q : Nat} {y : Nat → Int → Int} (hF : pm_F M σ) {x1 : Int} {x2 : Int} {x3 : Int} {o4 : Option pe_V} {o5 : Option pe_V} {o6 : Option pe_V} {s0 : Int}  (w0 : pe_in s0 := by unfold pe_in; omega)  (k1 : ¬ s0 = 0 → pe_X d 221 (40, [some (.inr (.inr M)), some (.inl x1), some (.inl x2), some (.inl x3), o4, o5, o6], [], pm_h M σ q y) Φ) (k2 : s0 = 0 → pe_X d 221 (38, [some (.inr (.inr M)), some (.inl x1), some (.inl x2), some (.inl x3), o4, o5, o6], [], pm_h M σ q y) Φ) : pe_X d 221 (35, [some (.inr (.inr M)), some (.inl x1), some (.inl x2), some (.inl x3), o4, o5, o6], [.inl s0], pm_h M σ q y) Φ := by
  refine pe_blk 19 1 ck221 [] (cond (decide (¬ (pe_w s0) = 0)) 40 38, [some (.inr (.inr M)), some (.inl x1), some (.inl x2), some (.inl x3), o4, o5, o6], [], pm_h M σ q y) rfl ?_ ?_
  · exact trivial
  · try simp (disch := omega) only [pe_wi w0]
    exact pe_two' k1 k2
theorem b221_38 {d : Nat} {Φ : Option pe_V → pe_H → Prop} {σ : pe_H} {M q : Nat} {y : Nat → Int → Int} (hF : pm_F M σ) {o1 : Option pe_V} {o2 : Option pe_V} {o3 : Option pe_V} {o4 : Option pe_V} {o5 : Option pe_V} {o6 : Option pe_V}    (k : Φ (some (.inl (-1))) (pm_h M σ q y)) : pe_X d 221 (38, [some (.inr (.inr M)), o1, o2, o3, o4, o5, o6], [], pm_h M σ q y) Φ := by
  refine pe_blk 20 1 ck221 [] (39, [some (.inr (.inr M)), o1, o2, o3, o4, o5, o6], [.inl (-1)], pm_h M σ q y) rfl ?_ ?_
  · exact trivial
  · exact pe_fine 21 ck221 rfl rfl rfl trivial k
theorem b221_40 {d : Nat} {Φ : Option pe_V → pe_H → Prop} {σ : pe_H} {M q : Nat} {y : Nat → Int → Int} (hF : pm_F M σ) {x1 : Int} {x2 : Int} {x3 : Int} {o4 : Option pe_V} {o5 : Option pe_V} {o6 : Option pe_V}    (k : pe_M d 139 [.inr (.inr M), .inl x1] (pm_h M σ q y) (fun r σ' => pe_X d 221 (45, [some (.inr (.inr M)), some (.inl x1), some (.inl x2), some (.inl x3), o4, o5, o6], r.toList ++ [], σ') Φ)) : pe_X d 221 (40, [some (.inr (.inr M)), some (.inl x1), some (.inl x2), some (.inl x3), o4, o5, o6], [], pm_h M σ q y) Φ := by
  refine pe_blk 22 2 ck221 [] (42, [some (.inr (.inr M)), some (.inl x1), some (.inl x2), some (.inl x3), o4, o5, o6], [.inl x1, .inr (.inr M)], pm_h M σ q y) rfl ?_ ?_
  · exact trivial
  · try simp (disch := omega) only [pe_K_wI, pe_K_wR, pm_KM hF, pm_Kh]
    have hrc : pe_K (pm_h M σ q y) M = 9 := by first | assumption | (simp (disch := omega) only [pe_K_wI, pe_K_wR, pm_KM hF, pm_Kh]; done) | (simp (disch := omega) only [pe_K_wI, pe_K_wR, pm_KM hF, pm_Kh]; assumption)
    exact pe_cal 24 ck221 rfl rfl rfl ⟨hrc, by decide⟩ k
theorem b221_45 {d : Nat} {Φ : Option pe_V → pe_H → Prop} {σ : pe_H} {M q : Nat} {y : Nat → Int → Int} (hF : pm_F M σ) {x1 : Int} {x2 : Int} {x3 : Int} {o4 : Option pe_V} {o5 : Option pe_V} {o6 : Option pe_V} {s0 : Int}  (w0 : pe_in s0 := by unfold pe_in; omega)  (k1 : ¬ s0 = 0 → pe_X d 221 (56, [some (.inr (.inr M)), some (.inl x1), some (.inl x2), some (.inl x3), o4, o5, o6], [], pm_h M σ q y) Φ) (k2 : s0 = 0 → pe_X d 221 (48, [some (.inr (.inr M)), some (.inl x1), some (.inl x2), some (.inl x3), o4, o5, o6], [], pm_h M σ q y) Φ) : pe_X d 221 (45, [some (.inr (.inr M)), some (.inl x1), some (.inl x2), some (.inl x3), o4, o5, o6], [.inl s0], pm_h M σ q y) Φ := by
  refine pe_blk 25 1 ck221 [] (cond (decide (¬ (pe_w s0) = 0)) 56 48, [some (.inr (.inr M)), some (.inl x1), some (.inl x2), some (.inl x3), o4, o5, o6], [], pm_h M σ q y) rfl ?_ ?_
  · exact trivial
  · try simp (disch := omega) only [pe_wi w0]
    exact pe_two' k1 k2
theorem b221_48 {d : Nat} {Φ : Option pe_V → pe_H → Prop} {σ : pe_H} {M q : Nat} {y : Nat → Int → Int} (hF : pm_F M σ) {x1 : Int} {x2 : Int} {x3 : Int} {o4 : Option pe_V} {o5 : Option pe_V} {o6 : Option pe_V}    (k : pe_M d 139 [.inr (.inr M), .inl x2] (pm_h M σ q y) (fun r σ' => pe_X d 221 (53, [some (.inr (.inr M)), some (.inl x1), some (.inl x2), some (.inl x3), o4, o5, o6], r.toList ++ [], σ') Φ)) : pe_X d 221 (48, [some (.inr (.inr M)), some (.inl x1), some (.inl x2), some (.inl x3), o4, o5, o6], [], pm_h M σ q y) Φ := by
  refine pe_blk 26 2 ck221 [] (50, [some (.inr (.inr M)), some (.inl x1), some (.inl x2), some (.inl x3), o4, o5, o6], [.inl x2, .inr (.inr M)], pm_h M σ q y) rfl ?_ ?_
  · exact trivial
  · try simp (disch := omega) only [pe_K_wI, pe_K_wR, pm_KM hF, pm_Kh]
    have hrc : pe_K (pm_h M σ q y) M = 9 := by first | assumption | (simp (disch := omega) only [pe_K_wI, pe_K_wR, pm_KM hF, pm_Kh]; done) | (simp (disch := omega) only [pe_K_wI, pe_K_wR, pm_KM hF, pm_Kh]; assumption)
    exact pe_cal 28 ck221 rfl rfl rfl ⟨hrc, by decide⟩ k
theorem b221_53 {d : Nat} {Φ : Option pe_V → pe_H → Prop} {σ : pe_H} {M q : Nat} {y : Nat → Int → Int} (hF : pm_F M σ) {x1 : Int} {x2 : Int} {x3 : Int} {o4 : Option pe_V} {o5 : Option pe_V} {o6 : Option pe_V} {s0 : Int}  (w0 : pe_in s0 := by unfold pe_in; omega)  (k1 : s0 = 0 → pe_X d 221 (59, [some (.inr (.inr M)), some (.inl x1), some (.inl x2), some (.inl x3), o4, o5, o6], [], pm_h M σ q y) Φ) (k2 : ¬ (s0 = 0) → pe_X d 221 (56, [some (.inr (.inr M)), some (.inl x1), some (.inl x2), some (.inl x3), o4, o5, o6], [], pm_h M σ q y) Φ) : pe_X d 221 (53, [some (.inr (.inr M)), some (.inl x1), some (.inl x2), some (.inl x3), o4, o5, o6], [.inl s0], pm_h M σ q y) Φ := by
  refine pe_blk 29 1 ck221 [] (cond (decide ((pe_w s0) = 0)) 59 56, [some (.inr (.inr M)), some (.inl x1), some (.inl x2), some (.inl x3), o4, o5, o6], [], pm_h M σ q y) rfl ?_ ?_
  · exact trivial
  · try simp (disch := omega) only [pe_wi w0]
    exact pe_two k1 k2
theorem b221_56 {d : Nat} {Φ : Option pe_V → pe_H → Prop} {σ : pe_H} {M q : Nat} {y : Nat → Int → Int} (hF : pm_F M σ) {o1 : Option pe_V} {o2 : Option pe_V} {o3 : Option pe_V} {o4 : Option pe_V} {o5 : Option pe_V} {o6 : Option pe_V}    (k : Φ (some (.inl (-3))) (pm_h M σ q y)) : pe_X d 221 (56, [some (.inr (.inr M)), o1, o2, o3, o4, o5, o6], [], pm_h M σ q y) Φ := by
  refine pe_blk 30 1 ck221 [] (58, [some (.inr (.inr M)), o1, o2, o3, o4, o5, o6], [.inl (-3)], pm_h M σ q y) rfl ?_ ?_
  · exact trivial
  · exact pe_fine 31 ck221 rfl rfl rfl trivial k
theorem b221_59 {d : Nat} {Φ : Option pe_V → pe_H → Prop} {σ : pe_H} {M q : Nat} {y : Nat → Int → Int} (hF : pm_F M σ) {x1 : Int} {x2 : Int} {x3 : Int} {o4 : Option pe_V} {o5 : Option pe_V} {o6 : Option pe_V}    (k : pe_M d 187 [.inr (.inr M)] (pm_h M σ q y) (fun r σ' => pe_X d 221 (63, [some (.inr (.inr M)), some (.inl x1), some (.inl x2), some (.inl x3), o4, o5, o6], r.toList ++ [], σ') Φ)) : pe_X d 221 (59, [some (.inr (.inr M)), some (.inl x1), some (.inl x2), some (.inl x3), o4, o5, o6], [], pm_h M σ q y) Φ := by
  refine pe_blk 32 1 ck221 [] (60, [some (.inr (.inr M)), some (.inl x1), some (.inl x2), some (.inl x3), o4, o5, o6], [.inr (.inr M)], pm_h M σ q y) rfl ?_ ?_
  · exact trivial
  · try simp (disch := omega) only [pe_K_wI, pe_K_wR, pm_KM hF, pm_Kh]
    have hrc : pe_K (pm_h M σ q y) M = 9 := by first | assumption | (simp (disch := omega) only [pe_K_wI, pe_K_wR, pm_KM hF, pm_Kh]; done) | (simp (disch := omega) only [pe_K_wI, pe_K_wR, pm_KM hF, pm_Kh]; assumption)
    exact pe_cal 33 ck221 rfl rfl rfl ⟨hrc, by decide⟩ k
theorem b221_63 {d : Nat} {Φ : Option pe_V → pe_H → Prop} {σ : pe_H} {M q : Nat} {y : Nat → Int → Int} (hF : pm_F M σ) {x1 : Int} {x2 : Int} {x3 : Int} {o4 : Option pe_V} {o5 : Option pe_V} {o6 : Option pe_V}    (k : pe_X d 221 (66, [some (.inr (.inr M)), some (.inl x1), some (.inl x2), some (.inl x3), some (.inl 0), o5, o6], [], pm_h M σ q y) Φ) : pe_X d 221 (63, [some (.inr (.inr M)), some (.inl x1), some (.inl x2), some (.inl x3), o4, o5, o6], [], pm_h M σ q y) Φ := by
  refine pe_blk 34 2 ck221 [] (66, [some (.inr (.inr M)), some (.inl x1), some (.inl x2), some (.inl x3), some (.inl 0), o5, o6], [], pm_h M σ q y) rfl ?_ ?_
  · exact trivial
  · exact k
theorem b221_66 {d : Nat} {Φ : Option pe_V → pe_H → Prop} {σ : pe_H} {M q : Nat} {y : Nat → Int → Int} (hF : pm_F M σ) {x1 : Int} {x2 : Int} {x3 : Int} {x4 : Int} {o5 : Option pe_V} {o6 : Option pe_V}  (w0 : pe_in x4 := by unfold pe_in; omega)  (k1 : 4 ≤ x4 → pe_X d 221 (181, [some (.inr (.inr M)), some (.inl x1), some (.inl x2), some (.inl x3), some (.inl x4), o5, o6], [], pm_h M σ q y) Φ) (k2 : ¬ (4 ≤ x4) → pe_X d 221 (72, [some (.inr (.inr M)), some (.inl x1), some (.inl x2), some (.inl x3), some (.inl x4), o5, o6], [], pm_h M σ q y) Φ) : pe_X d 221 (66, [some (.inr (.inr M)), some (.inl x1), some (.inl x2), some (.inl x3), some (.inl x4), o5, o6], [], pm_h M σ q y) Φ := by
  refine pe_blk 36 3 ck221 [] (cond (decide ((pe_w 4) ≤ (pe_w x4))) 181 72, [some (.inr (.inr M)), some (.inl x1), some (.inl x2), some (.inl x3), some (.inl x4), o5, o6], [], pm_h M σ q y) rfl ?_ ?_
  · exact trivial
  · try simp (disch := omega) only [pe_wi w0, pe_wi (x := 4) ⟨by decide, by decide⟩]
    exact pe_two k1 k2
theorem b221_72 {d : Nat} {Φ : Option pe_V → pe_H → Prop} {σ : pe_H} {M q : Nat} {y : Nat → Int → Int} (hF : pm_F M σ) {x1 : Int} {x2 : Int} {x3 : Int} {x4 : Int} {o5 : Option pe_V} {o6 : Option pe_V}  (w0 : pe_in x4 := by unfold pe_in; omega) (w1 : pe_in (Int.tdiv x4 2) := by unfold pe_in; omega) (h0 : ¬ 2 = 0 := by first | assumption | omega) (k1 : ¬ (Int.tdiv x4 2) = 1 → pe_X d 221 (86, [some (.inr (.inr M)), some (.inl x1), some (.inl x2), some (.inl x3), some (.inl x4), o5, o6], [.inl x1, .inr (.inr M)], pm_h M σ q y) Φ) (k2 : (Int.tdiv x4 2) = 1 → pe_X d 221 (82, [some (.inr (.inr M)), some (.inl x1), some (.inl x2), some (.inl x3), some (.inl x4), o5, o6], [.inl x1, .inr (.inr M)], pm_h M σ q y) Φ) : pe_X d 221 (72, [some (.inr (.inr M)), some (.inl x1), some (.inl x2), some (.inl x3), some (.inl x4), o5, o6], [], pm_h M σ q y) Φ := by
  refine pe_blk 39 7 ck221 [¬ (pe_w 2) = 0] (cond (decide (¬ (pe_w (Int.tdiv (pe_w x4) (pe_w 2))) = (pe_w 1))) 86 82, [some (.inr (.inr M)), some (.inl x1), some (.inl x2), some (.inl x3), some (.inl x4), o5, o6], [.inl x1, .inr (.inr M)], pm_h M σ q y) rfl ?_ ?_
  · first
    | (simp (disch := omega) only [pe_all, pe_wi w0, pe_wi w1, pe_wi (x := 1) ⟨by decide, by decide⟩, pe_wi (x := 2) ⟨by decide, by decide⟩]; done)
    | (simp (disch := omega) only [pe_all, pe_wi w0, pe_wi w1, pe_wi (x := 1) ⟨by decide, by decide⟩, pe_wi (x := 2) ⟨by decide, by decide⟩]; (repeat' apply And.intro) <;> first | assumption | omega | decide)
  · try simp (disch := omega) only [pe_wi w0, pe_wi w1, pe_wi (x := 1) ⟨by decide, by decide⟩, pe_wi (x := 2) ⟨by decide, by decide⟩]
    exact pe_two' k1 k2
theorem b221_82 {d : Nat} {Φ : Option pe_V → pe_H → Prop} {σ : pe_H} {M q : Nat} {y : Nat → Int → Int} (hF : pm_F M σ) {x1 : Int} {x2 : Int} {x3 : Int} {x4 : Int} {o5 : Option pe_V} {o6 : Option pe_V} {s1 : Int}    (k : pe_X d 221 (87, [some (.inr (.inr M)), some (.inl x1), some (.inl x2), some (.inl x3), some (.inl x4), o5, o6], [.inl 1, .inl s1, .inr (.inr M)], pm_h M σ q y) Φ) : pe_X d 221 (82, [some (.inr (.inr M)), some (.inl x1), some (.inl x2), some (.inl x3), some (.inl x4), o5, o6], [.inl s1, .inr (.inr M)], pm_h M σ q y) Φ := by
  refine pe_blk 46 2 ck221 [] (87, [some (.inr (.inr M)), some (.inl x1), some (.inl x2), some (.inl x3), some (.inl x4), o5, o6], [.inl 1, .inl s1, .inr (.inr M)], pm_h M σ q y) rfl ?_ ?_
  · exact trivial
  · exact k
theorem b221_86 {d : Nat} {Φ : Option pe_V → pe_H → Prop} {σ : pe_H} {M q : Nat} {y : Nat → Int → Int} (hF : pm_F M σ) {x1 : Int} {x2 : Int} {x3 : Int} {x4 : Int} {o5 : Option pe_V} {o6 : Option pe_V} {s1 : Int}    (k : pe_X d 221 (87, [some (.inr (.inr M)), some (.inl x1), some (.inl x2), some (.inl x3), some (.inl x4), o5, o6], [.inl 0, .inl s1, .inr (.inr M)], pm_h M σ q y) Φ) : pe_X d 221 (86, [some (.inr (.inr M)), some (.inl x1), some (.inl x2), some (.inl x3), some (.inl x4), o5, o6], [.inl s1, .inr (.inr M)], pm_h M σ q y) Φ := by
  refine pe_blk 48 1 ck221 [] (87, [some (.inr (.inr M)), some (.inl x1), some (.inl x2), some (.inl x3), some (.inl x4), o5, o6], [.inl 0, .inl s1, .inr (.inr M)], pm_h M σ q y) rfl ?_ ?_
  · exact trivial
  · exact k
theorem b221_87 {d : Nat} {Φ : Option pe_V → pe_H → Prop} {σ : pe_H} {M q : Nat} {y : Nat → Int → Int} (hF : pm_F M σ) {x1 : Int} {x2 : Int} {x3 : Int} {x4 : Int} {o5 : Option pe_V} {o6 : Option pe_V} {s1 : Int} {s2 : Int}    (k : pe_M d 220 [.inr (.inr M), .inl s1, .inl s2] (pm_h M σ q y) (fun r σ' => pe_X d 221 (90, [some (.inr (.inr M)), some (.inl x1), some (.inl x2), some (.inl x3), some (.inl x4), o5, o6], r.toList ++ [], σ') Φ)) : pe_X d 221 (87, [some (.inr (.inr M)), some (.inl x1), some (.inl x2), some (.inl x3), some (.inl x4), o5, o6], [.inl s2, .inl s1, .inr (.inr M)], pm_h M σ q y) Φ := by
  have hrc : pe_K (pm_h M σ q y) M = 9 := by first | assumption | (simp (disch := omega) only [pe_K_wI, pe_K_wR, pm_KM hF, pm_Kh]; done) | (simp (disch := omega) only [pe_K_wI, pe_K_wR, pm_KM hF, pm_Kh]; assumption)
  exact pe_cal 49 ck221 rfl rfl rfl ⟨hrc, by decide⟩ k
set_option maxRecDepth 8000 in
theorem b221_90 {d : Nat} {Φ : Option pe_V → pe_H → Prop} {σ : pe_H} {M q : Nat} {y : Nat → Int → Int} (hF : pm_F M σ) {x1 : Int} {x2 : Int} {x3 : Int} {x4 : Int} {o5 : Option pe_V} {o6 : Option pe_V}  (w0 : pe_in x4 := by unfold pe_in; omega) (w1 : pe_in (Int.tmod x4 2) := by unfold pe_in; omega) (h0 : ¬ 2 = 0 := by first | assumption | omega) (k1 : ¬ (Int.tmod x4 2) = 1 → pe_X d 221 (104, [some (.inr (.inr M)), some (.inl x1), some (.inl x2), some (.inl x3), some (.inl x4), o5, o6], [.inl x2, .inr (.inr M)], pm_h M σ q y) Φ) (k2 : (Int.tmod x4 2) = 1 → pe_X d 221 (100, [some (.inr (.inr M)), some (.inl x1), some (.inl x2), some (.inl x3), some (.inl x4), o5, o6], [.inl x2, .inr (.inr M)], pm_h M σ q y) Φ) : pe_X d 221 (90, [some (.inr (.inr M)), some (.inl x1), some (.inl x2), some (.inl x3), some (.inl x4), o5, o6], [], pm_h M σ q y) Φ := by
  refine pe_blk 50 7 ck221 [¬ (pe_w 2) = 0] (cond (decide (¬ (pe_w (Int.tmod (pe_w x4) (pe_w 2))) = (pe_w 1))) 104 100, [some (.inr (.inr M)), some (.inl x1), some (.inl x2), some (.inl x3), some (.inl x4), o5, o6], [.inl x2, .inr (.inr M)], pm_h M σ q y) rfl ?_ ?_
  · first
    | (simp (disch := omega) only [pe_all, pe_wi w0, pe_wi w1, pe_wi (x := 1) ⟨by decide, by decide⟩, pe_wi (x := 2) ⟨by decide, by decide⟩]; done)
    | (simp (disch := omega) only [pe_all, pe_wi w0, pe_wi w1, pe_wi (x := 1) ⟨by decide, by decide⟩, pe_wi (x := 2) ⟨by decide, by decide⟩]; (repeat' apply And.intro) <;> first | assumption | omega | decide)
  · try simp (disch := omega) only [pe_wi w0, pe_wi w1, pe_wi (x := 1) ⟨by decide, by decide⟩, pe_wi (x := 2) ⟨by decide, by decide⟩]
    exact pe_two' k1 k2
set_option maxRecDepth 8000 in
theorem b221_100 {d : Nat} {Φ : Option pe_V → pe_H → Prop} {σ : pe_H} {M q : Nat} {y : Nat → Int → Int} (hF : pm_F M σ) {x1 : Int} {x2 : Int} {x3 : Int} {x4 : Int} {o5 : Option pe_V} {o6 : Option pe_V} {s1 : Int}    (k : pe_X d 221 (105, [some (.inr (.inr M)), some (.inl x1), some (.inl x2), some (.inl x3), some (.inl x4), o5, o6], [.inl 1, .inl s1, .inr (.inr M)], pm_h M σ q y) Φ) : pe_X d 221 (100, [some (.inr (.inr M)), some (.inl x1), some (.inl x2), some (.inl x3), some (.inl x4), o5, o6], [.inl s1, .inr (.inr M)], pm_h M σ q y) Φ := by
  refine pe_blk 57 2 ck221 [] (105, [some (.inr (.inr M)), some (.inl x1), some (.inl x2), some (.inl x3), some (.inl x4), o5, o6], [.inl 1, .inl s1, .inr (.inr M)], pm_h M σ q y) rfl ?_ ?_
  · exact trivial
  · exact k
set_option maxRecDepth 8000 in
theorem b221_104 {d : Nat} {Φ : Option pe_V → pe_H → Prop} {σ : pe_H} {M q : Nat} {y : Nat → Int → Int} (hF : pm_F M σ) {x1 : Int} {x2 : Int} {x3 : Int} {x4 : Int} {o5 : Option pe_V} {o6 : Option pe_V} {s1 : Int}    (k : pe_X d 221 (105, [some (.inr (.inr M)), some (.inl x1), some (.inl x2), some (.inl x3), some (.inl x4), o5, o6], [.inl 0, .inl s1, .inr (.inr M)], pm_h M σ q y) Φ) : pe_X d 221 (104, [some (.inr (.inr M)), some (.inl x1), some (.inl x2), some (.inl x3), some (.inl x4), o5, o6], [.inl s1, .inr (.inr M)], pm_h M σ q y) Φ := by
  refine pe_blk 59 1 ck221 [] (105, [some (.inr (.inr M)), some (.inl x1), some (.inl x2), some (.inl x3), some (.inl x4), o5, o6], [.inl 0, .inl s1, .inr (.inr M)], pm_h M σ q y) rfl ?_ ?_
  · exact trivial
  · exact k
set_option maxRecDepth 8000 in
theorem b221_105 {d : Nat} {Φ : Option pe_V → pe_H → Prop} {σ : pe_H} {M q : Nat} {y : Nat → Int → Int} (hF : pm_F M σ) {x1 : Int} {x2 : Int} {x3 : Int} {x4 : Int} {o5 : Option pe_V} {o6 : Option pe_V} {s1 : Int} {s2 : Int}    (k : pe_M d 220 [.inr (.inr M), .inl s1, .inl s2] (pm_h M σ q y) (fun r σ' => pe_X d 221 (108, [some (.inr (.inr M)), some (.inl x1), some (.inl x2), some (.inl x3), some (.inl x4), o5, o6], r.toList ++ [], σ') Φ)) : pe_X d 221 (105, [some (.inr (.inr M)), some (.inl x1), some (.inl x2), some (.inl x3), some (.inl x4), o5, o6], [.inl s2, .inl s1, .inr (.inr M)], pm_h M σ q y) Φ := by
  have hrc : pe_K (pm_h M σ q y) M = 9 := by first | assumption | (simp (disch := omega) only [pe_K_wI, pe_K_wR, pm_KM hF, pm_Kh]; done) | (simp (disch := omega) only [pe_K_wI, pe_K_wR, pm_KM hF, pm_Kh]; assumption)
  exact pe_cal 60 ck221 rfl rfl rfl ⟨hrc, by decide⟩ k
set_option maxRecDepth 8000 in
theorem b221_108 {d : Nat} {Φ : Option pe_V → pe_H → Prop} {σ : pe_H} {M q : Nat} {y : Nat → Int → Int} (hF : pm_F M σ) {x1 : Int} {x2 : Int} {x3 : Int} {x4 : Int} {o5 : Option pe_V} {o6 : Option pe_V}    (k : pe_M d 170 [.inr (.inr M), .inl x3] (pm_h M σ q y) (fun r σ' => pe_X d 221 (113, [some (.inr (.inr M)), some (.inl x1), some (.inl x2), some (.inl x3), some (.inl x4), o5, o6], r.toList ++ [], σ') Φ)) : pe_X d 221 (108, [some (.inr (.inr M)), some (.inl x1), some (.inl x2), some (.inl x3), some (.inl x4), o5, o6], [], pm_h M σ q y) Φ := by
  refine pe_blk 61 2 ck221 [] (110, [some (.inr (.inr M)), some (.inl x1), some (.inl x2), some (.inl x3), some (.inl x4), o5, o6], [.inl x3, .inr (.inr M)], pm_h M σ q y) rfl ?_ ?_
  · exact trivial
  · try simp (disch := omega) only [pe_K_wI, pe_K_wR, pm_KM hF, pm_Kh]
    have hrc : pe_K (pm_h M σ q y) M = 9 := by first | assumption | (simp (disch := omega) only [pe_K_wI, pe_K_wR, pm_KM hF, pm_Kh]; done) | (simp (disch := omega) only [pe_K_wI, pe_K_wR, pm_KM hF, pm_Kh]; assumption)
    exact pe_cal 63 ck221 rfl rfl rfl ⟨hrc, by decide⟩ k
set_option maxRecDepth 8000 in
theorem b221_113 {d : Nat} {Φ : Option pe_V → pe_H → Prop} {σ : pe_H} {M q : Nat} {y : Nat → Int → Int} (hF : pm_F M σ) {x1 : Int} {x2 : Int} {x3 : Int} {x4 : Int} {o5 : Option pe_V} {o6 : Option pe_V}  (w0 : pe_in x4 := by unfold pe_in; omega) (w1 : pe_in (Int.tdiv x4 2) := by unfold pe_in; omega) (h0 : ¬ 2 = 0 := by first | assumption | omega) (k1 : ¬ (Int.tdiv x4 2) = 1 → pe_X d 221 (136, [some (.inr (.inr M)), some (.inl x1), some (.inl x2), some (.inl x3), some (.inl x4), o5, o6], [.inl x2, .inl x1, .inr (.inr M), .inl (2 * x4), .inr (.inr (M + 41))], pm_h M σ q y) Φ) (k2 : (Int.tdiv x4 2) = 1 → pe_X d 221 (132, [some (.inr (.inr M)), some (.inl x1), some (.inl x2), some (.inl x3), some (.inl x4), o5, o6], [.inl x2, .inl x1, .inr (.inr M), .inl (2 * x4), .inr (.inr (M + 41))], pm_h M σ q y) Φ) : pe_X d 221 (113, [some (.inr (.inr M)), some (.inl x1), some (.inl x2), some (.inl x3), some (.inl x4), o5, o6], [], pm_h M σ q y) Φ := by
  refine pe_blk 64 13 ck221 [pe_K (pm_h M σ q y) M = 9, ¬ (pe_w 2) = 0] (cond (decide (¬ (pe_w (Int.tdiv (pe_w x4) (pe_w 2))) = (pe_w 1))) 136 132, [some (.inr (.inr M)), some (.inl x1), some (.inl x2), some (.inl x3), some (.inl x4), o5, o6], [.inl x2, .inl x1, .inr (.inr M), .inl (2 * x4), .inr (.inr (pe_R (pm_h M σ q y) M 55))], pm_h M σ q y) rfl ?_ ?_
  · first
    | (simp (disch := omega) only [pe_all, pe_wi w0, pe_wi w1, pe_wi (x := 1) ⟨by decide, by decide⟩, pe_wi (x := 2) ⟨by decide, by decide⟩, pe_K_wI, pe_K_wR, pe_R_nej, pe_R_wI, pm_KM hF, pm_Kh, pm_R55 hF, pm_Rh]; done)
    | (simp (disch := omega) only [pe_all, pe_wi w0, pe_wi w1, pe_wi (x := 1) ⟨by decide, by decide⟩, pe_wi (x := 2) ⟨by decide, by decide⟩, pe_K_wI, pe_K_wR, pe_R_nej, pe_R_wI, pm_KM hF, pm_Kh, pm_R55 hF, pm_Rh]; (repeat' apply And.intro) <;> first | assumption | omega | decide)
  · try simp (disch := omega) only [pe_wi w0, pe_wi w1, pe_wi (x := 1) ⟨by decide, by decide⟩, pe_wi (x := 2) ⟨by decide, by decide⟩, pe_K_wI, pe_K_wR, pe_R_nej, pe_R_wI, pm_KM hF, pm_Kh, pm_R55 hF, pm_Rh]
    exact pe_two' k1 k2
set_option maxRecDepth 8000 in
theorem b221_132 {d : Nat} {Φ : Option pe_V → pe_H → Prop} {σ : pe_H} {M q : Nat} {y : Nat → Int → Int} (hF : pm_F M σ) {x1 : Int} {x2 : Int} {x3 : Int} {x4 : Int} {o5 : Option pe_V} {o6 : Option pe_V} {s1 : Int} {s3 : Int} {s4 : Int}    (k : pe_X d 221 (137, [some (.inr (.inr M)), some (.inl x1), some (.inl x2), some (.inl x3), some (.inl x4), o5, o6], [.inl 1, .inl s4, .inl s3, .inr (.inr M), .inl s1, .inr (.inr (M + 41))], pm_h M σ q y) Φ) : pe_X d 221 (132, [some (.inr (.inr M)), some (.inl x1), some (.inl x2), some (.inl x3), some (.inl x4), o5, o6], [.inl s4, .inl s3, .inr (.inr M), .inl s1, .inr (.inr (M + 41))], pm_h M σ q y) Φ := by
  refine pe_blk 77 2 ck221 [] (137, [some (.inr (.inr M)), some (.inl x1), some (.inl x2), some (.inl x3), some (.inl x4), o5, o6], [.inl 1, .inl s4, .inl s3, .inr (.inr M), .inl s1, .inr (.inr (M + 41))], pm_h M σ q y) rfl ?_ ?_
  · exact trivial
  · exact k
set_option maxRecDepth 8000 in
theorem b221_136 {d : Nat} {Φ : Option pe_V → pe_H → Prop} {σ : pe_H} {M q : Nat} {y : Nat → Int → Int} (hF : pm_F M σ) {x1 : Int} {x2 : Int} {x3 : Int} {x4 : Int} {o5 : Option pe_V} {o6 : Option pe_V} {s1 : Int} {s3 : Int} {s4 : Int}    (k : pe_X d 221 (137, [some (.inr (.inr M)), some (.inl x1), some (.inl x2), some (.inl x3), some (.inl x4), o5, o6], [.inl 0, .inl s4, .inl s3, .inr (.inr M), .inl s1, .inr (.inr (M + 41))], pm_h M σ q y) Φ) : pe_X d 221 (136, [some (.inr (.inr M)), some (.inl x1), some (.inl x2), some (.inl x3), some (.inl x4), o5, o6], [.inl s4, .inl s3, .inr (.inr M), .inl s1, .inr (.inr (M + 41))], pm_h M σ q y) Φ := by
  refine pe_blk 79 1 ck221 [] (137, [some (.inr (.inr M)), some (.inl x1), some (.inl x2), some (.inl x3), some (.inl x4), o5, o6], [.inl 0, .inl s4, .inl s3, .inr (.inr M), .inl s1, .inr (.inr (M + 41))], pm_h M σ q y) rfl ?_ ?_
  · exact trivial
  · exact k
set_option maxRecDepth 8000 in
theorem b221_137 {d : Nat} {Φ : Option pe_V → pe_H → Prop} {σ : pe_H} {M q : Nat} {y : Nat → Int → Int} (hF : pm_F M σ) {x1 : Int} {x2 : Int} {x3 : Int} {x4 : Int} {o5 : Option pe_V} {o6 : Option pe_V} {s1 : Int} {s3 : Int} {s4 : Int} {s5 : Int}    (k : pe_M d 219 [.inr (.inr M), .inl s3, .inl s4, .inl s5] (pm_h M σ q y) (fun r σ' => pe_X d 221 (140, [some (.inr (.inr M)), some (.inl x1), some (.inl x2), some (.inl x3), some (.inl x4), o5, o6], r.toList ++ [.inl s1, .inr (.inr (M + 41))], σ') Φ)) : pe_X d 221 (137, [some (.inr (.inr M)), some (.inl x1), some (.inl x2), some (.inl x3), some (.inl x4), o5, o6], [.inl s5, .inl s4, .inl s3, .inr (.inr M), .inl s1, .inr (.inr (M + 41))], pm_h M σ q y) Φ := by
  have hrc : pe_K (pm_h M σ q y) M = 9 := by first | assumption | (simp (disch := omega) only [pe_K_wI, pe_K_wR, pm_KM hF, pm_Kh]; done) | (simp (disch := omega) only [pe_K_wI, pe_K_wR, pm_KM hF, pm_Kh]; assumption)
  exact pe_cal 80 ck221 rfl rfl rfl ⟨hrc, by decide⟩ k
set_option maxRecDepth 8000 in
theorem b221_140 {d : Nat} {Φ : Option pe_V → pe_H → Prop} {σ : pe_H} {M q : Nat} {y : Nat → Int → Int} (hF : pm_F M σ) {x1 : Int} {x2 : Int} {x3 : Int} {x4 : Int} {o5 : Option pe_V} {o6 : Option pe_V} {s1 : Int} {s2 : Int}  (w0 : pe_in s1 := by unfold pe_in; omega) (w1 : pe_in x4 := by unfold pe_in; omega) (w2 : pe_in (Int.tmod x4 2) := by unfold pe_in; omega) (h0 : 0 ≤ s1 := by first | assumption | omega) (h1 : s1 < 8 := by first | assumption | omega) (h2 : ¬ 2 = 0 := by first | assumption | omega) (k1 : ¬ (Int.tmod x4 2) = 1 → pe_X d 221 (166, [some (.inr (.inr M)), some (.inl x1), some (.inl x2), some (.inl x3), some (.inl x4), o5, o6], [.inl x1, .inl x2, .inr (.inr M), .inl ((2 * x4) + 1), .inr (.inr (M + 41))], pm_h M σ q (pm_u y 41 s1 s2)) Φ) (k2 : (Int.tmod x4 2) = 1 → pe_X d 221 (162, [some (.inr (.inr M)), some (.inl x1), some (.inl x2), some (.inl x3), some (.inl x4), o5, o6], [.inl x1, .inl x2, .inr (.inr M), .inl ((2 * x4) + 1), .inr (.inr (M + 41))], pm_h M σ q (pm_u y 41 s1 s2)) Φ) : pe_X d 221 (140, [some (.inr (.inr M)), some (.inl x1), some (.inl x2), some (.inl x3), some (.inl x4), o5, o6], [.inl s2, .inl s1, .inr (.inr (M + 41))], pm_h M σ q y) Φ := by
  have hM2 := pm_2 hF
  refine pe_blk 81 16 ck221 [pe_K (pm_h M σ q y) (M + 41) = 10, 0 ≤ (pe_w s1), (pe_w s1) < pe_L (pm_h M σ q y) (M + 41), 2 ≤ (M + 41), pe_K (pe_wI (pm_h M σ q y) (M + 41) (pe_w s1) s2) M = 9, ¬ (pe_w 2) = 0] (cond (decide (¬ (pe_w (Int.tmod (pe_w x4) (pe_w 2))) = (pe_w 1))) 166 162, [some (.inr (.inr M)), some (.inl x1), some (.inl x2), some (.inl x3), some (.inl x4), o5, o6], [.inl x1, .inl x2, .inr (.inr M), .inl ((2 * x4) + 1), .inr (.inr (pe_R (pe_wI (pm_h M σ q y) (M + 41) (pe_w s1) s2) M 55))], pe_wI (pm_h M σ q y) (M + 41) (pe_w s1) s2) rfl ?_ ?_
  · first
    | (simp (disch := omega) only [pe_all, pe_wi w0, pe_wi w1, pe_wi w2, pe_wi (x := 1) ⟨by decide, by decide⟩, pe_wi (x := 2) ⟨by decide, by decide⟩, pe_K_wI, pe_K_wR, pe_L_wI, pe_L_wR, pe_R_nej, pe_R_wI, pm_K41 hF, pm_KM hF, pm_Kh, pm_L41 hF, pm_Lh, pm_R55 hF, pm_Rh, pm_wIk]; done)
    | (simp (disch := omega) only [pe_all, pe_wi w0, pe_wi w1, pe_wi w2, pe_wi (x := 1) ⟨by decide, by decide⟩, pe_wi (x := 2) ⟨by decide, by decide⟩, pe_K_wI, pe_K_wR, pe_L_wI, pe_L_wR, pe_R_nej, pe_R_wI, pm_K41 hF, pm_KM hF, pm_Kh, pm_L41 hF, pm_Lh, pm_R55 hF, pm_Rh, pm_wIk]; (repeat' apply And.intro) <;> first | assumption | omega | decide)
  · try simp (disch := omega) only [pe_wi w0, pe_wi w1, pe_wi w2, pe_wi (x := 1) ⟨by decide, by decide⟩, pe_wi (x := 2) ⟨by decide, by decide⟩, pe_K_wI, pe_K_wR, pe_L_wI, pe_L_wR, pe_R_nej, pe_R_wI, pm_K41 hF, pm_KM hF, pm_Kh, pm_L41 hF, pm_Lh, pm_R55 hF, pm_Rh, pm_wIk]
    exact pe_two' k1 k2
set_option maxRecDepth 8000 in
theorem b221_162 {d : Nat} {Φ : Option pe_V → pe_H → Prop} {σ : pe_H} {M q : Nat} {y : Nat → Int → Int} (hF : pm_F M σ) {x1 : Int} {x2 : Int} {x3 : Int} {x4 : Int} {o5 : Option pe_V} {o6 : Option pe_V} {s1 : Int} {s3 : Int} {s4 : Int}    (k : pe_X d 221 (167, [some (.inr (.inr M)), some (.inl x1), some (.inl x2), some (.inl x3), some (.inl x4), o5, o6], [.inl 1, .inl s4, .inl s3, .inr (.inr M), .inl s1, .inr (.inr (M + 41))], pm_h M σ q y) Φ) : pe_X d 221 (162, [some (.inr (.inr M)), some (.inl x1), some (.inl x2), some (.inl x3), some (.inl x4), o5, o6], [.inl s4, .inl s3, .inr (.inr M), .inl s1, .inr (.inr (M + 41))], pm_h M σ q y) Φ := by
  refine pe_blk 97 2 ck221 [] (167, [some (.inr (.inr M)), some (.inl x1), some (.inl x2), some (.inl x3), some (.inl x4), o5, o6], [.inl 1, .inl s4, .inl s3, .inr (.inr M), .inl s1, .inr (.inr (M + 41))], pm_h M σ q y) rfl ?_ ?_
  · exact trivial
  · exact k
set_option maxRecDepth 8000 in
theorem b221_166 {d : Nat} {Φ : Option pe_V → pe_H → Prop} {σ : pe_H} {M q : Nat} {y : Nat → Int → Int} (hF : pm_F M σ) {x1 : Int} {x2 : Int} {x3 : Int} {x4 : Int} {o5 : Option pe_V} {o6 : Option pe_V} {s1 : Int} {s3 : Int} {s4 : Int}    (k : pe_X d 221 (167, [some (.inr (.inr M)), some (.inl x1), some (.inl x2), some (.inl x3), some (.inl x4), o5, o6], [.inl 0, .inl s4, .inl s3, .inr (.inr M), .inl s1, .inr (.inr (M + 41))], pm_h M σ q y) Φ) : pe_X d 221 (166, [some (.inr (.inr M)), some (.inl x1), some (.inl x2), some (.inl x3), some (.inl x4), o5, o6], [.inl s4, .inl s3, .inr (.inr M), .inl s1, .inr (.inr (M + 41))], pm_h M σ q y) Φ := by
  refine pe_blk 99 1 ck221 [] (167, [some (.inr (.inr M)), some (.inl x1), some (.inl x2), some (.inl x3), some (.inl x4), o5, o6], [.inl 0, .inl s4, .inl s3, .inr (.inr M), .inl s1, .inr (.inr (M + 41))], pm_h M σ q y) rfl ?_ ?_
  · exact trivial
  · exact k
set_option maxRecDepth 8000 in
theorem b221_167 {d : Nat} {Φ : Option pe_V → pe_H → Prop} {σ : pe_H} {M q : Nat} {y : Nat → Int → Int} (hF : pm_F M σ) {x1 : Int} {x2 : Int} {x3 : Int} {x4 : Int} {o5 : Option pe_V} {o6 : Option pe_V} {s1 : Int} {s3 : Int} {s4 : Int} {s5 : Int}    (k : pe_M d 219 [.inr (.inr M), .inl s3, .inl s4, .inl s5] (pm_h M σ q y) (fun r σ' => pe_X d 221 (170, [some (.inr (.inr M)), some (.inl x1), some (.inl x2), some (.inl x3), some (.inl x4), o5, o6], r.toList ++ [.inl s1, .inr (.inr (M + 41))], σ') Φ)) : pe_X d 221 (167, [some (.inr (.inr M)), some (.inl x1), some (.inl x2), some (.inl x3), some (.inl x4), o5, o6], [.inl s5, .inl s4, .inl s3, .inr (.inr M), .inl s1, .inr (.inr (M + 41))], pm_h M σ q y) Φ := by
  have hrc : pe_K (pm_h M σ q y) M = 9 := by first | assumption | (simp (disch := omega) only [pe_K_wI, pe_K_wR, pm_KM hF, pm_Kh]; done) | (simp (disch := omega) only [pe_K_wI, pe_K_wR, pm_KM hF, pm_Kh]; assumption)
  exact pe_cal 100 ck221 rfl rfl rfl ⟨hrc, by decide⟩ k
set_option maxRecDepth 8000 in
theorem b221_170 {d : Nat} {Φ : Option pe_V → pe_H → Prop} {σ : pe_H} {M q : Nat} {y : Nat → Int → Int} (hF : pm_F M σ) {x1 : Int} {x2 : Int} {x3 : Int} {x4 : Int} {o5 : Option pe_V} {o6 : Option pe_V} {s1 : Int} {s2 : Int}  (w0 : pe_in s1 := by unfold pe_in; omega) (h0 : 0 ≤ s1 := by first | assumption | omega) (h1 : s1 < 8 := by first | assumption | omega) (k : pe_M d 188 [.inr (.inr M)] (pm_h M σ q (pm_u y 41 s1 s2)) (fun r σ' => pe_X d 221 (175, [some (.inr (.inr M)), some (.inl x1), some (.inl x2), some (.inl x3), some (.inl x4), o5, o6], r.toList ++ [], σ') Φ)) : pe_X d 221 (170, [some (.inr (.inr M)), some (.inl x1), some (.inl x2), some (.inl x3), some (.inl x4), o5, o6], [.inl s2, .inl s1, .inr (.inr (M + 41))], pm_h M σ q y) Φ := by
  have hM2 := pm_2 hF
  refine pe_blk 101 2 ck221 [pe_K (pm_h M σ q y) (M + 41) = 10, 0 ≤ (pe_w s1), (pe_w s1) < pe_L (pm_h M σ q y) (M + 41), 2 ≤ (M + 41)] (172, [some (.inr (.inr M)), some (.inl x1), some (.inl x2), some (.inl x3), some (.inl x4), o5, o6], [.inr (.inr M)], pe_wI (pm_h M σ q y) (M + 41) (pe_w s1) s2) rfl ?_ ?_
  · first
    | (simp (disch := omega) only [pe_all, pe_wi w0, pe_K_wI, pe_K_wR, pe_L_wI, pe_L_wR, pm_K41 hF, pm_KM hF, pm_Kh, pm_L41 hF, pm_Lh, pm_wIk]; done)
    | (simp (disch := omega) only [pe_all, pe_wi w0, pe_K_wI, pe_K_wR, pe_L_wI, pe_L_wR, pm_K41 hF, pm_KM hF, pm_Kh, pm_L41 hF, pm_Lh, pm_wIk]; (repeat' apply And.intro) <;> first | assumption | omega | decide)
  · try simp (disch := omega) only [pe_wi w0, pe_K_wI, pe_K_wR, pe_L_wI, pe_L_wR, pm_K41 hF, pm_KM hF, pm_Kh, pm_L41 hF, pm_Lh, pm_wIk]
    have hrc : pe_K (pm_h M σ q (pm_u y 41 s1 s2)) M = 9 := by first | assumption | (simp (disch := omega) only [pe_wi w0, pe_K_wI, pe_K_wR, pe_L_wI, pe_L_wR, pm_K41 hF, pm_KM hF, pm_Kh, pm_L41 hF, pm_Lh, pm_wIk]; done) | (simp (disch := omega) only [pe_wi w0, pe_K_wI, pe_K_wR, pe_L_wI, pe_L_wR, pm_K41 hF, pm_KM hF, pm_Kh, pm_L41 hF, pm_Lh, pm_wIk]; assumption)
    exact pe_cal 103 ck221 rfl rfl rfl ⟨hrc, by decide⟩ k
set_option maxRecDepth 8000 in
theorem b221_175 {d : Nat} {Φ : Option pe_V → pe_H → Prop} {σ : pe_H} {M q : Nat} {y : Nat → Int → Int} (hF : pm_F M σ) {x1 : Int} {x2 : Int} {x3 : Int} {x4 : Int} {o5 : Option pe_V} {o6 : Option pe_V}    (k : pe_X d 221 (66, [some (.inr (.inr M)), some (.inl x1), some (.inl x2), some (.inl x3), some (.inl (x4 + 1)), o5, o6], [], pm_h M σ q y) Φ) : pe_X d 221 (175, [some (.inr (.inr M)), some (.inl x1), some (.inl x2), some (.inl x3), some (.inl x4), o5, o6], [], pm_h M σ q y) Φ := by
  refine pe_blk 104 2 ck221 [] (66, [some (.inr (.inr M)), some (.inl x1), some (.inl x2), some (.inl x3), some (.inl (x4 + 1)), o5, o6], [], pm_h M σ q y) rfl ?_ ?_
  · exact trivial
  · exact k
set_option maxRecDepth 8000 in
theorem b221_181 {d : Nat} {Φ : Option pe_V → pe_H → Prop} {σ : pe_H} {M q : Nat} {y : Nat → Int → Int} (hF : pm_F M σ) {o1 : Option pe_V} {o2 : Option pe_V} {o3 : Option pe_V} {o4 : Option pe_V} {o5 : Option pe_V} {o6 : Option pe_V}    (k : pe_X d 221 (184, [some (.inr (.inr M)), o1, o2, pe_nl o3, some (.inl 0), o5, o6], [], pm_h M σ q y) Φ) : pe_X d 221 (181, [some (.inr (.inr M)), o1, o2, o3, o4, o5, o6], [], pm_h M σ q y) Φ := by
  refine pe_blk 106 2 ck221 [] (184, [some (.inr (.inr M)), o1, o2, pe_nl o3, some (.inl 0), o5, o6], [], pm_h M σ q y) rfl ?_ ?_
  · exact trivial
  · exact k
set_option maxRecDepth 8000 in
theorem b221_184 {d : Nat} {Φ : Option pe_V → pe_H → Prop} {σ : pe_H} {M q : Nat} {y : Nat → Int → Int} (hF : pm_F M σ) {o1 : Option pe_V} {o2 : Option pe_V} {o3 : Option pe_V} {x4 : Int} {o5 : Option pe_V} {o6 : Option pe_V}  (w0 : pe_in x4 := by unfold pe_in; omega)  (k1 : 4 ≤ x4 → pe_X d 221 (285, [some (.inr (.inr M)), o1, o2, o3, some (.inl x4), o5, o6], [], pm_h M σ q y) Φ) (k2 : ¬ (4 ≤ x4) → pe_X d 221 (190, [some (.inr (.inr M)), o1, o2, o3, some (.inl x4), o5, o6], [], pm_h M σ q y) Φ) : pe_X d 221 (184, [some (.inr (.inr M)), o1, o2, o3, some (.inl x4), o5, o6], [], pm_h M σ q y) Φ := by
  refine pe_blk 108 3 ck221 [] (cond (decide ((pe_w 4) ≤ (pe_w x4))) 285 190, [some (.inr (.inr M)), o1, o2, o3, some (.inl x4), o5, o6], [], pm_h M σ q y) rfl ?_ ?_
  · exact trivial
  · try simp (disch := omega) only [pe_wi w0, pe_wi (x := 4) ⟨by decide, by decide⟩]
    exact pe_two k1 k2
set_option maxRecDepth 8000 in
set_option maxHeartbeats 8000000 in
theorem b221_190 {d : Nat} {Φ : Option pe_V → pe_H → Prop} {σ : pe_H} {M q : Nat} {y : Nat → Int → Int} (hF : pm_F M σ) {o1 : Option pe_V} {o2 : Option pe_V} {o3 : Option pe_V} {x4 : Int} {o5 : Option pe_V} {o6 : Option pe_V}  (w0 : pe_in x4 := by unfold pe_in; omega) (h0 : ¬ 2 = 0 := by first | assumption | omega) (k : pe_X d 221 (220, [some (.inr (.inr M)), o1, o2, o3, some (.inl x4), some (.inl ((2 * (1 - (Int.tdiv x4 2))) + (Int.tmod x4 2))), some (.inl (((2 * (Int.tdiv x4 2)) + 1) - (Int.tmod x4 2)))], [], pm_h M σ q y) Φ) : pe_X d 221 (190, [some (.inr (.inr M)), o1, o2, o3, some (.inl x4), o5, o6], [], pm_h M σ q y) Φ := by
  refine pe_blk 111 24 ck221 [¬ (pe_w 2) = 0, ¬ (pe_w 2) = 0, ¬ (pe_w 2) = 0, ¬ (pe_w 2) = 0] (220, [some (.inr (.inr M)), o1, o2, o3, some (.inl x4), some (.inl ((2 * (1 - (Int.tdiv (pe_w x4) (pe_w 2)))) + (Int.tmod (pe_w x4) (pe_w 2)))), some (.inl (((2 * (Int.tdiv (pe_w x4) (pe_w 2))) + 1) - (Int.tmod (pe_w x4) (pe_w 2))))], [], pm_h M σ q y) rfl ?_ ?_
  · first
    | (simp (disch := omega) only [pe_all, pe_wi w0, pe_wi (x := 2) ⟨by decide, by decide⟩]; done)
    | (simp (disch := omega) only [pe_all, pe_wi w0, pe_wi (x := 2) ⟨by decide, by decide⟩]; (repeat' apply And.intro) <;> first | assumption | omega | decide)
  · try simp (disch := omega) only [pe_wi w0, pe_wi (x := 2) ⟨by decide, by decide⟩]
    exact k
set_option maxRecDepth 8000 in
theorem b221_220 {d : Nat} {Φ : Option pe_V → pe_H → Prop} {σ : pe_H} {M q : Nat} {y : Nat → Int → Int} (hF : pm_F M σ) {o1 : Option pe_V} {o2 : Option pe_V} {o3 : Option pe_V} {x4 : Int} {x5 : Int} {x6 : Int}  (w0 : pe_in (2 * x4) := by unfold pe_in; omega) (w1 : pe_in (2 * x5) := by unfold pe_in; omega) (w2 : pe_in (y 41 (2 * x5)) := by unfold pe_in; omega) (w3 : pe_in (y 41 (2 * x4)) := by unfold pe_in; omega) (h0 : 0 ≤ (2 * x4) := by first | assumption | omega) (h1 : (2 * x4) < 8 := by first | assumption | omega) (h2 : 0 ≤ (2 * x5) := by first | assumption | omega) (h3 : (2 * x5) < 8 := by first | assumption | omega) (k1 : (y 41 (2 * x4)) < (y 41 (2 * x5)) → pe_X d 221 (279, [some (.inr (.inr M)), o1, o2, o3, some (.inl x4), some (.inl x5), some (.inl x6)], [], pm_h M σ q y) Φ) (k2 : ¬ ((y 41 (2 * x4)) < (y 41 (2 * x5))) → pe_X d 221 (241, [some (.inr (.inr M)), o1, o2, o3, some (.inl x4), some (.inl x5), some (.inl x6)], [], pm_h M σ q y) Φ) : pe_X d 221 (220, [some (.inr (.inr M)), o1, o2, o3, some (.inl x4), some (.inl x5), some (.inl x6)], [], pm_h M σ q y) Φ := by
  refine pe_blk 135 13 ck221 [pe_K (pm_h M σ q y) M = 9, pe_K (pm_h M σ q y) (pe_R (pm_h M σ q y) M 55) = 10, 0 ≤ (pe_w (2 * x4)), (pe_w (2 * x4)) < pe_L (pm_h M σ q y) (pe_R (pm_h M σ q y) M 55), pe_K (pm_h M σ q y) M = 9, pe_K (pm_h M σ q y) (pe_R (pm_h M σ q y) M 55) = 10, 0 ≤ (pe_w (2 * x5)), (pe_w (2 * x5)) < pe_L (pm_h M σ q y) (pe_R (pm_h M σ q y) M 55)] (cond (decide ((pe_w (pe_I (pm_h M σ q y) (pe_R (pm_h M σ q y) M 55) (pe_w (2 * x4)))) < (pe_w (pe_I (pm_h M σ q y) (pe_R (pm_h M σ q y) M 55) (pe_w (2 * x5)))))) 279 241, [some (.inr (.inr M)), o1, o2, o3, some (.inl x4), some (.inl x5), some (.inl x6)], [], pm_h M σ q y) rfl ?_ ?_
  · first
    | (simp (disch := omega) only [pe_all, pe_wi w0, pe_wi w1, pe_wi w2, pe_wi w3, pe_I_wR, pe_K_wI, pe_K_wR, pe_L_wI, pe_L_wR, pe_R_nej, pe_R_wI, pm_Ik, pm_K41 hF, pm_KM hF, pm_Kh, pm_L41 hF, pm_Lh, pm_R55 hF, pm_Rh, pm_uj, pm_uk, pm_us]; done)
    | (simp (disch := omega) only [pe_all, pe_wi w0, pe_wi w1, pe_wi w2, pe_wi w3, pe_I_wR, pe_K_wI, pe_K_wR, pe_L_wI, pe_L_wR, pe_R_nej, pe_R_wI, pm_Ik, pm_K41 hF, pm_KM hF, pm_Kh, pm_L41 hF, pm_Lh, pm_R55 hF, pm_Rh, pm_uj, pm_uk, pm_us]; (repeat' apply And.intro) <;> first | assumption | omega | decide)
  · try simp (disch := omega) only [pe_wi w0, pe_wi w1, pe_wi w2, pe_wi w3, pe_I_wR, pe_K_wI, pe_K_wR, pe_L_wI, pe_L_wR, pe_R_nej, pe_R_wI, pm_Ik, pm_K41 hF, pm_KM hF, pm_Kh, pm_L41 hF, pm_Lh, pm_R55 hF, pm_Rh, pm_uj, pm_uk, pm_us]
    exact pe_two k1 k2
set_option maxRecDepth 8000 in
theorem b221_241 {d : Nat} {Φ : Option pe_V → pe_H → Prop} {σ : pe_H} {M q : Nat} {y : Nat → Int → Int} (hF : pm_F M σ) {o1 : Option pe_V} {o2 : Option pe_V} {o3 : Option pe_V} {x4 : Int} {o5 : Option pe_V} {x6 : Int}  (w0 : pe_in ((2 * x4) + 1) := by unfold pe_in; omega) (w1 : pe_in ((2 * x6) + 1) := by unfold pe_in; omega) (w2 : pe_in (y 41 ((2 * x6) + 1)) := by unfold pe_in; omega) (w3 : pe_in (y 41 ((2 * x4) + 1)) := by unfold pe_in; omega) (h0 : 0 ≤ ((2 * x4) + 1) := by first | assumption | omega) (h1 : ((2 * x4) + 1) < 8 := by first | assumption | omega) (h2 : 0 ≤ ((2 * x6) + 1) := by first | assumption | omega) (h3 : ((2 * x6) + 1) < 8 := by first | assumption | omega) (k1 : (y 41 ((2 * x4) + 1)) < (y 41 ((2 * x6) + 1)) → pe_X d 221 (279, [some (.inr (.inr M)), o1, o2, o3, some (.inl x4), o5, some (.inl x6)], [], pm_h M σ q y) Φ) (k2 : ¬ ((y 41 ((2 * x4) + 1)) < (y 41 ((2 * x6) + 1))) → pe_X d 221 (266, [some (.inr (.inr M)), o1, o2, o3, some (.inl x4), o5, some (.inl x6)], [], pm_h M σ q y) Φ) : pe_X d 221 (241, [some (.inr (.inr M)), o1, o2, o3, some (.inl x4), o5, some (.inl x6)], [], pm_h M σ q y) Φ := by
  refine pe_blk 148 17 ck221 [pe_K (pm_h M σ q y) M = 9, pe_K (pm_h M σ q y) (pe_R (pm_h M σ q y) M 55) = 10, 0 ≤ (pe_w ((2 * x4) + 1)), (pe_w ((2 * x4) + 1)) < pe_L (pm_h M σ q y) (pe_R (pm_h M σ q y) M 55), pe_K (pm_h M σ q y) M = 9, pe_K (pm_h M σ q y) (pe_R (pm_h M σ q y) M 55) = 10, 0 ≤ (pe_w ((2 * x6) + 1)), (pe_w ((2 * x6) + 1)) < pe_L (pm_h M σ q y) (pe_R (pm_h M σ q y) M 55)] (cond (decide ((pe_w (pe_I (pm_h M σ q y) (pe_R (pm_h M σ q y) M 55) (pe_w ((2 * x4) + 1)))) < (pe_w (pe_I (pm_h M σ q y) (pe_R (pm_h M σ q y) M 55) (pe_w ((2 * x6) + 1)))))) 279 266, [some (.inr (.inr M)), o1, o2, o3, some (.inl x4), o5, some (.inl x6)], [], pm_h M σ q y) rfl ?_ ?_
  · first
    | (simp (disch := omega) only [pe_all, pe_wi w0, pe_wi w1, pe_wi w2, pe_wi w3, pe_I_wR, pe_K_wI, pe_K_wR, pe_L_wI, pe_L_wR, pe_R_nej, pe_R_wI, pm_Ik, pm_K41 hF, pm_KM hF, pm_Kh, pm_L41 hF, pm_Lh, pm_R55 hF, pm_Rh, pm_uj, pm_uk, pm_us]; done)
    | (simp (disch := omega) only [pe_all, pe_wi w0, pe_wi w1, pe_wi w2, pe_wi w3, pe_I_wR, pe_K_wI, pe_K_wR, pe_L_wI, pe_L_wR, pe_R_nej, pe_R_wI, pm_Ik, pm_K41 hF, pm_KM hF, pm_Kh, pm_L41 hF, pm_Lh, pm_R55 hF, pm_Rh, pm_uj, pm_uk, pm_us]; (repeat' apply And.intro) <;> first | assumption | omega | decide)
  · try simp (disch := omega) only [pe_wi w0, pe_wi w1, pe_wi w2, pe_wi w3, pe_I_wR, pe_K_wI, pe_K_wR, pe_L_wI, pe_L_wR, pe_R_nej, pe_R_wI, pm_Ik, pm_K41 hF, pm_KM hF, pm_Kh, pm_L41 hF, pm_Lh, pm_R55 hF, pm_Rh, pm_uj, pm_uk, pm_us]
    exact pe_two k1 k2
set_option maxRecDepth 8000 in
theorem b221_266 {d : Nat} {Φ : Option pe_V → pe_H → Prop} {σ : pe_H} {M q : Nat} {y : Nat → Int → Int} (hF : pm_F M σ) {o1 : Option pe_V} {o2 : Option pe_V} {o3 : Option pe_V} {x4 : Int} {o5 : Option pe_V} {o6 : Option pe_V}  (w0 : pe_in x4 := by unfold pe_in; omega) (h0 : ¬ 2 = 0 := by first | assumption | omega) (k : Φ (some (.inl ((10 * (Int.tdiv x4 2)) + (Int.tmod x4 2)))) (pm_h M σ q y)) : pe_X d 221 (266, [some (.inr (.inr M)), o1, o2, o3, some (.inl x4), o5, o6], [], pm_h M σ q y) Φ := by
  refine pe_blk 165 9 ck221 [¬ (pe_w 2) = 0, ¬ (pe_w 2) = 0] (278, [some (.inr (.inr M)), o1, o2, o3, some (.inl x4), o5, o6], [.inl ((10 * (Int.tdiv (pe_w x4) (pe_w 2))) + (Int.tmod (pe_w x4) (pe_w 2)))], pm_h M σ q y) rfl ?_ ?_
  · first
    | (simp (disch := omega) only [pe_all, pe_wi w0, pe_wi (x := 2) ⟨by decide, by decide⟩]; done)
    | (simp (disch := omega) only [pe_all, pe_wi w0, pe_wi (x := 2) ⟨by decide, by decide⟩]; (repeat' apply And.intro) <;> first | assumption | omega | decide)
  · try simp (disch := omega) only [pe_wi w0, pe_wi (x := 2) ⟨by decide, by decide⟩]
    exact pe_fine 174 ck221 rfl rfl rfl trivial k
set_option maxRecDepth 8000 in
theorem b221_279 {d : Nat} {Φ : Option pe_V → pe_H → Prop} {σ : pe_H} {M q : Nat} {y : Nat → Int → Int} (hF : pm_F M σ) {o1 : Option pe_V} {o2 : Option pe_V} {o3 : Option pe_V} {x4 : Int} {o5 : Option pe_V} {o6 : Option pe_V}    (k : pe_X d 221 (184, [some (.inr (.inr M)), o1, o2, pe_nl o3, some (.inl (x4 + 1)), o5, o6], [], pm_h M σ q y) Φ) : pe_X d 221 (279, [some (.inr (.inr M)), o1, o2, o3, some (.inl x4), o5, o6], [], pm_h M σ q y) Φ := by
  refine pe_blk 175 2 ck221 [] (184, [some (.inr (.inr M)), o1, o2, pe_nl o3, some (.inl (x4 + 1)), o5, o6], [], pm_h M σ q y) rfl ?_ ?_
  · exact trivial
  · exact k
set_option maxRecDepth 8000 in
theorem b221_285 {d : Nat} {Φ : Option pe_V → pe_H → Prop} {σ : pe_H} {M q : Nat} {y : Nat → Int → Int} (hF : pm_F M σ) {o1 : Option pe_V} {o2 : Option pe_V} {o3 : Option pe_V} {o4 : Option pe_V} {o5 : Option pe_V} {o6 : Option pe_V}    (k : Φ (some (.inl (-4))) (pm_h M σ q y)) : pe_X d 221 (285, [some (.inr (.inr M)), o1, o2, o3, o4, o5, o6], [], pm_h M σ q y) Φ := by
  refine pe_blk 177 1 ck221 [] (287, [some (.inr (.inr M)), o1, o2, o3, o4, o5, o6], [.inl (-4)], pm_h M σ q y) rfl ?_ ?_
  · exact trivial
  · exact pe_fine 178 ck221 rfl rfl rfl trivial k
-- StepMachinesModel.divisor(JJ)J
def T222 : List (Nat × Instr × Nat) := [(0, .lload_n 0, 1), (1, .lstore 4, 2), (3, .lload_n 2, 1), (4, .lstore 6, 2), (6, .lload 6, 2), (8, .lconst 0, 1), (9, .lcmp, 1), (10, .ifCond .eq 21, 3), (13, .lload 4, 2), (15, .lload 6, 2), (17, .lrem, 1), (18, .lstore 8, 2), (20, .lload 6, 2), (22, .lstore 4, 2), (24, .lload 8, 2), (26, .lstore 6, 2), (28, .goto (-22), 3), (31, .lload 4, 2), (33, .lreturn, 1)]
theorem ck222 : pe_ctx 222 9 false (some .long) 10 T222 := ⟨rfl, rfl, rfl, rfl, by decide +kernel, by decide, by decide⟩
theorem b222_0 {d : Nat} {Φ : Option pe_V → pe_H → Prop} {σ : pe_H} {M q : Nat} {y : Nat → Int → Int} (hF : pm_F M σ) {l0 : Int} {l2 : Int} {o4 : Option pe_V} {o5 : Option pe_V} {o6 : Option pe_V} {o7 : Option pe_V} {o8 : Option pe_V} {o9 : Option pe_V}    (k : pe_X d 222 (6, [some (.inr (.inl l0)), none, some (.inr (.inl l2)), none, some (.inr (.inl l0)), none, some (.inr (.inl l2)), none, o8, o9], [], pm_h M σ q y) Φ) : pe_X d 222 (0, [some (.inr (.inl l0)), none, some (.inr (.inl l2)), none, o4, o5, o6, o7, o8, o9], [], pm_h M σ q y) Φ := by
  refine pe_blk 0 4 ck222 [] (6, [some (.inr (.inl l0)), none, some (.inr (.inl l2)), none, some (.inr (.inl l0)), none, some (.inr (.inl l2)), none, o8, o9], [], pm_h M σ q y) rfl ?_ ?_
  · exact trivial
  · exact k
theorem b222_6 {d : Nat} {Φ : Option pe_V → pe_H → Prop} {σ : pe_H} {M q : Nat} {y : Nat → Int → Int} (hF : pm_F M σ) {o0 : Option pe_V} {o1 : Option pe_V} {o2 : Option pe_V} {o3 : Option pe_V} {l4 : Int} {l6 : Int} {o8 : Option pe_V} {o9 : Option pe_V}  (w0 : pe_in (pe_lcmp l6 0) := by unfold pe_in; omega)  (k1 : (pe_lcmp l6 0) = 0 → pe_X d 222 (31, [o0, o1, o2, o3, some (.inr (.inl l4)), none, some (.inr (.inl l6)), none, o8, o9], [], pm_h M σ q y) Φ) (k2 : ¬ ((pe_lcmp l6 0) = 0) → pe_X d 222 (13, [o0, o1, o2, o3, some (.inr (.inl l4)), none, some (.inr (.inl l6)), none, o8, o9], [], pm_h M σ q y) Φ) : pe_X d 222 (6, [o0, o1, o2, o3, some (.inr (.inl l4)), none, some (.inr (.inl l6)), none, o8, o9], [], pm_h M σ q y) Φ := by
  refine pe_blk 4 4 ck222 [] (cond (decide ((pe_w (pe_lcmp l6 0)) = 0)) 31 13, [o0, o1, o2, o3, some (.inr (.inl l4)), none, some (.inr (.inl l6)), none, o8, o9], [], pm_h M σ q y) rfl ?_ ?_
  · exact trivial
  · try simp (disch := omega) only [pe_wi w0]
    exact pe_two k1 k2
theorem b222_13 {d : Nat} {Φ : Option pe_V → pe_H → Prop} {σ : pe_H} {M q : Nat} {y : Nat → Int → Int} (hF : pm_F M σ) {o0 : Option pe_V} {o1 : Option pe_V} {o2 : Option pe_V} {o3 : Option pe_V} {l4 : Int} {l6 : Int} {o8 : Option pe_V} {o9 : Option pe_V}   (h0 : ¬ pe_wl l6 = 0 := by first | assumption | omega) (k : pe_X d 222 (6, [o0, o1, o2, pe_nl o3, some (.inr (.inl l6)), none, some (.inr (.inl (Int.tmod (pe_wl l4) (pe_wl l6)))), none, some (.inr (.inl (Int.tmod (pe_wl l4) (pe_wl l6)))), none], [], pm_h M σ q y) Φ) : pe_X d 222 (13, [o0, o1, o2, o3, some (.inr (.inl l4)), none, some (.inr (.inl l6)), none, o8, o9], [], pm_h M σ q y) Φ := by
  refine pe_blk 8 9 ck222 [¬ pe_wl l6 = 0] (6, [o0, o1, o2, pe_nl o3, some (.inr (.inl l6)), none, some (.inr (.inl (Int.tmod (pe_wl l4) (pe_wl l6)))), none, some (.inr (.inl (Int.tmod (pe_wl l4) (pe_wl l6)))), none], [], pm_h M σ q y) rfl ?_ ?_
  · first
    | (simp (disch := omega) only [pe_all, ]; done)
    | (simp (disch := omega) only [pe_all, ]; (repeat' apply And.intro) <;> first | assumption | omega | decide)
  · exact k
theorem b222_31 {d : Nat} {Φ : Option pe_V → pe_H → Prop} {σ : pe_H} {M q : Nat} {y : Nat → Int → Int} (hF : pm_F M σ) {o0 : Option pe_V} {o1 : Option pe_V} {o2 : Option pe_V} {o3 : Option pe_V} {l4 : Int} {o6 : Option pe_V} {o7 : Option pe_V} {o8 : Option pe_V} {o9 : Option pe_V}    (k : Φ (some (.inr (.inl l4))) (pm_h M σ q y)) : pe_X d 222 (31, [o0, o1, o2, o3, some (.inr (.inl l4)), none, o6, o7, o8, o9], [], pm_h M σ q y) Φ := by
  refine pe_blk 17 1 ck222 [] (33, [o0, o1, o2, o3, some (.inr (.inl l4)), none, o6, o7, o8, o9], [.inr (.inl l4)], pm_h M σ q y) rfl ?_ ?_
  · exact trivial
  · exact pe_fine 18 ck222 rfl rfl rfl trivial k
-- StepMachinesModel.partOf(JJI)J
def T223 : List (Nat × Instr × Nat) := [(0, .lload_n 0, 1), (1, .lconst 0, 1), (2, .lcmp, 1), (3, .ifCond .ne 7, 3), (6, .iload 4, 2), (8, .i2l, 1), (9, .lreturn, 1), (10, .lload_n 0, 1), (11, .lload_n 2, 1), (12, .invokestatic 434, 3), (15, .lstore 5, 2), (17, .iload 4, 2), (19, .ifCond .ne 10, 3), (22, .lload_n 0, 1), (23, .lload 5, 2), (25, .ldiv, 1), (26, .goto 7, 3), (29, .lload_n 2, 1), (30, .lload 5, 2), (32, .ldiv, 1), (33, .lreturn, 1)]
theorem ck223 : pe_ctx 223 9 false (some .long) 7 T223 := ⟨rfl, rfl, rfl, rfl, by decide +kernel, by decide, by decide⟩
theorem b223_0 {d : Nat} {Φ : Option pe_V → pe_H → Prop} {σ : pe_H} {M q : Nat} {y : Nat → Int → Int} (hF : pm_F M σ) {l0 : Int} {l2 : Int} {x4 : Int} {o5 : Option pe_V} {o6 : Option pe_V}  (w0 : pe_in (pe_lcmp l0 0) := by unfold pe_in; omega)  (k1 : ¬ (pe_lcmp l0 0) = 0 → pe_X d 223 (10, [some (.inr (.inl l0)), none, some (.inr (.inl l2)), none, some (.inl x4), o5, o6], [], pm_h M σ q y) Φ) (k2 : (pe_lcmp l0 0) = 0 → pe_X d 223 (6, [some (.inr (.inl l0)), none, some (.inr (.inl l2)), none, some (.inl x4), o5, o6], [], pm_h M σ q y) Φ) : pe_X d 223 (0, [some (.inr (.inl l0)), none, some (.inr (.inl l2)), none, some (.inl x4), o5, o6], [], pm_h M σ q y) Φ := by
  refine pe_blk 0 4 ck223 [] (cond (decide (¬ (pe_w (pe_lcmp l0 0)) = 0)) 10 6, [some (.inr (.inl l0)), none, some (.inr (.inl l2)), none, some (.inl x4), o5, o6], [], pm_h M σ q y) rfl ?_ ?_
  · exact trivial
  · try simp (disch := omega) only [pe_wi w0]
    exact pe_two' k1 k2
theorem b223_6 {d : Nat} {Φ : Option pe_V → pe_H → Prop} {σ : pe_H} {M q : Nat} {y : Nat → Int → Int} (hF : pm_F M σ) {o0 : Option pe_V} {o1 : Option pe_V} {o2 : Option pe_V} {o3 : Option pe_V} {x4 : Int} {o5 : Option pe_V} {o6 : Option pe_V}  (w0 : pe_in x4 := by unfold pe_in; omega)  (k : Φ (some (.inr (.inl x4))) (pm_h M σ q y)) : pe_X d 223 (6, [o0, o1, o2, o3, some (.inl x4), o5, o6], [], pm_h M σ q y) Φ := by
  refine pe_blk 4 2 ck223 [] (9, [o0, o1, o2, o3, some (.inl x4), o5, o6], [.inr (.inl (pe_w x4))], pm_h M σ q y) rfl ?_ ?_
  · exact trivial
  · try simp (disch := omega) only [pe_wi w0]
    exact pe_fine 6 ck223 rfl rfl rfl trivial k
theorem b223_10 {d : Nat} {Φ : Option pe_V → pe_H → Prop} {σ : pe_H} {M q : Nat} {y : Nat → Int → Int} (hF : pm_F M σ) {l0 : Int} {l2 : Int} {x4 : Int} {o5 : Option pe_V} {o6 : Option pe_V}    (k : pe_M d 222 [.inr (.inl l0), .inr (.inl l2)] (pm_h M σ q y) (fun r σ' => pe_X d 223 (15, [some (.inr (.inl l0)), none, some (.inr (.inl l2)), none, some (.inl x4), o5, o6], r.toList ++ [], σ') Φ)) : pe_X d 223 (10, [some (.inr (.inl l0)), none, some (.inr (.inl l2)), none, some (.inl x4), o5, o6], [], pm_h M σ q y) Φ := by
  refine pe_blk 7 2 ck223 [] (12, [some (.inr (.inl l0)), none, some (.inr (.inl l2)), none, some (.inl x4), o5, o6], [.inr (.inl l2), .inr (.inl l0)], pm_h M σ q y) rfl ?_ ?_
  · exact trivial
  · exact pe_cal 9 ck223 rfl rfl rfl trivial k
theorem b223_15 {d : Nat} {Φ : Option pe_V → pe_H → Prop} {σ : pe_H} {M q : Nat} {y : Nat → Int → Int} (hF : pm_F M σ) {l0 : Int} {l2 : Int} {x4 : Int} {o5 : Option pe_V} {o6 : Option pe_V} {z0 : Int}  (w0 : pe_in x4 := by unfold pe_in; omega)  (k1 : ¬ x4 = 0 → pe_X d 223 (29, [some (.inr (.inl l0)), none, some (.inr (.inl l2)), none, some (.inl x4), some (.inr (.inl z0)), none], [], pm_h M σ q y) Φ) (k2 : x4 = 0 → pe_X d 223 (22, [some (.inr (.inl l0)), none, some (.inr (.inl l2)), none, some (.inl x4), some (.inr (.inl z0)), none], [], pm_h M σ q y) Φ) : pe_X d 223 (15, [some (.inr (.inl l0)), none, some (.inr (.inl l2)), none, some (.inl x4), o5, o6], [.inr (.inl z0)], pm_h M σ q y) Φ := by
  refine pe_blk 10 3 ck223 [] (cond (decide (¬ (pe_w x4) = 0)) 29 22, [some (.inr (.inl l0)), none, some (.inr (.inl l2)), none, some (.inl x4), some (.inr (.inl z0)), none], [], pm_h M σ q y) rfl ?_ ?_
  · exact trivial
  · try simp (disch := omega) only [pe_wi w0]
    exact pe_two' k1 k2
theorem b223_22 {d : Nat} {Φ : Option pe_V → pe_H → Prop} {σ : pe_H} {M q : Nat} {y : Nat → Int → Int} (hF : pm_F M σ) {l0 : Int} {o2 : Option pe_V} {o3 : Option pe_V} {o4 : Option pe_V} {l5 : Int}   (h0 : ¬ pe_wl l5 = 0 := by first | assumption | omega) (k : pe_X d 223 (33, [some (.inr (.inl l0)), none, o2, o3, o4, some (.inr (.inl l5)), none], [.inr (.inl (Int.tdiv (pe_wl l0) (pe_wl l5)))], pm_h M σ q y) Φ) : pe_X d 223 (22, [some (.inr (.inl l0)), none, o2, o3, o4, some (.inr (.inl l5)), none], [], pm_h M σ q y) Φ := by
  refine pe_blk 13 4 ck223 [¬ pe_wl l5 = 0] (33, [some (.inr (.inl l0)), none, o2, o3, o4, some (.inr (.inl l5)), none], [.inr (.inl (Int.tdiv (pe_wl l0) (pe_wl l5)))], pm_h M σ q y) rfl ?_ ?_
  · first
    | (simp (disch := omega) only [pe_all, ]; done)
    | (simp (disch := omega) only [pe_all, ]; (repeat' apply And.intro) <;> first | assumption | omega | decide)
  · exact k
theorem b223_29 {d : Nat} {Φ : Option pe_V → pe_H → Prop} {σ : pe_H} {M q : Nat} {y : Nat → Int → Int} (hF : pm_F M σ) {o0 : Option pe_V} {o1 : Option pe_V} {l2 : Int} {o4 : Option pe_V} {l5 : Int}   (h0 : ¬ pe_wl l5 = 0 := by first | assumption | omega) (k : pe_X d 223 (33, [o0, o1, some (.inr (.inl l2)), none, o4, some (.inr (.inl l5)), none], [.inr (.inl (Int.tdiv (pe_wl l2) (pe_wl l5)))], pm_h M σ q y) Φ) : pe_X d 223 (29, [o0, o1, some (.inr (.inl l2)), none, o4, some (.inr (.inl l5)), none], [], pm_h M σ q y) Φ := by
  refine pe_blk 17 3 ck223 [¬ pe_wl l5 = 0] (33, [o0, o1, some (.inr (.inl l2)), none, o4, some (.inr (.inl l5)), none], [.inr (.inl (Int.tdiv (pe_wl l2) (pe_wl l5)))], pm_h M σ q y) rfl ?_ ?_
  · first
    | (simp (disch := omega) only [pe_all, ]; done)
    | (simp (disch := omega) only [pe_all, ]; (repeat' apply And.intro) <;> first | assumption | omega | decide)
  · exact k
theorem b223_33 {d : Nat} {Φ : Option pe_V → pe_H → Prop} {σ : pe_H} {M q : Nat} {y : Nat → Int → Int} (hF : pm_F M σ) {o0 : Option pe_V} {o1 : Option pe_V} {o2 : Option pe_V} {o3 : Option pe_V} {o4 : Option pe_V} {o5 : Option pe_V} {o6 : Option pe_V} {z0 : Int}    (k : Φ (some (.inr (.inl z0))) (pm_h M σ q y)) : pe_X d 223 (33, [o0, o1, o2, o3, o4, o5, o6], [.inr (.inl z0)], pm_h M σ q y) Φ := by
  exact pe_fine 20 ck223 rfl rfl rfl trivial k
-- StepMachinesModel.lost(IIII)J
def T224 : List (Nat × Instr × Nat) := [(0, .aload_n 0, 1), (1, .iconst 0, 1), (2, .putfield 141, 3), (5, .aload_n 0, 1), (6, .iload_n 1, 1), (7, .invokevirtual 187, 3), (10, .ifCond .eq 40, 3), (13, .iload_n 2, 1), (14, .i2l, 1), (15, .lconst 0, 1), (16, .ldc2_w 438, 3), (19, .invokestatic 147, 3), (22, .ifCond .eq 28, 3), (25, .iload_n 3, 1), (26, .i2l, 1), (27, .ldc2_w 387, 3), (30, .ldc2_w 422, 3), (33, .invokestatic 147, 3), (36, .ifCond .eq 14, 3), (39, .iload 4, 2), (41, .i2l, 1), (42, .lconst 0, 1), (43, .lconst 1, 1), (44, .invokestatic 147, 3), (47, .ifCond .ne 7, 3), (50, .ldc2_w 440, 3), (53, .lreturn, 1), (54, .lconst 0, 1), (55, .lstore 5, 2), (57, .lconst 1, 1), (58, .lstore 7, 2), (60, .iconst 0, 1), (61, .istore 9, 2), (63, .iload 9, 2), (65, .iload_n 2, 1), (66, .if_icmp .ge 16, 3), (69, .lload 7, 2), (71, .iload_n 3, 1), (72, .i2l, 1), (73, .lmul, 1), (74, .lstore 7, 2), (76, .iinc 9 1, 3), (79, .goto (-16), 3), (82, .aload_n 0, 1), (83, .invokevirtual 338, 3), (86, .iconst 0, 1), (87, .istore 9, 2), (89, .iload 9, 2), (91, .iconst 1, 1), (92, .iload_n 2, 1), (93, .ishl, 1), (94, .if_icmp .ge 84, 3), (97, .lconst 1, 1), (98, .lstore 10, 2), (100, .iconst 0, 1), (101, .istore 12, 2), (103, .iload 12, 2), (105, .iload_n 2, 1), (106, .if_icmp .ge 43, 3), (109, .lload 10, 2), (111, .iload 9, 2), (113, .iload 12, 2), (115, .invokestatic 252, 3), (118, .ifCond .eq 7, 3), (121, .lconst 1, 1), (122, .goto 7, 3), (125, .iload_n 3, 1), (126, .iconst 1, 1), (127, .isub, 1), (128, .i2l, 1), (129, .lmul, 1), (130, .lstore 10, 2), (132, .aload_n 0, 1), (133, .iload 9, 2), (135, .iload 12, 2), (137, .invokestatic 252, 3), (140, .invokevirtual 259, 3), (143, .iinc 12 1, 3), (146, .goto (-43), 3), (149, .lload 5, 2), (151, .aload_n 0, 1), (152, .iload_n 1, 1), (153, .invokevirtual 151, 3), (156, .ifCond .eq 8, 3), (159, .lload 10, 2), (161, .goto 4, 3), (164, .lconst 0, 1), (165, .ladd, 1), (166, .lstore 5, 2), (168, .aload_n 0, 1), (169, .invokevirtual 344, 3), (172, .iinc 9 1, 3), (175, .goto (-86), 3), (178, .lload 5, 2), (180, .lload 7, 2), (182, .iload 4, 2), (184, .invokestatic 442, 3), (187, .lreturn, 1)]
theorem ck224 : pe_ctx 224 9 false (some .long) 13 T224 := ⟨rfl, rfl, rfl, rfl, by decide +kernel, by decide, by decide⟩
theorem b224_0 {d : Nat} {Φ : Option pe_V → pe_H → Prop} {σ : pe_H} {M q : Nat} {y : Nat → Int → Int} (hF : pm_F M σ) {x1 : Int} {x2 : Int} {x3 : Int} {x4 : Int} {o5 : Option pe_V} {o6 : Option pe_V} {o7 : Option pe_V} {o8 : Option pe_V} {o9 : Option pe_V} {o10 : Option pe_V} {o11 : Option pe_V} {o12 : Option pe_V}    (k : pe_M d 138 [.inr (.inr M), .inl x1] (pm_h M σ q (pm_u y 0 37 0)) (fun r σ' => pe_X d 224 (10, [some (.inr (.inr M)), some (.inl x1), some (.inl x2), some (.inl x3), some (.inl x4), o5, o6, o7, o8, o9, o10, o11, o12], r.toList ++ [], σ') Φ)) : pe_X d 224 (0, [some (.inr (.inr M)), some (.inl x1), some (.inl x2), some (.inl x3), some (.inl x4), o5, o6, o7, o8, o9, o10, o11, o12], [], pm_h M σ q y) Φ := by
  refine pe_blk 0 5 ck224 [pe_K (pm_h M σ q y) M = 9] (7, [some (.inr (.inr M)), some (.inl x1), some (.inl x2), some (.inl x3), some (.inl x4), o5, o6, o7, o8, o9, o10, o11, o12], [.inl x1, .inr (.inr M)], pe_wI (pm_h M σ q y) M 37 0) rfl ?_ ?_
  · first
    | (simp (disch := omega) only [pe_all, pe_K_wI, pe_K_wR, pm_KM hF, pm_Kh, pm_wI0]; done)
    | (simp (disch := omega) only [pe_all, pe_K_wI, pe_K_wR, pm_KM hF, pm_Kh, pm_wI0]; (repeat' apply And.intro) <;> first | assumption | omega | decide)
  · try simp (disch := omega) only [pe_K_wI, pe_K_wR, pm_KM hF, pm_Kh, pm_wI0]
    have hrc : pe_K (pm_h M σ q (pm_u y 0 37 0)) M = 9 := by first | assumption | (simp (disch := omega) only [pe_K_wI, pe_K_wR, pm_KM hF, pm_Kh, pm_wI0]; done) | (simp (disch := omega) only [pe_K_wI, pe_K_wR, pm_KM hF, pm_Kh, pm_wI0]; assumption)
    exact pe_cal 5 ck224 rfl rfl rfl ⟨hrc, by decide⟩ k
theorem b224_10 {d : Nat} {Φ : Option pe_V → pe_H → Prop} {σ : pe_H} {M q : Nat} {y : Nat → Int → Int} (hF : pm_F M σ) {x1 : Int} {x2 : Int} {x3 : Int} {x4 : Int} {o5 : Option pe_V} {o6 : Option pe_V} {o7 : Option pe_V} {o8 : Option pe_V} {o9 : Option pe_V} {o10 : Option pe_V} {o11 : Option pe_V} {o12 : Option pe_V} {s0 : Int}  (w0 : pe_in s0 := by unfold pe_in; omega)  (k1 : s0 = 0 → pe_X d 224 (50, [some (.inr (.inr M)), some (.inl x1), some (.inl x2), some (.inl x3), some (.inl x4), o5, o6, o7, o8, o9, o10, o11, o12], [], pm_h M σ q y) Φ) (k2 : ¬ (s0 = 0) → pe_X d 224 (13, [some (.inr (.inr M)), some (.inl x1), some (.inl x2), some (.inl x3), some (.inl x4), o5, o6, o7, o8, o9, o10, o11, o12], [], pm_h M σ q y) Φ) : pe_X d 224 (10, [some (.inr (.inr M)), some (.inl x1), some (.inl x2), some (.inl x3), some (.inl x4), o5, o6, o7, o8, o9, o10, o11, o12], [.inl s0], pm_h M σ q y) Φ := by
  refine pe_blk 6 1 ck224 [] (cond (decide ((pe_w s0) = 0)) 50 13, [some (.inr (.inr M)), some (.inl x1), some (.inl x2), some (.inl x3), some (.inl x4), o5, o6, o7, o8, o9, o10, o11, o12], [], pm_h M σ q y) rfl ?_ ?_
  · exact trivial
  · try simp (disch := omega) only [pe_wi w0]
    exact pe_two k1 k2
theorem b224_13 {d : Nat} {Φ : Option pe_V → pe_H → Prop} {σ : pe_H} {M q : Nat} {y : Nat → Int → Int} (hF : pm_F M σ) {x1 : Int} {x2 : Int} {x3 : Int} {x4 : Int} {o5 : Option pe_V} {o6 : Option pe_V} {o7 : Option pe_V} {o8 : Option pe_V} {o9 : Option pe_V} {o10 : Option pe_V} {o11 : Option pe_V} {o12 : Option pe_V}  (w0 : pe_in x2 := by unfold pe_in; omega)  (k : pe_M d 134 [.inr (.inl x2), .inr (.inl 0), .inr (.inl 7)] (pm_h M σ q y) (fun r σ' => pe_X d 224 (22, [some (.inr (.inr M)), some (.inl x1), some (.inl x2), some (.inl x3), some (.inl x4), o5, o6, o7, o8, o9, o10, o11, o12], r.toList ++ [], σ') Φ)) : pe_X d 224 (13, [some (.inr (.inr M)), some (.inl x1), some (.inl x2), some (.inl x3), some (.inl x4), o5, o6, o7, o8, o9, o10, o11, o12], [], pm_h M σ q y) Φ := by
  refine pe_blk 7 4 ck224 [] (19, [some (.inr (.inr M)), some (.inl x1), some (.inl x2), some (.inl x3), some (.inl x4), o5, o6, o7, o8, o9, o10, o11, o12], [.inr (.inl 7), .inr (.inl 0), .inr (.inl (pe_w x2))], pm_h M σ q y) rfl ?_ ?_
  · exact trivial
  · try simp (disch := omega) only [pe_wi w0]
    exact pe_cal 11 ck224 rfl rfl rfl trivial k
theorem b224_22 {d : Nat} {Φ : Option pe_V → pe_H → Prop} {σ : pe_H} {M q : Nat} {y : Nat → Int → Int} (hF : pm_F M σ) {x1 : Int} {x2 : Int} {x3 : Int} {x4 : Int} {o5 : Option pe_V} {o6 : Option pe_V} {o7 : Option pe_V} {o8 : Option pe_V} {o9 : Option pe_V} {o10 : Option pe_V} {o11 : Option pe_V} {o12 : Option pe_V} {s0 : Int}  (w0 : pe_in s0 := by unfold pe_in; omega)  (k1 : s0 = 0 → pe_X d 224 (50, [some (.inr (.inr M)), some (.inl x1), some (.inl x2), some (.inl x3), some (.inl x4), o5, o6, o7, o8, o9, o10, o11, o12], [], pm_h M σ q y) Φ) (k2 : ¬ (s0 = 0) → pe_X d 224 (25, [some (.inr (.inr M)), some (.inl x1), some (.inl x2), some (.inl x3), some (.inl x4), o5, o6, o7, o8, o9, o10, o11, o12], [], pm_h M σ q y) Φ) : pe_X d 224 (22, [some (.inr (.inr M)), some (.inl x1), some (.inl x2), some (.inl x3), some (.inl x4), o5, o6, o7, o8, o9, o10, o11, o12], [.inl s0], pm_h M σ q y) Φ := by
  refine pe_blk 12 1 ck224 [] (cond (decide ((pe_w s0) = 0)) 50 25, [some (.inr (.inr M)), some (.inl x1), some (.inl x2), some (.inl x3), some (.inl x4), o5, o6, o7, o8, o9, o10, o11, o12], [], pm_h M σ q y) rfl ?_ ?_
  · exact trivial
  · try simp (disch := omega) only [pe_wi w0]
    exact pe_two k1 k2
theorem b224_25 {d : Nat} {Φ : Option pe_V → pe_H → Prop} {σ : pe_H} {M q : Nat} {y : Nat → Int → Int} (hF : pm_F M σ) {x1 : Int} {x2 : Int} {x3 : Int} {x4 : Int} {o5 : Option pe_V} {o6 : Option pe_V} {o7 : Option pe_V} {o8 : Option pe_V} {o9 : Option pe_V} {o10 : Option pe_V} {o11 : Option pe_V} {o12 : Option pe_V}  (w0 : pe_in x3 := by unfold pe_in; omega)  (k : pe_M d 134 [.inr (.inl x3), .inr (.inl 2), .inr (.inl 20)] (pm_h M σ q y) (fun r σ' => pe_X d 224 (36, [some (.inr (.inr M)), some (.inl x1), some (.inl x2), some (.inl x3), some (.inl x4), o5, o6, o7, o8, o9, o10, o11, o12], r.toList ++ [], σ') Φ)) : pe_X d 224 (25, [some (.inr (.inr M)), some (.inl x1), some (.inl x2), some (.inl x3), some (.inl x4), o5, o6, o7, o8, o9, o10, o11, o12], [], pm_h M σ q y) Φ := by
  refine pe_blk 13 4 ck224 [] (33, [some (.inr (.inr M)), some (.inl x1), some (.inl x2), some (.inl x3), some (.inl x4), o5, o6, o7, o8, o9, o10, o11, o12], [.inr (.inl 20), .inr (.inl 2), .inr (.inl (pe_w x3))], pm_h M σ q y) rfl ?_ ?_
  · exact trivial
  · try simp (disch := omega) only [pe_wi w0]
    exact pe_cal 17 ck224 rfl rfl rfl trivial k
theorem b224_36 {d : Nat} {Φ : Option pe_V → pe_H → Prop} {σ : pe_H} {M q : Nat} {y : Nat → Int → Int} (hF : pm_F M σ) {x1 : Int} {x2 : Int} {x3 : Int} {x4 : Int} {o5 : Option pe_V} {o6 : Option pe_V} {o7 : Option pe_V} {o8 : Option pe_V} {o9 : Option pe_V} {o10 : Option pe_V} {o11 : Option pe_V} {o12 : Option pe_V} {s0 : Int}  (w0 : pe_in s0 := by unfold pe_in; omega)  (k1 : s0 = 0 → pe_X d 224 (50, [some (.inr (.inr M)), some (.inl x1), some (.inl x2), some (.inl x3), some (.inl x4), o5, o6, o7, o8, o9, o10, o11, o12], [], pm_h M σ q y) Φ) (k2 : ¬ (s0 = 0) → pe_X d 224 (39, [some (.inr (.inr M)), some (.inl x1), some (.inl x2), some (.inl x3), some (.inl x4), o5, o6, o7, o8, o9, o10, o11, o12], [], pm_h M σ q y) Φ) : pe_X d 224 (36, [some (.inr (.inr M)), some (.inl x1), some (.inl x2), some (.inl x3), some (.inl x4), o5, o6, o7, o8, o9, o10, o11, o12], [.inl s0], pm_h M σ q y) Φ := by
  refine pe_blk 18 1 ck224 [] (cond (decide ((pe_w s0) = 0)) 50 39, [some (.inr (.inr M)), some (.inl x1), some (.inl x2), some (.inl x3), some (.inl x4), o5, o6, o7, o8, o9, o10, o11, o12], [], pm_h M σ q y) rfl ?_ ?_
  · exact trivial
  · try simp (disch := omega) only [pe_wi w0]
    exact pe_two k1 k2
theorem b224_39 {d : Nat} {Φ : Option pe_V → pe_H → Prop} {σ : pe_H} {M q : Nat} {y : Nat → Int → Int} (hF : pm_F M σ) {x1 : Int} {x2 : Int} {x3 : Int} {x4 : Int} {o5 : Option pe_V} {o6 : Option pe_V} {o7 : Option pe_V} {o8 : Option pe_V} {o9 : Option pe_V} {o10 : Option pe_V} {o11 : Option pe_V} {o12 : Option pe_V}  (w0 : pe_in x4 := by unfold pe_in; omega)  (k : pe_M d 134 [.inr (.inl x4), .inr (.inl 0), .inr (.inl 1)] (pm_h M σ q y) (fun r σ' => pe_X d 224 (47, [some (.inr (.inr M)), some (.inl x1), some (.inl x2), some (.inl x3), some (.inl x4), o5, o6, o7, o8, o9, o10, o11, o12], r.toList ++ [], σ') Φ)) : pe_X d 224 (39, [some (.inr (.inr M)), some (.inl x1), some (.inl x2), some (.inl x3), some (.inl x4), o5, o6, o7, o8, o9, o10, o11, o12], [], pm_h M σ q y) Φ := by
  refine pe_blk 19 4 ck224 [] (44, [some (.inr (.inr M)), some (.inl x1), some (.inl x2), some (.inl x3), some (.inl x4), o5, o6, o7, o8, o9, o10, o11, o12], [.inr (.inl 1), .inr (.inl 0), .inr (.inl (pe_w x4))], pm_h M σ q y) rfl ?_ ?_
  · exact trivial
  · try simp (disch := omega) only [pe_wi w0]
    exact pe_cal 23 ck224 rfl rfl rfl trivial k
theorem b224_47 {d : Nat} {Φ : Option pe_V → pe_H → Prop} {σ : pe_H} {M q : Nat} {y : Nat → Int → Int} (hF : pm_F M σ) {x1 : Int} {x2 : Int} {x3 : Int} {x4 : Int} {o5 : Option pe_V} {o6 : Option pe_V} {o7 : Option pe_V} {o8 : Option pe_V} {o9 : Option pe_V} {o10 : Option pe_V} {o11 : Option pe_V} {o12 : Option pe_V} {s0 : Int}  (w0 : pe_in s0 := by unfold pe_in; omega)  (k1 : ¬ s0 = 0 → pe_X d 224 (54, [some (.inr (.inr M)), some (.inl x1), some (.inl x2), some (.inl x3), some (.inl x4), o5, o6, o7, o8, o9, o10, o11, o12], [], pm_h M σ q y) Φ) (k2 : s0 = 0 → pe_X d 224 (50, [some (.inr (.inr M)), some (.inl x1), some (.inl x2), some (.inl x3), some (.inl x4), o5, o6, o7, o8, o9, o10, o11, o12], [], pm_h M σ q y) Φ) : pe_X d 224 (47, [some (.inr (.inr M)), some (.inl x1), some (.inl x2), some (.inl x3), some (.inl x4), o5, o6, o7, o8, o9, o10, o11, o12], [.inl s0], pm_h M σ q y) Φ := by
  refine pe_blk 24 1 ck224 [] (cond (decide (¬ (pe_w s0) = 0)) 54 50, [some (.inr (.inr M)), some (.inl x1), some (.inl x2), some (.inl x3), some (.inl x4), o5, o6, o7, o8, o9, o10, o11, o12], [], pm_h M σ q y) rfl ?_ ?_
  · exact trivial
  · try simp (disch := omega) only [pe_wi w0]
    exact pe_two' k1 k2
theorem b224_50 {d : Nat} {Φ : Option pe_V → pe_H → Prop} {σ : pe_H} {M q : Nat} {y : Nat → Int → Int} (hF : pm_F M σ) {o1 : Option pe_V} {o2 : Option pe_V} {o3 : Option pe_V} {o4 : Option pe_V} {o5 : Option pe_V} {o6 : Option pe_V} {o7 : Option pe_V} {o8 : Option pe_V} {o9 : Option pe_V} {o10 : Option pe_V} {o11 : Option pe_V} {o12 : Option pe_V}    (k : Φ (some (.inr (.inl 1000000001))) (pm_h M σ q y)) : pe_X d 224 (50, [some (.inr (.inr M)), o1, o2, o3, o4, o5, o6, o7, o8, o9, o10, o11, o12], [], pm_h M σ q y) Φ := by
  refine pe_blk 25 1 ck224 [] (53, [some (.inr (.inr M)), o1, o2, o3, o4, o5, o6, o7, o8, o9, o10, o11, o12], [.inr (.inl 1000000001)], pm_h M σ q y) rfl ?_ ?_
  · exact trivial
  · exact pe_fine 26 ck224 rfl rfl rfl trivial k
theorem b224_54 {d : Nat} {Φ : Option pe_V → pe_H → Prop} {σ : pe_H} {M q : Nat} {y : Nat → Int → Int} (hF : pm_F M σ) {x1 : Int} {x2 : Int} {x3 : Int} {x4 : Int} {o5 : Option pe_V} {o6 : Option pe_V} {o7 : Option pe_V} {o8 : Option pe_V} {o9 : Option pe_V} {o10 : Option pe_V} {o11 : Option pe_V} {o12 : Option pe_V}    (k : pe_X d 224 (63, [some (.inr (.inr M)), some (.inl x1), some (.inl x2), some (.inl x3), some (.inl x4), some (.inr (.inl 0)), none, some (.inr (.inl 1)), none, some (.inl 0), o10, o11, o12], [], pm_h M σ q y) Φ) : pe_X d 224 (54, [some (.inr (.inr M)), some (.inl x1), some (.inl x2), some (.inl x3), some (.inl x4), o5, o6, o7, o8, o9, o10, o11, o12], [], pm_h M σ q y) Φ := by
  refine pe_blk 27 6 ck224 [] (63, [some (.inr (.inr M)), some (.inl x1), some (.inl x2), some (.inl x3), some (.inl x4), some (.inr (.inl 0)), none, some (.inr (.inl 1)), none, some (.inl 0), o10, o11, o12], [], pm_h M σ q y) rfl ?_ ?_
  · exact trivial
  · exact k
theorem b224_63 {d : Nat} {Φ : Option pe_V → pe_H → Prop} {σ : pe_H} {M q : Nat} {y : Nat → Int → Int} (hF : pm_F M σ) {x1 : Int} {x2 : Int} {x3 : Int} {x4 : Int} {l5 : Int} {l7 : Int} {x9 : Int} {o10 : Option pe_V} {o11 : Option pe_V} {o12 : Option pe_V}  (w0 : pe_in x2 := by unfold pe_in; omega) (w1 : pe_in x9 := by unfold pe_in; omega)  (k1 : x2 ≤ x9 → pe_X d 224 (82, [some (.inr (.inr M)), some (.inl x1), some (.inl x2), some (.inl x3), some (.inl x4), some (.inr (.inl l5)), none, some (.inr (.inl l7)), none, some (.inl x9), o10, o11, o12], [], pm_h M σ q y) Φ) (k2 : ¬ (x2 ≤ x9) → pe_X d 224 (69, [some (.inr (.inr M)), some (.inl x1), some (.inl x2), some (.inl x3), some (.inl x4), some (.inr (.inl l5)), none, some (.inr (.inl l7)), none, some (.inl x9), o10, o11, o12], [], pm_h M σ q y) Φ) : pe_X d 224 (63, [some (.inr (.inr M)), some (.inl x1), some (.inl x2), some (.inl x3), some (.inl x4), some (.inr (.inl l5)), none, some (.inr (.inl l7)), none, some (.inl x9), o10, o11, o12], [], pm_h M σ q y) Φ := by
  refine pe_blk 33 3 ck224 [] (cond (decide ((pe_w x2) ≤ (pe_w x9))) 82 69, [some (.inr (.inr M)), some (.inl x1), some (.inl x2), some (.inl x3), some (.inl x4), some (.inr (.inl l5)), none, some (.inr (.inl l7)), none, some (.inl x9), o10, o11, o12], [], pm_h M σ q y) rfl ?_ ?_
  · exact trivial
  · try simp (disch := omega) only [pe_wi w0, pe_wi w1]
    exact pe_two k1 k2
theorem b224_69 {d : Nat} {Φ : Option pe_V → pe_H → Prop} {σ : pe_H} {M q : Nat} {y : Nat → Int → Int} (hF : pm_F M σ) {x1 : Int} {x2 : Int} {x3 : Int} {x4 : Int} {l5 : Int} {l7 : Int} {x9 : Int} {o10 : Option pe_V} {o11 : Option pe_V} {o12 : Option pe_V}  (w0 : pe_in x3 := by unfold pe_in; omega)  (k : pe_X d 224 (63, [some (.inr (.inr M)), some (.inl x1), some (.inl x2), some (.inl x3), some (.inl x4), some (.inr (.inl l5)), none, some (.inr (.inl (l7 * x3))), none, some (.inl (x9 + 1)), o10, o11, o12], [], pm_h M σ q y) Φ) : pe_X d 224 (69, [some (.inr (.inr M)), some (.inl x1), some (.inl x2), some (.inl x3), some (.inl x4), some (.inr (.inl l5)), none, some (.inr (.inl l7)), none, some (.inl x9), o10, o11, o12], [], pm_h M σ q y) Φ := by
  refine pe_blk 36 7 ck224 [] (63, [some (.inr (.inr M)), some (.inl x1), some (.inl x2), some (.inl x3), some (.inl x4), some (.inr (.inl l5)), none, some (.inr (.inl (l7 * (pe_w x3)))), none, some (.inl (x9 + 1)), o10, o11, o12], [], pm_h M σ q y) rfl ?_ ?_
  · exact trivial
  · try simp (disch := omega) only [pe_wi w0]
    exact k
theorem b224_82 {d : Nat} {Φ : Option pe_V → pe_H → Prop} {σ : pe_H} {M q : Nat} {y : Nat → Int → Int} (hF : pm_F M σ) {x1 : Int} {x2 : Int} {x3 : Int} {x4 : Int} {l5 : Int} {l7 : Int} {o9 : Option pe_V} {o10 : Option pe_V} {o11 : Option pe_V} {o12 : Option pe_V}    (k : pe_M d 187 [.inr (.inr M)] (pm_h M σ q y) (fun r σ' => pe_X d 224 (86, [some (.inr (.inr M)), some (.inl x1), some (.inl x2), some (.inl x3), some (.inl x4), some (.inr (.inl l5)), none, some (.inr (.inl l7)), none, o9, o10, o11, o12], r.toList ++ [], σ') Φ)) : pe_X d 224 (82, [some (.inr (.inr M)), some (.inl x1), some (.inl x2), some (.inl x3), some (.inl x4), some (.inr (.inl l5)), none, some (.inr (.inl l7)), none, o9, o10, o11, o12], [], pm_h M σ q y) Φ := by
  refine pe_blk 43 1 ck224 [] (83, [some (.inr (.inr M)), some (.inl x1), some (.inl x2), some (.inl x3), some (.inl x4), some (.inr (.inl l5)), none, some (.inr (.inl l7)), none, o9, o10, o11, o12], [.inr (.inr M)], pm_h M σ q y) rfl ?_ ?_
  · exact trivial
  · try simp (disch := omega) only [pe_K_wI, pe_K_wR, pm_KM hF, pm_Kh]
    have hrc : pe_K (pm_h M σ q y) M = 9 := by first | assumption | (simp (disch := omega) only [pe_K_wI, pe_K_wR, pm_KM hF, pm_Kh]; done) | (simp (disch := omega) only [pe_K_wI, pe_K_wR, pm_KM hF, pm_Kh]; assumption)
    exact pe_cal 44 ck224 rfl rfl rfl ⟨hrc, by decide⟩ k
theorem b224_86 {d : Nat} {Φ : Option pe_V → pe_H → Prop} {σ : pe_H} {M q : Nat} {y : Nat → Int → Int} (hF : pm_F M σ) {x1 : Int} {x2 : Int} {x3 : Int} {x4 : Int} {l5 : Int} {l7 : Int} {o9 : Option pe_V} {o10 : Option pe_V} {o11 : Option pe_V} {o12 : Option pe_V}    (k : pe_X d 224 (89, [some (.inr (.inr M)), some (.inl x1), some (.inl x2), some (.inl x3), some (.inl x4), some (.inr (.inl l5)), none, some (.inr (.inl l7)), none, some (.inl 0), o10, o11, o12], [], pm_h M σ q y) Φ) : pe_X d 224 (86, [some (.inr (.inr M)), some (.inl x1), some (.inl x2), some (.inl x3), some (.inl x4), some (.inr (.inl l5)), none, some (.inr (.inl l7)), none, o9, o10, o11, o12], [], pm_h M σ q y) Φ := by
  refine pe_blk 45 2 ck224 [] (89, [some (.inr (.inr M)), some (.inl x1), some (.inl x2), some (.inl x3), some (.inl x4), some (.inr (.inl l5)), none, some (.inr (.inl l7)), none, some (.inl 0), o10, o11, o12], [], pm_h M σ q y) rfl ?_ ?_
  · exact trivial
  · exact k
set_option maxRecDepth 8000 in
theorem b224_89 {d : Nat} {Φ : Option pe_V → pe_H → Prop} {σ : pe_H} {M q : Nat} {y : Nat → Int → Int} (hF : pm_F M σ) {x1 : Int} {x2 : Int} {x3 : Int} {x4 : Int} {l5 : Int} {l7 : Int} {x9 : Int} {o10 : Option pe_V} {o11 : Option pe_V} {o12 : Option pe_V}  (w0 : pe_in (pe_shl 1 x2) := by unfold pe_in; omega) (w1 : pe_in x9 := by unfold pe_in; omega)  (k1 : (pe_shl 1 x2) ≤ x9 → pe_X d 224 (178, [some (.inr (.inr M)), some (.inl x1), some (.inl x2), some (.inl x3), some (.inl x4), some (.inr (.inl l5)), none, some (.inr (.inl l7)), none, some (.inl x9), o10, o11, o12], [], pm_h M σ q y) Φ) (k2 : ¬ ((pe_shl 1 x2) ≤ x9) → pe_X d 224 (97, [some (.inr (.inr M)), some (.inl x1), some (.inl x2), some (.inl x3), some (.inl x4), some (.inr (.inl l5)), none, some (.inr (.inl l7)), none, some (.inl x9), o10, o11, o12], [], pm_h M σ q y) Φ) : pe_X d 224 (89, [some (.inr (.inr M)), some (.inl x1), some (.inl x2), some (.inl x3), some (.inl x4), some (.inr (.inl l5)), none, some (.inr (.inl l7)), none, some (.inl x9), o10, o11, o12], [], pm_h M σ q y) Φ := by
  refine pe_blk 47 5 ck224 [] (cond (decide ((pe_w (pe_shl 1 x2)) ≤ (pe_w x9))) 178 97, [some (.inr (.inr M)), some (.inl x1), some (.inl x2), some (.inl x3), some (.inl x4), some (.inr (.inl l5)), none, some (.inr (.inl l7)), none, some (.inl x9), o10, o11, o12], [], pm_h M σ q y) rfl ?_ ?_
  · exact trivial
  · try simp (disch := omega) only [pe_wi w0, pe_wi w1]
    exact pe_two k1 k2
set_option maxRecDepth 8000 in
theorem b224_97 {d : Nat} {Φ : Option pe_V → pe_H → Prop} {σ : pe_H} {M q : Nat} {y : Nat → Int → Int} (hF : pm_F M σ) {x1 : Int} {x2 : Int} {x3 : Int} {x4 : Int} {l5 : Int} {l7 : Int} {x9 : Int} {o10 : Option pe_V} {o11 : Option pe_V} {o12 : Option pe_V}    (k : pe_X d 224 (103, [some (.inr (.inr M)), some (.inl x1), some (.inl x2), some (.inl x3), some (.inl x4), some (.inr (.inl l5)), none, some (.inr (.inl l7)), none, some (.inl x9), some (.inr (.inl 1)), none, some (.inl 0)], [], pm_h M σ q y) Φ) : pe_X d 224 (97, [some (.inr (.inr M)), some (.inl x1), some (.inl x2), some (.inl x3), some (.inl x4), some (.inr (.inl l5)), none, some (.inr (.inl l7)), none, some (.inl x9), o10, o11, o12], [], pm_h M σ q y) Φ := by
  refine pe_blk 52 4 ck224 [] (103, [some (.inr (.inr M)), some (.inl x1), some (.inl x2), some (.inl x3), some (.inl x4), some (.inr (.inl l5)), none, some (.inr (.inl l7)), none, some (.inl x9), some (.inr (.inl 1)), none, some (.inl 0)], [], pm_h M σ q y) rfl ?_ ?_
  · exact trivial
  · exact k
set_option maxRecDepth 8000 in
theorem b224_103 {d : Nat} {Φ : Option pe_V → pe_H → Prop} {σ : pe_H} {M q : Nat} {y : Nat → Int → Int} (hF : pm_F M σ) {x1 : Int} {x2 : Int} {x3 : Int} {x4 : Int} {l5 : Int} {l7 : Int} {x9 : Int} {l10 : Int} {x12 : Int}  (w0 : pe_in x2 := by unfold pe_in; omega) (w1 : pe_in x12 := by unfold pe_in; omega)  (k1 : x2 ≤ x12 → pe_X d 224 (149, [some (.inr (.inr M)), some (.inl x1), some (.inl x2), some (.inl x3), some (.inl x4), some (.inr (.inl l5)), none, some (.inr (.inl l7)), none, some (.inl x9), some (.inr (.inl l10)), none, some (.inl x12)], [], pm_h M σ q y) Φ) (k2 : ¬ (x2 ≤ x12) → pe_X d 224 (109, [some (.inr (.inr M)), some (.inl x1), some (.inl x2), some (.inl x3), some (.inl x4), some (.inr (.inl l5)), none, some (.inr (.inl l7)), none, some (.inl x9), some (.inr (.inl l10)), none, some (.inl x12)], [], pm_h M σ q y) Φ) : pe_X d 224 (103, [some (.inr (.inr M)), some (.inl x1), some (.inl x2), some (.inl x3), some (.inl x4), some (.inr (.inl l5)), none, some (.inr (.inl l7)), none, some (.inl x9), some (.inr (.inl l10)), none, some (.inl x12)], [], pm_h M σ q y) Φ := by
  refine pe_blk 56 3 ck224 [] (cond (decide ((pe_w x2) ≤ (pe_w x12))) 149 109, [some (.inr (.inr M)), some (.inl x1), some (.inl x2), some (.inl x3), some (.inl x4), some (.inr (.inl l5)), none, some (.inr (.inl l7)), none, some (.inl x9), some (.inr (.inl l10)), none, some (.inl x12)], [], pm_h M σ q y) rfl ?_ ?_
  · exact trivial
  · try simp (disch := omega) only [pe_wi w0, pe_wi w1]
    exact pe_two k1 k2
set_option maxRecDepth 8000 in
theorem b224_109 {d : Nat} {Φ : Option pe_V → pe_H → Prop} {σ : pe_H} {M q : Nat} {y : Nat → Int → Int} (hF : pm_F M σ) {x1 : Int} {x2 : Int} {x3 : Int} {x4 : Int} {l5 : Int} {l7 : Int} {x9 : Int} {l10 : Int} {x12 : Int}    (k : pe_M d 135 [.inl x9, .inl x12] (pm_h M σ q y) (fun r σ' => pe_X d 224 (118, [some (.inr (.inr M)), some (.inl x1), some (.inl x2), some (.inl x3), some (.inl x4), some (.inr (.inl l5)), none, some (.inr (.inl l7)), none, some (.inl x9), some (.inr (.inl l10)), none, some (.inl x12)], r.toList ++ [.inr (.inl l10)], σ') Φ)) : pe_X d 224 (109, [some (.inr (.inr M)), some (.inl x1), some (.inl x2), some (.inl x3), some (.inl x4), some (.inr (.inl l5)), none, some (.inr (.inl l7)), none, some (.inl x9), some (.inr (.inl l10)), none, some (.inl x12)], [], pm_h M σ q y) Φ := by
  refine pe_blk 59 3 ck224 [] (115, [some (.inr (.inr M)), some (.inl x1), some (.inl x2), some (.inl x3), some (.inl x4), some (.inr (.inl l5)), none, some (.inr (.inl l7)), none, some (.inl x9), some (.inr (.inl l10)), none, some (.inl x12)], [.inl x12, .inl x9, .inr (.inl l10)], pm_h M σ q y) rfl ?_ ?_
  · exact trivial
  · exact pe_cal 62 ck224 rfl rfl rfl trivial k
set_option maxRecDepth 8000 in
theorem b224_118 {d : Nat} {Φ : Option pe_V → pe_H → Prop} {σ : pe_H} {M q : Nat} {y : Nat → Int → Int} (hF : pm_F M σ) {x1 : Int} {x2 : Int} {x3 : Int} {x4 : Int} {l5 : Int} {l7 : Int} {x9 : Int} {o10 : Option pe_V} {o11 : Option pe_V} {x12 : Int} {z0 : Int} {s1 : Int}  (w0 : pe_in s1 := by unfold pe_in; omega)  (k1 : s1 = 0 → pe_X d 224 (125, [some (.inr (.inr M)), some (.inl x1), some (.inl x2), some (.inl x3), some (.inl x4), some (.inr (.inl l5)), none, some (.inr (.inl l7)), none, some (.inl x9), o10, o11, some (.inl x12)], [.inr (.inl z0)], pm_h M σ q y) Φ) (k2 : ¬ (s1 = 0) → pe_X d 224 (121, [some (.inr (.inr M)), some (.inl x1), some (.inl x2), some (.inl x3), some (.inl x4), some (.inr (.inl l5)), none, some (.inr (.inl l7)), none, some (.inl x9), o10, o11, some (.inl x12)], [.inr (.inl z0)], pm_h M σ q y) Φ) : pe_X d 224 (118, [some (.inr (.inr M)), some (.inl x1), some (.inl x2), some (.inl x3), some (.inl x4), some (.inr (.inl l5)), none, some (.inr (.inl l7)), none, some (.inl x9), o10, o11, some (.inl x12)], [.inl s1, .inr (.inl z0)], pm_h M σ q y) Φ := by
  refine pe_blk 63 1 ck224 [] (cond (decide ((pe_w s1) = 0)) 125 121, [some (.inr (.inr M)), some (.inl x1), some (.inl x2), some (.inl x3), some (.inl x4), some (.inr (.inl l5)), none, some (.inr (.inl l7)), none, some (.inl x9), o10, o11, some (.inl x12)], [.inr (.inl z0)], pm_h M σ q y) rfl ?_ ?_
  · exact trivial
  · try simp (disch := omega) only [pe_wi w0]
    exact pe_two k1 k2
set_option maxRecDepth 8000 in
theorem b224_121 {d : Nat} {Φ : Option pe_V → pe_H → Prop} {σ : pe_H} {M q : Nat} {y : Nat → Int → Int} (hF : pm_F M σ) {x1 : Int} {x2 : Int} {x3 : Int} {x4 : Int} {l5 : Int} {l7 : Int} {x9 : Int} {o10 : Option pe_V} {o11 : Option pe_V} {x12 : Int} {z0 : Int}    (k : pe_X d 224 (129, [some (.inr (.inr M)), some (.inl x1), some (.inl x2), some (.inl x3), some (.inl x4), some (.inr (.inl l5)), none, some (.inr (.inl l7)), none, some (.inl x9), o10, o11, some (.inl x12)], [.inr (.inl 1), .inr (.inl z0)], pm_h M σ q y) Φ) : pe_X d 224 (121, [some (.inr (.inr M)), some (.inl x1), some (.inl x2), some (.inl x3), some (.inl x4), some (.inr (.inl l5)), none, some (.inr (.inl l7)), none, some (.inl x9), o10, o11, some (.inl x12)], [.inr (.inl z0)], pm_h M σ q y) Φ := by
  refine pe_blk 64 2 ck224 [] (129, [some (.inr (.inr M)), some (.inl x1), some (.inl x2), some (.inl x3), some (.inl x4), some (.inr (.inl l5)), none, some (.inr (.inl l7)), none, some (.inl x9), o10, o11, some (.inl x12)], [.inr (.inl 1), .inr (.inl z0)], pm_h M σ q y) rfl ?_ ?_
  · exact trivial
  · exact k
set_option maxRecDepth 8000 in
theorem b224_125 {d : Nat} {Φ : Option pe_V → pe_H → Prop} {σ : pe_H} {M q : Nat} {y : Nat → Int → Int} (hF : pm_F M σ) {x1 : Int} {x2 : Int} {x3 : Int} {x4 : Int} {l5 : Int} {l7 : Int} {x9 : Int} {o10 : Option pe_V} {o11 : Option pe_V} {x12 : Int} {z0 : Int}  (w0 : pe_in (x3 - 1) := by unfold pe_in; omega)  (k : pe_X d 224 (129, [some (.inr (.inr M)), some (.inl x1), some (.inl x2), some (.inl x3), some (.inl x4), some (.inr (.inl l5)), none, some (.inr (.inl l7)), none, some (.inl x9), o10, o11, some (.inl x12)], [.inr (.inl (x3 - 1)), .inr (.inl z0)], pm_h M σ q y) Φ) : pe_X d 224 (125, [some (.inr (.inr M)), some (.inl x1), some (.inl x2), some (.inl x3), some (.inl x4), some (.inr (.inl l5)), none, some (.inr (.inl l7)), none, some (.inl x9), o10, o11, some (.inl x12)], [.inr (.inl z0)], pm_h M σ q y) Φ := by
  refine pe_blk 66 4 ck224 [] (129, [some (.inr (.inr M)), some (.inl x1), some (.inl x2), some (.inl x3), some (.inl x4), some (.inr (.inl l5)), none, some (.inr (.inl l7)), none, some (.inl x9), o10, o11, some (.inl x12)], [.inr (.inl (pe_w (x3 - 1))), .inr (.inl z0)], pm_h M σ q y) rfl ?_ ?_
  · exact trivial
  · try simp (disch := omega) only [pe_wi w0]
    exact k
set_option maxRecDepth 8000 in
theorem b224_129 {d : Nat} {Φ : Option pe_V → pe_H → Prop} {σ : pe_H} {M q : Nat} {y : Nat → Int → Int} (hF : pm_F M σ) {x1 : Int} {x2 : Int} {x3 : Int} {x4 : Int} {l5 : Int} {l7 : Int} {x9 : Int} {o10 : Option pe_V} {o11 : Option pe_V} {x12 : Int} {z0 : Int} {z1 : Int}    (k : pe_M d 135 [.inl x9, .inl x12] (pm_h M σ q y) (fun r σ' => pe_X d 224 (140, [some (.inr (.inr M)), some (.inl x1), some (.inl x2), some (.inl x3), some (.inl x4), some (.inr (.inl l5)), none, some (.inr (.inl l7)), none, some (.inl x9), some (.inr (.inl (z0 * z1))), none, some (.inl x12)], r.toList ++ [.inr (.inr M)], σ') Φ)) : pe_X d 224 (129, [some (.inr (.inr M)), some (.inl x1), some (.inl x2), some (.inl x3), some (.inl x4), some (.inr (.inl l5)), none, some (.inr (.inl l7)), none, some (.inl x9), o10, o11, some (.inl x12)], [.inr (.inl z1), .inr (.inl z0)], pm_h M σ q y) Φ := by
  refine pe_blk 70 5 ck224 [] (137, [some (.inr (.inr M)), some (.inl x1), some (.inl x2), some (.inl x3), some (.inl x4), some (.inr (.inl l5)), none, some (.inr (.inl l7)), none, some (.inl x9), some (.inr (.inl (z0 * z1))), none, some (.inl x12)], [.inl x12, .inl x9, .inr (.inr M)], pm_h M σ q y) rfl ?_ ?_
  · exact trivial
  · exact pe_cal 75 ck224 rfl rfl rfl trivial k
set_option maxRecDepth 8000 in
theorem b224_140 {d : Nat} {Φ : Option pe_V → pe_H → Prop} {σ : pe_H} {M q : Nat} {y : Nat → Int → Int} (hF : pm_F M σ) {x1 : Int} {x2 : Int} {x3 : Int} {x4 : Int} {l5 : Int} {l7 : Int} {x9 : Int} {l10 : Int} {x12 : Int} {s1 : Int}    (k : pe_M d 169 [.inr (.inr M), .inl s1] (pm_h M σ q y) (fun r σ' => pe_X d 224 (143, [some (.inr (.inr M)), some (.inl x1), some (.inl x2), some (.inl x3), some (.inl x4), some (.inr (.inl l5)), none, some (.inr (.inl l7)), none, some (.inl x9), some (.inr (.inl l10)), none, some (.inl x12)], r.toList ++ [], σ') Φ)) : pe_X d 224 (140, [some (.inr (.inr M)), some (.inl x1), some (.inl x2), some (.inl x3), some (.inl x4), some (.inr (.inl l5)), none, some (.inr (.inl l7)), none, some (.inl x9), some (.inr (.inl l10)), none, some (.inl x12)], [.inl s1, .inr (.inr M)], pm_h M σ q y) Φ := by
  have hrc : pe_K (pm_h M σ q y) M = 9 := by first | assumption | (simp (disch := omega) only [pe_K_wI, pe_K_wR, pm_KM hF, pm_Kh]; done) | (simp (disch := omega) only [pe_K_wI, pe_K_wR, pm_KM hF, pm_Kh]; assumption)
  exact pe_cal 76 ck224 rfl rfl rfl ⟨hrc, by decide⟩ k
set_option maxRecDepth 8000 in
theorem b224_143 {d : Nat} {Φ : Option pe_V → pe_H → Prop} {σ : pe_H} {M q : Nat} {y : Nat → Int → Int} (hF : pm_F M σ) {x1 : Int} {x2 : Int} {x3 : Int} {x4 : Int} {l5 : Int} {l7 : Int} {x9 : Int} {l10 : Int} {x12 : Int}    (k : pe_X d 224 (103, [some (.inr (.inr M)), some (.inl x1), some (.inl x2), some (.inl x3), some (.inl x4), some (.inr (.inl l5)), none, some (.inr (.inl l7)), none, some (.inl x9), some (.inr (.inl l10)), none, some (.inl (x12 + 1))], [], pm_h M σ q y) Φ) : pe_X d 224 (143, [some (.inr (.inr M)), some (.inl x1), some (.inl x2), some (.inl x3), some (.inl x4), some (.inr (.inl l5)), none, some (.inr (.inl l7)), none, some (.inl x9), some (.inr (.inl l10)), none, some (.inl x12)], [], pm_h M σ q y) Φ := by
  refine pe_blk 77 2 ck224 [] (103, [some (.inr (.inr M)), some (.inl x1), some (.inl x2), some (.inl x3), some (.inl x4), some (.inr (.inl l5)), none, some (.inr (.inl l7)), none, some (.inl x9), some (.inr (.inl l10)), none, some (.inl (x12 + 1))], [], pm_h M σ q y) rfl ?_ ?_
  · exact trivial
  · exact k
set_option maxRecDepth 8000 in
theorem b224_149 {d : Nat} {Φ : Option pe_V → pe_H → Prop} {σ : pe_H} {M q : Nat} {y : Nat → Int → Int} (hF : pm_F M σ) {x1 : Int} {x2 : Int} {x3 : Int} {x4 : Int} {l5 : Int} {l7 : Int} {x9 : Int} {l10 : Int} {o12 : Option pe_V}    (k : pe_M d 139 [.inr (.inr M), .inl x1] (pm_h M σ q y) (fun r σ' => pe_X d 224 (156, [some (.inr (.inr M)), some (.inl x1), some (.inl x2), some (.inl x3), some (.inl x4), some (.inr (.inl l5)), none, some (.inr (.inl l7)), none, some (.inl x9), some (.inr (.inl l10)), none, o12], r.toList ++ [.inr (.inl l5)], σ') Φ)) : pe_X d 224 (149, [some (.inr (.inr M)), some (.inl x1), some (.inl x2), some (.inl x3), some (.inl x4), some (.inr (.inl l5)), none, some (.inr (.inl l7)), none, some (.inl x9), some (.inr (.inl l10)), none, o12], [], pm_h M σ q y) Φ := by
  refine pe_blk 79 3 ck224 [] (153, [some (.inr (.inr M)), some (.inl x1), some (.inl x2), some (.inl x3), some (.inl x4), some (.inr (.inl l5)), none, some (.inr (.inl l7)), none, some (.inl x9), some (.inr (.inl l10)), none, o12], [.inl x1, .inr (.inr M), .inr (.inl l5)], pm_h M σ q y) rfl ?_ ?_
  · exact trivial
  · try simp (disch := omega) only [pe_K_wI, pe_K_wR, pm_KM hF, pm_Kh]
    have hrc : pe_K (pm_h M σ q y) M = 9 := by first | assumption | (simp (disch := omega) only [pe_K_wI, pe_K_wR, pm_KM hF, pm_Kh]; done) | (simp (disch := omega) only [pe_K_wI, pe_K_wR, pm_KM hF, pm_Kh]; assumption)
    exact pe_cal 82 ck224 rfl rfl rfl ⟨hrc, by decide⟩ k
set_option maxRecDepth 8000 in
theorem b224_156 {d : Nat} {Φ : Option pe_V → pe_H → Prop} {σ : pe_H} {M q : Nat} {y : Nat → Int → Int} (hF : pm_F M σ) {x1 : Int} {x2 : Int} {x3 : Int} {x4 : Int} {o5 : Option pe_V} {o6 : Option pe_V} {l7 : Int} {x9 : Int} {l10 : Int} {o12 : Option pe_V} {z0 : Int} {s1 : Int}  (w0 : pe_in s1 := by unfold pe_in; omega)  (k1 : s1 = 0 → pe_X d 224 (164, [some (.inr (.inr M)), some (.inl x1), some (.inl x2), some (.inl x3), some (.inl x4), o5, o6, some (.inr (.inl l7)), none, some (.inl x9), some (.inr (.inl l10)), none, o12], [.inr (.inl z0)], pm_h M σ q y) Φ) (k2 : ¬ (s1 = 0) → pe_X d 224 (159, [some (.inr (.inr M)), some (.inl x1), some (.inl x2), some (.inl x3), some (.inl x4), o5, o6, some (.inr (.inl l7)), none, some (.inl x9), some (.inr (.inl l10)), none, o12], [.inr (.inl z0)], pm_h M σ q y) Φ) : pe_X d 224 (156, [some (.inr (.inr M)), some (.inl x1), some (.inl x2), some (.inl x3), some (.inl x4), o5, o6, some (.inr (.inl l7)), none, some (.inl x9), some (.inr (.inl l10)), none, o12], [.inl s1, .inr (.inl z0)], pm_h M σ q y) Φ := by
  refine pe_blk 83 1 ck224 [] (cond (decide ((pe_w s1) = 0)) 164 159, [some (.inr (.inr M)), some (.inl x1), some (.inl x2), some (.inl x3), some (.inl x4), o5, o6, some (.inr (.inl l7)), none, some (.inl x9), some (.inr (.inl l10)), none, o12], [.inr (.inl z0)], pm_h M σ q y) rfl ?_ ?_
  · exact trivial
  · try simp (disch := omega) only [pe_wi w0]
    exact pe_two k1 k2
set_option maxRecDepth 8000 in
theorem b224_159 {d : Nat} {Φ : Option pe_V → pe_H → Prop} {σ : pe_H} {M q : Nat} {y : Nat → Int → Int} (hF : pm_F M σ) {x1 : Int} {x2 : Int} {x3 : Int} {x4 : Int} {o5 : Option pe_V} {o6 : Option pe_V} {l7 : Int} {x9 : Int} {l10 : Int} {o12 : Option pe_V} {z0 : Int}    (k : pe_X d 224 (165, [some (.inr (.inr M)), some (.inl x1), some (.inl x2), some (.inl x3), some (.inl x4), o5, o6, some (.inr (.inl l7)), none, some (.inl x9), some (.inr (.inl l10)), none, o12], [.inr (.inl l10), .inr (.inl z0)], pm_h M σ q y) Φ) : pe_X d 224 (159, [some (.inr (.inr M)), some (.inl x1), some (.inl x2), some (.inl x3), some (.inl x4), o5, o6, some (.inr (.inl l7)), none, some (.inl x9), some (.inr (.inl l10)), none, o12], [.inr (.inl z0)], pm_h M σ q y) Φ := by
  refine pe_blk 84 2 ck224 [] (165, [some (.inr (.inr M)), some (.inl x1), some (.inl x2), some (.inl x3), some (.inl x4), o5, o6, some (.inr (.inl l7)), none, some (.inl x9), some (.inr (.inl l10)), none, o12], [.inr (.inl l10), .inr (.inl z0)], pm_h M σ q y) rfl ?_ ?_
  · exact trivial
  · exact k
set_option maxRecDepth 8000 in
theorem b224_164 {d : Nat} {Φ : Option pe_V → pe_H → Prop} {σ : pe_H} {M q : Nat} {y : Nat → Int → Int} (hF : pm_F M σ) {x1 : Int} {x2 : Int} {x3 : Int} {x4 : Int} {o5 : Option pe_V} {o6 : Option pe_V} {l7 : Int} {x9 : Int} {o10 : Option pe_V} {o11 : Option pe_V} {o12 : Option pe_V} {z0 : Int}    (k : pe_X d 224 (165, [some (.inr (.inr M)), some (.inl x1), some (.inl x2), some (.inl x3), some (.inl x4), o5, o6, some (.inr (.inl l7)), none, some (.inl x9), o10, o11, o12], [.inr (.inl 0), .inr (.inl z0)], pm_h M σ q y) Φ) : pe_X d 224 (164, [some (.inr (.inr M)), some (.inl x1), some (.inl x2), some (.inl x3), some (.inl x4), o5, o6, some (.inr (.inl l7)), none, some (.inl x9), o10, o11, o12], [.inr (.inl z0)], pm_h M σ q y) Φ := by
  refine pe_blk 86 1 ck224 [] (165, [some (.inr (.inr M)), some (.inl x1), some (.inl x2), some (.inl x3), some (.inl x4), o5, o6, some (.inr (.inl l7)), none, some (.inl x9), o10, o11, o12], [.inr (.inl 0), .inr (.inl z0)], pm_h M σ q y) rfl ?_ ?_
  · exact trivial
  · exact k
set_option maxRecDepth 8000 in
theorem b224_165 {d : Nat} {Φ : Option pe_V → pe_H → Prop} {σ : pe_H} {M q : Nat} {y : Nat → Int → Int} (hF : pm_F M σ) {x1 : Int} {x2 : Int} {x3 : Int} {x4 : Int} {o5 : Option pe_V} {o6 : Option pe_V} {l7 : Int} {x9 : Int} {o10 : Option pe_V} {o11 : Option pe_V} {o12 : Option pe_V} {z0 : Int} {z1 : Int}    (k : pe_M d 188 [.inr (.inr M)] (pm_h M σ q y) (fun r σ' => pe_X d 224 (172, [some (.inr (.inr M)), some (.inl x1), some (.inl x2), some (.inl x3), some (.inl x4), some (.inr (.inl (z0 + z1))), none, some (.inr (.inl l7)), none, some (.inl x9), o10, o11, o12], r.toList ++ [], σ') Φ)) : pe_X d 224 (165, [some (.inr (.inr M)), some (.inl x1), some (.inl x2), some (.inl x3), some (.inl x4), o5, o6, some (.inr (.inl l7)), none, some (.inl x9), o10, o11, o12], [.inr (.inl z1), .inr (.inl z0)], pm_h M σ q y) Φ := by
  refine pe_blk 87 3 ck224 [] (169, [some (.inr (.inr M)), some (.inl x1), some (.inl x2), some (.inl x3), some (.inl x4), some (.inr (.inl (z0 + z1))), none, some (.inr (.inl l7)), none, some (.inl x9), o10, o11, o12], [.inr (.inr M)], pm_h M σ q y) rfl ?_ ?_
  · exact trivial
  · try simp (disch := omega) only [pe_K_wI, pe_K_wR, pm_KM hF, pm_Kh]
    have hrc : pe_K (pm_h M σ q y) M = 9 := by first | assumption | (simp (disch := omega) only [pe_K_wI, pe_K_wR, pm_KM hF, pm_Kh]; done) | (simp (disch := omega) only [pe_K_wI, pe_K_wR, pm_KM hF, pm_Kh]; assumption)
    exact pe_cal 90 ck224 rfl rfl rfl ⟨hrc, by decide⟩ k
set_option maxRecDepth 8000 in
theorem b224_172 {d : Nat} {Φ : Option pe_V → pe_H → Prop} {σ : pe_H} {M q : Nat} {y : Nat → Int → Int} (hF : pm_F M σ) {x1 : Int} {x2 : Int} {x3 : Int} {x4 : Int} {l5 : Int} {l7 : Int} {x9 : Int} {o10 : Option pe_V} {o11 : Option pe_V} {o12 : Option pe_V}    (k : pe_X d 224 (89, [some (.inr (.inr M)), some (.inl x1), some (.inl x2), some (.inl x3), some (.inl x4), some (.inr (.inl l5)), none, some (.inr (.inl l7)), none, some (.inl (x9 + 1)), o10, o11, o12], [], pm_h M σ q y) Φ) : pe_X d 224 (172, [some (.inr (.inr M)), some (.inl x1), some (.inl x2), some (.inl x3), some (.inl x4), some (.inr (.inl l5)), none, some (.inr (.inl l7)), none, some (.inl x9), o10, o11, o12], [], pm_h M σ q y) Φ := by
  refine pe_blk 91 2 ck224 [] (89, [some (.inr (.inr M)), some (.inl x1), some (.inl x2), some (.inl x3), some (.inl x4), some (.inr (.inl l5)), none, some (.inr (.inl l7)), none, some (.inl (x9 + 1)), o10, o11, o12], [], pm_h M σ q y) rfl ?_ ?_
  · exact trivial
  · exact k
set_option maxRecDepth 8000 in
theorem b224_178 {d : Nat} {Φ : Option pe_V → pe_H → Prop} {σ : pe_H} {M q : Nat} {y : Nat → Int → Int} (hF : pm_F M σ) {o1 : Option pe_V} {o2 : Option pe_V} {o3 : Option pe_V} {x4 : Int} {l5 : Int} {l7 : Int} {o9 : Option pe_V} {o10 : Option pe_V} {o11 : Option pe_V} {o12 : Option pe_V}    (k : pe_M d 223 [.inr (.inl l5), .inr (.inl l7), .inl x4] (pm_h M σ q y) (fun r σ' => pe_X d 224 (187, [some (.inr (.inr M)), o1, o2, o3, some (.inl x4), some (.inr (.inl l5)), none, some (.inr (.inl l7)), none, o9, o10, o11, o12], r.toList ++ [], σ') Φ)) : pe_X d 224 (178, [some (.inr (.inr M)), o1, o2, o3, some (.inl x4), some (.inr (.inl l5)), none, some (.inr (.inl l7)), none, o9, o10, o11, o12], [], pm_h M σ q y) Φ := by
  refine pe_blk 93 3 ck224 [] (184, [some (.inr (.inr M)), o1, o2, o3, some (.inl x4), some (.inr (.inl l5)), none, some (.inr (.inl l7)), none, o9, o10, o11, o12], [.inl x4, .inr (.inl l7), .inr (.inl l5)], pm_h M σ q y) rfl ?_ ?_
  · exact trivial
  · exact pe_cal 96 ck224 rfl rfl rfl trivial k
set_option maxRecDepth 8000 in
theorem b224_187 {d : Nat} {Φ : Option pe_V → pe_H → Prop} {σ : pe_H} {M q : Nat} {y : Nat → Int → Int} (hF : pm_F M σ) {o1 : Option pe_V} {o2 : Option pe_V} {o3 : Option pe_V} {o4 : Option pe_V} {o5 : Option pe_V} {o6 : Option pe_V} {o7 : Option pe_V} {o8 : Option pe_V} {o9 : Option pe_V} {o10 : Option pe_V} {o11 : Option pe_V} {o12 : Option pe_V} {z0 : Int}    (k : Φ (some (.inr (.inl z0))) (pm_h M σ q y)) : pe_X d 224 (187, [some (.inr (.inr M)), o1, o2, o3, o4, o5, o6, o7, o8, o9, o10, o11, o12], [.inr (.inl z0)], pm_h M σ q y) Φ := by
  exact pe_fine 97 ck224 rfl rfl rfl trivial k
-- StepMachinesModel.share(I)J
def T225 : List (Nat × Instr × Nat) := [(0, .aload_n 0, 1), (1, .iconst 0, 1), (2, .putfield 141, 3), (5, .iload_n 1, 1), (6, .i2l, 1), (7, .lconst 0, 1), (8, .lconst 1, 1), (9, .invokestatic 147, 3), (12, .ifCond .eq 23, 3), (15, .aload_n 0, 1), (16, .invokevirtual 391, 3), (19, .invokestatic 394, 3), (22, .i2l, 1), (23, .aload_n 0, 1), (24, .getfield 144, 3), (27, .i2l, 1), (28, .iload_n 1, 1), (29, .invokestatic 442, 3), (32, .goto 6, 3), (35, .ldc2_w 440, 3), (38, .lreturn, 1)]
theorem ck225 : pe_ctx 225 9 false (some .long) 2 T225 := ⟨rfl, rfl, rfl, rfl, by decide +kernel, by decide, by decide⟩
theorem b225_0 {d : Nat} {Φ : Option pe_V → pe_H → Prop} {σ : pe_H} {M q : Nat} {y : Nat → Int → Int} (hF : pm_F M σ) {x1 : Int}  (w0 : pe_in x1 := by unfold pe_in; omega)  (k : pe_M d 134 [.inr (.inl x1), .inr (.inl 0), .inr (.inl 1)] (pm_h M σ q (pm_u y 0 37 0)) (fun r σ' => pe_X d 225 (12, [some (.inr (.inr M)), some (.inl x1)], r.toList ++ [], σ') Φ)) : pe_X d 225 (0, [some (.inr (.inr M)), some (.inl x1)], [], pm_h M σ q y) Φ := by
  refine pe_blk 0 7 ck225 [pe_K (pm_h M σ q y) M = 9] (9, [some (.inr (.inr M)), some (.inl x1)], [.inr (.inl 1), .inr (.inl 0), .inr (.inl (pe_w x1))], pe_wI (pm_h M σ q y) M 37 0) rfl ?_ ?_
  · first
    | (simp (disch := omega) only [pe_all, pe_wi w0, pe_K_wI, pe_K_wR, pm_KM hF, pm_Kh, pm_wI0]; done)
    | (simp (disch := omega) only [pe_all, pe_wi w0, pe_K_wI, pe_K_wR, pm_KM hF, pm_Kh, pm_wI0]; (repeat' apply And.intro) <;> first | assumption | omega | decide)
  · try simp (disch := omega) only [pe_wi w0, pe_K_wI, pe_K_wR, pm_KM hF, pm_Kh, pm_wI0]
    exact pe_cal 7 ck225 rfl rfl rfl trivial k
theorem b225_12 {d : Nat} {Φ : Option pe_V → pe_H → Prop} {σ : pe_H} {M q : Nat} {y : Nat → Int → Int} (hF : pm_F M σ) {x1 : Int} {s0 : Int}  (w0 : pe_in s0 := by unfold pe_in; omega)  (k1 : s0 = 0 → pe_X d 225 (35, [some (.inr (.inr M)), some (.inl x1)], [], pm_h M σ q y) Φ) (k2 : ¬ (s0 = 0) → pe_X d 225 (15, [some (.inr (.inr M)), some (.inl x1)], [], pm_h M σ q y) Φ) : pe_X d 225 (12, [some (.inr (.inr M)), some (.inl x1)], [.inl s0], pm_h M σ q y) Φ := by
  refine pe_blk 8 1 ck225 [] (cond (decide ((pe_w s0) = 0)) 35 15, [some (.inr (.inr M)), some (.inl x1)], [], pm_h M σ q y) rfl ?_ ?_
  · exact trivial
  · try simp (disch := omega) only [pe_wi w0]
    exact pe_two k1 k2
theorem b225_15 {d : Nat} {Φ : Option pe_V → pe_H → Prop} {σ : pe_H} {M q : Nat} {y : Nat → Int → Int} (hF : pm_F M σ) {x1 : Int}    (k : pe_M d 141 [.inr (.inr M)] (pm_h M σ q y) (fun r σ' => pe_X d 225 (19, [some (.inr (.inr M)), some (.inl x1)], r.toList ++ [], σ') Φ)) : pe_X d 225 (15, [some (.inr (.inr M)), some (.inl x1)], [], pm_h M σ q y) Φ := by
  refine pe_blk 9 1 ck225 [] (16, [some (.inr (.inr M)), some (.inl x1)], [.inr (.inr M)], pm_h M σ q y) rfl ?_ ?_
  · exact trivial
  · try simp (disch := omega) only [pe_K_wI, pe_K_wR, pm_KM hF, pm_Kh]
    have hrc : pe_K (pm_h M σ q y) M = 9 := by first | assumption | (simp (disch := omega) only [pe_K_wI, pe_K_wR, pm_KM hF, pm_Kh]; done) | (simp (disch := omega) only [pe_K_wI, pe_K_wR, pm_KM hF, pm_Kh]; assumption)
    exact pe_cal 10 ck225 rfl rfl rfl ⟨hrc, by decide⟩ k
theorem b225_19 {d : Nat} {Φ : Option pe_V → pe_H → Prop} {σ : pe_H} {M q : Nat} {y : Nat → Int → Int} (hF : pm_F M σ) {x1 : Int} {s0 : Int}    (k : pe_M d 136 [.inl s0] (pm_h M σ q y) (fun r σ' => pe_X d 225 (22, [some (.inr (.inr M)), some (.inl x1)], r.toList ++ [], σ') Φ)) : pe_X d 225 (19, [some (.inr (.inr M)), some (.inl x1)], [.inl s0], pm_h M σ q y) Φ := by
  exact pe_cal 11 ck225 rfl rfl rfl trivial k
theorem b225_22 {d : Nat} {Φ : Option pe_V → pe_H → Prop} {σ : pe_H} {M q : Nat} {y : Nat → Int → Int} (hF : pm_F M σ) {x1 : Int} {s0 : Int}  (w0 : pe_in s0 := by unfold pe_in; omega) (w1 : pe_in (y 0 3) := by unfold pe_in; omega)  (k : pe_M d 223 [.inr (.inl s0), .inr (.inl (y 0 3)), .inl x1] (pm_h M σ q y) (fun r σ' => pe_X d 225 (32, [some (.inr (.inr M)), some (.inl x1)], r.toList ++ [], σ') Φ)) : pe_X d 225 (22, [some (.inr (.inr M)), some (.inl x1)], [.inl s0], pm_h M σ q y) Φ := by
  refine pe_blk 12 5 ck225 [pe_K (pm_h M σ q y) M = 9] (29, [some (.inr (.inr M)), some (.inl x1)], [.inl x1, .inr (.inl (pe_w (pe_I (pm_h M σ q y) M 3))), .inr (.inl (pe_w s0))], pm_h M σ q y) rfl ?_ ?_
  · first
    | (simp (disch := omega) only [pe_all, pe_wi w0, pe_wi w1, pe_I_wR, pe_K_wI, pe_K_wR, pm_I0, pm_KM hF, pm_Kh, pm_uj, pm_uk, pm_us]; done)
    | (simp (disch := omega) only [pe_all, pe_wi w0, pe_wi w1, pe_I_wR, pe_K_wI, pe_K_wR, pm_I0, pm_KM hF, pm_Kh, pm_uj, pm_uk, pm_us]; (repeat' apply And.intro) <;> first | assumption | omega | decide)
  · try simp (disch := omega) only [pe_wi w0, pe_wi w1, pe_I_wR, pe_K_wI, pe_K_wR, pm_I0, pm_KM hF, pm_Kh, pm_uj, pm_uk, pm_us]
    exact pe_cal 17 ck225 rfl rfl rfl trivial k
theorem b225_32 {d : Nat} {Φ : Option pe_V → pe_H → Prop} {σ : pe_H} {M q : Nat} {y : Nat → Int → Int} (hF : pm_F M σ) {o1 : Option pe_V} {z0 : Int}    (k : pe_X d 225 (38, [some (.inr (.inr M)), o1], [.inr (.inl z0)], pm_h M σ q y) Φ) : pe_X d 225 (32, [some (.inr (.inr M)), o1], [.inr (.inl z0)], pm_h M σ q y) Φ := by
  refine pe_blk 18 1 ck225 [] (38, [some (.inr (.inr M)), o1], [.inr (.inl z0)], pm_h M σ q y) rfl ?_ ?_
  · exact trivial
  · exact k
theorem b225_35 {d : Nat} {Φ : Option pe_V → pe_H → Prop} {σ : pe_H} {M q : Nat} {y : Nat → Int → Int} (hF : pm_F M σ) {o1 : Option pe_V}    (k : pe_X d 225 (38, [some (.inr (.inr M)), o1], [.inr (.inl 1000000001)], pm_h M σ q y) Φ) : pe_X d 225 (35, [some (.inr (.inr M)), o1], [], pm_h M σ q y) Φ := by
  refine pe_blk 19 1 ck225 [] (38, [some (.inr (.inr M)), o1], [.inr (.inl 1000000001)], pm_h M σ q y) rfl ?_ ?_
  · exact trivial
  · exact k
theorem b225_38 {d : Nat} {Φ : Option pe_V → pe_H → Prop} {σ : pe_H} {M q : Nat} {y : Nat → Int → Int} (hF : pm_F M σ) {o1 : Option pe_V} {z0 : Int}    (k : Φ (some (.inr (.inl z0))) (pm_h M σ q y)) : pe_X d 225 (38, [some (.inr (.inr M)), o1], [.inr (.inl z0)], pm_h M σ q y) Φ := by
  exact pe_fine 20 ck225 rfl rfl rfl trivial k
-- StepMachinesModel.forged(I)I
def T226 : List (Nat × Instr × Nat) := [(0, .aload_n 0, 1), (1, .iconst 0, 1), (2, .putfield 141, 3), (5, .aload_n 0, 1), (6, .iload_n 1, 1), (7, .invokevirtual 332, 3), (10, .istore_n 2, 1), (11, .iload_n 2, 1), (12, .ifCond .ge 5, 3), (15, .iload_n 2, 1), (16, .ireturn, 1), (17, .iconst 0, 1), (18, .istore_n 3, 1), (19, .iload_n 3, 1), (20, .aload_n 0, 1), (21, .getfield 104, 3), (24, .iload_n 1, 1), (25, .iaload, 1), (26, .if_icmp .ge 41, 3), (29, .iload_n 3, 1), (30, .aload_n 0, 1), (31, .getfield 144, 3), (34, .if_icmp .ge 25, 3), (37, .aload_n 0, 1), (38, .getfield 107, 3), (41, .bipush 100, 2), (43, .iload_n 1, 1), (44, .imul, 1), (45, .iload_n 3, 1), (46, .iadd, 1), (47, .laload, 1), (48, .aload_n 0, 1), (49, .getfield 28, 3), (52, .iload_n 3, 1), (53, .iaload, 1), (54, .i2l, 1), (55, .lcmp, 1), (56, .ifCond .eq 5, 3), (59, .iload_n 3, 1), (60, .ireturn, 1), (61, .iinc 3 1, 3), (64, .goto (-45), 3), (67, .bipush (-4), 2), (69, .ireturn, 1)]
theorem ck226 : pe_ctx 226 9 false (some .int) 4 T226 := ⟨rfl, rfl, rfl, rfl, by decide +kernel, by decide, by decide⟩
theorem b226_0 {d : Nat} {Φ : Option pe_V → pe_H → Prop} {σ : pe_H} {M q : Nat} {y : Nat → Int → Int} (hF : pm_F M σ) {x1 : Int} {o2 : Option pe_V} {o3 : Option pe_V}    (k : pe_M d 235 [.inr (.inr M), .inl x1] (pm_h M σ q (pm_u y 0 37 0)) (fun r σ' => pe_X d 226 (10, [some (.inr (.inr M)), some (.inl x1), o2, o3], r.toList ++ [], σ') Φ)) : pe_X d 226 (0, [some (.inr (.inr M)), some (.inl x1), o2, o3], [], pm_h M σ q y) Φ := by
  refine pe_blk 0 5 ck226 [pe_K (pm_h M σ q y) M = 9] (7, [some (.inr (.inr M)), some (.inl x1), o2, o3], [.inl x1, .inr (.inr M)], pe_wI (pm_h M σ q y) M 37 0) rfl ?_ ?_
  · first
    | (simp (disch := omega) only [pe_all, pe_K_wI, pe_K_wR, pm_KM hF, pm_Kh, pm_wI0]; done)
    | (simp (disch := omega) only [pe_all, pe_K_wI, pe_K_wR, pm_KM hF, pm_Kh, pm_wI0]; (repeat' apply And.intro) <;> first | assumption | omega | decide)
  · try simp (disch := omega) only [pe_K_wI, pe_K_wR, pm_KM hF, pm_Kh, pm_wI0]
    have hrc : pe_K (pm_h M σ q (pm_u y 0 37 0)) M = 9 := by first | assumption | (simp (disch := omega) only [pe_K_wI, pe_K_wR, pm_KM hF, pm_Kh, pm_wI0]; done) | (simp (disch := omega) only [pe_K_wI, pe_K_wR, pm_KM hF, pm_Kh, pm_wI0]; assumption)
    exact pe_cal 5 ck226 rfl rfl rfl ⟨hrc, by decide⟩ k
theorem b226_10 {d : Nat} {Φ : Option pe_V → pe_H → Prop} {σ : pe_H} {M q : Nat} {y : Nat → Int → Int} (hF : pm_F M σ) {x1 : Int} {o2 : Option pe_V} {o3 : Option pe_V} {s0 : Int}  (w0 : pe_in s0 := by unfold pe_in; omega)  (k1 : 0 ≤ s0 → pe_X d 226 (17, [some (.inr (.inr M)), some (.inl x1), some (.inl s0), o3], [], pm_h M σ q y) Φ) (k2 : ¬ (0 ≤ s0) → pe_X d 226 (15, [some (.inr (.inr M)), some (.inl x1), some (.inl s0), o3], [], pm_h M σ q y) Φ) : pe_X d 226 (10, [some (.inr (.inr M)), some (.inl x1), o2, o3], [.inl s0], pm_h M σ q y) Φ := by
  refine pe_blk 6 3 ck226 [] (cond (decide (0 ≤ (pe_w s0))) 17 15, [some (.inr (.inr M)), some (.inl x1), some (.inl s0), o3], [], pm_h M σ q y) rfl ?_ ?_
  · exact trivial
  · try simp (disch := omega) only [pe_wi w0]
    exact pe_two k1 k2
theorem b226_15 {d : Nat} {Φ : Option pe_V → pe_H → Prop} {σ : pe_H} {M q : Nat} {y : Nat → Int → Int} (hF : pm_F M σ) {o1 : Option pe_V} {x2 : Int} {o3 : Option pe_V}    (k : Φ (some (.inl x2)) (pm_h M σ q y)) : pe_X d 226 (15, [some (.inr (.inr M)), o1, some (.inl x2), o3], [], pm_h M σ q y) Φ := by
  refine pe_blk 9 1 ck226 [] (16, [some (.inr (.inr M)), o1, some (.inl x2), o3], [.inl x2], pm_h M σ q y) rfl ?_ ?_
  · exact trivial
  · exact pe_fine 10 ck226 rfl rfl rfl trivial k
theorem b226_17 {d : Nat} {Φ : Option pe_V → pe_H → Prop} {σ : pe_H} {M q : Nat} {y : Nat → Int → Int} (hF : pm_F M σ) {x1 : Int} {o2 : Option pe_V} {o3 : Option pe_V}    (k : pe_X d 226 (19, [some (.inr (.inr M)), some (.inl x1), pe_nl o2, some (.inl 0)], [], pm_h M σ q y) Φ) : pe_X d 226 (17, [some (.inr (.inr M)), some (.inl x1), o2, o3], [], pm_h M σ q y) Φ := by
  refine pe_blk 11 2 ck226 [] (19, [some (.inr (.inr M)), some (.inl x1), pe_nl o2, some (.inl 0)], [], pm_h M σ q y) rfl ?_ ?_
  · exact trivial
  · exact k
theorem b226_19 {d : Nat} {Φ : Option pe_V → pe_H → Prop} {σ : pe_H} {M q : Nat} {y : Nat → Int → Int} (hF : pm_F M σ) {x1 : Int} {o2 : Option pe_V} {x3 : Int}  (w0 : pe_in x1 := by unfold pe_in; omega) (w1 : pe_in (y 31 x1) := by unfold pe_in; omega) (w2 : pe_in x3 := by unfold pe_in; omega) (h0 : 0 ≤ x1 := by first | assumption | omega) (h1 : x1 < 8 := by first | assumption | omega) (k1 : (y 31 x1) ≤ x3 → pe_X d 226 (67, [some (.inr (.inr M)), some (.inl x1), o2, some (.inl x3)], [], pm_h M σ q y) Φ) (k2 : ¬ ((y 31 x1) ≤ x3) → pe_X d 226 (29, [some (.inr (.inr M)), some (.inl x1), o2, some (.inl x3)], [], pm_h M σ q y) Φ) : pe_X d 226 (19, [some (.inr (.inr M)), some (.inl x1), o2, some (.inl x3)], [], pm_h M σ q y) Φ := by
  refine pe_blk 13 6 ck226 [pe_K (pm_h M σ q y) M = 9, pe_K (pm_h M σ q y) (pe_R (pm_h M σ q y) M 35) = 10, 0 ≤ (pe_w x1), (pe_w x1) < pe_L (pm_h M σ q y) (pe_R (pm_h M σ q y) M 35)] (cond (decide ((pe_w (pe_I (pm_h M σ q y) (pe_R (pm_h M σ q y) M 35) (pe_w x1))) ≤ (pe_w x3))) 67 29, [some (.inr (.inr M)), some (.inl x1), o2, some (.inl x3)], [], pm_h M σ q y) rfl ?_ ?_
  · first
    | (simp (disch := omega) only [pe_all, pe_wi w0, pe_wi w1, pe_wi w2, pe_I_wR, pe_K_wI, pe_K_wR, pe_L_wI, pe_L_wR, pe_R_nej, pe_R_wI, pm_Ik, pm_K31 hF, pm_KM hF, pm_Kh, pm_L31 hF, pm_Lh, pm_R35 hF, pm_Rh, pm_uj, pm_uk, pm_us]; done)
    | (simp (disch := omega) only [pe_all, pe_wi w0, pe_wi w1, pe_wi w2, pe_I_wR, pe_K_wI, pe_K_wR, pe_L_wI, pe_L_wR, pe_R_nej, pe_R_wI, pm_Ik, pm_K31 hF, pm_KM hF, pm_Kh, pm_L31 hF, pm_Lh, pm_R35 hF, pm_Rh, pm_uj, pm_uk, pm_us]; (repeat' apply And.intro) <;> first | assumption | omega | decide)
  · try simp (disch := omega) only [pe_wi w0, pe_wi w1, pe_wi w2, pe_I_wR, pe_K_wI, pe_K_wR, pe_L_wI, pe_L_wR, pe_R_nej, pe_R_wI, pm_Ik, pm_K31 hF, pm_KM hF, pm_Kh, pm_L31 hF, pm_Lh, pm_R35 hF, pm_Rh, pm_uj, pm_uk, pm_us]
    exact pe_two k1 k2
theorem b226_29 {d : Nat} {Φ : Option pe_V → pe_H → Prop} {σ : pe_H} {M q : Nat} {y : Nat → Int → Int} (hF : pm_F M σ) {x1 : Int} {o2 : Option pe_V} {x3 : Int}  (w0 : pe_in (y 0 3) := by unfold pe_in; omega) (w1 : pe_in x3 := by unfold pe_in; omega)  (k1 : (y 0 3) ≤ x3 → pe_X d 226 (59, [some (.inr (.inr M)), some (.inl x1), o2, some (.inl x3)], [], pm_h M σ q y) Φ) (k2 : ¬ ((y 0 3) ≤ x3) → pe_X d 226 (37, [some (.inr (.inr M)), some (.inl x1), o2, some (.inl x3)], [], pm_h M σ q y) Φ) : pe_X d 226 (29, [some (.inr (.inr M)), some (.inl x1), o2, some (.inl x3)], [], pm_h M σ q y) Φ := by
  refine pe_blk 19 4 ck226 [pe_K (pm_h M σ q y) M = 9] (cond (decide ((pe_w (pe_I (pm_h M σ q y) M 3)) ≤ (pe_w x3))) 59 37, [some (.inr (.inr M)), some (.inl x1), o2, some (.inl x3)], [], pm_h M σ q y) rfl ?_ ?_
  · first
    | (simp (disch := omega) only [pe_all, pe_wi w0, pe_wi w1, pe_I_wR, pe_K_wI, pe_K_wR, pm_I0, pm_KM hF, pm_Kh, pm_uj, pm_uk, pm_us]; done)
    | (simp (disch := omega) only [pe_all, pe_wi w0, pe_wi w1, pe_I_wR, pe_K_wI, pe_K_wR, pm_I0, pm_KM hF, pm_Kh, pm_uj, pm_uk, pm_us]; (repeat' apply And.intro) <;> first | assumption | omega | decide)
  · try simp (disch := omega) only [pe_wi w0, pe_wi w1, pe_I_wR, pe_K_wI, pe_K_wR, pm_I0, pm_KM hF, pm_Kh, pm_uj, pm_uk, pm_us]
    exact pe_two k1 k2
theorem b226_37 {d : Nat} {Φ : Option pe_V → pe_H → Prop} {σ : pe_H} {M q : Nat} {y : Nat → Int → Int} (hF : pm_F M σ) {x1 : Int} {o2 : Option pe_V} {x3 : Int}  (w0 : pe_in ((100 * x1) + x3) := by unfold pe_in; omega) (w1 : pe_in x3 := by unfold pe_in; omega) (w2 : pe_in (y 7 x3) := by unfold pe_in; omega) (w3 : pe_in (pe_lcmp (y 32 ((100 * x1) + x3)) (y 7 x3)) := by unfold pe_in; omega) (h0 : 0 ≤ ((100 * x1) + x3) := by first | assumption | omega) (h1 : ((100 * x1) + x3) < 800 := by first | assumption | omega) (h2 : 0 ≤ x3 := by first | assumption | omega) (h3 : x3 < 8 := by first | assumption | omega) (k1 : (pe_lcmp (y 32 ((100 * x1) + x3)) (y 7 x3)) = 0 → pe_X d 226 (61, [some (.inr (.inr M)), some (.inl x1), o2, some (.inl x3)], [], pm_h M σ q y) Φ) (k2 : ¬ ((pe_lcmp (y 32 ((100 * x1) + x3)) (y 7 x3)) = 0) → pe_X d 226 (59, [some (.inr (.inr M)), some (.inl x1), o2, some (.inl x3)], [], pm_h M σ q y) Φ) : pe_X d 226 (37, [some (.inr (.inr M)), some (.inl x1), o2, some (.inl x3)], [], pm_h M σ q y) Φ := by
  refine pe_blk 23 15 ck226 [pe_K (pm_h M σ q y) M = 9, pe_K (pm_h M σ q y) (pe_R (pm_h M σ q y) M 36) = 11, 0 ≤ (pe_w ((100 * x1) + x3)), (pe_w ((100 * x1) + x3)) < pe_L (pm_h M σ q y) (pe_R (pm_h M σ q y) M 36), pe_K (pm_h M σ q y) M = 9, pe_K (pm_h M σ q y) (pe_R (pm_h M σ q y) M 7) = 10, 0 ≤ (pe_w x3), (pe_w x3) < pe_L (pm_h M σ q y) (pe_R (pm_h M σ q y) M 7)] (cond (decide ((pe_w (pe_lcmp (pe_I (pm_h M σ q y) (pe_R (pm_h M σ q y) M 36) (pe_w ((100 * x1) + x3))) (pe_w (pe_I (pm_h M σ q y) (pe_R (pm_h M σ q y) M 7) (pe_w x3))))) = 0)) 61 59, [some (.inr (.inr M)), some (.inl x1), o2, some (.inl x3)], [], pm_h M σ q y) rfl ?_ ?_
  · first
    | (simp (disch := omega) only [pe_all, pe_wi w0, pe_wi w1, pe_wi w2, pe_wi w3, pe_I_wR, pe_K_wI, pe_K_wR, pe_L_wI, pe_L_wR, pe_R_nej, pe_R_wI, pm_Ik, pm_K32 hF, pm_K7 hF, pm_KM hF, pm_Kh, pm_L32 hF, pm_L7 hF, pm_Lh, pm_R36 hF, pm_R7 hF, pm_Rh, pm_uj, pm_uk, pm_us]; done)
    | (simp (disch := omega) only [pe_all, pe_wi w0, pe_wi w1, pe_wi w2, pe_wi w3, pe_I_wR, pe_K_wI, pe_K_wR, pe_L_wI, pe_L_wR, pe_R_nej, pe_R_wI, pm_Ik, pm_K32 hF, pm_K7 hF, pm_KM hF, pm_Kh, pm_L32 hF, pm_L7 hF, pm_Lh, pm_R36 hF, pm_R7 hF, pm_Rh, pm_uj, pm_uk, pm_us]; (repeat' apply And.intro) <;> first | assumption | omega | decide)
  · try simp (disch := omega) only [pe_wi w0, pe_wi w1, pe_wi w2, pe_wi w3, pe_I_wR, pe_K_wI, pe_K_wR, pe_L_wI, pe_L_wR, pe_R_nej, pe_R_wI, pm_Ik, pm_K32 hF, pm_K7 hF, pm_KM hF, pm_Kh, pm_L32 hF, pm_L7 hF, pm_Lh, pm_R36 hF, pm_R7 hF, pm_Rh, pm_uj, pm_uk, pm_us]
    exact pe_two k1 k2
theorem b226_59 {d : Nat} {Φ : Option pe_V → pe_H → Prop} {σ : pe_H} {M q : Nat} {y : Nat → Int → Int} (hF : pm_F M σ) {o1 : Option pe_V} {o2 : Option pe_V} {x3 : Int}    (k : Φ (some (.inl x3)) (pm_h M σ q y)) : pe_X d 226 (59, [some (.inr (.inr M)), o1, o2, some (.inl x3)], [], pm_h M σ q y) Φ := by
  refine pe_blk 38 1 ck226 [] (60, [some (.inr (.inr M)), o1, o2, some (.inl x3)], [.inl x3], pm_h M σ q y) rfl ?_ ?_
  · exact trivial
  · exact pe_fine 39 ck226 rfl rfl rfl trivial k
theorem b226_61 {d : Nat} {Φ : Option pe_V → pe_H → Prop} {σ : pe_H} {M q : Nat} {y : Nat → Int → Int} (hF : pm_F M σ) {x1 : Int} {o2 : Option pe_V} {x3 : Int}    (k : pe_X d 226 (19, [some (.inr (.inr M)), some (.inl x1), pe_nl o2, some (.inl (x3 + 1))], [], pm_h M σ q y) Φ) : pe_X d 226 (61, [some (.inr (.inr M)), some (.inl x1), o2, some (.inl x3)], [], pm_h M σ q y) Φ := by
  refine pe_blk 40 2 ck226 [] (19, [some (.inr (.inr M)), some (.inl x1), pe_nl o2, some (.inl (x3 + 1))], [], pm_h M σ q y) rfl ?_ ?_
  · exact trivial
  · exact k
theorem b226_67 {d : Nat} {Φ : Option pe_V → pe_H → Prop} {σ : pe_H} {M q : Nat} {y : Nat → Int → Int} (hF : pm_F M σ) {o1 : Option pe_V} {o2 : Option pe_V} {o3 : Option pe_V}    (k : Φ (some (.inl (-4))) (pm_h M σ q y)) : pe_X d 226 (67, [some (.inr (.inr M)), o1, o2, o3], [], pm_h M σ q y) Φ := by
  refine pe_blk 42 1 ck226 [] (69, [some (.inr (.inr M)), o1, o2, o3], [.inl (-4)], pm_h M σ q y) rfl ?_ ?_
  · exact trivial
  · exact pe_fine 43 ck226 rfl rfl rfl trivial k
-- StepMachinesModel.judge(I)I
def T227 : List (Nat × Instr × Nat) := [(0, .aload_n 0, 1), (1, .iconst 0, 1), (2, .putfield 141, 3), (5, .aload_n 0, 1), (6, .iload_n 1, 1), (7, .invokevirtual 332, 3), (10, .istore_n 2, 1), (11, .iload_n 2, 1), (12, .ifCond .ge 5, 3), (15, .iload_n 2, 1), (16, .ireturn, 1), (17, .bipush (-4), 2), (19, .istore_n 3, 1), (20, .aload_n 0, 1), (21, .invokevirtual 338, 3), (24, .iconst 0, 1), (25, .istore 4, 2), (27, .iload 4, 2), (29, .aload_n 0, 1), (30, .getfield 104, 3), (33, .iload_n 1, 1), (34, .iaload, 1), (35, .if_icmp .ge 60, 3), (38, .iload_n 3, 1), (39, .ifCond .ge 56, 3), (42, .aload_n 0, 1), (43, .iload_n 1, 1), (44, .iload 4, 2), (46, .invokevirtual 416, 3), (49, .ifCond .ne 32, 3), (52, .aload_n 0, 1), (53, .getfield 107, 3), (56, .bipush 100, 2), (58, .iload_n 1, 1), (59, .imul, 1), (60, .iload 4, 2), (62, .iadd, 1), (63, .laload, 1), (64, .aload_n 0, 1), (65, .invokevirtual 391, 3), (68, .invokestatic 394, 3), (71, .i2l, 1), (72, .lcmp, 1), (73, .ifCond .eq 8, 3), (76, .iload 4, 2), (78, .goto 5, 3), (81, .bipush (-4), 2), (83, .istore_n 3, 1), (84, .aload_n 0, 1), (85, .iconst 0, 1), (86, .invokevirtual 259, 3), (89, .iinc 4 1, 3), (92, .goto (-65), 3), (95, .aload_n 0, 1), (96, .invokevirtual 344, 3), (99, .iload_n 3, 1), (100, .ireturn, 1)]
theorem ck227 : pe_ctx 227 9 false (some .int) 5 T227 := ⟨rfl, rfl, rfl, rfl, by decide +kernel, by decide, by decide⟩
theorem b227_0 {d : Nat} {Φ : Option pe_V → pe_H → Prop} {σ : pe_H} {M q : Nat} {y : Nat → Int → Int} (hF : pm_F M σ) {x1 : Int} {o2 : Option pe_V} {o3 : Option pe_V} {o4 : Option pe_V}    (k : pe_M d 235 [.inr (.inr M), .inl x1] (pm_h M σ q (pm_u y 0 37 0)) (fun r σ' => pe_X d 227 (10, [some (.inr (.inr M)), some (.inl x1), o2, o3, o4], r.toList ++ [], σ') Φ)) : pe_X d 227 (0, [some (.inr (.inr M)), some (.inl x1), o2, o3, o4], [], pm_h M σ q y) Φ := by
  refine pe_blk 0 5 ck227 [pe_K (pm_h M σ q y) M = 9] (7, [some (.inr (.inr M)), some (.inl x1), o2, o3, o4], [.inl x1, .inr (.inr M)], pe_wI (pm_h M σ q y) M 37 0) rfl ?_ ?_
  · first
    | (simp (disch := omega) only [pe_all, pe_K_wI, pe_K_wR, pm_KM hF, pm_Kh, pm_wI0]; done)
    | (simp (disch := omega) only [pe_all, pe_K_wI, pe_K_wR, pm_KM hF, pm_Kh, pm_wI0]; (repeat' apply And.intro) <;> first | assumption | omega | decide)
  · try simp (disch := omega) only [pe_K_wI, pe_K_wR, pm_KM hF, pm_Kh, pm_wI0]
    have hrc : pe_K (pm_h M σ q (pm_u y 0 37 0)) M = 9 := by first | assumption | (simp (disch := omega) only [pe_K_wI, pe_K_wR, pm_KM hF, pm_Kh, pm_wI0]; done) | (simp (disch := omega) only [pe_K_wI, pe_K_wR, pm_KM hF, pm_Kh, pm_wI0]; assumption)
    exact pe_cal 5 ck227 rfl rfl rfl ⟨hrc, by decide⟩ k
theorem b227_10 {d : Nat} {Φ : Option pe_V → pe_H → Prop} {σ : pe_H} {M q : Nat} {y : Nat → Int → Int} (hF : pm_F M σ) {x1 : Int} {o2 : Option pe_V} {o3 : Option pe_V} {o4 : Option pe_V} {s0 : Int}  (w0 : pe_in s0 := by unfold pe_in; omega)  (k1 : 0 ≤ s0 → pe_X d 227 (17, [some (.inr (.inr M)), some (.inl x1), some (.inl s0), o3, o4], [], pm_h M σ q y) Φ) (k2 : ¬ (0 ≤ s0) → pe_X d 227 (15, [some (.inr (.inr M)), some (.inl x1), some (.inl s0), o3, o4], [], pm_h M σ q y) Φ) : pe_X d 227 (10, [some (.inr (.inr M)), some (.inl x1), o2, o3, o4], [.inl s0], pm_h M σ q y) Φ := by
  refine pe_blk 6 3 ck227 [] (cond (decide (0 ≤ (pe_w s0))) 17 15, [some (.inr (.inr M)), some (.inl x1), some (.inl s0), o3, o4], [], pm_h M σ q y) rfl ?_ ?_
  · exact trivial
  · try simp (disch := omega) only [pe_wi w0]
    exact pe_two k1 k2
theorem b227_15 {d : Nat} {Φ : Option pe_V → pe_H → Prop} {σ : pe_H} {M q : Nat} {y : Nat → Int → Int} (hF : pm_F M σ) {o1 : Option pe_V} {x2 : Int} {o3 : Option pe_V} {o4 : Option pe_V}    (k : Φ (some (.inl x2)) (pm_h M σ q y)) : pe_X d 227 (15, [some (.inr (.inr M)), o1, some (.inl x2), o3, o4], [], pm_h M σ q y) Φ := by
  refine pe_blk 9 1 ck227 [] (16, [some (.inr (.inr M)), o1, some (.inl x2), o3, o4], [.inl x2], pm_h M σ q y) rfl ?_ ?_
  · exact trivial
  · exact pe_fine 10 ck227 rfl rfl rfl trivial k
theorem b227_17 {d : Nat} {Φ : Option pe_V → pe_H → Prop} {σ : pe_H} {M q : Nat} {y : Nat → Int → Int} (hF : pm_F M σ) {x1 : Int} {o2 : Option pe_V} {o3 : Option pe_V} {o4 : Option pe_V}    (k : pe_M d 187 [.inr (.inr M)] (pm_h M σ q y) (fun r σ' => pe_X d 227 (24, [some (.inr (.inr M)), some (.inl x1), pe_nl o2, some (.inl (-4)), o4], r.toList ++ [], σ') Φ)) : pe_X d 227 (17, [some (.inr (.inr M)), some (.inl x1), o2, o3, o4], [], pm_h M σ q y) Φ := by
  refine pe_blk 11 3 ck227 [] (21, [some (.inr (.inr M)), some (.inl x1), pe_nl o2, some (.inl (-4)), o4], [.inr (.inr M)], pm_h M σ q y) rfl ?_ ?_
  · exact trivial
  · try simp (disch := omega) only [pe_K_wI, pe_K_wR, pm_KM hF, pm_Kh]
    have hrc : pe_K (pm_h M σ q y) M = 9 := by first | assumption | (simp (disch := omega) only [pe_K_wI, pe_K_wR, pm_KM hF, pm_Kh]; done) | (simp (disch := omega) only [pe_K_wI, pe_K_wR, pm_KM hF, pm_Kh]; assumption)
    exact pe_cal 14 ck227 rfl rfl rfl ⟨hrc, by decide⟩ k
theorem b227_24 {d : Nat} {Φ : Option pe_V → pe_H → Prop} {σ : pe_H} {M q : Nat} {y : Nat → Int → Int} (hF : pm_F M σ) {x1 : Int} {o2 : Option pe_V} {x3 : Int} {o4 : Option pe_V}    (k : pe_X d 227 (27, [some (.inr (.inr M)), some (.inl x1), o2, some (.inl x3), some (.inl 0)], [], pm_h M σ q y) Φ) : pe_X d 227 (24, [some (.inr (.inr M)), some (.inl x1), o2, some (.inl x3), o4], [], pm_h M σ q y) Φ := by
  refine pe_blk 15 2 ck227 [] (27, [some (.inr (.inr M)), some (.inl x1), o2, some (.inl x3), some (.inl 0)], [], pm_h M σ q y) rfl ?_ ?_
  · exact trivial
  · exact k
theorem b227_27 {d : Nat} {Φ : Option pe_V → pe_H → Prop} {σ : pe_H} {M q : Nat} {y : Nat → Int → Int} (hF : pm_F M σ) {x1 : Int} {o2 : Option pe_V} {x3 : Int} {x4 : Int}  (w0 : pe_in x1 := by unfold pe_in; omega) (w1 : pe_in (y 31 x1) := by unfold pe_in; omega) (w2 : pe_in x4 := by unfold pe_in; omega) (h0 : 0 ≤ x1 := by first | assumption | omega) (h1 : x1 < 8 := by first | assumption | omega) (k1 : (y 31 x1) ≤ x4 → pe_X d 227 (95, [some (.inr (.inr M)), some (.inl x1), o2, some (.inl x3), some (.inl x4)], [], pm_h M σ q y) Φ) (k2 : ¬ ((y 31 x1) ≤ x4) → pe_X d 227 (38, [some (.inr (.inr M)), some (.inl x1), o2, some (.inl x3), some (.inl x4)], [], pm_h M σ q y) Φ) : pe_X d 227 (27, [some (.inr (.inr M)), some (.inl x1), o2, some (.inl x3), some (.inl x4)], [], pm_h M σ q y) Φ := by
  refine pe_blk 17 6 ck227 [pe_K (pm_h M σ q y) M = 9, pe_K (pm_h M σ q y) (pe_R (pm_h M σ q y) M 35) = 10, 0 ≤ (pe_w x1), (pe_w x1) < pe_L (pm_h M σ q y) (pe_R (pm_h M σ q y) M 35)] (cond (decide ((pe_w (pe_I (pm_h M σ q y) (pe_R (pm_h M σ q y) M 35) (pe_w x1))) ≤ (pe_w x4))) 95 38, [some (.inr (.inr M)), some (.inl x1), o2, some (.inl x3), some (.inl x4)], [], pm_h M σ q y) rfl ?_ ?_
  · first
    | (simp (disch := omega) only [pe_all, pe_wi w0, pe_wi w1, pe_wi w2, pe_I_wR, pe_K_wI, pe_K_wR, pe_L_wI, pe_L_wR, pe_R_nej, pe_R_wI, pm_Ik, pm_K31 hF, pm_KM hF, pm_Kh, pm_L31 hF, pm_Lh, pm_R35 hF, pm_Rh, pm_uj, pm_uk, pm_us]; done)
    | (simp (disch := omega) only [pe_all, pe_wi w0, pe_wi w1, pe_wi w2, pe_I_wR, pe_K_wI, pe_K_wR, pe_L_wI, pe_L_wR, pe_R_nej, pe_R_wI, pm_Ik, pm_K31 hF, pm_KM hF, pm_Kh, pm_L31 hF, pm_Lh, pm_R35 hF, pm_Rh, pm_uj, pm_uk, pm_us]; (repeat' apply And.intro) <;> first | assumption | omega | decide)
  · try simp (disch := omega) only [pe_wi w0, pe_wi w1, pe_wi w2, pe_I_wR, pe_K_wI, pe_K_wR, pe_L_wI, pe_L_wR, pe_R_nej, pe_R_wI, pm_Ik, pm_K31 hF, pm_KM hF, pm_Kh, pm_L31 hF, pm_Lh, pm_R35 hF, pm_Rh, pm_uj, pm_uk, pm_us]
    exact pe_two k1 k2
theorem b227_38 {d : Nat} {Φ : Option pe_V → pe_H → Prop} {σ : pe_H} {M q : Nat} {y : Nat → Int → Int} (hF : pm_F M σ) {x1 : Int} {o2 : Option pe_V} {x3 : Int} {x4 : Int}  (w0 : pe_in x3 := by unfold pe_in; omega)  (k1 : 0 ≤ x3 → pe_X d 227 (95, [some (.inr (.inr M)), some (.inl x1), o2, some (.inl x3), some (.inl x4)], [], pm_h M σ q y) Φ) (k2 : ¬ (0 ≤ x3) → pe_X d 227 (42, [some (.inr (.inr M)), some (.inl x1), o2, some (.inl x3), some (.inl x4)], [], pm_h M σ q y) Φ) : pe_X d 227 (38, [some (.inr (.inr M)), some (.inl x1), o2, some (.inl x3), some (.inl x4)], [], pm_h M σ q y) Φ := by
  refine pe_blk 23 2 ck227 [] (cond (decide (0 ≤ (pe_w x3))) 95 42, [some (.inr (.inr M)), some (.inl x1), o2, some (.inl x3), some (.inl x4)], [], pm_h M σ q y) rfl ?_ ?_
  · exact trivial
  · try simp (disch := omega) only [pe_wi w0]
    exact pe_two k1 k2
theorem b227_42 {d : Nat} {Φ : Option pe_V → pe_H → Prop} {σ : pe_H} {M q : Nat} {y : Nat → Int → Int} (hF : pm_F M σ) {x1 : Int} {o2 : Option pe_V} {o3 : Option pe_V} {x4 : Int}    (k : pe_M d 214 [.inr (.inr M), .inl x1, .inl x4] (pm_h M σ q y) (fun r σ' => pe_X d 227 (49, [some (.inr (.inr M)), some (.inl x1), o2, o3, some (.inl x4)], r.toList ++ [], σ') Φ)) : pe_X d 227 (42, [some (.inr (.inr M)), some (.inl x1), o2, o3, some (.inl x4)], [], pm_h M σ q y) Φ := by
  refine pe_blk 25 3 ck227 [] (46, [some (.inr (.inr M)), some (.inl x1), o2, o3, some (.inl x4)], [.inl x4, .inl x1, .inr (.inr M)], pm_h M σ q y) rfl ?_ ?_
  · exact trivial
  · try simp (disch := omega) only [pe_K_wI, pe_K_wR, pm_KM hF, pm_Kh]
    have hrc : pe_K (pm_h M σ q y) M = 9 := by first | assumption | (simp (disch := omega) only [pe_K_wI, pe_K_wR, pm_KM hF, pm_Kh]; done) | (simp (disch := omega) only [pe_K_wI, pe_K_wR, pm_KM hF, pm_Kh]; assumption)
    exact pe_cal 28 ck227 rfl rfl rfl ⟨hrc, by decide⟩ k
theorem b227_49 {d : Nat} {Φ : Option pe_V → pe_H → Prop} {σ : pe_H} {M q : Nat} {y : Nat → Int → Int} (hF : pm_F M σ) {x1 : Int} {o2 : Option pe_V} {o3 : Option pe_V} {x4 : Int} {s0 : Int}  (w0 : pe_in s0 := by unfold pe_in; omega)  (k1 : ¬ s0 = 0 → pe_X d 227 (81, [some (.inr (.inr M)), some (.inl x1), o2, o3, some (.inl x4)], [], pm_h M σ q y) Φ) (k2 : s0 = 0 → pe_X d 227 (52, [some (.inr (.inr M)), some (.inl x1), o2, o3, some (.inl x4)], [], pm_h M σ q y) Φ) : pe_X d 227 (49, [some (.inr (.inr M)), some (.inl x1), o2, o3, some (.inl x4)], [.inl s0], pm_h M σ q y) Φ := by
  refine pe_blk 29 1 ck227 [] (cond (decide (¬ (pe_w s0) = 0)) 81 52, [some (.inr (.inr M)), some (.inl x1), o2, o3, some (.inl x4)], [], pm_h M σ q y) rfl ?_ ?_
  · exact trivial
  · try simp (disch := omega) only [pe_wi w0]
    exact pe_two' k1 k2
theorem b227_52 {d : Nat} {Φ : Option pe_V → pe_H → Prop} {σ : pe_H} {M q : Nat} {y : Nat → Int → Int} (hF : pm_F M σ) {x1 : Int} {o2 : Option pe_V} {o3 : Option pe_V} {x4 : Int}  (w0 : pe_in ((100 * x1) + x4) := by unfold pe_in; omega) (h0 : 0 ≤ ((100 * x1) + x4) := by first | assumption | omega) (h1 : ((100 * x1) + x4) < 800 := by first | assumption | omega) (k : pe_M d 141 [.inr (.inr M)] (pm_h M σ q y) (fun r σ' => pe_X d 227 (68, [some (.inr (.inr M)), some (.inl x1), o2, o3, some (.inl x4)], r.toList ++ [.inr (.inl (y 32 ((100 * x1) + x4)))], σ') Φ)) : pe_X d 227 (52, [some (.inr (.inr M)), some (.inl x1), o2, o3, some (.inl x4)], [], pm_h M σ q y) Φ := by
  refine pe_blk 30 9 ck227 [pe_K (pm_h M σ q y) M = 9, pe_K (pm_h M σ q y) (pe_R (pm_h M σ q y) M 36) = 11, 0 ≤ (pe_w ((100 * x1) + x4)), (pe_w ((100 * x1) + x4)) < pe_L (pm_h M σ q y) (pe_R (pm_h M σ q y) M 36)] (65, [some (.inr (.inr M)), some (.inl x1), o2, o3, some (.inl x4)], [.inr (.inr M), .inr (.inl (pe_I (pm_h M σ q y) (pe_R (pm_h M σ q y) M 36) (pe_w ((100 * x1) + x4))))], pm_h M σ q y) rfl ?_ ?_
  · first
    | (simp (disch := omega) only [pe_all, pe_wi w0, pe_I_wR, pe_K_wI, pe_K_wR, pe_L_wI, pe_L_wR, pe_R_nej, pe_R_wI, pm_Ik, pm_K32 hF, pm_KM hF, pm_Kh, pm_L32 hF, pm_Lh, pm_R36 hF, pm_Rh, pm_uj, pm_uk, pm_us]; done)
    | (simp (disch := omega) only [pe_all, pe_wi w0, pe_I_wR, pe_K_wI, pe_K_wR, pe_L_wI, pe_L_wR, pe_R_nej, pe_R_wI, pm_Ik, pm_K32 hF, pm_KM hF, pm_Kh, pm_L32 hF, pm_Lh, pm_R36 hF, pm_Rh, pm_uj, pm_uk, pm_us]; (repeat' apply And.intro) <;> first | assumption | omega | decide)
  · try simp (disch := omega) only [pe_wi w0, pe_I_wR, pe_K_wI, pe_K_wR, pe_L_wI, pe_L_wR, pe_R_nej, pe_R_wI, pm_Ik, pm_K32 hF, pm_KM hF, pm_Kh, pm_L32 hF, pm_Lh, pm_R36 hF, pm_Rh, pm_uj, pm_uk, pm_us]
    have hrc : pe_K (pm_h M σ q y) M = 9 := by first | assumption | (simp (disch := omega) only [pe_wi w0, pe_I_wR, pe_K_wI, pe_K_wR, pe_L_wI, pe_L_wR, pe_R_nej, pe_R_wI, pm_Ik, pm_K32 hF, pm_KM hF, pm_Kh, pm_L32 hF, pm_Lh, pm_R36 hF, pm_Rh, pm_uj, pm_uk, pm_us]; done) | (simp (disch := omega) only [pe_wi w0, pe_I_wR, pe_K_wI, pe_K_wR, pe_L_wI, pe_L_wR, pe_R_nej, pe_R_wI, pm_Ik, pm_K32 hF, pm_KM hF, pm_Kh, pm_L32 hF, pm_Lh, pm_R36 hF, pm_Rh, pm_uj, pm_uk, pm_us]; assumption)
    exact pe_cal 39 ck227 rfl rfl rfl ⟨hrc, by decide⟩ k
theorem b227_68 {d : Nat} {Φ : Option pe_V → pe_H → Prop} {σ : pe_H} {M q : Nat} {y : Nat → Int → Int} (hF : pm_F M σ) {x1 : Int} {o2 : Option pe_V} {o3 : Option pe_V} {x4 : Int} {z0 : Int} {s1 : Int}    (k : pe_M d 136 [.inl s1] (pm_h M σ q y) (fun r σ' => pe_X d 227 (71, [some (.inr (.inr M)), some (.inl x1), o2, o3, some (.inl x4)], r.toList ++ [.inr (.inl z0)], σ') Φ)) : pe_X d 227 (68, [some (.inr (.inr M)), some (.inl x1), o2, o3, some (.inl x4)], [.inl s1, .inr (.inl z0)], pm_h M σ q y) Φ := by
  exact pe_cal 40 ck227 rfl rfl rfl trivial k
theorem b227_71 {d : Nat} {Φ : Option pe_V → pe_H → Prop} {σ : pe_H} {M q : Nat} {y : Nat → Int → Int} (hF : pm_F M σ) {x1 : Int} {o2 : Option pe_V} {o3 : Option pe_V} {x4 : Int} {z0 : Int} {s1 : Int}  (w0 : pe_in s1 := by unfold pe_in; omega) (w1 : pe_in (pe_lcmp z0 s1) := by unfold pe_in; omega)  (k1 : (pe_lcmp z0 s1) = 0 → pe_X d 227 (81, [some (.inr (.inr M)), some (.inl x1), o2, o3, some (.inl x4)], [], pm_h M σ q y) Φ) (k2 : ¬ ((pe_lcmp z0 s1) = 0) → pe_X d 227 (76, [some (.inr (.inr M)), some (.inl x1), o2, o3, some (.inl x4)], [], pm_h M σ q y) Φ) : pe_X d 227 (71, [some (.inr (.inr M)), some (.inl x1), o2, o3, some (.inl x4)], [.inl s1, .inr (.inl z0)], pm_h M σ q y) Φ := by
  refine pe_blk 41 3 ck227 [] (cond (decide ((pe_w (pe_lcmp z0 (pe_w s1))) = 0)) 81 76, [some (.inr (.inr M)), some (.inl x1), o2, o3, some (.inl x4)], [], pm_h M σ q y) rfl ?_ ?_
  · exact trivial
  · try simp (disch := omega) only [pe_wi w0, pe_wi w1]
    exact pe_two k1 k2
theorem b227_76 {d : Nat} {Φ : Option pe_V → pe_H → Prop} {σ : pe_H} {M q : Nat} {y : Nat → Int → Int} (hF : pm_F M σ) {x1 : Int} {o2 : Option pe_V} {o3 : Option pe_V} {x4 : Int}    (k : pe_X d 227 (83, [some (.inr (.inr M)), some (.inl x1), o2, o3, some (.inl x4)], [.inl x4], pm_h M σ q y) Φ) : pe_X d 227 (76, [some (.inr (.inr M)), some (.inl x1), o2, o3, some (.inl x4)], [], pm_h M σ q y) Φ := by
  refine pe_blk 44 2 ck227 [] (83, [some (.inr (.inr M)), some (.inl x1), o2, o3, some (.inl x4)], [.inl x4], pm_h M σ q y) rfl ?_ ?_
  · exact trivial
  · exact k
theorem b227_81 {d : Nat} {Φ : Option pe_V → pe_H → Prop} {σ : pe_H} {M q : Nat} {y : Nat → Int → Int} (hF : pm_F M σ) {x1 : Int} {o2 : Option pe_V} {o3 : Option pe_V} {x4 : Int}    (k : pe_X d 227 (83, [some (.inr (.inr M)), some (.inl x1), o2, o3, some (.inl x4)], [.inl (-4)], pm_h M σ q y) Φ) : pe_X d 227 (81, [some (.inr (.inr M)), some (.inl x1), o2, o3, some (.inl x4)], [], pm_h M σ q y) Φ := by
  refine pe_blk 46 1 ck227 [] (83, [some (.inr (.inr M)), some (.inl x1), o2, o3, some (.inl x4)], [.inl (-4)], pm_h M σ q y) rfl ?_ ?_
  · exact trivial
  · exact k
theorem b227_83 {d : Nat} {Φ : Option pe_V → pe_H → Prop} {σ : pe_H} {M q : Nat} {y : Nat → Int → Int} (hF : pm_F M σ) {x1 : Int} {o2 : Option pe_V} {o3 : Option pe_V} {x4 : Int} {s0 : Int}    (k : pe_M d 169 [.inr (.inr M), .inl 0] (pm_h M σ q y) (fun r σ' => pe_X d 227 (89, [some (.inr (.inr M)), some (.inl x1), pe_nl o2, some (.inl s0), some (.inl x4)], r.toList ++ [], σ') Φ)) : pe_X d 227 (83, [some (.inr (.inr M)), some (.inl x1), o2, o3, some (.inl x4)], [.inl s0], pm_h M σ q y) Φ := by
  refine pe_blk 47 3 ck227 [] (86, [some (.inr (.inr M)), some (.inl x1), pe_nl o2, some (.inl s0), some (.inl x4)], [.inl 0, .inr (.inr M)], pm_h M σ q y) rfl ?_ ?_
  · exact trivial
  · try simp (disch := omega) only [pe_K_wI, pe_K_wR, pm_KM hF, pm_Kh]
    have hrc : pe_K (pm_h M σ q y) M = 9 := by first | assumption | (simp (disch := omega) only [pe_K_wI, pe_K_wR, pm_KM hF, pm_Kh]; done) | (simp (disch := omega) only [pe_K_wI, pe_K_wR, pm_KM hF, pm_Kh]; assumption)
    exact pe_cal 50 ck227 rfl rfl rfl ⟨hrc, by decide⟩ k
set_option maxRecDepth 8000 in
theorem b227_89 {d : Nat} {Φ : Option pe_V → pe_H → Prop} {σ : pe_H} {M q : Nat} {y : Nat → Int → Int} (hF : pm_F M σ) {x1 : Int} {o2 : Option pe_V} {x3 : Int} {x4 : Int}    (k : pe_X d 227 (27, [some (.inr (.inr M)), some (.inl x1), o2, some (.inl x3), some (.inl (x4 + 1))], [], pm_h M σ q y) Φ) : pe_X d 227 (89, [some (.inr (.inr M)), some (.inl x1), o2, some (.inl x3), some (.inl x4)], [], pm_h M σ q y) Φ := by
  refine pe_blk 51 2 ck227 [] (27, [some (.inr (.inr M)), some (.inl x1), o2, some (.inl x3), some (.inl (x4 + 1))], [], pm_h M σ q y) rfl ?_ ?_
  · exact trivial
  · exact k
set_option maxRecDepth 8000 in
theorem b227_95 {d : Nat} {Φ : Option pe_V → pe_H → Prop} {σ : pe_H} {M q : Nat} {y : Nat → Int → Int} (hF : pm_F M σ) {o1 : Option pe_V} {o2 : Option pe_V} {x3 : Int} {o4 : Option pe_V}    (k : pe_M d 188 [.inr (.inr M)] (pm_h M σ q y) (fun r σ' => pe_X d 227 (99, [some (.inr (.inr M)), o1, o2, some (.inl x3), o4], r.toList ++ [], σ') Φ)) : pe_X d 227 (95, [some (.inr (.inr M)), o1, o2, some (.inl x3), o4], [], pm_h M σ q y) Φ := by
  refine pe_blk 53 1 ck227 [] (96, [some (.inr (.inr M)), o1, o2, some (.inl x3), o4], [.inr (.inr M)], pm_h M σ q y) rfl ?_ ?_
  · exact trivial
  · try simp (disch := omega) only [pe_K_wI, pe_K_wR, pm_KM hF, pm_Kh]
    have hrc : pe_K (pm_h M σ q y) M = 9 := by first | assumption | (simp (disch := omega) only [pe_K_wI, pe_K_wR, pm_KM hF, pm_Kh]; done) | (simp (disch := omega) only [pe_K_wI, pe_K_wR, pm_KM hF, pm_Kh]; assumption)
    exact pe_cal 54 ck227 rfl rfl rfl ⟨hrc, by decide⟩ k
set_option maxRecDepth 8000 in
theorem b227_99 {d : Nat} {Φ : Option pe_V → pe_H → Prop} {σ : pe_H} {M q : Nat} {y : Nat → Int → Int} (hF : pm_F M σ) {o1 : Option pe_V} {o2 : Option pe_V} {x3 : Int} {o4 : Option pe_V}    (k : Φ (some (.inl x3)) (pm_h M σ q y)) : pe_X d 227 (99, [some (.inr (.inr M)), o1, o2, some (.inl x3), o4], [], pm_h M σ q y) Φ := by
  refine pe_blk 55 1 ck227 [] (100, [some (.inr (.inr M)), o1, o2, some (.inl x3), o4], [.inl x3], pm_h M σ q y) rfl ?_ ?_
  · exact trivial
  · exact pe_fine 56 ck227 rfl rfl rfl trivial k
-- StepMachinesModel.allOuts()I
def T228 : List (Nat × Instr × Nat) := [(0, .iconst 0, 1), (1, .istore_n 1, 1), (2, .iconst 0, 1), (3, .istore_n 2, 1), (4, .iload_n 2, 1), (5, .aload_n 0, 1), (6, .getfield 144, 3), (9, .if_icmp .ge 18, 3), (12, .iload_n 1, 1), (13, .aload_n 0, 1), (14, .getfield 37, 3), (17, .iload_n 2, 1), (18, .iaload, 1), (19, .iadd, 1), (20, .istore_n 1, 1), (21, .iinc 2 1, 3), (24, .goto (-20), 3), (27, .iload_n 1, 1), (28, .ireturn, 1)]
theorem ck228 : pe_ctx 228 9 false (some .int) 3 T228 := ⟨rfl, rfl, rfl, rfl, by decide +kernel, by decide, by decide⟩
theorem b228_0 {d : Nat} {Φ : Option pe_V → pe_H → Prop} {σ : pe_H} {M q : Nat} {y : Nat → Int → Int} (hF : pm_F M σ) {o1 : Option pe_V} {o2 : Option pe_V}    (k : pe_X d 228 (4, [some (.inr (.inr M)), some (.inl 0), some (.inl 0)], [], pm_h M σ q y) Φ) : pe_X d 228 (0, [some (.inr (.inr M)), o1, o2], [], pm_h M σ q y) Φ := by
  refine pe_blk 0 4 ck228 [] (4, [some (.inr (.inr M)), some (.inl 0), some (.inl 0)], [], pm_h M σ q y) rfl ?_ ?_
  · exact trivial
  · exact k
theorem b228_4 {d : Nat} {Φ : Option pe_V → pe_H → Prop} {σ : pe_H} {M q : Nat} {y : Nat → Int → Int} (hF : pm_F M σ) {x1 : Int} {x2 : Int}  (w0 : pe_in (y 0 3) := by unfold pe_in; omega) (w1 : pe_in x2 := by unfold pe_in; omega)  (k1 : (y 0 3) ≤ x2 → pe_X d 228 (27, [some (.inr (.inr M)), some (.inl x1), some (.inl x2)], [], pm_h M σ q y) Φ) (k2 : ¬ ((y 0 3) ≤ x2) → pe_X d 228 (12, [some (.inr (.inr M)), some (.inl x1), some (.inl x2)], [], pm_h M σ q y) Φ) : pe_X d 228 (4, [some (.inr (.inr M)), some (.inl x1), some (.inl x2)], [], pm_h M σ q y) Φ := by
  refine pe_blk 4 4 ck228 [pe_K (pm_h M σ q y) M = 9] (cond (decide ((pe_w (pe_I (pm_h M σ q y) M 3)) ≤ (pe_w x2))) 27 12, [some (.inr (.inr M)), some (.inl x1), some (.inl x2)], [], pm_h M σ q y) rfl ?_ ?_
  · first
    | (simp (disch := omega) only [pe_all, pe_wi w0, pe_wi w1, pe_I_wR, pe_K_wI, pe_K_wR, pm_I0, pm_KM hF, pm_Kh, pm_uj, pm_uk, pm_us]; done)
    | (simp (disch := omega) only [pe_all, pe_wi w0, pe_wi w1, pe_I_wR, pe_K_wI, pe_K_wR, pm_I0, pm_KM hF, pm_Kh, pm_uj, pm_uk, pm_us]; (repeat' apply And.intro) <;> first | assumption | omega | decide)
  · try simp (disch := omega) only [pe_wi w0, pe_wi w1, pe_I_wR, pe_K_wI, pe_K_wR, pm_I0, pm_KM hF, pm_Kh, pm_uj, pm_uk, pm_us]
    exact pe_two k1 k2
theorem b228_12 {d : Nat} {Φ : Option pe_V → pe_H → Prop} {σ : pe_H} {M q : Nat} {y : Nat → Int → Int} (hF : pm_F M σ) {x1 : Int} {x2 : Int}  (w0 : pe_in x2 := by unfold pe_in; omega) (h0 : 0 ≤ x2 := by first | assumption | omega) (h1 : x2 < 8 := by first | assumption | omega) (k : pe_X d 228 (4, [some (.inr (.inr M)), some (.inl (x1 + (y 10 x2))), some (.inl (x2 + 1))], [], pm_h M σ q y) Φ) : pe_X d 228 (12, [some (.inr (.inr M)), some (.inl x1), some (.inl x2)], [], pm_h M σ q y) Φ := by
  refine pe_blk 8 9 ck228 [pe_K (pm_h M σ q y) M = 9, pe_K (pm_h M σ q y) (pe_R (pm_h M σ q y) M 10) = 10, 0 ≤ (pe_w x2), (pe_w x2) < pe_L (pm_h M σ q y) (pe_R (pm_h M σ q y) M 10)] (4, [some (.inr (.inr M)), some (.inl (x1 + (pe_I (pm_h M σ q y) (pe_R (pm_h M σ q y) M 10) (pe_w x2)))), some (.inl (x2 + 1))], [], pm_h M σ q y) rfl ?_ ?_
  · first
    | (simp (disch := omega) only [pe_all, pe_wi w0, pe_I_wR, pe_K_wI, pe_K_wR, pe_L_wI, pe_L_wR, pe_R_nej, pe_R_wI, pm_Ik, pm_K10 hF, pm_KM hF, pm_Kh, pm_L10 hF, pm_Lh, pm_R10 hF, pm_Rh, pm_uj, pm_uk, pm_us]; done)
    | (simp (disch := omega) only [pe_all, pe_wi w0, pe_I_wR, pe_K_wI, pe_K_wR, pe_L_wI, pe_L_wR, pe_R_nej, pe_R_wI, pm_Ik, pm_K10 hF, pm_KM hF, pm_Kh, pm_L10 hF, pm_Lh, pm_R10 hF, pm_Rh, pm_uj, pm_uk, pm_us]; (repeat' apply And.intro) <;> first | assumption | omega | decide)
  · try simp (disch := omega) only [pe_wi w0, pe_I_wR, pe_K_wI, pe_K_wR, pe_L_wI, pe_L_wR, pe_R_nej, pe_R_wI, pm_Ik, pm_K10 hF, pm_KM hF, pm_Kh, pm_L10 hF, pm_Lh, pm_R10 hF, pm_Rh, pm_uj, pm_uk, pm_us]
    exact k
theorem b228_27 {d : Nat} {Φ : Option pe_V → pe_H → Prop} {σ : pe_H} {M q : Nat} {y : Nat → Int → Int} (hF : pm_F M σ) {x1 : Int} {o2 : Option pe_V}    (k : Φ (some (.inl x1)) (pm_h M σ q y)) : pe_X d 228 (27, [some (.inr (.inr M)), some (.inl x1), o2], [], pm_h M σ q y) Φ := by
  refine pe_blk 17 1 ck228 [] (28, [some (.inr (.inr M)), some (.inl x1), o2], [.inl x1], pm_h M σ q y) rfl ?_ ?_
  · exact trivial
  · exact pe_fine 18 ck228 rfl rfl rfl trivial k
-- StepMachinesModel.drawBelow(I)I
def T229 : List (Nat × Instr × Nat) := [(0, .aload_n 0, 1), (1, .aload_n 0, 1), (2, .getfield 446, 3), (5, .ldc_w 449, 3), (8, .imul, 1), (9, .sipush 12345, 3), (12, .iadd, 1), (13, .putfield 446, 3), (16, .aload_n 0, 1), (17, .getfield 446, 3), (20, .ldc_w 450, 3), (23, .iand, 1), (24, .ldc_w 451, 3), (27, .idiv, 1), (28, .iload_n 1, 1), (29, .irem, 1), (30, .ireturn, 1)]
theorem ck229 : pe_ctx 229 9 false (some .int) 2 T229 := ⟨rfl, rfl, rfl, rfl, by decide +kernel, by decide, by decide⟩
theorem b229_0 {d : Nat} {Φ : Option pe_V → pe_H → Prop} {σ : pe_H} {M q : Nat} {y : Nat → Int → Int} (hF : pm_F M σ) {x1 : Int}  (w0 : pe_in (pe_and (((y 0 56) * 1103515245) + 12345) 2147483647) := by unfold pe_in; omega) (w1 : pe_in x1 := by unfold pe_in; omega) (w2 : pe_in (Int.tdiv (pe_and (((y 0 56) * 1103515245) + 12345) 2147483647) 65536) := by unfold pe_in; omega) (h0 : ¬ 65536 = 0 := by first | assumption | omega) (h1 : ¬ x1 = 0 := by first | assumption | omega) (k : Φ (some (.inl (Int.tmod (Int.tdiv (pe_and (((y 0 56) * 1103515245) + 12345) 2147483647) 65536) x1))) (pm_h M σ q (pm_u y 0 56 (((y 0 56) * 1103515245) + 12345)))) : pe_X d 229 (0, [some (.inr (.inr M)), some (.inl x1)], [], pm_h M σ q y) Φ := by
  refine pe_blk 0 16 ck229 [pe_K (pm_h M σ q y) M = 9, pe_K (pm_h M σ q y) M = 9, pe_K (pe_wI (pm_h M σ q y) M 56 (((pe_I (pm_h M σ q y) M 56) * 1103515245) + 12345)) M = 9, ¬ (pe_w 65536) = 0, ¬ (pe_w x1) = 0] (30, [some (.inr (.inr M)), some (.inl x1)], [.inl (Int.tmod (pe_w (Int.tdiv (pe_w (pe_and (pe_I (pe_wI (pm_h M σ q y) M 56 (((pe_I (pm_h M σ q y) M 56) * 1103515245) + 12345)) M 56) 2147483647)) (pe_w 65536))) (pe_w x1))], pe_wI (pm_h M σ q y) M 56 (((pe_I (pm_h M σ q y) M 56) * 1103515245) + 12345)) rfl ?_ ?_
  · first
    | (simp (disch := omega) only [pe_all, pe_wi w0, pe_wi w1, pe_wi w2, pe_wi (x := 65536) ⟨by decide, by decide⟩, pe_I_wR, pe_K_wI, pe_K_wR, pm_I0, pm_KM hF, pm_Kh, pm_uj, pm_uk, pm_us, pm_wI0]; done)
    | (simp (disch := omega) only [pe_all, pe_wi w0, pe_wi w1, pe_wi w2, pe_wi (x := 65536) ⟨by decide, by decide⟩, pe_I_wR, pe_K_wI, pe_K_wR, pm_I0, pm_KM hF, pm_Kh, pm_uj, pm_uk, pm_us, pm_wI0]; (repeat' apply And.intro) <;> first | assumption | omega | decide)
  · try simp (disch := omega) only [pe_wi w0, pe_wi w1, pe_wi w2, pe_wi (x := 65536) ⟨by decide, by decide⟩, pe_I_wR, pe_K_wI, pe_K_wR, pm_I0, pm_KM hF, pm_Kh, pm_uj, pm_uk, pm_us, pm_wI0]
    exact pe_fine 16 ck229 rfl rfl rfl trivial k
-- StepMachinesModel.lots(III)I
def T230 : List (Nat × Instr × Nat) := [(0, .aload_n 0, 1), (1, .iconst 0, 1), (2, .putfield 141, 3), (5, .iload_n 1, 1), (6, .i2l, 1), (7, .lconst 1, 1), (8, .ldc2_w 422, 3), (11, .invokestatic 147, 3), (14, .ifCond .eq 13, 3), (17, .iload_n 3, 1), (18, .i2l, 1), (19, .lconst 0, 1), (20, .lconst 1, 1), (21, .invokestatic 147, 3), (24, .ifCond .ne 5, 3), (27, .iconst (-1), 1), (28, .ireturn, 1), (29, .aload_n 0, 1), (30, .iload_n 2, 1), (31, .putfield 446, 3), (34, .iconst 0, 1), (35, .istore 4, 2), (37, .aload_n 0, 1), (38, .invokevirtual 452, 3), (41, .istore 5, 2), (43, .aload_n 0, 1), (44, .invokevirtual 338, 3), (47, .iconst 0, 1), (48, .istore 6, 2), (50, .iload 6, 2), (52, .iload_n 1, 1), (53, .if_icmp .ge 102, 3), (56, .aload_n 0, 1), (57, .getfield 144, 3), (60, .ifCond .le 95, 3), (63, .iconst 0, 1), (64, .istore 7, 2), (66, .iload 7, 2), (68, .bipush 6, 2), (70, .if_icmp .ge 44, 3), (73, .aload_n 0, 1), (74, .aload_n 0, 1), (75, .getfield 144, 3), (78, .invokevirtual 455, 3), (81, .istore 8, 2), (83, .aload_n 0, 1), (84, .bipush 100, 2), (86, .invokevirtual 455, 3), (89, .istore 9, 2), (91, .aload_n 0, 1), (92, .iload 8, 2), (94, .invokevirtual 249, 3), (97, .ifCond .eq 11, 3), (100, .aload_n 0, 1), (101, .iload 8, 2), (103, .iload 9, 2), (105, .invokevirtual 303, 3), (108, .iinc 7 1, 3), (111, .goto (-45), 3), (114, .aload_n 0, 1), (115, .iconst 5, 1), (116, .invokevirtual 311, 3), (119, .iload 4, 2), (121, .iload_n 3, 1), (122, .ifCond .ne 13, 3), (125, .aload_n 0, 1), (126, .invokevirtual 452, 3), (129, .iload 5, 2), (131, .isub, 1), (132, .goto 10, 3), (135, .aload_n 0, 1), (136, .invokevirtual 391, 3), (139, .invokestatic 394, 3), (142, .iadd, 1), (143, .istore 4, 2), (145, .aload_n 0, 1), (146, .invokevirtual 344, 3), (149, .iinc 6 1, 3), (152, .goto (-102), 3), (155, .iload 4, 2), (157, .ireturn, 1)]
theorem ck230 : pe_ctx 230 9 false (some .int) 10 T230 := ⟨rfl, rfl, rfl, rfl, by decide +kernel, by decide, by decide⟩
theorem b230_0 {d : Nat} {Φ : Option pe_V → pe_H → Prop} {σ : pe_H} {M q : Nat} {y : Nat → Int → Int} (hF : pm_F M σ) {x1 : Int} {x2 : Int} {x3 : Int} {o4 : Option pe_V} {o5 : Option pe_V} {o6 : Option pe_V} {o7 : Option pe_V} {o8 : Option pe_V} {o9 : Option pe_V}  (w0 : pe_in x1 := by unfold pe_in; omega)  (k : pe_M d 134 [.inr (.inl x1), .inr (.inl 1), .inr (.inl 20)] (pm_h M σ q (pm_u y 0 37 0)) (fun r σ' => pe_X d 230 (14, [some (.inr (.inr M)), some (.inl x1), some (.inl x2), some (.inl x3), o4, o5, o6, o7, o8, o9], r.toList ++ [], σ') Φ)) : pe_X d 230 (0, [some (.inr (.inr M)), some (.inl x1), some (.inl x2), some (.inl x3), o4, o5, o6, o7, o8, o9], [], pm_h M σ q y) Φ := by
  refine pe_blk 0 7 ck230 [pe_K (pm_h M σ q y) M = 9] (11, [some (.inr (.inr M)), some (.inl x1), some (.inl x2), some (.inl x3), o4, o5, o6, o7, o8, o9], [.inr (.inl 20), .inr (.inl 1), .inr (.inl (pe_w x1))], pe_wI (pm_h M σ q y) M 37 0) rfl ?_ ?_
  · first
    | (simp (disch := omega) only [pe_all, pe_wi w0, pe_K_wI, pe_K_wR, pm_KM hF, pm_Kh, pm_wI0]; done)
    | (simp (disch := omega) only [pe_all, pe_wi w0, pe_K_wI, pe_K_wR, pm_KM hF, pm_Kh, pm_wI0]; (repeat' apply And.intro) <;> first | assumption | omega | decide)
  · try simp (disch := omega) only [pe_wi w0, pe_K_wI, pe_K_wR, pm_KM hF, pm_Kh, pm_wI0]
    exact pe_cal 7 ck230 rfl rfl rfl trivial k
theorem b230_14 {d : Nat} {Φ : Option pe_V → pe_H → Prop} {σ : pe_H} {M q : Nat} {y : Nat → Int → Int} (hF : pm_F M σ) {x1 : Int} {x2 : Int} {x3 : Int} {o4 : Option pe_V} {o5 : Option pe_V} {o6 : Option pe_V} {o7 : Option pe_V} {o8 : Option pe_V} {o9 : Option pe_V} {s0 : Int}  (w0 : pe_in s0 := by unfold pe_in; omega)  (k1 : s0 = 0 → pe_X d 230 (27, [some (.inr (.inr M)), some (.inl x1), some (.inl x2), some (.inl x3), o4, o5, o6, o7, o8, o9], [], pm_h M σ q y) Φ) (k2 : ¬ (s0 = 0) → pe_X d 230 (17, [some (.inr (.inr M)), some (.inl x1), some (.inl x2), some (.inl x3), o4, o5, o6, o7, o8, o9], [], pm_h M σ q y) Φ) : pe_X d 230 (14, [some (.inr (.inr M)), some (.inl x1), some (.inl x2), some (.inl x3), o4, o5, o6, o7, o8, o9], [.inl s0], pm_h M σ q y) Φ := by
  refine pe_blk 8 1 ck230 [] (cond (decide ((pe_w s0) = 0)) 27 17, [some (.inr (.inr M)), some (.inl x1), some (.inl x2), some (.inl x3), o4, o5, o6, o7, o8, o9], [], pm_h M σ q y) rfl ?_ ?_
  · exact trivial
  · try simp (disch := omega) only [pe_wi w0]
    exact pe_two k1 k2
theorem b230_17 {d : Nat} {Φ : Option pe_V → pe_H → Prop} {σ : pe_H} {M q : Nat} {y : Nat → Int → Int} (hF : pm_F M σ) {x1 : Int} {x2 : Int} {x3 : Int} {o4 : Option pe_V} {o5 : Option pe_V} {o6 : Option pe_V} {o7 : Option pe_V} {o8 : Option pe_V} {o9 : Option pe_V}  (w0 : pe_in x3 := by unfold pe_in; omega)  (k : pe_M d 134 [.inr (.inl x3), .inr (.inl 0), .inr (.inl 1)] (pm_h M σ q y) (fun r σ' => pe_X d 230 (24, [some (.inr (.inr M)), some (.inl x1), some (.inl x2), some (.inl x3), o4, o5, o6, o7, o8, o9], r.toList ++ [], σ') Φ)) : pe_X d 230 (17, [some (.inr (.inr M)), some (.inl x1), some (.inl x2), some (.inl x3), o4, o5, o6, o7, o8, o9], [], pm_h M σ q y) Φ := by
  refine pe_blk 9 4 ck230 [] (21, [some (.inr (.inr M)), some (.inl x1), some (.inl x2), some (.inl x3), o4, o5, o6, o7, o8, o9], [.inr (.inl 1), .inr (.inl 0), .inr (.inl (pe_w x3))], pm_h M σ q y) rfl ?_ ?_
  · exact trivial
  · try simp (disch := omega) only [pe_wi w0]
    exact pe_cal 13 ck230 rfl rfl rfl trivial k
theorem b230_24 {d : Nat} {Φ : Option pe_V → pe_H → Prop} {σ : pe_H} {M q : Nat} {y : Nat → Int → Int} (hF : pm_F M σ) {x1 : Int} {x2 : Int} {x3 : Int} {o4 : Option pe_V} {o5 : Option pe_V} {o6 : Option pe_V} {o7 : Option pe_V} {o8 : Option pe_V} {o9 : Option pe_V} {s0 : Int}  (w0 : pe_in s0 := by unfold pe_in; omega)  (k1 : ¬ s0 = 0 → pe_X d 230 (29, [some (.inr (.inr M)), some (.inl x1), some (.inl x2), some (.inl x3), o4, o5, o6, o7, o8, o9], [], pm_h M σ q y) Φ) (k2 : s0 = 0 → pe_X d 230 (27, [some (.inr (.inr M)), some (.inl x1), some (.inl x2), some (.inl x3), o4, o5, o6, o7, o8, o9], [], pm_h M σ q y) Φ) : pe_X d 230 (24, [some (.inr (.inr M)), some (.inl x1), some (.inl x2), some (.inl x3), o4, o5, o6, o7, o8, o9], [.inl s0], pm_h M σ q y) Φ := by
  refine pe_blk 14 1 ck230 [] (cond (decide (¬ (pe_w s0) = 0)) 29 27, [some (.inr (.inr M)), some (.inl x1), some (.inl x2), some (.inl x3), o4, o5, o6, o7, o8, o9], [], pm_h M σ q y) rfl ?_ ?_
  · exact trivial
  · try simp (disch := omega) only [pe_wi w0]
    exact pe_two' k1 k2
theorem b230_27 {d : Nat} {Φ : Option pe_V → pe_H → Prop} {σ : pe_H} {M q : Nat} {y : Nat → Int → Int} (hF : pm_F M σ) {o1 : Option pe_V} {o2 : Option pe_V} {o3 : Option pe_V} {o4 : Option pe_V} {o5 : Option pe_V} {o6 : Option pe_V} {o7 : Option pe_V} {o8 : Option pe_V} {o9 : Option pe_V}    (k : Φ (some (.inl (-1))) (pm_h M σ q y)) : pe_X d 230 (27, [some (.inr (.inr M)), o1, o2, o3, o4, o5, o6, o7, o8, o9], [], pm_h M σ q y) Φ := by
  refine pe_blk 15 1 ck230 [] (28, [some (.inr (.inr M)), o1, o2, o3, o4, o5, o6, o7, o8, o9], [.inl (-1)], pm_h M σ q y) rfl ?_ ?_
  · exact trivial
  · exact pe_fine 16 ck230 rfl rfl rfl trivial k
theorem b230_29 {d : Nat} {Φ : Option pe_V → pe_H → Prop} {σ : pe_H} {M q : Nat} {y : Nat → Int → Int} (hF : pm_F M σ) {x1 : Int} {x2 : Int} {x3 : Int} {o4 : Option pe_V} {o5 : Option pe_V} {o6 : Option pe_V} {o7 : Option pe_V} {o8 : Option pe_V} {o9 : Option pe_V}    (k : pe_M d 228 [.inr (.inr M)] (pm_h M σ q (pm_u y 0 56 x2)) (fun r σ' => pe_X d 230 (41, [some (.inr (.inr M)), some (.inl x1), some (.inl x2), some (.inl x3), some (.inl 0), o5, o6, o7, o8, o9], r.toList ++ [], σ') Φ)) : pe_X d 230 (29, [some (.inr (.inr M)), some (.inl x1), some (.inl x2), some (.inl x3), o4, o5, o6, o7, o8, o9], [], pm_h M σ q y) Φ := by
  refine pe_blk 17 6 ck230 [pe_K (pm_h M σ q y) M = 9] (38, [some (.inr (.inr M)), some (.inl x1), some (.inl x2), some (.inl x3), some (.inl 0), o5, o6, o7, o8, o9], [.inr (.inr M)], pe_wI (pm_h M σ q y) M 56 x2) rfl ?_ ?_
  · first
    | (simp (disch := omega) only [pe_all, pe_K_wI, pe_K_wR, pm_KM hF, pm_Kh, pm_wI0]; done)
    | (simp (disch := omega) only [pe_all, pe_K_wI, pe_K_wR, pm_KM hF, pm_Kh, pm_wI0]; (repeat' apply And.intro) <;> first | assumption | omega | decide)
  · try simp (disch := omega) only [pe_K_wI, pe_K_wR, pm_KM hF, pm_Kh, pm_wI0]
    have hrc : pe_K (pm_h M σ q (pm_u y 0 56 x2)) M = 9 := by first | assumption | (simp (disch := omega) only [pe_K_wI, pe_K_wR, pm_KM hF, pm_Kh, pm_wI0]; done) | (simp (disch := omega) only [pe_K_wI, pe_K_wR, pm_KM hF, pm_Kh, pm_wI0]; assumption)
    exact pe_cal 23 ck230 rfl rfl rfl ⟨hrc, by decide⟩ k
theorem b230_41 {d : Nat} {Φ : Option pe_V → pe_H → Prop} {σ : pe_H} {M q : Nat} {y : Nat → Int → Int} (hF : pm_F M σ) {x1 : Int} {o2 : Option pe_V} {x3 : Int} {x4 : Int} {o5 : Option pe_V} {o6 : Option pe_V} {o7 : Option pe_V} {o8 : Option pe_V} {o9 : Option pe_V} {s0 : Int}    (k : pe_M d 187 [.inr (.inr M)] (pm_h M σ q y) (fun r σ' => pe_X d 230 (47, [some (.inr (.inr M)), some (.inl x1), o2, some (.inl x3), some (.inl x4), some (.inl s0), o6, o7, o8, o9], r.toList ++ [], σ') Φ)) : pe_X d 230 (41, [some (.inr (.inr M)), some (.inl x1), o2, some (.inl x3), some (.inl x4), o5, o6, o7, o8, o9], [.inl s0], pm_h M σ q y) Φ := by
  refine pe_blk 24 2 ck230 [] (44, [some (.inr (.inr M)), some (.inl x1), o2, some (.inl x3), some (.inl x4), some (.inl s0), o6, o7, o8, o9], [.inr (.inr M)], pm_h M σ q y) rfl ?_ ?_
  · exact trivial
  · try simp (disch := omega) only [pe_K_wI, pe_K_wR, pm_KM hF, pm_Kh]
    have hrc : pe_K (pm_h M σ q y) M = 9 := by first | assumption | (simp (disch := omega) only [pe_K_wI, pe_K_wR, pm_KM hF, pm_Kh]; done) | (simp (disch := omega) only [pe_K_wI, pe_K_wR, pm_KM hF, pm_Kh]; assumption)
    exact pe_cal 26 ck230 rfl rfl rfl ⟨hrc, by decide⟩ k
theorem b230_47 {d : Nat} {Φ : Option pe_V → pe_H → Prop} {σ : pe_H} {M q : Nat} {y : Nat → Int → Int} (hF : pm_F M σ) {x1 : Int} {o2 : Option pe_V} {x3 : Int} {x4 : Int} {x5 : Int} {o6 : Option pe_V} {o7 : Option pe_V} {o8 : Option pe_V} {o9 : Option pe_V}    (k : pe_X d 230 (50, [some (.inr (.inr M)), some (.inl x1), o2, some (.inl x3), some (.inl x4), some (.inl x5), some (.inl 0), o7, o8, o9], [], pm_h M σ q y) Φ) : pe_X d 230 (47, [some (.inr (.inr M)), some (.inl x1), o2, some (.inl x3), some (.inl x4), some (.inl x5), o6, o7, o8, o9], [], pm_h M σ q y) Φ := by
  refine pe_blk 27 2 ck230 [] (50, [some (.inr (.inr M)), some (.inl x1), o2, some (.inl x3), some (.inl x4), some (.inl x5), some (.inl 0), o7, o8, o9], [], pm_h M σ q y) rfl ?_ ?_
  · exact trivial
  · exact k
theorem b230_50 {d : Nat} {Φ : Option pe_V → pe_H → Prop} {σ : pe_H} {M q : Nat} {y : Nat → Int → Int} (hF : pm_F M σ) {x1 : Int} {o2 : Option pe_V} {x3 : Int} {x4 : Int} {x5 : Int} {x6 : Int} {o7 : Option pe_V} {o8 : Option pe_V} {o9 : Option pe_V}  (w0 : pe_in x1 := by unfold pe_in; omega) (w1 : pe_in x6 := by unfold pe_in; omega)  (k1 : x1 ≤ x6 → pe_X d 230 (155, [some (.inr (.inr M)), some (.inl x1), o2, some (.inl x3), some (.inl x4), some (.inl x5), some (.inl x6), o7, o8, o9], [], pm_h M σ q y) Φ) (k2 : ¬ (x1 ≤ x6) → pe_X d 230 (56, [some (.inr (.inr M)), some (.inl x1), o2, some (.inl x3), some (.inl x4), some (.inl x5), some (.inl x6), o7, o8, o9], [], pm_h M σ q y) Φ) : pe_X d 230 (50, [some (.inr (.inr M)), some (.inl x1), o2, some (.inl x3), some (.inl x4), some (.inl x5), some (.inl x6), o7, o8, o9], [], pm_h M σ q y) Φ := by
  refine pe_blk 29 3 ck230 [] (cond (decide ((pe_w x1) ≤ (pe_w x6))) 155 56, [some (.inr (.inr M)), some (.inl x1), o2, some (.inl x3), some (.inl x4), some (.inl x5), some (.inl x6), o7, o8, o9], [], pm_h M σ q y) rfl ?_ ?_
  · exact trivial
  · try simp (disch := omega) only [pe_wi w0, pe_wi w1]
    exact pe_two k1 k2
theorem b230_56 {d : Nat} {Φ : Option pe_V → pe_H → Prop} {σ : pe_H} {M q : Nat} {y : Nat → Int → Int} (hF : pm_F M σ) {x1 : Int} {o2 : Option pe_V} {x3 : Int} {x4 : Int} {x5 : Int} {x6 : Int} {o7 : Option pe_V} {o8 : Option pe_V} {o9 : Option pe_V}  (w0 : pe_in (y 0 3) := by unfold pe_in; omega)  (k1 : (y 0 3) ≤ 0 → pe_X d 230 (155, [some (.inr (.inr M)), some (.inl x1), o2, some (.inl x3), some (.inl x4), some (.inl x5), some (.inl x6), o7, o8, o9], [], pm_h M σ q y) Φ) (k2 : ¬ ((y 0 3) ≤ 0) → pe_X d 230 (63, [some (.inr (.inr M)), some (.inl x1), o2, some (.inl x3), some (.inl x4), some (.inl x5), some (.inl x6), o7, o8, o9], [], pm_h M σ q y) Φ) : pe_X d 230 (56, [some (.inr (.inr M)), some (.inl x1), o2, some (.inl x3), some (.inl x4), some (.inl x5), some (.inl x6), o7, o8, o9], [], pm_h M σ q y) Φ := by
  refine pe_blk 32 3 ck230 [pe_K (pm_h M σ q y) M = 9] (cond (decide ((pe_w (pe_I (pm_h M σ q y) M 3)) ≤ 0)) 155 63, [some (.inr (.inr M)), some (.inl x1), o2, some (.inl x3), some (.inl x4), some (.inl x5), some (.inl x6), o7, o8, o9], [], pm_h M σ q y) rfl ?_ ?_
  · first
    | (simp (disch := omega) only [pe_all, pe_wi w0, pe_I_wR, pe_K_wI, pe_K_wR, pm_I0, pm_KM hF, pm_Kh, pm_uj, pm_uk, pm_us]; done)
    | (simp (disch := omega) only [pe_all, pe_wi w0, pe_I_wR, pe_K_wI, pe_K_wR, pm_I0, pm_KM hF, pm_Kh, pm_uj, pm_uk, pm_us]; (repeat' apply And.intro) <;> first | assumption | omega | decide)
  · try simp (disch := omega) only [pe_wi w0, pe_I_wR, pe_K_wI, pe_K_wR, pm_I0, pm_KM hF, pm_Kh, pm_uj, pm_uk, pm_us]
    exact pe_two k1 k2
theorem b230_63 {d : Nat} {Φ : Option pe_V → pe_H → Prop} {σ : pe_H} {M q : Nat} {y : Nat → Int → Int} (hF : pm_F M σ) {x1 : Int} {o2 : Option pe_V} {x3 : Int} {x4 : Int} {x5 : Int} {x6 : Int} {o7 : Option pe_V} {o8 : Option pe_V} {o9 : Option pe_V}    (k : pe_X d 230 (66, [some (.inr (.inr M)), some (.inl x1), o2, some (.inl x3), some (.inl x4), some (.inl x5), some (.inl x6), some (.inl 0), o8, o9], [], pm_h M σ q y) Φ) : pe_X d 230 (63, [some (.inr (.inr M)), some (.inl x1), o2, some (.inl x3), some (.inl x4), some (.inl x5), some (.inl x6), o7, o8, o9], [], pm_h M σ q y) Φ := by
  refine pe_blk 35 2 ck230 [] (66, [some (.inr (.inr M)), some (.inl x1), o2, some (.inl x3), some (.inl x4), some (.inl x5), some (.inl x6), some (.inl 0), o8, o9], [], pm_h M σ q y) rfl ?_ ?_
  · exact trivial
  · exact k
theorem b230_66 {d : Nat} {Φ : Option pe_V → pe_H → Prop} {σ : pe_H} {M q : Nat} {y : Nat → Int → Int} (hF : pm_F M σ) {x1 : Int} {o2 : Option pe_V} {x3 : Int} {x4 : Int} {x5 : Int} {x6 : Int} {x7 : Int} {o8 : Option pe_V} {o9 : Option pe_V}  (w0 : pe_in x7 := by unfold pe_in; omega)  (k1 : 6 ≤ x7 → pe_X d 230 (114, [some (.inr (.inr M)), some (.inl x1), o2, some (.inl x3), some (.inl x4), some (.inl x5), some (.inl x6), some (.inl x7), o8, o9], [], pm_h M σ q y) Φ) (k2 : ¬ (6 ≤ x7) → pe_X d 230 (73, [some (.inr (.inr M)), some (.inl x1), o2, some (.inl x3), some (.inl x4), some (.inl x5), some (.inl x6), some (.inl x7), o8, o9], [], pm_h M σ q y) Φ) : pe_X d 230 (66, [some (.inr (.inr M)), some (.inl x1), o2, some (.inl x3), some (.inl x4), some (.inl x5), some (.inl x6), some (.inl x7), o8, o9], [], pm_h M σ q y) Φ := by
  refine pe_blk 37 3 ck230 [] (cond (decide ((pe_w 6) ≤ (pe_w x7))) 114 73, [some (.inr (.inr M)), some (.inl x1), o2, some (.inl x3), some (.inl x4), some (.inl x5), some (.inl x6), some (.inl x7), o8, o9], [], pm_h M σ q y) rfl ?_ ?_
  · exact trivial
  · try simp (disch := omega) only [pe_wi w0, pe_wi (x := 6) ⟨by decide, by decide⟩]
    exact pe_two k1 k2
theorem b230_73 {d : Nat} {Φ : Option pe_V → pe_H → Prop} {σ : pe_H} {M q : Nat} {y : Nat → Int → Int} (hF : pm_F M σ) {x1 : Int} {o2 : Option pe_V} {x3 : Int} {x4 : Int} {x5 : Int} {x6 : Int} {x7 : Int} {o8 : Option pe_V} {o9 : Option pe_V}    (k : pe_M d 229 [.inr (.inr M), .inl (y 0 3)] (pm_h M σ q y) (fun r σ' => pe_X d 230 (81, [some (.inr (.inr M)), some (.inl x1), o2, some (.inl x3), some (.inl x4), some (.inl x5), some (.inl x6), some (.inl x7), o8, o9], r.toList ++ [], σ') Φ)) : pe_X d 230 (73, [some (.inr (.inr M)), some (.inl x1), o2, some (.inl x3), some (.inl x4), some (.inl x5), some (.inl x6), some (.inl x7), o8, o9], [], pm_h M σ q y) Φ := by
  refine pe_blk 40 3 ck230 [pe_K (pm_h M σ q y) M = 9] (78, [some (.inr (.inr M)), some (.inl x1), o2, some (.inl x3), some (.inl x4), some (.inl x5), some (.inl x6), some (.inl x7), o8, o9], [.inl (pe_I (pm_h M σ q y) M 3), .inr (.inr M)], pm_h M σ q y) rfl ?_ ?_
  · first
    | (simp (disch := omega) only [pe_all, pe_I_wR, pe_K_wI, pe_K_wR, pm_I0, pm_KM hF, pm_Kh, pm_uj, pm_uk, pm_us]; done)
    | (simp (disch := omega) only [pe_all, pe_I_wR, pe_K_wI, pe_K_wR, pm_I0, pm_KM hF, pm_Kh, pm_uj, pm_uk, pm_us]; (repeat' apply And.intro) <;> first | assumption | omega | decide)
  · try simp (disch := omega) only [pe_I_wR, pe_K_wI, pe_K_wR, pm_I0, pm_KM hF, pm_Kh, pm_uj, pm_uk, pm_us]
    have hrc : pe_K (pm_h M σ q y) M = 9 := by first | assumption | (simp (disch := omega) only [pe_I_wR, pe_K_wI, pe_K_wR, pm_I0, pm_KM hF, pm_Kh, pm_uj, pm_uk, pm_us]; done) | (simp (disch := omega) only [pe_I_wR, pe_K_wI, pe_K_wR, pm_I0, pm_KM hF, pm_Kh, pm_uj, pm_uk, pm_us]; assumption)
    exact pe_cal 43 ck230 rfl rfl rfl ⟨hrc, by decide⟩ k
theorem b230_81 {d : Nat} {Φ : Option pe_V → pe_H → Prop} {σ : pe_H} {M q : Nat} {y : Nat → Int → Int} (hF : pm_F M σ) {x1 : Int} {o2 : Option pe_V} {x3 : Int} {x4 : Int} {x5 : Int} {x6 : Int} {x7 : Int} {o8 : Option pe_V} {o9 : Option pe_V} {s0 : Int}    (k : pe_M d 229 [.inr (.inr M), .inl 100] (pm_h M σ q y) (fun r σ' => pe_X d 230 (89, [some (.inr (.inr M)), some (.inl x1), o2, some (.inl x3), some (.inl x4), some (.inl x5), some (.inl x6), some (.inl x7), some (.inl s0), o9], r.toList ++ [], σ') Φ)) : pe_X d 230 (81, [some (.inr (.inr M)), some (.inl x1), o2, some (.inl x3), some (.inl x4), some (.inl x5), some (.inl x6), some (.inl x7), o8, o9], [.inl s0], pm_h M σ q y) Φ := by
  refine pe_blk 44 3 ck230 [] (86, [some (.inr (.inr M)), some (.inl x1), o2, some (.inl x3), some (.inl x4), some (.inl x5), some (.inl x6), some (.inl x7), some (.inl s0), o9], [.inl 100, .inr (.inr M)], pm_h M σ q y) rfl ?_ ?_
  · exact trivial
  · try simp (disch := omega) only [pe_K_wI, pe_K_wR, pm_KM hF, pm_Kh]
    have hrc : pe_K (pm_h M σ q y) M = 9 := by first | assumption | (simp (disch := omega) only [pe_K_wI, pe_K_wR, pm_KM hF, pm_Kh]; done) | (simp (disch := omega) only [pe_K_wI, pe_K_wR, pm_KM hF, pm_Kh]; assumption)
    exact pe_cal 47 ck230 rfl rfl rfl ⟨hrc, by decide⟩ k
set_option maxRecDepth 8000 in
theorem b230_89 {d : Nat} {Φ : Option pe_V → pe_H → Prop} {σ : pe_H} {M q : Nat} {y : Nat → Int → Int} (hF : pm_F M σ) {x1 : Int} {o2 : Option pe_V} {x3 : Int} {x4 : Int} {x5 : Int} {x6 : Int} {x7 : Int} {x8 : Int} {o9 : Option pe_V} {s0 : Int}    (k : pe_M d 140 [.inr (.inr M), .inl x8] (pm_h M σ q y) (fun r σ' => pe_X d 230 (97, [some (.inr (.inr M)), some (.inl x1), o2, some (.inl x3), some (.inl x4), some (.inl x5), some (.inl x6), some (.inl x7), some (.inl x8), some (.inl s0)], r.toList ++ [], σ') Φ)) : pe_X d 230 (89, [some (.inr (.inr M)), some (.inl x1), o2, some (.inl x3), some (.inl x4), some (.inl x5), some (.inl x6), some (.inl x7), some (.inl x8), o9], [.inl s0], pm_h M σ q y) Φ := by
  refine pe_blk 48 3 ck230 [] (94, [some (.inr (.inr M)), some (.inl x1), o2, some (.inl x3), some (.inl x4), some (.inl x5), some (.inl x6), some (.inl x7), some (.inl x8), some (.inl s0)], [.inl x8, .inr (.inr M)], pm_h M σ q y) rfl ?_ ?_
  · exact trivial
  · try simp (disch := omega) only [pe_K_wI, pe_K_wR, pm_KM hF, pm_Kh]
    have hrc : pe_K (pm_h M σ q y) M = 9 := by first | assumption | (simp (disch := omega) only [pe_K_wI, pe_K_wR, pm_KM hF, pm_Kh]; done) | (simp (disch := omega) only [pe_K_wI, pe_K_wR, pm_KM hF, pm_Kh]; assumption)
    exact pe_cal 51 ck230 rfl rfl rfl ⟨hrc, by decide⟩ k
set_option maxRecDepth 8000 in
theorem b230_97 {d : Nat} {Φ : Option pe_V → pe_H → Prop} {σ : pe_H} {M q : Nat} {y : Nat → Int → Int} (hF : pm_F M σ) {x1 : Int} {o2 : Option pe_V} {x3 : Int} {x4 : Int} {x5 : Int} {x6 : Int} {x7 : Int} {x8 : Int} {x9 : Int} {s0 : Int}  (w0 : pe_in s0 := by unfold pe_in; omega)  (k1 : s0 = 0 → pe_X d 230 (108, [some (.inr (.inr M)), some (.inl x1), o2, some (.inl x3), some (.inl x4), some (.inl x5), some (.inl x6), some (.inl x7), some (.inl x8), some (.inl x9)], [], pm_h M σ q y) Φ) (k2 : ¬ (s0 = 0) → pe_X d 230 (100, [some (.inr (.inr M)), some (.inl x1), o2, some (.inl x3), some (.inl x4), some (.inl x5), some (.inl x6), some (.inl x7), some (.inl x8), some (.inl x9)], [], pm_h M σ q y) Φ) : pe_X d 230 (97, [some (.inr (.inr M)), some (.inl x1), o2, some (.inl x3), some (.inl x4), some (.inl x5), some (.inl x6), some (.inl x7), some (.inl x8), some (.inl x9)], [.inl s0], pm_h M σ q y) Φ := by
  refine pe_blk 52 1 ck230 [] (cond (decide ((pe_w s0) = 0)) 108 100, [some (.inr (.inr M)), some (.inl x1), o2, some (.inl x3), some (.inl x4), some (.inl x5), some (.inl x6), some (.inl x7), some (.inl x8), some (.inl x9)], [], pm_h M σ q y) rfl ?_ ?_
  · exact trivial
  · try simp (disch := omega) only [pe_wi w0]
    exact pe_two k1 k2
set_option maxRecDepth 8000 in
theorem b230_100 {d : Nat} {Φ : Option pe_V → pe_H → Prop} {σ : pe_H} {M q : Nat} {y : Nat → Int → Int} (hF : pm_F M σ) {x1 : Int} {o2 : Option pe_V} {x3 : Int} {x4 : Int} {x5 : Int} {x6 : Int} {x7 : Int} {x8 : Int} {x9 : Int}    (k : pe_M d 166 [.inr (.inr M), .inl x8, .inl x9] (pm_h M σ q y) (fun r σ' => pe_X d 230 (108, [some (.inr (.inr M)), some (.inl x1), o2, some (.inl x3), some (.inl x4), some (.inl x5), some (.inl x6), some (.inl x7), some (.inl x8), some (.inl x9)], r.toList ++ [], σ') Φ)) : pe_X d 230 (100, [some (.inr (.inr M)), some (.inl x1), o2, some (.inl x3), some (.inl x4), some (.inl x5), some (.inl x6), some (.inl x7), some (.inl x8), some (.inl x9)], [], pm_h M σ q y) Φ := by
  refine pe_blk 53 3 ck230 [] (105, [some (.inr (.inr M)), some (.inl x1), o2, some (.inl x3), some (.inl x4), some (.inl x5), some (.inl x6), some (.inl x7), some (.inl x8), some (.inl x9)], [.inl x9, .inl x8, .inr (.inr M)], pm_h M σ q y) rfl ?_ ?_
  · exact trivial
  · try simp (disch := omega) only [pe_K_wI, pe_K_wR, pm_KM hF, pm_Kh]
    have hrc : pe_K (pm_h M σ q y) M = 9 := by first | assumption | (simp (disch := omega) only [pe_K_wI, pe_K_wR, pm_KM hF, pm_Kh]; done) | (simp (disch := omega) only [pe_K_wI, pe_K_wR, pm_KM hF, pm_Kh]; assumption)
    exact pe_cal 56 ck230 rfl rfl rfl ⟨hrc, by decide⟩ k
set_option maxRecDepth 8000 in
theorem b230_108 {d : Nat} {Φ : Option pe_V → pe_H → Prop} {σ : pe_H} {M q : Nat} {y : Nat → Int → Int} (hF : pm_F M σ) {x1 : Int} {o2 : Option pe_V} {x3 : Int} {x4 : Int} {x5 : Int} {x6 : Int} {x7 : Int} {o8 : Option pe_V} {o9 : Option pe_V}    (k : pe_X d 230 (66, [some (.inr (.inr M)), some (.inl x1), o2, some (.inl x3), some (.inl x4), some (.inl x5), some (.inl x6), some (.inl (x7 + 1)), o8, o9], [], pm_h M σ q y) Φ) : pe_X d 230 (108, [some (.inr (.inr M)), some (.inl x1), o2, some (.inl x3), some (.inl x4), some (.inl x5), some (.inl x6), some (.inl x7), o8, o9], [], pm_h M σ q y) Φ := by
  refine pe_blk 57 2 ck230 [] (66, [some (.inr (.inr M)), some (.inl x1), o2, some (.inl x3), some (.inl x4), some (.inl x5), some (.inl x6), some (.inl (x7 + 1)), o8, o9], [], pm_h M σ q y) rfl ?_ ?_
  · exact trivial
  · exact k
set_option maxRecDepth 8000 in
theorem b230_114 {d : Nat} {Φ : Option pe_V → pe_H → Prop} {σ : pe_H} {M q : Nat} {y : Nat → Int → Int} (hF : pm_F M σ) {x1 : Int} {o2 : Option pe_V} {x3 : Int} {x4 : Int} {x5 : Int} {x6 : Int} {o7 : Option pe_V} {o8 : Option pe_V} {o9 : Option pe_V}    (k : pe_M d 170 [.inr (.inr M), .inl 5] (pm_h M σ q y) (fun r σ' => pe_X d 230 (119, [some (.inr (.inr M)), some (.inl x1), o2, some (.inl x3), some (.inl x4), some (.inl x5), some (.inl x6), o7, o8, o9], r.toList ++ [], σ') Φ)) : pe_X d 230 (114, [some (.inr (.inr M)), some (.inl x1), o2, some (.inl x3), some (.inl x4), some (.inl x5), some (.inl x6), o7, o8, o9], [], pm_h M σ q y) Φ := by
  refine pe_blk 59 2 ck230 [] (116, [some (.inr (.inr M)), some (.inl x1), o2, some (.inl x3), some (.inl x4), some (.inl x5), some (.inl x6), o7, o8, o9], [.inl 5, .inr (.inr M)], pm_h M σ q y) rfl ?_ ?_
  · exact trivial
  · try simp (disch := omega) only [pe_K_wI, pe_K_wR, pm_KM hF, pm_Kh]
    have hrc : pe_K (pm_h M σ q y) M = 9 := by first | assumption | (simp (disch := omega) only [pe_K_wI, pe_K_wR, pm_KM hF, pm_Kh]; done) | (simp (disch := omega) only [pe_K_wI, pe_K_wR, pm_KM hF, pm_Kh]; assumption)
    exact pe_cal 61 ck230 rfl rfl rfl ⟨hrc, by decide⟩ k
set_option maxRecDepth 8000 in
theorem b230_119 {d : Nat} {Φ : Option pe_V → pe_H → Prop} {σ : pe_H} {M q : Nat} {y : Nat → Int → Int} (hF : pm_F M σ) {x1 : Int} {o2 : Option pe_V} {x3 : Int} {x4 : Int} {x5 : Int} {x6 : Int} {o7 : Option pe_V} {o8 : Option pe_V} {o9 : Option pe_V}  (w0 : pe_in x3 := by unfold pe_in; omega)  (k1 : ¬ x3 = 0 → pe_X d 230 (135, [some (.inr (.inr M)), some (.inl x1), o2, some (.inl x3), some (.inl x4), some (.inl x5), some (.inl x6), o7, o8, o9], [.inl x4], pm_h M σ q y) Φ) (k2 : x3 = 0 → pe_X d 230 (125, [some (.inr (.inr M)), some (.inl x1), o2, some (.inl x3), some (.inl x4), some (.inl x5), some (.inl x6), o7, o8, o9], [.inl x4], pm_h M σ q y) Φ) : pe_X d 230 (119, [some (.inr (.inr M)), some (.inl x1), o2, some (.inl x3), some (.inl x4), some (.inl x5), some (.inl x6), o7, o8, o9], [], pm_h M σ q y) Φ := by
  refine pe_blk 62 3 ck230 [] (cond (decide (¬ (pe_w x3) = 0)) 135 125, [some (.inr (.inr M)), some (.inl x1), o2, some (.inl x3), some (.inl x4), some (.inl x5), some (.inl x6), o7, o8, o9], [.inl x4], pm_h M σ q y) rfl ?_ ?_
  · exact trivial
  · try simp (disch := omega) only [pe_wi w0]
    exact pe_two' k1 k2
set_option maxRecDepth 8000 in
theorem b230_125 {d : Nat} {Φ : Option pe_V → pe_H → Prop} {σ : pe_H} {M q : Nat} {y : Nat → Int → Int} (hF : pm_F M σ) {x1 : Int} {o2 : Option pe_V} {x3 : Int} {o4 : Option pe_V} {x5 : Int} {x6 : Int} {o7 : Option pe_V} {o8 : Option pe_V} {o9 : Option pe_V} {s0 : Int}    (k : pe_M d 228 [.inr (.inr M)] (pm_h M σ q y) (fun r σ' => pe_X d 230 (129, [some (.inr (.inr M)), some (.inl x1), o2, some (.inl x3), o4, some (.inl x5), some (.inl x6), o7, o8, o9], r.toList ++ [.inl s0], σ') Φ)) : pe_X d 230 (125, [some (.inr (.inr M)), some (.inl x1), o2, some (.inl x3), o4, some (.inl x5), some (.inl x6), o7, o8, o9], [.inl s0], pm_h M σ q y) Φ := by
  refine pe_blk 65 1 ck230 [] (126, [some (.inr (.inr M)), some (.inl x1), o2, some (.inl x3), o4, some (.inl x5), some (.inl x6), o7, o8, o9], [.inr (.inr M), .inl s0], pm_h M σ q y) rfl ?_ ?_
  · exact trivial
  · try simp (disch := omega) only [pe_K_wI, pe_K_wR, pm_KM hF, pm_Kh]
    have hrc : pe_K (pm_h M σ q y) M = 9 := by first | assumption | (simp (disch := omega) only [pe_K_wI, pe_K_wR, pm_KM hF, pm_Kh]; done) | (simp (disch := omega) only [pe_K_wI, pe_K_wR, pm_KM hF, pm_Kh]; assumption)
    exact pe_cal 66 ck230 rfl rfl rfl ⟨hrc, by decide⟩ k
set_option maxRecDepth 8000 in
theorem b230_129 {d : Nat} {Φ : Option pe_V → pe_H → Prop} {σ : pe_H} {M q : Nat} {y : Nat → Int → Int} (hF : pm_F M σ) {x1 : Int} {o2 : Option pe_V} {x3 : Int} {o4 : Option pe_V} {x5 : Int} {x6 : Int} {o7 : Option pe_V} {o8 : Option pe_V} {o9 : Option pe_V} {s0 : Int} {s1 : Int}    (k : pe_X d 230 (142, [some (.inr (.inr M)), some (.inl x1), o2, some (.inl x3), o4, some (.inl x5), some (.inl x6), o7, o8, o9], [.inl (s1 - x5), .inl s0], pm_h M σ q y) Φ) : pe_X d 230 (129, [some (.inr (.inr M)), some (.inl x1), o2, some (.inl x3), o4, some (.inl x5), some (.inl x6), o7, o8, o9], [.inl s1, .inl s0], pm_h M σ q y) Φ := by
  refine pe_blk 67 3 ck230 [] (142, [some (.inr (.inr M)), some (.inl x1), o2, some (.inl x3), o4, some (.inl x5), some (.inl x6), o7, o8, o9], [.inl (s1 - x5), .inl s0], pm_h M σ q y) rfl ?_ ?_
  · exact trivial
  · exact k
set_option maxRecDepth 8000 in
theorem b230_135 {d : Nat} {Φ : Option pe_V → pe_H → Prop} {σ : pe_H} {M q : Nat} {y : Nat → Int → Int} (hF : pm_F M σ) {x1 : Int} {o2 : Option pe_V} {x3 : Int} {o4 : Option pe_V} {x5 : Int} {x6 : Int} {o7 : Option pe_V} {o8 : Option pe_V} {o9 : Option pe_V} {s0 : Int}    (k : pe_M d 141 [.inr (.inr M)] (pm_h M σ q y) (fun r σ' => pe_X d 230 (139, [some (.inr (.inr M)), some (.inl x1), o2, some (.inl x3), o4, some (.inl x5), some (.inl x6), o7, o8, o9], r.toList ++ [.inl s0], σ') Φ)) : pe_X d 230 (135, [some (.inr (.inr M)), some (.inl x1), o2, some (.inl x3), o4, some (.inl x5), some (.inl x6), o7, o8, o9], [.inl s0], pm_h M σ q y) Φ := by
  refine pe_blk 70 1 ck230 [] (136, [some (.inr (.inr M)), some (.inl x1), o2, some (.inl x3), o4, some (.inl x5), some (.inl x6), o7, o8, o9], [.inr (.inr M), .inl s0], pm_h M σ q y) rfl ?_ ?_
  · exact trivial
  · try simp (disch := omega) only [pe_K_wI, pe_K_wR, pm_KM hF, pm_Kh]
    have hrc : pe_K (pm_h M σ q y) M = 9 := by first | assumption | (simp (disch := omega) only [pe_K_wI, pe_K_wR, pm_KM hF, pm_Kh]; done) | (simp (disch := omega) only [pe_K_wI, pe_K_wR, pm_KM hF, pm_Kh]; assumption)
    exact pe_cal 71 ck230 rfl rfl rfl ⟨hrc, by decide⟩ k
set_option maxRecDepth 8000 in
theorem b230_139 {d : Nat} {Φ : Option pe_V → pe_H → Prop} {σ : pe_H} {M q : Nat} {y : Nat → Int → Int} (hF : pm_F M σ) {x1 : Int} {o2 : Option pe_V} {x3 : Int} {o4 : Option pe_V} {x5 : Int} {x6 : Int} {o7 : Option pe_V} {o8 : Option pe_V} {o9 : Option pe_V} {s0 : Int} {s1 : Int}    (k : pe_M d 136 [.inl s1] (pm_h M σ q y) (fun r σ' => pe_X d 230 (142, [some (.inr (.inr M)), some (.inl x1), o2, some (.inl x3), o4, some (.inl x5), some (.inl x6), o7, o8, o9], r.toList ++ [.inl s0], σ') Φ)) : pe_X d 230 (139, [some (.inr (.inr M)), some (.inl x1), o2, some (.inl x3), o4, some (.inl x5), some (.inl x6), o7, o8, o9], [.inl s1, .inl s0], pm_h M σ q y) Φ := by
  exact pe_cal 72 ck230 rfl rfl rfl trivial k
set_option maxRecDepth 8000 in
theorem b230_142 {d : Nat} {Φ : Option pe_V → pe_H → Prop} {σ : pe_H} {M q : Nat} {y : Nat → Int → Int} (hF : pm_F M σ) {x1 : Int} {o2 : Option pe_V} {x3 : Int} {o4 : Option pe_V} {x5 : Int} {x6 : Int} {o7 : Option pe_V} {o8 : Option pe_V} {o9 : Option pe_V} {s0 : Int} {s1 : Int}    (k : pe_M d 188 [.inr (.inr M)] (pm_h M σ q y) (fun r σ' => pe_X d 230 (149, [some (.inr (.inr M)), some (.inl x1), o2, some (.inl x3), some (.inl (s0 + s1)), some (.inl x5), some (.inl x6), o7, o8, o9], r.toList ++ [], σ') Φ)) : pe_X d 230 (142, [some (.inr (.inr M)), some (.inl x1), o2, some (.inl x3), o4, some (.inl x5), some (.inl x6), o7, o8, o9], [.inl s1, .inl s0], pm_h M σ q y) Φ := by
  refine pe_blk 73 3 ck230 [] (146, [some (.inr (.inr M)), some (.inl x1), o2, some (.inl x3), some (.inl (s0 + s1)), some (.inl x5), some (.inl x6), o7, o8, o9], [.inr (.inr M)], pm_h M σ q y) rfl ?_ ?_
  · exact trivial
  · try simp (disch := omega) only [pe_K_wI, pe_K_wR, pm_KM hF, pm_Kh]
    have hrc : pe_K (pm_h M σ q y) M = 9 := by first | assumption | (simp (disch := omega) only [pe_K_wI, pe_K_wR, pm_KM hF, pm_Kh]; done) | (simp (disch := omega) only [pe_K_wI, pe_K_wR, pm_KM hF, pm_Kh]; assumption)
    exact pe_cal 76 ck230 rfl rfl rfl ⟨hrc, by decide⟩ k
set_option maxRecDepth 8000 in
theorem b230_149 {d : Nat} {Φ : Option pe_V → pe_H → Prop} {σ : pe_H} {M q : Nat} {y : Nat → Int → Int} (hF : pm_F M σ) {x1 : Int} {o2 : Option pe_V} {x3 : Int} {x4 : Int} {x5 : Int} {x6 : Int} {o7 : Option pe_V} {o8 : Option pe_V} {o9 : Option pe_V}    (k : pe_X d 230 (50, [some (.inr (.inr M)), some (.inl x1), o2, some (.inl x3), some (.inl x4), some (.inl x5), some (.inl (x6 + 1)), o7, o8, o9], [], pm_h M σ q y) Φ) : pe_X d 230 (149, [some (.inr (.inr M)), some (.inl x1), o2, some (.inl x3), some (.inl x4), some (.inl x5), some (.inl x6), o7, o8, o9], [], pm_h M σ q y) Φ := by
  refine pe_blk 77 2 ck230 [] (50, [some (.inr (.inr M)), some (.inl x1), o2, some (.inl x3), some (.inl x4), some (.inl x5), some (.inl (x6 + 1)), o7, o8, o9], [], pm_h M σ q y) rfl ?_ ?_
  · exact trivial
  · exact k
set_option maxRecDepth 8000 in
theorem b230_155 {d : Nat} {Φ : Option pe_V → pe_H → Prop} {σ : pe_H} {M q : Nat} {y : Nat → Int → Int} (hF : pm_F M σ) {o1 : Option pe_V} {o2 : Option pe_V} {o3 : Option pe_V} {x4 : Int} {o5 : Option pe_V} {o6 : Option pe_V} {o7 : Option pe_V} {o8 : Option pe_V} {o9 : Option pe_V}    (k : Φ (some (.inl x4)) (pm_h M σ q y)) : pe_X d 230 (155, [some (.inr (.inr M)), o1, o2, o3, some (.inl x4), o5, o6, o7, o8, o9], [], pm_h M σ q y) Φ := by
  refine pe_blk 79 1 ck230 [] (157, [some (.inr (.inr M)), o1, o2, o3, some (.inl x4), o5, o6, o7, o8, o9], [.inl x4], pm_h M σ q y) rfl ?_ ?_
  · exact trivial
  · exact pe_fine 80 ck230 rfl rfl rfl trivial k
-- StepMachinesModel.waitingBits()I
def T231 : List (Nat × Instr × Nat) := [(0, .iconst 0, 1), (1, .istore_n 1, 1), (2, .iconst 0, 1), (3, .istore_n 2, 1), (4, .iload_n 2, 1), (5, .aload_n 0, 1), (6, .getfield 144, 3), (9, .if_icmp .ge 27, 3), (12, .iload_n 1, 1), (13, .aload_n 0, 1), (14, .iload_n 2, 1), (15, .invokevirtual 378, 3), (18, .ifCond .eq 9, 3), (21, .iconst 1, 1), (22, .iload_n 2, 1), (23, .ishl, 1), (24, .goto 4, 3), (27, .iconst 0, 1), (28, .ior, 1), (29, .istore_n 1, 1), (30, .iinc 2 1, 3), (33, .goto (-29), 3), (36, .iload_n 1, 1), (37, .ireturn, 1)]
theorem ck231 : pe_ctx 231 9 false (some .int) 3 T231 := ⟨rfl, rfl, rfl, rfl, by decide +kernel, by decide, by decide⟩
theorem b231_0 {d : Nat} {Φ : Option pe_V → pe_H → Prop} {σ : pe_H} {M q : Nat} {y : Nat → Int → Int} (hF : pm_F M σ) {o1 : Option pe_V} {o2 : Option pe_V}    (k : pe_X d 231 (4, [some (.inr (.inr M)), some (.inl 0), some (.inl 0)], [], pm_h M σ q y) Φ) : pe_X d 231 (0, [some (.inr (.inr M)), o1, o2], [], pm_h M σ q y) Φ := by
  refine pe_blk 0 4 ck231 [] (4, [some (.inr (.inr M)), some (.inl 0), some (.inl 0)], [], pm_h M σ q y) rfl ?_ ?_
  · exact trivial
  · exact k
theorem b231_4 {d : Nat} {Φ : Option pe_V → pe_H → Prop} {σ : pe_H} {M q : Nat} {y : Nat → Int → Int} (hF : pm_F M σ) {x1 : Int} {x2 : Int}  (w0 : pe_in (y 0 3) := by unfold pe_in; omega) (w1 : pe_in x2 := by unfold pe_in; omega)  (k1 : (y 0 3) ≤ x2 → pe_X d 231 (36, [some (.inr (.inr M)), some (.inl x1), some (.inl x2)], [], pm_h M σ q y) Φ) (k2 : ¬ ((y 0 3) ≤ x2) → pe_X d 231 (12, [some (.inr (.inr M)), some (.inl x1), some (.inl x2)], [], pm_h M σ q y) Φ) : pe_X d 231 (4, [some (.inr (.inr M)), some (.inl x1), some (.inl x2)], [], pm_h M σ q y) Φ := by
  refine pe_blk 4 4 ck231 [pe_K (pm_h M σ q y) M = 9] (cond (decide ((pe_w (pe_I (pm_h M σ q y) M 3)) ≤ (pe_w x2))) 36 12, [some (.inr (.inr M)), some (.inl x1), some (.inl x2)], [], pm_h M σ q y) rfl ?_ ?_
  · first
    | (simp (disch := omega) only [pe_all, pe_wi w0, pe_wi w1, pe_I_wR, pe_K_wI, pe_K_wR, pm_I0, pm_KM hF, pm_Kh, pm_uj, pm_uk, pm_us]; done)
    | (simp (disch := omega) only [pe_all, pe_wi w0, pe_wi w1, pe_I_wR, pe_K_wI, pe_K_wR, pm_I0, pm_KM hF, pm_Kh, pm_uj, pm_uk, pm_us]; (repeat' apply And.intro) <;> first | assumption | omega | decide)
  · try simp (disch := omega) only [pe_wi w0, pe_wi w1, pe_I_wR, pe_K_wI, pe_K_wR, pm_I0, pm_KM hF, pm_Kh, pm_uj, pm_uk, pm_us]
    exact pe_two k1 k2
theorem b231_12 {d : Nat} {Φ : Option pe_V → pe_H → Prop} {σ : pe_H} {M q : Nat} {y : Nat → Int → Int} (hF : pm_F M σ) {x1 : Int} {x2 : Int}    (k : pe_M d 194 [.inr (.inr M), .inl x2] (pm_h M σ q y) (fun r σ' => pe_X d 231 (18, [some (.inr (.inr M)), some (.inl x1), some (.inl x2)], r.toList ++ [.inl x1], σ') Φ)) : pe_X d 231 (12, [some (.inr (.inr M)), some (.inl x1), some (.inl x2)], [], pm_h M σ q y) Φ := by
  refine pe_blk 8 3 ck231 [] (15, [some (.inr (.inr M)), some (.inl x1), some (.inl x2)], [.inl x2, .inr (.inr M), .inl x1], pm_h M σ q y) rfl ?_ ?_
  · exact trivial
  · try simp (disch := omega) only [pe_K_wI, pe_K_wR, pm_KM hF, pm_Kh]
    have hrc : pe_K (pm_h M σ q y) M = 9 := by first | assumption | (simp (disch := omega) only [pe_K_wI, pe_K_wR, pm_KM hF, pm_Kh]; done) | (simp (disch := omega) only [pe_K_wI, pe_K_wR, pm_KM hF, pm_Kh]; assumption)
    exact pe_cal 11 ck231 rfl rfl rfl ⟨hrc, by decide⟩ k
theorem b231_18 {d : Nat} {Φ : Option pe_V → pe_H → Prop} {σ : pe_H} {M q : Nat} {y : Nat → Int → Int} (hF : pm_F M σ) {o1 : Option pe_V} {x2 : Int} {s0 : Int} {s1 : Int}  (w0 : pe_in s1 := by unfold pe_in; omega)  (k1 : s1 = 0 → pe_X d 231 (27, [some (.inr (.inr M)), o1, some (.inl x2)], [.inl s0], pm_h M σ q y) Φ) (k2 : ¬ (s1 = 0) → pe_X d 231 (21, [some (.inr (.inr M)), o1, some (.inl x2)], [.inl s0], pm_h M σ q y) Φ) : pe_X d 231 (18, [some (.inr (.inr M)), o1, some (.inl x2)], [.inl s1, .inl s0], pm_h M σ q y) Φ := by
  refine pe_blk 12 1 ck231 [] (cond (decide ((pe_w s1) = 0)) 27 21, [some (.inr (.inr M)), o1, some (.inl x2)], [.inl s0], pm_h M σ q y) rfl ?_ ?_
  · exact trivial
  · try simp (disch := omega) only [pe_wi w0]
    exact pe_two k1 k2
theorem b231_21 {d : Nat} {Φ : Option pe_V → pe_H → Prop} {σ : pe_H} {M q : Nat} {y : Nat → Int → Int} (hF : pm_F M σ) {o1 : Option pe_V} {x2 : Int} {s0 : Int}    (k : pe_X d 231 (28, [some (.inr (.inr M)), o1, some (.inl x2)], [.inl (pe_shl 1 x2), .inl s0], pm_h M σ q y) Φ) : pe_X d 231 (21, [some (.inr (.inr M)), o1, some (.inl x2)], [.inl s0], pm_h M σ q y) Φ := by
  refine pe_blk 13 4 ck231 [] (28, [some (.inr (.inr M)), o1, some (.inl x2)], [.inl (pe_shl 1 x2), .inl s0], pm_h M σ q y) rfl ?_ ?_
  · exact trivial
  · exact k
theorem b231_27 {d : Nat} {Φ : Option pe_V → pe_H → Prop} {σ : pe_H} {M q : Nat} {y : Nat → Int → Int} (hF : pm_F M σ) {o1 : Option pe_V} {x2 : Int} {s0 : Int}    (k : pe_X d 231 (28, [some (.inr (.inr M)), o1, some (.inl x2)], [.inl 0, .inl s0], pm_h M σ q y) Φ) : pe_X d 231 (27, [some (.inr (.inr M)), o1, some (.inl x2)], [.inl s0], pm_h M σ q y) Φ := by
  refine pe_blk 17 1 ck231 [] (28, [some (.inr (.inr M)), o1, some (.inl x2)], [.inl 0, .inl s0], pm_h M σ q y) rfl ?_ ?_
  · exact trivial
  · exact k
theorem b231_28 {d : Nat} {Φ : Option pe_V → pe_H → Prop} {σ : pe_H} {M q : Nat} {y : Nat → Int → Int} (hF : pm_F M σ) {o1 : Option pe_V} {x2 : Int} {s0 : Int} {s1 : Int}    (k : pe_X d 231 (4, [some (.inr (.inr M)), some (.inl (pe_or s0 s1)), some (.inl (x2 + 1))], [], pm_h M σ q y) Φ) : pe_X d 231 (28, [some (.inr (.inr M)), o1, some (.inl x2)], [.inl s1, .inl s0], pm_h M σ q y) Φ := by
  refine pe_blk 18 4 ck231 [] (4, [some (.inr (.inr M)), some (.inl (pe_or s0 s1)), some (.inl (x2 + 1))], [], pm_h M σ q y) rfl ?_ ?_
  · exact trivial
  · exact k
theorem b231_36 {d : Nat} {Φ : Option pe_V → pe_H → Prop} {σ : pe_H} {M q : Nat} {y : Nat → Int → Int} (hF : pm_F M σ) {x1 : Int} {o2 : Option pe_V}    (k : Φ (some (.inl x1)) (pm_h M σ q y)) : pe_X d 231 (36, [some (.inr (.inr M)), some (.inl x1), o2], [], pm_h M σ q y) Φ := by
  refine pe_blk 22 1 ck231 [] (37, [some (.inr (.inr M)), some (.inl x1), o2], [.inl x1], pm_h M σ q y) rfl ?_ ?_
  · exact trivial
  · exact pe_fine 23 ck231 rfl rfl rfl trivial k
-- StepMachinesModel.count(I)I
def T232 : List (Nat × Instr × Nat) := [(0, .aload_n 0, 1), (1, .iconst 0, 1), (2, .putfield 141, 3), (5, .iload_n 1, 1), (6, .tableswitch 68 0 5 #[38, 43, 48, 53, 58, 63], 38), (44, .aload_n 0, 1), (45, .getfield 144, 3), (48, .ireturn, 1), (49, .aload_n 0, 1), (50, .getfield 246, 3), (53, .ireturn, 1), (54, .aload_n 0, 1), (55, .getfield 88, 3), (58, .ireturn, 1), (59, .aload_n 0, 1), (60, .invokevirtual 391, 3), (63, .ireturn, 1), (64, .aload_n 0, 1), (65, .invokevirtual 458, 3), (68, .ireturn, 1), (69, .aload_n 0, 1), (70, .invokevirtual 452, 3), (73, .ireturn, 1), (74, .iconst (-1), 1), (75, .ireturn, 1)]
theorem ck232 : pe_ctx 232 9 false (some .int) 2 T232 := ⟨rfl, rfl, rfl, rfl, by decide +kernel, by decide, by decide⟩
theorem b232_0 {d : Nat} {Φ : Option pe_V → pe_H → Prop} {σ : pe_H} {M q : Nat} {y : Nat → Int → Int} (hF : pm_F M σ) {x1 : Int}  (w0 : pe_in x1 := by unfold pe_in; omega)  (k0 : x1 = 0 → pe_X d 232 (44, [some (.inr (.inr M)), some (.inl x1)], [], pm_h M σ q (pm_u y 0 37 0)) Φ) (k1 : x1 = 1 → pe_X d 232 (49, [some (.inr (.inr M)), some (.inl x1)], [], pm_h M σ q (pm_u y 0 37 0)) Φ) (k2 : x1 = 2 → pe_X d 232 (54, [some (.inr (.inr M)), some (.inl x1)], [], pm_h M σ q (pm_u y 0 37 0)) Φ) (k3 : x1 = 3 → pe_X d 232 (59, [some (.inr (.inr M)), some (.inl x1)], [], pm_h M σ q (pm_u y 0 37 0)) Φ) (k4 : x1 = 4 → pe_X d 232 (64, [some (.inr (.inr M)), some (.inl x1)], [], pm_h M σ q (pm_u y 0 37 0)) Φ) (k5 : x1 = 5 → pe_X d 232 (69, [some (.inr (.inr M)), some (.inl x1)], [], pm_h M σ q (pm_u y 0 37 0)) Φ) (kd : ¬ x1 = 0 → ¬ x1 = 1 → ¬ x1 = 2 → ¬ x1 = 3 → ¬ x1 = 4 → ¬ x1 = 5 → pe_X d 232 (74, [some (.inr (.inr M)), some (.inl x1)], [], pm_h M σ q (pm_u y 0 37 0)) Φ) : pe_X d 232 (0, [some (.inr (.inr M)), some (.inl x1)], [], pm_h M σ q y) Φ := by
  refine pe_blk 0 5 ck232 [pe_K (pm_h M σ q y) M = 9] ((((6 : Nat) : Int) + pe_sw 68 [(0, 38), (1, 43), (2, 48), (3, 53), (4, 58), (5, 63)] (pe_w x1)).toNat, [some (.inr (.inr M)), some (.inl x1)], [], pe_wI (pm_h M σ q y) M 37 0) rfl ?_ ?_
  · first
    | (simp (disch := omega) only [pe_all, pe_wi w0, pe_K_wI, pe_K_wR, pm_KM hF, pm_Kh, pm_wI0]; done)
    | (simp (disch := omega) only [pe_all, pe_wi w0, pe_K_wI, pe_K_wR, pm_KM hF, pm_Kh, pm_wI0]; (repeat' apply And.intro) <;> first | assumption | omega | decide)
  · try simp (disch := omega) only [pe_wi w0, pe_K_wI, pe_K_wR, pm_KM hF, pm_Kh, pm_wI0]
    by_cases q0 : x1 = 0
    · have e : pe_sw 68 [(0, 38), (1, 43), (2, 48), (3, 53), (4, 58), (5, 63)] x1 = 38 := by rw [q0]; rfl
      rw [e]; exact k0 q0
    by_cases q1 : x1 = 1
    · have e : pe_sw 68 [(0, 38), (1, 43), (2, 48), (3, 53), (4, 58), (5, 63)] x1 = 43 := by rw [q1]; rfl
      rw [e]; exact k1 q1
    by_cases q2 : x1 = 2
    · have e : pe_sw 68 [(0, 38), (1, 43), (2, 48), (3, 53), (4, 58), (5, 63)] x1 = 48 := by rw [q2]; rfl
      rw [e]; exact k2 q2
    by_cases q3 : x1 = 3
    · have e : pe_sw 68 [(0, 38), (1, 43), (2, 48), (3, 53), (4, 58), (5, 63)] x1 = 53 := by rw [q3]; rfl
      rw [e]; exact k3 q3
    by_cases q4 : x1 = 4
    · have e : pe_sw 68 [(0, 38), (1, 43), (2, 48), (3, 53), (4, 58), (5, 63)] x1 = 58 := by rw [q4]; rfl
      rw [e]; exact k4 q4
    by_cases q5 : x1 = 5
    · have e : pe_sw 68 [(0, 38), (1, 43), (2, 48), (3, 53), (4, 58), (5, 63)] x1 = 63 := by rw [q5]; rfl
      rw [e]; exact k5 q5
    have e : pe_sw 68 [(0, 38), (1, 43), (2, 48), (3, 53), (4, 58), (5, 63)] x1 = 68 := by simp only [pe_sw, if_neg q0, if_neg q1, if_neg q2, if_neg q3, if_neg q4, if_neg q5]
    rw [e]; exact kd q0 q1 q2 q3 q4 q5
theorem b232_44 {d : Nat} {Φ : Option pe_V → pe_H → Prop} {σ : pe_H} {M q : Nat} {y : Nat → Int → Int} (hF : pm_F M σ) {o1 : Option pe_V}    (k : Φ (some (.inl (y 0 3))) (pm_h M σ q y)) : pe_X d 232 (44, [some (.inr (.inr M)), o1], [], pm_h M σ q y) Φ := by
  refine pe_blk 5 2 ck232 [pe_K (pm_h M σ q y) M = 9] (48, [some (.inr (.inr M)), o1], [.inl (pe_I (pm_h M σ q y) M 3)], pm_h M σ q y) rfl ?_ ?_
  · first
    | (simp (disch := omega) only [pe_all, pe_I_wR, pe_K_wI, pe_K_wR, pm_I0, pm_KM hF, pm_Kh, pm_uj, pm_uk, pm_us]; done)
    | (simp (disch := omega) only [pe_all, pe_I_wR, pe_K_wI, pe_K_wR, pm_I0, pm_KM hF, pm_Kh, pm_uj, pm_uk, pm_us]; (repeat' apply And.intro) <;> first | assumption | omega | decide)
  · try simp (disch := omega) only [pe_I_wR, pe_K_wI, pe_K_wR, pm_I0, pm_KM hF, pm_Kh, pm_uj, pm_uk, pm_us]
    exact pe_fine 7 ck232 rfl rfl rfl trivial k
theorem b232_49 {d : Nat} {Φ : Option pe_V → pe_H → Prop} {σ : pe_H} {M q : Nat} {y : Nat → Int → Int} (hF : pm_F M σ) {o1 : Option pe_V}    (k : Φ (some (.inl (y 0 29))) (pm_h M σ q y)) : pe_X d 232 (49, [some (.inr (.inr M)), o1], [], pm_h M σ q y) Φ := by
  refine pe_blk 8 2 ck232 [pe_K (pm_h M σ q y) M = 9] (53, [some (.inr (.inr M)), o1], [.inl (pe_I (pm_h M σ q y) M 29)], pm_h M σ q y) rfl ?_ ?_
  · first
    | (simp (disch := omega) only [pe_all, pe_I_wR, pe_K_wI, pe_K_wR, pm_I0, pm_KM hF, pm_Kh, pm_uj, pm_uk, pm_us]; done)
    | (simp (disch := omega) only [pe_all, pe_I_wR, pe_K_wI, pe_K_wR, pm_I0, pm_KM hF, pm_Kh, pm_uj, pm_uk, pm_us]; (repeat' apply And.intro) <;> first | assumption | omega | decide)
  · try simp (disch := omega) only [pe_I_wR, pe_K_wI, pe_K_wR, pm_I0, pm_KM hF, pm_Kh, pm_uj, pm_uk, pm_us]
    exact pe_fine 10 ck232 rfl rfl rfl trivial k
theorem b232_54 {d : Nat} {Φ : Option pe_V → pe_H → Prop} {σ : pe_H} {M q : Nat} {y : Nat → Int → Int} (hF : pm_F M σ) {o1 : Option pe_V}    (k : Φ (some (.inl (y 0 28))) (pm_h M σ q y)) : pe_X d 232 (54, [some (.inr (.inr M)), o1], [], pm_h M σ q y) Φ := by
  refine pe_blk 11 2 ck232 [pe_K (pm_h M σ q y) M = 9] (58, [some (.inr (.inr M)), o1], [.inl (pe_I (pm_h M σ q y) M 28)], pm_h M σ q y) rfl ?_ ?_
  · first
    | (simp (disch := omega) only [pe_all, pe_I_wR, pe_K_wI, pe_K_wR, pm_I0, pm_KM hF, pm_Kh, pm_uj, pm_uk, pm_us]; done)
    | (simp (disch := omega) only [pe_all, pe_I_wR, pe_K_wI, pe_K_wR, pm_I0, pm_KM hF, pm_Kh, pm_uj, pm_uk, pm_us]; (repeat' apply And.intro) <;> first | assumption | omega | decide)
  · try simp (disch := omega) only [pe_I_wR, pe_K_wI, pe_K_wR, pm_I0, pm_KM hF, pm_Kh, pm_uj, pm_uk, pm_us]
    exact pe_fine 13 ck232 rfl rfl rfl trivial k
theorem b232_59 {d : Nat} {Φ : Option pe_V → pe_H → Prop} {σ : pe_H} {M q : Nat} {y : Nat → Int → Int} (hF : pm_F M σ) {o1 : Option pe_V}    (k : pe_M d 141 [.inr (.inr M)] (pm_h M σ q y) (fun r σ' => pe_X d 232 (63, [some (.inr (.inr M)), o1], r.toList ++ [], σ') Φ)) : pe_X d 232 (59, [some (.inr (.inr M)), o1], [], pm_h M σ q y) Φ := by
  refine pe_blk 14 1 ck232 [] (60, [some (.inr (.inr M)), o1], [.inr (.inr M)], pm_h M σ q y) rfl ?_ ?_
  · exact trivial
  · try simp (disch := omega) only [pe_K_wI, pe_K_wR, pm_KM hF, pm_Kh]
    have hrc : pe_K (pm_h M σ q y) M = 9 := by first | assumption | (simp (disch := omega) only [pe_K_wI, pe_K_wR, pm_KM hF, pm_Kh]; done) | (simp (disch := omega) only [pe_K_wI, pe_K_wR, pm_KM hF, pm_Kh]; assumption)
    exact pe_cal 15 ck232 rfl rfl rfl ⟨hrc, by decide⟩ k
theorem b232_63 {d : Nat} {Φ : Option pe_V → pe_H → Prop} {σ : pe_H} {M q : Nat} {y : Nat → Int → Int} (hF : pm_F M σ) {o1 : Option pe_V} {s0 : Int}    (k : Φ (some (.inl s0)) (pm_h M σ q y)) : pe_X d 232 (63, [some (.inr (.inr M)), o1], [.inl s0], pm_h M σ q y) Φ := by
  exact pe_fine 16 ck232 rfl rfl rfl trivial k
theorem b232_64 {d : Nat} {Φ : Option pe_V → pe_H → Prop} {σ : pe_H} {M q : Nat} {y : Nat → Int → Int} (hF : pm_F M σ) {o1 : Option pe_V}    (k : pe_M d 231 [.inr (.inr M)] (pm_h M σ q y) (fun r σ' => pe_X d 232 (68, [some (.inr (.inr M)), o1], r.toList ++ [], σ') Φ)) : pe_X d 232 (64, [some (.inr (.inr M)), o1], [], pm_h M σ q y) Φ := by
  refine pe_blk 17 1 ck232 [] (65, [some (.inr (.inr M)), o1], [.inr (.inr M)], pm_h M σ q y) rfl ?_ ?_
  · exact trivial
  · try simp (disch := omega) only [pe_K_wI, pe_K_wR, pm_KM hF, pm_Kh]
    have hrc : pe_K (pm_h M σ q y) M = 9 := by first | assumption | (simp (disch := omega) only [pe_K_wI, pe_K_wR, pm_KM hF, pm_Kh]; done) | (simp (disch := omega) only [pe_K_wI, pe_K_wR, pm_KM hF, pm_Kh]; assumption)
    exact pe_cal 18 ck232 rfl rfl rfl ⟨hrc, by decide⟩ k
theorem b232_68 {d : Nat} {Φ : Option pe_V → pe_H → Prop} {σ : pe_H} {M q : Nat} {y : Nat → Int → Int} (hF : pm_F M σ) {o1 : Option pe_V} {s0 : Int}    (k : Φ (some (.inl s0)) (pm_h M σ q y)) : pe_X d 232 (68, [some (.inr (.inr M)), o1], [.inl s0], pm_h M σ q y) Φ := by
  exact pe_fine 19 ck232 rfl rfl rfl trivial k
theorem b232_69 {d : Nat} {Φ : Option pe_V → pe_H → Prop} {σ : pe_H} {M q : Nat} {y : Nat → Int → Int} (hF : pm_F M σ) {o1 : Option pe_V}    (k : pe_M d 228 [.inr (.inr M)] (pm_h M σ q y) (fun r σ' => pe_X d 232 (73, [some (.inr (.inr M)), o1], r.toList ++ [], σ') Φ)) : pe_X d 232 (69, [some (.inr (.inr M)), o1], [], pm_h M σ q y) Φ := by
  refine pe_blk 20 1 ck232 [] (70, [some (.inr (.inr M)), o1], [.inr (.inr M)], pm_h M σ q y) rfl ?_ ?_
  · exact trivial
  · try simp (disch := omega) only [pe_K_wI, pe_K_wR, pm_KM hF, pm_Kh]
    have hrc : pe_K (pm_h M σ q y) M = 9 := by first | assumption | (simp (disch := omega) only [pe_K_wI, pe_K_wR, pm_KM hF, pm_Kh]; done) | (simp (disch := omega) only [pe_K_wI, pe_K_wR, pm_KM hF, pm_Kh]; assumption)
    exact pe_cal 21 ck232 rfl rfl rfl ⟨hrc, by decide⟩ k
theorem b232_73 {d : Nat} {Φ : Option pe_V → pe_H → Prop} {σ : pe_H} {M q : Nat} {y : Nat → Int → Int} (hF : pm_F M σ) {o1 : Option pe_V} {s0 : Int}    (k : Φ (some (.inl s0)) (pm_h M σ q y)) : pe_X d 232 (73, [some (.inr (.inr M)), o1], [.inl s0], pm_h M σ q y) Φ := by
  exact pe_fine 22 ck232 rfl rfl rfl trivial k
theorem b232_74 {d : Nat} {Φ : Option pe_V → pe_H → Prop} {σ : pe_H} {M q : Nat} {y : Nat → Int → Int} (hF : pm_F M σ) {o1 : Option pe_V}    (k : Φ (some (.inl (-1))) (pm_h M σ q y)) : pe_X d 232 (74, [some (.inr (.inr M)), o1], [], pm_h M σ q y) Φ := by
  refine pe_blk 23 1 ck232 [] (75, [some (.inr (.inr M)), o1], [.inl (-1)], pm_h M σ q y) rfl ?_ ?_
  · exact trivial
  · exact pe_fine 24 ck232 rfl rfl rfl trivial k
-- StepMachinesModel.wrongKept(I)I
def T233 : List (Nat × Instr × Nat) := [(0, .iload_n 1, 1), (1, .i2l, 1), (2, .lconst 0, 1), (3, .ldc2_w 438, 3), (6, .invokestatic 147, 3), (9, .ifCond .ne 7, 3), (12, .iconst (-1), 1), (13, .goto 33, 3), (16, .aload_n 0, 1), (17, .getfield 92, 3), (20, .iload_n 1, 1), (21, .iaload, 1), (22, .ifCond .ne 8, 3), (25, .bipush (-11), 2), (27, .goto 19, 3), (30, .aload_n 0, 1), (31, .getfield 92, 3), (34, .iload_n 1, 1), (35, .iaload, 1), (36, .iconst 2, 1), (37, .if_icmp .ne 8, 3), (40, .bipush (-12), 2), (42, .goto 4, 3), (45, .iconst 0, 1), (46, .ireturn, 1)]
theorem ck233 : pe_ctx 233 9 false (some .int) 2 T233 := ⟨rfl, rfl, rfl, rfl, by decide +kernel, by decide, by decide⟩
theorem b233_0 {d : Nat} {Φ : Option pe_V → pe_H → Prop} {σ : pe_H} {M q : Nat} {y : Nat → Int → Int} (hF : pm_F M σ) {x1 : Int}  (w0 : pe_in x1 := by unfold pe_in; omega)  (k : pe_M d 134 [.inr (.inl x1), .inr (.inl 0), .inr (.inl 7)] (pm_h M σ q y) (fun r σ' => pe_X d 233 (9, [some (.inr (.inr M)), some (.inl x1)], r.toList ++ [], σ') Φ)) : pe_X d 233 (0, [some (.inr (.inr M)), some (.inl x1)], [], pm_h M σ q y) Φ := by
  refine pe_blk 0 4 ck233 [] (6, [some (.inr (.inr M)), some (.inl x1)], [.inr (.inl 7), .inr (.inl 0), .inr (.inl (pe_w x1))], pm_h M σ q y) rfl ?_ ?_
  · exact trivial
  · try simp (disch := omega) only [pe_wi w0]
    exact pe_cal 4 ck233 rfl rfl rfl trivial k
theorem b233_9 {d : Nat} {Φ : Option pe_V → pe_H → Prop} {σ : pe_H} {M q : Nat} {y : Nat → Int → Int} (hF : pm_F M σ) {x1 : Int} {s0 : Int}  (w0 : pe_in s0 := by unfold pe_in; omega)  (k1 : ¬ s0 = 0 → pe_X d 233 (16, [some (.inr (.inr M)), some (.inl x1)], [], pm_h M σ q y) Φ) (k2 : s0 = 0 → pe_X d 233 (12, [some (.inr (.inr M)), some (.inl x1)], [], pm_h M σ q y) Φ) : pe_X d 233 (9, [some (.inr (.inr M)), some (.inl x1)], [.inl s0], pm_h M σ q y) Φ := by
  refine pe_blk 5 1 ck233 [] (cond (decide (¬ (pe_w s0) = 0)) 16 12, [some (.inr (.inr M)), some (.inl x1)], [], pm_h M σ q y) rfl ?_ ?_
  · exact trivial
  · try simp (disch := omega) only [pe_wi w0]
    exact pe_two' k1 k2
theorem b233_12 {d : Nat} {Φ : Option pe_V → pe_H → Prop} {σ : pe_H} {M q : Nat} {y : Nat → Int → Int} (hF : pm_F M σ) {o1 : Option pe_V}    (k : pe_X d 233 (46, [some (.inr (.inr M)), o1], [.inl (-1)], pm_h M σ q y) Φ) : pe_X d 233 (12, [some (.inr (.inr M)), o1], [], pm_h M σ q y) Φ := by
  refine pe_blk 6 2 ck233 [] (46, [some (.inr (.inr M)), o1], [.inl (-1)], pm_h M σ q y) rfl ?_ ?_
  · exact trivial
  · exact k
theorem b233_16 {d : Nat} {Φ : Option pe_V → pe_H → Prop} {σ : pe_H} {M q : Nat} {y : Nat → Int → Int} (hF : pm_F M σ) {x1 : Int}  (w0 : pe_in x1 := by unfold pe_in; omega) (w1 : pe_in (y 27 x1) := by unfold pe_in; omega) (h0 : 0 ≤ x1 := by first | assumption | omega) (h1 : x1 < 8 := by first | assumption | omega) (k1 : ¬ (y 27 x1) = 0 → pe_X d 233 (30, [some (.inr (.inr M)), some (.inl x1)], [], pm_h M σ q y) Φ) (k2 : (y 27 x1) = 0 → pe_X d 233 (25, [some (.inr (.inr M)), some (.inl x1)], [], pm_h M σ q y) Φ) : pe_X d 233 (16, [some (.inr (.inr M)), some (.inl x1)], [], pm_h M σ q y) Φ := by
  refine pe_blk 8 5 ck233 [pe_K (pm_h M σ q y) M = 9, pe_K (pm_h M σ q y) (pe_R (pm_h M σ q y) M 31) = 10, 0 ≤ (pe_w x1), (pe_w x1) < pe_L (pm_h M σ q y) (pe_R (pm_h M σ q y) M 31)] (cond (decide (¬ (pe_w (pe_I (pm_h M σ q y) (pe_R (pm_h M σ q y) M 31) (pe_w x1))) = 0)) 30 25, [some (.inr (.inr M)), some (.inl x1)], [], pm_h M σ q y) rfl ?_ ?_
  · first
    | (simp (disch := omega) only [pe_all, pe_wi w0, pe_wi w1, pe_I_wR, pe_K_wI, pe_K_wR, pe_L_wI, pe_L_wR, pe_R_nej, pe_R_wI, pm_Ik, pm_K27 hF, pm_KM hF, pm_Kh, pm_L27 hF, pm_Lh, pm_R31 hF, pm_Rh, pm_uj, pm_uk, pm_us]; done)
    | (simp (disch := omega) only [pe_all, pe_wi w0, pe_wi w1, pe_I_wR, pe_K_wI, pe_K_wR, pe_L_wI, pe_L_wR, pe_R_nej, pe_R_wI, pm_Ik, pm_K27 hF, pm_KM hF, pm_Kh, pm_L27 hF, pm_Lh, pm_R31 hF, pm_Rh, pm_uj, pm_uk, pm_us]; (repeat' apply And.intro) <;> first | assumption | omega | decide)
  · try simp (disch := omega) only [pe_wi w0, pe_wi w1, pe_I_wR, pe_K_wI, pe_K_wR, pe_L_wI, pe_L_wR, pe_R_nej, pe_R_wI, pm_Ik, pm_K27 hF, pm_KM hF, pm_Kh, pm_L27 hF, pm_Lh, pm_R31 hF, pm_Rh, pm_uj, pm_uk, pm_us]
    exact pe_two' k1 k2
theorem b233_25 {d : Nat} {Φ : Option pe_V → pe_H → Prop} {σ : pe_H} {M q : Nat} {y : Nat → Int → Int} (hF : pm_F M σ) {o1 : Option pe_V}    (k : pe_X d 233 (46, [some (.inr (.inr M)), o1], [.inl (-11)], pm_h M σ q y) Φ) : pe_X d 233 (25, [some (.inr (.inr M)), o1], [], pm_h M σ q y) Φ := by
  refine pe_blk 13 2 ck233 [] (46, [some (.inr (.inr M)), o1], [.inl (-11)], pm_h M σ q y) rfl ?_ ?_
  · exact trivial
  · exact k
theorem b233_30 {d : Nat} {Φ : Option pe_V → pe_H → Prop} {σ : pe_H} {M q : Nat} {y : Nat → Int → Int} (hF : pm_F M σ) {x1 : Int}  (w0 : pe_in x1 := by unfold pe_in; omega) (w1 : pe_in (y 27 x1) := by unfold pe_in; omega) (h0 : 0 ≤ x1 := by first | assumption | omega) (h1 : x1 < 8 := by first | assumption | omega) (k1 : ¬ (y 27 x1) = 2 → pe_X d 233 (45, [some (.inr (.inr M)), some (.inl x1)], [], pm_h M σ q y) Φ) (k2 : (y 27 x1) = 2 → pe_X d 233 (40, [some (.inr (.inr M)), some (.inl x1)], [], pm_h M σ q y) Φ) : pe_X d 233 (30, [some (.inr (.inr M)), some (.inl x1)], [], pm_h M σ q y) Φ := by
  refine pe_blk 15 6 ck233 [pe_K (pm_h M σ q y) M = 9, pe_K (pm_h M σ q y) (pe_R (pm_h M σ q y) M 31) = 10, 0 ≤ (pe_w x1), (pe_w x1) < pe_L (pm_h M σ q y) (pe_R (pm_h M σ q y) M 31)] (cond (decide (¬ (pe_w (pe_I (pm_h M σ q y) (pe_R (pm_h M σ q y) M 31) (pe_w x1))) = (pe_w 2))) 45 40, [some (.inr (.inr M)), some (.inl x1)], [], pm_h M σ q y) rfl ?_ ?_
  · first
    | (simp (disch := omega) only [pe_all, pe_wi w0, pe_wi w1, pe_wi (x := 2) ⟨by decide, by decide⟩, pe_I_wR, pe_K_wI, pe_K_wR, pe_L_wI, pe_L_wR, pe_R_nej, pe_R_wI, pm_Ik, pm_K27 hF, pm_KM hF, pm_Kh, pm_L27 hF, pm_Lh, pm_R31 hF, pm_Rh, pm_uj, pm_uk, pm_us]; done)
    | (simp (disch := omega) only [pe_all, pe_wi w0, pe_wi w1, pe_wi (x := 2) ⟨by decide, by decide⟩, pe_I_wR, pe_K_wI, pe_K_wR, pe_L_wI, pe_L_wR, pe_R_nej, pe_R_wI, pm_Ik, pm_K27 hF, pm_KM hF, pm_Kh, pm_L27 hF, pm_Lh, pm_R31 hF, pm_Rh, pm_uj, pm_uk, pm_us]; (repeat' apply And.intro) <;> first | assumption | omega | decide)
  · try simp (disch := omega) only [pe_wi w0, pe_wi w1, pe_wi (x := 2) ⟨by decide, by decide⟩, pe_I_wR, pe_K_wI, pe_K_wR, pe_L_wI, pe_L_wR, pe_R_nej, pe_R_wI, pm_Ik, pm_K27 hF, pm_KM hF, pm_Kh, pm_L27 hF, pm_Lh, pm_R31 hF, pm_Rh, pm_uj, pm_uk, pm_us]
    exact pe_two' k1 k2
theorem b233_40 {d : Nat} {Φ : Option pe_V → pe_H → Prop} {σ : pe_H} {M q : Nat} {y : Nat → Int → Int} (hF : pm_F M σ) {o1 : Option pe_V}    (k : pe_X d 233 (46, [some (.inr (.inr M)), o1], [.inl (-12)], pm_h M σ q y) Φ) : pe_X d 233 (40, [some (.inr (.inr M)), o1], [], pm_h M σ q y) Φ := by
  refine pe_blk 21 2 ck233 [] (46, [some (.inr (.inr M)), o1], [.inl (-12)], pm_h M σ q y) rfl ?_ ?_
  · exact trivial
  · exact k
theorem b233_45 {d : Nat} {Φ : Option pe_V → pe_H → Prop} {σ : pe_H} {M q : Nat} {y : Nat → Int → Int} (hF : pm_F M σ) {o1 : Option pe_V}    (k : pe_X d 233 (46, [some (.inr (.inr M)), o1], [.inl 0], pm_h M σ q y) Φ) : pe_X d 233 (45, [some (.inr (.inr M)), o1], [], pm_h M σ q y) Φ := by
  refine pe_blk 23 1 ck233 [] (46, [some (.inr (.inr M)), o1], [.inl 0], pm_h M σ q y) rfl ?_ ?_
  · exact trivial
  · exact k
theorem b233_46 {d : Nat} {Φ : Option pe_V → pe_H → Prop} {σ : pe_H} {M q : Nat} {y : Nat → Int → Int} (hF : pm_F M σ) {o1 : Option pe_V} {s0 : Int}    (k : Φ (some (.inl s0)) (pm_h M σ q y)) : pe_X d 233 (46, [some (.inr (.inr M)), o1], [.inl s0], pm_h M σ q y) Φ := by
  exact pe_fine 24 ck233 rfl rfl rfl trivial k
-- StepMachinesModel.keep(IIII)I
def T234 : List (Nat × Instr × Nat) := [(0, .aload_n 0, 1), (1, .iconst 0, 1), (2, .putfield 141, 3), (5, .iload_n 1, 1), (6, .i2l, 1), (7, .lconst 0, 1), (8, .ldc2_w 438, 3), (11, .invokestatic 147, 3), (14, .ifCond .eq 43, 3), (17, .iload_n 2, 1), (18, .i2l, 1), (19, .lconst 0, 1), (20, .lconst 1, 1), (21, .invokestatic 147, 3), (24, .ifCond .eq 33, 3), (27, .iload_n 2, 1), (28, .iconst 1, 1), (29, .if_icmp .ne 30, 3), (32, .iload_n 3, 1), (33, .i2l, 1), (34, .lconst 0, 1), (35, .ldc2_w 265, 3), (38, .invokestatic 147, 3), (41, .ifCond .eq 16, 3), (44, .iload 4, 2), (46, .i2l, 1), (47, .lconst 0, 1), (48, .ldc2_w 461, 3), (51, .invokestatic 147, 3), (54, .ifCond .ne 5, 3), (57, .iconst (-1), 1), (58, .ireturn, 1), (59, .aload_n 0, 1), (60, .getfield 92, 3), (63, .iload_n 1, 1), (64, .iload_n 2, 1), (65, .iastore, 1), (66, .aload_n 0, 1), (67, .getfield 95, 3), (70, .iload_n 1, 1), (71, .iload_n 2, 1), (72, .iconst 1, 1), (73, .if_icmp .ne 7, 3), (76, .iload_n 3, 1), (77, .goto 4, 3), (80, .iconst 0, 1), (81, .iastore, 1), (82, .aload_n 0, 1), (83, .getfield 98, 3), (86, .iload_n 1, 1), (87, .iload_n 2, 1), (88, .iconst 1, 1), (89, .if_icmp .ne 8, 3), (92, .iload 4, 2), (94, .goto 4, 3), (97, .iconst 0, 1), (98, .iastore, 1), (99, .iconst 0, 1), (100, .ireturn, 1)]
theorem ck234 : pe_ctx 234 9 false (some .int) 5 T234 := ⟨rfl, rfl, rfl, rfl, by decide +kernel, by decide, by decide⟩
theorem b234_0 {d : Nat} {Φ : Option pe_V → pe_H → Prop} {σ : pe_H} {M q : Nat} {y : Nat → Int → Int} (hF : pm_F M σ) {x1 : Int} {x2 : Int} {x3 : Int} {x4 : Int}  (w0 : pe_in x1 := by unfold pe_in; omega)  (k : pe_M d 134 [.inr (.inl x1), .inr (.inl 0), .inr (.inl 7)] (pm_h M σ q (pm_u y 0 37 0)) (fun r σ' => pe_X d 234 (14, [some (.inr (.inr M)), some (.inl x1), some (.inl x2), some (.inl x3), some (.inl x4)], r.toList ++ [], σ') Φ)) : pe_X d 234 (0, [some (.inr (.inr M)), some (.inl x1), some (.inl x2), some (.inl x3), some (.inl x4)], [], pm_h M σ q y) Φ := by
  refine pe_blk 0 7 ck234 [pe_K (pm_h M σ q y) M = 9] (11, [some (.inr (.inr M)), some (.inl x1), some (.inl x2), some (.inl x3), some (.inl x4)], [.inr (.inl 7), .inr (.inl 0), .inr (.inl (pe_w x1))], pe_wI (pm_h M σ q y) M 37 0) rfl ?_ ?_
  · first
    | (simp (disch := omega) only [pe_all, pe_wi w0, pe_K_wI, pe_K_wR, pm_KM hF, pm_Kh, pm_wI0]; done)
    | (simp (disch := omega) only [pe_all, pe_wi w0, pe_K_wI, pe_K_wR, pm_KM hF, pm_Kh, pm_wI0]; (repeat' apply And.intro) <;> first | assumption | omega | decide)
  · try simp (disch := omega) only [pe_wi w0, pe_K_wI, pe_K_wR, pm_KM hF, pm_Kh, pm_wI0]
    exact pe_cal 7 ck234 rfl rfl rfl trivial k
theorem b234_14 {d : Nat} {Φ : Option pe_V → pe_H → Prop} {σ : pe_H} {M q : Nat} {y : Nat → Int → Int} (hF : pm_F M σ) {x1 : Int} {x2 : Int} {x3 : Int} {x4 : Int} {s0 : Int}  (w0 : pe_in s0 := by unfold pe_in; omega)  (k1 : s0 = 0 → pe_X d 234 (57, [some (.inr (.inr M)), some (.inl x1), some (.inl x2), some (.inl x3), some (.inl x4)], [], pm_h M σ q y) Φ) (k2 : ¬ (s0 = 0) → pe_X d 234 (17, [some (.inr (.inr M)), some (.inl x1), some (.inl x2), some (.inl x3), some (.inl x4)], [], pm_h M σ q y) Φ) : pe_X d 234 (14, [some (.inr (.inr M)), some (.inl x1), some (.inl x2), some (.inl x3), some (.inl x4)], [.inl s0], pm_h M σ q y) Φ := by
  refine pe_blk 8 1 ck234 [] (cond (decide ((pe_w s0) = 0)) 57 17, [some (.inr (.inr M)), some (.inl x1), some (.inl x2), some (.inl x3), some (.inl x4)], [], pm_h M σ q y) rfl ?_ ?_
  · exact trivial
  · try simp (disch := omega) only [pe_wi w0]
    exact pe_two k1 k2
theorem b234_17 {d : Nat} {Φ : Option pe_V → pe_H → Prop} {σ : pe_H} {M q : Nat} {y : Nat → Int → Int} (hF : pm_F M σ) {x1 : Int} {x2 : Int} {x3 : Int} {x4 : Int}  (w0 : pe_in x2 := by unfold pe_in; omega)  (k : pe_M d 134 [.inr (.inl x2), .inr (.inl 0), .inr (.inl 1)] (pm_h M σ q y) (fun r σ' => pe_X d 234 (24, [some (.inr (.inr M)), some (.inl x1), some (.inl x2), some (.inl x3), some (.inl x4)], r.toList ++ [], σ') Φ)) : pe_X d 234 (17, [some (.inr (.inr M)), some (.inl x1), some (.inl x2), some (.inl x3), some (.inl x4)], [], pm_h M σ q y) Φ := by
  refine pe_blk 9 4 ck234 [] (21, [some (.inr (.inr M)), some (.inl x1), some (.inl x2), some (.inl x3), some (.inl x4)], [.inr (.inl 1), .inr (.inl 0), .inr (.inl (pe_w x2))], pm_h M σ q y) rfl ?_ ?_
  · exact trivial
  · try simp (disch := omega) only [pe_wi w0]
    exact pe_cal 13 ck234 rfl rfl rfl trivial k
theorem b234_24 {d : Nat} {Φ : Option pe_V → pe_H → Prop} {σ : pe_H} {M q : Nat} {y : Nat → Int → Int} (hF : pm_F M σ) {x1 : Int} {x2 : Int} {x3 : Int} {x4 : Int} {s0 : Int}  (w0 : pe_in s0 := by unfold pe_in; omega)  (k1 : s0 = 0 → pe_X d 234 (57, [some (.inr (.inr M)), some (.inl x1), some (.inl x2), some (.inl x3), some (.inl x4)], [], pm_h M σ q y) Φ) (k2 : ¬ (s0 = 0) → pe_X d 234 (27, [some (.inr (.inr M)), some (.inl x1), some (.inl x2), some (.inl x3), some (.inl x4)], [], pm_h M σ q y) Φ) : pe_X d 234 (24, [some (.inr (.inr M)), some (.inl x1), some (.inl x2), some (.inl x3), some (.inl x4)], [.inl s0], pm_h M σ q y) Φ := by
  refine pe_blk 14 1 ck234 [] (cond (decide ((pe_w s0) = 0)) 57 27, [some (.inr (.inr M)), some (.inl x1), some (.inl x2), some (.inl x3), some (.inl x4)], [], pm_h M σ q y) rfl ?_ ?_
  · exact trivial
  · try simp (disch := omega) only [pe_wi w0]
    exact pe_two k1 k2
theorem b234_27 {d : Nat} {Φ : Option pe_V → pe_H → Prop} {σ : pe_H} {M q : Nat} {y : Nat → Int → Int} (hF : pm_F M σ) {x1 : Int} {x2 : Int} {x3 : Int} {x4 : Int}  (w0 : pe_in x2 := by unfold pe_in; omega)  (k1 : ¬ x2 = 1 → pe_X d 234 (59, [some (.inr (.inr M)), some (.inl x1), some (.inl x2), some (.inl x3), some (.inl x4)], [], pm_h M σ q y) Φ) (k2 : x2 = 1 → pe_X d 234 (32, [some (.inr (.inr M)), some (.inl x1), some (.inl x2), some (.inl x3), some (.inl x4)], [], pm_h M σ q y) Φ) : pe_X d 234 (27, [some (.inr (.inr M)), some (.inl x1), some (.inl x2), some (.inl x3), some (.inl x4)], [], pm_h M σ q y) Φ := by
  refine pe_blk 15 3 ck234 [] (cond (decide (¬ (pe_w x2) = (pe_w 1))) 59 32, [some (.inr (.inr M)), some (.inl x1), some (.inl x2), some (.inl x3), some (.inl x4)], [], pm_h M σ q y) rfl ?_ ?_
  · exact trivial
  · try simp (disch := omega) only [pe_wi w0, pe_wi (x := 1) ⟨by decide, by decide⟩]
    exact pe_two' k1 k2
theorem b234_32 {d : Nat} {Φ : Option pe_V → pe_H → Prop} {σ : pe_H} {M q : Nat} {y : Nat → Int → Int} (hF : pm_F M σ) {x1 : Int} {x2 : Int} {x3 : Int} {x4 : Int}  (w0 : pe_in x3 := by unfold pe_in; omega)  (k : pe_M d 134 [.inr (.inl x3), .inr (.inl 0), .inr (.inl 5)] (pm_h M σ q y) (fun r σ' => pe_X d 234 (41, [some (.inr (.inr M)), some (.inl x1), some (.inl x2), some (.inl x3), some (.inl x4)], r.toList ++ [], σ') Φ)) : pe_X d 234 (32, [some (.inr (.inr M)), some (.inl x1), some (.inl x2), some (.inl x3), some (.inl x4)], [], pm_h M σ q y) Φ := by
  refine pe_blk 18 4 ck234 [] (38, [some (.inr (.inr M)), some (.inl x1), some (.inl x2), some (.inl x3), some (.inl x4)], [.inr (.inl 5), .inr (.inl 0), .inr (.inl (pe_w x3))], pm_h M σ q y) rfl ?_ ?_
  · exact trivial
  · try simp (disch := omega) only [pe_wi w0]
    exact pe_cal 22 ck234 rfl rfl rfl trivial k
theorem b234_41 {d : Nat} {Φ : Option pe_V → pe_H → Prop} {σ : pe_H} {M q : Nat} {y : Nat → Int → Int} (hF : pm_F M σ) {x1 : Int} {x2 : Int} {x3 : Int} {x4 : Int} {s0 : Int}  (w0 : pe_in s0 := by unfold pe_in; omega)  (k1 : s0 = 0 → pe_X d 234 (57, [some (.inr (.inr M)), some (.inl x1), some (.inl x2), some (.inl x3), some (.inl x4)], [], pm_h M σ q y) Φ) (k2 : ¬ (s0 = 0) → pe_X d 234 (44, [some (.inr (.inr M)), some (.inl x1), some (.inl x2), some (.inl x3), some (.inl x4)], [], pm_h M σ q y) Φ) : pe_X d 234 (41, [some (.inr (.inr M)), some (.inl x1), some (.inl x2), some (.inl x3), some (.inl x4)], [.inl s0], pm_h M σ q y) Φ := by
  refine pe_blk 23 1 ck234 [] (cond (decide ((pe_w s0) = 0)) 57 44, [some (.inr (.inr M)), some (.inl x1), some (.inl x2), some (.inl x3), some (.inl x4)], [], pm_h M σ q y) rfl ?_ ?_
  · exact trivial
  · try simp (disch := omega) only [pe_wi w0]
    exact pe_two k1 k2
theorem b234_44 {d : Nat} {Φ : Option pe_V → pe_H → Prop} {σ : pe_H} {M q : Nat} {y : Nat → Int → Int} (hF : pm_F M σ) {x1 : Int} {x2 : Int} {x3 : Int} {x4 : Int}  (w0 : pe_in x4 := by unfold pe_in; omega)  (k : pe_M d 134 [.inr (.inl x4), .inr (.inl 0), .inr (.inl 9)] (pm_h M σ q y) (fun r σ' => pe_X d 234 (54, [some (.inr (.inr M)), some (.inl x1), some (.inl x2), some (.inl x3), some (.inl x4)], r.toList ++ [], σ') Φ)) : pe_X d 234 (44, [some (.inr (.inr M)), some (.inl x1), some (.inl x2), some (.inl x3), some (.inl x4)], [], pm_h M σ q y) Φ := by
  refine pe_blk 24 4 ck234 [] (51, [some (.inr (.inr M)), some (.inl x1), some (.inl x2), some (.inl x3), some (.inl x4)], [.inr (.inl 9), .inr (.inl 0), .inr (.inl (pe_w x4))], pm_h M σ q y) rfl ?_ ?_
  · exact trivial
  · try simp (disch := omega) only [pe_wi w0]
    exact pe_cal 28 ck234 rfl rfl rfl trivial k
theorem b234_54 {d : Nat} {Φ : Option pe_V → pe_H → Prop} {σ : pe_H} {M q : Nat} {y : Nat → Int → Int} (hF : pm_F M σ) {x1 : Int} {x2 : Int} {x3 : Int} {x4 : Int} {s0 : Int}  (w0 : pe_in s0 := by unfold pe_in; omega)  (k1 : ¬ s0 = 0 → pe_X d 234 (59, [some (.inr (.inr M)), some (.inl x1), some (.inl x2), some (.inl x3), some (.inl x4)], [], pm_h M σ q y) Φ) (k2 : s0 = 0 → pe_X d 234 (57, [some (.inr (.inr M)), some (.inl x1), some (.inl x2), some (.inl x3), some (.inl x4)], [], pm_h M σ q y) Φ) : pe_X d 234 (54, [some (.inr (.inr M)), some (.inl x1), some (.inl x2), some (.inl x3), some (.inl x4)], [.inl s0], pm_h M σ q y) Φ := by
  refine pe_blk 29 1 ck234 [] (cond (decide (¬ (pe_w s0) = 0)) 59 57, [some (.inr (.inr M)), some (.inl x1), some (.inl x2), some (.inl x3), some (.inl x4)], [], pm_h M σ q y) rfl ?_ ?_
  · exact trivial
  · try simp (disch := omega) only [pe_wi w0]
    exact pe_two' k1 k2
theorem b234_57 {d : Nat} {Φ : Option pe_V → pe_H → Prop} {σ : pe_H} {M q : Nat} {y : Nat → Int → Int} (hF : pm_F M σ) {o1 : Option pe_V} {o2 : Option pe_V} {o3 : Option pe_V} {o4 : Option pe_V}    (k : Φ (some (.inl (-1))) (pm_h M σ q y)) : pe_X d 234 (57, [some (.inr (.inr M)), o1, o2, o3, o4], [], pm_h M σ q y) Φ := by
  refine pe_blk 30 1 ck234 [] (58, [some (.inr (.inr M)), o1, o2, o3, o4], [.inl (-1)], pm_h M σ q y) rfl ?_ ?_
  · exact trivial
  · exact pe_fine 31 ck234 rfl rfl rfl trivial k
theorem b234_59 {d : Nat} {Φ : Option pe_V → pe_H → Prop} {σ : pe_H} {M q : Nat} {y : Nat → Int → Int} (hF : pm_F M σ) {x1 : Int} {x2 : Int} {x3 : Int} {x4 : Int}  (w0 : pe_in x1 := by unfold pe_in; omega) (w1 : pe_in x2 := by unfold pe_in; omega) (h0 : 0 ≤ x1 := by first | assumption | omega) (h1 : x1 < 8 := by first | assumption | omega) (k1 : ¬ x2 = 1 → pe_X d 234 (80, [some (.inr (.inr M)), some (.inl x1), some (.inl x2), some (.inl x3), some (.inl x4)], [.inl x1, .inr (.inr (M + 28))], pm_h M σ q (pm_u y 27 x1 x2)) Φ) (k2 : x2 = 1 → pe_X d 234 (76, [some (.inr (.inr M)), some (.inl x1), some (.inl x2), some (.inl x3), some (.inl x4)], [.inl x1, .inr (.inr (M + 28))], pm_h M σ q (pm_u y 27 x1 x2)) Φ) : pe_X d 234 (59, [some (.inr (.inr M)), some (.inl x1), some (.inl x2), some (.inl x3), some (.inl x4)], [], pm_h M σ q y) Φ := by
  have hM2 := pm_2 hF
  refine pe_blk 32 11 ck234 [pe_K (pm_h M σ q y) M = 9, pe_K (pm_h M σ q y) (pe_R (pm_h M σ q y) M 31) = 10, 0 ≤ (pe_w x1), (pe_w x1) < pe_L (pm_h M σ q y) (pe_R (pm_h M σ q y) M 31), 2 ≤ (pe_R (pm_h M σ q y) M 31), pe_K (pe_wI (pm_h M σ q y) (pe_R (pm_h M σ q y) M 31) (pe_w x1) x2) M = 9] (cond (decide (¬ (pe_w x2) = (pe_w 1))) 80 76, [some (.inr (.inr M)), some (.inl x1), some (.inl x2), some (.inl x3), some (.inl x4)], [.inl x1, .inr (.inr (pe_R (pe_wI (pm_h M σ q y) (pe_R (pm_h M σ q y) M 31) (pe_w x1) x2) M 32))], pe_wI (pm_h M σ q y) (pe_R (pm_h M σ q y) M 31) (pe_w x1) x2) rfl ?_ ?_
  · first
    | (simp (disch := omega) only [pe_all, pe_wi w0, pe_wi w1, pe_wi (x := 1) ⟨by decide, by decide⟩, pe_K_wI, pe_K_wR, pe_L_wI, pe_L_wR, pe_R_nej, pe_R_wI, pm_K27 hF, pm_KM hF, pm_Kh, pm_L27 hF, pm_Lh, pm_R31 hF, pm_R32 hF, pm_Rh, pm_wIk]; done)
    | (simp (disch := omega) only [pe_all, pe_wi w0, pe_wi w1, pe_wi (x := 1) ⟨by decide, by decide⟩, pe_K_wI, pe_K_wR, pe_L_wI, pe_L_wR, pe_R_nej, pe_R_wI, pm_K27 hF, pm_KM hF, pm_Kh, pm_L27 hF, pm_Lh, pm_R31 hF, pm_R32 hF, pm_Rh, pm_wIk]; (repeat' apply And.intro) <;> first | assumption | omega | decide)
  · try simp (disch := omega) only [pe_wi w0, pe_wi w1, pe_wi (x := 1) ⟨by decide, by decide⟩, pe_K_wI, pe_K_wR, pe_L_wI, pe_L_wR, pe_R_nej, pe_R_wI, pm_K27 hF, pm_KM hF, pm_Kh, pm_L27 hF, pm_Lh, pm_R31 hF, pm_R32 hF, pm_Rh, pm_wIk]
    exact pe_two' k1 k2
theorem b234_76 {d : Nat} {Φ : Option pe_V → pe_H → Prop} {σ : pe_H} {M q : Nat} {y : Nat → Int → Int} (hF : pm_F M σ) {x1 : Int} {x2 : Int} {x3 : Int} {x4 : Int} {s1 : Int}    (k : pe_X d 234 (81, [some (.inr (.inr M)), some (.inl x1), some (.inl x2), some (.inl x3), some (.inl x4)], [.inl x3, .inl s1, .inr (.inr (M + 28))], pm_h M σ q y) Φ) : pe_X d 234 (76, [some (.inr (.inr M)), some (.inl x1), some (.inl x2), some (.inl x3), some (.inl x4)], [.inl s1, .inr (.inr (M + 28))], pm_h M σ q y) Φ := by
  refine pe_blk 43 2 ck234 [] (81, [some (.inr (.inr M)), some (.inl x1), some (.inl x2), some (.inl x3), some (.inl x4)], [.inl x3, .inl s1, .inr (.inr (M + 28))], pm_h M σ q y) rfl ?_ ?_
  · exact trivial
  · exact k
theorem b234_80 {d : Nat} {Φ : Option pe_V → pe_H → Prop} {σ : pe_H} {M q : Nat} {y : Nat → Int → Int} (hF : pm_F M σ) {x1 : Int} {x2 : Int} {o3 : Option pe_V} {x4 : Int} {s1 : Int}    (k : pe_X d 234 (81, [some (.inr (.inr M)), some (.inl x1), some (.inl x2), o3, some (.inl x4)], [.inl 0, .inl s1, .inr (.inr (M + 28))], pm_h M σ q y) Φ) : pe_X d 234 (80, [some (.inr (.inr M)), some (.inl x1), some (.inl x2), o3, some (.inl x4)], [.inl s1, .inr (.inr (M + 28))], pm_h M σ q y) Φ := by
  refine pe_blk 45 1 ck234 [] (81, [some (.inr (.inr M)), some (.inl x1), some (.inl x2), o3, some (.inl x4)], [.inl 0, .inl s1, .inr (.inr (M + 28))], pm_h M σ q y) rfl ?_ ?_
  · exact trivial
  · exact k
set_option maxRecDepth 8000 in
theorem b234_81 {d : Nat} {Φ : Option pe_V → pe_H → Prop} {σ : pe_H} {M q : Nat} {y : Nat → Int → Int} (hF : pm_F M σ) {x1 : Int} {x2 : Int} {o3 : Option pe_V} {x4 : Int} {s1 : Int} {s2 : Int}  (w0 : pe_in s1 := by unfold pe_in; omega) (w1 : pe_in x2 := by unfold pe_in; omega) (h0 : 0 ≤ s1 := by first | assumption | omega) (h1 : s1 < 8 := by first | assumption | omega) (k1 : ¬ x2 = 1 → pe_X d 234 (97, [some (.inr (.inr M)), some (.inl x1), some (.inl x2), o3, some (.inl x4)], [.inl x1, .inr (.inr (M + 29))], pm_h M σ q (pm_u y 28 s1 s2)) Φ) (k2 : x2 = 1 → pe_X d 234 (92, [some (.inr (.inr M)), some (.inl x1), some (.inl x2), o3, some (.inl x4)], [.inl x1, .inr (.inr (M + 29))], pm_h M σ q (pm_u y 28 s1 s2)) Φ) : pe_X d 234 (81, [some (.inr (.inr M)), some (.inl x1), some (.inl x2), o3, some (.inl x4)], [.inl s2, .inl s1, .inr (.inr (M + 28))], pm_h M σ q y) Φ := by
  have hM2 := pm_2 hF
  refine pe_blk 46 7 ck234 [pe_K (pm_h M σ q y) (M + 28) = 10, 0 ≤ (pe_w s1), (pe_w s1) < pe_L (pm_h M σ q y) (M + 28), 2 ≤ (M + 28), pe_K (pe_wI (pm_h M σ q y) (M + 28) (pe_w s1) s2) M = 9] (cond (decide (¬ (pe_w x2) = (pe_w 1))) 97 92, [some (.inr (.inr M)), some (.inl x1), some (.inl x2), o3, some (.inl x4)], [.inl x1, .inr (.inr (pe_R (pe_wI (pm_h M σ q y) (M + 28) (pe_w s1) s2) M 33))], pe_wI (pm_h M σ q y) (M + 28) (pe_w s1) s2) rfl ?_ ?_
  · first
    | (simp (disch := omega) only [pe_all, pe_wi w0, pe_wi w1, pe_wi (x := 1) ⟨by decide, by decide⟩, pe_K_wI, pe_K_wR, pe_L_wI, pe_L_wR, pe_R_nej, pe_R_wI, pm_K28 hF, pm_KM hF, pm_Kh, pm_L28 hF, pm_Lh, pm_R33 hF, pm_Rh, pm_wIk]; done)
    | (simp (disch := omega) only [pe_all, pe_wi w0, pe_wi w1, pe_wi (x := 1) ⟨by decide, by decide⟩, pe_K_wI, pe_K_wR, pe_L_wI, pe_L_wR, pe_R_nej, pe_R_wI, pm_K28 hF, pm_KM hF, pm_Kh, pm_L28 hF, pm_Lh, pm_R33 hF, pm_Rh, pm_wIk]; (repeat' apply And.intro) <;> first | assumption | omega | decide)
  · try simp (disch := omega) only [pe_wi w0, pe_wi w1, pe_wi (x := 1) ⟨by decide, by decide⟩, pe_K_wI, pe_K_wR, pe_L_wI, pe_L_wR, pe_R_nej, pe_R_wI, pm_K28 hF, pm_KM hF, pm_Kh, pm_L28 hF, pm_Lh, pm_R33 hF, pm_Rh, pm_wIk]
    exact pe_two' k1 k2
set_option maxRecDepth 8000 in
theorem b234_92 {d : Nat} {Φ : Option pe_V → pe_H → Prop} {σ : pe_H} {M q : Nat} {y : Nat → Int → Int} (hF : pm_F M σ) {o1 : Option pe_V} {o2 : Option pe_V} {o3 : Option pe_V} {x4 : Int} {s1 : Int}    (k : pe_X d 234 (98, [some (.inr (.inr M)), o1, o2, o3, some (.inl x4)], [.inl x4, .inl s1, .inr (.inr (M + 29))], pm_h M σ q y) Φ) : pe_X d 234 (92, [some (.inr (.inr M)), o1, o2, o3, some (.inl x4)], [.inl s1, .inr (.inr (M + 29))], pm_h M σ q y) Φ := by
  refine pe_blk 53 2 ck234 [] (98, [some (.inr (.inr M)), o1, o2, o3, some (.inl x4)], [.inl x4, .inl s1, .inr (.inr (M + 29))], pm_h M σ q y) rfl ?_ ?_
  · exact trivial
  · exact k
set_option maxRecDepth 8000 in
theorem b234_97 {d : Nat} {Φ : Option pe_V → pe_H → Prop} {σ : pe_H} {M q : Nat} {y : Nat → Int → Int} (hF : pm_F M σ) {o1 : Option pe_V} {o2 : Option pe_V} {o3 : Option pe_V} {o4 : Option pe_V} {s1 : Int}    (k : pe_X d 234 (98, [some (.inr (.inr M)), o1, o2, o3, o4], [.inl 0, .inl s1, .inr (.inr (M + 29))], pm_h M σ q y) Φ) : pe_X d 234 (97, [some (.inr (.inr M)), o1, o2, o3, o4], [.inl s1, .inr (.inr (M + 29))], pm_h M σ q y) Φ := by
  refine pe_blk 55 1 ck234 [] (98, [some (.inr (.inr M)), o1, o2, o3, o4], [.inl 0, .inl s1, .inr (.inr (M + 29))], pm_h M σ q y) rfl ?_ ?_
  · exact trivial
  · exact k
set_option maxRecDepth 8000 in
theorem b234_98 {d : Nat} {Φ : Option pe_V → pe_H → Prop} {σ : pe_H} {M q : Nat} {y : Nat → Int → Int} (hF : pm_F M σ) {o1 : Option pe_V} {o2 : Option pe_V} {o3 : Option pe_V} {o4 : Option pe_V} {s1 : Int} {s2 : Int}  (w0 : pe_in s1 := by unfold pe_in; omega) (h0 : 0 ≤ s1 := by first | assumption | omega) (h1 : s1 < 8 := by first | assumption | omega) (k : Φ (some (.inl 0)) (pm_h M σ q (pm_u y 29 s1 s2))) : pe_X d 234 (98, [some (.inr (.inr M)), o1, o2, o3, o4], [.inl s2, .inl s1, .inr (.inr (M + 29))], pm_h M σ q y) Φ := by
  have hM2 := pm_2 hF
  refine pe_blk 56 2 ck234 [pe_K (pm_h M σ q y) (M + 29) = 10, 0 ≤ (pe_w s1), (pe_w s1) < pe_L (pm_h M σ q y) (M + 29), 2 ≤ (M + 29)] (100, [some (.inr (.inr M)), o1, o2, o3, o4], [.inl 0], pe_wI (pm_h M σ q y) (M + 29) (pe_w s1) s2) rfl ?_ ?_
  · first
    | (simp (disch := omega) only [pe_all, pe_wi w0, pe_K_wI, pe_K_wR, pe_L_wI, pe_L_wR, pm_K29 hF, pm_Kh, pm_L29 hF, pm_Lh, pm_wIk]; done)
    | (simp (disch := omega) only [pe_all, pe_wi w0, pe_K_wI, pe_K_wR, pe_L_wI, pe_L_wR, pm_K29 hF, pm_Kh, pm_L29 hF, pm_Lh, pm_wIk]; (repeat' apply And.intro) <;> first | assumption | omega | decide)
  · try simp (disch := omega) only [pe_wi w0, pe_K_wI, pe_K_wR, pe_L_wI, pe_L_wR, pm_K29 hF, pm_Kh, pm_L29 hF, pm_Lh, pm_wIk]
    exact pe_fine 58 ck234 rfl rfl rfl trivial k
-- StepMachinesModel.wrongRow(I)I
def T235 : List (Nat × Instr × Nat) := [(0, .iload_n 1, 1), (1, .i2l, 1), (2, .lconst 0, 1), (3, .ldc2_w 438, 3), (6, .invokestatic 147, 3), (9, .ifCond .ne 7, 3), (12, .iconst (-1), 1), (13, .goto 33, 3), (16, .aload_n 0, 1), (17, .getfield 92, 3), (20, .iload_n 1, 1), (21, .iaload, 1), (22, .ifCond .ne 8, 3), (25, .bipush (-11), 2), (27, .goto 19, 3), (30, .aload_n 0, 1), (31, .getfield 92, 3), (34, .iload_n 1, 1), (35, .iaload, 1), (36, .iconst 2, 1), (37, .if_icmp .eq 8, 3), (40, .bipush (-12), 2), (42, .goto 4, 3), (45, .iconst 0, 1), (46, .ireturn, 1)]
theorem ck235 : pe_ctx 235 9 false (some .int) 2 T235 := ⟨rfl, rfl, rfl, rfl, by decide +kernel, by decide, by decide⟩
theorem b235_0 {d : Nat} {Φ : Option pe_V → pe_H → Prop} {σ : pe_H} {M q : Nat} {y : Nat → Int → Int} (hF : pm_F M σ) {x1 : Int}  (w0 : pe_in x1 := by unfold pe_in; omega)  (k : pe_M d 134 [.inr (.inl x1), .inr (.inl 0), .inr (.inl 7)] (pm_h M σ q y) (fun r σ' => pe_X d 235 (9, [some (.inr (.inr M)), some (.inl x1)], r.toList ++ [], σ') Φ)) : pe_X d 235 (0, [some (.inr (.inr M)), some (.inl x1)], [], pm_h M σ q y) Φ := by
  refine pe_blk 0 4 ck235 [] (6, [some (.inr (.inr M)), some (.inl x1)], [.inr (.inl 7), .inr (.inl 0), .inr (.inl (pe_w x1))], pm_h M σ q y) rfl ?_ ?_
  · exact trivial
  · try simp (disch := omega) only [pe_wi w0]
    exact pe_cal 4 ck235 rfl rfl rfl trivial k
theorem b235_9 {d : Nat} {Φ : Option pe_V → pe_H → Prop} {σ : pe_H} {M q : Nat} {y : Nat → Int → Int} (hF : pm_F M σ) {x1 : Int} {s0 : Int}  (w0 : pe_in s0 := by unfold pe_in; omega)  (k1 : ¬ s0 = 0 → pe_X d 235 (16, [some (.inr (.inr M)), some (.inl x1)], [], pm_h M σ q y) Φ) (k2 : s0 = 0 → pe_X d 235 (12, [some (.inr (.inr M)), some (.inl x1)], [], pm_h M σ q y) Φ) : pe_X d 235 (9, [some (.inr (.inr M)), some (.inl x1)], [.inl s0], pm_h M σ q y) Φ := by
  refine pe_blk 5 1 ck235 [] (cond (decide (¬ (pe_w s0) = 0)) 16 12, [some (.inr (.inr M)), some (.inl x1)], [], pm_h M σ q y) rfl ?_ ?_
  · exact trivial
  · try simp (disch := omega) only [pe_wi w0]
    exact pe_two' k1 k2
theorem b235_12 {d : Nat} {Φ : Option pe_V → pe_H → Prop} {σ : pe_H} {M q : Nat} {y : Nat → Int → Int} (hF : pm_F M σ) {o1 : Option pe_V}    (k : pe_X d 235 (46, [some (.inr (.inr M)), o1], [.inl (-1)], pm_h M σ q y) Φ) : pe_X d 235 (12, [some (.inr (.inr M)), o1], [], pm_h M σ q y) Φ := by
  refine pe_blk 6 2 ck235 [] (46, [some (.inr (.inr M)), o1], [.inl (-1)], pm_h M σ q y) rfl ?_ ?_
  · exact trivial
  · exact k
theorem b235_16 {d : Nat} {Φ : Option pe_V → pe_H → Prop} {σ : pe_H} {M q : Nat} {y : Nat → Int → Int} (hF : pm_F M σ) {x1 : Int}  (w0 : pe_in x1 := by unfold pe_in; omega) (w1 : pe_in (y 27 x1) := by unfold pe_in; omega) (h0 : 0 ≤ x1 := by first | assumption | omega) (h1 : x1 < 8 := by first | assumption | omega) (k1 : ¬ (y 27 x1) = 0 → pe_X d 235 (30, [some (.inr (.inr M)), some (.inl x1)], [], pm_h M σ q y) Φ) (k2 : (y 27 x1) = 0 → pe_X d 235 (25, [some (.inr (.inr M)), some (.inl x1)], [], pm_h M σ q y) Φ) : pe_X d 235 (16, [some (.inr (.inr M)), some (.inl x1)], [], pm_h M σ q y) Φ := by
  refine pe_blk 8 5 ck235 [pe_K (pm_h M σ q y) M = 9, pe_K (pm_h M σ q y) (pe_R (pm_h M σ q y) M 31) = 10, 0 ≤ (pe_w x1), (pe_w x1) < pe_L (pm_h M σ q y) (pe_R (pm_h M σ q y) M 31)] (cond (decide (¬ (pe_w (pe_I (pm_h M σ q y) (pe_R (pm_h M σ q y) M 31) (pe_w x1))) = 0)) 30 25, [some (.inr (.inr M)), some (.inl x1)], [], pm_h M σ q y) rfl ?_ ?_
  · first
    | (simp (disch := omega) only [pe_all, pe_wi w0, pe_wi w1, pe_I_wR, pe_K_wI, pe_K_wR, pe_L_wI, pe_L_wR, pe_R_nej, pe_R_wI, pm_Ik, pm_K27 hF, pm_KM hF, pm_Kh, pm_L27 hF, pm_Lh, pm_R31 hF, pm_Rh, pm_uj, pm_uk, pm_us]; done)
    | (simp (disch := omega) only [pe_all, pe_wi w0, pe_wi w1, pe_I_wR, pe_K_wI, pe_K_wR, pe_L_wI, pe_L_wR, pe_R_nej, pe_R_wI, pm_Ik, pm_K27 hF, pm_KM hF, pm_Kh, pm_L27 hF, pm_Lh, pm_R31 hF, pm_Rh, pm_uj, pm_uk, pm_us]; (repeat' apply And.intro) <;> first | assumption | omega | decide)
  · try simp (disch := omega) only [pe_wi w0, pe_wi w1, pe_I_wR, pe_K_wI, pe_K_wR, pe_L_wI, pe_L_wR, pe_R_nej, pe_R_wI, pm_Ik, pm_K27 hF, pm_KM hF, pm_Kh, pm_L27 hF, pm_Lh, pm_R31 hF, pm_Rh, pm_uj, pm_uk, pm_us]
    exact pe_two' k1 k2
theorem b235_25 {d : Nat} {Φ : Option pe_V → pe_H → Prop} {σ : pe_H} {M q : Nat} {y : Nat → Int → Int} (hF : pm_F M σ) {o1 : Option pe_V}    (k : pe_X d 235 (46, [some (.inr (.inr M)), o1], [.inl (-11)], pm_h M σ q y) Φ) : pe_X d 235 (25, [some (.inr (.inr M)), o1], [], pm_h M σ q y) Φ := by
  refine pe_blk 13 2 ck235 [] (46, [some (.inr (.inr M)), o1], [.inl (-11)], pm_h M σ q y) rfl ?_ ?_
  · exact trivial
  · exact k
theorem b235_30 {d : Nat} {Φ : Option pe_V → pe_H → Prop} {σ : pe_H} {M q : Nat} {y : Nat → Int → Int} (hF : pm_F M σ) {x1 : Int}  (w0 : pe_in x1 := by unfold pe_in; omega) (w1 : pe_in (y 27 x1) := by unfold pe_in; omega) (h0 : 0 ≤ x1 := by first | assumption | omega) (h1 : x1 < 8 := by first | assumption | omega) (k1 : (y 27 x1) = 2 → pe_X d 235 (45, [some (.inr (.inr M)), some (.inl x1)], [], pm_h M σ q y) Φ) (k2 : ¬ ((y 27 x1) = 2) → pe_X d 235 (40, [some (.inr (.inr M)), some (.inl x1)], [], pm_h M σ q y) Φ) : pe_X d 235 (30, [some (.inr (.inr M)), some (.inl x1)], [], pm_h M σ q y) Φ := by
  refine pe_blk 15 6 ck235 [pe_K (pm_h M σ q y) M = 9, pe_K (pm_h M σ q y) (pe_R (pm_h M σ q y) M 31) = 10, 0 ≤ (pe_w x1), (pe_w x1) < pe_L (pm_h M σ q y) (pe_R (pm_h M σ q y) M 31)] (cond (decide ((pe_w (pe_I (pm_h M σ q y) (pe_R (pm_h M σ q y) M 31) (pe_w x1))) = (pe_w 2))) 45 40, [some (.inr (.inr M)), some (.inl x1)], [], pm_h M σ q y) rfl ?_ ?_
  · first
    | (simp (disch := omega) only [pe_all, pe_wi w0, pe_wi w1, pe_wi (x := 2) ⟨by decide, by decide⟩, pe_I_wR, pe_K_wI, pe_K_wR, pe_L_wI, pe_L_wR, pe_R_nej, pe_R_wI, pm_Ik, pm_K27 hF, pm_KM hF, pm_Kh, pm_L27 hF, pm_Lh, pm_R31 hF, pm_Rh, pm_uj, pm_uk, pm_us]; done)
    | (simp (disch := omega) only [pe_all, pe_wi w0, pe_wi w1, pe_wi (x := 2) ⟨by decide, by decide⟩, pe_I_wR, pe_K_wI, pe_K_wR, pe_L_wI, pe_L_wR, pe_R_nej, pe_R_wI, pm_Ik, pm_K27 hF, pm_KM hF, pm_Kh, pm_L27 hF, pm_Lh, pm_R31 hF, pm_Rh, pm_uj, pm_uk, pm_us]; (repeat' apply And.intro) <;> first | assumption | omega | decide)
  · try simp (disch := omega) only [pe_wi w0, pe_wi w1, pe_wi (x := 2) ⟨by decide, by decide⟩, pe_I_wR, pe_K_wI, pe_K_wR, pe_L_wI, pe_L_wR, pe_R_nej, pe_R_wI, pm_Ik, pm_K27 hF, pm_KM hF, pm_Kh, pm_L27 hF, pm_Lh, pm_R31 hF, pm_Rh, pm_uj, pm_uk, pm_us]
    exact pe_two k1 k2
theorem b235_40 {d : Nat} {Φ : Option pe_V → pe_H → Prop} {σ : pe_H} {M q : Nat} {y : Nat → Int → Int} (hF : pm_F M σ) {o1 : Option pe_V}    (k : pe_X d 235 (46, [some (.inr (.inr M)), o1], [.inl (-12)], pm_h M σ q y) Φ) : pe_X d 235 (40, [some (.inr (.inr M)), o1], [], pm_h M σ q y) Φ := by
  refine pe_blk 21 2 ck235 [] (46, [some (.inr (.inr M)), o1], [.inl (-12)], pm_h M σ q y) rfl ?_ ?_
  · exact trivial
  · exact k
theorem b235_45 {d : Nat} {Φ : Option pe_V → pe_H → Prop} {σ : pe_H} {M q : Nat} {y : Nat → Int → Int} (hF : pm_F M σ) {o1 : Option pe_V}    (k : pe_X d 235 (46, [some (.inr (.inr M)), o1], [.inl 0], pm_h M σ q y) Φ) : pe_X d 235 (45, [some (.inr (.inr M)), o1], [], pm_h M σ q y) Φ := by
  refine pe_blk 23 1 ck235 [] (46, [some (.inr (.inr M)), o1], [.inl 0], pm_h M σ q y) rfl ?_ ?_
  · exact trivial
  · exact k
theorem b235_46 {d : Nat} {Φ : Option pe_V → pe_H → Prop} {σ : pe_H} {M q : Nat} {y : Nat → Int → Int} (hF : pm_F M σ) {o1 : Option pe_V} {s0 : Int}    (k : Φ (some (.inl s0)) (pm_h M σ q y)) : pe_X d 235 (46, [some (.inr (.inr M)), o1], [.inl s0], pm_h M σ q y) Φ := by
  exact pe_fine 24 ck235 rfl rfl rfl trivial k
-- StepMachinesModel.narrowed(II)J
def T236 : List (Nat × Instr × Nat) := [(0, .iload_n 1, 1), (1, .ifCond .ne 9, 3), (4, .iload_n 0, 1), (5, .i2b, 1), (6, .i2l, 1), (7, .goto 16, 3), (10, .iload_n 1, 1), (11, .iconst 1, 1), (12, .if_icmp .ne 9, 3), (15, .iload_n 0, 1), (16, .i2s, 1), (17, .i2l, 1), (18, .goto 5, 3), (21, .iload_n 0, 1), (22, .i2l, 1), (23, .lreturn, 1)]
theorem ck236 : pe_ctx 236 9 false (some .long) 2 T236 := ⟨rfl, rfl, rfl, rfl, by decide +kernel, by decide, by decide⟩
theorem b236_0 {d : Nat} {Φ : Option pe_V → pe_H → Prop} {σ : pe_H} {M q : Nat} {y : Nat → Int → Int} (hF : pm_F M σ) {x0 : Int} {x1 : Int}  (w0 : pe_in x1 := by unfold pe_in; omega)  (k1 : ¬ x1 = 0 → pe_X d 236 (10, [some (.inl x0), some (.inl x1)], [], pm_h M σ q y) Φ) (k2 : x1 = 0 → pe_X d 236 (4, [some (.inl x0), some (.inl x1)], [], pm_h M σ q y) Φ) : pe_X d 236 (0, [some (.inl x0), some (.inl x1)], [], pm_h M σ q y) Φ := by
  refine pe_blk 0 2 ck236 [] (cond (decide (¬ (pe_w x1) = 0)) 10 4, [some (.inl x0), some (.inl x1)], [], pm_h M σ q y) rfl ?_ ?_
  · exact trivial
  · try simp (disch := omega) only [pe_wi w0]
    exact pe_two' k1 k2
theorem b236_4 {d : Nat} {Φ : Option pe_V → pe_H → Prop} {σ : pe_H} {M q : Nat} {y : Nat → Int → Int} (hF : pm_F M σ) {x0 : Int} {o1 : Option pe_V}  (w0 : pe_in (pe_i2b x0) := by unfold pe_in; omega)  (k : pe_X d 236 (23, [some (.inl x0), o1], [.inr (.inl (pe_i2b x0))], pm_h M σ q y) Φ) : pe_X d 236 (4, [some (.inl x0), o1], [], pm_h M σ q y) Φ := by
  refine pe_blk 2 4 ck236 [] (23, [some (.inl x0), o1], [.inr (.inl (pe_w (pe_i2b x0)))], pm_h M σ q y) rfl ?_ ?_
  · exact trivial
  · try simp (disch := omega) only [pe_wi w0]
    exact k
theorem b236_10 {d : Nat} {Φ : Option pe_V → pe_H → Prop} {σ : pe_H} {M q : Nat} {y : Nat → Int → Int} (hF : pm_F M σ) {x0 : Int} {x1 : Int}  (w0 : pe_in x1 := by unfold pe_in; omega)  (k1 : ¬ x1 = 1 → pe_X d 236 (21, [some (.inl x0), some (.inl x1)], [], pm_h M σ q y) Φ) (k2 : x1 = 1 → pe_X d 236 (15, [some (.inl x0), some (.inl x1)], [], pm_h M σ q y) Φ) : pe_X d 236 (10, [some (.inl x0), some (.inl x1)], [], pm_h M σ q y) Φ := by
  refine pe_blk 6 3 ck236 [] (cond (decide (¬ (pe_w x1) = (pe_w 1))) 21 15, [some (.inl x0), some (.inl x1)], [], pm_h M σ q y) rfl ?_ ?_
  · exact trivial
  · try simp (disch := omega) only [pe_wi w0, pe_wi (x := 1) ⟨by decide, by decide⟩]
    exact pe_two' k1 k2
theorem b236_15 {d : Nat} {Φ : Option pe_V → pe_H → Prop} {σ : pe_H} {M q : Nat} {y : Nat → Int → Int} (hF : pm_F M σ) {x0 : Int} {o1 : Option pe_V}  (w0 : pe_in (pe_i2s x0) := by unfold pe_in; omega)  (k : pe_X d 236 (23, [some (.inl x0), o1], [.inr (.inl (pe_i2s x0))], pm_h M σ q y) Φ) : pe_X d 236 (15, [some (.inl x0), o1], [], pm_h M σ q y) Φ := by
  refine pe_blk 9 4 ck236 [] (23, [some (.inl x0), o1], [.inr (.inl (pe_w (pe_i2s x0)))], pm_h M σ q y) rfl ?_ ?_
  · exact trivial
  · try simp (disch := omega) only [pe_wi w0]
    exact k
theorem b236_21 {d : Nat} {Φ : Option pe_V → pe_H → Prop} {σ : pe_H} {M q : Nat} {y : Nat → Int → Int} (hF : pm_F M σ) {x0 : Int} {o1 : Option pe_V}  (w0 : pe_in x0 := by unfold pe_in; omega)  (k : pe_X d 236 (23, [some (.inl x0), o1], [.inr (.inl x0)], pm_h M σ q y) Φ) : pe_X d 236 (21, [some (.inl x0), o1], [], pm_h M σ q y) Φ := by
  refine pe_blk 13 2 ck236 [] (23, [some (.inl x0), o1], [.inr (.inl (pe_w x0))], pm_h M σ q y) rfl ?_ ?_
  · exact trivial
  · try simp (disch := omega) only [pe_wi w0]
    exact k
theorem b236_23 {d : Nat} {Φ : Option pe_V → pe_H → Prop} {σ : pe_H} {M q : Nat} {y : Nat → Int → Int} (hF : pm_F M σ) {o0 : Option pe_V} {o1 : Option pe_V} {z0 : Int}    (k : Φ (some (.inr (.inl z0))) (pm_h M σ q y)) : pe_X d 236 (23, [o0, o1], [.inr (.inl z0)], pm_h M σ q y) Φ := by
  exact pe_fine 15 ck236 rfl rfl rfl trivial k
-- StepMachinesModel.row(III)I
def T237 : List (Nat × Instr × Nat) := [(0, .aload_n 0, 1), (1, .iconst 0, 1), (2, .putfield 141, 3), (5, .iload_n 1, 1), (6, .i2l, 1), (7, .lconst 0, 1), (8, .ldc2_w 438, 3), (11, .invokestatic 147, 3), (14, .ifCond .eq 21, 3), (17, .iload_n 2, 1), (18, .i2l, 1), (19, .lconst 0, 1), (20, .ldc2_w 387, 3), (23, .invokestatic 147, 3), (26, .ifCond .eq 9, 3), (29, .iload_n 3, 1), (30, .bipush 100, 2), (32, .if_icmp .le 5, 3), (35, .iconst (-1), 1), (36, .ireturn, 1), (37, .iload_n 3, 1), (38, .ifCond .ge 6, 3), (41, .bipush (-14), 2), (43, .ireturn, 1), (44, .aload_n 0, 1), (45, .getfield 92, 3), (48, .iload_n 1, 1), (49, .iconst 2, 1), (50, .iastore, 1), (51, .aload_n 0, 1), (52, .getfield 101, 3), (55, .iload_n 1, 1), (56, .iload_n 2, 1), (57, .iastore, 1), (58, .aload_n 0, 1), (59, .getfield 104, 3), (62, .iload_n 1, 1), (63, .iload_n 3, 1), (64, .iastore, 1), (65, .iconst 0, 1), (66, .istore 4, 2), (68, .iload 4, 2), (70, .bipush 100, 2), (72, .if_icmp .ge 22, 3), (75, .aload_n 0, 1), (76, .getfield 107, 3), (79, .bipush 100, 2), (81, .iload_n 1, 1), (82, .imul, 1), (83, .iload 4, 2), (85, .iadd, 1), (86, .lconst 0, 1), (87, .lastore, 1), (88, .iinc 4 1, 3), (91, .goto (-23), 3), (94, .iconst 0, 1), (95, .ireturn, 1)]
theorem ck237 : pe_ctx 237 9 false (some .int) 5 T237 := ⟨rfl, rfl, rfl, rfl, by decide +kernel, by decide, by decide⟩
theorem b237_0 {d : Nat} {Φ : Option pe_V → pe_H → Prop} {σ : pe_H} {M q : Nat} {y : Nat → Int → Int} (hF : pm_F M σ) {x1 : Int} {x2 : Int} {x3 : Int} {o4 : Option pe_V}  (w0 : pe_in x1 := by unfold pe_in; omega)  (k : pe_M d 134 [.inr (.inl x1), .inr (.inl 0), .inr (.inl 7)] (pm_h M σ q (pm_u y 0 37 0)) (fun r σ' => pe_X d 237 (14, [some (.inr (.inr M)), some (.inl x1), some (.inl x2), some (.inl x3), o4], r.toList ++ [], σ') Φ)) : pe_X d 237 (0, [some (.inr (.inr M)), some (.inl x1), some (.inl x2), some (.inl x3), o4], [], pm_h M σ q y) Φ := by
  refine pe_blk 0 7 ck237 [pe_K (pm_h M σ q y) M = 9] (11, [some (.inr (.inr M)), some (.inl x1), some (.inl x2), some (.inl x3), o4], [.inr (.inl 7), .inr (.inl 0), .inr (.inl (pe_w x1))], pe_wI (pm_h M σ q y) M 37 0) rfl ?_ ?_
  · first
    | (simp (disch := omega) only [pe_all, pe_wi w0, pe_K_wI, pe_K_wR, pm_KM hF, pm_Kh, pm_wI0]; done)
    | (simp (disch := omega) only [pe_all, pe_wi w0, pe_K_wI, pe_K_wR, pm_KM hF, pm_Kh, pm_wI0]; (repeat' apply And.intro) <;> first | assumption | omega | decide)
  · try simp (disch := omega) only [pe_wi w0, pe_K_wI, pe_K_wR, pm_KM hF, pm_Kh, pm_wI0]
    exact pe_cal 7 ck237 rfl rfl rfl trivial k
theorem b237_14 {d : Nat} {Φ : Option pe_V → pe_H → Prop} {σ : pe_H} {M q : Nat} {y : Nat → Int → Int} (hF : pm_F M σ) {x1 : Int} {x2 : Int} {x3 : Int} {o4 : Option pe_V} {s0 : Int}  (w0 : pe_in s0 := by unfold pe_in; omega)  (k1 : s0 = 0 → pe_X d 237 (35, [some (.inr (.inr M)), some (.inl x1), some (.inl x2), some (.inl x3), o4], [], pm_h M σ q y) Φ) (k2 : ¬ (s0 = 0) → pe_X d 237 (17, [some (.inr (.inr M)), some (.inl x1), some (.inl x2), some (.inl x3), o4], [], pm_h M σ q y) Φ) : pe_X d 237 (14, [some (.inr (.inr M)), some (.inl x1), some (.inl x2), some (.inl x3), o4], [.inl s0], pm_h M σ q y) Φ := by
  refine pe_blk 8 1 ck237 [] (cond (decide ((pe_w s0) = 0)) 35 17, [some (.inr (.inr M)), some (.inl x1), some (.inl x2), some (.inl x3), o4], [], pm_h M σ q y) rfl ?_ ?_
  · exact trivial
  · try simp (disch := omega) only [pe_wi w0]
    exact pe_two k1 k2
theorem b237_17 {d : Nat} {Φ : Option pe_V → pe_H → Prop} {σ : pe_H} {M q : Nat} {y : Nat → Int → Int} (hF : pm_F M σ) {x1 : Int} {x2 : Int} {x3 : Int} {o4 : Option pe_V}  (w0 : pe_in x2 := by unfold pe_in; omega)  (k : pe_M d 134 [.inr (.inl x2), .inr (.inl 0), .inr (.inl 2)] (pm_h M σ q y) (fun r σ' => pe_X d 237 (26, [some (.inr (.inr M)), some (.inl x1), some (.inl x2), some (.inl x3), o4], r.toList ++ [], σ') Φ)) : pe_X d 237 (17, [some (.inr (.inr M)), some (.inl x1), some (.inl x2), some (.inl x3), o4], [], pm_h M σ q y) Φ := by
  refine pe_blk 9 4 ck237 [] (23, [some (.inr (.inr M)), some (.inl x1), some (.inl x2), some (.inl x3), o4], [.inr (.inl 2), .inr (.inl 0), .inr (.inl (pe_w x2))], pm_h M σ q y) rfl ?_ ?_
  · exact trivial
  · try simp (disch := omega) only [pe_wi w0]
    exact pe_cal 13 ck237 rfl rfl rfl trivial k
theorem b237_26 {d : Nat} {Φ : Option pe_V → pe_H → Prop} {σ : pe_H} {M q : Nat} {y : Nat → Int → Int} (hF : pm_F M σ) {x1 : Int} {x2 : Int} {x3 : Int} {o4 : Option pe_V} {s0 : Int}  (w0 : pe_in s0 := by unfold pe_in; omega)  (k1 : s0 = 0 → pe_X d 237 (35, [some (.inr (.inr M)), some (.inl x1), some (.inl x2), some (.inl x3), o4], [], pm_h M σ q y) Φ) (k2 : ¬ (s0 = 0) → pe_X d 237 (29, [some (.inr (.inr M)), some (.inl x1), some (.inl x2), some (.inl x3), o4], [], pm_h M σ q y) Φ) : pe_X d 237 (26, [some (.inr (.inr M)), some (.inl x1), some (.inl x2), some (.inl x3), o4], [.inl s0], pm_h M σ q y) Φ := by
  refine pe_blk 14 1 ck237 [] (cond (decide ((pe_w s0) = 0)) 35 29, [some (.inr (.inr M)), some (.inl x1), some (.inl x2), some (.inl x3), o4], [], pm_h M σ q y) rfl ?_ ?_
  · exact trivial
  · try simp (disch := omega) only [pe_wi w0]
    exact pe_two k1 k2
theorem b237_29 {d : Nat} {Φ : Option pe_V → pe_H → Prop} {σ : pe_H} {M q : Nat} {y : Nat → Int → Int} (hF : pm_F M σ) {x1 : Int} {x2 : Int} {x3 : Int} {o4 : Option pe_V}  (w0 : pe_in x3 := by unfold pe_in; omega)  (k1 : x3 ≤ 100 → pe_X d 237 (37, [some (.inr (.inr M)), some (.inl x1), some (.inl x2), some (.inl x3), o4], [], pm_h M σ q y) Φ) (k2 : ¬ (x3 ≤ 100) → pe_X d 237 (35, [some (.inr (.inr M)), some (.inl x1), some (.inl x2), some (.inl x3), o4], [], pm_h M σ q y) Φ) : pe_X d 237 (29, [some (.inr (.inr M)), some (.inl x1), some (.inl x2), some (.inl x3), o4], [], pm_h M σ q y) Φ := by
  refine pe_blk 15 3 ck237 [] (cond (decide ((pe_w x3) ≤ (pe_w 100))) 37 35, [some (.inr (.inr M)), some (.inl x1), some (.inl x2), some (.inl x3), o4], [], pm_h M σ q y) rfl ?_ ?_
  · exact trivial
  · try simp (disch := omega) only [pe_wi w0, pe_wi (x := 100) ⟨by decide, by decide⟩]
    exact pe_two k1 k2
theorem b237_35 {d : Nat} {Φ : Option pe_V → pe_H → Prop} {σ : pe_H} {M q : Nat} {y : Nat → Int → Int} (hF : pm_F M σ) {o1 : Option pe_V} {o2 : Option pe_V} {o3 : Option pe_V} {o4 : Option pe_V}    (k : Φ (some (.inl (-1))) (pm_h M σ q y)) : pe_X d 237 (35, [some (.inr (.inr M)), o1, o2, o3, o4], [], pm_h M σ q y) Φ := by
  refine pe_blk 18 1 ck237 [] (36, [some (.inr (.inr M)), o1, o2, o3, o4], [.inl (-1)], pm_h M σ q y) rfl ?_ ?_
  · exact trivial
  · exact pe_fine 19 ck237 rfl rfl rfl trivial k
theorem b237_37 {d : Nat} {Φ : Option pe_V → pe_H → Prop} {σ : pe_H} {M q : Nat} {y : Nat → Int → Int} (hF : pm_F M σ) {x1 : Int} {x2 : Int} {x3 : Int} {o4 : Option pe_V}  (w0 : pe_in x3 := by unfold pe_in; omega)  (k1 : 0 ≤ x3 → pe_X d 237 (44, [some (.inr (.inr M)), some (.inl x1), some (.inl x2), some (.inl x3), o4], [], pm_h M σ q y) Φ) (k2 : ¬ (0 ≤ x3) → pe_X d 237 (41, [some (.inr (.inr M)), some (.inl x1), some (.inl x2), some (.inl x3), o4], [], pm_h M σ q y) Φ) : pe_X d 237 (37, [some (.inr (.inr M)), some (.inl x1), some (.inl x2), some (.inl x3), o4], [], pm_h M σ q y) Φ := by
  refine pe_blk 20 2 ck237 [] (cond (decide (0 ≤ (pe_w x3))) 44 41, [some (.inr (.inr M)), some (.inl x1), some (.inl x2), some (.inl x3), o4], [], pm_h M σ q y) rfl ?_ ?_
  · exact trivial
  · try simp (disch := omega) only [pe_wi w0]
    exact pe_two k1 k2
theorem b237_41 {d : Nat} {Φ : Option pe_V → pe_H → Prop} {σ : pe_H} {M q : Nat} {y : Nat → Int → Int} (hF : pm_F M σ) {o1 : Option pe_V} {o2 : Option pe_V} {o3 : Option pe_V} {o4 : Option pe_V}    (k : Φ (some (.inl (-14))) (pm_h M σ q y)) : pe_X d 237 (41, [some (.inr (.inr M)), o1, o2, o3, o4], [], pm_h M σ q y) Φ := by
  refine pe_blk 22 1 ck237 [] (43, [some (.inr (.inr M)), o1, o2, o3, o4], [.inl (-14)], pm_h M σ q y) rfl ?_ ?_
  · exact trivial
  · exact pe_fine 23 ck237 rfl rfl rfl trivial k
theorem b237_44 {d : Nat} {Φ : Option pe_V → pe_H → Prop} {σ : pe_H} {M q : Nat} {y : Nat → Int → Int} (hF : pm_F M σ) {x1 : Int} {x2 : Int} {x3 : Int} {o4 : Option pe_V}  (w0 : pe_in x1 := by unfold pe_in; omega) (h0 : 0 ≤ x1 := by first | assumption | omega) (h1 : x1 < 8 := by first | assumption | omega) (k : pe_X d 237 (68, [some (.inr (.inr M)), some (.inl x1), some (.inl x2), some (.inl x3), some (.inl 0)], [], pm_h M σ q (pm_u (pm_u (pm_u y 27 x1 2) 30 x1 x2) 31 x1 x3)) Φ) : pe_X d 237 (44, [some (.inr (.inr M)), some (.inl x1), some (.inl x2), some (.inl x3), o4], [], pm_h M σ q y) Φ := by
  have hM2 := pm_2 hF
  refine pe_blk 24 17 ck237 [pe_K (pm_h M σ q y) M = 9, pe_K (pm_h M σ q y) (pe_R (pm_h M σ q y) M 31) = 10, 0 ≤ (pe_w x1), (pe_w x1) < pe_L (pm_h M σ q y) (pe_R (pm_h M σ q y) M 31), 2 ≤ (pe_R (pm_h M σ q y) M 31), pe_K (pe_wI (pm_h M σ q y) (pe_R (pm_h M σ q y) M 31) (pe_w x1) 2) M = 9, pe_K (pe_wI (pm_h M σ q y) (pe_R (pm_h M σ q y) M 31) (pe_w x1) 2) (pe_R (pe_wI (pm_h M σ q y) (pe_R (pm_h M σ q y) M 31) (pe_w x1) 2) M 34) = 10, 0 ≤ (pe_w x1), (pe_w x1) < pe_L (pe_wI (pm_h M σ q y) (pe_R (pm_h M σ q y) M 31) (pe_w x1) 2) (pe_R (pe_wI (pm_h M σ q y) (pe_R (pm_h M σ q y) M 31) (pe_w x1) 2) M 34), 2 ≤ (pe_R (pe_wI (pm_h M σ q y) (pe_R (pm_h M σ q y) M 31) (pe_w x1) 2) M 34), pe_K (pe_wI (pe_wI (pm_h M σ q y) (pe_R (pm_h M σ q y) M 31) (pe_w x1) 2) (pe_R (pe_wI (pm_h M σ q y) (pe_R (pm_h M σ q y) M 31) (pe_w x1) 2) M 34) (pe_w x1) x2) M = 9, pe_K (pe_wI (pe_wI (pm_h M σ q y) (pe_R (pm_h M σ q y) M 31) (pe_w x1) 2) (pe_R (pe_wI (pm_h M σ q y) (pe_R (pm_h M σ q y) M 31) (pe_w x1) 2) M 34) (pe_w x1) x2) (pe_R (pe_wI (pe_wI (pm_h M σ q y) (pe_R (pm_h M σ q y) M 31) (pe_w x1) 2) (pe_R (pe_wI (pm_h M σ q y) (pe_R (pm_h M σ q y) M 31) (pe_w x1) 2) M 34) (pe_w x1) x2) M 35) = 10, 0 ≤ (pe_w x1), (pe_w x1) < pe_L (pe_wI (pe_wI (pm_h M σ q y) (pe_R (pm_h M σ q y) M 31) (pe_w x1) 2) (pe_R (pe_wI (pm_h M σ q y) (pe_R (pm_h M σ q y) M 31) (pe_w x1) 2) M 34) (pe_w x1) x2) (pe_R (pe_wI (pe_wI (pm_h M σ q y) (pe_R (pm_h M σ q y) M 31) (pe_w x1) 2) (pe_R (pe_wI (pm_h M σ q y) (pe_R (pm_h M σ q y) M 31) (pe_w x1) 2) M 34) (pe_w x1) x2) M 35), 2 ≤ (pe_R (pe_wI (pe_wI (pm_h M σ q y) (pe_R (pm_h M σ q y) M 31) (pe_w x1) 2) (pe_R (pe_wI (pm_h M σ q y) (pe_R (pm_h M σ q y) M 31) (pe_w x1) 2) M 34) (pe_w x1) x2) M 35)] (68, [some (.inr (.inr M)), some (.inl x1), some (.inl x2), some (.inl x3), some (.inl 0)], [], pe_wI (pe_wI (pe_wI (pm_h M σ q y) (pe_R (pm_h M σ q y) M 31) (pe_w x1) 2) (pe_R (pe_wI (pm_h M σ q y) (pe_R (pm_h M σ q y) M 31) (pe_w x1) 2) M 34) (pe_w x1) x2) (pe_R (pe_wI (pe_wI (pm_h M σ q y) (pe_R (pm_h M σ q y) M 31) (pe_w x1) 2) (pe_R (pe_wI (pm_h M σ q y) (pe_R (pm_h M σ q y) M 31) (pe_w x1) 2) M 34) (pe_w x1) x2) M 35) (pe_w x1) x3) rfl ?_ ?_
  · first
    | (simp (disch := omega) only [pe_all, pe_wi w0, pe_K_wI, pe_K_wR, pe_L_wI, pe_L_wR, pe_R_nej, pe_R_wI, pm_K27 hF, pm_K30 hF, pm_K31 hF, pm_KM hF, pm_Kh, pm_L27 hF, pm_L30 hF, pm_L31 hF, pm_Lh, pm_R31 hF, pm_R34 hF, pm_R35 hF, pm_Rh, pm_wIk]; done)
    | (simp (disch := omega) only [pe_all, pe_wi w0, pe_K_wI, pe_K_wR, pe_L_wI, pe_L_wR, pe_R_nej, pe_R_wI, pm_K27 hF, pm_K30 hF, pm_K31 hF, pm_KM hF, pm_Kh, pm_L27 hF, pm_L30 hF, pm_L31 hF, pm_Lh, pm_R31 hF, pm_R34 hF, pm_R35 hF, pm_Rh, pm_wIk]; (repeat' apply And.intro) <;> first | assumption | omega | decide)
  · try simp (disch := omega) only [pe_wi w0, pe_K_wI, pe_K_wR, pe_L_wI, pe_L_wR, pe_R_nej, pe_R_wI, pm_K27 hF, pm_K30 hF, pm_K31 hF, pm_KM hF, pm_Kh, pm_L27 hF, pm_L30 hF, pm_L31 hF, pm_Lh, pm_R31 hF, pm_R34 hF, pm_R35 hF, pm_Rh, pm_wIk]
    exact k
theorem b237_68 {d : Nat} {Φ : Option pe_V → pe_H → Prop} {σ : pe_H} {M q : Nat} {y : Nat → Int → Int} (hF : pm_F M σ) {x1 : Int} {o2 : Option pe_V} {o3 : Option pe_V} {x4 : Int}  (w0 : pe_in x4 := by unfold pe_in; omega)  (k1 : 100 ≤ x4 → pe_X d 237 (94, [some (.inr (.inr M)), some (.inl x1), o2, o3, some (.inl x4)], [], pm_h M σ q y) Φ) (k2 : ¬ (100 ≤ x4) → pe_X d 237 (75, [some (.inr (.inr M)), some (.inl x1), o2, o3, some (.inl x4)], [], pm_h M σ q y) Φ) : pe_X d 237 (68, [some (.inr (.inr M)), some (.inl x1), o2, o3, some (.inl x4)], [], pm_h M σ q y) Φ := by
  refine pe_blk 41 3 ck237 [] (cond (decide ((pe_w 100) ≤ (pe_w x4))) 94 75, [some (.inr (.inr M)), some (.inl x1), o2, o3, some (.inl x4)], [], pm_h M σ q y) rfl ?_ ?_
  · exact trivial
  · try simp (disch := omega) only [pe_wi w0, pe_wi (x := 100) ⟨by decide, by decide⟩]
    exact pe_two k1 k2
set_option maxRecDepth 8000 in
theorem b237_75 {d : Nat} {Φ : Option pe_V → pe_H → Prop} {σ : pe_H} {M q : Nat} {y : Nat → Int → Int} (hF : pm_F M σ) {x1 : Int} {o2 : Option pe_V} {o3 : Option pe_V} {x4 : Int}  (w0 : pe_in ((100 * x1) + x4) := by unfold pe_in; omega) (h0 : 0 ≤ ((100 * x1) + x4) := by first | assumption | omega) (h1 : ((100 * x1) + x4) < 800 := by first | assumption | omega) (k : pe_X d 237 (68, [some (.inr (.inr M)), some (.inl x1), o2, pe_nl o3, some (.inl (x4 + 1))], [], pm_h M σ q (pm_u y 32 ((100 * x1) + x4) 0)) Φ) : pe_X d 237 (75, [some (.inr (.inr M)), some (.inl x1), o2, o3, some (.inl x4)], [], pm_h M σ q y) Φ := by
  have hM2 := pm_2 hF
  refine pe_blk 44 11 ck237 [pe_K (pm_h M σ q y) M = 9, pe_K (pm_h M σ q y) (pe_R (pm_h M σ q y) M 36) = 11, 0 ≤ (pe_w ((100 * x1) + x4)), (pe_w ((100 * x1) + x4)) < pe_L (pm_h M σ q y) (pe_R (pm_h M σ q y) M 36), 2 ≤ (pe_R (pm_h M σ q y) M 36)] (68, [some (.inr (.inr M)), some (.inl x1), o2, pe_nl o3, some (.inl (x4 + 1))], [], pe_wI (pm_h M σ q y) (pe_R (pm_h M σ q y) M 36) (pe_w ((100 * x1) + x4)) 0) rfl ?_ ?_
  · first
    | (simp (disch := omega) only [pe_all, pe_wi w0, pe_K_wI, pe_K_wR, pe_L_wI, pe_L_wR, pe_R_nej, pe_R_wI, pm_K32 hF, pm_KM hF, pm_Kh, pm_L32 hF, pm_Lh, pm_R36 hF, pm_Rh, pm_wIk]; done)
    | (simp (disch := omega) only [pe_all, pe_wi w0, pe_K_wI, pe_K_wR, pe_L_wI, pe_L_wR, pe_R_nej, pe_R_wI, pm_K32 hF, pm_KM hF, pm_Kh, pm_L32 hF, pm_Lh, pm_R36 hF, pm_Rh, pm_wIk]; (repeat' apply And.intro) <;> first | assumption | omega | decide)
  · try simp (disch := omega) only [pe_wi w0, pe_K_wI, pe_K_wR, pe_L_wI, pe_L_wR, pe_R_nej, pe_R_wI, pm_K32 hF, pm_KM hF, pm_Kh, pm_L32 hF, pm_Lh, pm_R36 hF, pm_Rh, pm_wIk]
    exact k
set_option maxRecDepth 8000 in
theorem b237_94 {d : Nat} {Φ : Option pe_V → pe_H → Prop} {σ : pe_H} {M q : Nat} {y : Nat → Int → Int} (hF : pm_F M σ) {o1 : Option pe_V} {o2 : Option pe_V} {o3 : Option pe_V} {o4 : Option pe_V}    (k : Φ (some (.inl 0)) (pm_h M σ q y)) : pe_X d 237 (94, [some (.inr (.inr M)), o1, o2, o3, o4], [], pm_h M σ q y) Φ := by
  refine pe_blk 55 1 ck237 [] (95, [some (.inr (.inr M)), o1, o2, o3, o4], [.inl 0], pm_h M σ q y) rfl ?_ ?_
  · exact trivial
  · exact pe_fine 56 ck237 rfl rfl rfl trivial k
-- StepMachinesModel.put(III)I
def T238 : List (Nat × Instr × Nat) := [(0, .aload_n 0, 1), (1, .iconst 0, 1), (2, .putfield 141, 3), (5, .aload_n 0, 1), (6, .iload_n 1, 1), (7, .invokevirtual 332, 3), (10, .istore 4, 2), (12, .iload 4, 2), (14, .ifCond .ge 6, 3), (17, .iload 4, 2), (19, .ireturn, 1), (20, .iload_n 2, 1), (21, .i2l, 1), (22, .lconst 0, 1), (23, .aload_n 0, 1), (24, .getfield 104, 3), (27, .iload_n 1, 1), (28, .iaload, 1), (29, .iconst 1, 1), (30, .isub, 1), (31, .i2l, 1), (32, .invokestatic 147, 3), (35, .ifCond .ne 6, 3), (38, .bipush (-13), 2), (40, .ireturn, 1), (41, .aload_n 0, 1), (42, .getfield 107, 3), (45, .bipush 100, 2), (47, .iload_n 1, 1), (48, .imul, 1), (49, .iload_n 2, 1), (50, .iadd, 1), (51, .iload_n 3, 1), (52, .aload_n 0, 1), (53, .getfield 101, 3), (56, .iload_n 1, 1), (57, .iaload, 1), (58, .invokestatic 463, 3), (61, .lastore, 1), (62, .iconst 0, 1), (63, .ireturn, 1)]
theorem ck238 : pe_ctx 238 9 false (some .int) 5 T238 := ⟨rfl, rfl, rfl, rfl, by decide +kernel, by decide, by decide⟩
theorem b238_0 {d : Nat} {Φ : Option pe_V → pe_H → Prop} {σ : pe_H} {M q : Nat} {y : Nat → Int → Int} (hF : pm_F M σ) {x1 : Int} {x2 : Int} {x3 : Int} {o4 : Option pe_V}    (k : pe_M d 235 [.inr (.inr M), .inl x1] (pm_h M σ q (pm_u y 0 37 0)) (fun r σ' => pe_X d 238 (10, [some (.inr (.inr M)), some (.inl x1), some (.inl x2), some (.inl x3), o4], r.toList ++ [], σ') Φ)) : pe_X d 238 (0, [some (.inr (.inr M)), some (.inl x1), some (.inl x2), some (.inl x3), o4], [], pm_h M σ q y) Φ := by
  refine pe_blk 0 5 ck238 [pe_K (pm_h M σ q y) M = 9] (7, [some (.inr (.inr M)), some (.inl x1), some (.inl x2), some (.inl x3), o4], [.inl x1, .inr (.inr M)], pe_wI (pm_h M σ q y) M 37 0) rfl ?_ ?_
  · first
    | (simp (disch := omega) only [pe_all, pe_K_wI, pe_K_wR, pm_KM hF, pm_Kh, pm_wI0]; done)
    | (simp (disch := omega) only [pe_all, pe_K_wI, pe_K_wR, pm_KM hF, pm_Kh, pm_wI0]; (repeat' apply And.intro) <;> first | assumption | omega | decide)
  · try simp (disch := omega) only [pe_K_wI, pe_K_wR, pm_KM hF, pm_Kh, pm_wI0]
    have hrc : pe_K (pm_h M σ q (pm_u y 0 37 0)) M = 9 := by first | assumption | (simp (disch := omega) only [pe_K_wI, pe_K_wR, pm_KM hF, pm_Kh, pm_wI0]; done) | (simp (disch := omega) only [pe_K_wI, pe_K_wR, pm_KM hF, pm_Kh, pm_wI0]; assumption)
    exact pe_cal 5 ck238 rfl rfl rfl ⟨hrc, by decide⟩ k
theorem b238_10 {d : Nat} {Φ : Option pe_V → pe_H → Prop} {σ : pe_H} {M q : Nat} {y : Nat → Int → Int} (hF : pm_F M σ) {x1 : Int} {x2 : Int} {x3 : Int} {o4 : Option pe_V} {s0 : Int}  (w0 : pe_in s0 := by unfold pe_in; omega)  (k1 : 0 ≤ s0 → pe_X d 238 (20, [some (.inr (.inr M)), some (.inl x1), some (.inl x2), some (.inl x3), some (.inl s0)], [], pm_h M σ q y) Φ) (k2 : ¬ (0 ≤ s0) → pe_X d 238 (17, [some (.inr (.inr M)), some (.inl x1), some (.inl x2), some (.inl x3), some (.inl s0)], [], pm_h M σ q y) Φ) : pe_X d 238 (10, [some (.inr (.inr M)), some (.inl x1), some (.inl x2), some (.inl x3), o4], [.inl s0], pm_h M σ q y) Φ := by
  refine pe_blk 6 3 ck238 [] (cond (decide (0 ≤ (pe_w s0))) 20 17, [some (.inr (.inr M)), some (.inl x1), some (.inl x2), some (.inl x3), some (.inl s0)], [], pm_h M σ q y) rfl ?_ ?_
  · exact trivial
  · try simp (disch := omega) only [pe_wi w0]
    exact pe_two k1 k2
theorem b238_17 {d : Nat} {Φ : Option pe_V → pe_H → Prop} {σ : pe_H} {M q : Nat} {y : Nat → Int → Int} (hF : pm_F M σ) {o1 : Option pe_V} {o2 : Option pe_V} {o3 : Option pe_V} {x4 : Int}    (k : Φ (some (.inl x4)) (pm_h M σ q y)) : pe_X d 238 (17, [some (.inr (.inr M)), o1, o2, o3, some (.inl x4)], [], pm_h M σ q y) Φ := by
  refine pe_blk 9 1 ck238 [] (19, [some (.inr (.inr M)), o1, o2, o3, some (.inl x4)], [.inl x4], pm_h M σ q y) rfl ?_ ?_
  · exact trivial
  · exact pe_fine 10 ck238 rfl rfl rfl trivial k
theorem b238_20 {d : Nat} {Φ : Option pe_V → pe_H → Prop} {σ : pe_H} {M q : Nat} {y : Nat → Int → Int} (hF : pm_F M σ) {x1 : Int} {x2 : Int} {x3 : Int} {o4 : Option pe_V}  (w0 : pe_in x2 := by unfold pe_in; omega) (w1 : pe_in x1 := by unfold pe_in; omega) (w2 : pe_in ((y 31 x1) - 1) := by unfold pe_in; omega) (h0 : 0 ≤ x1 := by first | assumption | omega) (h1 : x1 < 8 := by first | assumption | omega) (k : pe_M d 134 [.inr (.inl x2), .inr (.inl 0), .inr (.inl ((y 31 x1) - 1))] (pm_h M σ q y) (fun r σ' => pe_X d 238 (35, [some (.inr (.inr M)), some (.inl x1), some (.inl x2), some (.inl x3), o4], r.toList ++ [], σ') Φ)) : pe_X d 238 (20, [some (.inr (.inr M)), some (.inl x1), some (.inl x2), some (.inl x3), o4], [], pm_h M σ q y) Φ := by
  refine pe_blk 11 10 ck238 [pe_K (pm_h M σ q y) M = 9, pe_K (pm_h M σ q y) (pe_R (pm_h M σ q y) M 35) = 10, 0 ≤ (pe_w x1), (pe_w x1) < pe_L (pm_h M σ q y) (pe_R (pm_h M σ q y) M 35)] (32, [some (.inr (.inr M)), some (.inl x1), some (.inl x2), some (.inl x3), o4], [.inr (.inl (pe_w ((pe_I (pm_h M σ q y) (pe_R (pm_h M σ q y) M 35) (pe_w x1)) - 1))), .inr (.inl 0), .inr (.inl (pe_w x2))], pm_h M σ q y) rfl ?_ ?_
  · first
    | (simp (disch := omega) only [pe_all, pe_wi w0, pe_wi w1, pe_wi w2, pe_I_wR, pe_K_wI, pe_K_wR, pe_L_wI, pe_L_wR, pe_R_nej, pe_R_wI, pm_Ik, pm_K31 hF, pm_KM hF, pm_Kh, pm_L31 hF, pm_Lh, pm_R35 hF, pm_Rh, pm_uj, pm_uk, pm_us]; done)
    | (simp (disch := omega) only [pe_all, pe_wi w0, pe_wi w1, pe_wi w2, pe_I_wR, pe_K_wI, pe_K_wR, pe_L_wI, pe_L_wR, pe_R_nej, pe_R_wI, pm_Ik, pm_K31 hF, pm_KM hF, pm_Kh, pm_L31 hF, pm_Lh, pm_R35 hF, pm_Rh, pm_uj, pm_uk, pm_us]; (repeat' apply And.intro) <;> first | assumption | omega | decide)
  · try simp (disch := omega) only [pe_wi w0, pe_wi w1, pe_wi w2, pe_I_wR, pe_K_wI, pe_K_wR, pe_L_wI, pe_L_wR, pe_R_nej, pe_R_wI, pm_Ik, pm_K31 hF, pm_KM hF, pm_Kh, pm_L31 hF, pm_Lh, pm_R35 hF, pm_Rh, pm_uj, pm_uk, pm_us]
    exact pe_cal 21 ck238 rfl rfl rfl trivial k
theorem b238_35 {d : Nat} {Φ : Option pe_V → pe_H → Prop} {σ : pe_H} {M q : Nat} {y : Nat → Int → Int} (hF : pm_F M σ) {x1 : Int} {x2 : Int} {x3 : Int} {o4 : Option pe_V} {s0 : Int}  (w0 : pe_in s0 := by unfold pe_in; omega)  (k1 : ¬ s0 = 0 → pe_X d 238 (41, [some (.inr (.inr M)), some (.inl x1), some (.inl x2), some (.inl x3), o4], [], pm_h M σ q y) Φ) (k2 : s0 = 0 → pe_X d 238 (38, [some (.inr (.inr M)), some (.inl x1), some (.inl x2), some (.inl x3), o4], [], pm_h M σ q y) Φ) : pe_X d 238 (35, [some (.inr (.inr M)), some (.inl x1), some (.inl x2), some (.inl x3), o4], [.inl s0], pm_h M σ q y) Φ := by
  refine pe_blk 22 1 ck238 [] (cond (decide (¬ (pe_w s0) = 0)) 41 38, [some (.inr (.inr M)), some (.inl x1), some (.inl x2), some (.inl x3), o4], [], pm_h M σ q y) rfl ?_ ?_
  · exact trivial
  · try simp (disch := omega) only [pe_wi w0]
    exact pe_two' k1 k2
theorem b238_38 {d : Nat} {Φ : Option pe_V → pe_H → Prop} {σ : pe_H} {M q : Nat} {y : Nat → Int → Int} (hF : pm_F M σ) {o1 : Option pe_V} {o2 : Option pe_V} {o3 : Option pe_V} {o4 : Option pe_V}    (k : Φ (some (.inl (-13))) (pm_h M σ q y)) : pe_X d 238 (38, [some (.inr (.inr M)), o1, o2, o3, o4], [], pm_h M σ q y) Φ := by
  refine pe_blk 23 1 ck238 [] (40, [some (.inr (.inr M)), o1, o2, o3, o4], [.inl (-13)], pm_h M σ q y) rfl ?_ ?_
  · exact trivial
  · exact pe_fine 24 ck238 rfl rfl rfl trivial k
theorem b238_41 {d : Nat} {Φ : Option pe_V → pe_H → Prop} {σ : pe_H} {M q : Nat} {y : Nat → Int → Int} (hF : pm_F M σ) {x1 : Int} {x2 : Int} {x3 : Int} {o4 : Option pe_V}  (w0 : pe_in x1 := by unfold pe_in; omega) (h0 : 0 ≤ x1 := by first | assumption | omega) (h1 : x1 < 8 := by first | assumption | omega) (k : pe_M d 236 [.inl x3, .inl (y 30 x1)] (pm_h M σ q y) (fun r σ' => pe_X d 238 (61, [some (.inr (.inr M)), some (.inl x1), some (.inl x2), some (.inl x3), o4], r.toList ++ [.inl ((100 * x1) + x2), .inr (.inr (M + 32))], σ') Φ)) : pe_X d 238 (41, [some (.inr (.inr M)), some (.inl x1), some (.inl x2), some (.inl x3), o4], [], pm_h M σ q y) Φ := by
  refine pe_blk 25 12 ck238 [pe_K (pm_h M σ q y) M = 9, pe_K (pm_h M σ q y) M = 9, pe_K (pm_h M σ q y) (pe_R (pm_h M σ q y) M 34) = 10, 0 ≤ (pe_w x1), (pe_w x1) < pe_L (pm_h M σ q y) (pe_R (pm_h M σ q y) M 34)] (58, [some (.inr (.inr M)), some (.inl x1), some (.inl x2), some (.inl x3), o4], [.inl (pe_I (pm_h M σ q y) (pe_R (pm_h M σ q y) M 34) (pe_w x1)), .inl x3, .inl ((100 * x1) + x2), .inr (.inr (pe_R (pm_h M σ q y) M 36))], pm_h M σ q y) rfl ?_ ?_
  · first
    | (simp (disch := omega) only [pe_all, pe_wi w0, pe_I_wR, pe_K_wI, pe_K_wR, pe_L_wI, pe_L_wR, pe_R_nej, pe_R_wI, pm_Ik, pm_K30 hF, pm_KM hF, pm_Kh, pm_L30 hF, pm_Lh, pm_R34 hF, pm_R36 hF, pm_Rh, pm_uj, pm_uk, pm_us]; done)
    | (simp (disch := omega) only [pe_all, pe_wi w0, pe_I_wR, pe_K_wI, pe_K_wR, pe_L_wI, pe_L_wR, pe_R_nej, pe_R_wI, pm_Ik, pm_K30 hF, pm_KM hF, pm_Kh, pm_L30 hF, pm_Lh, pm_R34 hF, pm_R36 hF, pm_Rh, pm_uj, pm_uk, pm_us]; (repeat' apply And.intro) <;> first | assumption | omega | decide)
  · try simp (disch := omega) only [pe_wi w0, pe_I_wR, pe_K_wI, pe_K_wR, pe_L_wI, pe_L_wR, pe_R_nej, pe_R_wI, pm_Ik, pm_K30 hF, pm_KM hF, pm_Kh, pm_L30 hF, pm_Lh, pm_R34 hF, pm_R36 hF, pm_Rh, pm_uj, pm_uk, pm_us]
    exact pe_cal 37 ck238 rfl rfl rfl trivial k
theorem b238_61 {d : Nat} {Φ : Option pe_V → pe_H → Prop} {σ : pe_H} {M q : Nat} {y : Nat → Int → Int} (hF : pm_F M σ) {o1 : Option pe_V} {o2 : Option pe_V} {o3 : Option pe_V} {o4 : Option pe_V} {s1 : Int} {z2 : Int}  (w0 : pe_in s1 := by unfold pe_in; omega) (h0 : 0 ≤ s1 := by first | assumption | omega) (h1 : s1 < 800 := by first | assumption | omega) (k : Φ (some (.inl 0)) (pm_h M σ q (pm_u y 32 s1 z2))) : pe_X d 238 (61, [some (.inr (.inr M)), o1, o2, o3, o4], [.inr (.inl z2), .inl s1, .inr (.inr (M + 32))], pm_h M σ q y) Φ := by
  have hM2 := pm_2 hF
  refine pe_blk 38 2 ck238 [pe_K (pm_h M σ q y) (M + 32) = 11, 0 ≤ (pe_w s1), (pe_w s1) < pe_L (pm_h M σ q y) (M + 32), 2 ≤ (M + 32)] (63, [some (.inr (.inr M)), o1, o2, o3, o4], [.inl 0], pe_wI (pm_h M σ q y) (M + 32) (pe_w s1) z2) rfl ?_ ?_
  · first
    | (simp (disch := omega) only [pe_all, pe_wi w0, pe_K_wI, pe_K_wR, pe_L_wI, pe_L_wR, pm_K32 hF, pm_Kh, pm_L32 hF, pm_Lh, pm_wIk]; done)
    | (simp (disch := omega) only [pe_all, pe_wi w0, pe_K_wI, pe_K_wR, pe_L_wI, pe_L_wR, pm_K32 hF, pm_Kh, pm_L32 hF, pm_Lh, pm_wIk]; (repeat' apply And.intro) <;> first | assumption | omega | decide)
  · try simp (disch := omega) only [pe_wi w0, pe_K_wI, pe_K_wR, pe_L_wI, pe_L_wR, pm_K32 hF, pm_Kh, pm_L32 hF, pm_Lh, pm_wIk]
    exact pe_fine 40 ck238 rfl rfl rfl trivial k
-- StepMachinesModel.element(II)J
def T239 : List (Nat × Instr × Nat) := [(0, .aload_n 0, 1), (1, .iload_n 1, 1), (2, .invokevirtual 332, 3), (5, .istore_n 3, 1), (6, .aload_n 0, 1), (7, .iload_n 3, 1), (8, .iconst (-1), 1), (9, .if_icmp .ne 7, 3), (12, .iconst 1, 1), (13, .goto 30, 3), (16, .iload_n 3, 1), (17, .ifCond .lt 21, 3), (20, .iload_n 2, 1), (21, .i2l, 1), (22, .lconst 0, 1), (23, .aload_n 0, 1), (24, .getfield 104, 3), (27, .iload_n 1, 1), (28, .iaload, 1), (29, .iconst 1, 1), (30, .isub, 1), (31, .i2l, 1), (32, .invokestatic 147, 3), (35, .ifCond .ne 7, 3), (38, .iconst 2, 1), (39, .goto 4, 3), (42, .iconst 0, 1), (43, .putfield 141, 3), (46, .aload_n 0, 1), (47, .getfield 141, 3), (50, .ifCond .le 7, 3), (53, .lconst 0, 1), (54, .goto 14, 3), (57, .aload_n 0, 1), (58, .getfield 107, 3), (61, .bipush 100, 2), (63, .iload_n 1, 1), (64, .imul, 1), (65, .iload_n 2, 1), (66, .iadd, 1), (67, .laload, 1), (68, .lreturn, 1)]
theorem ck239 : pe_ctx 239 9 false (some .long) 4 T239 := ⟨rfl, rfl, rfl, rfl, by decide +kernel, by decide, by decide⟩
theorem b239_0 {d : Nat} {Φ : Option pe_V → pe_H → Prop} {σ : pe_H} {M q : Nat} {y : Nat → Int → Int} (hF : pm_F M σ) {x1 : Int} {x2 : Int} {o3 : Option pe_V}    (k : pe_M d 235 [.inr (.inr M), .inl x1] (pm_h M σ q y) (fun r σ' => pe_X d 239 (5, [some (.inr (.inr M)), some (.inl x1), some (.inl x2), o3], r.toList ++ [], σ') Φ)) : pe_X d 239 (0, [some (.inr (.inr M)), some (.inl x1), some (.inl x2), o3], [], pm_h M σ q y) Φ := by
  refine pe_blk 0 2 ck239 [] (2, [some (.inr (.inr M)), some (.inl x1), some (.inl x2), o3], [.inl x1, .inr (.inr M)], pm_h M σ q y) rfl ?_ ?_
  · exact trivial
  · try simp (disch := omega) only [pe_K_wI, pe_K_wR, pm_KM hF, pm_Kh]
    have hrc : pe_K (pm_h M σ q y) M = 9 := by first | assumption | (simp (disch := omega) only [pe_K_wI, pe_K_wR, pm_KM hF, pm_Kh]; done) | (simp (disch := omega) only [pe_K_wI, pe_K_wR, pm_KM hF, pm_Kh]; assumption)
    exact pe_cal 2 ck239 rfl rfl rfl ⟨hrc, by decide⟩ k
theorem b239_5 {d : Nat} {Φ : Option pe_V → pe_H → Prop} {σ : pe_H} {M q : Nat} {y : Nat → Int → Int} (hF : pm_F M σ) {x1 : Int} {x2 : Int} {o3 : Option pe_V} {s0 : Int}  (w0 : pe_in s0 := by unfold pe_in; omega)  (k1 : ¬ s0 = (-1) → pe_X d 239 (16, [some (.inr (.inr M)), some (.inl x1), some (.inl x2), some (.inl s0)], [.inr (.inr M)], pm_h M σ q y) Φ) (k2 : s0 = (-1) → pe_X d 239 (12, [some (.inr (.inr M)), some (.inl x1), some (.inl x2), some (.inl s0)], [.inr (.inr M)], pm_h M σ q y) Φ) : pe_X d 239 (5, [some (.inr (.inr M)), some (.inl x1), some (.inl x2), o3], [.inl s0], pm_h M σ q y) Φ := by
  refine pe_blk 3 5 ck239 [] (cond (decide (¬ (pe_w s0) = (pe_w (-1)))) 16 12, [some (.inr (.inr M)), some (.inl x1), some (.inl x2), some (.inl s0)], [.inr (.inr M)], pm_h M σ q y) rfl ?_ ?_
  · exact trivial
  · try simp (disch := omega) only [pe_wi w0, pe_wi (x := (-1)) ⟨by decide, by decide⟩]
    exact pe_two' k1 k2
theorem b239_12 {d : Nat} {Φ : Option pe_V → pe_H → Prop} {σ : pe_H} {M q : Nat} {y : Nat → Int → Int} (hF : pm_F M σ) {x1 : Int} {x2 : Int} {o3 : Option pe_V}    (k : pe_X d 239 (43, [some (.inr (.inr M)), some (.inl x1), some (.inl x2), o3], [.inl 1, .inr (.inr M)], pm_h M σ q y) Φ) : pe_X d 239 (12, [some (.inr (.inr M)), some (.inl x1), some (.inl x2), o3], [.inr (.inr M)], pm_h M σ q y) Φ := by
  refine pe_blk 8 2 ck239 [] (43, [some (.inr (.inr M)), some (.inl x1), some (.inl x2), o3], [.inl 1, .inr (.inr M)], pm_h M σ q y) rfl ?_ ?_
  · exact trivial
  · exact k
theorem b239_16 {d : Nat} {Φ : Option pe_V → pe_H → Prop} {σ : pe_H} {M q : Nat} {y : Nat → Int → Int} (hF : pm_F M σ) {x1 : Int} {x2 : Int} {x3 : Int}  (w0 : pe_in x3 := by unfold pe_in; omega)  (k1 : x3 < 0 → pe_X d 239 (38, [some (.inr (.inr M)), some (.inl x1), some (.inl x2), some (.inl x3)], [.inr (.inr M)], pm_h M σ q y) Φ) (k2 : ¬ (x3 < 0) → pe_X d 239 (20, [some (.inr (.inr M)), some (.inl x1), some (.inl x2), some (.inl x3)], [.inr (.inr M)], pm_h M σ q y) Φ) : pe_X d 239 (16, [some (.inr (.inr M)), some (.inl x1), some (.inl x2), some (.inl x3)], [.inr (.inr M)], pm_h M σ q y) Φ := by
  refine pe_blk 10 2 ck239 [] (cond (decide ((pe_w x3) < 0)) 38 20, [some (.inr (.inr M)), some (.inl x1), some (.inl x2), some (.inl x3)], [.inr (.inr M)], pm_h M σ q y) rfl ?_ ?_
  · exact trivial
  · try simp (disch := omega) only [pe_wi w0]
    exact pe_two k1 k2
theorem b239_20 {d : Nat} {Φ : Option pe_V → pe_H → Prop} {σ : pe_H} {M q : Nat} {y : Nat → Int → Int} (hF : pm_F M σ) {x1 : Int} {x2 : Int} {o3 : Option pe_V}  (w0 : pe_in x2 := by unfold pe_in; omega) (w1 : pe_in x1 := by unfold pe_in; omega) (w2 : pe_in ((y 31 x1) - 1) := by unfold pe_in; omega) (h0 : 0 ≤ x1 := by first | assumption | omega) (h1 : x1 < 8 := by first | assumption | omega) (k : pe_M d 134 [.inr (.inl x2), .inr (.inl 0), .inr (.inl ((y 31 x1) - 1))] (pm_h M σ q y) (fun r σ' => pe_X d 239 (35, [some (.inr (.inr M)), some (.inl x1), some (.inl x2), o3], r.toList ++ [.inr (.inr M)], σ') Φ)) : pe_X d 239 (20, [some (.inr (.inr M)), some (.inl x1), some (.inl x2), o3], [.inr (.inr M)], pm_h M σ q y) Φ := by
  refine pe_blk 12 10 ck239 [pe_K (pm_h M σ q y) M = 9, pe_K (pm_h M σ q y) (pe_R (pm_h M σ q y) M 35) = 10, 0 ≤ (pe_w x1), (pe_w x1) < pe_L (pm_h M σ q y) (pe_R (pm_h M σ q y) M 35)] (32, [some (.inr (.inr M)), some (.inl x1), some (.inl x2), o3], [.inr (.inl (pe_w ((pe_I (pm_h M σ q y) (pe_R (pm_h M σ q y) M 35) (pe_w x1)) - 1))), .inr (.inl 0), .inr (.inl (pe_w x2)), .inr (.inr M)], pm_h M σ q y) rfl ?_ ?_
  · first
    | (simp (disch := omega) only [pe_all, pe_wi w0, pe_wi w1, pe_wi w2, pe_I_wR, pe_K_wI, pe_K_wR, pe_L_wI, pe_L_wR, pe_R_nej, pe_R_wI, pm_Ik, pm_K31 hF, pm_KM hF, pm_Kh, pm_L31 hF, pm_Lh, pm_R35 hF, pm_Rh, pm_uj, pm_uk, pm_us]; done)
    | (simp (disch := omega) only [pe_all, pe_wi w0, pe_wi w1, pe_wi w2, pe_I_wR, pe_K_wI, pe_K_wR, pe_L_wI, pe_L_wR, pe_R_nej, pe_R_wI, pm_Ik, pm_K31 hF, pm_KM hF, pm_Kh, pm_L31 hF, pm_Lh, pm_R35 hF, pm_Rh, pm_uj, pm_uk, pm_us]; (repeat' apply And.intro) <;> first | assumption | omega | decide)
  · try simp (disch := omega) only [pe_wi w0, pe_wi w1, pe_wi w2, pe_I_wR, pe_K_wI, pe_K_wR, pe_L_wI, pe_L_wR, pe_R_nej, pe_R_wI, pm_Ik, pm_K31 hF, pm_KM hF, pm_Kh, pm_L31 hF, pm_Lh, pm_R35 hF, pm_Rh, pm_uj, pm_uk, pm_us]
    exact pe_cal 22 ck239 rfl rfl rfl trivial k
theorem b239_35 {d : Nat} {Φ : Option pe_V → pe_H → Prop} {σ : pe_H} {M q : Nat} {y : Nat → Int → Int} (hF : pm_F M σ) {x1 : Int} {x2 : Int} {o3 : Option pe_V} {s1 : Int}  (w0 : pe_in s1 := by unfold pe_in; omega)  (k1 : ¬ s1 = 0 → pe_X d 239 (42, [some (.inr (.inr M)), some (.inl x1), some (.inl x2), o3], [.inr (.inr M)], pm_h M σ q y) Φ) (k2 : s1 = 0 → pe_X d 239 (38, [some (.inr (.inr M)), some (.inl x1), some (.inl x2), o3], [.inr (.inr M)], pm_h M σ q y) Φ) : pe_X d 239 (35, [some (.inr (.inr M)), some (.inl x1), some (.inl x2), o3], [.inl s1, .inr (.inr M)], pm_h M σ q y) Φ := by
  refine pe_blk 23 1 ck239 [] (cond (decide (¬ (pe_w s1) = 0)) 42 38, [some (.inr (.inr M)), some (.inl x1), some (.inl x2), o3], [.inr (.inr M)], pm_h M σ q y) rfl ?_ ?_
  · exact trivial
  · try simp (disch := omega) only [pe_wi w0]
    exact pe_two' k1 k2
theorem b239_38 {d : Nat} {Φ : Option pe_V → pe_H → Prop} {σ : pe_H} {M q : Nat} {y : Nat → Int → Int} (hF : pm_F M σ) {x1 : Int} {x2 : Int} {o3 : Option pe_V}    (k : pe_X d 239 (43, [some (.inr (.inr M)), some (.inl x1), some (.inl x2), o3], [.inl 2, .inr (.inr M)], pm_h M σ q y) Φ) : pe_X d 239 (38, [some (.inr (.inr M)), some (.inl x1), some (.inl x2), o3], [.inr (.inr M)], pm_h M σ q y) Φ := by
  refine pe_blk 24 2 ck239 [] (43, [some (.inr (.inr M)), some (.inl x1), some (.inl x2), o3], [.inl 2, .inr (.inr M)], pm_h M σ q y) rfl ?_ ?_
  · exact trivial
  · exact k
theorem b239_42 {d : Nat} {Φ : Option pe_V → pe_H → Prop} {σ : pe_H} {M q : Nat} {y : Nat → Int → Int} (hF : pm_F M σ) {x1 : Int} {x2 : Int} {o3 : Option pe_V}    (k : pe_X d 239 (43, [some (.inr (.inr M)), some (.inl x1), some (.inl x2), o3], [.inl 0, .inr (.inr M)], pm_h M σ q y) Φ) : pe_X d 239 (42, [some (.inr (.inr M)), some (.inl x1), some (.inl x2), o3], [.inr (.inr M)], pm_h M σ q y) Φ := by
  refine pe_blk 26 1 ck239 [] (43, [some (.inr (.inr M)), some (.inl x1), some (.inl x2), o3], [.inl 0, .inr (.inr M)], pm_h M σ q y) rfl ?_ ?_
  · exact trivial
  · exact k
theorem b239_43 {d : Nat} {Φ : Option pe_V → pe_H → Prop} {σ : pe_H} {M q : Nat} {y : Nat → Int → Int} (hF : pm_F M σ) {x1 : Int} {x2 : Int} {o3 : Option pe_V} {s1 : Int}  (w0 : pe_in s1 := by unfold pe_in; omega)  (k1 : s1 ≤ 0 → pe_X d 239 (57, [some (.inr (.inr M)), some (.inl x1), some (.inl x2), o3], [], pm_h M σ q (pm_u y 0 37 s1)) Φ) (k2 : ¬ (s1 ≤ 0) → pe_X d 239 (53, [some (.inr (.inr M)), some (.inl x1), some (.inl x2), o3], [], pm_h M σ q (pm_u y 0 37 s1)) Φ) : pe_X d 239 (43, [some (.inr (.inr M)), some (.inl x1), some (.inl x2), o3], [.inl s1, .inr (.inr M)], pm_h M σ q y) Φ := by
  refine pe_blk 27 4 ck239 [pe_K (pm_h M σ q y) M = 9, pe_K (pe_wI (pm_h M σ q y) M 37 s1) M = 9] (cond (decide ((pe_w (pe_I (pe_wI (pm_h M σ q y) M 37 s1) M 37)) ≤ 0)) 57 53, [some (.inr (.inr M)), some (.inl x1), some (.inl x2), o3], [], pe_wI (pm_h M σ q y) M 37 s1) rfl ?_ ?_
  · first
    | (simp (disch := omega) only [pe_all, pe_wi w0, pe_I_wR, pe_K_wI, pe_K_wR, pm_I0, pm_KM hF, pm_Kh, pm_uj, pm_uk, pm_us, pm_wI0]; done)
    | (simp (disch := omega) only [pe_all, pe_wi w0, pe_I_wR, pe_K_wI, pe_K_wR, pm_I0, pm_KM hF, pm_Kh, pm_uj, pm_uk, pm_us, pm_wI0]; (repeat' apply And.intro) <;> first | assumption | omega | decide)
  · try simp (disch := omega) only [pe_wi w0, pe_I_wR, pe_K_wI, pe_K_wR, pm_I0, pm_KM hF, pm_Kh, pm_uj, pm_uk, pm_us, pm_wI0]
    exact pe_two k1 k2
theorem b239_53 {d : Nat} {Φ : Option pe_V → pe_H → Prop} {σ : pe_H} {M q : Nat} {y : Nat → Int → Int} (hF : pm_F M σ) {o1 : Option pe_V} {o2 : Option pe_V} {o3 : Option pe_V}    (k : pe_X d 239 (68, [some (.inr (.inr M)), o1, o2, o3], [.inr (.inl 0)], pm_h M σ q y) Φ) : pe_X d 239 (53, [some (.inr (.inr M)), o1, o2, o3], [], pm_h M σ q y) Φ := by
  refine pe_blk 31 2 ck239 [] (68, [some (.inr (.inr M)), o1, o2, o3], [.inr (.inl 0)], pm_h M σ q y) rfl ?_ ?_
  · exact trivial
  · exact k
theorem b239_57 {d : Nat} {Φ : Option pe_V → pe_H → Prop} {σ : pe_H} {M q : Nat} {y : Nat → Int → Int} (hF : pm_F M σ) {x1 : Int} {x2 : Int} {o3 : Option pe_V}  (w0 : pe_in ((100 * x1) + x2) := by unfold pe_in; omega) (h0 : 0 ≤ ((100 * x1) + x2) := by first | assumption | omega) (h1 : ((100 * x1) + x2) < 800 := by first | assumption | omega) (k : pe_X d 239 (68, [some (.inr (.inr M)), some (.inl x1), some (.inl x2), o3], [.inr (.inl (y 32 ((100 * x1) + x2)))], pm_h M σ q y) Φ) : pe_X d 239 (57, [some (.inr (.inr M)), some (.inl x1), some (.inl x2), o3], [], pm_h M σ q y) Φ := by
  refine pe_blk 33 8 ck239 [pe_K (pm_h M σ q y) M = 9, pe_K (pm_h M σ q y) (pe_R (pm_h M σ q y) M 36) = 11, 0 ≤ (pe_w ((100 * x1) + x2)), (pe_w ((100 * x1) + x2)) < pe_L (pm_h M σ q y) (pe_R (pm_h M σ q y) M 36)] (68, [some (.inr (.inr M)), some (.inl x1), some (.inl x2), o3], [.inr (.inl (pe_I (pm_h M σ q y) (pe_R (pm_h M σ q y) M 36) (pe_w ((100 * x1) + x2))))], pm_h M σ q y) rfl ?_ ?_
  · first
    | (simp (disch := omega) only [pe_all, pe_wi w0, pe_I_wR, pe_K_wI, pe_K_wR, pe_L_wI, pe_L_wR, pe_R_nej, pe_R_wI, pm_Ik, pm_K32 hF, pm_KM hF, pm_Kh, pm_L32 hF, pm_Lh, pm_R36 hF, pm_Rh, pm_uj, pm_uk, pm_us]; done)
    | (simp (disch := omega) only [pe_all, pe_wi w0, pe_I_wR, pe_K_wI, pe_K_wR, pe_L_wI, pe_L_wR, pe_R_nej, pe_R_wI, pm_Ik, pm_K32 hF, pm_KM hF, pm_Kh, pm_L32 hF, pm_Lh, pm_R36 hF, pm_Rh, pm_uj, pm_uk, pm_us]; (repeat' apply And.intro) <;> first | assumption | omega | decide)
  · try simp (disch := omega) only [pe_wi w0, pe_I_wR, pe_K_wI, pe_K_wR, pe_L_wI, pe_L_wR, pe_R_nej, pe_R_wI, pm_Ik, pm_K32 hF, pm_KM hF, pm_Kh, pm_L32 hF, pm_Lh, pm_R36 hF, pm_Rh, pm_uj, pm_uk, pm_us]
    exact k
theorem b239_68 {d : Nat} {Φ : Option pe_V → pe_H → Prop} {σ : pe_H} {M q : Nat} {y : Nat → Int → Int} (hF : pm_F M σ) {o1 : Option pe_V} {o2 : Option pe_V} {o3 : Option pe_V} {z0 : Int}    (k : Φ (some (.inr (.inl z0))) (pm_h M σ q y)) : pe_X d 239 (68, [some (.inr (.inr M)), o1, o2, o3], [.inr (.inl z0)], pm_h M σ q y) Φ := by
  exact pe_fine 41 ck239 rfl rfl rfl trivial k
-- StepMachinesModel.copy(IIIII)I
def T240 : List (Nat × Instr × Nat) := [(0, .aload_n 0, 1), (1, .iconst 0, 1), (2, .putfield 141, 3), (5, .iload_n 1, 1), (6, .i2l, 1), (7, .lconst 0, 1), (8, .ldc2_w 438, 3), (11, .invokestatic 147, 3), (14, .ifCond .eq 15, 3), (17, .iload_n 3, 1), (18, .i2l, 1), (19, .lconst 0, 1), (20, .ldc2_w 438, 3), (23, .invokestatic 147, 3), (26, .ifCond .ne 5, 3), (29, .iconst (-1), 1), (30, .ireturn, 1), (31, .aload_n 0, 1), (32, .getfield 92, 3), (35, .iload_n 1, 1), (36, .iaload, 1), (37, .ifCond .eq 12, 3), (40, .aload_n 0, 1), (41, .getfield 92, 3), (44, .iload_n 3, 1), (45, .iaload, 1), (46, .ifCond .ne 6, 3), (49, .bipush (-11), 2), (51, .ireturn, 1), (52, .aload_n 0, 1), (53, .getfield 92, 3), (56, .iload_n 1, 1), (57, .iaload, 1), (58, .iconst 2, 1), (59, .if_icmp .ne 28, 3), (62, .aload_n 0, 1), (63, .getfield 92, 3), (66, .iload_n 3, 1), (67, .iaload, 1), (68, .iconst 2, 1), (69, .if_icmp .ne 18, 3), (72, .aload_n 0, 1), (73, .getfield 101, 3), (76, .iload_n 1, 1), (77, .iaload, 1), (78, .aload_n 0, 1), (79, .getfield 101, 3), (82, .iload_n 3, 1), (83, .iaload, 1), (84, .if_icmp .eq 6, 3), (87, .bipush (-12), 2), (89, .ireturn, 1), (90, .iload 5, 2), (92, .ifCond .lt 39, 3), (95, .iload_n 2, 1), (96, .ifCond .lt 35, 3), (99, .iload 4, 2), (101, .ifCond .lt 30, 3), (104, .iload_n 2, 1), (105, .aload_n 0, 1), (106, .getfield 104, 3), (109, .iload_n 1, 1), (110, .iaload, 1), (111, .iload 5, 2), (113, .isub, 1), (114, .if_icmp .gt 17, 3), (117, .iload 4, 2), (119, .aload_n 0, 1), (120, .getfield 104, 3), (123, .iload_n 3, 1), (124, .iaload, 1), (125, .iload 5, 2), (127, .isub, 1), (128, .if_icmp .le 6, 3), (131, .bipush (-13), 2), (133, .ireturn, 1), (134, .iconst 0, 1), (135, .istore 6, 2), (137, .iload 6, 2), (139, .iload 5, 2), (141, .if_icmp .ge 30, 3), (144, .aload_n 0, 1), (145, .getfield 138, 3), (148, .iload 6, 2), (150, .aload_n 0, 1), (151, .getfield 107, 3), (154, .bipush 100, 2), (156, .iload_n 1, 1), (157, .imul, 1), (158, .iload_n 2, 1), (159, .iadd, 1), (160, .iload 6, 2), (162, .iadd, 1), (163, .laload, 1), (164, .lastore, 1), (165, .iinc 6 1, 3), (168, .goto (-31), 3), (171, .iconst 0, 1), (172, .istore 6, 2), (174, .iload 6, 2), (176, .iload 5, 2), (178, .if_icmp .ge 31, 3), (181, .aload_n 0, 1), (182, .getfield 107, 3), (185, .bipush 100, 2), (187, .iload_n 3, 1), (188, .imul, 1), (189, .iload 4, 2), (191, .iadd, 1), (192, .iload 6, 2), (194, .iadd, 1), (195, .aload_n 0, 1), (196, .getfield 138, 3), (199, .iload 6, 2), (201, .laload, 1), (202, .lastore, 1), (203, .iinc 6 1, 3), (206, .goto (-32), 3), (209, .iload 5, 2), (211, .ireturn, 1)]
theorem ck240 : pe_ctx 240 9 false (some .int) 7 T240 := ⟨rfl, rfl, rfl, rfl, by decide +kernel, by decide, by decide⟩
theorem b240_0 {d : Nat} {Φ : Option pe_V → pe_H → Prop} {σ : pe_H} {M q : Nat} {y : Nat → Int → Int} (hF : pm_F M σ) {x1 : Int} {x2 : Int} {x3 : Int} {x4 : Int} {x5 : Int} {o6 : Option pe_V}  (w0 : pe_in x1 := by unfold pe_in; omega)  (k : pe_M d 134 [.inr (.inl x1), .inr (.inl 0), .inr (.inl 7)] (pm_h M σ q (pm_u y 0 37 0)) (fun r σ' => pe_X d 240 (14, [some (.inr (.inr M)), some (.inl x1), some (.inl x2), some (.inl x3), some (.inl x4), some (.inl x5), o6], r.toList ++ [], σ') Φ)) : pe_X d 240 (0, [some (.inr (.inr M)), some (.inl x1), some (.inl x2), some (.inl x3), some (.inl x4), some (.inl x5), o6], [], pm_h M σ q y) Φ := by
  refine pe_blk 0 7 ck240 [pe_K (pm_h M σ q y) M = 9] (11, [some (.inr (.inr M)), some (.inl x1), some (.inl x2), some (.inl x3), some (.inl x4), some (.inl x5), o6], [.inr (.inl 7), .inr (.inl 0), .inr (.inl (pe_w x1))], pe_wI (pm_h M σ q y) M 37 0) rfl ?_ ?_
  · first
    | (simp (disch := omega) only [pe_all, pe_wi w0, pe_K_wI, pe_K_wR, pm_KM hF, pm_Kh, pm_wI0]; done)
    | (simp (disch := omega) only [pe_all, pe_wi w0, pe_K_wI, pe_K_wR, pm_KM hF, pm_Kh, pm_wI0]; (repeat' apply And.intro) <;> first | assumption | omega | decide)
  · try simp (disch := omega) only [pe_wi w0, pe_K_wI, pe_K_wR, pm_KM hF, pm_Kh, pm_wI0]
    exact pe_cal 7 ck240 rfl rfl rfl trivial k
theorem b240_14 {d : Nat} {Φ : Option pe_V → pe_H → Prop} {σ : pe_H} {M q : Nat} {y : Nat → Int → Int} (hF : pm_F M σ) {x1 : Int} {x2 : Int} {x3 : Int} {x4 : Int} {x5 : Int} {o6 : Option pe_V} {s0 : Int}  (w0 : pe_in s0 := by unfold pe_in; omega)  (k1 : s0 = 0 → pe_X d 240 (29, [some (.inr (.inr M)), some (.inl x1), some (.inl x2), some (.inl x3), some (.inl x4), some (.inl x5), o6], [], pm_h M σ q y) Φ) (k2 : ¬ (s0 = 0) → pe_X d 240 (17, [some (.inr (.inr M)), some (.inl x1), some (.inl x2), some (.inl x3), some (.inl x4), some (.inl x5), o6], [], pm_h M σ q y) Φ) : pe_X d 240 (14, [some (.inr (.inr M)), some (.inl x1), some (.inl x2), some (.inl x3), some (.inl x4), some (.inl x5), o6], [.inl s0], pm_h M σ q y) Φ := by
  refine pe_blk 8 1 ck240 [] (cond (decide ((pe_w s0) = 0)) 29 17, [some (.inr (.inr M)), some (.inl x1), some (.inl x2), some (.inl x3), some (.inl x4), some (.inl x5), o6], [], pm_h M σ q y) rfl ?_ ?_
  · exact trivial
  · try simp (disch := omega) only [pe_wi w0]
    exact pe_two k1 k2
theorem b240_17 {d : Nat} {Φ : Option pe_V → pe_H → Prop} {σ : pe_H} {M q : Nat} {y : Nat → Int → Int} (hF : pm_F M σ) {x1 : Int} {x2 : Int} {x3 : Int} {x4 : Int} {x5 : Int} {o6 : Option pe_V}  (w0 : pe_in x3 := by unfold pe_in; omega)  (k : pe_M d 134 [.inr (.inl x3), .inr (.inl 0), .inr (.inl 7)] (pm_h M σ q y) (fun r σ' => pe_X d 240 (26, [some (.inr (.inr M)), some (.inl x1), some (.inl x2), some (.inl x3), some (.inl x4), some (.inl x5), o6], r.toList ++ [], σ') Φ)) : pe_X d 240 (17, [some (.inr (.inr M)), some (.inl x1), some (.inl x2), some (.inl x3), some (.inl x4), some (.inl x5), o6], [], pm_h M σ q y) Φ := by
  refine pe_blk 9 4 ck240 [] (23, [some (.inr (.inr M)), some (.inl x1), some (.inl x2), some (.inl x3), some (.inl x4), some (.inl x5), o6], [.inr (.inl 7), .inr (.inl 0), .inr (.inl (pe_w x3))], pm_h M σ q y) rfl ?_ ?_
  · exact trivial
  · try simp (disch := omega) only [pe_wi w0]
    exact pe_cal 13 ck240 rfl rfl rfl trivial k
theorem b240_26 {d : Nat} {Φ : Option pe_V → pe_H → Prop} {σ : pe_H} {M q : Nat} {y : Nat → Int → Int} (hF : pm_F M σ) {x1 : Int} {x2 : Int} {x3 : Int} {x4 : Int} {x5 : Int} {o6 : Option pe_V} {s0 : Int}  (w0 : pe_in s0 := by unfold pe_in; omega)  (k1 : ¬ s0 = 0 → pe_X d 240 (31, [some (.inr (.inr M)), some (.inl x1), some (.inl x2), some (.inl x3), some (.inl x4), some (.inl x5), o6], [], pm_h M σ q y) Φ) (k2 : s0 = 0 → pe_X d 240 (29, [some (.inr (.inr M)), some (.inl x1), some (.inl x2), some (.inl x3), some (.inl x4), some (.inl x5), o6], [], pm_h M σ q y) Φ) : pe_X d 240 (26, [some (.inr (.inr M)), some (.inl x1), some (.inl x2), some (.inl x3), some (.inl x4), some (.inl x5), o6], [.inl s0], pm_h M σ q y) Φ := by
  refine pe_blk 14 1 ck240 [] (cond (decide (¬ (pe_w s0) = 0)) 31 29, [some (.inr (.inr M)), some (.inl x1), some (.inl x2), some (.inl x3), some (.inl x4), some (.inl x5), o6], [], pm_h M σ q y) rfl ?_ ?_
  · exact trivial
  · try simp (disch := omega) only [pe_wi w0]
    exact pe_two' k1 k2
theorem b240_29 {d : Nat} {Φ : Option pe_V → pe_H → Prop} {σ : pe_H} {M q : Nat} {y : Nat → Int → Int} (hF : pm_F M σ) {o1 : Option pe_V} {o2 : Option pe_V} {o3 : Option pe_V} {o4 : Option pe_V} {o5 : Option pe_V} {o6 : Option pe_V}    (k : Φ (some (.inl (-1))) (pm_h M σ q y)) : pe_X d 240 (29, [some (.inr (.inr M)), o1, o2, o3, o4, o5, o6], [], pm_h M σ q y) Φ := by
  refine pe_blk 15 1 ck240 [] (30, [some (.inr (.inr M)), o1, o2, o3, o4, o5, o6], [.inl (-1)], pm_h M σ q y) rfl ?_ ?_
  · exact trivial
  · exact pe_fine 16 ck240 rfl rfl rfl trivial k
theorem b240_31 {d : Nat} {Φ : Option pe_V → pe_H → Prop} {σ : pe_H} {M q : Nat} {y : Nat → Int → Int} (hF : pm_F M σ) {x1 : Int} {x2 : Int} {x3 : Int} {x4 : Int} {x5 : Int} {o6 : Option pe_V}  (w0 : pe_in x1 := by unfold pe_in; omega) (w1 : pe_in (y 27 x1) := by unfold pe_in; omega) (h0 : 0 ≤ x1 := by first | assumption | omega) (h1 : x1 < 8 := by first | assumption | omega) (k1 : (y 27 x1) = 0 → pe_X d 240 (49, [some (.inr (.inr M)), some (.inl x1), some (.inl x2), some (.inl x3), some (.inl x4), some (.inl x5), o6], [], pm_h M σ q y) Φ) (k2 : ¬ ((y 27 x1) = 0) → pe_X d 240 (40, [some (.inr (.inr M)), some (.inl x1), some (.inl x2), some (.inl x3), some (.inl x4), some (.inl x5), o6], [], pm_h M σ q y) Φ) : pe_X d 240 (31, [some (.inr (.inr M)), some (.inl x1), some (.inl x2), some (.inl x3), some (.inl x4), some (.inl x5), o6], [], pm_h M σ q y) Φ := by
  refine pe_blk 17 5 ck240 [pe_K (pm_h M σ q y) M = 9, pe_K (pm_h M σ q y) (pe_R (pm_h M σ q y) M 31) = 10, 0 ≤ (pe_w x1), (pe_w x1) < pe_L (pm_h M σ q y) (pe_R (pm_h M σ q y) M 31)] (cond (decide ((pe_w (pe_I (pm_h M σ q y) (pe_R (pm_h M σ q y) M 31) (pe_w x1))) = 0)) 49 40, [some (.inr (.inr M)), some (.inl x1), some (.inl x2), some (.inl x3), some (.inl x4), some (.inl x5), o6], [], pm_h M σ q y) rfl ?_ ?_
  · first
    | (simp (disch := omega) only [pe_all, pe_wi w0, pe_wi w1, pe_I_wR, pe_K_wI, pe_K_wR, pe_L_wI, pe_L_wR, pe_R_nej, pe_R_wI, pm_Ik, pm_K27 hF, pm_KM hF, pm_Kh, pm_L27 hF, pm_Lh, pm_R31 hF, pm_Rh, pm_uj, pm_uk, pm_us]; done)
    | (simp (disch := omega) only [pe_all, pe_wi w0, pe_wi w1, pe_I_wR, pe_K_wI, pe_K_wR, pe_L_wI, pe_L_wR, pe_R_nej, pe_R_wI, pm_Ik, pm_K27 hF, pm_KM hF, pm_Kh, pm_L27 hF, pm_Lh, pm_R31 hF, pm_Rh, pm_uj, pm_uk, pm_us]; (repeat' apply And.intro) <;> first | assumption | omega | decide)
  · try simp (disch := omega) only [pe_wi w0, pe_wi w1, pe_I_wR, pe_K_wI, pe_K_wR, pe_L_wI, pe_L_wR, pe_R_nej, pe_R_wI, pm_Ik, pm_K27 hF, pm_KM hF, pm_Kh, pm_L27 hF, pm_Lh, pm_R31 hF, pm_Rh, pm_uj, pm_uk, pm_us]
    exact pe_two k1 k2
theorem b240_40 {d : Nat} {Φ : Option pe_V → pe_H → Prop} {σ : pe_H} {M q : Nat} {y : Nat → Int → Int} (hF : pm_F M σ) {x1 : Int} {x2 : Int} {x3 : Int} {x4 : Int} {x5 : Int} {o6 : Option pe_V}  (w0 : pe_in x3 := by unfold pe_in; omega) (w1 : pe_in (y 27 x3) := by unfold pe_in; omega) (h0 : 0 ≤ x3 := by first | assumption | omega) (h1 : x3 < 8 := by first | assumption | omega) (k1 : ¬ (y 27 x3) = 0 → pe_X d 240 (52, [some (.inr (.inr M)), some (.inl x1), some (.inl x2), some (.inl x3), some (.inl x4), some (.inl x5), o6], [], pm_h M σ q y) Φ) (k2 : (y 27 x3) = 0 → pe_X d 240 (49, [some (.inr (.inr M)), some (.inl x1), some (.inl x2), some (.inl x3), some (.inl x4), some (.inl x5), o6], [], pm_h M σ q y) Φ) : pe_X d 240 (40, [some (.inr (.inr M)), some (.inl x1), some (.inl x2), some (.inl x3), some (.inl x4), some (.inl x5), o6], [], pm_h M σ q y) Φ := by
  refine pe_blk 22 5 ck240 [pe_K (pm_h M σ q y) M = 9, pe_K (pm_h M σ q y) (pe_R (pm_h M σ q y) M 31) = 10, 0 ≤ (pe_w x3), (pe_w x3) < pe_L (pm_h M σ q y) (pe_R (pm_h M σ q y) M 31)] (cond (decide (¬ (pe_w (pe_I (pm_h M σ q y) (pe_R (pm_h M σ q y) M 31) (pe_w x3))) = 0)) 52 49, [some (.inr (.inr M)), some (.inl x1), some (.inl x2), some (.inl x3), some (.inl x4), some (.inl x5), o6], [], pm_h M σ q y) rfl ?_ ?_
  · first
    | (simp (disch := omega) only [pe_all, pe_wi w0, pe_wi w1, pe_I_wR, pe_K_wI, pe_K_wR, pe_L_wI, pe_L_wR, pe_R_nej, pe_R_wI, pm_Ik, pm_K27 hF, pm_KM hF, pm_Kh, pm_L27 hF, pm_Lh, pm_R31 hF, pm_Rh, pm_uj, pm_uk, pm_us]; done)
    | (simp (disch := omega) only [pe_all, pe_wi w0, pe_wi w1, pe_I_wR, pe_K_wI, pe_K_wR, pe_L_wI, pe_L_wR, pe_R_nej, pe_R_wI, pm_Ik, pm_K27 hF, pm_KM hF, pm_Kh, pm_L27 hF, pm_Lh, pm_R31 hF, pm_Rh, pm_uj, pm_uk, pm_us]; (repeat' apply And.intro) <;> first | assumption | omega | decide)
  · try simp (disch := omega) only [pe_wi w0, pe_wi w1, pe_I_wR, pe_K_wI, pe_K_wR, pe_L_wI, pe_L_wR, pe_R_nej, pe_R_wI, pm_Ik, pm_K27 hF, pm_KM hF, pm_Kh, pm_L27 hF, pm_Lh, pm_R31 hF, pm_Rh, pm_uj, pm_uk, pm_us]
    exact pe_two' k1 k2
theorem b240_49 {d : Nat} {Φ : Option pe_V → pe_H → Prop} {σ : pe_H} {M q : Nat} {y : Nat → Int → Int} (hF : pm_F M σ) {o1 : Option pe_V} {o2 : Option pe_V} {o3 : Option pe_V} {o4 : Option pe_V} {o5 : Option pe_V} {o6 : Option pe_V}    (k : Φ (some (.inl (-11))) (pm_h M σ q y)) : pe_X d 240 (49, [some (.inr (.inr M)), o1, o2, o3, o4, o5, o6], [], pm_h M σ q y) Φ := by
  refine pe_blk 27 1 ck240 [] (51, [some (.inr (.inr M)), o1, o2, o3, o4, o5, o6], [.inl (-11)], pm_h M σ q y) rfl ?_ ?_
  · exact trivial
  · exact pe_fine 28 ck240 rfl rfl rfl trivial k
theorem b240_52 {d : Nat} {Φ : Option pe_V → pe_H → Prop} {σ : pe_H} {M q : Nat} {y : Nat → Int → Int} (hF : pm_F M σ) {x1 : Int} {x2 : Int} {x3 : Int} {x4 : Int} {x5 : Int} {o6 : Option pe_V}  (w0 : pe_in x1 := by unfold pe_in; omega) (w1 : pe_in (y 27 x1) := by unfold pe_in; omega) (h0 : 0 ≤ x1 := by first | assumption | omega) (h1 : x1 < 8 := by first | assumption | omega) (k1 : ¬ (y 27 x1) = 2 → pe_X d 240 (87, [some (.inr (.inr M)), some (.inl x1), some (.inl x2), some (.inl x3), some (.inl x4), some (.inl x5), o6], [], pm_h M σ q y) Φ) (k2 : (y 27 x1) = 2 → pe_X d 240 (62, [some (.inr (.inr M)), some (.inl x1), some (.inl x2), some (.inl x3), some (.inl x4), some (.inl x5), o6], [], pm_h M σ q y) Φ) : pe_X d 240 (52, [some (.inr (.inr M)), some (.inl x1), some (.inl x2), some (.inl x3), some (.inl x4), some (.inl x5), o6], [], pm_h M σ q y) Φ := by
  refine pe_blk 29 6 ck240 [pe_K (pm_h M σ q y) M = 9, pe_K (pm_h M σ q y) (pe_R (pm_h M σ q y) M 31) = 10, 0 ≤ (pe_w x1), (pe_w x1) < pe_L (pm_h M σ q y) (pe_R (pm_h M σ q y) M 31)] (cond (decide (¬ (pe_w (pe_I (pm_h M σ q y) (pe_R (pm_h M σ q y) M 31) (pe_w x1))) = (pe_w 2))) 87 62, [some (.inr (.inr M)), some (.inl x1), some (.inl x2), some (.inl x3), some (.inl x4), some (.inl x5), o6], [], pm_h M σ q y) rfl ?_ ?_
  · first
    | (simp (disch := omega) only [pe_all, pe_wi w0, pe_wi w1, pe_wi (x := 2) ⟨by decide, by decide⟩, pe_I_wR, pe_K_wI, pe_K_wR, pe_L_wI, pe_L_wR, pe_R_nej, pe_R_wI, pm_Ik, pm_K27 hF, pm_KM hF, pm_Kh, pm_L27 hF, pm_Lh, pm_R31 hF, pm_Rh, pm_uj, pm_uk, pm_us]; done)
    | (simp (disch := omega) only [pe_all, pe_wi w0, pe_wi w1, pe_wi (x := 2) ⟨by decide, by decide⟩, pe_I_wR, pe_K_wI, pe_K_wR, pe_L_wI, pe_L_wR, pe_R_nej, pe_R_wI, pm_Ik, pm_K27 hF, pm_KM hF, pm_Kh, pm_L27 hF, pm_Lh, pm_R31 hF, pm_Rh, pm_uj, pm_uk, pm_us]; (repeat' apply And.intro) <;> first | assumption | omega | decide)
  · try simp (disch := omega) only [pe_wi w0, pe_wi w1, pe_wi (x := 2) ⟨by decide, by decide⟩, pe_I_wR, pe_K_wI, pe_K_wR, pe_L_wI, pe_L_wR, pe_R_nej, pe_R_wI, pm_Ik, pm_K27 hF, pm_KM hF, pm_Kh, pm_L27 hF, pm_Lh, pm_R31 hF, pm_Rh, pm_uj, pm_uk, pm_us]
    exact pe_two' k1 k2
theorem b240_62 {d : Nat} {Φ : Option pe_V → pe_H → Prop} {σ : pe_H} {M q : Nat} {y : Nat → Int → Int} (hF : pm_F M σ) {x1 : Int} {x2 : Int} {x3 : Int} {x4 : Int} {x5 : Int} {o6 : Option pe_V}  (w0 : pe_in x3 := by unfold pe_in; omega) (w1 : pe_in (y 27 x3) := by unfold pe_in; omega) (h0 : 0 ≤ x3 := by first | assumption | omega) (h1 : x3 < 8 := by first | assumption | omega) (k1 : ¬ (y 27 x3) = 2 → pe_X d 240 (87, [some (.inr (.inr M)), some (.inl x1), some (.inl x2), some (.inl x3), some (.inl x4), some (.inl x5), o6], [], pm_h M σ q y) Φ) (k2 : (y 27 x3) = 2 → pe_X d 240 (72, [some (.inr (.inr M)), some (.inl x1), some (.inl x2), some (.inl x3), some (.inl x4), some (.inl x5), o6], [], pm_h M σ q y) Φ) : pe_X d 240 (62, [some (.inr (.inr M)), some (.inl x1), some (.inl x2), some (.inl x3), some (.inl x4), some (.inl x5), o6], [], pm_h M σ q y) Φ := by
  refine pe_blk 35 6 ck240 [pe_K (pm_h M σ q y) M = 9, pe_K (pm_h M σ q y) (pe_R (pm_h M σ q y) M 31) = 10, 0 ≤ (pe_w x3), (pe_w x3) < pe_L (pm_h M σ q y) (pe_R (pm_h M σ q y) M 31)] (cond (decide (¬ (pe_w (pe_I (pm_h M σ q y) (pe_R (pm_h M σ q y) M 31) (pe_w x3))) = (pe_w 2))) 87 72, [some (.inr (.inr M)), some (.inl x1), some (.inl x2), some (.inl x3), some (.inl x4), some (.inl x5), o6], [], pm_h M σ q y) rfl ?_ ?_
  · first
    | (simp (disch := omega) only [pe_all, pe_wi w0, pe_wi w1, pe_wi (x := 2) ⟨by decide, by decide⟩, pe_I_wR, pe_K_wI, pe_K_wR, pe_L_wI, pe_L_wR, pe_R_nej, pe_R_wI, pm_Ik, pm_K27 hF, pm_KM hF, pm_Kh, pm_L27 hF, pm_Lh, pm_R31 hF, pm_Rh, pm_uj, pm_uk, pm_us]; done)
    | (simp (disch := omega) only [pe_all, pe_wi w0, pe_wi w1, pe_wi (x := 2) ⟨by decide, by decide⟩, pe_I_wR, pe_K_wI, pe_K_wR, pe_L_wI, pe_L_wR, pe_R_nej, pe_R_wI, pm_Ik, pm_K27 hF, pm_KM hF, pm_Kh, pm_L27 hF, pm_Lh, pm_R31 hF, pm_Rh, pm_uj, pm_uk, pm_us]; (repeat' apply And.intro) <;> first | assumption | omega | decide)
  · try simp (disch := omega) only [pe_wi w0, pe_wi w1, pe_wi (x := 2) ⟨by decide, by decide⟩, pe_I_wR, pe_K_wI, pe_K_wR, pe_L_wI, pe_L_wR, pe_R_nej, pe_R_wI, pm_Ik, pm_K27 hF, pm_KM hF, pm_Kh, pm_L27 hF, pm_Lh, pm_R31 hF, pm_Rh, pm_uj, pm_uk, pm_us]
    exact pe_two' k1 k2
theorem b240_72 {d : Nat} {Φ : Option pe_V → pe_H → Prop} {σ : pe_H} {M q : Nat} {y : Nat → Int → Int} (hF : pm_F M σ) {x1 : Int} {x2 : Int} {x3 : Int} {x4 : Int} {x5 : Int} {o6 : Option pe_V}  (w0 : pe_in x1 := by unfold pe_in; omega) (w1 : pe_in x3 := by unfold pe_in; omega) (w2 : pe_in (y 30 x3) := by unfold pe_in; omega) (w3 : pe_in (y 30 x1) := by unfold pe_in; omega) (h0 : 0 ≤ x1 := by first | assumption | omega) (h1 : x1 < 8 := by first | assumption | omega) (h2 : 0 ≤ x3 := by first | assumption | omega) (h3 : x3 < 8 := by first | assumption | omega) (k1 : (y 30 x1) = (y 30 x3) → pe_X d 240 (90, [some (.inr (.inr M)), some (.inl x1), some (.inl x2), some (.inl x3), some (.inl x4), some (.inl x5), o6], [], pm_h M σ q y) Φ) (k2 : ¬ ((y 30 x1) = (y 30 x3)) → pe_X d 240 (87, [some (.inr (.inr M)), some (.inl x1), some (.inl x2), some (.inl x3), some (.inl x4), some (.inl x5), o6], [], pm_h M σ q y) Φ) : pe_X d 240 (72, [some (.inr (.inr M)), some (.inl x1), some (.inl x2), some (.inl x3), some (.inl x4), some (.inl x5), o6], [], pm_h M σ q y) Φ := by
  refine pe_blk 41 9 ck240 [pe_K (pm_h M σ q y) M = 9, pe_K (pm_h M σ q y) (pe_R (pm_h M σ q y) M 34) = 10, 0 ≤ (pe_w x1), (pe_w x1) < pe_L (pm_h M σ q y) (pe_R (pm_h M σ q y) M 34), pe_K (pm_h M σ q y) M = 9, pe_K (pm_h M σ q y) (pe_R (pm_h M σ q y) M 34) = 10, 0 ≤ (pe_w x3), (pe_w x3) < pe_L (pm_h M σ q y) (pe_R (pm_h M σ q y) M 34)] (cond (decide ((pe_w (pe_I (pm_h M σ q y) (pe_R (pm_h M σ q y) M 34) (pe_w x1))) = (pe_w (pe_I (pm_h M σ q y) (pe_R (pm_h M σ q y) M 34) (pe_w x3))))) 90 87, [some (.inr (.inr M)), some (.inl x1), some (.inl x2), some (.inl x3), some (.inl x4), some (.inl x5), o6], [], pm_h M σ q y) rfl ?_ ?_
  · first
    | (simp (disch := omega) only [pe_all, pe_wi w0, pe_wi w1, pe_wi w2, pe_wi w3, pe_I_wR, pe_K_wI, pe_K_wR, pe_L_wI, pe_L_wR, pe_R_nej, pe_R_wI, pm_Ik, pm_K30 hF, pm_KM hF, pm_Kh, pm_L30 hF, pm_Lh, pm_R34 hF, pm_Rh, pm_uj, pm_uk, pm_us]; done)
    | (simp (disch := omega) only [pe_all, pe_wi w0, pe_wi w1, pe_wi w2, pe_wi w3, pe_I_wR, pe_K_wI, pe_K_wR, pe_L_wI, pe_L_wR, pe_R_nej, pe_R_wI, pm_Ik, pm_K30 hF, pm_KM hF, pm_Kh, pm_L30 hF, pm_Lh, pm_R34 hF, pm_Rh, pm_uj, pm_uk, pm_us]; (repeat' apply And.intro) <;> first | assumption | omega | decide)
  · try simp (disch := omega) only [pe_wi w0, pe_wi w1, pe_wi w2, pe_wi w3, pe_I_wR, pe_K_wI, pe_K_wR, pe_L_wI, pe_L_wR, pe_R_nej, pe_R_wI, pm_Ik, pm_K30 hF, pm_KM hF, pm_Kh, pm_L30 hF, pm_Lh, pm_R34 hF, pm_Rh, pm_uj, pm_uk, pm_us]
    exact pe_two k1 k2
set_option maxRecDepth 8000 in
theorem b240_87 {d : Nat} {Φ : Option pe_V → pe_H → Prop} {σ : pe_H} {M q : Nat} {y : Nat → Int → Int} (hF : pm_F M σ) {o1 : Option pe_V} {o2 : Option pe_V} {o3 : Option pe_V} {o4 : Option pe_V} {o5 : Option pe_V} {o6 : Option pe_V}    (k : Φ (some (.inl (-12))) (pm_h M σ q y)) : pe_X d 240 (87, [some (.inr (.inr M)), o1, o2, o3, o4, o5, o6], [], pm_h M σ q y) Φ := by
  refine pe_blk 50 1 ck240 [] (89, [some (.inr (.inr M)), o1, o2, o3, o4, o5, o6], [.inl (-12)], pm_h M σ q y) rfl ?_ ?_
  · exact trivial
  · exact pe_fine 51 ck240 rfl rfl rfl trivial k
set_option maxRecDepth 8000 in
theorem b240_90 {d : Nat} {Φ : Option pe_V → pe_H → Prop} {σ : pe_H} {M q : Nat} {y : Nat → Int → Int} (hF : pm_F M σ) {x1 : Int} {x2 : Int} {x3 : Int} {x4 : Int} {x5 : Int} {o6 : Option pe_V}  (w0 : pe_in x5 := by unfold pe_in; omega)  (k1 : x5 < 0 → pe_X d 240 (131, [some (.inr (.inr M)), some (.inl x1), some (.inl x2), some (.inl x3), some (.inl x4), some (.inl x5), o6], [], pm_h M σ q y) Φ) (k2 : ¬ (x5 < 0) → pe_X d 240 (95, [some (.inr (.inr M)), some (.inl x1), some (.inl x2), some (.inl x3), some (.inl x4), some (.inl x5), o6], [], pm_h M σ q y) Φ) : pe_X d 240 (90, [some (.inr (.inr M)), some (.inl x1), some (.inl x2), some (.inl x3), some (.inl x4), some (.inl x5), o6], [], pm_h M σ q y) Φ := by
  refine pe_blk 52 2 ck240 [] (cond (decide ((pe_w x5) < 0)) 131 95, [some (.inr (.inr M)), some (.inl x1), some (.inl x2), some (.inl x3), some (.inl x4), some (.inl x5), o6], [], pm_h M σ q y) rfl ?_ ?_
  · exact trivial
  · try simp (disch := omega) only [pe_wi w0]
    exact pe_two k1 k2
set_option maxRecDepth 8000 in
theorem b240_95 {d : Nat} {Φ : Option pe_V → pe_H → Prop} {σ : pe_H} {M q : Nat} {y : Nat → Int → Int} (hF : pm_F M σ) {x1 : Int} {x2 : Int} {x3 : Int} {x4 : Int} {x5 : Int} {o6 : Option pe_V}  (w0 : pe_in x2 := by unfold pe_in; omega)  (k1 : x2 < 0 → pe_X d 240 (131, [some (.inr (.inr M)), some (.inl x1), some (.inl x2), some (.inl x3), some (.inl x4), some (.inl x5), o6], [], pm_h M σ q y) Φ) (k2 : ¬ (x2 < 0) → pe_X d 240 (99, [some (.inr (.inr M)), some (.inl x1), some (.inl x2), some (.inl x3), some (.inl x4), some (.inl x5), o6], [], pm_h M σ q y) Φ) : pe_X d 240 (95, [some (.inr (.inr M)), some (.inl x1), some (.inl x2), some (.inl x3), some (.inl x4), some (.inl x5), o6], [], pm_h M σ q y) Φ := by
  refine pe_blk 54 2 ck240 [] (cond (decide ((pe_w x2) < 0)) 131 99, [some (.inr (.inr M)), some (.inl x1), some (.inl x2), some (.inl x3), some (.inl x4), some (.inl x5), o6], [], pm_h M σ q y) rfl ?_ ?_
  · exact trivial
  · try simp (disch := omega) only [pe_wi w0]
    exact pe_two k1 k2
set_option maxRecDepth 8000 in
theorem b240_99 {d : Nat} {Φ : Option pe_V → pe_H → Prop} {σ : pe_H} {M q : Nat} {y : Nat → Int → Int} (hF : pm_F M σ) {x1 : Int} {x2 : Int} {x3 : Int} {x4 : Int} {x5 : Int} {o6 : Option pe_V}  (w0 : pe_in x4 := by unfold pe_in; omega)  (k1 : x4 < 0 → pe_X d 240 (131, [some (.inr (.inr M)), some (.inl x1), some (.inl x2), some (.inl x3), some (.inl x4), some (.inl x5), o6], [], pm_h M σ q y) Φ) (k2 : ¬ (x4 < 0) → pe_X d 240 (104, [some (.inr (.inr M)), some (.inl x1), some (.inl x2), some (.inl x3), some (.inl x4), some (.inl x5), o6], [], pm_h M σ q y) Φ) : pe_X d 240 (99, [some (.inr (.inr M)), some (.inl x1), some (.inl x2), some (.inl x3), some (.inl x4), some (.inl x5), o6], [], pm_h M σ q y) Φ := by
  refine pe_blk 56 2 ck240 [] (cond (decide ((pe_w x4) < 0)) 131 104, [some (.inr (.inr M)), some (.inl x1), some (.inl x2), some (.inl x3), some (.inl x4), some (.inl x5), o6], [], pm_h M σ q y) rfl ?_ ?_
  · exact trivial
  · try simp (disch := omega) only [pe_wi w0]
    exact pe_two k1 k2
set_option maxRecDepth 8000 in
theorem b240_104 {d : Nat} {Φ : Option pe_V → pe_H → Prop} {σ : pe_H} {M q : Nat} {y : Nat → Int → Int} (hF : pm_F M σ) {x1 : Int} {x2 : Int} {x3 : Int} {x4 : Int} {x5 : Int} {o6 : Option pe_V}  (w0 : pe_in x1 := by unfold pe_in; omega) (w1 : pe_in ((y 31 x1) - x5) := by unfold pe_in; omega) (w2 : pe_in x2 := by unfold pe_in; omega) (h0 : 0 ≤ x1 := by first | assumption | omega) (h1 : x1 < 8 := by first | assumption | omega) (k1 : ((y 31 x1) - x5) < x2 → pe_X d 240 (131, [some (.inr (.inr M)), some (.inl x1), some (.inl x2), some (.inl x3), some (.inl x4), some (.inl x5), o6], [], pm_h M σ q y) Φ) (k2 : ¬ (((y 31 x1) - x5) < x2) → pe_X d 240 (117, [some (.inr (.inr M)), some (.inl x1), some (.inl x2), some (.inl x3), some (.inl x4), some (.inl x5), o6], [], pm_h M σ q y) Φ) : pe_X d 240 (104, [some (.inr (.inr M)), some (.inl x1), some (.inl x2), some (.inl x3), some (.inl x4), some (.inl x5), o6], [], pm_h M σ q y) Φ := by
  refine pe_blk 58 8 ck240 [pe_K (pm_h M σ q y) M = 9, pe_K (pm_h M σ q y) (pe_R (pm_h M σ q y) M 35) = 10, 0 ≤ (pe_w x1), (pe_w x1) < pe_L (pm_h M σ q y) (pe_R (pm_h M σ q y) M 35)] (cond (decide ((pe_w ((pe_I (pm_h M σ q y) (pe_R (pm_h M σ q y) M 35) (pe_w x1)) - x5)) < (pe_w x2))) 131 117, [some (.inr (.inr M)), some (.inl x1), some (.inl x2), some (.inl x3), some (.inl x4), some (.inl x5), o6], [], pm_h M σ q y) rfl ?_ ?_
  · first
    | (simp (disch := omega) only [pe_all, pe_wi w0, pe_wi w1, pe_wi w2, pe_I_wR, pe_K_wI, pe_K_wR, pe_L_wI, pe_L_wR, pe_R_nej, pe_R_wI, pm_Ik, pm_K31 hF, pm_KM hF, pm_Kh, pm_L31 hF, pm_Lh, pm_R35 hF, pm_Rh, pm_uj, pm_uk, pm_us]; done)
    | (simp (disch := omega) only [pe_all, pe_wi w0, pe_wi w1, pe_wi w2, pe_I_wR, pe_K_wI, pe_K_wR, pe_L_wI, pe_L_wR, pe_R_nej, pe_R_wI, pm_Ik, pm_K31 hF, pm_KM hF, pm_Kh, pm_L31 hF, pm_Lh, pm_R35 hF, pm_Rh, pm_uj, pm_uk, pm_us]; (repeat' apply And.intro) <;> first | assumption | omega | decide)
  · try simp (disch := omega) only [pe_wi w0, pe_wi w1, pe_wi w2, pe_I_wR, pe_K_wI, pe_K_wR, pe_L_wI, pe_L_wR, pe_R_nej, pe_R_wI, pm_Ik, pm_K31 hF, pm_KM hF, pm_Kh, pm_L31 hF, pm_Lh, pm_R35 hF, pm_Rh, pm_uj, pm_uk, pm_us]
    exact pe_two k1 k2
set_option maxRecDepth 8000 in
theorem b240_117 {d : Nat} {Φ : Option pe_V → pe_H → Prop} {σ : pe_H} {M q : Nat} {y : Nat → Int → Int} (hF : pm_F M σ) {x1 : Int} {x2 : Int} {x3 : Int} {x4 : Int} {x5 : Int} {o6 : Option pe_V}  (w0 : pe_in x3 := by unfold pe_in; omega) (w1 : pe_in ((y 31 x3) - x5) := by unfold pe_in; omega) (w2 : pe_in x4 := by unfold pe_in; omega) (h0 : 0 ≤ x3 := by first | assumption | omega) (h1 : x3 < 8 := by first | assumption | omega) (k1 : x4 ≤ ((y 31 x3) - x5) → pe_X d 240 (134, [some (.inr (.inr M)), some (.inl x1), some (.inl x2), some (.inl x3), some (.inl x4), some (.inl x5), o6], [], pm_h M σ q y) Φ) (k2 : ¬ (x4 ≤ ((y 31 x3) - x5)) → pe_X d 240 (131, [some (.inr (.inr M)), some (.inl x1), some (.inl x2), some (.inl x3), some (.inl x4), some (.inl x5), o6], [], pm_h M σ q y) Φ) : pe_X d 240 (117, [some (.inr (.inr M)), some (.inl x1), some (.inl x2), some (.inl x3), some (.inl x4), some (.inl x5), o6], [], pm_h M σ q y) Φ := by
  refine pe_blk 66 8 ck240 [pe_K (pm_h M σ q y) M = 9, pe_K (pm_h M σ q y) (pe_R (pm_h M σ q y) M 35) = 10, 0 ≤ (pe_w x3), (pe_w x3) < pe_L (pm_h M σ q y) (pe_R (pm_h M σ q y) M 35)] (cond (decide ((pe_w x4) ≤ (pe_w ((pe_I (pm_h M σ q y) (pe_R (pm_h M σ q y) M 35) (pe_w x3)) - x5)))) 134 131, [some (.inr (.inr M)), some (.inl x1), some (.inl x2), some (.inl x3), some (.inl x4), some (.inl x5), o6], [], pm_h M σ q y) rfl ?_ ?_
  · first
    | (simp (disch := omega) only [pe_all, pe_wi w0, pe_wi w1, pe_wi w2, pe_I_wR, pe_K_wI, pe_K_wR, pe_L_wI, pe_L_wR, pe_R_nej, pe_R_wI, pm_Ik, pm_K31 hF, pm_KM hF, pm_Kh, pm_L31 hF, pm_Lh, pm_R35 hF, pm_Rh, pm_uj, pm_uk, pm_us]; done)
    | (simp (disch := omega) only [pe_all, pe_wi w0, pe_wi w1, pe_wi w2, pe_I_wR, pe_K_wI, pe_K_wR, pe_L_wI, pe_L_wR, pe_R_nej, pe_R_wI, pm_Ik, pm_K31 hF, pm_KM hF, pm_Kh, pm_L31 hF, pm_Lh, pm_R35 hF, pm_Rh, pm_uj, pm_uk, pm_us]; (repeat' apply And.intro) <;> first | assumption | omega | decide)
  · try simp (disch := omega) only [pe_wi w0, pe_wi w1, pe_wi w2, pe_I_wR, pe_K_wI, pe_K_wR, pe_L_wI, pe_L_wR, pe_R_nej, pe_R_wI, pm_Ik, pm_K31 hF, pm_KM hF, pm_Kh, pm_L31 hF, pm_Lh, pm_R35 hF, pm_Rh, pm_uj, pm_uk, pm_us]
    exact pe_two k1 k2
set_option maxRecDepth 8000 in
theorem b240_131 {d : Nat} {Φ : Option pe_V → pe_H → Prop} {σ : pe_H} {M q : Nat} {y : Nat → Int → Int} (hF : pm_F M σ) {o1 : Option pe_V} {o2 : Option pe_V} {o3 : Option pe_V} {o4 : Option pe_V} {o5 : Option pe_V} {o6 : Option pe_V}    (k : Φ (some (.inl (-13))) (pm_h M σ q y)) : pe_X d 240 (131, [some (.inr (.inr M)), o1, o2, o3, o4, o5, o6], [], pm_h M σ q y) Φ := by
  refine pe_blk 74 1 ck240 [] (133, [some (.inr (.inr M)), o1, o2, o3, o4, o5, o6], [.inl (-13)], pm_h M σ q y) rfl ?_ ?_
  · exact trivial
  · exact pe_fine 75 ck240 rfl rfl rfl trivial k
set_option maxRecDepth 8000 in
theorem b240_134 {d : Nat} {Φ : Option pe_V → pe_H → Prop} {σ : pe_H} {M q : Nat} {y : Nat → Int → Int} (hF : pm_F M σ) {x1 : Int} {x2 : Int} {x3 : Int} {x4 : Int} {x5 : Int} {o6 : Option pe_V}    (k : pe_X d 240 (137, [some (.inr (.inr M)), some (.inl x1), some (.inl x2), some (.inl x3), some (.inl x4), some (.inl x5), some (.inl 0)], [], pm_h M σ q y) Φ) : pe_X d 240 (134, [some (.inr (.inr M)), some (.inl x1), some (.inl x2), some (.inl x3), some (.inl x4), some (.inl x5), o6], [], pm_h M σ q y) Φ := by
  refine pe_blk 76 2 ck240 [] (137, [some (.inr (.inr M)), some (.inl x1), some (.inl x2), some (.inl x3), some (.inl x4), some (.inl x5), some (.inl 0)], [], pm_h M σ q y) rfl ?_ ?_
  · exact trivial
  · exact k
set_option maxRecDepth 8000 in
theorem b240_137 {d : Nat} {Φ : Option pe_V → pe_H → Prop} {σ : pe_H} {M q : Nat} {y : Nat → Int → Int} (hF : pm_F M σ) {x1 : Int} {x2 : Int} {x3 : Int} {x4 : Int} {x5 : Int} {x6 : Int}  (w0 : pe_in x5 := by unfold pe_in; omega) (w1 : pe_in x6 := by unfold pe_in; omega)  (k1 : x5 ≤ x6 → pe_X d 240 (171, [some (.inr (.inr M)), some (.inl x1), some (.inl x2), some (.inl x3), some (.inl x4), some (.inl x5), some (.inl x6)], [], pm_h M σ q y) Φ) (k2 : ¬ (x5 ≤ x6) → pe_X d 240 (144, [some (.inr (.inr M)), some (.inl x1), some (.inl x2), some (.inl x3), some (.inl x4), some (.inl x5), some (.inl x6)], [], pm_h M σ q y) Φ) : pe_X d 240 (137, [some (.inr (.inr M)), some (.inl x1), some (.inl x2), some (.inl x3), some (.inl x4), some (.inl x5), some (.inl x6)], [], pm_h M σ q y) Φ := by
  refine pe_blk 78 3 ck240 [] (cond (decide ((pe_w x5) ≤ (pe_w x6))) 171 144, [some (.inr (.inr M)), some (.inl x1), some (.inl x2), some (.inl x3), some (.inl x4), some (.inl x5), some (.inl x6)], [], pm_h M σ q y) rfl ?_ ?_
  · exact trivial
  · try simp (disch := omega) only [pe_wi w0, pe_wi w1]
    exact pe_two k1 k2
set_option maxRecDepth 8000 in
theorem b240_144 {d : Nat} {Φ : Option pe_V → pe_H → Prop} {σ : pe_H} {M q : Nat} {y : Nat → Int → Int} (hF : pm_F M σ) {x1 : Int} {x2 : Int} {x3 : Int} {x4 : Int} {x5 : Int} {x6 : Int}  (w0 : pe_in (((100 * x1) + x2) + x6) := by unfold pe_in; omega) (w1 : pe_in x6 := by unfold pe_in; omega) (h0 : 0 ≤ (((100 * x1) + x2) + x6) := by first | assumption | omega) (h1 : (((100 * x1) + x2) + x6) < 800 := by first | assumption | omega) (h2 : 0 ≤ x6 := by first | assumption | omega) (h3 : x6 < 100 := by first | assumption | omega) (k : pe_X d 240 (137, [some (.inr (.inr M)), some (.inl x1), some (.inl x2), some (.inl x3), some (.inl x4), some (.inl x5), some (.inl (x6 + 1))], [], pm_h M σ q (pm_u y 42 x6 (y 32 (((100 * x1) + x2) + x6)))) Φ) : pe_X d 240 (144, [some (.inr (.inr M)), some (.inl x1), some (.inl x2), some (.inl x3), some (.inl x4), some (.inl x5), some (.inl x6)], [], pm_h M σ q y) Φ := by
  have hM2 := pm_2 hF
  refine pe_blk 81 16 ck240 [pe_K (pm_h M σ q y) M = 9, pe_K (pm_h M σ q y) M = 9, pe_K (pm_h M σ q y) (pe_R (pm_h M σ q y) M 36) = 11, 0 ≤ (pe_w (((100 * x1) + x2) + x6)), (pe_w (((100 * x1) + x2) + x6)) < pe_L (pm_h M σ q y) (pe_R (pm_h M σ q y) M 36), pe_K (pm_h M σ q y) (pe_R (pm_h M σ q y) M 57) = 11, 0 ≤ (pe_w x6), (pe_w x6) < pe_L (pm_h M σ q y) (pe_R (pm_h M σ q y) M 57), 2 ≤ (pe_R (pm_h M σ q y) M 57)] (137, [some (.inr (.inr M)), some (.inl x1), some (.inl x2), some (.inl x3), some (.inl x4), some (.inl x5), some (.inl (x6 + 1))], [], pe_wI (pm_h M σ q y) (pe_R (pm_h M σ q y) M 57) (pe_w x6) (pe_I (pm_h M σ q y) (pe_R (pm_h M σ q y) M 36) (pe_w (((100 * x1) + x2) + x6)))) rfl ?_ ?_
  · first
    | (simp (disch := omega) only [pe_all, pe_wi w0, pe_wi w1, pe_I_wR, pe_K_wI, pe_K_wR, pe_L_wI, pe_L_wR, pe_R_nej, pe_R_wI, pm_Ik, pm_K32 hF, pm_K42 hF, pm_KM hF, pm_Kh, pm_L32 hF, pm_L42 hF, pm_Lh, pm_R36 hF, pm_R57 hF, pm_Rh, pm_uj, pm_uk, pm_us, pm_wIk]; done)
    | (simp (disch := omega) only [pe_all, pe_wi w0, pe_wi w1, pe_I_wR, pe_K_wI, pe_K_wR, pe_L_wI, pe_L_wR, pe_R_nej, pe_R_wI, pm_Ik, pm_K32 hF, pm_K42 hF, pm_KM hF, pm_Kh, pm_L32 hF, pm_L42 hF, pm_Lh, pm_R36 hF, pm_R57 hF, pm_Rh, pm_uj, pm_uk, pm_us, pm_wIk]; (repeat' apply And.intro) <;> first | assumption | omega | decide)
  · try simp (disch := omega) only [pe_wi w0, pe_wi w1, pe_I_wR, pe_K_wI, pe_K_wR, pe_L_wI, pe_L_wR, pe_R_nej, pe_R_wI, pm_Ik, pm_K32 hF, pm_K42 hF, pm_KM hF, pm_Kh, pm_L32 hF, pm_L42 hF, pm_Lh, pm_R36 hF, pm_R57 hF, pm_Rh, pm_uj, pm_uk, pm_us, pm_wIk]
    exact k
set_option maxRecDepth 8000 in
theorem b240_171 {d : Nat} {Φ : Option pe_V → pe_H → Prop} {σ : pe_H} {M q : Nat} {y : Nat → Int → Int} (hF : pm_F M σ) {o1 : Option pe_V} {o2 : Option pe_V} {x3 : Int} {x4 : Int} {x5 : Int} {o6 : Option pe_V}    (k : pe_X d 240 (174, [some (.inr (.inr M)), o1, o2, some (.inl x3), some (.inl x4), some (.inl x5), some (.inl 0)], [], pm_h M σ q y) Φ) : pe_X d 240 (171, [some (.inr (.inr M)), o1, o2, some (.inl x3), some (.inl x4), some (.inl x5), o6], [], pm_h M σ q y) Φ := by
  refine pe_blk 97 2 ck240 [] (174, [some (.inr (.inr M)), o1, o2, some (.inl x3), some (.inl x4), some (.inl x5), some (.inl 0)], [], pm_h M σ q y) rfl ?_ ?_
  · exact trivial
  · exact k
set_option maxRecDepth 8000 in
theorem b240_174 {d : Nat} {Φ : Option pe_V → pe_H → Prop} {σ : pe_H} {M q : Nat} {y : Nat → Int → Int} (hF : pm_F M σ) {o1 : Option pe_V} {o2 : Option pe_V} {x3 : Int} {x4 : Int} {x5 : Int} {x6 : Int}  (w0 : pe_in x5 := by unfold pe_in; omega) (w1 : pe_in x6 := by unfold pe_in; omega)  (k1 : x5 ≤ x6 → pe_X d 240 (209, [some (.inr (.inr M)), o1, o2, some (.inl x3), some (.inl x4), some (.inl x5), some (.inl x6)], [], pm_h M σ q y) Φ) (k2 : ¬ (x5 ≤ x6) → pe_X d 240 (181, [some (.inr (.inr M)), o1, o2, some (.inl x3), some (.inl x4), some (.inl x5), some (.inl x6)], [], pm_h M σ q y) Φ) : pe_X d 240 (174, [some (.inr (.inr M)), o1, o2, some (.inl x3), some (.inl x4), some (.inl x5), some (.inl x6)], [], pm_h M σ q y) Φ := by
  refine pe_blk 99 3 ck240 [] (cond (decide ((pe_w x5) ≤ (pe_w x6))) 209 181, [some (.inr (.inr M)), o1, o2, some (.inl x3), some (.inl x4), some (.inl x5), some (.inl x6)], [], pm_h M σ q y) rfl ?_ ?_
  · exact trivial
  · try simp (disch := omega) only [pe_wi w0, pe_wi w1]
    exact pe_two k1 k2
set_option maxRecDepth 8000 in
theorem b240_181 {d : Nat} {Φ : Option pe_V → pe_H → Prop} {σ : pe_H} {M q : Nat} {y : Nat → Int → Int} (hF : pm_F M σ) {o1 : Option pe_V} {o2 : Option pe_V} {x3 : Int} {x4 : Int} {x5 : Int} {x6 : Int}  (w0 : pe_in x6 := by unfold pe_in; omega) (w1 : pe_in (((100 * x3) + x4) + x6) := by unfold pe_in; omega) (h0 : 0 ≤ x6 := by first | assumption | omega) (h1 : x6 < 100 := by first | assumption | omega) (h2 : 0 ≤ (((100 * x3) + x4) + x6) := by first | assumption | omega) (h3 : (((100 * x3) + x4) + x6) < 800 := by first | assumption | omega) (k : pe_X d 240 (174, [some (.inr (.inr M)), o1, o2, some (.inl x3), some (.inl x4), some (.inl x5), some (.inl (x6 + 1))], [], pm_h M σ q (pm_u y 32 (((100 * x3) + x4) + x6) (y 42 x6))) Φ) : pe_X d 240 (181, [some (.inr (.inr M)), o1, o2, some (.inl x3), some (.inl x4), some (.inl x5), some (.inl x6)], [], pm_h M σ q y) Φ := by
  have hM2 := pm_2 hF
  refine pe_blk 102 16 ck240 [pe_K (pm_h M σ q y) M = 9, pe_K (pm_h M σ q y) M = 9, pe_K (pm_h M σ q y) (pe_R (pm_h M σ q y) M 57) = 11, 0 ≤ (pe_w x6), (pe_w x6) < pe_L (pm_h M σ q y) (pe_R (pm_h M σ q y) M 57), pe_K (pm_h M σ q y) (pe_R (pm_h M σ q y) M 36) = 11, 0 ≤ (pe_w (((100 * x3) + x4) + x6)), (pe_w (((100 * x3) + x4) + x6)) < pe_L (pm_h M σ q y) (pe_R (pm_h M σ q y) M 36), 2 ≤ (pe_R (pm_h M σ q y) M 36)] (174, [some (.inr (.inr M)), o1, o2, some (.inl x3), some (.inl x4), some (.inl x5), some (.inl (x6 + 1))], [], pe_wI (pm_h M σ q y) (pe_R (pm_h M σ q y) M 36) (pe_w (((100 * x3) + x4) + x6)) (pe_I (pm_h M σ q y) (pe_R (pm_h M σ q y) M 57) (pe_w x6))) rfl ?_ ?_
  · first
    | (simp (disch := omega) only [pe_all, pe_wi w0, pe_wi w1, pe_I_wR, pe_K_wI, pe_K_wR, pe_L_wI, pe_L_wR, pe_R_nej, pe_R_wI, pm_Ik, pm_K32 hF, pm_K42 hF, pm_KM hF, pm_Kh, pm_L32 hF, pm_L42 hF, pm_Lh, pm_R36 hF, pm_R57 hF, pm_Rh, pm_uj, pm_uk, pm_us, pm_wIk]; done)
    | (simp (disch := omega) only [pe_all, pe_wi w0, pe_wi w1, pe_I_wR, pe_K_wI, pe_K_wR, pe_L_wI, pe_L_wR, pe_R_nej, pe_R_wI, pm_Ik, pm_K32 hF, pm_K42 hF, pm_KM hF, pm_Kh, pm_L32 hF, pm_L42 hF, pm_Lh, pm_R36 hF, pm_R57 hF, pm_Rh, pm_uj, pm_uk, pm_us, pm_wIk]; (repeat' apply And.intro) <;> first | assumption | omega | decide)
  · try simp (disch := omega) only [pe_wi w0, pe_wi w1, pe_I_wR, pe_K_wI, pe_K_wR, pe_L_wI, pe_L_wR, pe_R_nej, pe_R_wI, pm_Ik, pm_K32 hF, pm_K42 hF, pm_KM hF, pm_Kh, pm_L32 hF, pm_L42 hF, pm_Lh, pm_R36 hF, pm_R57 hF, pm_Rh, pm_uj, pm_uk, pm_us, pm_wIk]
    exact k
set_option maxRecDepth 8000 in
theorem b240_209 {d : Nat} {Φ : Option pe_V → pe_H → Prop} {σ : pe_H} {M q : Nat} {y : Nat → Int → Int} (hF : pm_F M σ) {o1 : Option pe_V} {o2 : Option pe_V} {o3 : Option pe_V} {o4 : Option pe_V} {x5 : Int} {o6 : Option pe_V}    (k : Φ (some (.inl x5)) (pm_h M σ q y)) : pe_X d 240 (209, [some (.inr (.inr M)), o1, o2, o3, o4, some (.inl x5), o6], [], pm_h M σ q y) Φ := by
  refine pe_blk 118 1 ck240 [] (211, [some (.inr (.inr M)), o1, o2, o3, o4, some (.inl x5), o6], [.inl x5], pm_h M σ q y) rfl ?_ ?_
  · exact trivial
  · exact pe_fine 119 ck240 rfl rfl rfl trivial k
-- StepMachinesModel.costOf(II)I
def T241 : List (Nat × Instr × Nat) := [(0, .iload_n 0, 1), (1, .tableswitch 47 0 4 #[35, 37, 39, 43, 45], 35), (36, .iload_n 1, 1), (37, .ireturn, 1), (38, .iconst 1, 1), (39, .ireturn, 1), (40, .iconst 2, 1), (41, .iload_n 1, 1), (42, .imul, 1), (43, .ireturn, 1), (44, .iconst 4, 1), (45, .ireturn, 1), (46, .iconst 0, 1), (47, .ireturn, 1), (48, .iconst 2, 1), (49, .iload_n 1, 1), (50, .iadd, 1), (51, .ireturn, 1)]
theorem ck241 : pe_ctx 241 9 false (some .int) 2 T241 := ⟨rfl, rfl, rfl, rfl, by decide +kernel, by decide, by decide⟩
theorem b241_0 {d : Nat} {Φ : Option pe_V → pe_H → Prop} {σ : pe_H} {M q : Nat} {y : Nat → Int → Int} (hF : pm_F M σ) {x0 : Int} {x1 : Int}  (w0 : pe_in x0 := by unfold pe_in; omega)  (k0 : x0 = 0 → pe_X d 241 (36, [some (.inl x0), some (.inl x1)], [], pm_h M σ q y) Φ) (k1 : x0 = 1 → pe_X d 241 (38, [some (.inl x0), some (.inl x1)], [], pm_h M σ q y) Φ) (k2 : x0 = 2 → pe_X d 241 (40, [some (.inl x0), some (.inl x1)], [], pm_h M σ q y) Φ) (k3 : x0 = 3 → pe_X d 241 (44, [some (.inl x0), some (.inl x1)], [], pm_h M σ q y) Φ) (k4 : x0 = 4 → pe_X d 241 (46, [some (.inl x0), some (.inl x1)], [], pm_h M σ q y) Φ) (kd : ¬ x0 = 0 → ¬ x0 = 1 → ¬ x0 = 2 → ¬ x0 = 3 → ¬ x0 = 4 → pe_X d 241 (48, [some (.inl x0), some (.inl x1)], [], pm_h M σ q y) Φ) : pe_X d 241 (0, [some (.inl x0), some (.inl x1)], [], pm_h M σ q y) Φ := by
  refine pe_blk 0 2 ck241 [] ((((1 : Nat) : Int) + pe_sw 47 [(0, 35), (1, 37), (2, 39), (3, 43), (4, 45)] (pe_w x0)).toNat, [some (.inl x0), some (.inl x1)], [], pm_h M σ q y) rfl ?_ ?_
  · exact trivial
  · try simp (disch := omega) only [pe_wi w0]
    by_cases q0 : x0 = 0
    · have e : pe_sw 47 [(0, 35), (1, 37), (2, 39), (3, 43), (4, 45)] x0 = 35 := by rw [q0]; rfl
      rw [e]; exact k0 q0
    by_cases q1 : x0 = 1
    · have e : pe_sw 47 [(0, 35), (1, 37), (2, 39), (3, 43), (4, 45)] x0 = 37 := by rw [q1]; rfl
      rw [e]; exact k1 q1
    by_cases q2 : x0 = 2
    · have e : pe_sw 47 [(0, 35), (1, 37), (2, 39), (3, 43), (4, 45)] x0 = 39 := by rw [q2]; rfl
      rw [e]; exact k2 q2
    by_cases q3 : x0 = 3
    · have e : pe_sw 47 [(0, 35), (1, 37), (2, 39), (3, 43), (4, 45)] x0 = 43 := by rw [q3]; rfl
      rw [e]; exact k3 q3
    by_cases q4 : x0 = 4
    · have e : pe_sw 47 [(0, 35), (1, 37), (2, 39), (3, 43), (4, 45)] x0 = 45 := by rw [q4]; rfl
      rw [e]; exact k4 q4
    have e : pe_sw 47 [(0, 35), (1, 37), (2, 39), (3, 43), (4, 45)] x0 = 47 := by simp only [pe_sw, if_neg q0, if_neg q1, if_neg q2, if_neg q3, if_neg q4]
    rw [e]; exact kd q0 q1 q2 q3 q4
theorem b241_36 {d : Nat} {Φ : Option pe_V → pe_H → Prop} {σ : pe_H} {M q : Nat} {y : Nat → Int → Int} (hF : pm_F M σ) {o0 : Option pe_V} {x1 : Int}    (k : Φ (some (.inl x1)) (pm_h M σ q y)) : pe_X d 241 (36, [o0, some (.inl x1)], [], pm_h M σ q y) Φ := by
  refine pe_blk 2 1 ck241 [] (37, [o0, some (.inl x1)], [.inl x1], pm_h M σ q y) rfl ?_ ?_
  · exact trivial
  · exact pe_fine 3 ck241 rfl rfl rfl trivial k
theorem b241_38 {d : Nat} {Φ : Option pe_V → pe_H → Prop} {σ : pe_H} {M q : Nat} {y : Nat → Int → Int} (hF : pm_F M σ) {o0 : Option pe_V} {o1 : Option pe_V}    (k : Φ (some (.inl 1)) (pm_h M σ q y)) : pe_X d 241 (38, [o0, o1], [], pm_h M σ q y) Φ := by
  refine pe_blk 4 1 ck241 [] (39, [o0, o1], [.inl 1], pm_h M σ q y) rfl ?_ ?_
  · exact trivial
  · exact pe_fine 5 ck241 rfl rfl rfl trivial k
theorem b241_40 {d : Nat} {Φ : Option pe_V → pe_H → Prop} {σ : pe_H} {M q : Nat} {y : Nat → Int → Int} (hF : pm_F M σ) {o0 : Option pe_V} {x1 : Int}    (k : Φ (some (.inl (2 * x1))) (pm_h M σ q y)) : pe_X d 241 (40, [o0, some (.inl x1)], [], pm_h M σ q y) Φ := by
  refine pe_blk 6 3 ck241 [] (43, [o0, some (.inl x1)], [.inl (2 * x1)], pm_h M σ q y) rfl ?_ ?_
  · exact trivial
  · exact pe_fine 9 ck241 rfl rfl rfl trivial k
theorem b241_44 {d : Nat} {Φ : Option pe_V → pe_H → Prop} {σ : pe_H} {M q : Nat} {y : Nat → Int → Int} (hF : pm_F M σ) {o0 : Option pe_V} {o1 : Option pe_V}    (k : Φ (some (.inl 4)) (pm_h M σ q y)) : pe_X d 241 (44, [o0, o1], [], pm_h M σ q y) Φ := by
  refine pe_blk 10 1 ck241 [] (45, [o0, o1], [.inl 4], pm_h M σ q y) rfl ?_ ?_
  · exact trivial
  · exact pe_fine 11 ck241 rfl rfl rfl trivial k
theorem b241_46 {d : Nat} {Φ : Option pe_V → pe_H → Prop} {σ : pe_H} {M q : Nat} {y : Nat → Int → Int} (hF : pm_F M σ) {o0 : Option pe_V} {o1 : Option pe_V}    (k : Φ (some (.inl 0)) (pm_h M σ q y)) : pe_X d 241 (46, [o0, o1], [], pm_h M σ q y) Φ := by
  refine pe_blk 12 1 ck241 [] (47, [o0, o1], [.inl 0], pm_h M σ q y) rfl ?_ ?_
  · exact trivial
  · exact pe_fine 13 ck241 rfl rfl rfl trivial k
theorem b241_48 {d : Nat} {Φ : Option pe_V → pe_H → Prop} {σ : pe_H} {M q : Nat} {y : Nat → Int → Int} (hF : pm_F M σ) {o0 : Option pe_V} {x1 : Int}    (k : Φ (some (.inl (2 + x1))) (pm_h M σ q y)) : pe_X d 241 (48, [o0, some (.inl x1)], [], pm_h M σ q y) Φ := by
  refine pe_blk 14 3 ck241 [] (51, [o0, some (.inl x1)], [.inl (2 + x1)], pm_h M σ q y) rfl ?_ ?_
  · exact trivial
  · exact pe_fine 17 ck241 rfl rfl rfl trivial k
-- StepMachinesModel.cost(I)I
def T242 : List (Nat × Instr × Nat) := [(0, .aload_n 0, 1), (1, .iconst 0, 1), (2, .putfield 141, 3), (5, .aload_n 0, 1), (6, .iload_n 1, 1), (7, .invokevirtual 371, 3), (10, .ifCond .ge 11, 3), (13, .aload_n 0, 1), (14, .iload_n 1, 1), (15, .invokevirtual 371, 3), (18, .goto 18, 3), (21, .aload_n 0, 1), (22, .getfield 95, 3), (25, .iload_n 1, 1), (26, .iaload, 1), (27, .aload_n 0, 1), (28, .getfield 98, 3), (31, .iload_n 1, 1), (32, .iaload, 1), (33, .invokestatic 467, 3), (36, .ireturn, 1)]
theorem ck242 : pe_ctx 242 9 false (some .int) 2 T242 := ⟨rfl, rfl, rfl, rfl, by decide +kernel, by decide, by decide⟩
theorem b242_0 {d : Nat} {Φ : Option pe_V → pe_H → Prop} {σ : pe_H} {M q : Nat} {y : Nat → Int → Int} (hF : pm_F M σ) {x1 : Int}    (k : pe_M d 233 [.inr (.inr M), .inl x1] (pm_h M σ q (pm_u y 0 37 0)) (fun r σ' => pe_X d 242 (10, [some (.inr (.inr M)), some (.inl x1)], r.toList ++ [], σ') Φ)) : pe_X d 242 (0, [some (.inr (.inr M)), some (.inl x1)], [], pm_h M σ q y) Φ := by
  refine pe_blk 0 5 ck242 [pe_K (pm_h M σ q y) M = 9] (7, [some (.inr (.inr M)), some (.inl x1)], [.inl x1, .inr (.inr M)], pe_wI (pm_h M σ q y) M 37 0) rfl ?_ ?_
  · first
    | (simp (disch := omega) only [pe_all, pe_K_wI, pe_K_wR, pm_KM hF, pm_Kh, pm_wI0]; done)
    | (simp (disch := omega) only [pe_all, pe_K_wI, pe_K_wR, pm_KM hF, pm_Kh, pm_wI0]; (repeat' apply And.intro) <;> first | assumption | omega | decide)
  · try simp (disch := omega) only [pe_K_wI, pe_K_wR, pm_KM hF, pm_Kh, pm_wI0]
    have hrc : pe_K (pm_h M σ q (pm_u y 0 37 0)) M = 9 := by first | assumption | (simp (disch := omega) only [pe_K_wI, pe_K_wR, pm_KM hF, pm_Kh, pm_wI0]; done) | (simp (disch := omega) only [pe_K_wI, pe_K_wR, pm_KM hF, pm_Kh, pm_wI0]; assumption)
    exact pe_cal 5 ck242 rfl rfl rfl ⟨hrc, by decide⟩ k
theorem b242_10 {d : Nat} {Φ : Option pe_V → pe_H → Prop} {σ : pe_H} {M q : Nat} {y : Nat → Int → Int} (hF : pm_F M σ) {x1 : Int} {s0 : Int}  (w0 : pe_in s0 := by unfold pe_in; omega)  (k1 : 0 ≤ s0 → pe_X d 242 (21, [some (.inr (.inr M)), some (.inl x1)], [], pm_h M σ q y) Φ) (k2 : ¬ (0 ≤ s0) → pe_X d 242 (13, [some (.inr (.inr M)), some (.inl x1)], [], pm_h M σ q y) Φ) : pe_X d 242 (10, [some (.inr (.inr M)), some (.inl x1)], [.inl s0], pm_h M σ q y) Φ := by
  refine pe_blk 6 1 ck242 [] (cond (decide (0 ≤ (pe_w s0))) 21 13, [some (.inr (.inr M)), some (.inl x1)], [], pm_h M σ q y) rfl ?_ ?_
  · exact trivial
  · try simp (disch := omega) only [pe_wi w0]
    exact pe_two k1 k2
theorem b242_13 {d : Nat} {Φ : Option pe_V → pe_H → Prop} {σ : pe_H} {M q : Nat} {y : Nat → Int → Int} (hF : pm_F M σ) {x1 : Int}    (k : pe_M d 233 [.inr (.inr M), .inl x1] (pm_h M σ q y) (fun r σ' => pe_X d 242 (18, [some (.inr (.inr M)), some (.inl x1)], r.toList ++ [], σ') Φ)) : pe_X d 242 (13, [some (.inr (.inr M)), some (.inl x1)], [], pm_h M σ q y) Φ := by
  refine pe_blk 7 2 ck242 [] (15, [some (.inr (.inr M)), some (.inl x1)], [.inl x1, .inr (.inr M)], pm_h M σ q y) rfl ?_ ?_
  · exact trivial
  · try simp (disch := omega) only [pe_K_wI, pe_K_wR, pm_KM hF, pm_Kh]
    have hrc : pe_K (pm_h M σ q y) M = 9 := by first | assumption | (simp (disch := omega) only [pe_K_wI, pe_K_wR, pm_KM hF, pm_Kh]; done) | (simp (disch := omega) only [pe_K_wI, pe_K_wR, pm_KM hF, pm_Kh]; assumption)
    exact pe_cal 9 ck242 rfl rfl rfl ⟨hrc, by decide⟩ k
theorem b242_18 {d : Nat} {Φ : Option pe_V → pe_H → Prop} {σ : pe_H} {M q : Nat} {y : Nat → Int → Int} (hF : pm_F M σ) {o1 : Option pe_V} {s0 : Int}    (k : pe_X d 242 (36, [some (.inr (.inr M)), o1], [.inl s0], pm_h M σ q y) Φ) : pe_X d 242 (18, [some (.inr (.inr M)), o1], [.inl s0], pm_h M σ q y) Φ := by
  refine pe_blk 10 1 ck242 [] (36, [some (.inr (.inr M)), o1], [.inl s0], pm_h M σ q y) rfl ?_ ?_
  · exact trivial
  · exact k
theorem b242_21 {d : Nat} {Φ : Option pe_V → pe_H → Prop} {σ : pe_H} {M q : Nat} {y : Nat → Int → Int} (hF : pm_F M σ) {x1 : Int}  (w0 : pe_in x1 := by unfold pe_in; omega) (h0 : 0 ≤ x1 := by first | assumption | omega) (h1 : x1 < 8 := by first | assumption | omega) (k : pe_M d 241 [.inl (y 28 x1), .inl (y 29 x1)] (pm_h M σ q y) (fun r σ' => pe_X d 242 (36, [some (.inr (.inr M)), some (.inl x1)], r.toList ++ [], σ') Φ)) : pe_X d 242 (21, [some (.inr (.inr M)), some (.inl x1)], [], pm_h M σ q y) Φ := by
  refine pe_blk 11 8 ck242 [pe_K (pm_h M σ q y) M = 9, pe_K (pm_h M σ q y) (pe_R (pm_h M σ q y) M 32) = 10, 0 ≤ (pe_w x1), (pe_w x1) < pe_L (pm_h M σ q y) (pe_R (pm_h M σ q y) M 32), pe_K (pm_h M σ q y) M = 9, pe_K (pm_h M σ q y) (pe_R (pm_h M σ q y) M 33) = 10, 0 ≤ (pe_w x1), (pe_w x1) < pe_L (pm_h M σ q y) (pe_R (pm_h M σ q y) M 33)] (33, [some (.inr (.inr M)), some (.inl x1)], [.inl (pe_I (pm_h M σ q y) (pe_R (pm_h M σ q y) M 33) (pe_w x1)), .inl (pe_I (pm_h M σ q y) (pe_R (pm_h M σ q y) M 32) (pe_w x1))], pm_h M σ q y) rfl ?_ ?_
  · first
    | (simp (disch := omega) only [pe_all, pe_wi w0, pe_I_wR, pe_K_wI, pe_K_wR, pe_L_wI, pe_L_wR, pe_R_nej, pe_R_wI, pm_Ik, pm_K28 hF, pm_K29 hF, pm_KM hF, pm_Kh, pm_L28 hF, pm_L29 hF, pm_Lh, pm_R32 hF, pm_R33 hF, pm_Rh, pm_uj, pm_uk, pm_us]; done)
    | (simp (disch := omega) only [pe_all, pe_wi w0, pe_I_wR, pe_K_wI, pe_K_wR, pe_L_wI, pe_L_wR, pe_R_nej, pe_R_wI, pm_Ik, pm_K28 hF, pm_K29 hF, pm_KM hF, pm_Kh, pm_L28 hF, pm_L29 hF, pm_Lh, pm_R32 hF, pm_R33 hF, pm_Rh, pm_uj, pm_uk, pm_us]; (repeat' apply And.intro) <;> first | assumption | omega | decide)
  · try simp (disch := omega) only [pe_wi w0, pe_I_wR, pe_K_wI, pe_K_wR, pe_L_wI, pe_L_wR, pe_R_nej, pe_R_wI, pm_Ik, pm_K28 hF, pm_K29 hF, pm_KM hF, pm_Kh, pm_L28 hF, pm_L29 hF, pm_Lh, pm_R32 hF, pm_R33 hF, pm_Rh, pm_uj, pm_uk, pm_us]
    exact pe_cal 19 ck242 rfl rfl rfl trivial k
theorem b242_36 {d : Nat} {Φ : Option pe_V → pe_H → Prop} {σ : pe_H} {M q : Nat} {y : Nat → Int → Int} (hF : pm_F M σ) {o1 : Option pe_V} {s0 : Int}    (k : Φ (some (.inl s0)) (pm_h M σ q y)) : pe_X d 242 (36, [some (.inr (.inr M)), o1], [.inl s0], pm_h M σ q y) Φ := by
  exact pe_fine 20 ck242 rfl rfl rfl trivial k
-- StepMachinesModel.toss(I)I
def T243 : List (Nat × Instr × Nat) := [(0, .aload_n 0, 1), (1, .iconst 0, 1), (2, .putfield 141, 3), (5, .aload_n 0, 1), (6, .iload_n 1, 1), (7, .invokevirtual 371, 3), (10, .ifCond .ge 9, 3), (13, .aload_n 0, 1), (14, .iload_n 1, 1), (15, .invokevirtual 371, 3), (18, .ireturn, 1), (19, .aload_n 0, 1), (20, .getfield 95, 3), (23, .iload_n 1, 1), (24, .iaload, 1), (25, .istore_n 2, 1), (26, .aload_n 0, 1), (27, .getfield 98, 3), (30, .iload_n 1, 1), (31, .iaload, 1), (32, .istore_n 3, 1), (33, .iload_n 2, 1), (34, .iconst 2, 1), (35, .if_icmp .eq 12, 3), (38, .iload_n 2, 1), (39, .iconst 4, 1), (40, .if_icmp .eq 7, 3), (43, .iload_n 3, 1), (44, .ifCond .ne 6, 3), (47, .bipush (-15), 2), (49, .ireturn, 1), (50, .iload_n 2, 1), (51, .ifCond .ne 7, 3), (54, .iload_n 3, 1), (55, .goto 24, 3), (58, .iload_n 2, 1), (59, .iconst 5, 1), (60, .if_icmp .ne 15, 3), (63, .sipush 200, 3), (66, .iload_n 2, 1), (67, .iload_n 3, 1), (68, .invokestatic 467, 3), (71, .iadd, 1), (72, .goto 7, 3), (75, .bipush 100, 2), (77, .iload_n 3, 1), (78, .iadd, 1), (79, .ireturn, 1)]
theorem ck243 : pe_ctx 243 9 false (some .int) 4 T243 := ⟨rfl, rfl, rfl, rfl, by decide +kernel, by decide, by decide⟩
theorem b243_0 {d : Nat} {Φ : Option pe_V → pe_H → Prop} {σ : pe_H} {M q : Nat} {y : Nat → Int → Int} (hF : pm_F M σ) {x1 : Int} {o2 : Option pe_V} {o3 : Option pe_V}    (k : pe_M d 233 [.inr (.inr M), .inl x1] (pm_h M σ q (pm_u y 0 37 0)) (fun r σ' => pe_X d 243 (10, [some (.inr (.inr M)), some (.inl x1), o2, o3], r.toList ++ [], σ') Φ)) : pe_X d 243 (0, [some (.inr (.inr M)), some (.inl x1), o2, o3], [], pm_h M σ q y) Φ := by
  refine pe_blk 0 5 ck243 [pe_K (pm_h M σ q y) M = 9] (7, [some (.inr (.inr M)), some (.inl x1), o2, o3], [.inl x1, .inr (.inr M)], pe_wI (pm_h M σ q y) M 37 0) rfl ?_ ?_
  · first
    | (simp (disch := omega) only [pe_all, pe_K_wI, pe_K_wR, pm_KM hF, pm_Kh, pm_wI0]; done)
    | (simp (disch := omega) only [pe_all, pe_K_wI, pe_K_wR, pm_KM hF, pm_Kh, pm_wI0]; (repeat' apply And.intro) <;> first | assumption | omega | decide)
  · try simp (disch := omega) only [pe_K_wI, pe_K_wR, pm_KM hF, pm_Kh, pm_wI0]
    have hrc : pe_K (pm_h M σ q (pm_u y 0 37 0)) M = 9 := by first | assumption | (simp (disch := omega) only [pe_K_wI, pe_K_wR, pm_KM hF, pm_Kh, pm_wI0]; done) | (simp (disch := omega) only [pe_K_wI, pe_K_wR, pm_KM hF, pm_Kh, pm_wI0]; assumption)
    exact pe_cal 5 ck243 rfl rfl rfl ⟨hrc, by decide⟩ k
theorem b243_10 {d : Nat} {Φ : Option pe_V → pe_H → Prop} {σ : pe_H} {M q : Nat} {y : Nat → Int → Int} (hF : pm_F M σ) {x1 : Int} {o2 : Option pe_V} {o3 : Option pe_V} {s0 : Int}  (w0 : pe_in s0 := by unfold pe_in; omega)  (k1 : 0 ≤ s0 → pe_X d 243 (19, [some (.inr (.inr M)), some (.inl x1), o2, o3], [], pm_h M σ q y) Φ) (k2 : ¬ (0 ≤ s0) → pe_X d 243 (13, [some (.inr (.inr M)), some (.inl x1), o2, o3], [], pm_h M σ q y) Φ) : pe_X d 243 (10, [some (.inr (.inr M)), some (.inl x1), o2, o3], [.inl s0], pm_h M σ q y) Φ := by
  refine pe_blk 6 1 ck243 [] (cond (decide (0 ≤ (pe_w s0))) 19 13, [some (.inr (.inr M)), some (.inl x1), o2, o3], [], pm_h M σ q y) rfl ?_ ?_
  · exact trivial
  · try simp (disch := omega) only [pe_wi w0]
    exact pe_two k1 k2
theorem b243_13 {d : Nat} {Φ : Option pe_V → pe_H → Prop} {σ : pe_H} {M q : Nat} {y : Nat → Int → Int} (hF : pm_F M σ) {x1 : Int} {o2 : Option pe_V} {o3 : Option pe_V}    (k : pe_M d 233 [.inr (.inr M), .inl x1] (pm_h M σ q y) (fun r σ' => pe_X d 243 (18, [some (.inr (.inr M)), some (.inl x1), o2, o3], r.toList ++ [], σ') Φ)) : pe_X d 243 (13, [some (.inr (.inr M)), some (.inl x1), o2, o3], [], pm_h M σ q y) Φ := by
  refine pe_blk 7 2 ck243 [] (15, [some (.inr (.inr M)), some (.inl x1), o2, o3], [.inl x1, .inr (.inr M)], pm_h M σ q y) rfl ?_ ?_
  · exact trivial
  · try simp (disch := omega) only [pe_K_wI, pe_K_wR, pm_KM hF, pm_Kh]
    have hrc : pe_K (pm_h M σ q y) M = 9 := by first | assumption | (simp (disch := omega) only [pe_K_wI, pe_K_wR, pm_KM hF, pm_Kh]; done) | (simp (disch := omega) only [pe_K_wI, pe_K_wR, pm_KM hF, pm_Kh]; assumption)
    exact pe_cal 9 ck243 rfl rfl rfl ⟨hrc, by decide⟩ k
theorem b243_18 {d : Nat} {Φ : Option pe_V → pe_H → Prop} {σ : pe_H} {M q : Nat} {y : Nat → Int → Int} (hF : pm_F M σ) {o1 : Option pe_V} {o2 : Option pe_V} {o3 : Option pe_V} {s0 : Int}    (k : Φ (some (.inl s0)) (pm_h M σ q y)) : pe_X d 243 (18, [some (.inr (.inr M)), o1, o2, o3], [.inl s0], pm_h M σ q y) Φ := by
  exact pe_fine 10 ck243 rfl rfl rfl trivial k
theorem b243_19 {d : Nat} {Φ : Option pe_V → pe_H → Prop} {σ : pe_H} {M q : Nat} {y : Nat → Int → Int} (hF : pm_F M σ) {x1 : Int} {o2 : Option pe_V} {o3 : Option pe_V}  (w0 : pe_in x1 := by unfold pe_in; omega) (w1 : pe_in (y 28 x1) := by unfold pe_in; omega) (h0 : 0 ≤ x1 := by first | assumption | omega) (h1 : x1 < 8 := by first | assumption | omega) (k1 : (y 28 x1) = 2 → pe_X d 243 (47, [some (.inr (.inr M)), some (.inl x1), some (.inl (y 28 x1)), some (.inl (y 29 x1))], [], pm_h M σ q y) Φ) (k2 : ¬ ((y 28 x1) = 2) → pe_X d 243 (38, [some (.inr (.inr M)), some (.inl x1), some (.inl (y 28 x1)), some (.inl (y 29 x1))], [], pm_h M σ q y) Φ) : pe_X d 243 (19, [some (.inr (.inr M)), some (.inl x1), o2, o3], [], pm_h M σ q y) Φ := by
  refine pe_blk 11 13 ck243 [pe_K (pm_h M σ q y) M = 9, pe_K (pm_h M σ q y) (pe_R (pm_h M σ q y) M 32) = 10, 0 ≤ (pe_w x1), (pe_w x1) < pe_L (pm_h M σ q y) (pe_R (pm_h M σ q y) M 32), pe_K (pm_h M σ q y) M = 9, pe_K (pm_h M σ q y) (pe_R (pm_h M σ q y) M 33) = 10, 0 ≤ (pe_w x1), (pe_w x1) < pe_L (pm_h M σ q y) (pe_R (pm_h M σ q y) M 33)] (cond (decide ((pe_w (pe_I (pm_h M σ q y) (pe_R (pm_h M σ q y) M 32) (pe_w x1))) = (pe_w 2))) 47 38, [some (.inr (.inr M)), some (.inl x1), some (.inl (pe_I (pm_h M σ q y) (pe_R (pm_h M σ q y) M 32) (pe_w x1))), some (.inl (pe_I (pm_h M σ q y) (pe_R (pm_h M σ q y) M 33) (pe_w x1)))], [], pm_h M σ q y) rfl ?_ ?_
  · first
    | (simp (disch := omega) only [pe_all, pe_wi w0, pe_wi w1, pe_wi (x := 2) ⟨by decide, by decide⟩, pe_I_wR, pe_K_wI, pe_K_wR, pe_L_wI, pe_L_wR, pe_R_nej, pe_R_wI, pm_Ik, pm_K28 hF, pm_K29 hF, pm_KM hF, pm_Kh, pm_L28 hF, pm_L29 hF, pm_Lh, pm_R32 hF, pm_R33 hF, pm_Rh, pm_uj, pm_uk, pm_us]; done)
    | (simp (disch := omega) only [pe_all, pe_wi w0, pe_wi w1, pe_wi (x := 2) ⟨by decide, by decide⟩, pe_I_wR, pe_K_wI, pe_K_wR, pe_L_wI, pe_L_wR, pe_R_nej, pe_R_wI, pm_Ik, pm_K28 hF, pm_K29 hF, pm_KM hF, pm_Kh, pm_L28 hF, pm_L29 hF, pm_Lh, pm_R32 hF, pm_R33 hF, pm_Rh, pm_uj, pm_uk, pm_us]; (repeat' apply And.intro) <;> first | assumption | omega | decide)
  · try simp (disch := omega) only [pe_wi w0, pe_wi w1, pe_wi (x := 2) ⟨by decide, by decide⟩, pe_I_wR, pe_K_wI, pe_K_wR, pe_L_wI, pe_L_wR, pe_R_nej, pe_R_wI, pm_Ik, pm_K28 hF, pm_K29 hF, pm_KM hF, pm_Kh, pm_L28 hF, pm_L29 hF, pm_Lh, pm_R32 hF, pm_R33 hF, pm_Rh, pm_uj, pm_uk, pm_us]
    exact pe_two k1 k2
theorem b243_38 {d : Nat} {Φ : Option pe_V → pe_H → Prop} {σ : pe_H} {M q : Nat} {y : Nat → Int → Int} (hF : pm_F M σ) {o1 : Option pe_V} {x2 : Int} {x3 : Int}  (w0 : pe_in x2 := by unfold pe_in; omega)  (k1 : x2 = 4 → pe_X d 243 (47, [some (.inr (.inr M)), o1, some (.inl x2), some (.inl x3)], [], pm_h M σ q y) Φ) (k2 : ¬ (x2 = 4) → pe_X d 243 (43, [some (.inr (.inr M)), o1, some (.inl x2), some (.inl x3)], [], pm_h M σ q y) Φ) : pe_X d 243 (38, [some (.inr (.inr M)), o1, some (.inl x2), some (.inl x3)], [], pm_h M σ q y) Φ := by
  refine pe_blk 24 3 ck243 [] (cond (decide ((pe_w x2) = (pe_w 4))) 47 43, [some (.inr (.inr M)), o1, some (.inl x2), some (.inl x3)], [], pm_h M σ q y) rfl ?_ ?_
  · exact trivial
  · try simp (disch := omega) only [pe_wi w0, pe_wi (x := 4) ⟨by decide, by decide⟩]
    exact pe_two k1 k2
theorem b243_43 {d : Nat} {Φ : Option pe_V → pe_H → Prop} {σ : pe_H} {M q : Nat} {y : Nat → Int → Int} (hF : pm_F M σ) {o1 : Option pe_V} {x2 : Int} {x3 : Int}  (w0 : pe_in x3 := by unfold pe_in; omega)  (k1 : ¬ x3 = 0 → pe_X d 243 (50, [some (.inr (.inr M)), o1, some (.inl x2), some (.inl x3)], [], pm_h M σ q y) Φ) (k2 : x3 = 0 → pe_X d 243 (47, [some (.inr (.inr M)), o1, some (.inl x2), some (.inl x3)], [], pm_h M σ q y) Φ) : pe_X d 243 (43, [some (.inr (.inr M)), o1, some (.inl x2), some (.inl x3)], [], pm_h M σ q y) Φ := by
  refine pe_blk 27 2 ck243 [] (cond (decide (¬ (pe_w x3) = 0)) 50 47, [some (.inr (.inr M)), o1, some (.inl x2), some (.inl x3)], [], pm_h M σ q y) rfl ?_ ?_
  · exact trivial
  · try simp (disch := omega) only [pe_wi w0]
    exact pe_two' k1 k2
theorem b243_47 {d : Nat} {Φ : Option pe_V → pe_H → Prop} {σ : pe_H} {M q : Nat} {y : Nat → Int → Int} (hF : pm_F M σ) {o1 : Option pe_V} {o2 : Option pe_V} {o3 : Option pe_V}    (k : Φ (some (.inl (-15))) (pm_h M σ q y)) : pe_X d 243 (47, [some (.inr (.inr M)), o1, o2, o3], [], pm_h M σ q y) Φ := by
  refine pe_blk 29 1 ck243 [] (49, [some (.inr (.inr M)), o1, o2, o3], [.inl (-15)], pm_h M σ q y) rfl ?_ ?_
  · exact trivial
  · exact pe_fine 30 ck243 rfl rfl rfl trivial k
theorem b243_50 {d : Nat} {Φ : Option pe_V → pe_H → Prop} {σ : pe_H} {M q : Nat} {y : Nat → Int → Int} (hF : pm_F M σ) {o1 : Option pe_V} {x2 : Int} {x3 : Int}  (w0 : pe_in x2 := by unfold pe_in; omega)  (k1 : ¬ x2 = 0 → pe_X d 243 (58, [some (.inr (.inr M)), o1, some (.inl x2), some (.inl x3)], [], pm_h M σ q y) Φ) (k2 : x2 = 0 → pe_X d 243 (54, [some (.inr (.inr M)), o1, some (.inl x2), some (.inl x3)], [], pm_h M σ q y) Φ) : pe_X d 243 (50, [some (.inr (.inr M)), o1, some (.inl x2), some (.inl x3)], [], pm_h M σ q y) Φ := by
  refine pe_blk 31 2 ck243 [] (cond (decide (¬ (pe_w x2) = 0)) 58 54, [some (.inr (.inr M)), o1, some (.inl x2), some (.inl x3)], [], pm_h M σ q y) rfl ?_ ?_
  · exact trivial
  · try simp (disch := omega) only [pe_wi w0]
    exact pe_two' k1 k2
theorem b243_54 {d : Nat} {Φ : Option pe_V → pe_H → Prop} {σ : pe_H} {M q : Nat} {y : Nat → Int → Int} (hF : pm_F M σ) {o1 : Option pe_V} {o2 : Option pe_V} {x3 : Int}    (k : pe_X d 243 (79, [some (.inr (.inr M)), o1, o2, some (.inl x3)], [.inl x3], pm_h M σ q y) Φ) : pe_X d 243 (54, [some (.inr (.inr M)), o1, o2, some (.inl x3)], [], pm_h M σ q y) Φ := by
  refine pe_blk 33 2 ck243 [] (79, [some (.inr (.inr M)), o1, o2, some (.inl x3)], [.inl x3], pm_h M σ q y) rfl ?_ ?_
  · exact trivial
  · exact k
theorem b243_58 {d : Nat} {Φ : Option pe_V → pe_H → Prop} {σ : pe_H} {M q : Nat} {y : Nat → Int → Int} (hF : pm_F M σ) {o1 : Option pe_V} {x2 : Int} {x3 : Int}  (w0 : pe_in x2 := by unfold pe_in; omega)  (k1 : ¬ x2 = 5 → pe_X d 243 (75, [some (.inr (.inr M)), o1, some (.inl x2), some (.inl x3)], [], pm_h M σ q y) Φ) (k2 : x2 = 5 → pe_X d 243 (63, [some (.inr (.inr M)), o1, some (.inl x2), some (.inl x3)], [], pm_h M σ q y) Φ) : pe_X d 243 (58, [some (.inr (.inr M)), o1, some (.inl x2), some (.inl x3)], [], pm_h M σ q y) Φ := by
  refine pe_blk 35 3 ck243 [] (cond (decide (¬ (pe_w x2) = (pe_w 5))) 75 63, [some (.inr (.inr M)), o1, some (.inl x2), some (.inl x3)], [], pm_h M σ q y) rfl ?_ ?_
  · exact trivial
  · try simp (disch := omega) only [pe_wi w0, pe_wi (x := 5) ⟨by decide, by decide⟩]
    exact pe_two' k1 k2
theorem b243_63 {d : Nat} {Φ : Option pe_V → pe_H → Prop} {σ : pe_H} {M q : Nat} {y : Nat → Int → Int} (hF : pm_F M σ) {o1 : Option pe_V} {x2 : Int} {x3 : Int}    (k : pe_M d 241 [.inl x2, .inl x3] (pm_h M σ q y) (fun r σ' => pe_X d 243 (71, [some (.inr (.inr M)), o1, some (.inl x2), some (.inl x3)], r.toList ++ [.inl 200], σ') Φ)) : pe_X d 243 (63, [some (.inr (.inr M)), o1, some (.inl x2), some (.inl x3)], [], pm_h M σ q y) Φ := by
  refine pe_blk 38 3 ck243 [] (68, [some (.inr (.inr M)), o1, some (.inl x2), some (.inl x3)], [.inl x3, .inl x2, .inl 200], pm_h M σ q y) rfl ?_ ?_
  · exact trivial
  · exact pe_cal 41 ck243 rfl rfl rfl trivial k
theorem b243_71 {d : Nat} {Φ : Option pe_V → pe_H → Prop} {σ : pe_H} {M q : Nat} {y : Nat → Int → Int} (hF : pm_F M σ) {o1 : Option pe_V} {o2 : Option pe_V} {o3 : Option pe_V} {s0 : Int} {s1 : Int}    (k : pe_X d 243 (79, [some (.inr (.inr M)), o1, o2, o3], [.inl (s0 + s1)], pm_h M σ q y) Φ) : pe_X d 243 (71, [some (.inr (.inr M)), o1, o2, o3], [.inl s1, .inl s0], pm_h M σ q y) Φ := by
  refine pe_blk 42 2 ck243 [] (79, [some (.inr (.inr M)), o1, o2, o3], [.inl (s0 + s1)], pm_h M σ q y) rfl ?_ ?_
  · exact trivial
  · exact k
theorem b243_75 {d : Nat} {Φ : Option pe_V → pe_H → Prop} {σ : pe_H} {M q : Nat} {y : Nat → Int → Int} (hF : pm_F M σ) {o1 : Option pe_V} {o2 : Option pe_V} {x3 : Int}    (k : pe_X d 243 (79, [some (.inr (.inr M)), o1, o2, some (.inl x3)], [.inl (100 + x3)], pm_h M σ q y) Φ) : pe_X d 243 (75, [some (.inr (.inr M)), o1, o2, some (.inl x3)], [], pm_h M σ q y) Φ := by
  refine pe_blk 44 3 ck243 [] (79, [some (.inr (.inr M)), o1, o2, some (.inl x3)], [.inl (100 + x3)], pm_h M σ q y) rfl ?_ ?_
  · exact trivial
  · exact k
theorem b243_79 {d : Nat} {Φ : Option pe_V → pe_H → Prop} {σ : pe_H} {M q : Nat} {y : Nat → Int → Int} (hF : pm_F M σ) {o1 : Option pe_V} {o2 : Option pe_V} {o3 : Option pe_V} {s0 : Int}    (k : Φ (some (.inl s0)) (pm_h M σ q y)) : pe_X d 243 (79, [some (.inr (.inr M)), o1, o2, o3], [.inl s0], pm_h M σ q y) Φ := by
  exact pe_fine 47 ck243 rfl rfl rfl trivial k
