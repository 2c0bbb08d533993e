/-! THE MODEL, blocks 2: by program -/
-- StepMachinesModel.oneComes(III)Z
def T171 : List (Nat × Instr × Nat) := [(0, .iload_n 1, 1), (1, .i2l, 1), (2, .lconst 0, 1), (3, .ldc2_w 263, 3), (6, .invokestatic 147, 3), (9, .ifCond .eq 28, 3), (12, .iload_n 2, 1), (13, .i2l, 1), (14, .lconst 0, 1), (15, .ldc2_w 265, 3), (18, .invokestatic 147, 3), (21, .ifCond .eq 16, 3), (24, .aload_n 0, 1), (25, .getfield 144, 3), (28, .bipush 8, 2), (30, .if_icmp .ge 7, 3), (33, .iconst 1, 1), (34, .goto 4, 3), (37, .iconst 0, 1), (38, .istore 4, 2), (40, .iload 4, 2), (42, .ifCond .eq 116, 3), (45, .aload_n 0, 1), (46, .getfield 144, 3), (49, .istore 5, 2), (51, .aload_n 0, 1), (52, .dup, 1), (53, .getfield 144, 3), (56, .iconst 1, 1), (57, .iadd, 1), (58, .putfield 144, 3), (61, .aload_n 0, 1), (62, .getfield 19, 3), (65, .iload 5, 2), (67, .iload_n 1, 1), (68, .iastore, 1), (69, .aload_n 0, 1), (70, .getfield 22, 3), (73, .iload 5, 2), (75, .iload_n 2, 1), (76, .iastore, 1), (77, .aload_n 0, 1), (78, .getfield 25, 3), (81, .iload 5, 2), (83, .iload_n 3, 1), (84, .iastore, 1), (85, .aload_n 0, 1), (86, .getfield 28, 3), (89, .iload 5, 2), (91, .iconst 0, 1), (92, .iastore, 1), (93, .aload_n 0, 1), (94, .getfield 31, 3), (97, .iload 5, 2), (99, .iconst 0, 1), (100, .iastore, 1), (101, .aload_n 0, 1), (102, .getfield 34, 3), (105, .iload 5, 2), (107, .bipush (-4), 2), (109, .iastore, 1), (110, .aload_n 0, 1), (111, .getfield 37, 3), (114, .iload 5, 2), (116, .iconst 0, 1), (117, .iastore, 1), (118, .aload_n 0, 1), (119, .getfield 40, 3), (122, .iload 5, 2), (124, .iconst 0, 1), (125, .iastore, 1), (126, .aload_n 0, 1), (127, .getfield 43, 3), (130, .iload 5, 2), (132, .bipush (-4), 2), (134, .iastore, 1), (135, .aload_n 0, 1), (136, .getfield 46, 3), (139, .iload 5, 2), (141, .iconst (-1), 1), (142, .iastore, 1), (143, .aload_n 0, 1), (144, .getfield 49, 3), (147, .iload 5, 2), (149, .iconst 0, 1), (150, .iastore, 1), (151, .aload_n 0, 1), (152, .iload 5, 2), (154, .iload_n 1, 1), (155, .invokevirtual 193, 3), (158, .iload 4, 2), (160, .ireturn, 1)]
theorem ck171 : pe_ctx 171 9 false (some .boolean) 6 T171 := ⟨rfl, rfl, rfl, rfl, by decide +kernel, by decide, by decide⟩
theorem b171_0 {d : Nat} {Φ : Option pe_V → pe_H → Prop} {σ : pe_H} {M q : Nat} {y : Nat → Int → Int} (hF : pm_F M σ) {x1 : Int} {x2 : Int} {x3 : Int} {o4 : Option pe_V} {o5 : Option pe_V}  (w0 : pe_in x1 := by unfold pe_in; omega)  (k : pe_M d 134 [.inr (.inl x1), .inr (.inl 0), .inr (.inl 4)] (pm_h M σ q y) (fun r σ' => pe_X d 171 (9, [some (.inr (.inr M)), some (.inl x1), some (.inl x2), some (.inl x3), o4, o5], r.toList ++ [], σ') Φ)) : pe_X d 171 (0, [some (.inr (.inr M)), some (.inl x1), some (.inl x2), some (.inl x3), o4, o5], [], pm_h M σ q y) Φ := by
  refine pe_blk 0 4 ck171 [] (6, [some (.inr (.inr M)), some (.inl x1), some (.inl x2), some (.inl x3), o4, o5], [.inr (.inl 4), .inr (.inl 0), .inr (.inl (pe_w x1))], pm_h M σ q y) rfl ?_ ?_
  · exact trivial
  · try simp (disch := omega) only [pe_wi w0]
    exact pe_cal 4 ck171 rfl rfl rfl trivial k
theorem b171_9 {d : Nat} {Φ : Option pe_V → pe_H → Prop} {σ : pe_H} {M q : Nat} {y : Nat → Int → Int} (hF : pm_F M σ) {x1 : Int} {x2 : Int} {x3 : Int} {o4 : Option pe_V} {o5 : Option pe_V} {s0 : Int}  (w0 : pe_in s0 := by unfold pe_in; omega)  (k1 : s0 = 0 → pe_X d 171 (37, [some (.inr (.inr M)), some (.inl x1), some (.inl x2), some (.inl x3), o4, o5], [], pm_h M σ q y) Φ) (k2 : ¬ (s0 = 0) → pe_X d 171 (12, [some (.inr (.inr M)), some (.inl x1), some (.inl x2), some (.inl x3), o4, o5], [], pm_h M σ q y) Φ) : pe_X d 171 (9, [some (.inr (.inr M)), some (.inl x1), some (.inl x2), some (.inl x3), o4, o5], [.inl s0], pm_h M σ q y) Φ := by
  refine pe_blk 5 1 ck171 [] (cond (decide ((pe_w s0) = 0)) 37 12, [some (.inr (.inr M)), some (.inl x1), some (.inl x2), some (.inl x3), o4, o5], [], pm_h M σ q y) rfl ?_ ?_
  · exact trivial
  · try simp (disch := omega) only [pe_wi w0]
    exact pe_two k1 k2
theorem b171_12 {d : Nat} {Φ : Option pe_V → pe_H → Prop} {σ : pe_H} {M q : Nat} {y : Nat → Int → Int} (hF : pm_F M σ) {x1 : Int} {x2 : Int} {x3 : Int} {o4 : Option pe_V} {o5 : Option pe_V}  (w0 : pe_in x2 := by unfold pe_in; omega)  (k : pe_M d 134 [.inr (.inl x2), .inr (.inl 0), .inr (.inl 5)] (pm_h M σ q y) (fun r σ' => pe_X d 171 (21, [some (.inr (.inr M)), some (.inl x1), some (.inl x2), some (.inl x3), o4, o5], r.toList ++ [], σ') Φ)) : pe_X d 171 (12, [some (.inr (.inr M)), some (.inl x1), some (.inl x2), some (.inl x3), o4, o5], [], pm_h M σ q y) Φ := by
  refine pe_blk 6 4 ck171 [] (18, [some (.inr (.inr M)), some (.inl x1), some (.inl x2), some (.inl x3), o4, o5], [.inr (.inl 5), .inr (.inl 0), .inr (.inl (pe_w x2))], pm_h M σ q y) rfl ?_ ?_
  · exact trivial
  · try simp (disch := omega) only [pe_wi w0]
    exact pe_cal 10 ck171 rfl rfl rfl trivial k
theorem b171_21 {d : Nat} {Φ : Option pe_V → pe_H → Prop} {σ : pe_H} {M q : Nat} {y : Nat → Int → Int} (hF : pm_F M σ) {x1 : Int} {x2 : Int} {x3 : Int} {o4 : Option pe_V} {o5 : Option pe_V} {s0 : Int}  (w0 : pe_in s0 := by unfold pe_in; omega)  (k1 : s0 = 0 → pe_X d 171 (37, [some (.inr (.inr M)), some (.inl x1), some (.inl x2), some (.inl x3), o4, o5], [], pm_h M σ q y) Φ) (k2 : ¬ (s0 = 0) → pe_X d 171 (24, [some (.inr (.inr M)), some (.inl x1), some (.inl x2), some (.inl x3), o4, o5], [], pm_h M σ q y) Φ) : pe_X d 171 (21, [some (.inr (.inr M)), some (.inl x1), some (.inl x2), some (.inl x3), o4, o5], [.inl s0], pm_h M σ q y) Φ := by
  refine pe_blk 11 1 ck171 [] (cond (decide ((pe_w s0) = 0)) 37 24, [some (.inr (.inr M)), some (.inl x1), some (.inl x2), some (.inl x3), o4, o5], [], pm_h M σ q y) rfl ?_ ?_
  · exact trivial
  · try simp (disch := omega) only [pe_wi w0]
    exact pe_two k1 k2
theorem b171_24 {d : Nat} {Φ : Option pe_V → pe_H → Prop} {σ : pe_H} {M q : Nat} {y : Nat → Int → Int} (hF : pm_F M σ) {x1 : Int} {x2 : Int} {x3 : Int} {o4 : Option pe_V} {o5 : Option pe_V}  (w0 : pe_in (y 0 3) := by unfold pe_in; omega)  (k1 : 8 ≤ (y 0 3) → pe_X d 171 (37, [some (.inr (.inr M)), some (.inl x1), some (.inl x2), some (.inl x3), o4, o5], [], pm_h M σ q y) Φ) (k2 : ¬ (8 ≤ (y 0 3)) → pe_X d 171 (33, [some (.inr (.inr M)), some (.inl x1), some (.inl x2), some (.inl x3), o4, o5], [], pm_h M σ q y) Φ) : pe_X d 171 (24, [some (.inr (.inr M)), some (.inl x1), some (.inl x2), some (.inl x3), o4, o5], [], pm_h M σ q y) Φ := by
  refine pe_blk 12 4 ck171 [pe_K (pm_h M σ q y) M = 9] (cond (decide ((pe_w 8) ≤ (pe_w (pe_I (pm_h M σ q y) M 3)))) 37 33, [some (.inr (.inr M)), some (.inl x1), some (.inl x2), some (.inl x3), o4, o5], [], pm_h M σ q y) rfl ?_ ?_
  · first
    | (simp (disch := omega) only [pe_all, pe_wi w0, pe_wi (x := 8) ⟨by decide, by decide⟩, pe_I_wR, pe_K_wI, pe_K_wR, pm_I0, pm_KM hF, pm_Kh, pm_uj, pm_uk, pm_us]; done)
    | (simp (disch := omega) only [pe_all, pe_wi w0, pe_wi (x := 8) ⟨by decide, by decide⟩, pe_I_wR, pe_K_wI, pe_K_wR, pm_I0, pm_KM hF, pm_Kh, pm_uj, pm_uk, pm_us]; (repeat' apply And.intro) <;> first | assumption | omega | decide)
  · try simp (disch := omega) only [pe_wi w0, pe_wi (x := 8) ⟨by decide, by decide⟩, pe_I_wR, pe_K_wI, pe_K_wR, pm_I0, pm_KM hF, pm_Kh, pm_uj, pm_uk, pm_us]
    exact pe_two k1 k2
theorem b171_33 {d : Nat} {Φ : Option pe_V → pe_H → Prop} {σ : pe_H} {M q : Nat} {y : Nat → Int → Int} (hF : pm_F M σ) {x1 : Int} {x2 : Int} {x3 : Int} {o4 : Option pe_V} {o5 : Option pe_V}    (k : pe_X d 171 (38, [some (.inr (.inr M)), some (.inl x1), some (.inl x2), some (.inl x3), o4, o5], [.inl 1], pm_h M σ q y) Φ) : pe_X d 171 (33, [some (.inr (.inr M)), some (.inl x1), some (.inl x2), some (.inl x3), o4, o5], [], pm_h M σ q y) Φ := by
  refine pe_blk 16 2 ck171 [] (38, [some (.inr (.inr M)), some (.inl x1), some (.inl x2), some (.inl x3), o4, o5], [.inl 1], pm_h M σ q y) rfl ?_ ?_
  · exact trivial
  · exact k
theorem b171_37 {d : Nat} {Φ : Option pe_V → pe_H → Prop} {σ : pe_H} {M q : Nat} {y : Nat → Int → Int} (hF : pm_F M σ) {x1 : Int} {x2 : Int} {x3 : Int} {o4 : Option pe_V} {o5 : Option pe_V}    (k : pe_X d 171 (38, [some (.inr (.inr M)), some (.inl x1), some (.inl x2), some (.inl x3), o4, o5], [.inl 0], pm_h M σ q y) Φ) : pe_X d 171 (37, [some (.inr (.inr M)), some (.inl x1), some (.inl x2), some (.inl x3), o4, o5], [], pm_h M σ q y) Φ := by
  refine pe_blk 18 1 ck171 [] (38, [some (.inr (.inr M)), some (.inl x1), some (.inl x2), some (.inl x3), o4, o5], [.inl 0], pm_h M σ q y) rfl ?_ ?_
  · exact trivial
  · exact k
theorem b171_38 {d : Nat} {Φ : Option pe_V → pe_H → Prop} {σ : pe_H} {M q : Nat} {y : Nat → Int → Int} (hF : pm_F M σ) {x1 : Int} {x2 : Int} {x3 : Int} {o4 : Option pe_V} {o5 : Option pe_V} {s0 : Int}  (w0 : pe_in s0 := by unfold pe_in; omega)  (k1 : s0 = 0 → pe_X d 171 (158, [some (.inr (.inr M)), some (.inl x1), some (.inl x2), some (.inl x3), some (.inl s0), o5], [], pm_h M σ q y) Φ) (k2 : ¬ (s0 = 0) → pe_X d 171 (45, [some (.inr (.inr M)), some (.inl x1), some (.inl x2), some (.inl x3), some (.inl s0), o5], [], pm_h M σ q y) Φ) : pe_X d 171 (38, [some (.inr (.inr M)), some (.inl x1), some (.inl x2), some (.inl x3), o4, o5], [.inl s0], pm_h M σ q y) Φ := by
  refine pe_blk 19 3 ck171 [] (cond (decide ((pe_w s0) = 0)) 158 45, [some (.inr (.inr M)), some (.inl x1), some (.inl x2), some (.inl x3), some (.inl s0), o5], [], pm_h M σ q y) rfl ?_ ?_
  · exact trivial
  · try simp (disch := omega) only [pe_wi w0]
    exact pe_two k1 k2
set_option maxHeartbeats 8000000 in
theorem b171_45 {d : Nat} {Φ : Option pe_V → pe_H → Prop} {σ : pe_H} {M q : Nat} {y : Nat → Int → Int} (hF : pm_F M σ) {x1 : Int} {x2 : Int} {x3 : Int} {x4 : Int} {o5 : Option pe_V}  (w0 : pe_in (y 0 3) := by unfold pe_in; omega) (h0 : 0 ≤ (y 0 3) := by first | assumption | omega) (h1 : (y 0 3) < 8 := by first | assumption | omega) (k : pe_X d 171 (85, [some (.inr (.inr M)), some (.inl x1), some (.inl x2), some (.inl x3), some (.inl x4), some (.inl (y 0 3))], [], pm_h M σ q (pm_u (pm_u (pm_u (pm_u y 0 3 ((y 0 3) + 1)) 4 (y 0 3) x1) 5 (y 0 3) x2) 6 (y 0 3) x3)) Φ) : pe_X d 171 (45, [some (.inr (.inr M)), some (.inl x1), some (.inl x2), some (.inl x3), some (.inl x4), o5], [], pm_h M σ q y) Φ := by
  have hM2 := pm_2 hF
  refine pe_blk 22 24 ck171 [pe_K (pm_h M σ q y) M = 9, pe_K (pm_h M σ q y) M = 9, pe_K (pm_h M σ q y) M = 9, pe_K (pe_wI (pm_h M σ q y) M 3 ((pe_I (pm_h M σ q y) M 3) + 1)) M = 9, pe_K (pe_wI (pm_h M σ q y) M 3 ((pe_I (pm_h M σ q y) M 3) + 1)) (pe_R (pe_wI (pm_h M σ q y) M 3 ((pe_I (pm_h M σ q y) M 3) + 1)) M 4) = 10, 0 ≤ (pe_w (pe_I (pm_h M σ q y) M 3)), (pe_w (pe_I (pm_h M σ q y) M 3)) < pe_L (pe_wI (pm_h M σ q y) M 3 ((pe_I (pm_h M σ q y) M 3) + 1)) (pe_R (pe_wI (pm_h M σ q y) M 3 ((pe_I (pm_h M σ q y) M 3) + 1)) M 4), 2 ≤ (pe_R (pe_wI (pm_h M σ q y) M 3 ((pe_I (pm_h M σ q y) M 3) + 1)) M 4), pe_K (pe_wI (pe_wI (pm_h M σ q y) M 3 ((pe_I (pm_h M σ q y) M 3) + 1)) (pe_R (pe_wI (pm_h M σ q y) M 3 ((pe_I (pm_h M σ q y) M 3) + 1)) M 4) (pe_w (pe_I (pm_h M σ q y) M 3)) x1) M = 9, pe_K (pe_wI (pe_wI (pm_h M σ q y) M 3 ((pe_I (pm_h M σ q y) M 3) + 1)) (pe_R (pe_wI (pm_h M σ q y) M 3 ((pe_I (pm_h M σ q y) M 3) + 1)) M 4) (pe_w (pe_I (pm_h M σ q y) M 3)) x1) (pe_R (pe_wI (pe_wI (pm_h M σ q y) M 3 ((pe_I (pm_h M σ q y) M 3) + 1)) (pe_R (pe_wI (pm_h M σ q y) M 3 ((pe_I (pm_h M σ q y) M 3) + 1)) M 4) (pe_w (pe_I (pm_h M σ q y) M 3)) x1) M 5) = 10, 0 ≤ (pe_w (pe_I (pm_h M σ q y) M 3)), (pe_w (pe_I (pm_h M σ q y) M 3)) < pe_L (pe_wI (pe_wI (pm_h M σ q y) M 3 ((pe_I (pm_h M σ q y) M 3) + 1)) (pe_R (pe_wI (pm_h M σ q y) M 3 ((pe_I (pm_h M σ q y) M 3) + 1)) M 4) (pe_w (pe_I (pm_h M σ q y) M 3)) x1) (pe_R (pe_wI (pe_wI (pm_h M σ q y) M 3 ((pe_I (pm_h M σ q y) M 3) + 1)) (pe_R (pe_wI (pm_h M σ q y) M 3 ((pe_I (pm_h M σ q y) M 3) + 1)) M 4) (pe_w (pe_I (pm_h M σ q y) M 3)) x1) M 5), 2 ≤ (pe_R (pe_wI (pe_wI (pm_h M σ q y) M 3 ((pe_I (pm_h M σ q y) M 3) + 1)) (pe_R (pe_wI (pm_h M σ q y) M 3 ((pe_I (pm_h M σ q y) M 3) + 1)) M 4) (pe_w (pe_I (pm_h M σ q y) M 3)) x1) M 5), pe_K (pe_wI (pe_wI (pe_wI (pm_h M σ q y) M 3 ((pe_I (pm_h M σ q y) M 3) + 1)) (pe_R (pe_wI (pm_h M σ q y) M 3 ((pe_I (pm_h M σ q y) M 3) + 1)) M 4) (pe_w (pe_I (pm_h M σ q y) M 3)) x1) (pe_R (pe_wI (pe_wI (pm_h M σ q y) M 3 ((pe_I (pm_h M σ q y) M 3) + 1)) (pe_R (pe_wI (pm_h M σ q y) M 3 ((pe_I (pm_h M σ q y) M 3) + 1)) M 4) (pe_w (pe_I (pm_h M σ q y) M 3)) x1) M 5) (pe_w (pe_I (pm_h M σ q y) M 3)) x2) M = 9, pe_K (pe_wI (pe_wI (pe_wI (pm_h M σ q y) M 3 ((pe_I (pm_h M σ q y) M 3) + 1)) (pe_R (pe_wI (pm_h M σ q y) M 3 ((pe_I (pm_h M σ q y) M 3) + 1)) M 4) (pe_w (pe_I (pm_h M σ q y) M 3)) x1) (pe_R (pe_wI (pe_wI (pm_h M σ q y) M 3 ((pe_I (pm_h M σ q y) M 3) + 1)) (pe_R (pe_wI (pm_h M σ q y) M 3 ((pe_I (pm_h M σ q y) M 3) + 1)) M 4) (pe_w (pe_I (pm_h M σ q y) M 3)) x1) M 5) (pe_w (pe_I (pm_h M σ q y) M 3)) x2) (pe_R (pe_wI (pe_wI (pe_wI (pm_h M σ q y) M 3 ((pe_I (pm_h M σ q y) M 3) + 1)) (pe_R (pe_wI (pm_h M σ q y) M 3 ((pe_I (pm_h M σ q y) M 3) + 1)) M 4) (pe_w (pe_I (pm_h M σ q y) M 3)) x1) (pe_R (pe_wI (pe_wI (pm_h M σ q y) M 3 ((pe_I (pm_h M σ q y) M 3) + 1)) (pe_R (pe_wI (pm_h M σ q y) M 3 ((pe_I (pm_h M σ q y) M 3) + 1)) M 4) (pe_w (pe_I (pm_h M σ q y) M 3)) x1) M 5) (pe_w (pe_I (pm_h M σ q y) M 3)) x2) M 6) = 10, 0 ≤ (pe_w (pe_I (pm_h M σ q y) M 3)), (pe_w (pe_I (pm_h M σ q y) M 3)) < pe_L (pe_wI (pe_wI (pe_wI (pm_h M σ q y) M 3 ((pe_I (pm_h M σ q y) M 3) + 1)) (pe_R (pe_wI (pm_h M σ q y) M 3 ((pe_I (pm_h M σ q y) M 3) + 1)) M 4) (pe_w (pe_I (pm_h M σ q y) M 3)) x1) (pe_R (pe_wI (pe_wI (pm_h M σ q y) M 3 ((pe_I (pm_h M σ q y) M 3) + 1)) (pe_R (pe_wI (pm_h M σ q y) M 3 ((pe_I (pm_h M σ q y) M 3) + 1)) M 4) (pe_w (pe_I (pm_h M σ q y) M 3)) x1) M 5) (pe_w (pe_I (pm_h M σ q y) M 3)) x2) (pe_R (pe_wI (pe_wI (pe_wI (pm_h M σ q y) M 3 ((pe_I (pm_h M σ q y) M 3) + 1)) (pe_R (pe_wI (pm_h M σ q y) M 3 ((pe_I (pm_h M σ q y) M 3) + 1)) M 4) (pe_w (pe_I (pm_h M σ q y) M 3)) x1) (pe_R (pe_wI (pe_wI (pm_h M σ q y) M 3 ((pe_I (pm_h M σ q y) M 3) + 1)) (pe_R (pe_wI (pm_h M σ q y) M 3 ((pe_I (pm_h M σ q y) M 3) + 1)) M 4) (pe_w (pe_I (pm_h M σ q y) M 3)) x1) M 5) (pe_w (pe_I (pm_h M σ q y) M 3)) x2) M 6), 2 ≤ (pe_R (pe_wI (pe_wI (pe_wI (pm_h M σ q y) M 3 ((pe_I (pm_h M σ q y) M 3) + 1)) (pe_R (pe_wI (pm_h M σ q y) M 3 ((pe_I (pm_h M σ q y) M 3) + 1)) M 4) (pe_w (pe_I (pm_h M σ q y) M 3)) x1) (pe_R (pe_wI (pe_wI (pm_h M σ q y) M 3 ((pe_I (pm_h M σ q y) M 3) + 1)) (pe_R (pe_wI (pm_h M σ q y) M 3 ((pe_I (pm_h M σ q y) M 3) + 1)) M 4) (pe_w (pe_I (pm_h M σ q y) M 3)) x1) M 5) (pe_w (pe_I (pm_h M σ q y) M 3)) x2) M 6)] (85, [some (.inr (.inr M)), some (.inl x1), some (.inl x2), some (.inl x3), some (.inl x4), some (.inl (pe_I (pm_h M σ q y) M 3))], [], pe_wI (pe_wI (pe_wI (pe_wI (pm_h M σ q y) M 3 ((pe_I (pm_h M σ q y) M 3) + 1)) (pe_R (pe_wI (pm_h M σ q y) M 3 ((pe_I (pm_h M σ q y) M 3) + 1)) M 4) (pe_w (pe_I (pm_h M σ q y) M 3)) x1) (pe_R (pe_wI (pe_wI (pm_h M σ q y) M 3 ((pe_I (pm_h M σ q y) M 3) + 1)) (pe_R (pe_wI (pm_h M σ q y) M 3 ((pe_I (pm_h M σ q y) M 3) + 1)) M 4) (pe_w (pe_I (pm_h M σ q y) M 3)) x1) M 5) (pe_w (pe_I (pm_h M σ q y) M 3)) x2) (pe_R (pe_wI (pe_wI (pe_wI (pm_h M σ q y) M 3 ((pe_I (pm_h M σ q y) M 3) + 1)) (pe_R (pe_wI (pm_h M σ q y) M 3 ((pe_I (pm_h M σ q y) M 3) + 1)) M 4) (pe_w (pe_I (pm_h M σ q y) M 3)) x1) (pe_R (pe_wI (pe_wI (pm_h M σ q y) M 3 ((pe_I (pm_h M σ q y) M 3) + 1)) (pe_R (pe_wI (pm_h M σ q y) M 3 ((pe_I (pm_h M σ q y) M 3) + 1)) M 4) (pe_w (pe_I (pm_h M σ q y) M 3)) x1) M 5) (pe_w (pe_I (pm_h M σ q y) M 3)) x2) M 6) (pe_w (pe_I (pm_h M σ q y) M 3)) x3) rfl ?_ ?_
  · first
    | (simp (disch := omega) only [pe_all, pe_wi w0, pe_I_wR, pe_K_wI, pe_K_wR, pe_L_wI, pe_L_wR, pe_R_nej, pe_R_wI, pm_I0, pm_K4 hF, pm_K5 hF, pm_K6 hF, pm_KM hF, pm_Kh, pm_L4 hF, pm_L5 hF, pm_L6 hF, pm_Lh, pm_R4 hF, pm_R5 hF, pm_R6 hF, pm_Rh, pm_uj, pm_uk, pm_us, pm_wI0, pm_wIk]; done)
    | (simp (disch := omega) only [pe_all, pe_wi w0, pe_I_wR, pe_K_wI, pe_K_wR, pe_L_wI, pe_L_wR, pe_R_nej, pe_R_wI, pm_I0, pm_K4 hF, pm_K5 hF, pm_K6 hF, pm_KM hF, pm_Kh, pm_L4 hF, pm_L5 hF, pm_L6 hF, pm_Lh, pm_R4 hF, pm_R5 hF, pm_R6 hF, pm_Rh, pm_uj, pm_uk, pm_us, pm_wI0, pm_wIk]; (repeat' apply And.intro) <;> first | assumption | omega | decide)
  · try simp (disch := omega) only [pe_wi w0, pe_I_wR, pe_K_wI, pe_K_wR, pe_L_wI, pe_L_wR, pe_R_nej, pe_R_wI, pm_I0, pm_K4 hF, pm_K5 hF, pm_K6 hF, pm_KM hF, pm_Kh, pm_L4 hF, pm_L5 hF, pm_L6 hF, pm_Lh, pm_R4 hF, pm_R5 hF, pm_R6 hF, pm_Rh, pm_uj, pm_uk, pm_us, pm_wI0, pm_wIk]
    exact k
set_option maxRecDepth 8000 in
set_option maxHeartbeats 8000000 in
theorem b171_85 {d : Nat} {Φ : Option pe_V → pe_H → Prop} {σ : pe_H} {M q : Nat} {y : Nat → Int → Int} (hF : pm_F M σ) {x1 : Int} {o2 : Option pe_V} {o3 : Option pe_V} {x4 : Int} {x5 : Int}  (w0 : pe_in x5 := by unfold pe_in; omega) (h0 : 0 ≤ x5 := by first | assumption | omega) (h1 : x5 < 8 := by first | assumption | omega) (k : pe_X d 171 (126, [some (.inr (.inr M)), some (.inl x1), o2, o3, some (.inl x4), some (.inl x5)], [], pm_h M σ q (pm_u (pm_u (pm_u (pm_u (pm_u y 7 x5 0) 8 x5 0) 9 x5 (-4)) 10 x5 0) 11 x5 0)) Φ) : pe_X d 171 (85, [some (.inr (.inr M)), some (.inl x1), o2, o3, some (.inl x4), some (.inl x5)], [], pm_h M σ q y) Φ := by
  have hM2 := pm_2 hF
  refine pe_blk 46 25 ck171 [pe_K (pm_h M σ q y) M = 9, pe_K (pm_h M σ q y) (pe_R (pm_h M σ q y) M 7) = 10, 0 ≤ (pe_w x5), (pe_w x5) < pe_L (pm_h M σ q y) (pe_R (pm_h M σ q y) M 7), 2 ≤ (pe_R (pm_h M σ q y) M 7), pe_K (pe_wI (pm_h M σ q y) (pe_R (pm_h M σ q y) M 7) (pe_w x5) 0) M = 9, pe_K (pe_wI (pm_h M σ q y) (pe_R (pm_h M σ q y) M 7) (pe_w x5) 0) (pe_R (pe_wI (pm_h M σ q y) (pe_R (pm_h M σ q y) M 7) (pe_w x5) 0) M 8) = 10, 0 ≤ (pe_w x5), (pe_w x5) < pe_L (pe_wI (pm_h M σ q y) (pe_R (pm_h M σ q y) M 7) (pe_w x5) 0) (pe_R (pe_wI (pm_h M σ q y) (pe_R (pm_h M σ q y) M 7) (pe_w x5) 0) M 8), 2 ≤ (pe_R (pe_wI (pm_h M σ q y) (pe_R (pm_h M σ q y) M 7) (pe_w x5) 0) M 8), pe_K (pe_wI (pe_wI (pm_h M σ q y) (pe_R (pm_h M σ q y) M 7) (pe_w x5) 0) (pe_R (pe_wI (pm_h M σ q y) (pe_R (pm_h M σ q y) M 7) (pe_w x5) 0) M 8) (pe_w x5) 0) M = 9, pe_K (pe_wI (pe_wI (pm_h M σ q y) (pe_R (pm_h M σ q y) M 7) (pe_w x5) 0) (pe_R (pe_wI (pm_h M σ q y) (pe_R (pm_h M σ q y) M 7) (pe_w x5) 0) M 8) (pe_w x5) 0) (pe_R (pe_wI (pe_wI (pm_h M σ q y) (pe_R (pm_h M σ q y) M 7) (pe_w x5) 0) (pe_R (pe_wI (pm_h M σ q y) (pe_R (pm_h M σ q y) M 7) (pe_w x5) 0) M 8) (pe_w x5) 0) M 9) = 10, 0 ≤ (pe_w x5), (pe_w x5) < pe_L (pe_wI (pe_wI (pm_h M σ q y) (pe_R (pm_h M σ q y) M 7) (pe_w x5) 0) (pe_R (pe_wI (pm_h M σ q y) (pe_R (pm_h M σ q y) M 7) (pe_w x5) 0) M 8) (pe_w x5) 0) (pe_R (pe_wI (pe_wI (pm_h M σ q y) (pe_R (pm_h M σ q y) M 7) (pe_w x5) 0) (pe_R (pe_wI (pm_h M σ q y) (pe_R (pm_h M σ q y) M 7) (pe_w x5) 0) M 8) (pe_w x5) 0) M 9), 2 ≤ (pe_R (pe_wI (pe_wI (pm_h M σ q y) (pe_R (pm_h M σ q y) M 7) (pe_w x5) 0) (pe_R (pe_wI (pm_h M σ q y) (pe_R (pm_h M σ q y) M 7) (pe_w x5) 0) M 8) (pe_w x5) 0) M 9), pe_K (pe_wI (pe_wI (pe_wI (pm_h M σ q y) (pe_R (pm_h M σ q y) M 7) (pe_w x5) 0) (pe_R (pe_wI (pm_h M σ q y) (pe_R (pm_h M σ q y) M 7) (pe_w x5) 0) M 8) (pe_w x5) 0) (pe_R (pe_wI (pe_wI (pm_h M σ q y) (pe_R (pm_h M σ q y) M 7) (pe_w x5) 0) (pe_R (pe_wI (pm_h M σ q y) (pe_R (pm_h M σ q y) M 7) (pe_w x5) 0) M 8) (pe_w x5) 0) M 9) (pe_w x5) (-4)) M = 9, pe_K (pe_wI (pe_wI (pe_wI (pm_h M σ q y) (pe_R (pm_h M σ q y) M 7) (pe_w x5) 0) (pe_R (pe_wI (pm_h M σ q y) (pe_R (pm_h M σ q y) M 7) (pe_w x5) 0) M 8) (pe_w x5) 0) (pe_R (pe_wI (pe_wI (pm_h M σ q y) (pe_R (pm_h M σ q y) M 7) (pe_w x5) 0) (pe_R (pe_wI (pm_h M σ q y) (pe_R (pm_h M σ q y) M 7) (pe_w x5) 0) M 8) (pe_w x5) 0) M 9) (pe_w x5) (-4)) (pe_R (pe_wI (pe_wI (pe_wI (pm_h M σ q y) (pe_R (pm_h M σ q y) M 7) (pe_w x5) 0) (pe_R (pe_wI (pm_h M σ q y) (pe_R (pm_h M σ q y) M 7) (pe_w x5) 0) M 8) (pe_w x5) 0) (pe_R (pe_wI (pe_wI (pm_h M σ q y) (pe_R (pm_h M σ q y) M 7) (pe_w x5) 0) (pe_R (pe_wI (pm_h M σ q y) (pe_R (pm_h M σ q y) M 7) (pe_w x5) 0) M 8) (pe_w x5) 0) M 9) (pe_w x5) (-4)) M 10) = 10, 0 ≤ (pe_w x5), (pe_w x5) < pe_L (pe_wI (pe_wI (pe_wI (pm_h M σ q y) (pe_R (pm_h M σ q y) M 7) (pe_w x5) 0) (pe_R (pe_wI (pm_h M σ q y) (pe_R (pm_h M σ q y) M 7) (pe_w x5) 0) M 8) (pe_w x5) 0) (pe_R (pe_wI (pe_wI (pm_h M σ q y) (pe_R (pm_h M σ q y) M 7) (pe_w x5) 0) (pe_R (pe_wI (pm_h M σ q y) (pe_R (pm_h M σ q y) M 7) (pe_w x5) 0) M 8) (pe_w x5) 0) M 9) (pe_w x5) (-4)) (pe_R (pe_wI (pe_wI (pe_wI (pm_h M σ q y) (pe_R (pm_h M σ q y) M 7) (pe_w x5) 0) (pe_R (pe_wI (pm_h M σ q y) (pe_R (pm_h M σ q y) M 7) (pe_w x5) 0) M 8) (pe_w x5) 0) (pe_R (pe_wI (pe_wI (pm_h M σ q y) (pe_R (pm_h M σ q y) M 7) (pe_w x5) 0) (pe_R (pe_wI (pm_h M σ q y) (pe_R (pm_h M σ q y) M 7) (pe_w x5) 0) M 8) (pe_w x5) 0) M 9) (pe_w x5) (-4)) M 10), 2 ≤ (pe_R (pe_wI (pe_wI (pe_wI (pm_h M σ q y) (pe_R (pm_h M σ q y) M 7) (pe_w x5) 0) (pe_R (pe_wI (pm_h M σ q y) (pe_R (pm_h M σ q y) M 7) (pe_w x5) 0) M 8) (pe_w x5) 0) (pe_R (pe_wI (pe_wI (pm_h M σ q y) (pe_R (pm_h M σ q y) M 7) (pe_w x5) 0) (pe_R (pe_wI (pm_h M σ q y) (pe_R (pm_h M σ q y) M 7) (pe_w x5) 0) M 8) (pe_w x5) 0) M 9) (pe_w x5) (-4)) M 10), pe_K (pe_wI (pe_wI (pe_wI (pe_wI (pm_h M σ q y) (pe_R (pm_h M σ q y) M 7) (pe_w x5) 0) (pe_R (pe_wI (pm_h M σ q y) (pe_R (pm_h M σ q y) M 7) (pe_w x5) 0) M 8) (pe_w x5) 0) (pe_R (pe_wI (pe_wI (pm_h M σ q y) (pe_R (pm_h M σ q y) M 7) (pe_w x5) 0) (pe_R (pe_wI (pm_h M σ q y) (pe_R (pm_h M σ q y) M 7) (pe_w x5) 0) M 8) (pe_w x5) 0) M 9) (pe_w x5) (-4)) (pe_R (pe_wI (pe_wI (pe_wI (pm_h M σ q y) (pe_R (pm_h M σ q y) M 7) (pe_w x5) 0) (pe_R (pe_wI (pm_h M σ q y) (pe_R (pm_h M σ q y) M 7) (pe_w x5) 0) M 8) (pe_w x5) 0) (pe_R (pe_wI (pe_wI (pm_h M σ q y) (pe_R (pm_h M σ q y) M 7) (pe_w x5) 0) (pe_R (pe_wI (pm_h M σ q y) (pe_R (pm_h M σ q y) M 7) (pe_w x5) 0) M 8) (pe_w x5) 0) M 9) (pe_w x5) (-4)) M 10) (pe_w x5) 0) M = 9, pe_K (pe_wI (pe_wI (pe_wI (pe_wI (pm_h M σ q y) (pe_R (pm_h M σ q y) M 7) (pe_w x5) 0) (pe_R (pe_wI (pm_h M σ q y) (pe_R (pm_h M σ q y) M 7) (pe_w x5) 0) M 8) (pe_w x5) 0) (pe_R (pe_wI (pe_wI (pm_h M σ q y) (pe_R (pm_h M σ q y) M 7) (pe_w x5) 0) (pe_R (pe_wI (pm_h M σ q y) (pe_R (pm_h M σ q y) M 7) (pe_w x5) 0) M 8) (pe_w x5) 0) M 9) (pe_w x5) (-4)) (pe_R (pe_wI (pe_wI (pe_wI (pm_h M σ q y) (pe_R (pm_h M σ q y) M 7) (pe_w x5) 0) (pe_R (pe_wI (pm_h M σ q y) (pe_R (pm_h M σ q y) M 7) (pe_w x5) 0) M 8) (pe_w x5) 0) (pe_R (pe_wI (pe_wI (pm_h M σ q y) (pe_R (pm_h M σ q y) M 7) (pe_w x5) 0) (pe_R (pe_wI (pm_h M σ q y) (pe_R (pm_h M σ q y) M 7) (pe_w x5) 0) M 8) (pe_w x5) 0) M 9) (pe_w x5) (-4)) M 10) (pe_w x5) 0) (pe_R (pe_wI (pe_wI (pe_wI (pe_wI (pm_h M σ q y) (pe_R (pm_h M σ q y) M 7) (pe_w x5) 0) (pe_R (pe_wI (pm_h M σ q y) (pe_R (pm_h M σ q y) M 7) (pe_w x5) 0) M 8) (pe_w x5) 0) (pe_R (pe_wI (pe_wI (pm_h M σ q y) (pe_R (pm_h M σ q y) M 7) (pe_w x5) 0) (pe_R (pe_wI (pm_h M σ q y) (pe_R (pm_h M σ q y) M 7) (pe_w x5) 0) M 8) (pe_w x5) 0) M 9) (pe_w x5) (-4)) (pe_R (pe_wI (pe_wI (pe_wI (pm_h M σ q y) (pe_R (pm_h M σ q y) M 7) (pe_w x5) 0) (pe_R (pe_wI (pm_h M σ q y) (pe_R (pm_h M σ q y) M 7) (pe_w x5) 0) M 8) (pe_w x5) 0) (pe_R (pe_wI (pe_wI (pm_h M σ q y) (pe_R (pm_h M σ q y) M 7) (pe_w x5) 0) (pe_R (pe_wI (pm_h M σ q y) (pe_R (pm_h M σ q y) M 7) (pe_w x5) 0) M 8) (pe_w x5) 0) M 9) (pe_w x5) (-4)) M 10) (pe_w x5) 0) M 11) = 10, 0 ≤ (pe_w x5), (pe_w x5) < pe_L (pe_wI (pe_wI (pe_wI (pe_wI (pm_h M σ q y) (pe_R (pm_h M σ q y) M 7) (pe_w x5) 0) (pe_R (pe_wI (pm_h M σ q y) (pe_R (pm_h M σ q y) M 7) (pe_w x5) 0) M 8) (pe_w x5) 0) (pe_R (pe_wI (pe_wI (pm_h M σ q y) (pe_R (pm_h M σ q y) M 7) (pe_w x5) 0) (pe_R (pe_wI (pm_h M σ q y) (pe_R (pm_h M σ q y) M 7) (pe_w x5) 0) M 8) (pe_w x5) 0) M 9) (pe_w x5) (-4)) (pe_R (pe_wI (pe_wI (pe_wI (pm_h M σ q y) (pe_R (pm_h M σ q y) M 7) (pe_w x5) 0) (pe_R (pe_wI (pm_h M σ q y) (pe_R (pm_h M σ q y) M 7) (pe_w x5) 0) M 8) (pe_w x5) 0) (pe_R (pe_wI (pe_wI (pm_h M σ q y) (pe_R (pm_h M σ q y) M 7) (pe_w x5) 0) (pe_R (pe_wI (pm_h M σ q y) (pe_R (pm_h M σ q y) M 7) (pe_w x5) 0) M 8) (pe_w x5) 0) M 9) (pe_w x5) (-4)) M 10) (pe_w x5) 0) (pe_R (pe_wI (pe_wI (pe_wI (pe_wI (pm_h M σ q y) (pe_R (pm_h M σ q y) M 7) (pe_w x5) 0) (pe_R (pe_wI (pm_h M σ q y) (pe_R (pm_h M σ q y) M 7) (pe_w x5) 0) M 8) (pe_w x5) 0) (pe_R (pe_wI (pe_wI (pm_h M σ q y) (pe_R (pm_h M σ q y) M 7) (pe_w x5) 0) (pe_R (pe_wI (pm_h M σ q y) (pe_R (pm_h M σ q y) M 7) (pe_w x5) 0) M 8) (pe_w x5) 0) M 9) (pe_w x5) (-4)) (pe_R (pe_wI (pe_wI (pe_wI (pm_h M σ q y) (pe_R (pm_h M σ q y) M 7) (pe_w x5) 0) (pe_R (pe_wI (pm_h M σ q y) (pe_R (pm_h M σ q y) M 7) (pe_w x5) 0) M 8) (pe_w x5) 0) (pe_R (pe_wI (pe_wI (pm_h M σ q y) (pe_R (pm_h M σ q y) M 7) (pe_w x5) 0) (pe_R (pe_wI (pm_h M σ q y) (pe_R (pm_h M σ q y) M 7) (pe_w x5) 0) M 8) (pe_w x5) 0) M 9) (pe_w x5) (-4)) M 10) (pe_w x5) 0) M 11), 2 ≤ (pe_R (pe_wI (pe_wI (pe_wI (pe_wI (pm_h M σ q y) (pe_R (pm_h M σ q y) M 7) (pe_w x5) 0) (pe_R (pe_wI (pm_h M σ q y) (pe_R (pm_h M σ q y) M 7) (pe_w x5) 0) M 8) (pe_w x5) 0) (pe_R (pe_wI (pe_wI (pm_h M σ q y) (pe_R (pm_h M σ q y) M 7) (pe_w x5) 0) (pe_R (pe_wI (pm_h M σ q y) (pe_R (pm_h M σ q y) M 7) (pe_w x5) 0) M 8) (pe_w x5) 0) M 9) (pe_w x5) (-4)) (pe_R (pe_wI (pe_wI (pe_wI (pm_h M σ q y) (pe_R (pm_h M σ q y) M 7) (pe_w x5) 0) (pe_R (pe_wI (pm_h M σ q y) (pe_R (pm_h M σ q y) M 7) (pe_w x5) 0) M 8) (pe_w x5) 0) (pe_R (pe_wI (pe_wI (pm_h M σ q y) (pe_R (pm_h M σ q y) M 7) (pe_w x5) 0) (pe_R (pe_wI (pm_h M σ q y) (pe_R (pm_h M σ q y) M 7) (pe_w x5) 0) M 8) (pe_w x5) 0) M 9) (pe_w x5) (-4)) M 10) (pe_w x5) 0) M 11)] (126, [some (.inr (.inr M)), some (.inl x1), o2, o3, some (.inl x4), some (.inl x5)], [], pe_wI (pe_wI (pe_wI (pe_wI (pe_wI (pm_h M σ q y) (pe_R (pm_h M σ q y) M 7) (pe_w x5) 0) (pe_R (pe_wI (pm_h M σ q y) (pe_R (pm_h M σ q y) M 7) (pe_w x5) 0) M 8) (pe_w x5) 0) (pe_R (pe_wI (pe_wI (pm_h M σ q y) (pe_R (pm_h M σ q y) M 7) (pe_w x5) 0) (pe_R (pe_wI (pm_h M σ q y) (pe_R (pm_h M σ q y) M 7) (pe_w x5) 0) M 8) (pe_w x5) 0) M 9) (pe_w x5) (-4)) (pe_R (pe_wI (pe_wI (pe_wI (pm_h M σ q y) (pe_R (pm_h M σ q y) M 7) (pe_w x5) 0) (pe_R (pe_wI (pm_h M σ q y) (pe_R (pm_h M σ q y) M 7) (pe_w x5) 0) M 8) (pe_w x5) 0) (pe_R (pe_wI (pe_wI (pm_h M σ q y) (pe_R (pm_h M σ q y) M 7) (pe_w x5) 0) (pe_R (pe_wI (pm_h M σ q y) (pe_R (pm_h M σ q y) M 7) (pe_w x5) 0) M 8) (pe_w x5) 0) M 9) (pe_w x5) (-4)) M 10) (pe_w x5) 0) (pe_R (pe_wI (pe_wI (pe_wI (pe_wI (pm_h M σ q y) (pe_R (pm_h M σ q y) M 7) (pe_w x5) 0) (pe_R (pe_wI (pm_h M σ q y) (pe_R (pm_h M σ q y) M 7) (pe_w x5) 0) M 8) (pe_w x5) 0) (pe_R (pe_wI (pe_wI (pm_h M σ q y) (pe_R (pm_h M σ q y) M 7) (pe_w x5) 0) (pe_R (pe_wI (pm_h M σ q y) (pe_R (pm_h M σ q y) M 7) (pe_w x5) 0) M 8) (pe_w x5) 0) M 9) (pe_w x5) (-4)) (pe_R (pe_wI (pe_wI (pe_wI (pm_h M σ q y) (pe_R (pm_h M σ q y) M 7) (pe_w x5) 0) (pe_R (pe_wI (pm_h M σ q y) (pe_R (pm_h M σ q y) M 7) (pe_w x5) 0) M 8) (pe_w x5) 0) (pe_R (pe_wI (pe_wI (pm_h M σ q y) (pe_R (pm_h M σ q y) M 7) (pe_w x5) 0) (pe_R (pe_wI (pm_h M σ q y) (pe_R (pm_h M σ q y) M 7) (pe_w x5) 0) M 8) (pe_w x5) 0) M 9) (pe_w x5) (-4)) M 10) (pe_w x5) 0) M 11) (pe_w x5) 0) rfl ?_ ?_
  · first
    | (simp (disch := omega) only [pe_all, pe_wi w0, pe_K_wI, pe_K_wR, pe_L_wI, pe_L_wR, pe_R_nej, pe_R_wI, pm_K10 hF, pm_K11 hF, pm_K7 hF, pm_K8 hF, pm_K9 hF, pm_KM hF, pm_Kh, pm_L10 hF, pm_L11 hF, pm_L7 hF, pm_L8 hF, pm_L9 hF, pm_Lh, pm_R10 hF, pm_R11 hF, pm_R7 hF, pm_R8 hF, pm_R9 hF, pm_Rh, pm_wIk]; done)
    | (simp (disch := omega) only [pe_all, pe_wi w0, pe_K_wI, pe_K_wR, pe_L_wI, pe_L_wR, pe_R_nej, pe_R_wI, pm_K10 hF, pm_K11 hF, pm_K7 hF, pm_K8 hF, pm_K9 hF, pm_KM hF, pm_Kh, pm_L10 hF, pm_L11 hF, pm_L7 hF, pm_L8 hF, pm_L9 hF, pm_Lh, pm_R10 hF, pm_R11 hF, pm_R7 hF, pm_R8 hF, pm_R9 hF, pm_Rh, pm_wIk]; (repeat' apply And.intro) <;> first | assumption | omega | decide)
  · try simp (disch := omega) only [pe_wi w0, pe_K_wI, pe_K_wR, pe_L_wI, pe_L_wR, pe_R_nej, pe_R_wI, pm_K10 hF, pm_K11 hF, pm_K7 hF, pm_K8 hF, pm_K9 hF, pm_KM hF, pm_Kh, pm_L10 hF, pm_L11 hF, pm_L7 hF, pm_L8 hF, pm_L9 hF, pm_Lh, pm_R10 hF, pm_R11 hF, pm_R7 hF, pm_R8 hF, pm_R9 hF, pm_Rh, pm_wIk]
    exact k
set_option maxRecDepth 8000 in
theorem b171_126 {d : Nat} {Φ : Option pe_V → pe_H → Prop} {σ : pe_H} {M q : Nat} {y : Nat → Int → Int} (hF : pm_F M σ) {x1 : Int} {o2 : Option pe_V} {o3 : Option pe_V} {x4 : Int} {x5 : Int}  (w0 : pe_in x5 := by unfold pe_in; omega) (h0 : 0 ≤ x5 := by first | assumption | omega) (h1 : x5 < 8 := by first | assumption | omega) (k : pe_M d 146 [.inr (.inr M), .inl x5, .inl x1] (pm_h M σ q (pm_u (pm_u (pm_u y 12 x5 (-4)) 13 x5 (-1)) 14 x5 0)) (fun r σ' => pe_X d 171 (158, [some (.inr (.inr M)), some (.inl x1), o2, o3, some (.inl x4), some (.inl x5)], r.toList ++ [], σ') Φ)) : pe_X d 171 (126, [some (.inr (.inr M)), some (.inl x1), o2, o3, some (.inl x4), some (.inl x5)], [], pm_h M σ q y) Φ := by
  have hM2 := pm_2 hF
  refine pe_blk 71 18 ck171 [pe_K (pm_h M σ q y) M = 9, pe_K (pm_h M σ q y) (pe_R (pm_h M σ q y) M 12) = 10, 0 ≤ (pe_w x5), (pe_w x5) < pe_L (pm_h M σ q y) (pe_R (pm_h M σ q y) M 12), 2 ≤ (pe_R (pm_h M σ q y) M 12), pe_K (pe_wI (pm_h M σ q y) (pe_R (pm_h M σ q y) M 12) (pe_w x5) (-4)) M = 9, pe_K (pe_wI (pm_h M σ q y) (pe_R (pm_h M σ q y) M 12) (pe_w x5) (-4)) (pe_R (pe_wI (pm_h M σ q y) (pe_R (pm_h M σ q y) M 12) (pe_w x5) (-4)) M 13) = 10, 0 ≤ (pe_w x5), (pe_w x5) < pe_L (pe_wI (pm_h M σ q y) (pe_R (pm_h M σ q y) M 12) (pe_w x5) (-4)) (pe_R (pe_wI (pm_h M σ q y) (pe_R (pm_h M σ q y) M 12) (pe_w x5) (-4)) M 13), 2 ≤ (pe_R (pe_wI (pm_h M σ q y) (pe_R (pm_h M σ q y) M 12) (pe_w x5) (-4)) M 13), pe_K (pe_wI (pe_wI (pm_h M σ q y) (pe_R (pm_h M σ q y) M 12) (pe_w x5) (-4)) (pe_R (pe_wI (pm_h M σ q y) (pe_R (pm_h M σ q y) M 12) (pe_w x5) (-4)) M 13) (pe_w x5) (-1)) M = 9, pe_K (pe_wI (pe_wI (pm_h M σ q y) (pe_R (pm_h M σ q y) M 12) (pe_w x5) (-4)) (pe_R (pe_wI (pm_h M σ q y) (pe_R (pm_h M σ q y) M 12) (pe_w x5) (-4)) M 13) (pe_w x5) (-1)) (pe_R (pe_wI (pe_wI (pm_h M σ q y) (pe_R (pm_h M σ q y) M 12) (pe_w x5) (-4)) (pe_R (pe_wI (pm_h M σ q y) (pe_R (pm_h M σ q y) M 12) (pe_w x5) (-4)) M 13) (pe_w x5) (-1)) M 14) = 10, 0 ≤ (pe_w x5), (pe_w x5) < pe_L (pe_wI (pe_wI (pm_h M σ q y) (pe_R (pm_h M σ q y) M 12) (pe_w x5) (-4)) (pe_R (pe_wI (pm_h M σ q y) (pe_R (pm_h M σ q y) M 12) (pe_w x5) (-4)) M 13) (pe_w x5) (-1)) (pe_R (pe_wI (pe_wI (pm_h M σ q y) (pe_R (pm_h M σ q y) M 12) (pe_w x5) (-4)) (pe_R (pe_wI (pm_h M σ q y) (pe_R (pm_h M σ q y) M 12) (pe_w x5) (-4)) M 13) (pe_w x5) (-1)) M 14), 2 ≤ (pe_R (pe_wI (pe_wI (pm_h M σ q y) (pe_R (pm_h M σ q y) M 12) (pe_w x5) (-4)) (pe_R (pe_wI (pm_h M σ q y) (pe_R (pm_h M σ q y) M 12) (pe_w x5) (-4)) M 13) (pe_w x5) (-1)) M 14)] (155, [some (.inr (.inr M)), some (.inl x1), o2, o3, some (.inl x4), some (.inl x5)], [.inl x1, .inl x5, .inr (.inr M)], pe_wI (pe_wI (pe_wI (pm_h M σ q y) (pe_R (pm_h M σ q y) M 12) (pe_w x5) (-4)) (pe_R (pe_wI (pm_h M σ q y) (pe_R (pm_h M σ q y) M 12) (pe_w x5) (-4)) M 13) (pe_w x5) (-1)) (pe_R (pe_wI (pe_wI (pm_h M σ q y) (pe_R (pm_h M σ q y) M 12) (pe_w x5) (-4)) (pe_R (pe_wI (pm_h M σ q y) (pe_R (pm_h M σ q y) M 12) (pe_w x5) (-4)) M 13) (pe_w x5) (-1)) M 14) (pe_w x5) 0) rfl ?_ ?_
  · first
    | (simp (disch := omega) only [pe_all, pe_wi w0, pe_K_wI, pe_K_wR, pe_L_wI, pe_L_wR, pe_R_nej, pe_R_wI, pm_K12 hF, pm_K13 hF, pm_K14 hF, pm_KM hF, pm_Kh, pm_L12 hF, pm_L13 hF, pm_L14 hF, pm_Lh, pm_R12 hF, pm_R13 hF, pm_R14 hF, pm_Rh, pm_wIk]; done)
    | (simp (disch := omega) only [pe_all, pe_wi w0, pe_K_wI, pe_K_wR, pe_L_wI, pe_L_wR, pe_R_nej, pe_R_wI, pm_K12 hF, pm_K13 hF, pm_K14 hF, pm_KM hF, pm_Kh, pm_L12 hF, pm_L13 hF, pm_L14 hF, pm_Lh, pm_R12 hF, pm_R13 hF, pm_R14 hF, pm_Rh, pm_wIk]; (repeat' apply And.intro) <;> first | assumption | omega | decide)
  · try simp (disch := omega) only [pe_wi w0, pe_K_wI, pe_K_wR, pe_L_wI, pe_L_wR, pe_R_nej, pe_R_wI, pm_K12 hF, pm_K13 hF, pm_K14 hF, pm_KM hF, pm_Kh, pm_L12 hF, pm_L13 hF, pm_L14 hF, pm_Lh, pm_R12 hF, pm_R13 hF, pm_R14 hF, pm_Rh, pm_wIk]
    have hrc : pe_K (pm_h M σ q (pm_u (pm_u (pm_u y 12 x5 (-4)) 13 x5 (-1)) 14 x5 0)) M = 9 := by first | assumption | (simp (disch := omega) only [pe_wi w0, pe_K_wI, pe_K_wR, pe_L_wI, pe_L_wR, pe_R_nej, pe_R_wI, pm_K12 hF, pm_K13 hF, pm_K14 hF, pm_KM hF, pm_Kh, pm_L12 hF, pm_L13 hF, pm_L14 hF, pm_Lh, pm_R12 hF, pm_R13 hF, pm_R14 hF, pm_Rh, pm_wIk]; done) | (simp (disch := omega) only [pe_wi w0, pe_K_wI, pe_K_wR, pe_L_wI, pe_L_wR, pe_R_nej, pe_R_wI, pm_K12 hF, pm_K13 hF, pm_K14 hF, pm_KM hF, pm_Kh, pm_L12 hF, pm_L13 hF, pm_L14 hF, pm_Lh, pm_R12 hF, pm_R13 hF, pm_R14 hF, pm_Rh, pm_wIk]; assumption)
    exact pe_cal 89 ck171 rfl rfl rfl ⟨hrc, by decide⟩ k
set_option maxRecDepth 8000 in
theorem b171_158 {d : Nat} {Φ : Option pe_V → pe_H → Prop} {σ : pe_H} {M q : Nat} {y : Nat → Int → Int} (hF : pm_F M σ) {o1 : Option pe_V} {o2 : Option pe_V} {o3 : Option pe_V} {x4 : Int} {o5 : Option pe_V}   (h0 : x4 = 0 ∨ x4 = 1 := by first | assumption | omega) (k : Φ (some (.inl x4)) (pm_h M σ q y)) : pe_X d 171 (158, [some (.inr (.inr M)), o1, o2, o3, some (.inl x4), o5], [], pm_h M σ q y) Φ := by
  refine pe_blk 90 1 ck171 [] (160, [some (.inr (.inr M)), o1, o2, o3, some (.inl x4), o5], [.inl x4], pm_h M σ q y) rfl ?_ ?_
  · exact trivial
  · exact pe_fine 91 ck171 rfl rfl rfl h0 k
-- StepMachinesModel.here()I
def T172 : List (Nat × Instr × Nat) := [(0, .aload_n 0, 1), (1, .getfield 267, 3), (4, .aload_n 0, 1), (5, .getfield 104, 3), (8, .aload_n 0, 1), (9, .getfield 270, 3), (12, .iaload, 1), (13, .if_icmp .ge 24, 3), (16, .aload_n 0, 1), (17, .getfield 107, 3), (20, .bipush 100, 2), (22, .aload_n 0, 1), (23, .getfield 270, 3), (26, .imul, 1), (27, .aload_n 0, 1), (28, .getfield 267, 3), (31, .iadd, 1), (32, .laload, 1), (33, .l2i, 1), (34, .goto 6, 3), (37, .sipush (-999), 3), (40, .ireturn, 1)]
theorem ck172 : pe_ctx 172 9 false (some .int) 1 T172 := ⟨rfl, rfl, rfl, rfl, by decide +kernel, by decide, by decide⟩
theorem b172_0 {d : Nat} {Φ : Option pe_V → pe_H → Prop} {σ : pe_H} {M q : Nat} {y : Nat → Int → Int} (hF : pm_F M σ)   (w0 : pe_in (y 0 38) := by unfold pe_in; omega) (w1 : pe_in (y 31 (y 0 38)) := by unfold pe_in; omega) (w2 : pe_in (y 0 39) := by unfold pe_in; omega) (h0 : 0 ≤ (y 0 38) := by first | assumption | omega) (h1 : (y 0 38) < 8 := by first | assumption | omega) (k1 : (y 31 (y 0 38)) ≤ (y 0 39) → pe_X d 172 (37, [some (.inr (.inr M))], [], pm_h M σ q y) Φ) (k2 : ¬ ((y 31 (y 0 38)) ≤ (y 0 39)) → pe_X d 172 (16, [some (.inr (.inr M))], [], pm_h M σ q y) Φ) : pe_X d 172 (0, [some (.inr (.inr M))], [], pm_h M σ q y) Φ := by
  refine pe_blk 0 8 ck172 [pe_K (pm_h M σ q y) M = 9, pe_K (pm_h M σ q y) M = 9, pe_K (pm_h M σ q y) M = 9, pe_K (pm_h M σ q y) (pe_R (pm_h M σ q y) M 35) = 10, 0 ≤ (pe_w (pe_I (pm_h M σ q y) M 38)), (pe_w (pe_I (pm_h M σ q y) M 38)) < pe_L (pm_h M σ q y) (pe_R (pm_h M σ q y) M 35)] (cond (decide ((pe_w (pe_I (pm_h M σ q y) (pe_R (pm_h M σ q y) M 35) (pe_w (pe_I (pm_h M σ q y) M 38)))) ≤ (pe_w (pe_I (pm_h M σ q y) M 39)))) 37 16, [some (.inr (.inr M))], [], pm_h M σ q y) rfl ?_ ?_
  · first
    | (simp (disch := omega) only [pe_all, pe_wi w0, pe_wi w1, pe_wi w2, pe_I_wR, pe_K_wI, pe_K_wR, pe_L_wI, pe_L_wR, pe_R_nej, pe_R_wI, pm_I0, pm_Ik, pm_K31 hF, pm_KM hF, pm_Kh, pm_L31 hF, pm_Lh, pm_R35 hF, pm_Rh, pm_uj, pm_uk, pm_us]; done)
    | (simp (disch := omega) only [pe_all, pe_wi w0, pe_wi w1, pe_wi w2, pe_I_wR, pe_K_wI, pe_K_wR, pe_L_wI, pe_L_wR, pe_R_nej, pe_R_wI, pm_I0, pm_Ik, pm_K31 hF, pm_KM hF, pm_Kh, pm_L31 hF, pm_Lh, pm_R35 hF, pm_Rh, pm_uj, pm_uk, pm_us]; (repeat' apply And.intro) <;> first | assumption | omega | decide)
  · try simp (disch := omega) only [pe_wi w0, pe_wi w1, pe_wi w2, pe_I_wR, pe_K_wI, pe_K_wR, pe_L_wI, pe_L_wR, pe_R_nej, pe_R_wI, pm_I0, pm_Ik, pm_K31 hF, pm_KM hF, pm_Kh, pm_L31 hF, pm_Lh, pm_R35 hF, pm_Rh, pm_uj, pm_uk, pm_us]
    exact pe_two k1 k2
theorem b172_16 {d : Nat} {Φ : Option pe_V → pe_H → Prop} {σ : pe_H} {M q : Nat} {y : Nat → Int → Int} (hF : pm_F M σ)   (w0 : pe_in ((100 * (y 0 38)) + (y 0 39)) := by unfold pe_in; omega) (h0 : 0 ≤ ((100 * (y 0 38)) + (y 0 39)) := by first | assumption | omega) (h1 : ((100 * (y 0 38)) + (y 0 39)) < 800 := by first | assumption | omega) (k : pe_X d 172 (40, [some (.inr (.inr M))], [.inl (y 32 ((100 * (y 0 38)) + (y 0 39)))], pm_h M σ q y) Φ) : pe_X d 172 (16, [some (.inr (.inr M))], [], pm_h M σ q y) Φ := by
  refine pe_blk 8 12 ck172 [pe_K (pm_h M σ q y) M = 9, pe_K (pm_h M σ q y) M = 9, pe_K (pm_h M σ q y) M = 9, pe_K (pm_h M σ q y) (pe_R (pm_h M σ q y) M 36) = 11, 0 ≤ (pe_w ((100 * (pe_I (pm_h M σ q y) M 38)) + (pe_I (pm_h M σ q y) M 39))), (pe_w ((100 * (pe_I (pm_h M σ q y) M 38)) + (pe_I (pm_h M σ q y) M 39))) < pe_L (pm_h M σ q y) (pe_R (pm_h M σ q y) M 36)] (40, [some (.inr (.inr M))], [.inl (pe_I (pm_h M σ q y) (pe_R (pm_h M σ q y) M 36) (pe_w ((100 * (pe_I (pm_h M σ q y) M 38)) + (pe_I (pm_h M σ q y) M 39))))], pm_h M σ q y) rfl ?_ ?_
  · first
    | (simp (disch := omega) only [pe_all, pe_wi w0, pe_I_wR, pe_K_wI, pe_K_wR, pe_L_wI, pe_L_wR, pe_R_nej, pe_R_wI, pm_I0, pm_Ik, pm_K32 hF, pm_KM hF, pm_Kh, pm_L32 hF, pm_Lh, pm_R36 hF, pm_Rh, pm_uj, pm_uk, pm_us]; done)
    | (simp (disch := omega) only [pe_all, pe_wi w0, pe_I_wR, pe_K_wI, pe_K_wR, pe_L_wI, pe_L_wR, pe_R_nej, pe_R_wI, pm_I0, pm_Ik, pm_K32 hF, pm_KM hF, pm_Kh, pm_L32 hF, pm_Lh, pm_R36 hF, pm_Rh, pm_uj, pm_uk, pm_us]; (repeat' apply And.intro) <;> first | assumption | omega | decide)
  · try simp (disch := omega) only [pe_wi w0, pe_I_wR, pe_K_wI, pe_K_wR, pe_L_wI, pe_L_wR, pe_R_nej, pe_R_wI, pm_I0, pm_Ik, pm_K32 hF, pm_KM hF, pm_Kh, pm_L32 hF, pm_Lh, pm_R36 hF, pm_Rh, pm_uj, pm_uk, pm_us]
    exact k
theorem b172_37 {d : Nat} {Φ : Option pe_V → pe_H → Prop} {σ : pe_H} {M q : Nat} {y : Nat → Int → Int} (hF : pm_F M σ)     (k : pe_X d 172 (40, [some (.inr (.inr M))], [.inl (-999)], pm_h M σ q y) Φ) : pe_X d 172 (37, [some (.inr (.inr M))], [], pm_h M σ q y) Φ := by
  refine pe_blk 20 1 ck172 [] (40, [some (.inr (.inr M))], [.inl (-999)], pm_h M σ q y) rfl ?_ ?_
  · exact trivial
  · exact k
theorem b172_40 {d : Nat} {Φ : Option pe_V → pe_H → Prop} {σ : pe_H} {M q : Nat} {y : Nat → Int → Int} (hF : pm_F M σ) {s0 : Int}    (k : Φ (some (.inl s0)) (pm_h M σ q y)) : pe_X d 172 (40, [some (.inr (.inr M))], [.inl s0], pm_h M σ q y) Φ := by
  exact pe_fine 21 ck172 rfl rfl rfl trivial k
-- StepMachinesModel.readDigits(I)I
def T173 : List (Nat × Instr × Nat) := [(0, .iconst 0, 1), (1, .istore_n 2, 1), (2, .iconst 0, 1), (3, .istore_n 3, 1), (4, .iload_n 3, 1), (5, .iload_n 1, 1), (6, .if_icmp .ge 87, 3), (9, .aload_n 0, 1), (10, .aload_n 0, 1), (11, .getfield 273, 3), (14, .ifCond .ne 20, 3), (17, .aload_n 0, 1), (18, .invokevirtual 277, 3), (21, .i2l, 1), (22, .ldc2_w 281, 3), (25, .ldc2_w 283, 3), (28, .invokestatic 147, 3), (31, .ifCond .ne 7, 3), (34, .iconst 1, 1), (35, .goto 4, 3), (38, .iconst 0, 1), (39, .putfield 273, 3), (42, .aload_n 0, 1), (43, .getfield 273, 3), (46, .ifCond .eq 7, 3), (49, .iconst 0, 1), (50, .goto 15, 3), (53, .bipush 10, 2), (55, .iload_n 2, 1), (56, .imul, 1), (57, .aload_n 0, 1), (58, .invokevirtual 277, 3), (61, .iadd, 1), (62, .bipush 48, 2), (64, .isub, 1), (65, .istore_n 2, 1), (66, .aload_n 0, 1), (67, .dup, 1), (68, .getfield 267, 3), (71, .aload_n 0, 1), (72, .getfield 273, 3), (75, .ifCond .eq 7, 3), (78, .iconst 0, 1), (79, .goto 4, 3), (82, .iconst 1, 1), (83, .iadd, 1), (84, .putfield 267, 3), (87, .iinc 3 1, 3), (90, .goto (-86), 3), (93, .iload_n 2, 1), (94, .ireturn, 1)]
theorem ck173 : pe_ctx 173 9 false (some .int) 4 T173 := ⟨rfl, rfl, rfl, rfl, by decide +kernel, by decide, by decide⟩
theorem b173_0 {d : Nat} {Φ : Option pe_V → pe_H → Prop} {σ : pe_H} {M q : Nat} {y : Nat → Int → Int} (hF : pm_F M σ) {x1 : Int} {o2 : Option pe_V} {o3 : Option pe_V}    (k : pe_X d 173 (4, [some (.inr (.inr M)), some (.inl x1), some (.inl 0), some (.inl 0)], [], pm_h M σ q y) Φ) : pe_X d 173 (0, [some (.inr (.inr M)), some (.inl x1), o2, o3], [], pm_h M σ q y) Φ := by
  refine pe_blk 0 4 ck173 [] (4, [some (.inr (.inr M)), some (.inl x1), some (.inl 0), some (.inl 0)], [], pm_h M σ q y) rfl ?_ ?_
  · exact trivial
  · exact k
theorem b173_4 {d : Nat} {Φ : Option pe_V → pe_H → Prop} {σ : pe_H} {M q : Nat} {y : Nat → Int → Int} (hF : pm_F M σ) {x1 : Int} {x2 : Int} {x3 : Int}  (w0 : pe_in x1 := by unfold pe_in; omega) (w1 : pe_in x3 := by unfold pe_in; omega)  (k1 : x1 ≤ x3 → pe_X d 173 (93, [some (.inr (.inr M)), some (.inl x1), some (.inl x2), some (.inl x3)], [], pm_h M σ q y) Φ) (k2 : ¬ (x1 ≤ x3) → pe_X d 173 (9, [some (.inr (.inr M)), some (.inl x1), some (.inl x2), some (.inl x3)], [], pm_h M σ q y) Φ) : pe_X d 173 (4, [some (.inr (.inr M)), some (.inl x1), some (.inl x2), some (.inl x3)], [], pm_h M σ q y) Φ := by
  refine pe_blk 4 3 ck173 [] (cond (decide ((pe_w x1) ≤ (pe_w x3))) 93 9, [some (.inr (.inr M)), some (.inl x1), some (.inl x2), some (.inl x3)], [], pm_h M σ q y) rfl ?_ ?_
  · exact trivial
  · try simp (disch := omega) only [pe_wi w0, pe_wi w1]
    exact pe_two k1 k2
theorem b173_9 {d : Nat} {Φ : Option pe_V → pe_H → Prop} {σ : pe_H} {M q : Nat} {y : Nat → Int → Int} (hF : pm_F M σ) {x1 : Int} {x2 : Int} {x3 : Int}  (w0 : pe_in (y 0 40) := by unfold pe_in; omega)  (k1 : ¬ (y 0 40) = 0 → pe_X d 173 (34, [some (.inr (.inr M)), some (.inl x1), some (.inl x2), some (.inl x3)], [.inr (.inr M)], pm_h M σ q y) Φ) (k2 : (y 0 40) = 0 → pe_X d 173 (17, [some (.inr (.inr M)), some (.inl x1), some (.inl x2), some (.inl x3)], [.inr (.inr M)], pm_h M σ q y) Φ) : pe_X d 173 (9, [some (.inr (.inr M)), some (.inl x1), some (.inl x2), some (.inl x3)], [], pm_h M σ q y) Φ := by
  refine pe_blk 7 4 ck173 [pe_K (pm_h M σ q y) M = 9] (cond (decide (¬ (pe_w (pe_I (pm_h M σ q y) M 40)) = 0)) 34 17, [some (.inr (.inr M)), some (.inl x1), some (.inl x2), some (.inl x3)], [.inr (.inr M)], pm_h M σ q y) rfl ?_ ?_
  · first
    | (simp (disch := omega) only [pe_all, pe_wi w0, pe_I_wR, pe_K_wI, pe_K_wR, pm_I0, pm_KM hF, pm_Kh, pm_uj, pm_uk, pm_us]; done)
    | (simp (disch := omega) only [pe_all, pe_wi w0, pe_I_wR, pe_K_wI, pe_K_wR, pm_I0, pm_KM hF, pm_Kh, pm_uj, pm_uk, pm_us]; (repeat' apply And.intro) <;> first | assumption | omega | decide)
  · try simp (disch := omega) only [pe_wi w0, pe_I_wR, pe_K_wI, pe_K_wR, pm_I0, pm_KM hF, pm_Kh, pm_uj, pm_uk, pm_us]
    exact pe_two' k1 k2
theorem b173_17 {d : Nat} {Φ : Option pe_V → pe_H → Prop} {σ : pe_H} {M q : Nat} {y : Nat → Int → Int} (hF : pm_F M σ) {x1 : Int} {x2 : Int} {x3 : Int}    (k : pe_M d 172 [.inr (.inr M)] (pm_h M σ q y) (fun r σ' => pe_X d 173 (21, [some (.inr (.inr M)), some (.inl x1), some (.inl x2), some (.inl x3)], r.toList ++ [.inr (.inr M)], σ') Φ)) : pe_X d 173 (17, [some (.inr (.inr M)), some (.inl x1), some (.inl x2), some (.inl x3)], [.inr (.inr M)], pm_h M σ q y) Φ := by
  refine pe_blk 11 1 ck173 [] (18, [some (.inr (.inr M)), some (.inl x1), some (.inl x2), some (.inl x3)], [.inr (.inr M), .inr (.inr M)], pm_h M σ q y) rfl ?_ ?_
  · exact trivial
  · try simp (disch := omega) only [pe_K_wI, pe_K_wR, pm_KM hF, pm_Kh]
    have hrc : pe_K (pm_h M σ q y) M = 9 := by first | assumption | (simp (disch := omega) only [pe_K_wI, pe_K_wR, pm_KM hF, pm_Kh]; done) | (simp (disch := omega) only [pe_K_wI, pe_K_wR, pm_KM hF, pm_Kh]; assumption)
    exact pe_cal 12 ck173 rfl rfl rfl ⟨hrc, by decide⟩ k
theorem b173_21 {d : Nat} {Φ : Option pe_V → pe_H → Prop} {σ : pe_H} {M q : Nat} {y : Nat → Int → Int} (hF : pm_F M σ) {x1 : Int} {x2 : Int} {x3 : Int} {s1 : Int}  (w0 : pe_in s1 := by unfold pe_in; omega)  (k : pe_M d 134 [.inr (.inl s1), .inr (.inl 48), .inr (.inl 57)] (pm_h M σ q y) (fun r σ' => pe_X d 173 (31, [some (.inr (.inr M)), some (.inl x1), some (.inl x2), some (.inl x3)], r.toList ++ [.inr (.inr M)], σ') Φ)) : pe_X d 173 (21, [some (.inr (.inr M)), some (.inl x1), some (.inl x2), some (.inl x3)], [.inl s1, .inr (.inr M)], pm_h M σ q y) Φ := by
  refine pe_blk 13 3 ck173 [] (28, [some (.inr (.inr M)), some (.inl x1), some (.inl x2), some (.inl x3)], [.inr (.inl 57), .inr (.inl 48), .inr (.inl (pe_w s1)), .inr (.inr M)], pm_h M σ q y) rfl ?_ ?_
  · exact trivial
  · try simp (disch := omega) only [pe_wi w0]
    exact pe_cal 16 ck173 rfl rfl rfl trivial k
theorem b173_31 {d : Nat} {Φ : Option pe_V → pe_H → Prop} {σ : pe_H} {M q : Nat} {y : Nat → Int → Int} (hF : pm_F M σ) {x1 : Int} {x2 : Int} {x3 : Int} {s1 : Int}  (w0 : pe_in s1 := by unfold pe_in; omega)  (k1 : ¬ s1 = 0 → pe_X d 173 (38, [some (.inr (.inr M)), some (.inl x1), some (.inl x2), some (.inl x3)], [.inr (.inr M)], pm_h M σ q y) Φ) (k2 : s1 = 0 → pe_X d 173 (34, [some (.inr (.inr M)), some (.inl x1), some (.inl x2), some (.inl x3)], [.inr (.inr M)], pm_h M σ q y) Φ) : pe_X d 173 (31, [some (.inr (.inr M)), some (.inl x1), some (.inl x2), some (.inl x3)], [.inl s1, .inr (.inr M)], pm_h M σ q y) Φ := by
  refine pe_blk 17 1 ck173 [] (cond (decide (¬ (pe_w s1) = 0)) 38 34, [some (.inr (.inr M)), some (.inl x1), some (.inl x2), some (.inl x3)], [.inr (.inr M)], pm_h M σ q y) rfl ?_ ?_
  · exact trivial
  · try simp (disch := omega) only [pe_wi w0]
    exact pe_two' k1 k2
theorem b173_34 {d : Nat} {Φ : Option pe_V → pe_H → Prop} {σ : pe_H} {M q : Nat} {y : Nat → Int → Int} (hF : pm_F M σ) {x1 : Int} {x2 : Int} {x3 : Int}    (k : pe_X d 173 (39, [some (.inr (.inr M)), some (.inl x1), some (.inl x2), some (.inl x3)], [.inl 1, .inr (.inr M)], pm_h M σ q y) Φ) : pe_X d 173 (34, [some (.inr (.inr M)), some (.inl x1), some (.inl x2), some (.inl x3)], [.inr (.inr M)], pm_h M σ q y) Φ := by
  refine pe_blk 18 2 ck173 [] (39, [some (.inr (.inr M)), some (.inl x1), some (.inl x2), some (.inl x3)], [.inl 1, .inr (.inr M)], pm_h M σ q y) rfl ?_ ?_
  · exact trivial
  · exact k
theorem b173_38 {d : Nat} {Φ : Option pe_V → pe_H → Prop} {σ : pe_H} {M q : Nat} {y : Nat → Int → Int} (hF : pm_F M σ) {x1 : Int} {x2 : Int} {x3 : Int}    (k : pe_X d 173 (39, [some (.inr (.inr M)), some (.inl x1), some (.inl x2), some (.inl x3)], [.inl 0, .inr (.inr M)], pm_h M σ q y) Φ) : pe_X d 173 (38, [some (.inr (.inr M)), some (.inl x1), some (.inl x2), some (.inl x3)], [.inr (.inr M)], pm_h M σ q y) Φ := by
  refine pe_blk 20 1 ck173 [] (39, [some (.inr (.inr M)), some (.inl x1), some (.inl x2), some (.inl x3)], [.inl 0, .inr (.inr M)], pm_h M σ q y) rfl ?_ ?_
  · exact trivial
  · exact k
theorem b173_39 {d : Nat} {Φ : Option pe_V → pe_H → Prop} {σ : pe_H} {M q : Nat} {y : Nat → Int → Int} (hF : pm_F M σ) {x1 : Int} {x2 : Int} {x3 : Int} {s1 : Int}  (w0 : pe_in s1 := by unfold pe_in; omega) (h0 : s1 = 0 ∨ s1 = 1 := by first | assumption | omega) (k1 : s1 = 0 → pe_X d 173 (53, [some (.inr (.inr M)), some (.inl x1), some (.inl x2), some (.inl x3)], [], pm_h M σ q (pm_u y 0 40 s1)) Φ) (k2 : ¬ (s1 = 0) → pe_X d 173 (49, [some (.inr (.inr M)), some (.inl x1), some (.inl x2), some (.inl x3)], [], pm_h M σ q (pm_u y 0 40 s1)) Φ) : pe_X d 173 (39, [some (.inr (.inr M)), some (.inl x1), some (.inl x2), some (.inl x3)], [.inl s1, .inr (.inr M)], pm_h M σ q y) Φ := by
  refine pe_blk 21 4 ck173 [pe_K (pm_h M σ q y) M = 9, s1 = 0 ∨ s1 = 1, pe_K (pe_wI (pm_h M σ q y) M 40 s1) M = 9] (cond (decide ((pe_w (pe_I (pe_wI (pm_h M σ q y) M 40 s1) M 40)) = 0)) 53 49, [some (.inr (.inr M)), some (.inl x1), some (.inl x2), some (.inl x3)], [], pe_wI (pm_h M σ q y) M 40 s1) rfl ?_ ?_
  · first
    | (simp (disch := omega) only [pe_all, pe_wi w0, pe_I_wR, pe_K_wI, pe_K_wR, pm_I0, pm_KM hF, pm_Kh, pm_uj, pm_uk, pm_us, pm_wI0]; done)
    | (simp (disch := omega) only [pe_all, pe_wi w0, pe_I_wR, pe_K_wI, pe_K_wR, pm_I0, pm_KM hF, pm_Kh, pm_uj, pm_uk, pm_us, pm_wI0]; (repeat' apply And.intro) <;> first | assumption | omega | decide)
  · try simp (disch := omega) only [pe_wi w0, pe_I_wR, pe_K_wI, pe_K_wR, pm_I0, pm_KM hF, pm_Kh, pm_uj, pm_uk, pm_us, pm_wI0]
    exact pe_two k1 k2
theorem b173_49 {d : Nat} {Φ : Option pe_V → pe_H → Prop} {σ : pe_H} {M q : Nat} {y : Nat → Int → Int} (hF : pm_F M σ) {x1 : Int} {o2 : Option pe_V} {x3 : Int}    (k : pe_X d 173 (65, [some (.inr (.inr M)), some (.inl x1), o2, some (.inl x3)], [.inl 0], pm_h M σ q y) Φ) : pe_X d 173 (49, [some (.inr (.inr M)), some (.inl x1), o2, some (.inl x3)], [], pm_h M σ q y) Φ := by
  refine pe_blk 25 2 ck173 [] (65, [some (.inr (.inr M)), some (.inl x1), o2, some (.inl x3)], [.inl 0], pm_h M σ q y) rfl ?_ ?_
  · exact trivial
  · exact k
theorem b173_53 {d : Nat} {Φ : Option pe_V → pe_H → Prop} {σ : pe_H} {M q : Nat} {y : Nat → Int → Int} (hF : pm_F M σ) {x1 : Int} {x2 : Int} {x3 : Int}    (k : pe_M d 172 [.inr (.inr M)] (pm_h M σ q y) (fun r σ' => pe_X d 173 (61, [some (.inr (.inr M)), some (.inl x1), some (.inl x2), some (.inl x3)], r.toList ++ [.inl (10 * x2)], σ') Φ)) : pe_X d 173 (53, [some (.inr (.inr M)), some (.inl x1), some (.inl x2), some (.inl x3)], [], pm_h M σ q y) Φ := by
  refine pe_blk 27 4 ck173 [] (58, [some (.inr (.inr M)), some (.inl x1), some (.inl x2), some (.inl x3)], [.inr (.inr M), .inl (10 * x2)], pm_h M σ q y) rfl ?_ ?_
  · exact trivial
  · try simp (disch := omega) only [pe_K_wI, pe_K_wR, pm_KM hF, pm_Kh]
    have hrc : pe_K (pm_h M σ q y) M = 9 := by first | assumption | (simp (disch := omega) only [pe_K_wI, pe_K_wR, pm_KM hF, pm_Kh]; done) | (simp (disch := omega) only [pe_K_wI, pe_K_wR, pm_KM hF, pm_Kh]; assumption)
    exact pe_cal 31 ck173 rfl rfl rfl ⟨hrc, by decide⟩ k
theorem b173_61 {d : Nat} {Φ : Option pe_V → pe_H → Prop} {σ : pe_H} {M q : Nat} {y : Nat → Int → Int} (hF : pm_F M σ) {x1 : Int} {o2 : Option pe_V} {x3 : Int} {s0 : Int} {s1 : Int}    (k : pe_X d 173 (65, [some (.inr (.inr M)), some (.inl x1), o2, some (.inl x3)], [.inl ((s0 + s1) - 48)], pm_h M σ q y) Φ) : pe_X d 173 (61, [some (.inr (.inr M)), some (.inl x1), o2, some (.inl x3)], [.inl s1, .inl s0], pm_h M σ q y) Φ := by
  refine pe_blk 32 3 ck173 [] (65, [some (.inr (.inr M)), some (.inl x1), o2, some (.inl x3)], [.inl ((s0 + s1) - 48)], pm_h M σ q y) rfl ?_ ?_
  · exact trivial
  · exact k
theorem b173_65 {d : Nat} {Φ : Option pe_V → pe_H → Prop} {σ : pe_H} {M q : Nat} {y : Nat → Int → Int} (hF : pm_F M σ) {x1 : Int} {o2 : Option pe_V} {x3 : Int} {s0 : Int}  (w0 : pe_in (y 0 40) := by unfold pe_in; omega)  (k1 : (y 0 40) = 0 → pe_X d 173 (82, [some (.inr (.inr M)), some (.inl x1), some (.inl s0), some (.inl x3)], [.inl (y 0 39), .inr (.inr M)], pm_h M σ q y) Φ) (k2 : ¬ ((y 0 40) = 0) → pe_X d 173 (78, [some (.inr (.inr M)), some (.inl x1), some (.inl s0), some (.inl x3)], [.inl (y 0 39), .inr (.inr M)], pm_h M σ q y) Φ) : pe_X d 173 (65, [some (.inr (.inr M)), some (.inl x1), o2, some (.inl x3)], [.inl s0], pm_h M σ q y) Φ := by
  refine pe_blk 35 7 ck173 [pe_K (pm_h M σ q y) M = 9, pe_K (pm_h M σ q y) M = 9] (cond (decide ((pe_w (pe_I (pm_h M σ q y) M 40)) = 0)) 82 78, [some (.inr (.inr M)), some (.inl x1), some (.inl s0), some (.inl x3)], [.inl (pe_I (pm_h M σ q y) M 39), .inr (.inr M)], pm_h M σ q y) rfl ?_ ?_
  · first
    | (simp (disch := omega) only [pe_all, pe_wi w0, pe_I_wR, pe_K_wI, pe_K_wR, pm_I0, pm_KM hF, pm_Kh, pm_uj, pm_uk, pm_us]; done)
    | (simp (disch := omega) only [pe_all, pe_wi w0, pe_I_wR, pe_K_wI, pe_K_wR, pm_I0, pm_KM hF, pm_Kh, pm_uj, pm_uk, pm_us]; (repeat' apply And.intro) <;> first | assumption | omega | decide)
  · try simp (disch := omega) only [pe_wi w0, pe_I_wR, pe_K_wI, pe_K_wR, pm_I0, pm_KM hF, pm_Kh, pm_uj, pm_uk, pm_us]
    exact pe_two k1 k2
theorem b173_78 {d : Nat} {Φ : Option pe_V → pe_H → Prop} {σ : pe_H} {M q : Nat} {y : Nat → Int → Int} (hF : pm_F M σ) {x1 : Int} {x2 : Int} {x3 : Int} {s1 : Int}    (k : pe_X d 173 (83, [some (.inr (.inr M)), some (.inl x1), some (.inl x2), some (.inl x3)], [.inl 0, .inl s1, .inr (.inr M)], pm_h M σ q y) Φ) : pe_X d 173 (78, [some (.inr (.inr M)), some (.inl x1), some (.inl x2), some (.inl x3)], [.inl s1, .inr (.inr M)], pm_h M σ q y) Φ := by
  refine pe_blk 42 2 ck173 [] (83, [some (.inr (.inr M)), some (.inl x1), some (.inl x2), some (.inl x3)], [.inl 0, .inl s1, .inr (.inr M)], pm_h M σ q y) rfl ?_ ?_
  · exact trivial
  · exact k
theorem b173_82 {d : Nat} {Φ : Option pe_V → pe_H → Prop} {σ : pe_H} {M q : Nat} {y : Nat → Int → Int} (hF : pm_F M σ) {x1 : Int} {x2 : Int} {x3 : Int} {s1 : Int}    (k : pe_X d 173 (83, [some (.inr (.inr M)), some (.inl x1), some (.inl x2), some (.inl x3)], [.inl 1, .inl s1, .inr (.inr M)], pm_h M σ q y) Φ) : pe_X d 173 (82, [some (.inr (.inr M)), some (.inl x1), some (.inl x2), some (.inl x3)], [.inl s1, .inr (.inr M)], pm_h M σ q y) Φ := by
  refine pe_blk 44 1 ck173 [] (83, [some (.inr (.inr M)), some (.inl x1), some (.inl x2), some (.inl x3)], [.inl 1, .inl s1, .inr (.inr M)], pm_h M σ q y) rfl ?_ ?_
  · exact trivial
  · exact k
theorem b173_83 {d : Nat} {Φ : Option pe_V → pe_H → Prop} {σ : pe_H} {M q : Nat} {y : Nat → Int → Int} (hF : pm_F M σ) {x1 : Int} {x2 : Int} {x3 : Int} {s1 : Int} {s2 : Int}    (k : pe_X d 173 (4, [some (.inr (.inr M)), some (.inl x1), some (.inl x2), some (.inl (x3 + 1))], [], pm_h M σ q (pm_u y 0 39 (s1 + s2))) Φ) : pe_X d 173 (83, [some (.inr (.inr M)), some (.inl x1), some (.inl x2), some (.inl x3)], [.inl s2, .inl s1, .inr (.inr M)], pm_h M σ q y) Φ := by
  refine pe_blk 45 4 ck173 [pe_K (pm_h M σ q y) M = 9] (4, [some (.inr (.inr M)), some (.inl x1), some (.inl x2), some (.inl (x3 + 1))], [], pe_wI (pm_h M σ q y) M 39 (s1 + s2)) rfl ?_ ?_
  · first
    | (simp (disch := omega) only [pe_all, pe_K_wI, pe_K_wR, pm_KM hF, pm_Kh, pm_wI0]; done)
    | (simp (disch := omega) only [pe_all, pe_K_wI, pe_K_wR, pm_KM hF, pm_Kh, pm_wI0]; (repeat' apply And.intro) <;> first | assumption | omega | decide)
  · try simp (disch := omega) only [pe_K_wI, pe_K_wR, pm_KM hF, pm_Kh, pm_wI0]
    exact k
theorem b173_93 {d : Nat} {Φ : Option pe_V → pe_H → Prop} {σ : pe_H} {M q : Nat} {y : Nat → Int → Int} (hF : pm_F M σ) {o1 : Option pe_V} {x2 : Int} {o3 : Option pe_V}    (k : Φ (some (.inl x2)) (pm_h M σ q y)) : pe_X d 173 (93, [some (.inr (.inr M)), o1, some (.inl x2), o3], [], pm_h M σ q y) Φ := by
  refine pe_blk 49 1 ck173 [] (94, [some (.inr (.inr M)), o1, some (.inl x2), o3], [.inl x2], pm_h M σ q y) rfl ?_ ?_
  · exact trivial
  · exact pe_fine 50 ck173 rfl rfl rfl trivial k
-- StepMachinesModel.isStep(I)Z
def T174 : List (Nat × Instr × Nat) := [(0, .iload_n 0, 1), (1, .invokestatic 223, 3), (4, .ifCond .ne 33, 3), (7, .iload_n 0, 1), (8, .bipush 97, 2), (10, .if_icmp .eq 27, 3), (13, .iload_n 0, 1), (14, .bipush 109, 2), (16, .if_icmp .eq 21, 3), (19, .iload_n 0, 1), (20, .bipush 122, 2), (22, .if_icmp .eq 15, 3), (25, .iload_n 0, 1), (26, .bipush 116, 2), (28, .if_icmp .eq 9, 3), (31, .iload_n 0, 1), (32, .bipush 102, 2), (34, .if_icmp .ne 7, 3), (37, .iconst 1, 1), (38, .goto 4, 3), (41, .iconst 0, 1), (42, .ireturn, 1)]
theorem ck174 : pe_ctx 174 9 false (some .boolean) 1 T174 := ⟨rfl, rfl, rfl, rfl, by decide +kernel, by decide, by decide⟩
theorem b174_0 {d : Nat} {Φ : Option pe_V → pe_H → Prop} {σ : pe_H} {M q : Nat} {y : Nat → Int → Int} (hF : pm_F M σ) {x0 : Int}    (k : pe_M d 160 [.inl x0] (pm_h M σ q y) (fun r σ' => pe_X d 174 (4, [some (.inl x0)], r.toList ++ [], σ') Φ)) : pe_X d 174 (0, [some (.inl x0)], [], pm_h M σ q y) Φ := by
  refine pe_blk 0 1 ck174 [] (1, [some (.inl x0)], [.inl x0], pm_h M σ q y) rfl ?_ ?_
  · exact trivial
  · exact pe_cal 1 ck174 rfl rfl rfl trivial k
theorem b174_4 {d : Nat} {Φ : Option pe_V → pe_H → Prop} {σ : pe_H} {M q : Nat} {y : Nat → Int → Int} (hF : pm_F M σ) {x0 : Int} {s0 : Int}  (w0 : pe_in s0 := by unfold pe_in; omega)  (k1 : ¬ s0 = 0 → pe_X d 174 (37, [some (.inl x0)], [], pm_h M σ q y) Φ) (k2 : s0 = 0 → pe_X d 174 (7, [some (.inl x0)], [], pm_h M σ q y) Φ) : pe_X d 174 (4, [some (.inl x0)], [.inl s0], pm_h M σ q y) Φ := by
  refine pe_blk 2 1 ck174 [] (cond (decide (¬ (pe_w s0) = 0)) 37 7, [some (.inl x0)], [], pm_h M σ q y) rfl ?_ ?_
  · exact trivial
  · try simp (disch := omega) only [pe_wi w0]
    exact pe_two' k1 k2
theorem b174_7 {d : Nat} {Φ : Option pe_V → pe_H → Prop} {σ : pe_H} {M q : Nat} {y : Nat → Int → Int} (hF : pm_F M σ) {x0 : Int}  (w0 : pe_in x0 := by unfold pe_in; omega)  (k1 : x0 = 97 → pe_X d 174 (37, [some (.inl x0)], [], pm_h M σ q y) Φ) (k2 : ¬ (x0 = 97) → pe_X d 174 (13, [some (.inl x0)], [], pm_h M σ q y) Φ) : pe_X d 174 (7, [some (.inl x0)], [], pm_h M σ q y) Φ := by
  refine pe_blk 3 3 ck174 [] (cond (decide ((pe_w x0) = (pe_w 97))) 37 13, [some (.inl x0)], [], pm_h M σ q y) rfl ?_ ?_
  · exact trivial
  · try simp (disch := omega) only [pe_wi w0, pe_wi (x := 97) ⟨by decide, by decide⟩]
    exact pe_two k1 k2
theorem b174_13 {d : Nat} {Φ : Option pe_V → pe_H → Prop} {σ : pe_H} {M q : Nat} {y : Nat → Int → Int} (hF : pm_F M σ) {x0 : Int}  (w0 : pe_in x0 := by unfold pe_in; omega)  (k1 : x0 = 109 → pe_X d 174 (37, [some (.inl x0)], [], pm_h M σ q y) Φ) (k2 : ¬ (x0 = 109) → pe_X d 174 (19, [some (.inl x0)], [], pm_h M σ q y) Φ) : pe_X d 174 (13, [some (.inl x0)], [], pm_h M σ q y) Φ := by
  refine pe_blk 6 3 ck174 [] (cond (decide ((pe_w x0) = (pe_w 109))) 37 19, [some (.inl x0)], [], pm_h M σ q y) rfl ?_ ?_
  · exact trivial
  · try simp (disch := omega) only [pe_wi w0, pe_wi (x := 109) ⟨by decide, by decide⟩]
    exact pe_two k1 k2
theorem b174_19 {d : Nat} {Φ : Option pe_V → pe_H → Prop} {σ : pe_H} {M q : Nat} {y : Nat → Int → Int} (hF : pm_F M σ) {x0 : Int}  (w0 : pe_in x0 := by unfold pe_in; omega)  (k1 : x0 = 122 → pe_X d 174 (37, [some (.inl x0)], [], pm_h M σ q y) Φ) (k2 : ¬ (x0 = 122) → pe_X d 174 (25, [some (.inl x0)], [], pm_h M σ q y) Φ) : pe_X d 174 (19, [some (.inl x0)], [], pm_h M σ q y) Φ := by
  refine pe_blk 9 3 ck174 [] (cond (decide ((pe_w x0) = (pe_w 122))) 37 25, [some (.inl x0)], [], pm_h M σ q y) rfl ?_ ?_
  · exact trivial
  · try simp (disch := omega) only [pe_wi w0, pe_wi (x := 122) ⟨by decide, by decide⟩]
    exact pe_two k1 k2
theorem b174_25 {d : Nat} {Φ : Option pe_V → pe_H → Prop} {σ : pe_H} {M q : Nat} {y : Nat → Int → Int} (hF : pm_F M σ) {x0 : Int}  (w0 : pe_in x0 := by unfold pe_in; omega)  (k1 : x0 = 116 → pe_X d 174 (37, [some (.inl x0)], [], pm_h M σ q y) Φ) (k2 : ¬ (x0 = 116) → pe_X d 174 (31, [some (.inl x0)], [], pm_h M σ q y) Φ) : pe_X d 174 (25, [some (.inl x0)], [], pm_h M σ q y) Φ := by
  refine pe_blk 12 3 ck174 [] (cond (decide ((pe_w x0) = (pe_w 116))) 37 31, [some (.inl x0)], [], pm_h M σ q y) rfl ?_ ?_
  · exact trivial
  · try simp (disch := omega) only [pe_wi w0, pe_wi (x := 116) ⟨by decide, by decide⟩]
    exact pe_two k1 k2
theorem b174_31 {d : Nat} {Φ : Option pe_V → pe_H → Prop} {σ : pe_H} {M q : Nat} {y : Nat → Int → Int} (hF : pm_F M σ) {x0 : Int}  (w0 : pe_in x0 := by unfold pe_in; omega)  (k1 : ¬ x0 = 102 → pe_X d 174 (41, [some (.inl x0)], [], pm_h M σ q y) Φ) (k2 : x0 = 102 → pe_X d 174 (37, [some (.inl x0)], [], pm_h M σ q y) Φ) : pe_X d 174 (31, [some (.inl x0)], [], pm_h M σ q y) Φ := by
  refine pe_blk 15 3 ck174 [] (cond (decide (¬ (pe_w x0) = (pe_w 102))) 41 37, [some (.inl x0)], [], pm_h M σ q y) rfl ?_ ?_
  · exact trivial
  · try simp (disch := omega) only [pe_wi w0, pe_wi (x := 102) ⟨by decide, by decide⟩]
    exact pe_two' k1 k2
theorem b174_37 {d : Nat} {Φ : Option pe_V → pe_H → Prop} {σ : pe_H} {M q : Nat} {y : Nat → Int → Int} (hF : pm_F M σ) {o0 : Option pe_V}    (k : pe_X d 174 (42, [o0], [.inl 1], pm_h M σ q y) Φ) : pe_X d 174 (37, [o0], [], pm_h M σ q y) Φ := by
  refine pe_blk 18 2 ck174 [] (42, [o0], [.inl 1], pm_h M σ q y) rfl ?_ ?_
  · exact trivial
  · exact k
theorem b174_41 {d : Nat} {Φ : Option pe_V → pe_H → Prop} {σ : pe_H} {M q : Nat} {y : Nat → Int → Int} (hF : pm_F M σ) {o0 : Option pe_V}    (k : pe_X d 174 (42, [o0], [.inl 0], pm_h M σ q y) Φ) : pe_X d 174 (41, [o0], [], pm_h M σ q y) Φ := by
  refine pe_blk 20 1 ck174 [] (42, [o0], [.inl 0], pm_h M σ q y) rfl ?_ ?_
  · exact trivial
  · exact k
theorem b174_42 {d : Nat} {Φ : Option pe_V → pe_H → Prop} {σ : pe_H} {M q : Nat} {y : Nat → Int → Int} (hF : pm_F M σ) {o0 : Option pe_V} {s0 : Int}   (h0 : s0 = 0 ∨ s0 = 1 := by first | assumption | omega) (k : Φ (some (.inl s0)) (pm_h M σ q y)) : pe_X d 174 (42, [o0], [.inl s0], pm_h M σ q y) Φ := by
  exact pe_fine 21 ck174 rfl rfl rfl h0 k
-- StepMachinesModel.readSteps(I)V
def T175 : List (Nat × Instr × Nat) := [(0, .aload_n 0, 1), (1, .getfield 117, 3), (4, .iload_n 1, 1), (5, .iconst 1, 1), (6, .iadd, 1), (7, .aload_n 0, 1), (8, .getfield 285, 3), (11, .iastore, 1), (12, .aload_n 0, 1), (13, .getfield 273, 3), (16, .ifCond .ne 75, 3), (19, .aload_n 0, 1), (20, .invokevirtual 277, 3), (23, .invokestatic 288, 3), (26, .ifCond .eq 65, 3), (29, .aload_n 0, 1), (30, .invokevirtual 277, 3), (33, .istore_n 2, 1), (34, .aload_n 0, 1), (35, .dup, 1), (36, .getfield 267, 3), (39, .iconst 1, 1), (40, .iadd, 1), (41, .putfield 267, 3), (44, .aload_n 0, 1), (45, .getfield 120, 3), (48, .aload_n 0, 1), (49, .getfield 285, 3), (52, .iload_n 2, 1), (53, .iastore, 1), (54, .aload_n 0, 1), (55, .getfield 123, 3), (58, .aload_n 0, 1), (59, .getfield 285, 3), (62, .iload_n 2, 1), (63, .bipush 102, 2), (65, .if_icmp .ne 7, 3), (68, .iconst 0, 1), (69, .goto 8, 3), (72, .aload_n 0, 1), (73, .iconst 1, 1), (74, .invokevirtual 291, 3), (77, .iastore, 1), (78, .aload_n 0, 1), (79, .dup, 1), (80, .getfield 285, 3), (83, .iconst 1, 1), (84, .iadd, 1), (85, .putfield 285, 3), (88, .goto (-76), 3), (91, .aload_n 0, 1), (92, .getfield 117, 3), (95, .iload_n 1, 1), (96, .iconst 2, 1), (97, .iadd, 1), (98, .aload_n 0, 1), (99, .getfield 285, 3), (102, .aload_n 0, 1), (103, .getfield 117, 3), (106, .iload_n 1, 1), (107, .iconst 1, 1), (108, .iadd, 1), (109, .iaload, 1), (110, .isub, 1), (111, .iastore, 1), (112, .return_, 1)]
theorem ck175 : pe_ctx 175 9 false none 3 T175 := ⟨rfl, rfl, rfl, rfl, by decide +kernel, by decide, by decide⟩
theorem b175_0 {d : Nat} {Φ : Option pe_V → pe_H → Prop} {σ : pe_H} {M q : Nat} {y : Nat → Int → Int} (hF : pm_F M σ) {x1 : Int} {o2 : Option pe_V}  (w0 : pe_in (x1 + 1) := by unfold pe_in; omega) (h0 : 0 ≤ (x1 + 1) := by first | assumption | omega) (h1 : (x1 + 1) < 153 := by first | assumption | omega) (k : pe_X d 175 (12, [some (.inr (.inr M)), some (.inl x1), o2], [], pm_h M σ q (pm_u y 35 (x1 + 1) (y 0 47))) Φ) : pe_X d 175 (0, [some (.inr (.inr M)), some (.inl x1), o2], [], pm_h M σ q y) Φ := by
  have hM2 := pm_2 hF
  refine pe_blk 0 8 ck175 [pe_K (pm_h M σ q y) M = 9, pe_K (pm_h M σ q y) M = 9, pe_K (pm_h M σ q y) (pe_R (pm_h M σ q y) M 44) = 10, 0 ≤ (pe_w (x1 + 1)), (pe_w (x1 + 1)) < pe_L (pm_h M σ q y) (pe_R (pm_h M σ q y) M 44), 2 ≤ (pe_R (pm_h M σ q y) M 44)] (12, [some (.inr (.inr M)), some (.inl x1), o2], [], pe_wI (pm_h M σ q y) (pe_R (pm_h M σ q y) M 44) (pe_w (x1 + 1)) (pe_I (pm_h M σ q y) M 47)) rfl ?_ ?_
  · first
    | (simp (disch := omega) only [pe_all, pe_wi w0, pe_I_wR, pe_K_wI, pe_K_wR, pe_L_wI, pe_L_wR, pe_R_nej, pe_R_wI, pm_I0, pm_K35 hF, pm_KM hF, pm_Kh, pm_L35 hF, pm_Lh, pm_R44 hF, pm_Rh, pm_uj, pm_uk, pm_us, pm_wIk]; done)
    | (simp (disch := omega) only [pe_all, pe_wi w0, pe_I_wR, pe_K_wI, pe_K_wR, pe_L_wI, pe_L_wR, pe_R_nej, pe_R_wI, pm_I0, pm_K35 hF, pm_KM hF, pm_Kh, pm_L35 hF, pm_Lh, pm_R44 hF, pm_Rh, pm_uj, pm_uk, pm_us, pm_wIk]; (repeat' apply And.intro) <;> first | assumption | omega | decide)
  · try simp (disch := omega) only [pe_wi w0, pe_I_wR, pe_K_wI, pe_K_wR, pe_L_wI, pe_L_wR, pe_R_nej, pe_R_wI, pm_I0, pm_K35 hF, pm_KM hF, pm_Kh, pm_L35 hF, pm_Lh, pm_R44 hF, pm_Rh, pm_uj, pm_uk, pm_us, pm_wIk]
    exact k
theorem b175_12 {d : Nat} {Φ : Option pe_V → pe_H → Prop} {σ : pe_H} {M q : Nat} {y : Nat → Int → Int} (hF : pm_F M σ) {x1 : Int} {o2 : Option pe_V}  (w0 : pe_in (y 0 40) := by unfold pe_in; omega)  (k1 : ¬ (y 0 40) = 0 → pe_X d 175 (91, [some (.inr (.inr M)), some (.inl x1), o2], [], pm_h M σ q y) Φ) (k2 : (y 0 40) = 0 → pe_X d 175 (19, [some (.inr (.inr M)), some (.inl x1), o2], [], pm_h M σ q y) Φ) : pe_X d 175 (12, [some (.inr (.inr M)), some (.inl x1), o2], [], pm_h M σ q y) Φ := by
  refine pe_blk 8 3 ck175 [pe_K (pm_h M σ q y) M = 9] (cond (decide (¬ (pe_w (pe_I (pm_h M σ q y) M 40)) = 0)) 91 19, [some (.inr (.inr M)), some (.inl x1), o2], [], pm_h M σ q y) rfl ?_ ?_
  · first
    | (simp (disch := omega) only [pe_all, pe_wi w0, pe_I_wR, pe_K_wI, pe_K_wR, pm_I0, pm_KM hF, pm_Kh, pm_uj, pm_uk, pm_us]; done)
    | (simp (disch := omega) only [pe_all, pe_wi w0, pe_I_wR, pe_K_wI, pe_K_wR, pm_I0, pm_KM hF, pm_Kh, pm_uj, pm_uk, pm_us]; (repeat' apply And.intro) <;> first | assumption | omega | decide)
  · try simp (disch := omega) only [pe_wi w0, pe_I_wR, pe_K_wI, pe_K_wR, pm_I0, pm_KM hF, pm_Kh, pm_uj, pm_uk, pm_us]
    exact pe_two' k1 k2
theorem b175_19 {d : Nat} {Φ : Option pe_V → pe_H → Prop} {σ : pe_H} {M q : Nat} {y : Nat → Int → Int} (hF : pm_F M σ) {x1 : Int} {o2 : Option pe_V}    (k : pe_M d 172 [.inr (.inr M)] (pm_h M σ q y) (fun r σ' => pe_X d 175 (23, [some (.inr (.inr M)), some (.inl x1), o2], r.toList ++ [], σ') Φ)) : pe_X d 175 (19, [some (.inr (.inr M)), some (.inl x1), o2], [], pm_h M σ q y) Φ := by
  refine pe_blk 11 1 ck175 [] (20, [some (.inr (.inr M)), some (.inl x1), o2], [.inr (.inr M)], pm_h M σ q y) rfl ?_ ?_
  · exact trivial
  · try simp (disch := omega) only [pe_K_wI, pe_K_wR, pm_KM hF, pm_Kh]
    have hrc : pe_K (pm_h M σ q y) M = 9 := by first | assumption | (simp (disch := omega) only [pe_K_wI, pe_K_wR, pm_KM hF, pm_Kh]; done) | (simp (disch := omega) only [pe_K_wI, pe_K_wR, pm_KM hF, pm_Kh]; assumption)
    exact pe_cal 12 ck175 rfl rfl rfl ⟨hrc, by decide⟩ k
theorem b175_23 {d : Nat} {Φ : Option pe_V → pe_H → Prop} {σ : pe_H} {M q : Nat} {y : Nat → Int → Int} (hF : pm_F M σ) {x1 : Int} {o2 : Option pe_V} {s0 : Int}    (k : pe_M d 174 [.inl s0] (pm_h M σ q y) (fun r σ' => pe_X d 175 (26, [some (.inr (.inr M)), some (.inl x1), o2], r.toList ++ [], σ') Φ)) : pe_X d 175 (23, [some (.inr (.inr M)), some (.inl x1), o2], [.inl s0], pm_h M σ q y) Φ := by
  exact pe_cal 13 ck175 rfl rfl rfl trivial k
theorem b175_26 {d : Nat} {Φ : Option pe_V → pe_H → Prop} {σ : pe_H} {M q : Nat} {y : Nat → Int → Int} (hF : pm_F M σ) {x1 : Int} {o2 : Option pe_V} {s0 : Int}  (w0 : pe_in s0 := by unfold pe_in; omega)  (k1 : s0 = 0 → pe_X d 175 (91, [some (.inr (.inr M)), some (.inl x1), o2], [], pm_h M σ q y) Φ) (k2 : ¬ (s0 = 0) → pe_X d 175 (29, [some (.inr (.inr M)), some (.inl x1), o2], [], pm_h M σ q y) Φ) : pe_X d 175 (26, [some (.inr (.inr M)), some (.inl x1), o2], [.inl s0], pm_h M σ q y) Φ := by
  refine pe_blk 14 1 ck175 [] (cond (decide ((pe_w s0) = 0)) 91 29, [some (.inr (.inr M)), some (.inl x1), o2], [], pm_h M σ q y) rfl ?_ ?_
  · exact trivial
  · try simp (disch := omega) only [pe_wi w0]
    exact pe_two k1 k2
theorem b175_29 {d : Nat} {Φ : Option pe_V → pe_H → Prop} {σ : pe_H} {M q : Nat} {y : Nat → Int → Int} (hF : pm_F M σ) {x1 : Int} {o2 : Option pe_V}    (k : pe_M d 172 [.inr (.inr M)] (pm_h M σ q y) (fun r σ' => pe_X d 175 (33, [some (.inr (.inr M)), some (.inl x1), o2], r.toList ++ [], σ') Φ)) : pe_X d 175 (29, [some (.inr (.inr M)), some (.inl x1), o2], [], pm_h M σ q y) Φ := by
  refine pe_blk 15 1 ck175 [] (30, [some (.inr (.inr M)), some (.inl x1), o2], [.inr (.inr M)], pm_h M σ q y) rfl ?_ ?_
  · exact trivial
  · try simp (disch := omega) only [pe_K_wI, pe_K_wR, pm_KM hF, pm_Kh]
    have hrc : pe_K (pm_h M σ q y) M = 9 := by first | assumption | (simp (disch := omega) only [pe_K_wI, pe_K_wR, pm_KM hF, pm_Kh]; done) | (simp (disch := omega) only [pe_K_wI, pe_K_wR, pm_KM hF, pm_Kh]; assumption)
    exact pe_cal 16 ck175 rfl rfl rfl ⟨hrc, by decide⟩ k
theorem b175_33 {d : Nat} {Φ : Option pe_V → pe_H → Prop} {σ : pe_H} {M q : Nat} {y : Nat → Int → Int} (hF : pm_F M σ) {x1 : Int} {o2 : Option pe_V} {s0 : Int}  (w0 : pe_in (y 0 47) := by unfold pe_in; omega) (w1 : pe_in s0 := by unfold pe_in; omega) (h0 : 0 ≤ (y 0 47) := by first | assumption | omega) (h1 : (y 0 47) < 100 := by first | assumption | omega) (k1 : ¬ s0 = 102 → pe_X d 175 (72, [some (.inr (.inr M)), some (.inl x1), some (.inl s0)], [.inl (y 0 47), .inr (.inr (M + 37))], pm_h M σ q (pm_u (pm_u y 0 39 ((y 0 39) + 1)) 36 (y 0 47) s0)) Φ) (k2 : s0 = 102 → pe_X d 175 (68, [some (.inr (.inr M)), some (.inl x1), some (.inl s0)], [.inl (y 0 47), .inr (.inr (M + 37))], pm_h M σ q (pm_u (pm_u y 0 39 ((y 0 39) + 1)) 36 (y 0 47) s0)) Φ) : pe_X d 175 (33, [some (.inr (.inr M)), some (.inl x1), o2], [.inl s0], pm_h M σ q y) Φ := by
  have hM2 := pm_2 hF
  refine pe_blk 17 20 ck175 [pe_K (pm_h M σ q y) M = 9, pe_K (pm_h M σ q y) M = 9, pe_K (pe_wI (pm_h M σ q y) M 39 ((pe_I (pm_h M σ q y) M 39) + 1)) M = 9, pe_K (pe_wI (pm_h M σ q y) M 39 ((pe_I (pm_h M σ q y) M 39) + 1)) M = 9, pe_K (pe_wI (pm_h M σ q y) M 39 ((pe_I (pm_h M σ q y) M 39) + 1)) (pe_R (pe_wI (pm_h M σ q y) M 39 ((pe_I (pm_h M σ q y) M 39) + 1)) M 45) = 10, 0 ≤ (pe_w (pe_I (pe_wI (pm_h M σ q y) M 39 ((pe_I (pm_h M σ q y) M 39) + 1)) M 47)), (pe_w (pe_I (pe_wI (pm_h M σ q y) M 39 ((pe_I (pm_h M σ q y) M 39) + 1)) M 47)) < pe_L (pe_wI (pm_h M σ q y) M 39 ((pe_I (pm_h M σ q y) M 39) + 1)) (pe_R (pe_wI (pm_h M σ q y) M 39 ((pe_I (pm_h M σ q y) M 39) + 1)) M 45), 2 ≤ (pe_R (pe_wI (pm_h M σ q y) M 39 ((pe_I (pm_h M σ q y) M 39) + 1)) M 45), pe_K (pe_wI (pe_wI (pm_h M σ q y) M 39 ((pe_I (pm_h M σ q y) M 39) + 1)) (pe_R (pe_wI (pm_h M σ q y) M 39 ((pe_I (pm_h M σ q y) M 39) + 1)) M 45) (pe_w (pe_I (pe_wI (pm_h M σ q y) M 39 ((pe_I (pm_h M σ q y) M 39) + 1)) M 47)) s0) M = 9, pe_K (pe_wI (pe_wI (pm_h M σ q y) M 39 ((pe_I (pm_h M σ q y) M 39) + 1)) (pe_R (pe_wI (pm_h M σ q y) M 39 ((pe_I (pm_h M σ q y) M 39) + 1)) M 45) (pe_w (pe_I (pe_wI (pm_h M σ q y) M 39 ((pe_I (pm_h M σ q y) M 39) + 1)) M 47)) s0) M = 9] (cond (decide (¬ (pe_w s0) = (pe_w 102))) 72 68, [some (.inr (.inr M)), some (.inl x1), some (.inl s0)], [.inl (pe_I (pe_wI (pe_wI (pm_h M σ q y) M 39 ((pe_I (pm_h M σ q y) M 39) + 1)) (pe_R (pe_wI (pm_h M σ q y) M 39 ((pe_I (pm_h M σ q y) M 39) + 1)) M 45) (pe_w (pe_I (pe_wI (pm_h M σ q y) M 39 ((pe_I (pm_h M σ q y) M 39) + 1)) M 47)) s0) M 47), .inr (.inr (pe_R (pe_wI (pe_wI (pm_h M σ q y) M 39 ((pe_I (pm_h M σ q y) M 39) + 1)) (pe_R (pe_wI (pm_h M σ q y) M 39 ((pe_I (pm_h M σ q y) M 39) + 1)) M 45) (pe_w (pe_I (pe_wI (pm_h M σ q y) M 39 ((pe_I (pm_h M σ q y) M 39) + 1)) M 47)) s0) M 46))], pe_wI (pe_wI (pm_h M σ q y) M 39 ((pe_I (pm_h M σ q y) M 39) + 1)) (pe_R (pe_wI (pm_h M σ q y) M 39 ((pe_I (pm_h M σ q y) M 39) + 1)) M 45) (pe_w (pe_I (pe_wI (pm_h M σ q y) M 39 ((pe_I (pm_h M σ q y) M 39) + 1)) M 47)) s0) rfl ?_ ?_
  · first
    | (simp (disch := omega) only [pe_all, pe_wi w0, pe_wi w1, pe_wi (x := 102) ⟨by decide, by decide⟩, pe_I_wR, pe_K_wI, pe_K_wR, pe_L_wI, pe_L_wR, pe_R_nej, pe_R_wI, pm_I0, pm_K36 hF, pm_KM hF, pm_Kh, pm_L36 hF, pm_Lh, pm_R45 hF, pm_R46 hF, pm_Rh, pm_uj, pm_uk, pm_us, pm_wI0, pm_wIk]; done)
    | (simp (disch := omega) only [pe_all, pe_wi w0, pe_wi w1, pe_wi (x := 102) ⟨by decide, by decide⟩, pe_I_wR, pe_K_wI, pe_K_wR, pe_L_wI, pe_L_wR, pe_R_nej, pe_R_wI, pm_I0, pm_K36 hF, pm_KM hF, pm_Kh, pm_L36 hF, pm_Lh, pm_R45 hF, pm_R46 hF, pm_Rh, pm_uj, pm_uk, pm_us, pm_wI0, pm_wIk]; (repeat' apply And.intro) <;> first | assumption | omega | decide)
  · try simp (disch := omega) only [pe_wi w0, pe_wi w1, pe_wi (x := 102) ⟨by decide, by decide⟩, pe_I_wR, pe_K_wI, pe_K_wR, pe_L_wI, pe_L_wR, pe_R_nej, pe_R_wI, pm_I0, pm_K36 hF, pm_KM hF, pm_Kh, pm_L36 hF, pm_Lh, pm_R45 hF, pm_R46 hF, pm_Rh, pm_uj, pm_uk, pm_us, pm_wI0, pm_wIk]
    exact pe_two' k1 k2
theorem b175_68 {d : Nat} {Φ : Option pe_V → pe_H → Prop} {σ : pe_H} {M q : Nat} {y : Nat → Int → Int} (hF : pm_F M σ) {x1 : Int} {o2 : Option pe_V} {s1 : Int}    (k : pe_X d 175 (77, [some (.inr (.inr M)), some (.inl x1), o2], [.inl 0, .inl s1, .inr (.inr (M + 37))], pm_h M σ q y) Φ) : pe_X d 175 (68, [some (.inr (.inr M)), some (.inl x1), o2], [.inl s1, .inr (.inr (M + 37))], pm_h M σ q y) Φ := by
  refine pe_blk 37 2 ck175 [] (77, [some (.inr (.inr M)), some (.inl x1), o2], [.inl 0, .inl s1, .inr (.inr (M + 37))], pm_h M σ q y) rfl ?_ ?_
  · exact trivial
  · exact k
theorem b175_72 {d : Nat} {Φ : Option pe_V → pe_H → Prop} {σ : pe_H} {M q : Nat} {y : Nat → Int → Int} (hF : pm_F M σ) {x1 : Int} {o2 : Option pe_V} {s1 : Int}    (k : pe_M d 173 [.inr (.inr M), .inl 1] (pm_h M σ q y) (fun r σ' => pe_X d 175 (77, [some (.inr (.inr M)), some (.inl x1), o2], r.toList ++ [.inl s1, .inr (.inr (M + 37))], σ') Φ)) : pe_X d 175 (72, [some (.inr (.inr M)), some (.inl x1), o2], [.inl s1, .inr (.inr (M + 37))], pm_h M σ q y) Φ := by
  refine pe_blk 39 2 ck175 [] (74, [some (.inr (.inr M)), some (.inl x1), o2], [.inl 1, .inr (.inr M), .inl s1, .inr (.inr (M + 37))], pm_h M σ q y) rfl ?_ ?_
  · exact trivial
  · try simp (disch := omega) only [pe_K_wI, pe_K_wR, pm_KM hF, pm_Kh]
    have hrc : pe_K (pm_h M σ q y) M = 9 := by first | assumption | (simp (disch := omega) only [pe_K_wI, pe_K_wR, pm_KM hF, pm_Kh]; done) | (simp (disch := omega) only [pe_K_wI, pe_K_wR, pm_KM hF, pm_Kh]; assumption)
    exact pe_cal 41 ck175 rfl rfl rfl ⟨hrc, by decide⟩ k
theorem b175_77 {d : Nat} {Φ : Option pe_V → pe_H → Prop} {σ : pe_H} {M q : Nat} {y : Nat → Int → Int} (hF : pm_F M σ) {x1 : Int} {o2 : Option pe_V} {s1 : Int} {s2 : Int}  (w0 : pe_in s1 := by unfold pe_in; omega) (h0 : 0 ≤ s1 := by first | assumption | omega) (h1 : s1 < 100 := by first | assumption | omega) (k : pe_X d 175 (12, [some (.inr (.inr M)), some (.inl x1), o2], [], pm_h M σ q (pm_u (pm_u y 37 s1 s2) 0 47 ((y 0 47) + 1))) Φ) : pe_X d 175 (77, [some (.inr (.inr M)), some (.inl x1), o2], [.inl s2, .inl s1, .inr (.inr (M + 37))], pm_h M σ q y) Φ := by
  have hM2 := pm_2 hF
  refine pe_blk 42 8 ck175 [pe_K (pm_h M σ q y) (M + 37) = 10, 0 ≤ (pe_w s1), (pe_w s1) < pe_L (pm_h M σ q y) (M + 37), 2 ≤ (M + 37), pe_K (pe_wI (pm_h M σ q y) (M + 37) (pe_w s1) s2) M = 9, pe_K (pe_wI (pm_h M σ q y) (M + 37) (pe_w s1) s2) M = 9] (12, [some (.inr (.inr M)), some (.inl x1), o2], [], pe_wI (pe_wI (pm_h M σ q y) (M + 37) (pe_w s1) s2) M 47 ((pe_I (pe_wI (pm_h M σ q y) (M + 37) (pe_w s1) s2) M 47) + 1)) rfl ?_ ?_
  · first
    | (simp (disch := omega) only [pe_all, pe_wi w0, pe_I_wR, pe_K_wI, pe_K_wR, pe_L_wI, pe_L_wR, pm_I0, pm_K37 hF, pm_KM hF, pm_Kh, pm_L37 hF, pm_Lh, pm_uj, pm_uk, pm_us, pm_wI0, pm_wIk]; done)
    | (simp (disch := omega) only [pe_all, pe_wi w0, pe_I_wR, pe_K_wI, pe_K_wR, pe_L_wI, pe_L_wR, pm_I0, pm_K37 hF, pm_KM hF, pm_Kh, pm_L37 hF, pm_Lh, pm_uj, pm_uk, pm_us, pm_wI0, pm_wIk]; (repeat' apply And.intro) <;> first | assumption | omega | decide)
  · try simp (disch := omega) only [pe_wi w0, pe_I_wR, pe_K_wI, pe_K_wR, pe_L_wI, pe_L_wR, pm_I0, pm_K37 hF, pm_KM hF, pm_Kh, pm_L37 hF, pm_Lh, pm_uj, pm_uk, pm_us, pm_wI0, pm_wIk]
    exact k
set_option maxRecDepth 8000 in
theorem b175_91 {d : Nat} {Φ : Option pe_V → pe_H → Prop} {σ : pe_H} {M q : Nat} {y : Nat → Int → Int} (hF : pm_F M σ) {x1 : Int} {o2 : Option pe_V}  (w0 : pe_in (x1 + 1) := by unfold pe_in; omega) (w1 : pe_in (x1 + 2) := by unfold pe_in; omega) (h0 : 0 ≤ (x1 + 1) := by first | assumption | omega) (h1 : (x1 + 1) < 153 := by first | assumption | omega) (h2 : 0 ≤ (x1 + 2) := by first | assumption | omega) (h3 : (x1 + 2) < 153 := by first | assumption | omega) (k : Φ none (pm_h M σ q (pm_u y 35 (x1 + 2) ((y 0 47) - (y 35 (x1 + 1)))))) : pe_X d 175 (91, [some (.inr (.inr M)), some (.inl x1), o2], [], pm_h M σ q y) Φ := by
  have hM2 := pm_2 hF
  refine pe_blk 50 15 ck175 [pe_K (pm_h M σ q y) M = 9, pe_K (pm_h M σ q y) M = 9, pe_K (pm_h M σ q y) M = 9, pe_K (pm_h M σ q y) (pe_R (pm_h M σ q y) M 44) = 10, 0 ≤ (pe_w (x1 + 1)), (pe_w (x1 + 1)) < pe_L (pm_h M σ q y) (pe_R (pm_h M σ q y) M 44), pe_K (pm_h M σ q y) (pe_R (pm_h M σ q y) M 44) = 10, 0 ≤ (pe_w (x1 + 2)), (pe_w (x1 + 2)) < pe_L (pm_h M σ q y) (pe_R (pm_h M σ q y) M 44), 2 ≤ (pe_R (pm_h M σ q y) M 44)] (112, [some (.inr (.inr M)), some (.inl x1), o2], [], pe_wI (pm_h M σ q y) (pe_R (pm_h M σ q y) M 44) (pe_w (x1 + 2)) ((pe_I (pm_h M σ q y) M 47) - (pe_I (pm_h M σ q y) (pe_R (pm_h M σ q y) M 44) (pe_w (x1 + 1))))) rfl ?_ ?_
  · first
    | (simp (disch := omega) only [pe_all, pe_wi w0, pe_wi w1, pe_I_wR, pe_K_wI, pe_K_wR, pe_L_wI, pe_L_wR, pe_R_nej, pe_R_wI, pm_I0, pm_Ik, pm_K35 hF, pm_KM hF, pm_Kh, pm_L35 hF, pm_Lh, pm_R44 hF, pm_Rh, pm_uj, pm_uk, pm_us, pm_wIk]; done)
    | (simp (disch := omega) only [pe_all, pe_wi w0, pe_wi w1, pe_I_wR, pe_K_wI, pe_K_wR, pe_L_wI, pe_L_wR, pe_R_nej, pe_R_wI, pm_I0, pm_Ik, pm_K35 hF, pm_KM hF, pm_Kh, pm_L35 hF, pm_Lh, pm_R44 hF, pm_Rh, pm_uj, pm_uk, pm_us, pm_wIk]; (repeat' apply And.intro) <;> first | assumption | omega | decide)
  · try simp (disch := omega) only [pe_wi w0, pe_wi w1, pe_I_wR, pe_K_wI, pe_K_wR, pe_L_wI, pe_L_wR, pe_R_nej, pe_R_wI, pm_I0, pm_Ik, pm_K35 hF, pm_KM hF, pm_Kh, pm_L35 hF, pm_Lh, pm_R44 hF, pm_Rh, pm_uj, pm_uk, pm_us, pm_wIk]
    exact pe_fine 65 ck175 rfl rfl rfl trivial k
-- StepMachinesModel.readNumbers(II)V
def T176 : List (Nat × Instr × Nat) := [(0, .aload_n 0, 1), (1, .getfield 117, 3), (4, .iload_n 2, 1), (5, .aload_n 0, 1), (6, .iload_n 1, 1), (7, .bipush 108, 2), (9, .if_icmp .ne 7, 3), (12, .iconst 2, 1), (13, .goto 4, 3), (16, .iconst 1, 1), (17, .invokevirtual 291, 3), (20, .iastore, 1), (21, .iload_n 1, 1), (22, .bipush 112, 2), (24, .if_icmp .ne 8, 3), (27, .aload_n 0, 1), (28, .iload_n 2, 1), (29, .invokevirtual 294, 3), (32, .iload_n 1, 1), (33, .bipush 99, 2), (35, .if_icmp .ne 29, 3), (38, .aload_n 0, 1), (39, .getfield 117, 3), (42, .iload_n 2, 1), (43, .iconst 1, 1), (44, .iadd, 1), (45, .aload_n 0, 1), (46, .iconst 1, 1), (47, .invokevirtual 291, 3), (50, .iastore, 1), (51, .aload_n 0, 1), (52, .getfield 117, 3), (55, .iload_n 2, 1), (56, .iconst 2, 1), (57, .iadd, 1), (58, .aload_n 0, 1), (59, .iconst 1, 1), (60, .invokevirtual 291, 3), (63, .iastore, 1), (64, .iload_n 1, 1), (65, .bipush 110, 2), (67, .if_icmp .ne 16, 3), (70, .aload_n 0, 1), (71, .getfield 117, 3), (74, .iload_n 2, 1), (75, .iconst 1, 1), (76, .iadd, 1), (77, .aload_n 0, 1), (78, .iconst 2, 1), (79, .invokevirtual 291, 3), (82, .iastore, 1), (83, .return_, 1)]
theorem ck176 : pe_ctx 176 9 false none 3 T176 := ⟨rfl, rfl, rfl, rfl, by decide +kernel, by decide, by decide⟩
theorem b176_0 {d : Nat} {Φ : Option pe_V → pe_H → Prop} {σ : pe_H} {M q : Nat} {y : Nat → Int → Int} (hF : pm_F M σ) {x1 : Int} {x2 : Int}  (w0 : pe_in x1 := by unfold pe_in; omega)  (k1 : ¬ x1 = 108 → pe_X d 176 (16, [some (.inr (.inr M)), some (.inl x1), some (.inl x2)], [.inr (.inr M), .inl x2, .inr (.inr (M + 35))], pm_h M σ q y) Φ) (k2 : x1 = 108 → pe_X d 176 (12, [some (.inr (.inr M)), some (.inl x1), some (.inl x2)], [.inr (.inr M), .inl x2, .inr (.inr (M + 35))], pm_h M σ q y) Φ) : pe_X d 176 (0, [some (.inr (.inr M)), some (.inl x1), some (.inl x2)], [], pm_h M σ q y) Φ := by
  refine pe_blk 0 7 ck176 [pe_K (pm_h M σ q y) M = 9] (cond (decide (¬ (pe_w x1) = (pe_w 108))) 16 12, [some (.inr (.inr M)), some (.inl x1), some (.inl x2)], [.inr (.inr M), .inl x2, .inr (.inr (pe_R (pm_h M σ q y) M 44))], pm_h M σ q y) rfl ?_ ?_
  · first
    | (simp (disch := omega) only [pe_all, pe_wi w0, pe_wi (x := 108) ⟨by decide, by decide⟩, pe_K_wI, pe_K_wR, pe_R_nej, pe_R_wI, pm_KM hF, pm_Kh, pm_R44 hF, pm_Rh]; done)
    | (simp (disch := omega) only [pe_all, pe_wi w0, pe_wi (x := 108) ⟨by decide, by decide⟩, pe_K_wI, pe_K_wR, pe_R_nej, pe_R_wI, pm_KM hF, pm_Kh, pm_R44 hF, pm_Rh]; (repeat' apply And.intro) <;> first | assumption | omega | decide)
  · try simp (disch := omega) only [pe_wi w0, pe_wi (x := 108) ⟨by decide, by decide⟩, pe_K_wI, pe_K_wR, pe_R_nej, pe_R_wI, pm_KM hF, pm_Kh, pm_R44 hF, pm_Rh]
    exact pe_two' k1 k2
theorem b176_12 {d : Nat} {Φ : Option pe_V → pe_H → Prop} {σ : pe_H} {M q : Nat} {y : Nat → Int → Int} (hF : pm_F M σ) {x1 : Int} {x2 : Int} {s1 : Int}    (k : pe_X d 176 (17, [some (.inr (.inr M)), some (.inl x1), some (.inl x2)], [.inl 2, .inr (.inr M), .inl s1, .inr (.inr (M + 35))], pm_h M σ q y) Φ) : pe_X d 176 (12, [some (.inr (.inr M)), some (.inl x1), some (.inl x2)], [.inr (.inr M), .inl s1, .inr (.inr (M + 35))], pm_h M σ q y) Φ := by
  refine pe_blk 7 2 ck176 [] (17, [some (.inr (.inr M)), some (.inl x1), some (.inl x2)], [.inl 2, .inr (.inr M), .inl s1, .inr (.inr (M + 35))], pm_h M σ q y) rfl ?_ ?_
  · exact trivial
  · exact k
theorem b176_16 {d : Nat} {Φ : Option pe_V → pe_H → Prop} {σ : pe_H} {M q : Nat} {y : Nat → Int → Int} (hF : pm_F M σ) {x1 : Int} {x2 : Int} {s1 : Int}    (k : pe_X d 176 (17, [some (.inr (.inr M)), some (.inl x1), some (.inl x2)], [.inl 1, .inr (.inr M), .inl s1, .inr (.inr (M + 35))], pm_h M σ q y) Φ) : pe_X d 176 (16, [some (.inr (.inr M)), some (.inl x1), some (.inl x2)], [.inr (.inr M), .inl s1, .inr (.inr (M + 35))], pm_h M σ q y) Φ := by
  refine pe_blk 9 1 ck176 [] (17, [some (.inr (.inr M)), some (.inl x1), some (.inl x2)], [.inl 1, .inr (.inr M), .inl s1, .inr (.inr (M + 35))], pm_h M σ q y) rfl ?_ ?_
  · exact trivial
  · exact k
theorem b176_17 {d : Nat} {Φ : Option pe_V → pe_H → Prop} {σ : pe_H} {M q : Nat} {y : Nat → Int → Int} (hF : pm_F M σ) {x1 : Int} {x2 : Int} {s1 : Int} {s3 : Int}    (k : pe_M d 173 [.inr (.inr M), .inl s3] (pm_h M σ q y) (fun r σ' => pe_X d 176 (20, [some (.inr (.inr M)), some (.inl x1), some (.inl x2)], r.toList ++ [.inl s1, .inr (.inr (M + 35))], σ') Φ)) : pe_X d 176 (17, [some (.inr (.inr M)), some (.inl x1), some (.inl x2)], [.inl s3, .inr (.inr M), .inl s1, .inr (.inr (M + 35))], pm_h M σ q y) Φ := by
  have hrc : pe_K (pm_h M σ q y) M = 9 := by first | assumption | (simp (disch := omega) only [pe_K_wI, pe_K_wR, pm_KM hF, pm_Kh]; done) | (simp (disch := omega) only [pe_K_wI, pe_K_wR, pm_KM hF, pm_Kh]; assumption)
  exact pe_cal 10 ck176 rfl rfl rfl ⟨hrc, by decide⟩ k
theorem b176_20 {d : Nat} {Φ : Option pe_V → pe_H → Prop} {σ : pe_H} {M q : Nat} {y : Nat → Int → Int} (hF : pm_F M σ) {x1 : Int} {x2 : Int} {s1 : Int} {s2 : Int}  (w0 : pe_in s1 := by unfold pe_in; omega) (w1 : pe_in x1 := by unfold pe_in; omega) (h0 : 0 ≤ s1 := by first | assumption | omega) (h1 : s1 < 153 := by first | assumption | omega) (k1 : ¬ x1 = 112 → pe_X d 176 (32, [some (.inr (.inr M)), some (.inl x1), some (.inl x2)], [], pm_h M σ q (pm_u y 35 s1 s2)) Φ) (k2 : x1 = 112 → pe_X d 176 (27, [some (.inr (.inr M)), some (.inl x1), some (.inl x2)], [], pm_h M σ q (pm_u y 35 s1 s2)) Φ) : pe_X d 176 (20, [some (.inr (.inr M)), some (.inl x1), some (.inl x2)], [.inl s2, .inl s1, .inr (.inr (M + 35))], pm_h M σ q y) Φ := by
  have hM2 := pm_2 hF
  refine pe_blk 11 4 ck176 [pe_K (pm_h M σ q y) (M + 35) = 10, 0 ≤ (pe_w s1), (pe_w s1) < pe_L (pm_h M σ q y) (M + 35), 2 ≤ (M + 35)] (cond (decide (¬ (pe_w x1) = (pe_w 112))) 32 27, [some (.inr (.inr M)), some (.inl x1), some (.inl x2)], [], pe_wI (pm_h M σ q y) (M + 35) (pe_w s1) s2) rfl ?_ ?_
  · first
    | (simp (disch := omega) only [pe_all, pe_wi w0, pe_wi w1, pe_wi (x := 112) ⟨by decide, by decide⟩, pe_K_wI, pe_K_wR, pe_L_wI, pe_L_wR, pm_K35 hF, pm_Kh, pm_L35 hF, pm_Lh, pm_wIk]; done)
    | (simp (disch := omega) only [pe_all, pe_wi w0, pe_wi w1, pe_wi (x := 112) ⟨by decide, by decide⟩, pe_K_wI, pe_K_wR, pe_L_wI, pe_L_wR, pm_K35 hF, pm_Kh, pm_L35 hF, pm_Lh, pm_wIk]; (repeat' apply And.intro) <;> first | assumption | omega | decide)
  · try simp (disch := omega) only [pe_wi w0, pe_wi w1, pe_wi (x := 112) ⟨by decide, by decide⟩, pe_K_wI, pe_K_wR, pe_L_wI, pe_L_wR, pm_K35 hF, pm_Kh, pm_L35 hF, pm_Lh, pm_wIk]
    exact pe_two' k1 k2
theorem b176_27 {d : Nat} {Φ : Option pe_V → pe_H → Prop} {σ : pe_H} {M q : Nat} {y : Nat → Int → Int} (hF : pm_F M σ) {x1 : Int} {x2 : Int}    (k : pe_M d 175 [.inr (.inr M), .inl x2] (pm_h M σ q y) (fun r σ' => pe_X d 176 (32, [some (.inr (.inr M)), some (.inl x1), some (.inl x2)], r.toList ++ [], σ') Φ)) : pe_X d 176 (27, [some (.inr (.inr M)), some (.inl x1), some (.inl x2)], [], pm_h M σ q y) Φ := by
  refine pe_blk 15 2 ck176 [] (29, [some (.inr (.inr M)), some (.inl x1), some (.inl x2)], [.inl x2, .inr (.inr M)], pm_h M σ q y) rfl ?_ ?_
  · exact trivial
  · try simp (disch := omega) only [pe_K_wI, pe_K_wR, pm_KM hF, pm_Kh]
    have hrc : pe_K (pm_h M σ q y) M = 9 := by first | assumption | (simp (disch := omega) only [pe_K_wI, pe_K_wR, pm_KM hF, pm_Kh]; done) | (simp (disch := omega) only [pe_K_wI, pe_K_wR, pm_KM hF, pm_Kh]; assumption)
    exact pe_cal 17 ck176 rfl rfl rfl ⟨hrc, by decide⟩ k
theorem b176_32 {d : Nat} {Φ : Option pe_V → pe_H → Prop} {σ : pe_H} {M q : Nat} {y : Nat → Int → Int} (hF : pm_F M σ) {x1 : Int} {x2 : Int}  (w0 : pe_in x1 := by unfold pe_in; omega)  (k1 : ¬ x1 = 99 → pe_X d 176 (64, [some (.inr (.inr M)), some (.inl x1), some (.inl x2)], [], pm_h M σ q y) Φ) (k2 : x1 = 99 → pe_X d 176 (38, [some (.inr (.inr M)), some (.inl x1), some (.inl x2)], [], pm_h M σ q y) Φ) : pe_X d 176 (32, [some (.inr (.inr M)), some (.inl x1), some (.inl x2)], [], pm_h M σ q y) Φ := by
  refine pe_blk 18 3 ck176 [] (cond (decide (¬ (pe_w x1) = (pe_w 99))) 64 38, [some (.inr (.inr M)), some (.inl x1), some (.inl x2)], [], pm_h M σ q y) rfl ?_ ?_
  · exact trivial
  · try simp (disch := omega) only [pe_wi w0, pe_wi (x := 99) ⟨by decide, by decide⟩]
    exact pe_two' k1 k2
theorem b176_38 {d : Nat} {Φ : Option pe_V → pe_H → Prop} {σ : pe_H} {M q : Nat} {y : Nat → Int → Int} (hF : pm_F M σ) {x1 : Int} {x2 : Int}    (k : pe_M d 173 [.inr (.inr M), .inl 1] (pm_h M σ q y) (fun r σ' => pe_X d 176 (50, [some (.inr (.inr M)), some (.inl x1), some (.inl x2)], r.toList ++ [.inl (x2 + 1), .inr (.inr (M + 35))], σ') Φ)) : pe_X d 176 (38, [some (.inr (.inr M)), some (.inl x1), some (.inl x2)], [], pm_h M σ q y) Φ := by
  refine pe_blk 21 7 ck176 [pe_K (pm_h M σ q y) M = 9] (47, [some (.inr (.inr M)), some (.inl x1), some (.inl x2)], [.inl 1, .inr (.inr M), .inl (x2 + 1), .inr (.inr (pe_R (pm_h M σ q y) M 44))], pm_h M σ q y) rfl ?_ ?_
  · first
    | (simp (disch := omega) only [pe_all, pe_K_wI, pe_K_wR, pe_R_nej, pe_R_wI, pm_KM hF, pm_Kh, pm_R44 hF, pm_Rh]; done)
    | (simp (disch := omega) only [pe_all, pe_K_wI, pe_K_wR, pe_R_nej, pe_R_wI, pm_KM hF, pm_Kh, pm_R44 hF, pm_Rh]; (repeat' apply And.intro) <;> first | assumption | omega | decide)
  · try simp (disch := omega) only [pe_K_wI, pe_K_wR, pe_R_nej, pe_R_wI, pm_KM hF, pm_Kh, pm_R44 hF, pm_Rh]
    have hrc : pe_K (pm_h M σ q y) M = 9 := by first | assumption | (simp (disch := omega) only [pe_K_wI, pe_K_wR, pe_R_nej, pe_R_wI, pm_KM hF, pm_Kh, pm_R44 hF, pm_Rh]; done) | (simp (disch := omega) only [pe_K_wI, pe_K_wR, pe_R_nej, pe_R_wI, pm_KM hF, pm_Kh, pm_R44 hF, pm_Rh]; assumption)
    exact pe_cal 28 ck176 rfl rfl rfl ⟨hrc, by decide⟩ k
theorem b176_50 {d : Nat} {Φ : Option pe_V → pe_H → Prop} {σ : pe_H} {M q : Nat} {y : Nat → Int → Int} (hF : pm_F M σ) {x1 : Int} {x2 : Int} {s1 : Int} {s2 : Int}  (w0 : pe_in s1 := by unfold pe_in; omega) (h0 : 0 ≤ s1 := by first | assumption | omega) (h1 : s1 < 153 := by first | assumption | omega) (k : pe_M d 173 [.inr (.inr M), .inl 1] (pm_h M σ q (pm_u y 35 s1 s2)) (fun r σ' => pe_X d 176 (63, [some (.inr (.inr M)), some (.inl x1), some (.inl x2)], r.toList ++ [.inl (x2 + 2), .inr (.inr (M + 35))], σ') Φ)) : pe_X d 176 (50, [some (.inr (.inr M)), some (.inl x1), some (.inl x2)], [.inl s2, .inl s1, .inr (.inr (M + 35))], pm_h M σ q y) Φ := by
  have hM2 := pm_2 hF
  refine pe_blk 29 8 ck176 [pe_K (pm_h M σ q y) (M + 35) = 10, 0 ≤ (pe_w s1), (pe_w s1) < pe_L (pm_h M σ q y) (M + 35), 2 ≤ (M + 35), pe_K (pe_wI (pm_h M σ q y) (M + 35) (pe_w s1) s2) M = 9] (60, [some (.inr (.inr M)), some (.inl x1), some (.inl x2)], [.inl 1, .inr (.inr M), .inl (x2 + 2), .inr (.inr (pe_R (pe_wI (pm_h M σ q y) (M + 35) (pe_w s1) s2) M 44))], pe_wI (pm_h M σ q y) (M + 35) (pe_w s1) s2) rfl ?_ ?_
  · first
    | (simp (disch := omega) only [pe_all, pe_wi w0, pe_K_wI, pe_K_wR, pe_L_wI, pe_L_wR, pe_R_nej, pe_R_wI, pm_K35 hF, pm_KM hF, pm_Kh, pm_L35 hF, pm_Lh, pm_R44 hF, pm_Rh, pm_wIk]; done)
    | (simp (disch := omega) only [pe_all, pe_wi w0, pe_K_wI, pe_K_wR, pe_L_wI, pe_L_wR, pe_R_nej, pe_R_wI, pm_K35 hF, pm_KM hF, pm_Kh, pm_L35 hF, pm_Lh, pm_R44 hF, pm_Rh, pm_wIk]; (repeat' apply And.intro) <;> first | assumption | omega | decide)
  · try simp (disch := omega) only [pe_wi w0, pe_K_wI, pe_K_wR, pe_L_wI, pe_L_wR, pe_R_nej, pe_R_wI, pm_K35 hF, pm_KM hF, pm_Kh, pm_L35 hF, pm_Lh, pm_R44 hF, pm_Rh, pm_wIk]
    have hrc : pe_K (pm_h M σ q (pm_u y 35 s1 s2)) M = 9 := by first | assumption | (simp (disch := omega) only [pe_wi w0, pe_K_wI, pe_K_wR, pe_L_wI, pe_L_wR, pe_R_nej, pe_R_wI, pm_K35 hF, pm_KM hF, pm_Kh, pm_L35 hF, pm_Lh, pm_R44 hF, pm_Rh, pm_wIk]; done) | (simp (disch := omega) only [pe_wi w0, pe_K_wI, pe_K_wR, pe_L_wI, pe_L_wR, pe_R_nej, pe_R_wI, pm_K35 hF, pm_KM hF, pm_Kh, pm_L35 hF, pm_Lh, pm_R44 hF, pm_Rh, pm_wIk]; assumption)
    exact pe_cal 37 ck176 rfl rfl rfl ⟨hrc, by decide⟩ k
theorem b176_63 {d : Nat} {Φ : Option pe_V → pe_H → Prop} {σ : pe_H} {M q : Nat} {y : Nat → Int → Int} (hF : pm_F M σ) {x1 : Int} {x2 : Int} {s1 : Int} {s2 : Int}  (w0 : pe_in s1 := by unfold pe_in; omega) (h0 : 0 ≤ s1 := by first | assumption | omega) (h1 : s1 < 153 := by first | assumption | omega) (k : pe_X d 176 (64, [some (.inr (.inr M)), some (.inl x1), some (.inl x2)], [], pm_h M σ q (pm_u y 35 s1 s2)) Φ) : pe_X d 176 (63, [some (.inr (.inr M)), some (.inl x1), some (.inl x2)], [.inl s2, .inl s1, .inr (.inr (M + 35))], pm_h M σ q y) Φ := by
  have hM2 := pm_2 hF
  refine pe_blk 38 1 ck176 [pe_K (pm_h M σ q y) (M + 35) = 10, 0 ≤ (pe_w s1), (pe_w s1) < pe_L (pm_h M σ q y) (M + 35), 2 ≤ (M + 35)] (64, [some (.inr (.inr M)), some (.inl x1), some (.inl x2)], [], pe_wI (pm_h M σ q y) (M + 35) (pe_w s1) s2) rfl ?_ ?_
  · first
    | (simp (disch := omega) only [pe_all, pe_wi w0, pe_K_wI, pe_K_wR, pe_L_wI, pe_L_wR, pm_K35 hF, pm_Kh, pm_L35 hF, pm_Lh, pm_wIk]; done)
    | (simp (disch := omega) only [pe_all, pe_wi w0, pe_K_wI, pe_K_wR, pe_L_wI, pe_L_wR, pm_K35 hF, pm_Kh, pm_L35 hF, pm_Lh, pm_wIk]; (repeat' apply And.intro) <;> first | assumption | omega | decide)
  · try simp (disch := omega) only [pe_wi w0, pe_K_wI, pe_K_wR, pe_L_wI, pe_L_wR, pm_K35 hF, pm_Kh, pm_L35 hF, pm_Lh, pm_wIk]
    exact k
theorem b176_64 {d : Nat} {Φ : Option pe_V → pe_H → Prop} {σ : pe_H} {M q : Nat} {y : Nat → Int → Int} (hF : pm_F M σ) {x1 : Int} {x2 : Int}  (w0 : pe_in x1 := by unfold pe_in; omega)  (k1 : ¬ x1 = 110 → pe_X d 176 (83, [some (.inr (.inr M)), some (.inl x1), some (.inl x2)], [], pm_h M σ q y) Φ) (k2 : x1 = 110 → pe_X d 176 (70, [some (.inr (.inr M)), some (.inl x1), some (.inl x2)], [], pm_h M σ q y) Φ) : pe_X d 176 (64, [some (.inr (.inr M)), some (.inl x1), some (.inl x2)], [], pm_h M σ q y) Φ := by
  refine pe_blk 39 3 ck176 [] (cond (decide (¬ (pe_w x1) = (pe_w 110))) 83 70, [some (.inr (.inr M)), some (.inl x1), some (.inl x2)], [], pm_h M σ q y) rfl ?_ ?_
  · exact trivial
  · try simp (disch := omega) only [pe_wi w0, pe_wi (x := 110) ⟨by decide, by decide⟩]
    exact pe_two' k1 k2
theorem b176_70 {d : Nat} {Φ : Option pe_V → pe_H → Prop} {σ : pe_H} {M q : Nat} {y : Nat → Int → Int} (hF : pm_F M σ) {o1 : Option pe_V} {x2 : Int}    (k : pe_M d 173 [.inr (.inr M), .inl 2] (pm_h M σ q y) (fun r σ' => pe_X d 176 (82, [some (.inr (.inr M)), o1, some (.inl x2)], r.toList ++ [.inl (x2 + 1), .inr (.inr (M + 35))], σ') Φ)) : pe_X d 176 (70, [some (.inr (.inr M)), o1, some (.inl x2)], [], pm_h M σ q y) Φ := by
  refine pe_blk 42 7 ck176 [pe_K (pm_h M σ q y) M = 9] (79, [some (.inr (.inr M)), o1, some (.inl x2)], [.inl 2, .inr (.inr M), .inl (x2 + 1), .inr (.inr (pe_R (pm_h M σ q y) M 44))], pm_h M σ q y) rfl ?_ ?_
  · first
    | (simp (disch := omega) only [pe_all, pe_K_wI, pe_K_wR, pe_R_nej, pe_R_wI, pm_KM hF, pm_Kh, pm_R44 hF, pm_Rh]; done)
    | (simp (disch := omega) only [pe_all, pe_K_wI, pe_K_wR, pe_R_nej, pe_R_wI, pm_KM hF, pm_Kh, pm_R44 hF, pm_Rh]; (repeat' apply And.intro) <;> first | assumption | omega | decide)
  · try simp (disch := omega) only [pe_K_wI, pe_K_wR, pe_R_nej, pe_R_wI, pm_KM hF, pm_Kh, pm_R44 hF, pm_Rh]
    have hrc : pe_K (pm_h M σ q y) M = 9 := by first | assumption | (simp (disch := omega) only [pe_K_wI, pe_K_wR, pe_R_nej, pe_R_wI, pm_KM hF, pm_Kh, pm_R44 hF, pm_Rh]; done) | (simp (disch := omega) only [pe_K_wI, pe_K_wR, pe_R_nej, pe_R_wI, pm_KM hF, pm_Kh, pm_R44 hF, pm_Rh]; assumption)
    exact pe_cal 49 ck176 rfl rfl rfl ⟨hrc, by decide⟩ k
set_option maxRecDepth 8000 in
theorem b176_82 {d : Nat} {Φ : Option pe_V → pe_H → Prop} {σ : pe_H} {M q : Nat} {y : Nat → Int → Int} (hF : pm_F M σ) {o1 : Option pe_V} {o2 : Option pe_V} {s1 : Int} {s2 : Int}  (w0 : pe_in s1 := by unfold pe_in; omega) (h0 : 0 ≤ s1 := by first | assumption | omega) (h1 : s1 < 153 := by first | assumption | omega) (k : pe_X d 176 (83, [some (.inr (.inr M)), o1, o2], [], pm_h M σ q (pm_u y 35 s1 s2)) Φ) : pe_X d 176 (82, [some (.inr (.inr M)), o1, o2], [.inl s2, .inl s1, .inr (.inr (M + 35))], pm_h M σ q y) Φ := by
  have hM2 := pm_2 hF
  refine pe_blk 50 1 ck176 [pe_K (pm_h M σ q y) (M + 35) = 10, 0 ≤ (pe_w s1), (pe_w s1) < pe_L (pm_h M σ q y) (M + 35), 2 ≤ (M + 35)] (83, [some (.inr (.inr M)), o1, o2], [], pe_wI (pm_h M σ q y) (M + 35) (pe_w s1) s2) rfl ?_ ?_
  · first
    | (simp (disch := omega) only [pe_all, pe_wi w0, pe_K_wI, pe_K_wR, pe_L_wI, pe_L_wR, pm_K35 hF, pm_Kh, pm_L35 hF, pm_Lh, pm_wIk]; done)
    | (simp (disch := omega) only [pe_all, pe_wi w0, pe_K_wI, pe_K_wR, pe_L_wI, pe_L_wR, pm_K35 hF, pm_Kh, pm_L35 hF, pm_Lh, pm_wIk]; (repeat' apply And.intro) <;> first | assumption | omega | decide)
  · try simp (disch := omega) only [pe_wi w0, pe_K_wI, pe_K_wR, pe_L_wI, pe_L_wR, pm_K35 hF, pm_Kh, pm_L35 hF, pm_Lh, pm_wIk]
    exact k
set_option maxRecDepth 8000 in
theorem b176_83 {d : Nat} {Φ : Option pe_V → pe_H → Prop} {σ : pe_H} {M q : Nat} {y : Nat → Int → Int} (hF : pm_F M σ) {o1 : Option pe_V} {o2 : Option pe_V}    (k : Φ none (pm_h M σ q y)) : pe_X d 176 (83, [some (.inr (.inr M)), o1, o2], [], pm_h M σ q y) Φ := by
  exact pe_fine 51 ck176 rfl rfl rfl trivial k
-- StepMachinesModel.readStatement()V
def T177 : List (Nat × Instr × Nat) := [(0, .aload_n 0, 1), (1, .getfield 297, 3), (4, .istore_n 1, 1), (5, .aload_n 0, 1), (6, .invokevirtual 277, 3), (9, .istore_n 2, 1), (10, .aload_n 0, 1), (11, .getfield 111, 3), (14, .iload_n 1, 1), (15, .aload_n 0, 1), (16, .getfield 267, 3), (19, .iastore, 1), (20, .aload_n 0, 1), (21, .getfield 114, 3), (24, .iload_n 1, 1), (25, .iload_n 2, 1), (26, .iastore, 1), (27, .aload_n 0, 1), (28, .aload_n 0, 1), (29, .getfield 273, 3), (32, .ifCond .ne 39, 3), (35, .iload_n 2, 1), (36, .bipush 112, 2), (38, .if_icmp .eq 37, 3), (41, .iload_n 2, 1), (42, .bipush 99, 2), (44, .if_icmp .eq 31, 3), (47, .iload_n 2, 1), (48, .bipush 110, 2), (50, .if_icmp .eq 25, 3), (53, .iload_n 2, 1), (54, .bipush 120, 2), (56, .if_icmp .eq 19, 3), (59, .iload_n 2, 1), (60, .bipush 119, 2), (62, .if_icmp .eq 13, 3), (65, .iload_n 2, 1), (66, .bipush 108, 2), (68, .if_icmp .eq 7, 3), (71, .iconst 1, 1), (72, .goto 4, 3), (75, .iconst 0, 1), (76, .putfield 273, 3), (79, .aload_n 0, 1), (80, .dup, 1), (81, .getfield 267, 3), (84, .aload_n 0, 1), (85, .getfield 273, 3), (88, .ifCond .eq 7, 3), (91, .iconst 0, 1), (92, .goto 4, 3), (95, .iconst 1, 1), (96, .iadd, 1), (97, .putfield 267, 3), (100, .aload_n 0, 1), (101, .getfield 273, 3), (104, .ifCond .ne 11, 3), (107, .aload_n 0, 1), (108, .iload_n 2, 1), (109, .iconst 3, 1), (110, .iload_n 1, 1), (111, .imul, 1), (112, .invokevirtual 300, 3), (115, .aload_n 0, 1), (116, .aload_n 0, 1), (117, .getfield 273, 3), (120, .ifCond .ne 12, 3), (123, .aload_n 0, 1), (124, .invokevirtual 277, 3), (127, .bipush 59, 2), (129, .if_icmp .eq 7, 3), (132, .iconst 1, 1), (133, .goto 4, 3), (136, .iconst 0, 1), (137, .putfield 273, 3), (140, .aload_n 0, 1), (141, .dup, 1), (142, .getfield 267, 3), (145, .aload_n 0, 1), (146, .getfield 273, 3), (149, .ifCond .eq 7, 3), (152, .iconst 0, 1), (153, .goto 4, 3), (156, .iconst 1, 1), (157, .iadd, 1), (158, .putfield 267, 3), (161, .aload_n 0, 1), (162, .dup, 1), (163, .getfield 297, 3), (166, .iconst 1, 1), (167, .iadd, 1), (168, .putfield 297, 3), (171, .return_, 1)]
theorem ck177 : pe_ctx 177 9 false none 3 T177 := ⟨rfl, rfl, rfl, rfl, by decide +kernel, by decide, by decide⟩
theorem b177_0 {d : Nat} {Φ : Option pe_V → pe_H → Prop} {σ : pe_H} {M q : Nat} {y : Nat → Int → Int} (hF : pm_F M σ) {o1 : Option pe_V} {o2 : Option pe_V}    (k : pe_M d 172 [.inr (.inr M)] (pm_h M σ q y) (fun r σ' => pe_X d 177 (9, [some (.inr (.inr M)), some (.inl (y 0 41)), o2], r.toList ++ [], σ') Φ)) : pe_X d 177 (0, [some (.inr (.inr M)), o1, o2], [], pm_h M σ q y) Φ := by
  refine pe_blk 0 4 ck177 [pe_K (pm_h M σ q y) M = 9] (6, [some (.inr (.inr M)), some (.inl (pe_I (pm_h M σ q y) M 41)), o2], [.inr (.inr M)], pm_h M σ q y) rfl ?_ ?_
  · first
    | (simp (disch := omega) only [pe_all, pe_I_wR, pe_K_wI, pe_K_wR, pm_I0, pm_KM hF, pm_Kh, pm_uj, pm_uk, pm_us]; done)
    | (simp (disch := omega) only [pe_all, pe_I_wR, pe_K_wI, pe_K_wR, pm_I0, pm_KM hF, pm_Kh, pm_uj, pm_uk, pm_us]; (repeat' apply And.intro) <;> first | assumption | omega | decide)
  · try simp (disch := omega) only [pe_I_wR, pe_K_wI, pe_K_wR, pm_I0, pm_KM hF, pm_Kh, pm_uj, pm_uk, pm_us]
    have hrc : pe_K (pm_h M σ q y) M = 9 := by first | assumption | (simp (disch := omega) only [pe_I_wR, pe_K_wI, pe_K_wR, pm_I0, pm_KM hF, pm_Kh, pm_uj, pm_uk, pm_us]; done) | (simp (disch := omega) only [pe_I_wR, pe_K_wI, pe_K_wR, pm_I0, pm_KM hF, pm_Kh, pm_uj, pm_uk, pm_us]; assumption)
    exact pe_cal 4 ck177 rfl rfl rfl ⟨hrc, by decide⟩ k
theorem b177_9 {d : Nat} {Φ : Option pe_V → pe_H → Prop} {σ : pe_H} {M q : Nat} {y : Nat → Int → Int} (hF : pm_F M σ) {x1 : Int} {o2 : Option pe_V} {s0 : Int}  (w0 : pe_in x1 := by unfold pe_in; omega) (w1 : pe_in (y 0 40) := by unfold pe_in; omega) (h0 : 0 ≤ x1 := by first | assumption | omega) (h1 : x1 < 51 := by first | assumption | omega) (k1 : ¬ (y 0 40) = 0 → pe_X d 177 (71, [some (.inr (.inr M)), some (.inl x1), some (.inl s0)], [.inr (.inr M)], pm_h M σ q (pm_u (pm_u y 33 x1 (y 0 39)) 34 x1 s0)) Φ) (k2 : (y 0 40) = 0 → pe_X d 177 (35, [some (.inr (.inr M)), some (.inl x1), some (.inl s0)], [.inr (.inr M)], pm_h M σ q (pm_u (pm_u y 33 x1 (y 0 39)) 34 x1 s0)) Φ) : pe_X d 177 (9, [some (.inr (.inr M)), some (.inl x1), o2], [.inl s0], pm_h M σ q y) Φ := by
  have hM2 := pm_2 hF
  refine pe_blk 5 16 ck177 [pe_K (pm_h M σ q y) M = 9, pe_K (pm_h M σ q y) M = 9, pe_K (pm_h M σ q y) (pe_R (pm_h M σ q y) M 42) = 10, 0 ≤ (pe_w x1), (pe_w x1) < pe_L (pm_h M σ q y) (pe_R (pm_h M σ q y) M 42), 2 ≤ (pe_R (pm_h M σ q y) M 42), pe_K (pe_wI (pm_h M σ q y) (pe_R (pm_h M σ q y) M 42) (pe_w x1) (pe_I (pm_h M σ q y) M 39)) M = 9, pe_K (pe_wI (pm_h M σ q y) (pe_R (pm_h M σ q y) M 42) (pe_w x1) (pe_I (pm_h M σ q y) M 39)) (pe_R (pe_wI (pm_h M σ q y) (pe_R (pm_h M σ q y) M 42) (pe_w x1) (pe_I (pm_h M σ q y) M 39)) M 43) = 10, 0 ≤ (pe_w x1), (pe_w x1) < pe_L (pe_wI (pm_h M σ q y) (pe_R (pm_h M σ q y) M 42) (pe_w x1) (pe_I (pm_h M σ q y) M 39)) (pe_R (pe_wI (pm_h M σ q y) (pe_R (pm_h M σ q y) M 42) (pe_w x1) (pe_I (pm_h M σ q y) M 39)) M 43), 2 ≤ (pe_R (pe_wI (pm_h M σ q y) (pe_R (pm_h M σ q y) M 42) (pe_w x1) (pe_I (pm_h M σ q y) M 39)) M 43), pe_K (pe_wI (pe_wI (pm_h M σ q y) (pe_R (pm_h M σ q y) M 42) (pe_w x1) (pe_I (pm_h M σ q y) M 39)) (pe_R (pe_wI (pm_h M σ q y) (pe_R (pm_h M σ q y) M 42) (pe_w x1) (pe_I (pm_h M σ q y) M 39)) M 43) (pe_w x1) s0) M = 9] (cond (decide (¬ (pe_w (pe_I (pe_wI (pe_wI (pm_h M σ q y) (pe_R (pm_h M σ q y) M 42) (pe_w x1) (pe_I (pm_h M σ q y) M 39)) (pe_R (pe_wI (pm_h M σ q y) (pe_R (pm_h M σ q y) M 42) (pe_w x1) (pe_I (pm_h M σ q y) M 39)) M 43) (pe_w x1) s0) M 40)) = 0)) 71 35, [some (.inr (.inr M)), some (.inl x1), some (.inl s0)], [.inr (.inr M)], pe_wI (pe_wI (pm_h M σ q y) (pe_R (pm_h M σ q y) M 42) (pe_w x1) (pe_I (pm_h M σ q y) M 39)) (pe_R (pe_wI (pm_h M σ q y) (pe_R (pm_h M σ q y) M 42) (pe_w x1) (pe_I (pm_h M σ q y) M 39)) M 43) (pe_w x1) s0) rfl ?_ ?_
  · first
    | (simp (disch := omega) only [pe_all, pe_wi w0, pe_wi w1, pe_I_wR, pe_K_wI, pe_K_wR, pe_L_wI, pe_L_wR, pe_R_nej, pe_R_wI, pm_I0, pm_K33 hF, pm_K34 hF, pm_KM hF, pm_Kh, pm_L33 hF, pm_L34 hF, pm_Lh, pm_R42 hF, pm_R43 hF, pm_Rh, pm_uj, pm_uk, pm_us, pm_wIk]; done)
    | (simp (disch := omega) only [pe_all, pe_wi w0, pe_wi w1, pe_I_wR, pe_K_wI, pe_K_wR, pe_L_wI, pe_L_wR, pe_R_nej, pe_R_wI, pm_I0, pm_K33 hF, pm_K34 hF, pm_KM hF, pm_Kh, pm_L33 hF, pm_L34 hF, pm_Lh, pm_R42 hF, pm_R43 hF, pm_Rh, pm_uj, pm_uk, pm_us, pm_wIk]; (repeat' apply And.intro) <;> first | assumption | omega | decide)
  · try simp (disch := omega) only [pe_wi w0, pe_wi w1, pe_I_wR, pe_K_wI, pe_K_wR, pe_L_wI, pe_L_wR, pe_R_nej, pe_R_wI, pm_I0, pm_K33 hF, pm_K34 hF, pm_KM hF, pm_Kh, pm_L33 hF, pm_L34 hF, pm_Lh, pm_R42 hF, pm_R43 hF, pm_Rh, pm_uj, pm_uk, pm_us, pm_wIk]
    exact pe_two' k1 k2
theorem b177_35 {d : Nat} {Φ : Option pe_V → pe_H → Prop} {σ : pe_H} {M q : Nat} {y : Nat → Int → Int} (hF : pm_F M σ) {x1 : Int} {x2 : Int}  (w0 : pe_in x2 := by unfold pe_in; omega)  (k1 : x2 = 112 → pe_X d 177 (75, [some (.inr (.inr M)), some (.inl x1), some (.inl x2)], [.inr (.inr M)], pm_h M σ q y) Φ) (k2 : ¬ (x2 = 112) → pe_X d 177 (41, [some (.inr (.inr M)), some (.inl x1), some (.inl x2)], [.inr (.inr M)], pm_h M σ q y) Φ) : pe_X d 177 (35, [some (.inr (.inr M)), some (.inl x1), some (.inl x2)], [.inr (.inr M)], pm_h M σ q y) Φ := by
  refine pe_blk 21 3 ck177 [] (cond (decide ((pe_w x2) = (pe_w 112))) 75 41, [some (.inr (.inr M)), some (.inl x1), some (.inl x2)], [.inr (.inr M)], pm_h M σ q y) rfl ?_ ?_
  · exact trivial
  · try simp (disch := omega) only [pe_wi w0, pe_wi (x := 112) ⟨by decide, by decide⟩]
    exact pe_two k1 k2
theorem b177_41 {d : Nat} {Φ : Option pe_V → pe_H → Prop} {σ : pe_H} {M q : Nat} {y : Nat → Int → Int} (hF : pm_F M σ) {x1 : Int} {x2 : Int}  (w0 : pe_in x2 := by unfold pe_in; omega)  (k1 : x2 = 99 → pe_X d 177 (75, [some (.inr (.inr M)), some (.inl x1), some (.inl x2)], [.inr (.inr M)], pm_h M σ q y) Φ) (k2 : ¬ (x2 = 99) → pe_X d 177 (47, [some (.inr (.inr M)), some (.inl x1), some (.inl x2)], [.inr (.inr M)], pm_h M σ q y) Φ) : pe_X d 177 (41, [some (.inr (.inr M)), some (.inl x1), some (.inl x2)], [.inr (.inr M)], pm_h M σ q y) Φ := by
  refine pe_blk 24 3 ck177 [] (cond (decide ((pe_w x2) = (pe_w 99))) 75 47, [some (.inr (.inr M)), some (.inl x1), some (.inl x2)], [.inr (.inr M)], pm_h M σ q y) rfl ?_ ?_
  · exact trivial
  · try simp (disch := omega) only [pe_wi w0, pe_wi (x := 99) ⟨by decide, by decide⟩]
    exact pe_two k1 k2
theorem b177_47 {d : Nat} {Φ : Option pe_V → pe_H → Prop} {σ : pe_H} {M q : Nat} {y : Nat → Int → Int} (hF : pm_F M σ) {x1 : Int} {x2 : Int}  (w0 : pe_in x2 := by unfold pe_in; omega)  (k1 : x2 = 110 → pe_X d 177 (75, [some (.inr (.inr M)), some (.inl x1), some (.inl x2)], [.inr (.inr M)], pm_h M σ q y) Φ) (k2 : ¬ (x2 = 110) → pe_X d 177 (53, [some (.inr (.inr M)), some (.inl x1), some (.inl x2)], [.inr (.inr M)], pm_h M σ q y) Φ) : pe_X d 177 (47, [some (.inr (.inr M)), some (.inl x1), some (.inl x2)], [.inr (.inr M)], pm_h M σ q y) Φ := by
  refine pe_blk 27 3 ck177 [] (cond (decide ((pe_w x2) = (pe_w 110))) 75 53, [some (.inr (.inr M)), some (.inl x1), some (.inl x2)], [.inr (.inr M)], pm_h M σ q y) rfl ?_ ?_
  · exact trivial
  · try simp (disch := omega) only [pe_wi w0, pe_wi (x := 110) ⟨by decide, by decide⟩]
    exact pe_two k1 k2
theorem b177_53 {d : Nat} {Φ : Option pe_V → pe_H → Prop} {σ : pe_H} {M q : Nat} {y : Nat → Int → Int} (hF : pm_F M σ) {x1 : Int} {x2 : Int}  (w0 : pe_in x2 := by unfold pe_in; omega)  (k1 : x2 = 120 → pe_X d 177 (75, [some (.inr (.inr M)), some (.inl x1), some (.inl x2)], [.inr (.inr M)], pm_h M σ q y) Φ) (k2 : ¬ (x2 = 120) → pe_X d 177 (59, [some (.inr (.inr M)), some (.inl x1), some (.inl x2)], [.inr (.inr M)], pm_h M σ q y) Φ) : pe_X d 177 (53, [some (.inr (.inr M)), some (.inl x1), some (.inl x2)], [.inr (.inr M)], pm_h M σ q y) Φ := by
  refine pe_blk 30 3 ck177 [] (cond (decide ((pe_w x2) = (pe_w 120))) 75 59, [some (.inr (.inr M)), some (.inl x1), some (.inl x2)], [.inr (.inr M)], pm_h M σ q y) rfl ?_ ?_
  · exact trivial
  · try simp (disch := omega) only [pe_wi w0, pe_wi (x := 120) ⟨by decide, by decide⟩]
    exact pe_two k1 k2
theorem b177_59 {d : Nat} {Φ : Option pe_V → pe_H → Prop} {σ : pe_H} {M q : Nat} {y : Nat → Int → Int} (hF : pm_F M σ) {x1 : Int} {x2 : Int}  (w0 : pe_in x2 := by unfold pe_in; omega)  (k1 : x2 = 119 → pe_X d 177 (75, [some (.inr (.inr M)), some (.inl x1), some (.inl x2)], [.inr (.inr M)], pm_h M σ q y) Φ) (k2 : ¬ (x2 = 119) → pe_X d 177 (65, [some (.inr (.inr M)), some (.inl x1), some (.inl x2)], [.inr (.inr M)], pm_h M σ q y) Φ) : pe_X d 177 (59, [some (.inr (.inr M)), some (.inl x1), some (.inl x2)], [.inr (.inr M)], pm_h M σ q y) Φ := by
  refine pe_blk 33 3 ck177 [] (cond (decide ((pe_w x2) = (pe_w 119))) 75 65, [some (.inr (.inr M)), some (.inl x1), some (.inl x2)], [.inr (.inr M)], pm_h M σ q y) rfl ?_ ?_
  · exact trivial
  · try simp (disch := omega) only [pe_wi w0, pe_wi (x := 119) ⟨by decide, by decide⟩]
    exact pe_two k1 k2
theorem b177_65 {d : Nat} {Φ : Option pe_V → pe_H → Prop} {σ : pe_H} {M q : Nat} {y : Nat → Int → Int} (hF : pm_F M σ) {x1 : Int} {x2 : Int}  (w0 : pe_in x2 := by unfold pe_in; omega)  (k1 : x2 = 108 → pe_X d 177 (75, [some (.inr (.inr M)), some (.inl x1), some (.inl x2)], [.inr (.inr M)], pm_h M σ q y) Φ) (k2 : ¬ (x2 = 108) → pe_X d 177 (71, [some (.inr (.inr M)), some (.inl x1), some (.inl x2)], [.inr (.inr M)], pm_h M σ q y) Φ) : pe_X d 177 (65, [some (.inr (.inr M)), some (.inl x1), some (.inl x2)], [.inr (.inr M)], pm_h M σ q y) Φ := by
  refine pe_blk 36 3 ck177 [] (cond (decide ((pe_w x2) = (pe_w 108))) 75 71, [some (.inr (.inr M)), some (.inl x1), some (.inl x2)], [.inr (.inr M)], pm_h M σ q y) rfl ?_ ?_
  · exact trivial
  · try simp (disch := omega) only [pe_wi w0, pe_wi (x := 108) ⟨by decide, by decide⟩]
    exact pe_two k1 k2
theorem b177_71 {d : Nat} {Φ : Option pe_V → pe_H → Prop} {σ : pe_H} {M q : Nat} {y : Nat → Int → Int} (hF : pm_F M σ) {x1 : Int} {x2 : Int}    (k : pe_X d 177 (76, [some (.inr (.inr M)), some (.inl x1), some (.inl x2)], [.inl 1, .inr (.inr M)], pm_h M σ q y) Φ) : pe_X d 177 (71, [some (.inr (.inr M)), some (.inl x1), some (.inl x2)], [.inr (.inr M)], pm_h M σ q y) Φ := by
  refine pe_blk 39 2 ck177 [] (76, [some (.inr (.inr M)), some (.inl x1), some (.inl x2)], [.inl 1, .inr (.inr M)], pm_h M σ q y) rfl ?_ ?_
  · exact trivial
  · exact k
theorem b177_75 {d : Nat} {Φ : Option pe_V → pe_H → Prop} {σ : pe_H} {M q : Nat} {y : Nat → Int → Int} (hF : pm_F M σ) {x1 : Int} {x2 : Int}    (k : pe_X d 177 (76, [some (.inr (.inr M)), some (.inl x1), some (.inl x2)], [.inl 0, .inr (.inr M)], pm_h M σ q y) Φ) : pe_X d 177 (75, [some (.inr (.inr M)), some (.inl x1), some (.inl x2)], [.inr (.inr M)], pm_h M σ q y) Φ := by
  refine pe_blk 41 1 ck177 [] (76, [some (.inr (.inr M)), some (.inl x1), some (.inl x2)], [.inl 0, .inr (.inr M)], pm_h M σ q y) rfl ?_ ?_
  · exact trivial
  · exact k
theorem b177_76 {d : Nat} {Φ : Option pe_V → pe_H → Prop} {σ : pe_H} {M q : Nat} {y : Nat → Int → Int} (hF : pm_F M σ) {x1 : Int} {x2 : Int} {s1 : Int}  (w0 : pe_in s1 := by unfold pe_in; omega) (h0 : s1 = 0 ∨ s1 = 1 := by first | assumption | omega) (k1 : s1 = 0 → pe_X d 177 (95, [some (.inr (.inr M)), some (.inl x1), some (.inl x2)], [.inl (y 0 39), .inr (.inr M)], pm_h M σ q (pm_u y 0 40 s1)) Φ) (k2 : ¬ (s1 = 0) → pe_X d 177 (91, [some (.inr (.inr M)), some (.inl x1), some (.inl x2)], [.inl (y 0 39), .inr (.inr M)], pm_h M σ q (pm_u y 0 40 s1)) Φ) : pe_X d 177 (76, [some (.inr (.inr M)), some (.inl x1), some (.inl x2)], [.inl s1, .inr (.inr M)], pm_h M σ q y) Φ := by
  refine pe_blk 42 7 ck177 [pe_K (pm_h M σ q y) M = 9, s1 = 0 ∨ s1 = 1, pe_K (pe_wI (pm_h M σ q y) M 40 s1) M = 9, pe_K (pe_wI (pm_h M σ q y) M 40 s1) M = 9] (cond (decide ((pe_w (pe_I (pe_wI (pm_h M σ q y) M 40 s1) M 40)) = 0)) 95 91, [some (.inr (.inr M)), some (.inl x1), some (.inl x2)], [.inl (pe_I (pe_wI (pm_h M σ q y) M 40 s1) M 39), .inr (.inr M)], pe_wI (pm_h M σ q y) M 40 s1) rfl ?_ ?_
  · first
    | (simp (disch := omega) only [pe_all, pe_wi w0, pe_I_wR, pe_K_wI, pe_K_wR, pm_I0, pm_KM hF, pm_Kh, pm_uj, pm_uk, pm_us, pm_wI0]; done)
    | (simp (disch := omega) only [pe_all, pe_wi w0, pe_I_wR, pe_K_wI, pe_K_wR, pm_I0, pm_KM hF, pm_Kh, pm_uj, pm_uk, pm_us, pm_wI0]; (repeat' apply And.intro) <;> first | assumption | omega | decide)
  · try simp (disch := omega) only [pe_wi w0, pe_I_wR, pe_K_wI, pe_K_wR, pm_I0, pm_KM hF, pm_Kh, pm_uj, pm_uk, pm_us, pm_wI0]
    exact pe_two k1 k2
set_option maxRecDepth 8000 in
theorem b177_91 {d : Nat} {Φ : Option pe_V → pe_H → Prop} {σ : pe_H} {M q : Nat} {y : Nat → Int → Int} (hF : pm_F M σ) {x1 : Int} {x2 : Int} {s1 : Int}    (k : pe_X d 177 (96, [some (.inr (.inr M)), some (.inl x1), some (.inl x2)], [.inl 0, .inl s1, .inr (.inr M)], pm_h M σ q y) Φ) : pe_X d 177 (91, [some (.inr (.inr M)), some (.inl x1), some (.inl x2)], [.inl s1, .inr (.inr M)], pm_h M σ q y) Φ := by
  refine pe_blk 49 2 ck177 [] (96, [some (.inr (.inr M)), some (.inl x1), some (.inl x2)], [.inl 0, .inl s1, .inr (.inr M)], pm_h M σ q y) rfl ?_ ?_
  · exact trivial
  · exact k
set_option maxRecDepth 8000 in
theorem b177_95 {d : Nat} {Φ : Option pe_V → pe_H → Prop} {σ : pe_H} {M q : Nat} {y : Nat → Int → Int} (hF : pm_F M σ) {x1 : Int} {x2 : Int} {s1 : Int}    (k : pe_X d 177 (96, [some (.inr (.inr M)), some (.inl x1), some (.inl x2)], [.inl 1, .inl s1, .inr (.inr M)], pm_h M σ q y) Φ) : pe_X d 177 (95, [some (.inr (.inr M)), some (.inl x1), some (.inl x2)], [.inl s1, .inr (.inr M)], pm_h M σ q y) Φ := by
  refine pe_blk 51 1 ck177 [] (96, [some (.inr (.inr M)), some (.inl x1), some (.inl x2)], [.inl 1, .inl s1, .inr (.inr M)], pm_h M σ q y) rfl ?_ ?_
  · exact trivial
  · exact k
set_option maxRecDepth 8000 in
theorem b177_96 {d : Nat} {Φ : Option pe_V → pe_H → Prop} {σ : pe_H} {M q : Nat} {y : Nat → Int → Int} (hF : pm_F M σ) {x1 : Int} {x2 : Int} {s1 : Int} {s2 : Int}  (w0 : pe_in (y 0 40) := by unfold pe_in; omega)  (k1 : ¬ (y 0 40) = 0 → pe_X d 177 (115, [some (.inr (.inr M)), some (.inl x1), some (.inl x2)], [], pm_h M σ q (pm_u y 0 39 (s1 + s2))) Φ) (k2 : (y 0 40) = 0 → pe_X d 177 (107, [some (.inr (.inr M)), some (.inl x1), some (.inl x2)], [], pm_h M σ q (pm_u y 0 39 (s1 + s2))) Φ) : pe_X d 177 (96, [some (.inr (.inr M)), some (.inl x1), some (.inl x2)], [.inl s2, .inl s1, .inr (.inr M)], pm_h M σ q y) Φ := by
  refine pe_blk 52 5 ck177 [pe_K (pm_h M σ q y) M = 9, pe_K (pe_wI (pm_h M σ q y) M 39 (s1 + s2)) M = 9] (cond (decide (¬ (pe_w (pe_I (pe_wI (pm_h M σ q y) M 39 (s1 + s2)) M 40)) = 0)) 115 107, [some (.inr (.inr M)), some (.inl x1), some (.inl x2)], [], pe_wI (pm_h M σ q y) M 39 (s1 + s2)) rfl ?_ ?_
  · first
    | (simp (disch := omega) only [pe_all, pe_wi w0, pe_I_wR, pe_K_wI, pe_K_wR, pm_I0, pm_KM hF, pm_Kh, pm_uj, pm_uk, pm_us, pm_wI0]; done)
    | (simp (disch := omega) only [pe_all, pe_wi w0, pe_I_wR, pe_K_wI, pe_K_wR, pm_I0, pm_KM hF, pm_Kh, pm_uj, pm_uk, pm_us, pm_wI0]; (repeat' apply And.intro) <;> first | assumption | omega | decide)
  · try simp (disch := omega) only [pe_wi w0, pe_I_wR, pe_K_wI, pe_K_wR, pm_I0, pm_KM hF, pm_Kh, pm_uj, pm_uk, pm_us, pm_wI0]
    exact pe_two' k1 k2
set_option maxRecDepth 8000 in
theorem b177_107 {d : Nat} {Φ : Option pe_V → pe_H → Prop} {σ : pe_H} {M q : Nat} {y : Nat → Int → Int} (hF : pm_F M σ) {x1 : Int} {x2 : Int}    (k : pe_M d 176 [.inr (.inr M), .inl x2, .inl (3 * x1)] (pm_h M σ q y) (fun r σ' => pe_X d 177 (115, [some (.inr (.inr M)), some (.inl x1), some (.inl x2)], r.toList ++ [], σ') Φ)) : pe_X d 177 (107, [some (.inr (.inr M)), some (.inl x1), some (.inl x2)], [], pm_h M σ q y) Φ := by
  refine pe_blk 57 5 ck177 [] (112, [some (.inr (.inr M)), some (.inl x1), some (.inl x2)], [.inl (3 * x1), .inl x2, .inr (.inr M)], pm_h M σ q y) rfl ?_ ?_
  · exact trivial
  · try simp (disch := omega) only [pe_K_wI, pe_K_wR, pm_KM hF, pm_Kh]
    have hrc : pe_K (pm_h M σ q y) M = 9 := by first | assumption | (simp (disch := omega) only [pe_K_wI, pe_K_wR, pm_KM hF, pm_Kh]; done) | (simp (disch := omega) only [pe_K_wI, pe_K_wR, pm_KM hF, pm_Kh]; assumption)
    exact pe_cal 62 ck177 rfl rfl rfl ⟨hrc, by decide⟩ k
set_option maxRecDepth 8000 in
theorem b177_115 {d : Nat} {Φ : Option pe_V → pe_H → Prop} {σ : pe_H} {M q : Nat} {y : Nat → Int → Int} (hF : pm_F M σ) {o1 : Option pe_V} {o2 : Option pe_V}  (w0 : pe_in (y 0 40) := by unfold pe_in; omega)  (k1 : ¬ (y 0 40) = 0 → pe_X d 177 (132, [some (.inr (.inr M)), o1, o2], [.inr (.inr M)], pm_h M σ q y) Φ) (k2 : (y 0 40) = 0 → pe_X d 177 (123, [some (.inr (.inr M)), o1, o2], [.inr (.inr M)], pm_h M σ q y) Φ) : pe_X d 177 (115, [some (.inr (.inr M)), o1, o2], [], pm_h M σ q y) Φ := by
  refine pe_blk 63 4 ck177 [pe_K (pm_h M σ q y) M = 9] (cond (decide (¬ (pe_w (pe_I (pm_h M σ q y) M 40)) = 0)) 132 123, [some (.inr (.inr M)), o1, o2], [.inr (.inr M)], pm_h M σ q y) rfl ?_ ?_
  · first
    | (simp (disch := omega) only [pe_all, pe_wi w0, pe_I_wR, pe_K_wI, pe_K_wR, pm_I0, pm_KM hF, pm_Kh, pm_uj, pm_uk, pm_us]; done)
    | (simp (disch := omega) only [pe_all, pe_wi w0, pe_I_wR, pe_K_wI, pe_K_wR, pm_I0, pm_KM hF, pm_Kh, pm_uj, pm_uk, pm_us]; (repeat' apply And.intro) <;> first | assumption | omega | decide)
  · try simp (disch := omega) only [pe_wi w0, pe_I_wR, pe_K_wI, pe_K_wR, pm_I0, pm_KM hF, pm_Kh, pm_uj, pm_uk, pm_us]
    exact pe_two' k1 k2
set_option maxRecDepth 8000 in
theorem b177_123 {d : Nat} {Φ : Option pe_V → pe_H → Prop} {σ : pe_H} {M q : Nat} {y : Nat → Int → Int} (hF : pm_F M σ) {o1 : Option pe_V} {o2 : Option pe_V}    (k : pe_M d 172 [.inr (.inr M)] (pm_h M σ q y) (fun r σ' => pe_X d 177 (127, [some (.inr (.inr M)), o1, o2], r.toList ++ [.inr (.inr M)], σ') Φ)) : pe_X d 177 (123, [some (.inr (.inr M)), o1, o2], [.inr (.inr M)], pm_h M σ q y) Φ := by
  refine pe_blk 67 1 ck177 [] (124, [some (.inr (.inr M)), o1, o2], [.inr (.inr M), .inr (.inr M)], pm_h M σ q y) rfl ?_ ?_
  · exact trivial
  · try simp (disch := omega) only [pe_K_wI, pe_K_wR, pm_KM hF, pm_Kh]
    have hrc : pe_K (pm_h M σ q y) M = 9 := by first | assumption | (simp (disch := omega) only [pe_K_wI, pe_K_wR, pm_KM hF, pm_Kh]; done) | (simp (disch := omega) only [pe_K_wI, pe_K_wR, pm_KM hF, pm_Kh]; assumption)
    exact pe_cal 68 ck177 rfl rfl rfl ⟨hrc, by decide⟩ k
set_option maxRecDepth 8000 in
theorem b177_127 {d : Nat} {Φ : Option pe_V → pe_H → Prop} {σ : pe_H} {M q : Nat} {y : Nat → Int → Int} (hF : pm_F M σ) {o1 : Option pe_V} {o2 : Option pe_V} {s1 : Int}  (w0 : pe_in s1 := by unfold pe_in; omega)  (k1 : s1 = 59 → pe_X d 177 (136, [some (.inr (.inr M)), o1, o2], [.inr (.inr M)], pm_h M σ q y) Φ) (k2 : ¬ (s1 = 59) → pe_X d 177 (132, [some (.inr (.inr M)), o1, o2], [.inr (.inr M)], pm_h M σ q y) Φ) : pe_X d 177 (127, [some (.inr (.inr M)), o1, o2], [.inl s1, .inr (.inr M)], pm_h M σ q y) Φ := by
  refine pe_blk 69 2 ck177 [] (cond (decide ((pe_w s1) = (pe_w 59))) 136 132, [some (.inr (.inr M)), o1, o2], [.inr (.inr M)], pm_h M σ q y) rfl ?_ ?_
  · exact trivial
  · try simp (disch := omega) only [pe_wi w0, pe_wi (x := 59) ⟨by decide, by decide⟩]
    exact pe_two k1 k2
set_option maxRecDepth 8000 in
theorem b177_132 {d : Nat} {Φ : Option pe_V → pe_H → Prop} {σ : pe_H} {M q : Nat} {y : Nat → Int → Int} (hF : pm_F M σ) {o1 : Option pe_V} {o2 : Option pe_V}    (k : pe_X d 177 (137, [some (.inr (.inr M)), o1, o2], [.inl 1, .inr (.inr M)], pm_h M σ q y) Φ) : pe_X d 177 (132, [some (.inr (.inr M)), o1, o2], [.inr (.inr M)], pm_h M σ q y) Φ := by
  refine pe_blk 71 2 ck177 [] (137, [some (.inr (.inr M)), o1, o2], [.inl 1, .inr (.inr M)], pm_h M σ q y) rfl ?_ ?_
  · exact trivial
  · exact k
set_option maxRecDepth 8000 in
theorem b177_136 {d : Nat} {Φ : Option pe_V → pe_H → Prop} {σ : pe_H} {M q : Nat} {y : Nat → Int → Int} (hF : pm_F M σ) {o1 : Option pe_V} {o2 : Option pe_V}    (k : pe_X d 177 (137, [some (.inr (.inr M)), o1, o2], [.inl 0, .inr (.inr M)], pm_h M σ q y) Φ) : pe_X d 177 (136, [some (.inr (.inr M)), o1, o2], [.inr (.inr M)], pm_h M σ q y) Φ := by
  refine pe_blk 73 1 ck177 [] (137, [some (.inr (.inr M)), o1, o2], [.inl 0, .inr (.inr M)], pm_h M σ q y) rfl ?_ ?_
  · exact trivial
  · exact k
set_option maxRecDepth 8000 in
theorem b177_137 {d : Nat} {Φ : Option pe_V → pe_H → Prop} {σ : pe_H} {M q : Nat} {y : Nat → Int → Int} (hF : pm_F M σ) {o1 : Option pe_V} {o2 : Option pe_V} {s1 : Int}  (w0 : pe_in s1 := by unfold pe_in; omega) (h0 : s1 = 0 ∨ s1 = 1 := by first | assumption | omega) (k1 : s1 = 0 → pe_X d 177 (156, [some (.inr (.inr M)), o1, o2], [.inl (y 0 39), .inr (.inr M)], pm_h M σ q (pm_u y 0 40 s1)) Φ) (k2 : ¬ (s1 = 0) → pe_X d 177 (152, [some (.inr (.inr M)), o1, o2], [.inl (y 0 39), .inr (.inr M)], pm_h M σ q (pm_u y 0 40 s1)) Φ) : pe_X d 177 (137, [some (.inr (.inr M)), o1, o2], [.inl s1, .inr (.inr M)], pm_h M σ q y) Φ := by
  refine pe_blk 74 7 ck177 [pe_K (pm_h M σ q y) M = 9, s1 = 0 ∨ s1 = 1, pe_K (pe_wI (pm_h M σ q y) M 40 s1) M = 9, pe_K (pe_wI (pm_h M σ q y) M 40 s1) M = 9] (cond (decide ((pe_w (pe_I (pe_wI (pm_h M σ q y) M 40 s1) M 40)) = 0)) 156 152, [some (.inr (.inr M)), o1, o2], [.inl (pe_I (pe_wI (pm_h M σ q y) M 40 s1) M 39), .inr (.inr M)], pe_wI (pm_h M σ q y) M 40 s1) rfl ?_ ?_
  · first
    | (simp (disch := omega) only [pe_all, pe_wi w0, pe_I_wR, pe_K_wI, pe_K_wR, pm_I0, pm_KM hF, pm_Kh, pm_uj, pm_uk, pm_us, pm_wI0]; done)
    | (simp (disch := omega) only [pe_all, pe_wi w0, pe_I_wR, pe_K_wI, pe_K_wR, pm_I0, pm_KM hF, pm_Kh, pm_uj, pm_uk, pm_us, pm_wI0]; (repeat' apply And.intro) <;> first | assumption | omega | decide)
  · try simp (disch := omega) only [pe_wi w0, pe_I_wR, pe_K_wI, pe_K_wR, pm_I0, pm_KM hF, pm_Kh, pm_uj, pm_uk, pm_us, pm_wI0]
    exact pe_two k1 k2
set_option maxRecDepth 8000 in
theorem b177_152 {d : Nat} {Φ : Option pe_V → pe_H → Prop} {σ : pe_H} {M q : Nat} {y : Nat → Int → Int} (hF : pm_F M σ) {o1 : Option pe_V} {o2 : Option pe_V} {s1 : Int}    (k : pe_X d 177 (157, [some (.inr (.inr M)), o1, o2], [.inl 0, .inl s1, .inr (.inr M)], pm_h M σ q y) Φ) : pe_X d 177 (152, [some (.inr (.inr M)), o1, o2], [.inl s1, .inr (.inr M)], pm_h M σ q y) Φ := by
  refine pe_blk 81 2 ck177 [] (157, [some (.inr (.inr M)), o1, o2], [.inl 0, .inl s1, .inr (.inr M)], pm_h M σ q y) rfl ?_ ?_
  · exact trivial
  · exact k
set_option maxRecDepth 8000 in
theorem b177_156 {d : Nat} {Φ : Option pe_V → pe_H → Prop} {σ : pe_H} {M q : Nat} {y : Nat → Int → Int} (hF : pm_F M σ) {o1 : Option pe_V} {o2 : Option pe_V} {s1 : Int}    (k : pe_X d 177 (157, [some (.inr (.inr M)), o1, o2], [.inl 1, .inl s1, .inr (.inr M)], pm_h M σ q y) Φ) : pe_X d 177 (156, [some (.inr (.inr M)), o1, o2], [.inl s1, .inr (.inr M)], pm_h M σ q y) Φ := by
  refine pe_blk 83 1 ck177 [] (157, [some (.inr (.inr M)), o1, o2], [.inl 1, .inl s1, .inr (.inr M)], pm_h M σ q y) rfl ?_ ?_
  · exact trivial
  · exact k
set_option maxRecDepth 8000 in
theorem b177_157 {d : Nat} {Φ : Option pe_V → pe_H → Prop} {σ : pe_H} {M q : Nat} {y : Nat → Int → Int} (hF : pm_F M σ) {o1 : Option pe_V} {o2 : Option pe_V} {s1 : Int} {s2 : Int}    (k : Φ none (pm_h M σ q (pm_u (pm_u y 0 39 (s1 + s2)) 0 41 ((y 0 41) + 1)))) : pe_X d 177 (157, [some (.inr (.inr M)), o1, o2], [.inl s2, .inl s1, .inr (.inr M)], pm_h M σ q y) Φ := by
  refine pe_blk 84 8 ck177 [pe_K (pm_h M σ q y) M = 9, pe_K (pe_wI (pm_h M σ q y) M 39 (s1 + s2)) M = 9, pe_K (pe_wI (pm_h M σ q y) M 39 (s1 + s2)) M = 9] (171, [some (.inr (.inr M)), o1, o2], [], pe_wI (pe_wI (pm_h M σ q y) M 39 (s1 + s2)) M 41 ((pe_I (pe_wI (pm_h M σ q y) M 39 (s1 + s2)) M 41) + 1)) rfl ?_ ?_
  · first
    | (simp (disch := omega) only [pe_all, pe_I_wR, pe_K_wI, pe_K_wR, pm_I0, pm_KM hF, pm_Kh, pm_uj, pm_uk, pm_us, pm_wI0]; done)
    | (simp (disch := omega) only [pe_all, pe_I_wR, pe_K_wI, pe_K_wR, pm_I0, pm_KM hF, pm_Kh, pm_uj, pm_uk, pm_us, pm_wI0]; (repeat' apply And.intro) <;> first | assumption | omega | decide)
  · try simp (disch := omega) only [pe_I_wR, pe_K_wI, pe_K_wR, pm_I0, pm_KM hF, pm_Kh, pm_uj, pm_uk, pm_us, pm_wI0]
    exact pe_fine 92 ck177 rfl rfl rfl trivial k
-- StepMachinesModel.programTold(III)Z
def T178 : List (Nat × Instr × Nat) := [(0, .iconst 0, 1), (1, .istore 4, 2), (3, .iconst 0, 1), (4, .istore 5, 2), (6, .iload 5, 2), (8, .iload_n 3, 1), (9, .if_icmp .ge 33, 3), (12, .iload 4, 2), (14, .aload_n 0, 1), (15, .getfield 120, 3), (18, .iload_n 2, 1), (19, .iload 5, 2), (21, .iadd, 1), (22, .iaload, 1), (23, .bipush 102, 2), (25, .if_icmp .ne 7, 3), (28, .iconst 1, 1), (29, .goto 4, 3), (32, .iconst 0, 1), (33, .iadd, 1), (34, .istore 4, 2), (36, .iinc 5 1, 3), (39, .goto (-33), 3), (42, .iload_n 1, 1), (43, .iconst 5, 1), (44, .if_icmp .ge 19, 3), (47, .iload_n 3, 1), (48, .bipush 16, 2), (50, .if_icmp .gt 13, 3), (53, .iload 4, 2), (55, .iconst 1, 1), (56, .if_icmp .gt 7, 3), (59, .iconst 1, 1), (60, .goto 4, 3), (63, .iconst 0, 1), (64, .istore 5, 2), (66, .iconst 0, 1), (67, .istore 6, 2), (69, .iload 5, 2), (71, .ifCond .eq 57, 3), (74, .iload 6, 2), (76, .iload_n 3, 1), (77, .if_icmp .ge 51, 3), (80, .aload_n 0, 1), (81, .getfield 13, 3), (84, .bipush 16, 2), (86, .iload_n 1, 1), (87, .imul, 1), (88, .iload 6, 2), (90, .iadd, 1), (91, .aload_n 0, 1), (92, .getfield 120, 3), (95, .iload_n 2, 1), (96, .iload 6, 2), (98, .iadd, 1), (99, .iaload, 1), (100, .iastore, 1), (101, .aload_n 0, 1), (102, .getfield 16, 3), (105, .bipush 16, 2), (107, .iload_n 1, 1), (108, .imul, 1), (109, .iload 6, 2), (111, .iadd, 1), (112, .aload_n 0, 1), (113, .getfield 123, 3), (116, .iload_n 2, 1), (117, .iload 6, 2), (119, .iadd, 1), (120, .iaload, 1), (121, .iastore, 1), (122, .iinc 6 1, 3), (125, .goto (-56), 3), (128, .iload 5, 2), (130, .ifCond .eq 10, 3), (133, .aload_n 0, 1), (134, .getfield 7, 3), (137, .iload_n 1, 1), (138, .iload_n 3, 1), (139, .iastore, 1), (140, .iload 5, 2), (142, .ireturn, 1)]
theorem ck178 : pe_ctx 178 9 false (some .boolean) 7 T178 := ⟨rfl, rfl, rfl, rfl, by decide +kernel, by decide, by decide⟩
theorem b178_0 {d : Nat} {Φ : Option pe_V → pe_H → Prop} {σ : pe_H} {M q : Nat} {y : Nat → Int → Int} (hF : pm_F M σ) {x1 : Int} {x2 : Int} {x3 : Int} {o4 : Option pe_V} {o5 : Option pe_V} {o6 : Option pe_V}    (k : pe_X d 178 (6, [some (.inr (.inr M)), some (.inl x1), some (.inl x2), some (.inl x3), some (.inl 0), some (.inl 0), o6], [], pm_h M σ q y) Φ) : pe_X d 178 (0, [some (.inr (.inr M)), some (.inl x1), some (.inl x2), some (.inl x3), o4, o5, o6], [], pm_h M σ q y) Φ := by
  refine pe_blk 0 4 ck178 [] (6, [some (.inr (.inr M)), some (.inl x1), some (.inl x2), some (.inl x3), some (.inl 0), some (.inl 0), o6], [], pm_h M σ q y) rfl ?_ ?_
  · exact trivial
  · exact k
theorem b178_6 {d : Nat} {Φ : Option pe_V → pe_H → Prop} {σ : pe_H} {M q : Nat} {y : Nat → Int → Int} (hF : pm_F M σ) {x1 : Int} {x2 : Int} {x3 : Int} {x4 : Int} {x5 : Int} {o6 : Option pe_V}  (w0 : pe_in x3 := by unfold pe_in; omega) (w1 : pe_in x5 := by unfold pe_in; omega)  (k1 : x3 ≤ x5 → pe_X d 178 (42, [some (.inr (.inr M)), some (.inl x1), some (.inl x2), some (.inl x3), some (.inl x4), some (.inl x5), o6], [], pm_h M σ q y) Φ) (k2 : ¬ (x3 ≤ x5) → pe_X d 178 (12, [some (.inr (.inr M)), some (.inl x1), some (.inl x2), some (.inl x3), some (.inl x4), some (.inl x5), o6], [], pm_h M σ q y) Φ) : pe_X d 178 (6, [some (.inr (.inr M)), some (.inl x1), some (.inl x2), some (.inl x3), some (.inl x4), some (.inl x5), o6], [], pm_h M σ q y) Φ := by
  refine pe_blk 4 3 ck178 [] (cond (decide ((pe_w x3) ≤ (pe_w x5))) 42 12, [some (.inr (.inr M)), some (.inl x1), some (.inl x2), some (.inl x3), some (.inl x4), some (.inl x5), o6], [], pm_h M σ q y) rfl ?_ ?_
  · exact trivial
  · try simp (disch := omega) only [pe_wi w0, pe_wi w1]
    exact pe_two k1 k2
theorem b178_12 {d : Nat} {Φ : Option pe_V → pe_H → Prop} {σ : pe_H} {M q : Nat} {y : Nat → Int → Int} (hF : pm_F M σ) {x1 : Int} {x2 : Int} {x3 : Int} {x4 : Int} {x5 : Int} {o6 : Option pe_V}  (w0 : pe_in (x2 + x5) := by unfold pe_in; omega) (w1 : pe_in (y 36 (x2 + x5)) := by unfold pe_in; omega) (h0 : 0 ≤ (x2 + x5) := by first | assumption | omega) (h1 : (x2 + x5) < 100 := by first | assumption | omega) (k1 : ¬ (y 36 (x2 + x5)) = 102 → pe_X d 178 (32, [some (.inr (.inr M)), some (.inl x1), some (.inl x2), some (.inl x3), some (.inl x4), some (.inl x5), o6], [.inl x4], pm_h M σ q y) Φ) (k2 : (y 36 (x2 + x5)) = 102 → pe_X d 178 (28, [some (.inr (.inr M)), some (.inl x1), some (.inl x2), some (.inl x3), some (.inl x4), some (.inl x5), o6], [.inl x4], pm_h M σ q y) Φ) : pe_X d 178 (12, [some (.inr (.inr M)), some (.inl x1), some (.inl x2), some (.inl x3), some (.inl x4), some (.inl x5), o6], [], pm_h M σ q y) Φ := by
  refine pe_blk 7 9 ck178 [pe_K (pm_h M σ q y) M = 9, pe_K (pm_h M σ q y) (pe_R (pm_h M σ q y) M 45) = 10, 0 ≤ (pe_w (x2 + x5)), (pe_w (x2 + x5)) < pe_L (pm_h M σ q y) (pe_R (pm_h M σ q y) M 45)] (cond (decide (¬ (pe_w (pe_I (pm_h M σ q y) (pe_R (pm_h M σ q y) M 45) (pe_w (x2 + x5)))) = (pe_w 102))) 32 28, [some (.inr (.inr M)), some (.inl x1), some (.inl x2), some (.inl x3), some (.inl x4), some (.inl x5), o6], [.inl x4], pm_h M σ q y) rfl ?_ ?_
  · first
    | (simp (disch := omega) only [pe_all, pe_wi w0, pe_wi w1, pe_wi (x := 102) ⟨by decide, by decide⟩, pe_I_wR, pe_K_wI, pe_K_wR, pe_L_wI, pe_L_wR, pe_R_nej, pe_R_wI, pm_Ik, pm_K36 hF, pm_KM hF, pm_Kh, pm_L36 hF, pm_Lh, pm_R45 hF, pm_Rh, pm_uj, pm_uk, pm_us]; done)
    | (simp (disch := omega) only [pe_all, pe_wi w0, pe_wi w1, pe_wi (x := 102) ⟨by decide, by decide⟩, pe_I_wR, pe_K_wI, pe_K_wR, pe_L_wI, pe_L_wR, pe_R_nej, pe_R_wI, pm_Ik, pm_K36 hF, pm_KM hF, pm_Kh, pm_L36 hF, pm_Lh, pm_R45 hF, pm_Rh, pm_uj, pm_uk, pm_us]; (repeat' apply And.intro) <;> first | assumption | omega | decide)
  · try simp (disch := omega) only [pe_wi w0, pe_wi w1, pe_wi (x := 102) ⟨by decide, by decide⟩, pe_I_wR, pe_K_wI, pe_K_wR, pe_L_wI, pe_L_wR, pe_R_nej, pe_R_wI, pm_Ik, pm_K36 hF, pm_KM hF, pm_Kh, pm_L36 hF, pm_Lh, pm_R45 hF, pm_Rh, pm_uj, pm_uk, pm_us]
    exact pe_two' k1 k2
theorem b178_28 {d : Nat} {Φ : Option pe_V → pe_H → Prop} {σ : pe_H} {M q : Nat} {y : Nat → Int → Int} (hF : pm_F M σ) {x1 : Int} {x2 : Int} {x3 : Int} {o4 : Option pe_V} {x5 : Int} {o6 : Option pe_V} {s0 : Int}    (k : pe_X d 178 (33, [some (.inr (.inr M)), some (.inl x1), some (.inl x2), some (.inl x3), o4, some (.inl x5), o6], [.inl 1, .inl s0], pm_h M σ q y) Φ) : pe_X d 178 (28, [some (.inr (.inr M)), some (.inl x1), some (.inl x2), some (.inl x3), o4, some (.inl x5), o6], [.inl s0], pm_h M σ q y) Φ := by
  refine pe_blk 16 2 ck178 [] (33, [some (.inr (.inr M)), some (.inl x1), some (.inl x2), some (.inl x3), o4, some (.inl x5), o6], [.inl 1, .inl s0], pm_h M σ q y) rfl ?_ ?_
  · exact trivial
  · exact k
theorem b178_32 {d : Nat} {Φ : Option pe_V → pe_H → Prop} {σ : pe_H} {M q : Nat} {y : Nat → Int → Int} (hF : pm_F M σ) {x1 : Int} {x2 : Int} {x3 : Int} {o4 : Option pe_V} {x5 : Int} {o6 : Option pe_V} {s0 : Int}    (k : pe_X d 178 (33, [some (.inr (.inr M)), some (.inl x1), some (.inl x2), some (.inl x3), o4, some (.inl x5), o6], [.inl 0, .inl s0], pm_h M σ q y) Φ) : pe_X d 178 (32, [some (.inr (.inr M)), some (.inl x1), some (.inl x2), some (.inl x3), o4, some (.inl x5), o6], [.inl s0], pm_h M σ q y) Φ := by
  refine pe_blk 18 1 ck178 [] (33, [some (.inr (.inr M)), some (.inl x1), some (.inl x2), some (.inl x3), o4, some (.inl x5), o6], [.inl 0, .inl s0], pm_h M σ q y) rfl ?_ ?_
  · exact trivial
  · exact k
theorem b178_33 {d : Nat} {Φ : Option pe_V → pe_H → Prop} {σ : pe_H} {M q : Nat} {y : Nat → Int → Int} (hF : pm_F M σ) {x1 : Int} {x2 : Int} {x3 : Int} {o4 : Option pe_V} {x5 : Int} {o6 : Option pe_V} {s0 : Int} {s1 : Int}    (k : pe_X d 178 (6, [some (.inr (.inr M)), some (.inl x1), some (.inl x2), some (.inl x3), some (.inl (s0 + s1)), some (.inl (x5 + 1)), o6], [], pm_h M σ q y) Φ) : pe_X d 178 (33, [some (.inr (.inr M)), some (.inl x1), some (.inl x2), some (.inl x3), o4, some (.inl x5), o6], [.inl s1, .inl s0], pm_h M σ q y) Φ := by
  refine pe_blk 19 4 ck178 [] (6, [some (.inr (.inr M)), some (.inl x1), some (.inl x2), some (.inl x3), some (.inl (s0 + s1)), some (.inl (x5 + 1)), o6], [], pm_h M σ q y) rfl ?_ ?_
  · exact trivial
  · exact k
theorem b178_42 {d : Nat} {Φ : Option pe_V → pe_H → Prop} {σ : pe_H} {M q : Nat} {y : Nat → Int → Int} (hF : pm_F M σ) {x1 : Int} {x2 : Int} {x3 : Int} {x4 : Int} {o5 : Option pe_V} {o6 : Option pe_V}  (w0 : pe_in x1 := by unfold pe_in; omega)  (k1 : 5 ≤ x1 → pe_X d 178 (63, [some (.inr (.inr M)), some (.inl x1), some (.inl x2), some (.inl x3), some (.inl x4), o5, o6], [], pm_h M σ q y) Φ) (k2 : ¬ (5 ≤ x1) → pe_X d 178 (47, [some (.inr (.inr M)), some (.inl x1), some (.inl x2), some (.inl x3), some (.inl x4), o5, o6], [], pm_h M σ q y) Φ) : pe_X d 178 (42, [some (.inr (.inr M)), some (.inl x1), some (.inl x2), some (.inl x3), some (.inl x4), o5, o6], [], pm_h M σ q y) Φ := by
  refine pe_blk 23 3 ck178 [] (cond (decide ((pe_w 5) ≤ (pe_w x1))) 63 47, [some (.inr (.inr M)), some (.inl x1), some (.inl x2), some (.inl x3), some (.inl x4), o5, o6], [], pm_h M σ q y) rfl ?_ ?_
  · exact trivial
  · try simp (disch := omega) only [pe_wi w0, pe_wi (x := 5) ⟨by decide, by decide⟩]
    exact pe_two k1 k2
theorem b178_47 {d : Nat} {Φ : Option pe_V → pe_H → Prop} {σ : pe_H} {M q : Nat} {y : Nat → Int → Int} (hF : pm_F M σ) {x1 : Int} {x2 : Int} {x3 : Int} {x4 : Int} {o5 : Option pe_V} {o6 : Option pe_V}  (w0 : pe_in x3 := by unfold pe_in; omega)  (k1 : 16 < x3 → pe_X d 178 (63, [some (.inr (.inr M)), some (.inl x1), some (.inl x2), some (.inl x3), some (.inl x4), o5, o6], [], pm_h M σ q y) Φ) (k2 : ¬ (16 < x3) → pe_X d 178 (53, [some (.inr (.inr M)), some (.inl x1), some (.inl x2), some (.inl x3), some (.inl x4), o5, o6], [], pm_h M σ q y) Φ) : pe_X d 178 (47, [some (.inr (.inr M)), some (.inl x1), some (.inl x2), some (.inl x3), some (.inl x4), o5, o6], [], pm_h M σ q y) Φ := by
  refine pe_blk 26 3 ck178 [] (cond (decide ((pe_w 16) < (pe_w x3))) 63 53, [some (.inr (.inr M)), some (.inl x1), some (.inl x2), some (.inl x3), some (.inl x4), o5, o6], [], pm_h M σ q y) rfl ?_ ?_
  · exact trivial
  · try simp (disch := omega) only [pe_wi w0, pe_wi (x := 16) ⟨by decide, by decide⟩]
    exact pe_two k1 k2
theorem b178_53 {d : Nat} {Φ : Option pe_V → pe_H → Prop} {σ : pe_H} {M q : Nat} {y : Nat → Int → Int} (hF : pm_F M σ) {x1 : Int} {x2 : Int} {x3 : Int} {x4 : Int} {o5 : Option pe_V} {o6 : Option pe_V}  (w0 : pe_in x4 := by unfold pe_in; omega)  (k1 : 1 < x4 → pe_X d 178 (63, [some (.inr (.inr M)), some (.inl x1), some (.inl x2), some (.inl x3), some (.inl x4), o5, o6], [], pm_h M σ q y) Φ) (k2 : ¬ (1 < x4) → pe_X d 178 (59, [some (.inr (.inr M)), some (.inl x1), some (.inl x2), some (.inl x3), some (.inl x4), o5, o6], [], pm_h M σ q y) Φ) : pe_X d 178 (53, [some (.inr (.inr M)), some (.inl x1), some (.inl x2), some (.inl x3), some (.inl x4), o5, o6], [], pm_h M σ q y) Φ := by
  refine pe_blk 29 3 ck178 [] (cond (decide ((pe_w 1) < (pe_w x4))) 63 59, [some (.inr (.inr M)), some (.inl x1), some (.inl x2), some (.inl x3), some (.inl x4), o5, o6], [], pm_h M σ q y) rfl ?_ ?_
  · exact trivial
  · try simp (disch := omega) only [pe_wi w0, pe_wi (x := 1) ⟨by decide, by decide⟩]
    exact pe_two k1 k2
theorem b178_59 {d : Nat} {Φ : Option pe_V → pe_H → Prop} {σ : pe_H} {M q : Nat} {y : Nat → Int → Int} (hF : pm_F M σ) {x1 : Int} {x2 : Int} {x3 : Int} {o4 : Option pe_V} {o5 : Option pe_V} {o6 : Option pe_V}    (k : pe_X d 178 (64, [some (.inr (.inr M)), some (.inl x1), some (.inl x2), some (.inl x3), o4, o5, o6], [.inl 1], pm_h M σ q y) Φ) : pe_X d 178 (59, [some (.inr (.inr M)), some (.inl x1), some (.inl x2), some (.inl x3), o4, o5, o6], [], pm_h M σ q y) Φ := by
  refine pe_blk 32 2 ck178 [] (64, [some (.inr (.inr M)), some (.inl x1), some (.inl x2), some (.inl x3), o4, o5, o6], [.inl 1], pm_h M σ q y) rfl ?_ ?_
  · exact trivial
  · exact k
theorem b178_63 {d : Nat} {Φ : Option pe_V → pe_H → Prop} {σ : pe_H} {M q : Nat} {y : Nat → Int → Int} (hF : pm_F M σ) {x1 : Int} {x2 : Int} {x3 : Int} {o4 : Option pe_V} {o5 : Option pe_V} {o6 : Option pe_V}    (k : pe_X d 178 (64, [some (.inr (.inr M)), some (.inl x1), some (.inl x2), some (.inl x3), o4, o5, o6], [.inl 0], pm_h M σ q y) Φ) : pe_X d 178 (63, [some (.inr (.inr M)), some (.inl x1), some (.inl x2), some (.inl x3), o4, o5, o6], [], pm_h M σ q y) Φ := by
  refine pe_blk 34 1 ck178 [] (64, [some (.inr (.inr M)), some (.inl x1), some (.inl x2), some (.inl x3), o4, o5, o6], [.inl 0], pm_h M σ q y) rfl ?_ ?_
  · exact trivial
  · exact k
theorem b178_64 {d : Nat} {Φ : Option pe_V → pe_H → Prop} {σ : pe_H} {M q : Nat} {y : Nat → Int → Int} (hF : pm_F M σ) {x1 : Int} {x2 : Int} {x3 : Int} {o4 : Option pe_V} {o5 : Option pe_V} {o6 : Option pe_V} {s0 : Int}    (k : pe_X d 178 (69, [some (.inr (.inr M)), some (.inl x1), some (.inl x2), some (.inl x3), pe_nl o4, some (.inl s0), some (.inl 0)], [], pm_h M σ q y) Φ) : pe_X d 178 (64, [some (.inr (.inr M)), some (.inl x1), some (.inl x2), some (.inl x3), o4, o5, o6], [.inl s0], pm_h M σ q y) Φ := by
  refine pe_blk 35 3 ck178 [] (69, [some (.inr (.inr M)), some (.inl x1), some (.inl x2), some (.inl x3), pe_nl o4, some (.inl s0), some (.inl 0)], [], pm_h M σ q y) rfl ?_ ?_
  · exact trivial
  · exact k
theorem b178_69 {d : Nat} {Φ : Option pe_V → pe_H → Prop} {σ : pe_H} {M q : Nat} {y : Nat → Int → Int} (hF : pm_F M σ) {x1 : Int} {x2 : Int} {x3 : Int} {o4 : Option pe_V} {x5 : Int} {x6 : Int}  (w0 : pe_in x5 := by unfold pe_in; omega)  (k1 : x5 = 0 → pe_X d 178 (128, [some (.inr (.inr M)), some (.inl x1), some (.inl x2), some (.inl x3), o4, some (.inl x5), some (.inl x6)], [], pm_h M σ q y) Φ) (k2 : ¬ (x5 = 0) → pe_X d 178 (74, [some (.inr (.inr M)), some (.inl x1), some (.inl x2), some (.inl x3), o4, some (.inl x5), some (.inl x6)], [], pm_h M σ q y) Φ) : pe_X d 178 (69, [some (.inr (.inr M)), some (.inl x1), some (.inl x2), some (.inl x3), o4, some (.inl x5), some (.inl x6)], [], pm_h M σ q y) Φ := by
  refine pe_blk 38 2 ck178 [] (cond (decide ((pe_w x5) = 0)) 128 74, [some (.inr (.inr M)), some (.inl x1), some (.inl x2), some (.inl x3), o4, some (.inl x5), some (.inl x6)], [], pm_h M σ q y) rfl ?_ ?_
  · exact trivial
  · try simp (disch := omega) only [pe_wi w0]
    exact pe_two k1 k2
theorem b178_74 {d : Nat} {Φ : Option pe_V → pe_H → Prop} {σ : pe_H} {M q : Nat} {y : Nat → Int → Int} (hF : pm_F M σ) {x1 : Int} {x2 : Int} {x3 : Int} {o4 : Option pe_V} {x5 : Int} {x6 : Int}  (w0 : pe_in x3 := by unfold pe_in; omega) (w1 : pe_in x6 := by unfold pe_in; omega)  (k1 : x3 ≤ x6 → pe_X d 178 (128, [some (.inr (.inr M)), some (.inl x1), some (.inl x2), some (.inl x3), o4, some (.inl x5), some (.inl x6)], [], pm_h M σ q y) Φ) (k2 : ¬ (x3 ≤ x6) → pe_X d 178 (80, [some (.inr (.inr M)), some (.inl x1), some (.inl x2), some (.inl x3), o4, some (.inl x5), some (.inl x6)], [], pm_h M σ q y) Φ) : pe_X d 178 (74, [some (.inr (.inr M)), some (.inl x1), some (.inl x2), some (.inl x3), o4, some (.inl x5), some (.inl x6)], [], pm_h M σ q y) Φ := by
  refine pe_blk 40 3 ck178 [] (cond (decide ((pe_w x3) ≤ (pe_w x6))) 128 80, [some (.inr (.inr M)), some (.inl x1), some (.inl x2), some (.inl x3), o4, some (.inl x5), some (.inl x6)], [], pm_h M σ q y) rfl ?_ ?_
  · exact trivial
  · try simp (disch := omega) only [pe_wi w0, pe_wi w1]
    exact pe_two k1 k2
set_option maxRecDepth 8000 in
set_option maxHeartbeats 8000000 in
theorem b178_80 {d : Nat} {Φ : Option pe_V → pe_H → Prop} {σ : pe_H} {M q : Nat} {y : Nat → Int → Int} (hF : pm_F M σ) {x1 : Int} {x2 : Int} {x3 : Int} {o4 : Option pe_V} {x5 : Int} {x6 : Int}  (w0 : pe_in (x2 + x6) := by unfold pe_in; omega) (w1 : pe_in ((16 * x1) + x6) := by unfold pe_in; omega) (h0 : 0 ≤ (x2 + x6) := by first | assumption | omega) (h1 : (x2 + x6) < 100 := by first | assumption | omega) (h2 : 0 ≤ ((16 * x1) + x6) := by first | assumption | omega) (h3 : ((16 * x1) + x6) < 80 := by first | assumption | omega) (k : pe_X d 178 (122, [some (.inr (.inr M)), some (.inl x1), some (.inl x2), some (.inl x3), o4, some (.inl x5), some (.inl x6)], [], pm_h M σ q (pm_u (pm_u y 2 ((16 * x1) + x6) (y 36 (x2 + x6))) 3 ((16 * x1) + x6) (y 37 (x2 + x6)))) Φ) : pe_X d 178 (80, [some (.inr (.inr M)), some (.inl x1), some (.inl x2), some (.inl x3), o4, some (.inl x5), some (.inl x6)], [], pm_h M σ q y) Φ := by
  have hM2 := pm_2 hF
  refine pe_blk 43 28 ck178 [pe_K (pm_h M σ q y) M = 9, pe_K (pm_h M σ q y) M = 9, pe_K (pm_h M σ q y) (pe_R (pm_h M σ q y) M 45) = 10, 0 ≤ (pe_w (x2 + x6)), (pe_w (x2 + x6)) < pe_L (pm_h M σ q y) (pe_R (pm_h M σ q y) M 45), pe_K (pm_h M σ q y) (pe_R (pm_h M σ q y) M 1) = 10, 0 ≤ (pe_w ((16 * x1) + x6)), (pe_w ((16 * x1) + x6)) < pe_L (pm_h M σ q y) (pe_R (pm_h M σ q y) M 1), 2 ≤ (pe_R (pm_h M σ q y) M 1), pe_K (pe_wI (pm_h M σ q y) (pe_R (pm_h M σ q y) M 1) (pe_w ((16 * x1) + x6)) (pe_I (pm_h M σ q y) (pe_R (pm_h M σ q y) M 45) (pe_w (x2 + x6)))) M = 9, pe_K (pe_wI (pm_h M σ q y) (pe_R (pm_h M σ q y) M 1) (pe_w ((16 * x1) + x6)) (pe_I (pm_h M σ q y) (pe_R (pm_h M σ q y) M 45) (pe_w (x2 + x6)))) M = 9, pe_K (pe_wI (pm_h M σ q y) (pe_R (pm_h M σ q y) M 1) (pe_w ((16 * x1) + x6)) (pe_I (pm_h M σ q y) (pe_R (pm_h M σ q y) M 45) (pe_w (x2 + x6)))) (pe_R (pe_wI (pm_h M σ q y) (pe_R (pm_h M σ q y) M 1) (pe_w ((16 * x1) + x6)) (pe_I (pm_h M σ q y) (pe_R (pm_h M σ q y) M 45) (pe_w (x2 + x6)))) M 46) = 10, 0 ≤ (pe_w (x2 + x6)), (pe_w (x2 + x6)) < pe_L (pe_wI (pm_h M σ q y) (pe_R (pm_h M σ q y) M 1) (pe_w ((16 * x1) + x6)) (pe_I (pm_h M σ q y) (pe_R (pm_h M σ q y) M 45) (pe_w (x2 + x6)))) (pe_R (pe_wI (pm_h M σ q y) (pe_R (pm_h M σ q y) M 1) (pe_w ((16 * x1) + x6)) (pe_I (pm_h M σ q y) (pe_R (pm_h M σ q y) M 45) (pe_w (x2 + x6)))) M 46), pe_K (pe_wI (pm_h M σ q y) (pe_R (pm_h M σ q y) M 1) (pe_w ((16 * x1) + x6)) (pe_I (pm_h M σ q y) (pe_R (pm_h M σ q y) M 45) (pe_w (x2 + x6)))) (pe_R (pe_wI (pm_h M σ q y) (pe_R (pm_h M σ q y) M 1) (pe_w ((16 * x1) + x6)) (pe_I (pm_h M σ q y) (pe_R (pm_h M σ q y) M 45) (pe_w (x2 + x6)))) M 2) = 10, 0 ≤ (pe_w ((16 * x1) + x6)), (pe_w ((16 * x1) + x6)) < pe_L (pe_wI (pm_h M σ q y) (pe_R (pm_h M σ q y) M 1) (pe_w ((16 * x1) + x6)) (pe_I (pm_h M σ q y) (pe_R (pm_h M σ q y) M 45) (pe_w (x2 + x6)))) (pe_R (pe_wI (pm_h M σ q y) (pe_R (pm_h M σ q y) M 1) (pe_w ((16 * x1) + x6)) (pe_I (pm_h M σ q y) (pe_R (pm_h M σ q y) M 45) (pe_w (x2 + x6)))) M 2), 2 ≤ (pe_R (pe_wI (pm_h M σ q y) (pe_R (pm_h M σ q y) M 1) (pe_w ((16 * x1) + x6)) (pe_I (pm_h M σ q y) (pe_R (pm_h M σ q y) M 45) (pe_w (x2 + x6)))) M 2)] (122, [some (.inr (.inr M)), some (.inl x1), some (.inl x2), some (.inl x3), o4, some (.inl x5), some (.inl x6)], [], pe_wI (pe_wI (pm_h M σ q y) (pe_R (pm_h M σ q y) M 1) (pe_w ((16 * x1) + x6)) (pe_I (pm_h M σ q y) (pe_R (pm_h M σ q y) M 45) (pe_w (x2 + x6)))) (pe_R (pe_wI (pm_h M σ q y) (pe_R (pm_h M σ q y) M 1) (pe_w ((16 * x1) + x6)) (pe_I (pm_h M σ q y) (pe_R (pm_h M σ q y) M 45) (pe_w (x2 + x6)))) M 2) (pe_w ((16 * x1) + x6)) (pe_I (pe_wI (pm_h M σ q y) (pe_R (pm_h M σ q y) M 1) (pe_w ((16 * x1) + x6)) (pe_I (pm_h M σ q y) (pe_R (pm_h M σ q y) M 45) (pe_w (x2 + x6)))) (pe_R (pe_wI (pm_h M σ q y) (pe_R (pm_h M σ q y) M 1) (pe_w ((16 * x1) + x6)) (pe_I (pm_h M σ q y) (pe_R (pm_h M σ q y) M 45) (pe_w (x2 + x6)))) M 46) (pe_w (x2 + x6)))) rfl ?_ ?_
  · first
    | (simp (disch := omega) only [pe_all, pe_wi w0, pe_wi w1, pe_I_wR, pe_K_wI, pe_K_wR, pe_L_wI, pe_L_wR, pe_R_nej, pe_R_wI, pm_Ik, pm_K2 hF, pm_K3 hF, pm_K36 hF, pm_K37 hF, pm_KM hF, pm_Kh, pm_L2 hF, pm_L3 hF, pm_L36 hF, pm_L37 hF, pm_Lh, pm_R1 hF, pm_R2 hF, pm_R45 hF, pm_R46 hF, pm_Rh, pm_uj, pm_uk, pm_us, pm_wIk]; done)
    | (simp (disch := omega) only [pe_all, pe_wi w0, pe_wi w1, pe_I_wR, pe_K_wI, pe_K_wR, pe_L_wI, pe_L_wR, pe_R_nej, pe_R_wI, pm_Ik, pm_K2 hF, pm_K3 hF, pm_K36 hF, pm_K37 hF, pm_KM hF, pm_Kh, pm_L2 hF, pm_L3 hF, pm_L36 hF, pm_L37 hF, pm_Lh, pm_R1 hF, pm_R2 hF, pm_R45 hF, pm_R46 hF, pm_Rh, pm_uj, pm_uk, pm_us, pm_wIk]; (repeat' apply And.intro) <;> first | assumption | omega | decide)
  · try simp (disch := omega) only [pe_wi w0, pe_wi w1, pe_I_wR, pe_K_wI, pe_K_wR, pe_L_wI, pe_L_wR, pe_R_nej, pe_R_wI, pm_Ik, pm_K2 hF, pm_K3 hF, pm_K36 hF, pm_K37 hF, pm_KM hF, pm_Kh, pm_L2 hF, pm_L3 hF, pm_L36 hF, pm_L37 hF, pm_Lh, pm_R1 hF, pm_R2 hF, pm_R45 hF, pm_R46 hF, pm_Rh, pm_uj, pm_uk, pm_us, pm_wIk]
    exact k
set_option maxRecDepth 8000 in
theorem b178_122 {d : Nat} {Φ : Option pe_V → pe_H → Prop} {σ : pe_H} {M q : Nat} {y : Nat → Int → Int} (hF : pm_F M σ) {x1 : Int} {x2 : Int} {x3 : Int} {o4 : Option pe_V} {x5 : Int} {x6 : Int}    (k : pe_X d 178 (69, [some (.inr (.inr M)), some (.inl x1), some (.inl x2), some (.inl x3), o4, some (.inl x5), some (.inl (x6 + 1))], [], pm_h M σ q y) Φ) : pe_X d 178 (122, [some (.inr (.inr M)), some (.inl x1), some (.inl x2), some (.inl x3), o4, some (.inl x5), some (.inl x6)], [], pm_h M σ q y) Φ := by
  refine pe_blk 71 2 ck178 [] (69, [some (.inr (.inr M)), some (.inl x1), some (.inl x2), some (.inl x3), o4, some (.inl x5), some (.inl (x6 + 1))], [], pm_h M σ q y) rfl ?_ ?_
  · exact trivial
  · exact k
set_option maxRecDepth 8000 in
theorem b178_128 {d : Nat} {Φ : Option pe_V → pe_H → Prop} {σ : pe_H} {M q : Nat} {y : Nat → Int → Int} (hF : pm_F M σ) {x1 : Int} {o2 : Option pe_V} {x3 : Int} {o4 : Option pe_V} {x5 : Int} {o6 : Option pe_V}  (w0 : pe_in x5 := by unfold pe_in; omega)  (k1 : x5 = 0 → pe_X d 178 (140, [some (.inr (.inr M)), some (.inl x1), o2, some (.inl x3), o4, some (.inl x5), o6], [], pm_h M σ q y) Φ) (k2 : ¬ (x5 = 0) → pe_X d 178 (133, [some (.inr (.inr M)), some (.inl x1), o2, some (.inl x3), o4, some (.inl x5), o6], [], pm_h M σ q y) Φ) : pe_X d 178 (128, [some (.inr (.inr M)), some (.inl x1), o2, some (.inl x3), o4, some (.inl x5), o6], [], pm_h M σ q y) Φ := by
  refine pe_blk 73 2 ck178 [] (cond (decide ((pe_w x5) = 0)) 140 133, [some (.inr (.inr M)), some (.inl x1), o2, some (.inl x3), o4, some (.inl x5), o6], [], pm_h M σ q y) rfl ?_ ?_
  · exact trivial
  · try simp (disch := omega) only [pe_wi w0]
    exact pe_two k1 k2
set_option maxRecDepth 8000 in
theorem b178_133 {d : Nat} {Φ : Option pe_V → pe_H → Prop} {σ : pe_H} {M q : Nat} {y : Nat → Int → Int} (hF : pm_F M σ) {x1 : Int} {o2 : Option pe_V} {x3 : Int} {o4 : Option pe_V} {x5 : Int} {o6 : Option pe_V}  (w0 : pe_in x1 := by unfold pe_in; omega) (h0 : 0 ≤ x1 := by first | assumption | omega) (h1 : x1 < 5 := by first | assumption | omega) (k : pe_X d 178 (140, [some (.inr (.inr M)), some (.inl x1), o2, some (.inl x3), o4, some (.inl x5), o6], [], pm_h M σ q (pm_u y 1 x1 x3)) Φ) : pe_X d 178 (133, [some (.inr (.inr M)), some (.inl x1), o2, some (.inl x3), o4, some (.inl x5), o6], [], pm_h M σ q y) Φ := by
  have hM2 := pm_2 hF
  refine pe_blk 75 5 ck178 [pe_K (pm_h M σ q y) M = 9, pe_K (pm_h M σ q y) (pe_R (pm_h M σ q y) M 0) = 10, 0 ≤ (pe_w x1), (pe_w x1) < pe_L (pm_h M σ q y) (pe_R (pm_h M σ q y) M 0), 2 ≤ (pe_R (pm_h M σ q y) M 0)] (140, [some (.inr (.inr M)), some (.inl x1), o2, some (.inl x3), o4, some (.inl x5), o6], [], pe_wI (pm_h M σ q y) (pe_R (pm_h M σ q y) M 0) (pe_w x1) x3) rfl ?_ ?_
  · first
    | (simp (disch := omega) only [pe_all, pe_wi w0, pe_K_wI, pe_K_wR, pe_L_wI, pe_L_wR, pe_R_nej, pe_R_wI, pm_K1 hF, pm_KM hF, pm_Kh, pm_L1 hF, pm_Lh, pm_R0 hF, pm_Rh, pm_wIk]; done)
    | (simp (disch := omega) only [pe_all, pe_wi w0, pe_K_wI, pe_K_wR, pe_L_wI, pe_L_wR, pe_R_nej, pe_R_wI, pm_K1 hF, pm_KM hF, pm_Kh, pm_L1 hF, pm_Lh, pm_R0 hF, pm_Rh, pm_wIk]; (repeat' apply And.intro) <;> first | assumption | omega | decide)
  · try simp (disch := omega) only [pe_wi w0, pe_K_wI, pe_K_wR, pe_L_wI, pe_L_wR, pe_R_nej, pe_R_wI, pm_K1 hF, pm_KM hF, pm_Kh, pm_L1 hF, pm_Lh, pm_R0 hF, pm_Rh, pm_wIk]
    exact k
set_option maxRecDepth 8000 in
theorem b178_140 {d : Nat} {Φ : Option pe_V → pe_H → Prop} {σ : pe_H} {M q : Nat} {y : Nat → Int → Int} (hF : pm_F M σ) {o1 : Option pe_V} {o2 : Option pe_V} {o3 : Option pe_V} {o4 : Option pe_V} {x5 : Int} {o6 : Option pe_V}   (h0 : x5 = 0 ∨ x5 = 1 := by first | assumption | omega) (k : Φ (some (.inl x5)) (pm_h M σ q y)) : pe_X d 178 (140, [some (.inr (.inr M)), o1, o2, o3, o4, some (.inl x5), o6], [], pm_h M σ q y) Φ := by
  refine pe_blk 80 1 ck178 [] (142, [some (.inr (.inr M)), o1, o2, o3, o4, some (.inl x5), o6], [.inl x5], pm_h M σ q y) rfl ?_ ?_
  · exact trivial
  · exact pe_fine 81 ck178 rfl rfl rfl h0 k
-- StepMachinesModel.sendTold(II)Z
def T179 : List (Nat × Instr × Nat) := [(0, .aload_n 0, 1), (1, .iload_n 1, 1), (2, .invokevirtual 187, 3), (5, .ifCond .eq 15, 3), (8, .aload_n 0, 1), (9, .iload_n 1, 1), (10, .invokevirtual 249, 3), (13, .ifCond .eq 7, 3), (16, .iconst 1, 1), (17, .goto 4, 3), (20, .iconst 0, 1), (21, .istore_n 3, 1), (22, .iload_n 3, 1), (23, .ifCond .eq 9, 3), (26, .aload_n 0, 1), (27, .iload_n 1, 1), (28, .iload_n 2, 1), (29, .invokevirtual 303, 3), (32, .iload_n 3, 1), (33, .ireturn, 1)]
theorem ck179 : pe_ctx 179 9 false (some .boolean) 4 T179 := ⟨rfl, rfl, rfl, rfl, by decide +kernel, by decide, by decide⟩
theorem b179_0 {d : Nat} {Φ : Option pe_V → pe_H → Prop} {σ : pe_H} {M q : Nat} {y : Nat → Int → Int} (hF : pm_F M σ) {x1 : Int} {x2 : Int} {o3 : Option pe_V}    (k : pe_M d 138 [.inr (.inr M), .inl x1] (pm_h M σ q y) (fun r σ' => pe_X d 179 (5, [some (.inr (.inr M)), some (.inl x1), some (.inl x2), o3], r.toList ++ [], σ') Φ)) : pe_X d 179 (0, [some (.inr (.inr M)), some (.inl x1), some (.inl x2), o3], [], pm_h M σ q y) Φ := by
  refine pe_blk 0 2 ck179 [] (2, [some (.inr (.inr M)), some (.inl x1), some (.inl x2), o3], [.inl x1, .inr (.inr M)], pm_h M σ q y) rfl ?_ ?_
  · exact trivial
  · try simp (disch := omega) only [pe_K_wI, pe_K_wR, pm_KM hF, pm_Kh]
    have hrc : pe_K (pm_h M σ q y) M = 9 := by first | assumption | (simp (disch := omega) only [pe_K_wI, pe_K_wR, pm_KM hF, pm_Kh]; done) | (simp (disch := omega) only [pe_K_wI, pe_K_wR, pm_KM hF, pm_Kh]; assumption)
    exact pe_cal 2 ck179 rfl rfl rfl ⟨hrc, by decide⟩ k
theorem b179_5 {d : Nat} {Φ : Option pe_V → pe_H → Prop} {σ : pe_H} {M q : Nat} {y : Nat → Int → Int} (hF : pm_F M σ) {x1 : Int} {x2 : Int} {o3 : Option pe_V} {s0 : Int}  (w0 : pe_in s0 := by unfold pe_in; omega)  (k1 : s0 = 0 → pe_X d 179 (20, [some (.inr (.inr M)), some (.inl x1), some (.inl x2), o3], [], pm_h M σ q y) Φ) (k2 : ¬ (s0 = 0) → pe_X d 179 (8, [some (.inr (.inr M)), some (.inl x1), some (.inl x2), o3], [], pm_h M σ q y) Φ) : pe_X d 179 (5, [some (.inr (.inr M)), some (.inl x1), some (.inl x2), o3], [.inl s0], pm_h M σ q y) Φ := by
  refine pe_blk 3 1 ck179 [] (cond (decide ((pe_w s0) = 0)) 20 8, [some (.inr (.inr M)), some (.inl x1), some (.inl x2), o3], [], pm_h M σ q y) rfl ?_ ?_
  · exact trivial
  · try simp (disch := omega) only [pe_wi w0]
    exact pe_two k1 k2
theorem b179_8 {d : Nat} {Φ : Option pe_V → pe_H → Prop} {σ : pe_H} {M q : Nat} {y : Nat → Int → Int} (hF : pm_F M σ) {x1 : Int} {x2 : Int} {o3 : Option pe_V}    (k : pe_M d 140 [.inr (.inr M), .inl x1] (pm_h M σ q y) (fun r σ' => pe_X d 179 (13, [some (.inr (.inr M)), some (.inl x1), some (.inl x2), o3], r.toList ++ [], σ') Φ)) : pe_X d 179 (8, [some (.inr (.inr M)), some (.inl x1), some (.inl x2), o3], [], pm_h M σ q y) Φ := by
  refine pe_blk 4 2 ck179 [] (10, [some (.inr (.inr M)), some (.inl x1), some (.inl x2), o3], [.inl x1, .inr (.inr M)], pm_h M σ q y) rfl ?_ ?_
  · exact trivial
  · try simp (disch := omega) only [pe_K_wI, pe_K_wR, pm_KM hF, pm_Kh]
    have hrc : pe_K (pm_h M σ q y) M = 9 := by first | assumption | (simp (disch := omega) only [pe_K_wI, pe_K_wR, pm_KM hF, pm_Kh]; done) | (simp (disch := omega) only [pe_K_wI, pe_K_wR, pm_KM hF, pm_Kh]; assumption)
    exact pe_cal 6 ck179 rfl rfl rfl ⟨hrc, by decide⟩ k
theorem b179_13 {d : Nat} {Φ : Option pe_V → pe_H → Prop} {σ : pe_H} {M q : Nat} {y : Nat → Int → Int} (hF : pm_F M σ) {x1 : Int} {x2 : Int} {o3 : Option pe_V} {s0 : Int}  (w0 : pe_in s0 := by unfold pe_in; omega)  (k1 : s0 = 0 → pe_X d 179 (20, [some (.inr (.inr M)), some (.inl x1), some (.inl x2), o3], [], pm_h M σ q y) Φ) (k2 : ¬ (s0 = 0) → pe_X d 179 (16, [some (.inr (.inr M)), some (.inl x1), some (.inl x2), o3], [], pm_h M σ q y) Φ) : pe_X d 179 (13, [some (.inr (.inr M)), some (.inl x1), some (.inl x2), o3], [.inl s0], pm_h M σ q y) Φ := by
  refine pe_blk 7 1 ck179 [] (cond (decide ((pe_w s0) = 0)) 20 16, [some (.inr (.inr M)), some (.inl x1), some (.inl x2), o3], [], pm_h M σ q y) rfl ?_ ?_
  · exact trivial
  · try simp (disch := omega) only [pe_wi w0]
    exact pe_two k1 k2
theorem b179_16 {d : Nat} {Φ : Option pe_V → pe_H → Prop} {σ : pe_H} {M q : Nat} {y : Nat → Int → Int} (hF : pm_F M σ) {x1 : Int} {x2 : Int} {o3 : Option pe_V}    (k : pe_X d 179 (21, [some (.inr (.inr M)), some (.inl x1), some (.inl x2), o3], [.inl 1], pm_h M σ q y) Φ) : pe_X d 179 (16, [some (.inr (.inr M)), some (.inl x1), some (.inl x2), o3], [], pm_h M σ q y) Φ := by
  refine pe_blk 8 2 ck179 [] (21, [some (.inr (.inr M)), some (.inl x1), some (.inl x2), o3], [.inl 1], pm_h M σ q y) rfl ?_ ?_
  · exact trivial
  · exact k
theorem b179_20 {d : Nat} {Φ : Option pe_V → pe_H → Prop} {σ : pe_H} {M q : Nat} {y : Nat → Int → Int} (hF : pm_F M σ) {x1 : Int} {x2 : Int} {o3 : Option pe_V}    (k : pe_X d 179 (21, [some (.inr (.inr M)), some (.inl x1), some (.inl x2), o3], [.inl 0], pm_h M σ q y) Φ) : pe_X d 179 (20, [some (.inr (.inr M)), some (.inl x1), some (.inl x2), o3], [], pm_h M σ q y) Φ := by
  refine pe_blk 10 1 ck179 [] (21, [some (.inr (.inr M)), some (.inl x1), some (.inl x2), o3], [.inl 0], pm_h M σ q y) rfl ?_ ?_
  · exact trivial
  · exact k
theorem b179_21 {d : Nat} {Φ : Option pe_V → pe_H → Prop} {σ : pe_H} {M q : Nat} {y : Nat → Int → Int} (hF : pm_F M σ) {x1 : Int} {x2 : Int} {o3 : Option pe_V} {s0 : Int}  (w0 : pe_in s0 := by unfold pe_in; omega)  (k1 : s0 = 0 → pe_X d 179 (32, [some (.inr (.inr M)), some (.inl x1), some (.inl x2), some (.inl s0)], [], pm_h M σ q y) Φ) (k2 : ¬ (s0 = 0) → pe_X d 179 (26, [some (.inr (.inr M)), some (.inl x1), some (.inl x2), some (.inl s0)], [], pm_h M σ q y) Φ) : pe_X d 179 (21, [some (.inr (.inr M)), some (.inl x1), some (.inl x2), o3], [.inl s0], pm_h M σ q y) Φ := by
  refine pe_blk 11 3 ck179 [] (cond (decide ((pe_w s0) = 0)) 32 26, [some (.inr (.inr M)), some (.inl x1), some (.inl x2), some (.inl s0)], [], pm_h M σ q y) rfl ?_ ?_
  · exact trivial
  · try simp (disch := omega) only [pe_wi w0]
    exact pe_two k1 k2
theorem b179_26 {d : Nat} {Φ : Option pe_V → pe_H → Prop} {σ : pe_H} {M q : Nat} {y : Nat → Int → Int} (hF : pm_F M σ) {x1 : Int} {x2 : Int} {x3 : Int}    (k : pe_M d 166 [.inr (.inr M), .inl x1, .inl x2] (pm_h M σ q y) (fun r σ' => pe_X d 179 (32, [some (.inr (.inr M)), some (.inl x1), some (.inl x2), some (.inl x3)], r.toList ++ [], σ') Φ)) : pe_X d 179 (26, [some (.inr (.inr M)), some (.inl x1), some (.inl x2), some (.inl x3)], [], pm_h M σ q y) Φ := by
  refine pe_blk 14 3 ck179 [] (29, [some (.inr (.inr M)), some (.inl x1), some (.inl x2), some (.inl x3)], [.inl x2, .inl x1, .inr (.inr M)], pm_h M σ q y) rfl ?_ ?_
  · exact trivial
  · try simp (disch := omega) only [pe_K_wI, pe_K_wR, pm_KM hF, pm_Kh]
    have hrc : pe_K (pm_h M σ q y) M = 9 := by first | assumption | (simp (disch := omega) only [pe_K_wI, pe_K_wR, pm_KM hF, pm_Kh]; done) | (simp (disch := omega) only [pe_K_wI, pe_K_wR, pm_KM hF, pm_Kh]; assumption)
    exact pe_cal 17 ck179 rfl rfl rfl ⟨hrc, by decide⟩ k
theorem b179_32 {d : Nat} {Φ : Option pe_V → pe_H → Prop} {σ : pe_H} {M q : Nat} {y : Nat → Int → Int} (hF : pm_F M σ) {o1 : Option pe_V} {o2 : Option pe_V} {x3 : Int}   (h0 : x3 = 0 ∨ x3 = 1 := by first | assumption | omega) (k : Φ (some (.inl x3)) (pm_h M σ q y)) : pe_X d 179 (32, [some (.inr (.inr M)), o1, o2, some (.inl x3)], [], pm_h M σ q y) Φ := by
  refine pe_blk 18 1 ck179 [] (33, [some (.inr (.inr M)), o1, o2, some (.inl x3)], [.inl x3], pm_h M σ q y) rfl ?_ ?_
  · exact trivial
  · exact pe_fine 19 ck179 rfl rfl rfl h0 k
-- StepMachinesModel.closeTold(I)Z
def T180 : List (Nat × Instr × Nat) := [(0, .aload_n 0, 1), (1, .iload_n 1, 1), (2, .invokevirtual 187, 3), (5, .ifCond .eq 15, 3), (8, .aload_n 0, 1), (9, .iload_n 1, 1), (10, .invokevirtual 151, 3), (13, .ifCond .ne 7, 3), (16, .iconst 1, 1), (17, .goto 4, 3), (20, .iconst 0, 1), (21, .istore_n 2, 1), (22, .iload_n 2, 1), (23, .ifCond .eq 8, 3), (26, .aload_n 0, 1), (27, .iload_n 1, 1), (28, .invokevirtual 306, 3), (31, .iload_n 2, 1), (32, .ireturn, 1)]
theorem ck180 : pe_ctx 180 9 false (some .boolean) 3 T180 := ⟨rfl, rfl, rfl, rfl, by decide +kernel, by decide, by decide⟩
theorem b180_0 {d : Nat} {Φ : Option pe_V → pe_H → Prop} {σ : pe_H} {M q : Nat} {y : Nat → Int → Int} (hF : pm_F M σ) {x1 : Int} {o2 : Option pe_V}    (k : pe_M d 138 [.inr (.inr M), .inl x1] (pm_h M σ q y) (fun r σ' => pe_X d 180 (5, [some (.inr (.inr M)), some (.inl x1), o2], r.toList ++ [], σ') Φ)) : pe_X d 180 (0, [some (.inr (.inr M)), some (.inl x1), o2], [], pm_h M σ q y) Φ := by
  refine pe_blk 0 2 ck180 [] (2, [some (.inr (.inr M)), some (.inl x1), o2], [.inl x1, .inr (.inr M)], pm_h M σ q y) rfl ?_ ?_
  · exact trivial
  · try simp (disch := omega) only [pe_K_wI, pe_K_wR, pm_KM hF, pm_Kh]
    have hrc : pe_K (pm_h M σ q y) M = 9 := by first | assumption | (simp (disch := omega) only [pe_K_wI, pe_K_wR, pm_KM hF, pm_Kh]; done) | (simp (disch := omega) only [pe_K_wI, pe_K_wR, pm_KM hF, pm_Kh]; assumption)
    exact pe_cal 2 ck180 rfl rfl rfl ⟨hrc, by decide⟩ k
theorem b180_5 {d : Nat} {Φ : Option pe_V → pe_H → Prop} {σ : pe_H} {M q : Nat} {y : Nat → Int → Int} (hF : pm_F M σ) {x1 : Int} {o2 : Option pe_V} {s0 : Int}  (w0 : pe_in s0 := by unfold pe_in; omega)  (k1 : s0 = 0 → pe_X d 180 (20, [some (.inr (.inr M)), some (.inl x1), o2], [], pm_h M σ q y) Φ) (k2 : ¬ (s0 = 0) → pe_X d 180 (8, [some (.inr (.inr M)), some (.inl x1), o2], [], pm_h M σ q y) Φ) : pe_X d 180 (5, [some (.inr (.inr M)), some (.inl x1), o2], [.inl s0], pm_h M σ q y) Φ := by
  refine pe_blk 3 1 ck180 [] (cond (decide ((pe_w s0) = 0)) 20 8, [some (.inr (.inr M)), some (.inl x1), o2], [], pm_h M σ q y) rfl ?_ ?_
  · exact trivial
  · try simp (disch := omega) only [pe_wi w0]
    exact pe_two k1 k2
theorem b180_8 {d : Nat} {Φ : Option pe_V → pe_H → Prop} {σ : pe_H} {M q : Nat} {y : Nat → Int → Int} (hF : pm_F M σ) {x1 : Int} {o2 : Option pe_V}    (k : pe_M d 139 [.inr (.inr M), .inl x1] (pm_h M σ q y) (fun r σ' => pe_X d 180 (13, [some (.inr (.inr M)), some (.inl x1), o2], r.toList ++ [], σ') Φ)) : pe_X d 180 (8, [some (.inr (.inr M)), some (.inl x1), o2], [], pm_h M σ q y) Φ := by
  refine pe_blk 4 2 ck180 [] (10, [some (.inr (.inr M)), some (.inl x1), o2], [.inl x1, .inr (.inr M)], pm_h M σ q y) rfl ?_ ?_
  · exact trivial
  · try simp (disch := omega) only [pe_K_wI, pe_K_wR, pm_KM hF, pm_Kh]
    have hrc : pe_K (pm_h M σ q y) M = 9 := by first | assumption | (simp (disch := omega) only [pe_K_wI, pe_K_wR, pm_KM hF, pm_Kh]; done) | (simp (disch := omega) only [pe_K_wI, pe_K_wR, pm_KM hF, pm_Kh]; assumption)
    exact pe_cal 6 ck180 rfl rfl rfl ⟨hrc, by decide⟩ k
theorem b180_13 {d : Nat} {Φ : Option pe_V → pe_H → Prop} {σ : pe_H} {M q : Nat} {y : Nat → Int → Int} (hF : pm_F M σ) {x1 : Int} {o2 : Option pe_V} {s0 : Int}  (w0 : pe_in s0 := by unfold pe_in; omega)  (k1 : ¬ s0 = 0 → pe_X d 180 (20, [some (.inr (.inr M)), some (.inl x1), o2], [], pm_h M σ q y) Φ) (k2 : s0 = 0 → pe_X d 180 (16, [some (.inr (.inr M)), some (.inl x1), o2], [], pm_h M σ q y) Φ) : pe_X d 180 (13, [some (.inr (.inr M)), some (.inl x1), o2], [.inl s0], pm_h M σ q y) Φ := by
  refine pe_blk 7 1 ck180 [] (cond (decide (¬ (pe_w s0) = 0)) 20 16, [some (.inr (.inr M)), some (.inl x1), o2], [], pm_h M σ q y) rfl ?_ ?_
  · exact trivial
  · try simp (disch := omega) only [pe_wi w0]
    exact pe_two' k1 k2
theorem b180_16 {d : Nat} {Φ : Option pe_V → pe_H → Prop} {σ : pe_H} {M q : Nat} {y : Nat → Int → Int} (hF : pm_F M σ) {x1 : Int} {o2 : Option pe_V}    (k : pe_X d 180 (21, [some (.inr (.inr M)), some (.inl x1), o2], [.inl 1], pm_h M σ q y) Φ) : pe_X d 180 (16, [some (.inr (.inr M)), some (.inl x1), o2], [], pm_h M σ q y) Φ := by
  refine pe_blk 8 2 ck180 [] (21, [some (.inr (.inr M)), some (.inl x1), o2], [.inl 1], pm_h M σ q y) rfl ?_ ?_
  · exact trivial
  · exact k
theorem b180_20 {d : Nat} {Φ : Option pe_V → pe_H → Prop} {σ : pe_H} {M q : Nat} {y : Nat → Int → Int} (hF : pm_F M σ) {x1 : Int} {o2 : Option pe_V}    (k : pe_X d 180 (21, [some (.inr (.inr M)), some (.inl x1), o2], [.inl 0], pm_h M σ q y) Φ) : pe_X d 180 (20, [some (.inr (.inr M)), some (.inl x1), o2], [], pm_h M σ q y) Φ := by
  refine pe_blk 10 1 ck180 [] (21, [some (.inr (.inr M)), some (.inl x1), o2], [.inl 0], pm_h M σ q y) rfl ?_ ?_
  · exact trivial
  · exact k
theorem b180_21 {d : Nat} {Φ : Option pe_V → pe_H → Prop} {σ : pe_H} {M q : Nat} {y : Nat → Int → Int} (hF : pm_F M σ) {x1 : Int} {o2 : Option pe_V} {s0 : Int}  (w0 : pe_in s0 := by unfold pe_in; omega)  (k1 : s0 = 0 → pe_X d 180 (31, [some (.inr (.inr M)), some (.inl x1), some (.inl s0)], [], pm_h M σ q y) Φ) (k2 : ¬ (s0 = 0) → pe_X d 180 (26, [some (.inr (.inr M)), some (.inl x1), some (.inl s0)], [], pm_h M σ q y) Φ) : pe_X d 180 (21, [some (.inr (.inr M)), some (.inl x1), o2], [.inl s0], pm_h M σ q y) Φ := by
  refine pe_blk 11 3 ck180 [] (cond (decide ((pe_w s0) = 0)) 31 26, [some (.inr (.inr M)), some (.inl x1), some (.inl s0)], [], pm_h M σ q y) rfl ?_ ?_
  · exact trivial
  · try simp (disch := omega) only [pe_wi w0]
    exact pe_two k1 k2
theorem b180_26 {d : Nat} {Φ : Option pe_V → pe_H → Prop} {σ : pe_H} {M q : Nat} {y : Nat → Int → Int} (hF : pm_F M σ) {x1 : Int} {x2 : Int}    (k : pe_M d 167 [.inr (.inr M), .inl x1] (pm_h M σ q y) (fun r σ' => pe_X d 180 (31, [some (.inr (.inr M)), some (.inl x1), some (.inl x2)], r.toList ++ [], σ') Φ)) : pe_X d 180 (26, [some (.inr (.inr M)), some (.inl x1), some (.inl x2)], [], pm_h M σ q y) Φ := by
  refine pe_blk 14 2 ck180 [] (28, [some (.inr (.inr M)), some (.inl x1), some (.inl x2)], [.inl x1, .inr (.inr M)], pm_h M σ q y) rfl ?_ ?_
  · exact trivial
  · try simp (disch := omega) only [pe_K_wI, pe_K_wR, pm_KM hF, pm_Kh]
    have hrc : pe_K (pm_h M σ q y) M = 9 := by first | assumption | (simp (disch := omega) only [pe_K_wI, pe_K_wR, pm_KM hF, pm_Kh]; done) | (simp (disch := omega) only [pe_K_wI, pe_K_wR, pm_KM hF, pm_Kh]; assumption)
    exact pe_cal 16 ck180 rfl rfl rfl ⟨hrc, by decide⟩ k
theorem b180_31 {d : Nat} {Φ : Option pe_V → pe_H → Prop} {σ : pe_H} {M q : Nat} {y : Nat → Int → Int} (hF : pm_F M σ) {o1 : Option pe_V} {x2 : Int}   (h0 : x2 = 0 ∨ x2 = 1 := by first | assumption | omega) (k : Φ (some (.inl x2)) (pm_h M σ q y)) : pe_X d 180 (31, [some (.inr (.inr M)), o1, some (.inl x2)], [], pm_h M σ q y) Φ := by
  refine pe_blk 17 1 ck180 [] (32, [some (.inr (.inr M)), o1, some (.inl x2)], [.inl x2], pm_h M σ q y) rfl ?_ ?_
  · exact trivial
  · exact pe_fine 18 ck180 rfl rfl rfl h0 k
-- StepMachinesModel.roundsTold(I)Z
def T181 : List (Nat × Instr × Nat) := [(0, .iload_n 1, 1), (1, .i2l, 1), (2, .lconst 1, 1), (3, .ldc2_w 309, 3), (6, .invokestatic 147, 3), (9, .ifCond .eq 19, 3), (12, .aload_n 0, 1), (13, .getfield 246, 3), (16, .iload_n 1, 1), (17, .iadd, 1), (18, .sipush 999, 3), (21, .if_icmp .gt 7, 3), (24, .iconst 1, 1), (25, .goto 4, 3), (28, .iconst 0, 1), (29, .istore_n 2, 1), (30, .iload_n 2, 1), (31, .ifCond .eq 8, 3), (34, .aload_n 0, 1), (35, .iload_n 1, 1), (36, .invokevirtual 311, 3), (39, .iload_n 2, 1), (40, .ireturn, 1)]
theorem ck181 : pe_ctx 181 9 false (some .boolean) 3 T181 := ⟨rfl, rfl, rfl, rfl, by decide +kernel, by decide, by decide⟩
theorem b181_0 {d : Nat} {Φ : Option pe_V → pe_H → Prop} {σ : pe_H} {M q : Nat} {y : Nat → Int → Int} (hF : pm_F M σ) {x1 : Int} {o2 : Option pe_V}  (w0 : pe_in x1 := by unfold pe_in; omega)  (k : pe_M d 134 [.inr (.inl x1), .inr (.inl 1), .inr (.inl 60)] (pm_h M σ q y) (fun r σ' => pe_X d 181 (9, [some (.inr (.inr M)), some (.inl x1), o2], r.toList ++ [], σ') Φ)) : pe_X d 181 (0, [some (.inr (.inr M)), some (.inl x1), o2], [], pm_h M σ q y) Φ := by
  refine pe_blk 0 4 ck181 [] (6, [some (.inr (.inr M)), some (.inl x1), o2], [.inr (.inl 60), .inr (.inl 1), .inr (.inl (pe_w x1))], pm_h M σ q y) rfl ?_ ?_
  · exact trivial
  · try simp (disch := omega) only [pe_wi w0]
    exact pe_cal 4 ck181 rfl rfl rfl trivial k
theorem b181_9 {d : Nat} {Φ : Option pe_V → pe_H → Prop} {σ : pe_H} {M q : Nat} {y : Nat → Int → Int} (hF : pm_F M σ) {x1 : Int} {o2 : Option pe_V} {s0 : Int}  (w0 : pe_in s0 := by unfold pe_in; omega)  (k1 : s0 = 0 → pe_X d 181 (28, [some (.inr (.inr M)), some (.inl x1), o2], [], pm_h M σ q y) Φ) (k2 : ¬ (s0 = 0) → pe_X d 181 (12, [some (.inr (.inr M)), some (.inl x1), o2], [], pm_h M σ q y) Φ) : pe_X d 181 (9, [some (.inr (.inr M)), some (.inl x1), o2], [.inl s0], pm_h M σ q y) Φ := by
  refine pe_blk 5 1 ck181 [] (cond (decide ((pe_w s0) = 0)) 28 12, [some (.inr (.inr M)), some (.inl x1), o2], [], pm_h M σ q y) rfl ?_ ?_
  · exact trivial
  · try simp (disch := omega) only [pe_wi w0]
    exact pe_two k1 k2
theorem b181_12 {d : Nat} {Φ : Option pe_V → pe_H → Prop} {σ : pe_H} {M q : Nat} {y : Nat → Int → Int} (hF : pm_F M σ) {x1 : Int} {o2 : Option pe_V}  (w0 : pe_in ((y 0 29) + x1) := by unfold pe_in; omega)  (k1 : 999 < ((y 0 29) + x1) → pe_X d 181 (28, [some (.inr (.inr M)), some (.inl x1), o2], [], pm_h M σ q y) Φ) (k2 : ¬ (999 < ((y 0 29) + x1)) → pe_X d 181 (24, [some (.inr (.inr M)), some (.inl x1), o2], [], pm_h M σ q y) Φ) : pe_X d 181 (12, [some (.inr (.inr M)), some (.inl x1), o2], [], pm_h M σ q y) Φ := by
  refine pe_blk 6 6 ck181 [pe_K (pm_h M σ q y) M = 9] (cond (decide ((pe_w 999) < (pe_w ((pe_I (pm_h M σ q y) M 29) + x1)))) 28 24, [some (.inr (.inr M)), some (.inl x1), o2], [], pm_h M σ q y) rfl ?_ ?_
  · first
    | (simp (disch := omega) only [pe_all, pe_wi w0, pe_wi (x := 999) ⟨by decide, by decide⟩, pe_I_wR, pe_K_wI, pe_K_wR, pm_I0, pm_KM hF, pm_Kh, pm_uj, pm_uk, pm_us]; done)
    | (simp (disch := omega) only [pe_all, pe_wi w0, pe_wi (x := 999) ⟨by decide, by decide⟩, pe_I_wR, pe_K_wI, pe_K_wR, pm_I0, pm_KM hF, pm_Kh, pm_uj, pm_uk, pm_us]; (repeat' apply And.intro) <;> first | assumption | omega | decide)
  · try simp (disch := omega) only [pe_wi w0, pe_wi (x := 999) ⟨by decide, by decide⟩, pe_I_wR, pe_K_wI, pe_K_wR, pm_I0, pm_KM hF, pm_Kh, pm_uj, pm_uk, pm_us]
    exact pe_two k1 k2
theorem b181_24 {d : Nat} {Φ : Option pe_V → pe_H → Prop} {σ : pe_H} {M q : Nat} {y : Nat → Int → Int} (hF : pm_F M σ) {x1 : Int} {o2 : Option pe_V}    (k : pe_X d 181 (29, [some (.inr (.inr M)), some (.inl x1), o2], [.inl 1], pm_h M σ q y) Φ) : pe_X d 181 (24, [some (.inr (.inr M)), some (.inl x1), o2], [], pm_h M σ q y) Φ := by
  refine pe_blk 12 2 ck181 [] (29, [some (.inr (.inr M)), some (.inl x1), o2], [.inl 1], pm_h M σ q y) rfl ?_ ?_
  · exact trivial
  · exact k
theorem b181_28 {d : Nat} {Φ : Option pe_V → pe_H → Prop} {σ : pe_H} {M q : Nat} {y : Nat → Int → Int} (hF : pm_F M σ) {x1 : Int} {o2 : Option pe_V}    (k : pe_X d 181 (29, [some (.inr (.inr M)), some (.inl x1), o2], [.inl 0], pm_h M σ q y) Φ) : pe_X d 181 (28, [some (.inr (.inr M)), some (.inl x1), o2], [], pm_h M σ q y) Φ := by
  refine pe_blk 14 1 ck181 [] (29, [some (.inr (.inr M)), some (.inl x1), o2], [.inl 0], pm_h M σ q y) rfl ?_ ?_
  · exact trivial
  · exact k
theorem b181_29 {d : Nat} {Φ : Option pe_V → pe_H → Prop} {σ : pe_H} {M q : Nat} {y : Nat → Int → Int} (hF : pm_F M σ) {x1 : Int} {o2 : Option pe_V} {s0 : Int}  (w0 : pe_in s0 := by unfold pe_in; omega)  (k1 : s0 = 0 → pe_X d 181 (39, [some (.inr (.inr M)), some (.inl x1), some (.inl s0)], [], pm_h M σ q y) Φ) (k2 : ¬ (s0 = 0) → pe_X d 181 (34, [some (.inr (.inr M)), some (.inl x1), some (.inl s0)], [], pm_h M σ q y) Φ) : pe_X d 181 (29, [some (.inr (.inr M)), some (.inl x1), o2], [.inl s0], pm_h M σ q y) Φ := by
  refine pe_blk 15 3 ck181 [] (cond (decide ((pe_w s0) = 0)) 39 34, [some (.inr (.inr M)), some (.inl x1), some (.inl s0)], [], pm_h M σ q y) rfl ?_ ?_
  · exact trivial
  · try simp (disch := omega) only [pe_wi w0]
    exact pe_two k1 k2
theorem b181_34 {d : Nat} {Φ : Option pe_V → pe_H → Prop} {σ : pe_H} {M q : Nat} {y : Nat → Int → Int} (hF : pm_F M σ) {x1 : Int} {x2 : Int}    (k : pe_M d 170 [.inr (.inr M), .inl x1] (pm_h M σ q y) (fun r σ' => pe_X d 181 (39, [some (.inr (.inr M)), some (.inl x1), some (.inl x2)], r.toList ++ [], σ') Φ)) : pe_X d 181 (34, [some (.inr (.inr M)), some (.inl x1), some (.inl x2)], [], pm_h M σ q y) Φ := by
  refine pe_blk 18 2 ck181 [] (36, [some (.inr (.inr M)), some (.inl x1), some (.inl x2)], [.inl x1, .inr (.inr M)], pm_h M σ q y) rfl ?_ ?_
  · exact trivial
  · try simp (disch := omega) only [pe_K_wI, pe_K_wR, pm_KM hF, pm_Kh]
    have hrc : pe_K (pm_h M σ q y) M = 9 := by first | assumption | (simp (disch := omega) only [pe_K_wI, pe_K_wR, pm_KM hF, pm_Kh]; done) | (simp (disch := omega) only [pe_K_wI, pe_K_wR, pm_KM hF, pm_Kh]; assumption)
    exact pe_cal 20 ck181 rfl rfl rfl ⟨hrc, by decide⟩ k
theorem b181_39 {d : Nat} {Φ : Option pe_V → pe_H → Prop} {σ : pe_H} {M q : Nat} {y : Nat → Int → Int} (hF : pm_F M σ) {o1 : Option pe_V} {x2 : Int}   (h0 : x2 = 0 ∨ x2 = 1 := by first | assumption | omega) (k : Φ (some (.inl x2)) (pm_h M σ q y)) : pe_X d 181 (39, [some (.inr (.inr M)), o1, some (.inl x2)], [], pm_h M σ q y) Φ := by
  refine pe_blk 21 1 ck181 [] (40, [some (.inr (.inr M)), o1, some (.inl x2)], [.inl x2], pm_h M σ q y) rfl ?_ ?_
  · exact trivial
  · exact pe_fine 22 ck181 rfl rfl rfl h0 k
-- StepMachinesModel.comesTold(I)Z
def T182 : List (Nat × Instr × Nat) := [(0, .aload_n 0, 1), (1, .getfield 117, 3), (4, .iconst 3, 1), (5, .iload_n 1, 1), (6, .imul, 1), (7, .iaload, 1), (8, .istore_n 2, 1), (9, .aload_n 0, 1), (10, .getfield 117, 3), (13, .iconst 3, 1), (14, .iload_n 1, 1), (15, .imul, 1), (16, .iconst 1, 1), (17, .iadd, 1), (18, .iaload, 1), (19, .istore_n 3, 1), (20, .aload_n 0, 1), (21, .getfield 114, 3), (24, .iload_n 1, 1), (25, .iaload, 1), (26, .lookupswitch 131 #[(99, 67), (110, 84), (112, 50), (119, 97), (120, 91)], 50), (76, .aload_n 0, 1), (77, .iload_n 2, 1), (78, .iload_n 3, 1), (79, .aload_n 0, 1), (80, .getfield 117, 3), (83, .iconst 3, 1), (84, .iload_n 1, 1), (85, .imul, 1), (86, .iconst 2, 1), (87, .iadd, 1), (88, .iaload, 1), (89, .invokevirtual 314, 3), (92, .ireturn, 1), (93, .aload_n 0, 1), (94, .iload_n 2, 1), (95, .iload_n 3, 1), (96, .aload_n 0, 1), (97, .getfield 117, 3), (100, .iconst 3, 1), (101, .iload_n 1, 1), (102, .imul, 1), (103, .iconst 2, 1), (104, .iadd, 1), (105, .iaload, 1), (106, .invokevirtual 318, 3), (109, .ireturn, 1), (110, .aload_n 0, 1), (111, .iload_n 2, 1), (112, .iload_n 3, 1), (113, .invokevirtual 321, 3), (116, .ireturn, 1), (117, .aload_n 0, 1), (118, .iload_n 2, 1), (119, .invokevirtual 324, 3), (122, .ireturn, 1), (123, .aload_n 0, 1), (124, .iload_n 2, 1), (125, .i2l, 1), (126, .lconst 1, 1), (127, .ldc2_w 327, 3), (130, .invokestatic 147, 3), (133, .ifCond .eq 7, 3), (136, .iload_n 2, 1), (137, .goto 7, 3), (140, .aload_n 0, 1), (141, .getfield 88, 3), (144, .putfield 88, 3), (147, .iload_n 2, 1), (148, .i2l, 1), (149, .lconst 1, 1), (150, .ldc2_w 327, 3), (153, .invokestatic 147, 3), (156, .ireturn, 1), (157, .aload_n 0, 1), (158, .iload_n 2, 1), (159, .invokevirtual 329, 3), (162, .ireturn, 1)]
theorem ck182 : pe_ctx 182 9 false (some .boolean) 4 T182 := ⟨rfl, rfl, rfl, rfl, by decide +kernel, by decide, by decide⟩
set_option maxHeartbeats 8000000 in
theorem b182_0 {d : Nat} {Φ : Option pe_V → pe_H → Prop} {σ : pe_H} {M q : Nat} {y : Nat → Int → Int} (hF : pm_F M σ) {x1 : Int} {o2 : Option pe_V} {o3 : Option pe_V}  (w0 : pe_in (3 * x1) := by unfold pe_in; omega) (w1 : pe_in ((3 * x1) + 1) := by unfold pe_in; omega) (w2 : pe_in x1 := by unfold pe_in; omega) (w3 : pe_in (y 34 x1) := by unfold pe_in; omega) (h0 : 0 ≤ (3 * x1) := by first | assumption | omega) (h1 : (3 * x1) < 153 := by first | assumption | omega) (h2 : 0 ≤ ((3 * x1) + 1) := by first | assumption | omega) (h3 : ((3 * x1) + 1) < 153 := by first | assumption | omega) (h4 : 0 ≤ x1 := by first | assumption | omega) (h5 : x1 < 51 := by first | assumption | omega) (k0 : (y 34 x1) = 99 → pe_X d 182 (93, [some (.inr (.inr M)), some (.inl x1), some (.inl (y 35 (3 * x1))), some (.inl (y 35 ((3 * x1) + 1)))], [], pm_h M σ q y) Φ) (k1 : (y 34 x1) = 110 → pe_X d 182 (110, [some (.inr (.inr M)), some (.inl x1), some (.inl (y 35 (3 * x1))), some (.inl (y 35 ((3 * x1) + 1)))], [], pm_h M σ q y) Φ) (k2 : (y 34 x1) = 112 → pe_X d 182 (76, [some (.inr (.inr M)), some (.inl x1), some (.inl (y 35 (3 * x1))), some (.inl (y 35 ((3 * x1) + 1)))], [], pm_h M σ q y) Φ) (k3 : (y 34 x1) = 119 → pe_X d 182 (123, [some (.inr (.inr M)), some (.inl x1), some (.inl (y 35 (3 * x1))), some (.inl (y 35 ((3 * x1) + 1)))], [], pm_h M σ q y) Φ) (k4 : (y 34 x1) = 120 → pe_X d 182 (117, [some (.inr (.inr M)), some (.inl x1), some (.inl (y 35 (3 * x1))), some (.inl (y 35 ((3 * x1) + 1)))], [], pm_h M σ q y) Φ) (kd : ¬ (y 34 x1) = 99 → ¬ (y 34 x1) = 110 → ¬ (y 34 x1) = 112 → ¬ (y 34 x1) = 119 → ¬ (y 34 x1) = 120 → pe_X d 182 (157, [some (.inr (.inr M)), some (.inl x1), some (.inl (y 35 (3 * x1))), some (.inl (y 35 ((3 * x1) + 1)))], [], pm_h M σ q y) Φ) : pe_X d 182 (0, [some (.inr (.inr M)), some (.inl x1), o2, o3], [], pm_h M σ q y) Φ := by
  refine pe_blk 0 21 ck182 [pe_K (pm_h M σ q y) M = 9, pe_K (pm_h M σ q y) (pe_R (pm_h M σ q y) M 44) = 10, 0 ≤ (pe_w (3 * x1)), (pe_w (3 * x1)) < pe_L (pm_h M σ q y) (pe_R (pm_h M σ q y) M 44), pe_K (pm_h M σ q y) M = 9, pe_K (pm_h M σ q y) (pe_R (pm_h M σ q y) M 44) = 10, 0 ≤ (pe_w ((3 * x1) + 1)), (pe_w ((3 * x1) + 1)) < pe_L (pm_h M σ q y) (pe_R (pm_h M σ q y) M 44), pe_K (pm_h M σ q y) M = 9, pe_K (pm_h M σ q y) (pe_R (pm_h M σ q y) M 43) = 10, 0 ≤ (pe_w x1), (pe_w x1) < pe_L (pm_h M σ q y) (pe_R (pm_h M σ q y) M 43)] ((((26 : Nat) : Int) + pe_sw 131 [(99, 67), (110, 84), (112, 50), (119, 97), (120, 91)] (pe_w (pe_I (pm_h M σ q y) (pe_R (pm_h M σ q y) M 43) (pe_w x1)))).toNat, [some (.inr (.inr M)), some (.inl x1), some (.inl (pe_I (pm_h M σ q y) (pe_R (pm_h M σ q y) M 44) (pe_w (3 * x1)))), some (.inl (pe_I (pm_h M σ q y) (pe_R (pm_h M σ q y) M 44) (pe_w ((3 * x1) + 1))))], [], pm_h M σ q y) rfl ?_ ?_
  · first
    | (simp (disch := omega) only [pe_all, pe_wi w0, pe_wi w1, pe_wi w2, pe_wi w3, pe_I_wR, pe_K_wI, pe_K_wR, pe_L_wI, pe_L_wR, pe_R_nej, pe_R_wI, pm_Ik, pm_K34 hF, pm_K35 hF, pm_KM hF, pm_Kh, pm_L34 hF, pm_L35 hF, pm_Lh, pm_R43 hF, pm_R44 hF, pm_Rh, pm_uj, pm_uk, pm_us]; done)
    | (simp (disch := omega) only [pe_all, pe_wi w0, pe_wi w1, pe_wi w2, pe_wi w3, pe_I_wR, pe_K_wI, pe_K_wR, pe_L_wI, pe_L_wR, pe_R_nej, pe_R_wI, pm_Ik, pm_K34 hF, pm_K35 hF, pm_KM hF, pm_Kh, pm_L34 hF, pm_L35 hF, pm_Lh, pm_R43 hF, pm_R44 hF, pm_Rh, pm_uj, pm_uk, pm_us]; (repeat' apply And.intro) <;> first | assumption | omega | decide)
  · try simp (disch := omega) only [pe_wi w0, pe_wi w1, pe_wi w2, pe_wi w3, pe_I_wR, pe_K_wI, pe_K_wR, pe_L_wI, pe_L_wR, pe_R_nej, pe_R_wI, pm_Ik, pm_K34 hF, pm_K35 hF, pm_KM hF, pm_Kh, pm_L34 hF, pm_L35 hF, pm_Lh, pm_R43 hF, pm_R44 hF, pm_Rh, pm_uj, pm_uk, pm_us]
    by_cases q0 : (y 34 x1) = 99
    · have e : pe_sw 131 [(99, 67), (110, 84), (112, 50), (119, 97), (120, 91)] (y 34 x1) = 67 := by rw [q0]; rfl
      rw [e]; exact k0 q0
    by_cases q1 : (y 34 x1) = 110
    · have e : pe_sw 131 [(99, 67), (110, 84), (112, 50), (119, 97), (120, 91)] (y 34 x1) = 84 := by rw [q1]; rfl
      rw [e]; exact k1 q1
    by_cases q2 : (y 34 x1) = 112
    · have e : pe_sw 131 [(99, 67), (110, 84), (112, 50), (119, 97), (120, 91)] (y 34 x1) = 50 := by rw [q2]; rfl
      rw [e]; exact k2 q2
    by_cases q3 : (y 34 x1) = 119
    · have e : pe_sw 131 [(99, 67), (110, 84), (112, 50), (119, 97), (120, 91)] (y 34 x1) = 97 := by rw [q3]; rfl
      rw [e]; exact k3 q3
    by_cases q4 : (y 34 x1) = 120
    · have e : pe_sw 131 [(99, 67), (110, 84), (112, 50), (119, 97), (120, 91)] (y 34 x1) = 91 := by rw [q4]; rfl
      rw [e]; exact k4 q4
    have e : pe_sw 131 [(99, 67), (110, 84), (112, 50), (119, 97), (120, 91)] (y 34 x1) = 131 := by simp only [pe_sw, if_neg q0, if_neg q1, if_neg q2, if_neg q3, if_neg q4]
    rw [e]; exact kd q0 q1 q2 q3 q4
theorem b182_76 {d : Nat} {Φ : Option pe_V → pe_H → Prop} {σ : pe_H} {M q : Nat} {y : Nat → Int → Int} (hF : pm_F M σ) {x1 : Int} {x2 : Int} {x3 : Int}  (w0 : pe_in ((3 * x1) + 2) := by unfold pe_in; omega) (h0 : 0 ≤ ((3 * x1) + 2) := by first | assumption | omega) (h1 : ((3 * x1) + 2) < 153 := by first | assumption | omega) (k : pe_M d 178 [.inr (.inr M), .inl x2, .inl x3, .inl (y 35 ((3 * x1) + 2))] (pm_h M σ q y) (fun r σ' => pe_X d 182 (92, [some (.inr (.inr M)), some (.inl x1), some (.inl x2), some (.inl x3)], r.toList ++ [], σ') Φ)) : pe_X d 182 (76, [some (.inr (.inr M)), some (.inl x1), some (.inl x2), some (.inl x3)], [], pm_h M σ q y) Φ := by
  refine pe_blk 21 11 ck182 [pe_K (pm_h M σ q y) M = 9, pe_K (pm_h M σ q y) (pe_R (pm_h M σ q y) M 44) = 10, 0 ≤ (pe_w ((3 * x1) + 2)), (pe_w ((3 * x1) + 2)) < pe_L (pm_h M σ q y) (pe_R (pm_h M σ q y) M 44)] (89, [some (.inr (.inr M)), some (.inl x1), some (.inl x2), some (.inl x3)], [.inl (pe_I (pm_h M σ q y) (pe_R (pm_h M σ q y) M 44) (pe_w ((3 * x1) + 2))), .inl x3, .inl x2, .inr (.inr M)], pm_h M σ q y) rfl ?_ ?_
  · first
    | (simp (disch := omega) only [pe_all, pe_wi w0, pe_I_wR, pe_K_wI, pe_K_wR, pe_L_wI, pe_L_wR, pe_R_nej, pe_R_wI, pm_Ik, pm_K35 hF, pm_KM hF, pm_Kh, pm_L35 hF, pm_Lh, pm_R44 hF, pm_Rh, pm_uj, pm_uk, pm_us]; done)
    | (simp (disch := omega) only [pe_all, pe_wi w0, pe_I_wR, pe_K_wI, pe_K_wR, pe_L_wI, pe_L_wR, pe_R_nej, pe_R_wI, pm_Ik, pm_K35 hF, pm_KM hF, pm_Kh, pm_L35 hF, pm_Lh, pm_R44 hF, pm_Rh, pm_uj, pm_uk, pm_us]; (repeat' apply And.intro) <;> first | assumption | omega | decide)
  · try simp (disch := omega) only [pe_wi w0, pe_I_wR, pe_K_wI, pe_K_wR, pe_L_wI, pe_L_wR, pe_R_nej, pe_R_wI, pm_Ik, pm_K35 hF, pm_KM hF, pm_Kh, pm_L35 hF, pm_Lh, pm_R44 hF, pm_Rh, pm_uj, pm_uk, pm_us]
    have hrc : pe_K (pm_h M σ q y) M = 9 := by first | assumption | (simp (disch := omega) only [pe_wi w0, pe_I_wR, pe_K_wI, pe_K_wR, pe_L_wI, pe_L_wR, pe_R_nej, pe_R_wI, pm_Ik, pm_K35 hF, pm_KM hF, pm_Kh, pm_L35 hF, pm_Lh, pm_R44 hF, pm_Rh, pm_uj, pm_uk, pm_us]; done) | (simp (disch := omega) only [pe_wi w0, pe_I_wR, pe_K_wI, pe_K_wR, pe_L_wI, pe_L_wR, pe_R_nej, pe_R_wI, pm_Ik, pm_K35 hF, pm_KM hF, pm_Kh, pm_L35 hF, pm_Lh, pm_R44 hF, pm_Rh, pm_uj, pm_uk, pm_us]; assumption)
    exact pe_cal 32 ck182 rfl rfl rfl ⟨hrc, by decide⟩ k
theorem b182_92 {d : Nat} {Φ : Option pe_V → pe_H → Prop} {σ : pe_H} {M q : Nat} {y : Nat → Int → Int} (hF : pm_F M σ) {o1 : Option pe_V} {o2 : Option pe_V} {o3 : Option pe_V} {s0 : Int}   (h0 : s0 = 0 ∨ s0 = 1 := by first | assumption | omega) (k : Φ (some (.inl s0)) (pm_h M σ q y)) : pe_X d 182 (92, [some (.inr (.inr M)), o1, o2, o3], [.inl s0], pm_h M σ q y) Φ := by
  exact pe_fine 33 ck182 rfl rfl rfl h0 k
theorem b182_93 {d : Nat} {Φ : Option pe_V → pe_H → Prop} {σ : pe_H} {M q : Nat} {y : Nat → Int → Int} (hF : pm_F M σ) {x1 : Int} {x2 : Int} {x3 : Int}  (w0 : pe_in ((3 * x1) + 2) := by unfold pe_in; omega) (h0 : 0 ≤ ((3 * x1) + 2) := by first | assumption | omega) (h1 : ((3 * x1) + 2) < 153 := by first | assumption | omega) (k : pe_M d 171 [.inr (.inr M), .inl x2, .inl x3, .inl (y 35 ((3 * x1) + 2))] (pm_h M σ q y) (fun r σ' => pe_X d 182 (109, [some (.inr (.inr M)), some (.inl x1), some (.inl x2), some (.inl x3)], r.toList ++ [], σ') Φ)) : pe_X d 182 (93, [some (.inr (.inr M)), some (.inl x1), some (.inl x2), some (.inl x3)], [], pm_h M σ q y) Φ := by
  refine pe_blk 34 11 ck182 [pe_K (pm_h M σ q y) M = 9, pe_K (pm_h M σ q y) (pe_R (pm_h M σ q y) M 44) = 10, 0 ≤ (pe_w ((3 * x1) + 2)), (pe_w ((3 * x1) + 2)) < pe_L (pm_h M σ q y) (pe_R (pm_h M σ q y) M 44)] (106, [some (.inr (.inr M)), some (.inl x1), some (.inl x2), some (.inl x3)], [.inl (pe_I (pm_h M σ q y) (pe_R (pm_h M σ q y) M 44) (pe_w ((3 * x1) + 2))), .inl x3, .inl x2, .inr (.inr M)], pm_h M σ q y) rfl ?_ ?_
  · first
    | (simp (disch := omega) only [pe_all, pe_wi w0, pe_I_wR, pe_K_wI, pe_K_wR, pe_L_wI, pe_L_wR, pe_R_nej, pe_R_wI, pm_Ik, pm_K35 hF, pm_KM hF, pm_Kh, pm_L35 hF, pm_Lh, pm_R44 hF, pm_Rh, pm_uj, pm_uk, pm_us]; done)
    | (simp (disch := omega) only [pe_all, pe_wi w0, pe_I_wR, pe_K_wI, pe_K_wR, pe_L_wI, pe_L_wR, pe_R_nej, pe_R_wI, pm_Ik, pm_K35 hF, pm_KM hF, pm_Kh, pm_L35 hF, pm_Lh, pm_R44 hF, pm_Rh, pm_uj, pm_uk, pm_us]; (repeat' apply And.intro) <;> first | assumption | omega | decide)
  · try simp (disch := omega) only [pe_wi w0, pe_I_wR, pe_K_wI, pe_K_wR, pe_L_wI, pe_L_wR, pe_R_nej, pe_R_wI, pm_Ik, pm_K35 hF, pm_KM hF, pm_Kh, pm_L35 hF, pm_Lh, pm_R44 hF, pm_Rh, pm_uj, pm_uk, pm_us]
    have hrc : pe_K (pm_h M σ q y) M = 9 := by first | assumption | (simp (disch := omega) only [pe_wi w0, pe_I_wR, pe_K_wI, pe_K_wR, pe_L_wI, pe_L_wR, pe_R_nej, pe_R_wI, pm_Ik, pm_K35 hF, pm_KM hF, pm_Kh, pm_L35 hF, pm_Lh, pm_R44 hF, pm_Rh, pm_uj, pm_uk, pm_us]; done) | (simp (disch := omega) only [pe_wi w0, pe_I_wR, pe_K_wI, pe_K_wR, pe_L_wI, pe_L_wR, pe_R_nej, pe_R_wI, pm_Ik, pm_K35 hF, pm_KM hF, pm_Kh, pm_L35 hF, pm_Lh, pm_R44 hF, pm_Rh, pm_uj, pm_uk, pm_us]; assumption)
    exact pe_cal 45 ck182 rfl rfl rfl ⟨hrc, by decide⟩ k
theorem b182_109 {d : Nat} {Φ : Option pe_V → pe_H → Prop} {σ : pe_H} {M q : Nat} {y : Nat → Int → Int} (hF : pm_F M σ) {o1 : Option pe_V} {o2 : Option pe_V} {o3 : Option pe_V} {s0 : Int}   (h0 : s0 = 0 ∨ s0 = 1 := by first | assumption | omega) (k : Φ (some (.inl s0)) (pm_h M σ q y)) : pe_X d 182 (109, [some (.inr (.inr M)), o1, o2, o3], [.inl s0], pm_h M σ q y) Φ := by
  exact pe_fine 46 ck182 rfl rfl rfl h0 k
theorem b182_110 {d : Nat} {Φ : Option pe_V → pe_H → Prop} {σ : pe_H} {M q : Nat} {y : Nat → Int → Int} (hF : pm_F M σ) {o1 : Option pe_V} {x2 : Int} {x3 : Int}    (k : pe_M d 179 [.inr (.inr M), .inl x2, .inl x3] (pm_h M σ q y) (fun r σ' => pe_X d 182 (116, [some (.inr (.inr M)), o1, some (.inl x2), some (.inl x3)], r.toList ++ [], σ') Φ)) : pe_X d 182 (110, [some (.inr (.inr M)), o1, some (.inl x2), some (.inl x3)], [], pm_h M σ q y) Φ := by
  refine pe_blk 47 3 ck182 [] (113, [some (.inr (.inr M)), o1, some (.inl x2), some (.inl x3)], [.inl x3, .inl x2, .inr (.inr M)], pm_h M σ q y) rfl ?_ ?_
  · exact trivial
  · try simp (disch := omega) only [pe_K_wI, pe_K_wR, pm_KM hF, pm_Kh]
    have hrc : pe_K (pm_h M σ q y) M = 9 := by first | assumption | (simp (disch := omega) only [pe_K_wI, pe_K_wR, pm_KM hF, pm_Kh]; done) | (simp (disch := omega) only [pe_K_wI, pe_K_wR, pm_KM hF, pm_Kh]; assumption)
    exact pe_cal 50 ck182 rfl rfl rfl ⟨hrc, by decide⟩ k
set_option maxRecDepth 8000 in
theorem b182_116 {d : Nat} {Φ : Option pe_V → pe_H → Prop} {σ : pe_H} {M q : Nat} {y : Nat → Int → Int} (hF : pm_F M σ) {o1 : Option pe_V} {o2 : Option pe_V} {o3 : Option pe_V} {s0 : Int}   (h0 : s0 = 0 ∨ s0 = 1 := by first | assumption | omega) (k : Φ (some (.inl s0)) (pm_h M σ q y)) : pe_X d 182 (116, [some (.inr (.inr M)), o1, o2, o3], [.inl s0], pm_h M σ q y) Φ := by
  exact pe_fine 51 ck182 rfl rfl rfl h0 k
set_option maxRecDepth 8000 in
theorem b182_117 {d : Nat} {Φ : Option pe_V → pe_H → Prop} {σ : pe_H} {M q : Nat} {y : Nat → Int → Int} (hF : pm_F M σ) {o1 : Option pe_V} {x2 : Int} {o3 : Option pe_V}    (k : pe_M d 180 [.inr (.inr M), .inl x2] (pm_h M σ q y) (fun r σ' => pe_X d 182 (122, [some (.inr (.inr M)), o1, some (.inl x2), o3], r.toList ++ [], σ') Φ)) : pe_X d 182 (117, [some (.inr (.inr M)), o1, some (.inl x2), o3], [], pm_h M σ q y) Φ := by
  refine pe_blk 52 2 ck182 [] (119, [some (.inr (.inr M)), o1, some (.inl x2), o3], [.inl x2, .inr (.inr M)], pm_h M σ q y) rfl ?_ ?_
  · exact trivial
  · try simp (disch := omega) only [pe_K_wI, pe_K_wR, pm_KM hF, pm_Kh]
    have hrc : pe_K (pm_h M σ q y) M = 9 := by first | assumption | (simp (disch := omega) only [pe_K_wI, pe_K_wR, pm_KM hF, pm_Kh]; done) | (simp (disch := omega) only [pe_K_wI, pe_K_wR, pm_KM hF, pm_Kh]; assumption)
    exact pe_cal 54 ck182 rfl rfl rfl ⟨hrc, by decide⟩ k
set_option maxRecDepth 8000 in
theorem b182_122 {d : Nat} {Φ : Option pe_V → pe_H → Prop} {σ : pe_H} {M q : Nat} {y : Nat → Int → Int} (hF : pm_F M σ) {o1 : Option pe_V} {o2 : Option pe_V} {o3 : Option pe_V} {s0 : Int}   (h0 : s0 = 0 ∨ s0 = 1 := by first | assumption | omega) (k : Φ (some (.inl s0)) (pm_h M σ q y)) : pe_X d 182 (122, [some (.inr (.inr M)), o1, o2, o3], [.inl s0], pm_h M σ q y) Φ := by
  exact pe_fine 55 ck182 rfl rfl rfl h0 k
set_option maxRecDepth 8000 in
theorem b182_123 {d : Nat} {Φ : Option pe_V → pe_H → Prop} {σ : pe_H} {M q : Nat} {y : Nat → Int → Int} (hF : pm_F M σ) {o1 : Option pe_V} {x2 : Int} {o3 : Option pe_V}  (w0 : pe_in x2 := by unfold pe_in; omega)  (k : pe_M d 134 [.inr (.inl x2), .inr (.inl 1), .inr (.inl 8)] (pm_h M σ q y) (fun r σ' => pe_X d 182 (133, [some (.inr (.inr M)), o1, some (.inl x2), o3], r.toList ++ [.inr (.inr M)], σ') Φ)) : pe_X d 182 (123, [some (.inr (.inr M)), o1, some (.inl x2), o3], [], pm_h M σ q y) Φ := by
  refine pe_blk 56 5 ck182 [] (130, [some (.inr (.inr M)), o1, some (.inl x2), o3], [.inr (.inl 8), .inr (.inl 1), .inr (.inl (pe_w x2)), .inr (.inr M)], pm_h M σ q y) rfl ?_ ?_
  · exact trivial
  · try simp (disch := omega) only [pe_wi w0]
    exact pe_cal 61 ck182 rfl rfl rfl trivial k
set_option maxRecDepth 8000 in
theorem b182_133 {d : Nat} {Φ : Option pe_V → pe_H → Prop} {σ : pe_H} {M q : Nat} {y : Nat → Int → Int} (hF : pm_F M σ) {o1 : Option pe_V} {x2 : Int} {o3 : Option pe_V} {s1 : Int}  (w0 : pe_in s1 := by unfold pe_in; omega)  (k1 : s1 = 0 → pe_X d 182 (140, [some (.inr (.inr M)), o1, some (.inl x2), o3], [.inr (.inr M)], pm_h M σ q y) Φ) (k2 : ¬ (s1 = 0) → pe_X d 182 (136, [some (.inr (.inr M)), o1, some (.inl x2), o3], [.inr (.inr M)], pm_h M σ q y) Φ) : pe_X d 182 (133, [some (.inr (.inr M)), o1, some (.inl x2), o3], [.inl s1, .inr (.inr M)], pm_h M σ q y) Φ := by
  refine pe_blk 62 1 ck182 [] (cond (decide ((pe_w s1) = 0)) 140 136, [some (.inr (.inr M)), o1, some (.inl x2), o3], [.inr (.inr M)], pm_h M σ q y) rfl ?_ ?_
  · exact trivial
  · try simp (disch := omega) only [pe_wi w0]
    exact pe_two k1 k2
set_option maxRecDepth 8000 in
theorem b182_136 {d : Nat} {Φ : Option pe_V → pe_H → Prop} {σ : pe_H} {M q : Nat} {y : Nat → Int → Int} (hF : pm_F M σ) {o1 : Option pe_V} {x2 : Int} {o3 : Option pe_V}    (k : pe_X d 182 (144, [some (.inr (.inr M)), o1, some (.inl x2), o3], [.inl x2, .inr (.inr M)], pm_h M σ q y) Φ) : pe_X d 182 (136, [some (.inr (.inr M)), o1, some (.inl x2), o3], [.inr (.inr M)], pm_h M σ q y) Φ := by
  refine pe_blk 63 2 ck182 [] (144, [some (.inr (.inr M)), o1, some (.inl x2), o3], [.inl x2, .inr (.inr M)], pm_h M σ q y) rfl ?_ ?_
  · exact trivial
  · exact k
set_option maxRecDepth 8000 in
theorem b182_140 {d : Nat} {Φ : Option pe_V → pe_H → Prop} {σ : pe_H} {M q : Nat} {y : Nat → Int → Int} (hF : pm_F M σ) {o1 : Option pe_V} {x2 : Int} {o3 : Option pe_V}    (k : pe_X d 182 (144, [some (.inr (.inr M)), o1, some (.inl x2), o3], [.inl (y 0 28), .inr (.inr M)], pm_h M σ q y) Φ) : pe_X d 182 (140, [some (.inr (.inr M)), o1, some (.inl x2), o3], [.inr (.inr M)], pm_h M σ q y) Φ := by
  refine pe_blk 65 2 ck182 [pe_K (pm_h M σ q y) M = 9] (144, [some (.inr (.inr M)), o1, some (.inl x2), o3], [.inl (pe_I (pm_h M σ q y) M 28), .inr (.inr M)], pm_h M σ q y) rfl ?_ ?_
  · first
    | (simp (disch := omega) only [pe_all, pe_I_wR, pe_K_wI, pe_K_wR, pm_I0, pm_KM hF, pm_Kh, pm_uj, pm_uk, pm_us]; done)
    | (simp (disch := omega) only [pe_all, pe_I_wR, pe_K_wI, pe_K_wR, pm_I0, pm_KM hF, pm_Kh, pm_uj, pm_uk, pm_us]; (repeat' apply And.intro) <;> first | assumption | omega | decide)
  · try simp (disch := omega) only [pe_I_wR, pe_K_wI, pe_K_wR, pm_I0, pm_KM hF, pm_Kh, pm_uj, pm_uk, pm_us]
    exact k
set_option maxRecDepth 8000 in
theorem b182_144 {d : Nat} {Φ : Option pe_V → pe_H → Prop} {σ : pe_H} {M q : Nat} {y : Nat → Int → Int} (hF : pm_F M σ) {o1 : Option pe_V} {x2 : Int} {o3 : Option pe_V} {s1 : Int}  (w0 : pe_in x2 := by unfold pe_in; omega)  (k : pe_M d 134 [.inr (.inl x2), .inr (.inl 1), .inr (.inl 8)] (pm_h M σ q (pm_u y 0 28 s1)) (fun r σ' => pe_X d 182 (156, [some (.inr (.inr M)), o1, some (.inl x2), o3], r.toList ++ [], σ') Φ)) : pe_X d 182 (144, [some (.inr (.inr M)), o1, some (.inl x2), o3], [.inl s1, .inr (.inr M)], pm_h M σ q y) Φ := by
  refine pe_blk 67 5 ck182 [pe_K (pm_h M σ q y) M = 9] (153, [some (.inr (.inr M)), o1, some (.inl x2), o3], [.inr (.inl 8), .inr (.inl 1), .inr (.inl (pe_w x2))], pe_wI (pm_h M σ q y) M 28 s1) rfl ?_ ?_
  · first
    | (simp (disch := omega) only [pe_all, pe_wi w0, pe_K_wI, pe_K_wR, pm_KM hF, pm_Kh, pm_wI0]; done)
    | (simp (disch := omega) only [pe_all, pe_wi w0, pe_K_wI, pe_K_wR, pm_KM hF, pm_Kh, pm_wI0]; (repeat' apply And.intro) <;> first | assumption | omega | decide)
  · try simp (disch := omega) only [pe_wi w0, pe_K_wI, pe_K_wR, pm_KM hF, pm_Kh, pm_wI0]
    exact pe_cal 72 ck182 rfl rfl rfl trivial k
set_option maxRecDepth 8000 in
theorem b182_156 {d : Nat} {Φ : Option pe_V → pe_H → Prop} {σ : pe_H} {M q : Nat} {y : Nat → Int → Int} (hF : pm_F M σ) {o1 : Option pe_V} {o2 : Option pe_V} {o3 : Option pe_V} {s0 : Int}   (h0 : s0 = 0 ∨ s0 = 1 := by first | assumption | omega) (k : Φ (some (.inl s0)) (pm_h M σ q y)) : pe_X d 182 (156, [some (.inr (.inr M)), o1, o2, o3], [.inl s0], pm_h M σ q y) Φ := by
  exact pe_fine 73 ck182 rfl rfl rfl h0 k
set_option maxRecDepth 8000 in
theorem b182_157 {d : Nat} {Φ : Option pe_V → pe_H → Prop} {σ : pe_H} {M q : Nat} {y : Nat → Int → Int} (hF : pm_F M σ) {o1 : Option pe_V} {x2 : Int} {o3 : Option pe_V}    (k : pe_M d 181 [.inr (.inr M), .inl x2] (pm_h M σ q y) (fun r σ' => pe_X d 182 (162, [some (.inr (.inr M)), o1, some (.inl x2), o3], r.toList ++ [], σ') Φ)) : pe_X d 182 (157, [some (.inr (.inr M)), o1, some (.inl x2), o3], [], pm_h M σ q y) Φ := by
  refine pe_blk 74 2 ck182 [] (159, [some (.inr (.inr M)), o1, some (.inl x2), o3], [.inl x2, .inr (.inr M)], pm_h M σ q y) rfl ?_ ?_
  · exact trivial
  · try simp (disch := omega) only [pe_K_wI, pe_K_wR, pm_KM hF, pm_Kh]
    have hrc : pe_K (pm_h M σ q y) M = 9 := by first | assumption | (simp (disch := omega) only [pe_K_wI, pe_K_wR, pm_KM hF, pm_Kh]; done) | (simp (disch := omega) only [pe_K_wI, pe_K_wR, pm_KM hF, pm_Kh]; assumption)
    exact pe_cal 76 ck182 rfl rfl rfl ⟨hrc, by decide⟩ k
set_option maxRecDepth 8000 in
theorem b182_162 {d : Nat} {Φ : Option pe_V → pe_H → Prop} {σ : pe_H} {M q : Nat} {y : Nat → Int → Int} (hF : pm_F M σ) {o1 : Option pe_V} {o2 : Option pe_V} {o3 : Option pe_V} {s0 : Int}   (h0 : s0 = 0 ∨ s0 = 1 := by first | assumption | omega) (k : Φ (some (.inl s0)) (pm_h M σ q y)) : pe_X d 182 (162, [some (.inr (.inr M)), o1, o2, o3], [.inl s0], pm_h M σ q y) Φ := by
  exact pe_fine 77 ck182 rfl rfl rfl h0 k
-- StepMachinesModel.text(I)I
def T183 : List (Nat × Instr × Nat) := [(0, .aload_n 0, 1), (1, .iconst 0, 1), (2, .putfield 141, 3), (5, .aload_n 0, 1), (6, .iload_n 1, 1), (7, .invokevirtual 332, 3), (10, .istore_n 2, 1), (11, .iload_n 2, 1), (12, .ifCond .ne 17, 3), (15, .aload_n 0, 1), (16, .getfield 101, 3), (19, .iload_n 1, 1), (20, .iaload, 1), (21, .ifCond .eq 8, 3), (24, .bipush (-12), 2), (26, .goto 4, 3), (29, .iload_n 2, 1), (30, .istore_n 2, 1), (31, .iload_n 2, 1), (32, .ifCond .ge 5, 3), (35, .iload_n 2, 1), (36, .ireturn, 1), (37, .aload_n 0, 1), (38, .iload_n 1, 1), (39, .putfield 270, 3), (42, .aload_n 0, 1), (43, .iconst 0, 1), (44, .putfield 267, 3), (47, .aload_n 0, 1), (48, .iconst 0, 1), (49, .putfield 273, 3), (52, .aload_n 0, 1), (53, .iconst 0, 1), (54, .putfield 297, 3), (57, .aload_n 0, 1), (58, .iconst 0, 1), (59, .putfield 285, 3), (62, .aload_n 0, 1), (63, .getfield 273, 3), (66, .ifCond .ne 30, 3), (69, .aload_n 0, 1), (70, .getfield 297, 3), (73, .ifCond .eq 16, 3), (76, .aload_n 0, 1), (77, .getfield 267, 3), (80, .aload_n 0, 1), (81, .getfield 104, 3), (84, .iload_n 1, 1), (85, .iaload, 1), (86, .if_icmp .ge 10, 3), (89, .aload_n 0, 1), (90, .invokevirtual 335, 3), (93, .goto (-31), 3), (96, .aload_n 0, 1), (97, .getfield 273, 3), (100, .ifCond .eq 12, 3), (103, .sipush (-1000), 3), (106, .aload_n 0, 1), (107, .getfield 267, 3), (110, .isub, 1), (111, .ireturn, 1), (112, .aload_n 0, 1), (113, .invokevirtual 338, 3), (116, .iconst 0, 1), (117, .istore_n 3, 1), (118, .iload_n 3, 1), (119, .aload_n 0, 1), (120, .getfield 297, 3), (123, .if_icmp .ge 32, 3), (126, .aload_n 0, 1), (127, .iload_n 3, 1), (128, .invokevirtual 341, 3), (131, .ifCond .ne 18, 3), (134, .aload_n 0, 1), (135, .invokevirtual 344, 3), (138, .sipush (-2000), 3), (141, .aload_n 0, 1), (142, .getfield 111, 3), (145, .iload_n 3, 1), (146, .iaload, 1), (147, .isub, 1), (148, .ireturn, 1), (149, .iinc 3 1, 3), (152, .goto (-34), 3), (155, .aload_n 0, 1), (156, .getfield 297, 3), (159, .ireturn, 1)]
theorem ck183 : pe_ctx 183 9 false (some .int) 4 T183 := ⟨rfl, rfl, rfl, rfl, by decide +kernel, by decide, by decide⟩
theorem b183_0 {d : Nat} {Φ : Option pe_V → pe_H → Prop} {σ : pe_H} {M q : Nat} {y : Nat → Int → Int} (hF : pm_F M σ) {x1 : Int} {o2 : Option pe_V} {o3 : Option pe_V}    (k : pe_M d 235 [.inr (.inr M), .inl x1] (pm_h M σ q (pm_u y 0 37 0)) (fun r σ' => pe_X d 183 (10, [some (.inr (.inr M)), some (.inl x1), o2, o3], r.toList ++ [], σ') Φ)) : pe_X d 183 (0, [some (.inr (.inr M)), some (.inl x1), o2, o3], [], pm_h M σ q y) Φ := by
  refine pe_blk 0 5 ck183 [pe_K (pm_h M σ q y) M = 9] (7, [some (.inr (.inr M)), some (.inl x1), o2, o3], [.inl x1, .inr (.inr M)], pe_wI (pm_h M σ q y) M 37 0) rfl ?_ ?_
  · first
    | (simp (disch := omega) only [pe_all, pe_K_wI, pe_K_wR, pm_KM hF, pm_Kh, pm_wI0]; done)
    | (simp (disch := omega) only [pe_all, pe_K_wI, pe_K_wR, pm_KM hF, pm_Kh, pm_wI0]; (repeat' apply And.intro) <;> first | assumption | omega | decide)
  · try simp (disch := omega) only [pe_K_wI, pe_K_wR, pm_KM hF, pm_Kh, pm_wI0]
    have hrc : pe_K (pm_h M σ q (pm_u y 0 37 0)) M = 9 := by first | assumption | (simp (disch := omega) only [pe_K_wI, pe_K_wR, pm_KM hF, pm_Kh, pm_wI0]; done) | (simp (disch := omega) only [pe_K_wI, pe_K_wR, pm_KM hF, pm_Kh, pm_wI0]; assumption)
    exact pe_cal 5 ck183 rfl rfl rfl ⟨hrc, by decide⟩ k
theorem b183_10 {d : Nat} {Φ : Option pe_V → pe_H → Prop} {σ : pe_H} {M q : Nat} {y : Nat → Int → Int} (hF : pm_F M σ) {x1 : Int} {o2 : Option pe_V} {o3 : Option pe_V} {s0 : Int}  (w0 : pe_in s0 := by unfold pe_in; omega)  (k1 : ¬ s0 = 0 → pe_X d 183 (29, [some (.inr (.inr M)), some (.inl x1), some (.inl s0), o3], [], pm_h M σ q y) Φ) (k2 : s0 = 0 → pe_X d 183 (15, [some (.inr (.inr M)), some (.inl x1), some (.inl s0), o3], [], pm_h M σ q y) Φ) : pe_X d 183 (10, [some (.inr (.inr M)), some (.inl x1), o2, o3], [.inl s0], pm_h M σ q y) Φ := by
  refine pe_blk 6 3 ck183 [] (cond (decide (¬ (pe_w s0) = 0)) 29 15, [some (.inr (.inr M)), some (.inl x1), some (.inl s0), o3], [], pm_h M σ q y) rfl ?_ ?_
  · exact trivial
  · try simp (disch := omega) only [pe_wi w0]
    exact pe_two' k1 k2
theorem b183_15 {d : Nat} {Φ : Option pe_V → pe_H → Prop} {σ : pe_H} {M q : Nat} {y : Nat → Int → Int} (hF : pm_F M σ) {x1 : Int} {x2 : Int} {o3 : Option pe_V}  (w0 : pe_in x1 := by unfold pe_in; omega) (w1 : pe_in (y 30 x1) := by unfold pe_in; omega) (h0 : 0 ≤ x1 := by first | assumption | omega) (h1 : x1 < 8 := by first | assumption | omega) (k1 : (y 30 x1) = 0 → pe_X d 183 (29, [some (.inr (.inr M)), some (.inl x1), some (.inl x2), o3], [], pm_h M σ q y) Φ) (k2 : ¬ ((y 30 x1) = 0) → pe_X d 183 (24, [some (.inr (.inr M)), some (.inl x1), some (.inl x2), o3], [], pm_h M σ q y) Φ) : pe_X d 183 (15, [some (.inr (.inr M)), some (.inl x1), some (.inl x2), o3], [], pm_h M σ q y) Φ := by
  refine pe_blk 9 5 ck183 [pe_K (pm_h M σ q y) M = 9, pe_K (pm_h M σ q y) (pe_R (pm_h M σ q y) M 34) = 10, 0 ≤ (pe_w x1), (pe_w x1) < pe_L (pm_h M σ q y) (pe_R (pm_h M σ q y) M 34)] (cond (decide ((pe_w (pe_I (pm_h M σ q y) (pe_R (pm_h M σ q y) M 34) (pe_w x1))) = 0)) 29 24, [some (.inr (.inr M)), some (.inl x1), some (.inl x2), o3], [], pm_h M σ q y) rfl ?_ ?_
  · first
    | (simp (disch := omega) only [pe_all, pe_wi w0, pe_wi w1, pe_I_wR, pe_K_wI, pe_K_wR, pe_L_wI, pe_L_wR, pe_R_nej, pe_R_wI, pm_Ik, pm_K30 hF, pm_KM hF, pm_Kh, pm_L30 hF, pm_Lh, pm_R34 hF, pm_Rh, pm_uj, pm_uk, pm_us]; done)
    | (simp (disch := omega) only [pe_all, pe_wi w0, pe_wi w1, pe_I_wR, pe_K_wI, pe_K_wR, pe_L_wI, pe_L_wR, pe_R_nej, pe_R_wI, pm_Ik, pm_K30 hF, pm_KM hF, pm_Kh, pm_L30 hF, pm_Lh, pm_R34 hF, pm_Rh, pm_uj, pm_uk, pm_us]; (repeat' apply And.intro) <;> first | assumption | omega | decide)
  · try simp (disch := omega) only [pe_wi w0, pe_wi w1, pe_I_wR, pe_K_wI, pe_K_wR, pe_L_wI, pe_L_wR, pe_R_nej, pe_R_wI, pm_Ik, pm_K30 hF, pm_KM hF, pm_Kh, pm_L30 hF, pm_Lh, pm_R34 hF, pm_Rh, pm_uj, pm_uk, pm_us]
    exact pe_two k1 k2
theorem b183_24 {d : Nat} {Φ : Option pe_V → pe_H → Prop} {σ : pe_H} {M q : Nat} {y : Nat → Int → Int} (hF : pm_F M σ) {x1 : Int} {o2 : Option pe_V} {o3 : Option pe_V}    (k : pe_X d 183 (30, [some (.inr (.inr M)), some (.inl x1), o2, o3], [.inl (-12)], pm_h M σ q y) Φ) : pe_X d 183 (24, [some (.inr (.inr M)), some (.inl x1), o2, o3], [], pm_h M σ q y) Φ := by
  refine pe_blk 14 2 ck183 [] (30, [some (.inr (.inr M)), some (.inl x1), o2, o3], [.inl (-12)], pm_h M σ q y) rfl ?_ ?_
  · exact trivial
  · exact k
theorem b183_29 {d : Nat} {Φ : Option pe_V → pe_H → Prop} {σ : pe_H} {M q : Nat} {y : Nat → Int → Int} (hF : pm_F M σ) {x1 : Int} {x2 : Int} {o3 : Option pe_V}    (k : pe_X d 183 (30, [some (.inr (.inr M)), some (.inl x1), some (.inl x2), o3], [.inl x2], pm_h M σ q y) Φ) : pe_X d 183 (29, [some (.inr (.inr M)), some (.inl x1), some (.inl x2), o3], [], pm_h M σ q y) Φ := by
  refine pe_blk 16 1 ck183 [] (30, [some (.inr (.inr M)), some (.inl x1), some (.inl x2), o3], [.inl x2], pm_h M σ q y) rfl ?_ ?_
  · exact trivial
  · exact k
theorem b183_30 {d : Nat} {Φ : Option pe_V → pe_H → Prop} {σ : pe_H} {M q : Nat} {y : Nat → Int → Int} (hF : pm_F M σ) {x1 : Int} {o2 : Option pe_V} {o3 : Option pe_V} {s0 : Int}  (w0 : pe_in s0 := by unfold pe_in; omega)  (k1 : 0 ≤ s0 → pe_X d 183 (37, [some (.inr (.inr M)), some (.inl x1), some (.inl s0), o3], [], pm_h M σ q y) Φ) (k2 : ¬ (0 ≤ s0) → pe_X d 183 (35, [some (.inr (.inr M)), some (.inl x1), some (.inl s0), o3], [], pm_h M σ q y) Φ) : pe_X d 183 (30, [some (.inr (.inr M)), some (.inl x1), o2, o3], [.inl s0], pm_h M σ q y) Φ := by
  refine pe_blk 17 3 ck183 [] (cond (decide (0 ≤ (pe_w s0))) 37 35, [some (.inr (.inr M)), some (.inl x1), some (.inl s0), o3], [], pm_h M σ q y) rfl ?_ ?_
  · exact trivial
  · try simp (disch := omega) only [pe_wi w0]
    exact pe_two k1 k2
theorem b183_35 {d : Nat} {Φ : Option pe_V → pe_H → Prop} {σ : pe_H} {M q : Nat} {y : Nat → Int → Int} (hF : pm_F M σ) {o1 : Option pe_V} {x2 : Int} {o3 : Option pe_V}    (k : Φ (some (.inl x2)) (pm_h M σ q y)) : pe_X d 183 (35, [some (.inr (.inr M)), o1, some (.inl x2), o3], [], pm_h M σ q y) Φ := by
  refine pe_blk 20 1 ck183 [] (36, [some (.inr (.inr M)), o1, some (.inl x2), o3], [.inl x2], pm_h M σ q y) rfl ?_ ?_
  · exact trivial
  · exact pe_fine 21 ck183 rfl rfl rfl trivial k
theorem b183_37 {d : Nat} {Φ : Option pe_V → pe_H → Prop} {σ : pe_H} {M q : Nat} {y : Nat → Int → Int} (hF : pm_F M σ) {x1 : Int} {o2 : Option pe_V} {o3 : Option pe_V}    (k : pe_X d 183 (62, [some (.inr (.inr M)), some (.inl x1), o2, o3], [], pm_h M σ q (pm_u (pm_u (pm_u (pm_u (pm_u y 0 38 x1) 0 39 0) 0 40 0) 0 41 0) 0 47 0)) Φ) : pe_X d 183 (37, [some (.inr (.inr M)), some (.inl x1), o2, o3], [], pm_h M σ q y) Φ := by
  refine pe_blk 22 15 ck183 [pe_K (pm_h M σ q y) M = 9, pe_K (pe_wI (pm_h M σ q y) M 38 x1) M = 9, pe_K (pe_wI (pe_wI (pm_h M σ q y) M 38 x1) M 39 0) M = 9, 0 = 0 ∨ 0 = 1, pe_K (pe_wI (pe_wI (pe_wI (pm_h M σ q y) M 38 x1) M 39 0) M 40 0) M = 9, pe_K (pe_wI (pe_wI (pe_wI (pe_wI (pm_h M σ q y) M 38 x1) M 39 0) M 40 0) M 41 0) M = 9] (62, [some (.inr (.inr M)), some (.inl x1), o2, o3], [], pe_wI (pe_wI (pe_wI (pe_wI (pe_wI (pm_h M σ q y) M 38 x1) M 39 0) M 40 0) M 41 0) M 47 0) rfl ?_ ?_
  · first
    | (simp (disch := omega) only [pe_all, pe_K_wI, pe_K_wR, pm_KM hF, pm_Kh, pm_wI0]; done)
    | (simp (disch := omega) only [pe_all, pe_K_wI, pe_K_wR, pm_KM hF, pm_Kh, pm_wI0]; (repeat' apply And.intro) <;> first | assumption | omega | decide)
  · try simp (disch := omega) only [pe_K_wI, pe_K_wR, pm_KM hF, pm_Kh, pm_wI0]
    exact k
theorem b183_62 {d : Nat} {Φ : Option pe_V → pe_H → Prop} {σ : pe_H} {M q : Nat} {y : Nat → Int → Int} (hF : pm_F M σ) {x1 : Int} {o2 : Option pe_V} {o3 : Option pe_V}  (w0 : pe_in (y 0 40) := by unfold pe_in; omega)  (k1 : ¬ (y 0 40) = 0 → pe_X d 183 (96, [some (.inr (.inr M)), some (.inl x1), o2, o3], [], pm_h M σ q y) Φ) (k2 : (y 0 40) = 0 → pe_X d 183 (69, [some (.inr (.inr M)), some (.inl x1), o2, o3], [], pm_h M σ q y) Φ) : pe_X d 183 (62, [some (.inr (.inr M)), some (.inl x1), o2, o3], [], pm_h M σ q y) Φ := by
  refine pe_blk 37 3 ck183 [pe_K (pm_h M σ q y) M = 9] (cond (decide (¬ (pe_w (pe_I (pm_h M σ q y) M 40)) = 0)) 96 69, [some (.inr (.inr M)), some (.inl x1), o2, o3], [], pm_h M σ q y) rfl ?_ ?_
  · first
    | (simp (disch := omega) only [pe_all, pe_wi w0, pe_I_wR, pe_K_wI, pe_K_wR, pm_I0, pm_KM hF, pm_Kh, pm_uj, pm_uk, pm_us]; done)
    | (simp (disch := omega) only [pe_all, pe_wi w0, pe_I_wR, pe_K_wI, pe_K_wR, pm_I0, pm_KM hF, pm_Kh, pm_uj, pm_uk, pm_us]; (repeat' apply And.intro) <;> first | assumption | omega | decide)
  · try simp (disch := omega) only [pe_wi w0, pe_I_wR, pe_K_wI, pe_K_wR, pm_I0, pm_KM hF, pm_Kh, pm_uj, pm_uk, pm_us]
    exact pe_two' k1 k2
theorem b183_69 {d : Nat} {Φ : Option pe_V → pe_H → Prop} {σ : pe_H} {M q : Nat} {y : Nat → Int → Int} (hF : pm_F M σ) {x1 : Int} {o2 : Option pe_V} {o3 : Option pe_V}  (w0 : pe_in (y 0 41) := by unfold pe_in; omega)  (k1 : (y 0 41) = 0 → pe_X d 183 (89, [some (.inr (.inr M)), some (.inl x1), o2, o3], [], pm_h M σ q y) Φ) (k2 : ¬ ((y 0 41) = 0) → pe_X d 183 (76, [some (.inr (.inr M)), some (.inl x1), o2, o3], [], pm_h M σ q y) Φ) : pe_X d 183 (69, [some (.inr (.inr M)), some (.inl x1), o2, o3], [], pm_h M σ q y) Φ := by
  refine pe_blk 40 3 ck183 [pe_K (pm_h M σ q y) M = 9] (cond (decide ((pe_w (pe_I (pm_h M σ q y) M 41)) = 0)) 89 76, [some (.inr (.inr M)), some (.inl x1), o2, o3], [], pm_h M σ q y) rfl ?_ ?_
  · first
    | (simp (disch := omega) only [pe_all, pe_wi w0, pe_I_wR, pe_K_wI, pe_K_wR, pm_I0, pm_KM hF, pm_Kh, pm_uj, pm_uk, pm_us]; done)
    | (simp (disch := omega) only [pe_all, pe_wi w0, pe_I_wR, pe_K_wI, pe_K_wR, pm_I0, pm_KM hF, pm_Kh, pm_uj, pm_uk, pm_us]; (repeat' apply And.intro) <;> first | assumption | omega | decide)
  · try simp (disch := omega) only [pe_wi w0, pe_I_wR, pe_K_wI, pe_K_wR, pm_I0, pm_KM hF, pm_Kh, pm_uj, pm_uk, pm_us]
    exact pe_two k1 k2
theorem b183_76 {d : Nat} {Φ : Option pe_V → pe_H → Prop} {σ : pe_H} {M q : Nat} {y : Nat → Int → Int} (hF : pm_F M σ) {x1 : Int} {o2 : Option pe_V} {o3 : Option pe_V}  (w0 : pe_in x1 := by unfold pe_in; omega) (w1 : pe_in (y 31 x1) := by unfold pe_in; omega) (w2 : pe_in (y 0 39) := by unfold pe_in; omega) (h0 : 0 ≤ x1 := by first | assumption | omega) (h1 : x1 < 8 := by first | assumption | omega) (k1 : (y 31 x1) ≤ (y 0 39) → pe_X d 183 (96, [some (.inr (.inr M)), some (.inl x1), o2, o3], [], pm_h M σ q y) Φ) (k2 : ¬ ((y 31 x1) ≤ (y 0 39)) → pe_X d 183 (89, [some (.inr (.inr M)), some (.inl x1), o2, o3], [], pm_h M σ q y) Φ) : pe_X d 183 (76, [some (.inr (.inr M)), some (.inl x1), o2, o3], [], pm_h M σ q y) Φ := by
  refine pe_blk 43 7 ck183 [pe_K (pm_h M σ q y) M = 9, pe_K (pm_h M σ q y) M = 9, pe_K (pm_h M σ q y) (pe_R (pm_h M σ q y) M 35) = 10, 0 ≤ (pe_w x1), (pe_w x1) < pe_L (pm_h M σ q y) (pe_R (pm_h M σ q y) M 35)] (cond (decide ((pe_w (pe_I (pm_h M σ q y) (pe_R (pm_h M σ q y) M 35) (pe_w x1))) ≤ (pe_w (pe_I (pm_h M σ q y) M 39)))) 96 89, [some (.inr (.inr M)), some (.inl x1), o2, o3], [], pm_h M σ q y) rfl ?_ ?_
  · first
    | (simp (disch := omega) only [pe_all, pe_wi w0, pe_wi w1, pe_wi w2, pe_I_wR, pe_K_wI, pe_K_wR, pe_L_wI, pe_L_wR, pe_R_nej, pe_R_wI, pm_I0, pm_Ik, pm_K31 hF, pm_KM hF, pm_Kh, pm_L31 hF, pm_Lh, pm_R35 hF, pm_Rh, pm_uj, pm_uk, pm_us]; done)
    | (simp (disch := omega) only [pe_all, pe_wi w0, pe_wi w1, pe_wi w2, pe_I_wR, pe_K_wI, pe_K_wR, pe_L_wI, pe_L_wR, pe_R_nej, pe_R_wI, pm_I0, pm_Ik, pm_K31 hF, pm_KM hF, pm_Kh, pm_L31 hF, pm_Lh, pm_R35 hF, pm_Rh, pm_uj, pm_uk, pm_us]; (repeat' apply And.intro) <;> first | assumption | omega | decide)
  · try simp (disch := omega) only [pe_wi w0, pe_wi w1, pe_wi w2, pe_I_wR, pe_K_wI, pe_K_wR, pe_L_wI, pe_L_wR, pe_R_nej, pe_R_wI, pm_I0, pm_Ik, pm_K31 hF, pm_KM hF, pm_Kh, pm_L31 hF, pm_Lh, pm_R35 hF, pm_Rh, pm_uj, pm_uk, pm_us]
    exact pe_two k1 k2
set_option maxRecDepth 8000 in
theorem b183_89 {d : Nat} {Φ : Option pe_V → pe_H → Prop} {σ : pe_H} {M q : Nat} {y : Nat → Int → Int} (hF : pm_F M σ) {x1 : Int} {o2 : Option pe_V} {o3 : Option pe_V}    (k : pe_M d 177 [.inr (.inr M)] (pm_h M σ q y) (fun r σ' => pe_X d 183 (93, [some (.inr (.inr M)), some (.inl x1), o2, o3], r.toList ++ [], σ') Φ)) : pe_X d 183 (89, [some (.inr (.inr M)), some (.inl x1), o2, o3], [], pm_h M σ q y) Φ := by
  refine pe_blk 50 1 ck183 [] (90, [some (.inr (.inr M)), some (.inl x1), o2, o3], [.inr (.inr M)], pm_h M σ q y) rfl ?_ ?_
  · exact trivial
  · try simp (disch := omega) only [pe_K_wI, pe_K_wR, pm_KM hF, pm_Kh]
    have hrc : pe_K (pm_h M σ q y) M = 9 := by first | assumption | (simp (disch := omega) only [pe_K_wI, pe_K_wR, pm_KM hF, pm_Kh]; done) | (simp (disch := omega) only [pe_K_wI, pe_K_wR, pm_KM hF, pm_Kh]; assumption)
    exact pe_cal 51 ck183 rfl rfl rfl ⟨hrc, by decide⟩ k
set_option maxRecDepth 8000 in
theorem b183_93 {d : Nat} {Φ : Option pe_V → pe_H → Prop} {σ : pe_H} {M q : Nat} {y : Nat → Int → Int} (hF : pm_F M σ) {x1 : Int} {o2 : Option pe_V} {o3 : Option pe_V}    (k : pe_X d 183 (62, [some (.inr (.inr M)), some (.inl x1), o2, o3], [], pm_h M σ q y) Φ) : pe_X d 183 (93, [some (.inr (.inr M)), some (.inl x1), o2, o3], [], pm_h M σ q y) Φ := by
  refine pe_blk 52 1 ck183 [] (62, [some (.inr (.inr M)), some (.inl x1), o2, o3], [], pm_h M σ q y) rfl ?_ ?_
  · exact trivial
  · exact k
set_option maxRecDepth 8000 in
theorem b183_96 {d : Nat} {Φ : Option pe_V → pe_H → Prop} {σ : pe_H} {M q : Nat} {y : Nat → Int → Int} (hF : pm_F M σ) {o1 : Option pe_V} {o2 : Option pe_V} {o3 : Option pe_V}  (w0 : pe_in (y 0 40) := by unfold pe_in; omega)  (k1 : (y 0 40) = 0 → pe_X d 183 (112, [some (.inr (.inr M)), o1, o2, o3], [], pm_h M σ q y) Φ) (k2 : ¬ ((y 0 40) = 0) → pe_X d 183 (103, [some (.inr (.inr M)), o1, o2, o3], [], pm_h M σ q y) Φ) : pe_X d 183 (96, [some (.inr (.inr M)), o1, o2, o3], [], pm_h M σ q y) Φ := by
  refine pe_blk 53 3 ck183 [pe_K (pm_h M σ q y) M = 9] (cond (decide ((pe_w (pe_I (pm_h M σ q y) M 40)) = 0)) 112 103, [some (.inr (.inr M)), o1, o2, o3], [], pm_h M σ q y) rfl ?_ ?_
  · first
    | (simp (disch := omega) only [pe_all, pe_wi w0, pe_I_wR, pe_K_wI, pe_K_wR, pm_I0, pm_KM hF, pm_Kh, pm_uj, pm_uk, pm_us]; done)
    | (simp (disch := omega) only [pe_all, pe_wi w0, pe_I_wR, pe_K_wI, pe_K_wR, pm_I0, pm_KM hF, pm_Kh, pm_uj, pm_uk, pm_us]; (repeat' apply And.intro) <;> first | assumption | omega | decide)
  · try simp (disch := omega) only [pe_wi w0, pe_I_wR, pe_K_wI, pe_K_wR, pm_I0, pm_KM hF, pm_Kh, pm_uj, pm_uk, pm_us]
    exact pe_two k1 k2
set_option maxRecDepth 8000 in
theorem b183_103 {d : Nat} {Φ : Option pe_V → pe_H → Prop} {σ : pe_H} {M q : Nat} {y : Nat → Int → Int} (hF : pm_F M σ) {o1 : Option pe_V} {o2 : Option pe_V} {o3 : Option pe_V}    (k : Φ (some (.inl ((-1000) - (y 0 39)))) (pm_h M σ q y)) : pe_X d 183 (103, [some (.inr (.inr M)), o1, o2, o3], [], pm_h M σ q y) Φ := by
  refine pe_blk 56 4 ck183 [pe_K (pm_h M σ q y) M = 9] (111, [some (.inr (.inr M)), o1, o2, o3], [.inl ((-1000) - (pe_I (pm_h M σ q y) M 39))], pm_h M σ q y) rfl ?_ ?_
  · first
    | (simp (disch := omega) only [pe_all, pe_I_wR, pe_K_wI, pe_K_wR, pm_I0, pm_KM hF, pm_Kh, pm_uj, pm_uk, pm_us]; done)
    | (simp (disch := omega) only [pe_all, pe_I_wR, pe_K_wI, pe_K_wR, pm_I0, pm_KM hF, pm_Kh, pm_uj, pm_uk, pm_us]; (repeat' apply And.intro) <;> first | assumption | omega | decide)
  · try simp (disch := omega) only [pe_I_wR, pe_K_wI, pe_K_wR, pm_I0, pm_KM hF, pm_Kh, pm_uj, pm_uk, pm_us]
    exact pe_fine 60 ck183 rfl rfl rfl trivial k
set_option maxRecDepth 8000 in
theorem b183_112 {d : Nat} {Φ : Option pe_V → pe_H → Prop} {σ : pe_H} {M q : Nat} {y : Nat → Int → Int} (hF : pm_F M σ) {o1 : Option pe_V} {o2 : Option pe_V} {o3 : Option pe_V}    (k : pe_M d 187 [.inr (.inr M)] (pm_h M σ q y) (fun r σ' => pe_X d 183 (116, [some (.inr (.inr M)), o1, o2, o3], r.toList ++ [], σ') Φ)) : pe_X d 183 (112, [some (.inr (.inr M)), o1, o2, o3], [], pm_h M σ q y) Φ := by
  refine pe_blk 61 1 ck183 [] (113, [some (.inr (.inr M)), o1, o2, o3], [.inr (.inr M)], pm_h M σ q y) rfl ?_ ?_
  · exact trivial
  · try simp (disch := omega) only [pe_K_wI, pe_K_wR, pm_KM hF, pm_Kh]
    have hrc : pe_K (pm_h M σ q y) M = 9 := by first | assumption | (simp (disch := omega) only [pe_K_wI, pe_K_wR, pm_KM hF, pm_Kh]; done) | (simp (disch := omega) only [pe_K_wI, pe_K_wR, pm_KM hF, pm_Kh]; assumption)
    exact pe_cal 62 ck183 rfl rfl rfl ⟨hrc, by decide⟩ k
set_option maxRecDepth 8000 in
theorem b183_116 {d : Nat} {Φ : Option pe_V → pe_H → Prop} {σ : pe_H} {M q : Nat} {y : Nat → Int → Int} (hF : pm_F M σ) {o1 : Option pe_V} {o2 : Option pe_V} {o3 : Option pe_V}    (k : pe_X d 183 (118, [some (.inr (.inr M)), o1, pe_nl o2, some (.inl 0)], [], pm_h M σ q y) Φ) : pe_X d 183 (116, [some (.inr (.inr M)), o1, o2, o3], [], pm_h M σ q y) Φ := by
  refine pe_blk 63 2 ck183 [] (118, [some (.inr (.inr M)), o1, pe_nl o2, some (.inl 0)], [], pm_h M σ q y) rfl ?_ ?_
  · exact trivial
  · exact k
set_option maxRecDepth 8000 in
theorem b183_118 {d : Nat} {Φ : Option pe_V → pe_H → Prop} {σ : pe_H} {M q : Nat} {y : Nat → Int → Int} (hF : pm_F M σ) {o1 : Option pe_V} {o2 : Option pe_V} {x3 : Int}  (w0 : pe_in (y 0 41) := by unfold pe_in; omega) (w1 : pe_in x3 := by unfold pe_in; omega)  (k1 : (y 0 41) ≤ x3 → pe_X d 183 (155, [some (.inr (.inr M)), o1, o2, some (.inl x3)], [], pm_h M σ q y) Φ) (k2 : ¬ ((y 0 41) ≤ x3) → pe_X d 183 (126, [some (.inr (.inr M)), o1, o2, some (.inl x3)], [], pm_h M σ q y) Φ) : pe_X d 183 (118, [some (.inr (.inr M)), o1, o2, some (.inl x3)], [], pm_h M σ q y) Φ := by
  refine pe_blk 65 4 ck183 [pe_K (pm_h M σ q y) M = 9] (cond (decide ((pe_w (pe_I (pm_h M σ q y) M 41)) ≤ (pe_w x3))) 155 126, [some (.inr (.inr M)), o1, o2, some (.inl x3)], [], pm_h M σ q y) rfl ?_ ?_
  · first
    | (simp (disch := omega) only [pe_all, pe_wi w0, pe_wi w1, pe_I_wR, pe_K_wI, pe_K_wR, pm_I0, pm_KM hF, pm_Kh, pm_uj, pm_uk, pm_us]; done)
    | (simp (disch := omega) only [pe_all, pe_wi w0, pe_wi w1, pe_I_wR, pe_K_wI, pe_K_wR, pm_I0, pm_KM hF, pm_Kh, pm_uj, pm_uk, pm_us]; (repeat' apply And.intro) <;> first | assumption | omega | decide)
  · try simp (disch := omega) only [pe_wi w0, pe_wi w1, pe_I_wR, pe_K_wI, pe_K_wR, pm_I0, pm_KM hF, pm_Kh, pm_uj, pm_uk, pm_us]
    exact pe_two k1 k2
set_option maxRecDepth 8000 in
theorem b183_126 {d : Nat} {Φ : Option pe_V → pe_H → Prop} {σ : pe_H} {M q : Nat} {y : Nat → Int → Int} (hF : pm_F M σ) {o1 : Option pe_V} {o2 : Option pe_V} {x3 : Int}    (k : pe_M d 182 [.inr (.inr M), .inl x3] (pm_h M σ q y) (fun r σ' => pe_X d 183 (131, [some (.inr (.inr M)), o1, o2, some (.inl x3)], r.toList ++ [], σ') Φ)) : pe_X d 183 (126, [some (.inr (.inr M)), o1, o2, some (.inl x3)], [], pm_h M σ q y) Φ := by
  refine pe_blk 69 2 ck183 [] (128, [some (.inr (.inr M)), o1, o2, some (.inl x3)], [.inl x3, .inr (.inr M)], pm_h M σ q y) rfl ?_ ?_
  · exact trivial
  · try simp (disch := omega) only [pe_K_wI, pe_K_wR, pm_KM hF, pm_Kh]
    have hrc : pe_K (pm_h M σ q y) M = 9 := by first | assumption | (simp (disch := omega) only [pe_K_wI, pe_K_wR, pm_KM hF, pm_Kh]; done) | (simp (disch := omega) only [pe_K_wI, pe_K_wR, pm_KM hF, pm_Kh]; assumption)
    exact pe_cal 71 ck183 rfl rfl rfl ⟨hrc, by decide⟩ k
set_option maxRecDepth 8000 in
theorem b183_131 {d : Nat} {Φ : Option pe_V → pe_H → Prop} {σ : pe_H} {M q : Nat} {y : Nat → Int → Int} (hF : pm_F M σ) {o1 : Option pe_V} {o2 : Option pe_V} {x3 : Int} {s0 : Int}  (w0 : pe_in s0 := by unfold pe_in; omega)  (k1 : ¬ s0 = 0 → pe_X d 183 (149, [some (.inr (.inr M)), o1, o2, some (.inl x3)], [], pm_h M σ q y) Φ) (k2 : s0 = 0 → pe_X d 183 (134, [some (.inr (.inr M)), o1, o2, some (.inl x3)], [], pm_h M σ q y) Φ) : pe_X d 183 (131, [some (.inr (.inr M)), o1, o2, some (.inl x3)], [.inl s0], pm_h M σ q y) Φ := by
  refine pe_blk 72 1 ck183 [] (cond (decide (¬ (pe_w s0) = 0)) 149 134, [some (.inr (.inr M)), o1, o2, some (.inl x3)], [], pm_h M σ q y) rfl ?_ ?_
  · exact trivial
  · try simp (disch := omega) only [pe_wi w0]
    exact pe_two' k1 k2
set_option maxRecDepth 8000 in
theorem b183_134 {d : Nat} {Φ : Option pe_V → pe_H → Prop} {σ : pe_H} {M q : Nat} {y : Nat → Int → Int} (hF : pm_F M σ) {o1 : Option pe_V} {o2 : Option pe_V} {x3 : Int}    (k : pe_M d 188 [.inr (.inr M)] (pm_h M σ q y) (fun r σ' => pe_X d 183 (138, [some (.inr (.inr M)), o1, o2, some (.inl x3)], r.toList ++ [], σ') Φ)) : pe_X d 183 (134, [some (.inr (.inr M)), o1, o2, some (.inl x3)], [], pm_h M σ q y) Φ := by
  refine pe_blk 73 1 ck183 [] (135, [some (.inr (.inr M)), o1, o2, some (.inl x3)], [.inr (.inr M)], pm_h M σ q y) rfl ?_ ?_
  · exact trivial
  · try simp (disch := omega) only [pe_K_wI, pe_K_wR, pm_KM hF, pm_Kh]
    have hrc : pe_K (pm_h M σ q y) M = 9 := by first | assumption | (simp (disch := omega) only [pe_K_wI, pe_K_wR, pm_KM hF, pm_Kh]; done) | (simp (disch := omega) only [pe_K_wI, pe_K_wR, pm_KM hF, pm_Kh]; assumption)
    exact pe_cal 74 ck183 rfl rfl rfl ⟨hrc, by decide⟩ k
set_option maxRecDepth 8000 in
theorem b183_138 {d : Nat} {Φ : Option pe_V → pe_H → Prop} {σ : pe_H} {M q : Nat} {y : Nat → Int → Int} (hF : pm_F M σ) {o1 : Option pe_V} {o2 : Option pe_V} {x3 : Int}  (w0 : pe_in x3 := by unfold pe_in; omega) (h0 : 0 ≤ x3 := by first | assumption | omega) (h1 : x3 < 51 := by first | assumption | omega) (k : Φ (some (.inl ((-2000) - (y 33 x3)))) (pm_h M σ q y)) : pe_X d 183 (138, [some (.inr (.inr M)), o1, o2, some (.inl x3)], [], pm_h M σ q y) Φ := by
  refine pe_blk 75 6 ck183 [pe_K (pm_h M σ q y) M = 9, pe_K (pm_h M σ q y) (pe_R (pm_h M σ q y) M 42) = 10, 0 ≤ (pe_w x3), (pe_w x3) < pe_L (pm_h M σ q y) (pe_R (pm_h M σ q y) M 42)] (148, [some (.inr (.inr M)), o1, o2, some (.inl x3)], [.inl ((-2000) - (pe_I (pm_h M σ q y) (pe_R (pm_h M σ q y) M 42) (pe_w x3)))], pm_h M σ q y) rfl ?_ ?_
  · first
    | (simp (disch := omega) only [pe_all, pe_wi w0, pe_I_wR, pe_K_wI, pe_K_wR, pe_L_wI, pe_L_wR, pe_R_nej, pe_R_wI, pm_Ik, pm_K33 hF, pm_KM hF, pm_Kh, pm_L33 hF, pm_Lh, pm_R42 hF, pm_Rh, pm_uj, pm_uk, pm_us]; done)
    | (simp (disch := omega) only [pe_all, pe_wi w0, pe_I_wR, pe_K_wI, pe_K_wR, pe_L_wI, pe_L_wR, pe_R_nej, pe_R_wI, pm_Ik, pm_K33 hF, pm_KM hF, pm_Kh, pm_L33 hF, pm_Lh, pm_R42 hF, pm_Rh, pm_uj, pm_uk, pm_us]; (repeat' apply And.intro) <;> first | assumption | omega | decide)
  · try simp (disch := omega) only [pe_wi w0, pe_I_wR, pe_K_wI, pe_K_wR, pe_L_wI, pe_L_wR, pe_R_nej, pe_R_wI, pm_Ik, pm_K33 hF, pm_KM hF, pm_Kh, pm_L33 hF, pm_Lh, pm_R42 hF, pm_Rh, pm_uj, pm_uk, pm_us]
    exact pe_fine 81 ck183 rfl rfl rfl trivial k
set_option maxRecDepth 8000 in
theorem b183_149 {d : Nat} {Φ : Option pe_V → pe_H → Prop} {σ : pe_H} {M q : Nat} {y : Nat → Int → Int} (hF : pm_F M σ) {o1 : Option pe_V} {o2 : Option pe_V} {x3 : Int}    (k : pe_X d 183 (118, [some (.inr (.inr M)), o1, pe_nl o2, some (.inl (x3 + 1))], [], pm_h M σ q y) Φ) : pe_X d 183 (149, [some (.inr (.inr M)), o1, o2, some (.inl x3)], [], pm_h M σ q y) Φ := by
  refine pe_blk 82 2 ck183 [] (118, [some (.inr (.inr M)), o1, pe_nl o2, some (.inl (x3 + 1))], [], pm_h M σ q y) rfl ?_ ?_
  · exact trivial
  · exact k
set_option maxRecDepth 8000 in
theorem b183_155 {d : Nat} {Φ : Option pe_V → pe_H → Prop} {σ : pe_H} {M q : Nat} {y : Nat → Int → Int} (hF : pm_F M σ) {o1 : Option pe_V} {o2 : Option pe_V} {o3 : Option pe_V}    (k : Φ (some (.inl (y 0 41))) (pm_h M σ q y)) : pe_X d 183 (155, [some (.inr (.inr M)), o1, o2, o3], [], pm_h M σ q y) Φ := by
  refine pe_blk 84 2 ck183 [pe_K (pm_h M σ q y) M = 9] (159, [some (.inr (.inr M)), o1, o2, o3], [.inl (pe_I (pm_h M σ q y) M 41)], pm_h M σ q y) rfl ?_ ?_
  · first
    | (simp (disch := omega) only [pe_all, pe_I_wR, pe_K_wI, pe_K_wR, pm_I0, pm_KM hF, pm_Kh, pm_uj, pm_uk, pm_us]; done)
    | (simp (disch := omega) only [pe_all, pe_I_wR, pe_K_wI, pe_K_wR, pm_I0, pm_KM hF, pm_Kh, pm_uj, pm_uk, pm_us]; (repeat' apply And.intro) <;> first | assumption | omega | decide)
  · try simp (disch := omega) only [pe_I_wR, pe_K_wI, pe_K_wR, pm_I0, pm_KM hF, pm_Kh, pm_uj, pm_uk, pm_us]
    exact pe_fine 86 ck183 rfl rfl rfl trivial k
-- StepMachinesModel.carry(I)I
def T184 : List (Nat × Instr × Nat) := [(0, .aload_n 0, 1), (1, .getfield 347, 3), (4, .ifCond .eq 13, 3), (7, .aload_n 0, 1), (8, .getfield 350, 3), (11, .aload_n 0, 1), (12, .getfield 353, 3), (15, .iload_n 1, 1), (16, .iastore, 1), (17, .aload_n 0, 1), (18, .dup, 1), (19, .getfield 353, 3), (22, .iconst 1, 1), (23, .iadd, 1), (24, .putfield 353, 3), (27, .aload_n 0, 1), (28, .getfield 350, 3), (31, .aload_n 0, 1), (32, .getfield 353, 3), (35, .iconst 1, 1), (36, .isub, 1), (37, .iaload, 1), (38, .ireturn, 1)]
theorem ck184 : pe_ctx 184 9 false (some .int) 2 T184 := ⟨rfl, rfl, rfl, rfl, by decide +kernel, by decide, by decide⟩
theorem b184_0 {d : Nat} {Φ : Option pe_V → pe_H → Prop} {σ : pe_H} {M kq : Nat} {y : Nat → Int → Int} (hF : pm_F M σ) (hk : kq ≤ 42) (hk1 : 1 ≤ kq) (hKq : pe_K σ (M + kq) = 10) (hLq : pe_L σ (M + kq) = 3200) {x1 : Int}  (w0 : pe_in (y 0 52) := by unfold pe_in; omega)  (k1 : (y 0 52) = 0 → pe_X d 184 (17, [some (.inr (.inr M)), some (.inl x1)], [], pm_h M σ (M + kq) y) Φ) (k2 : ¬ ((y 0 52) = 0) → pe_X d 184 (7, [some (.inr (.inr M)), some (.inl x1)], [], pm_h M σ (M + kq) y) Φ) : pe_X d 184 (0, [some (.inr (.inr M)), some (.inl x1)], [], pm_h M σ (M + kq) y) Φ := by
  refine pe_blk 0 3 ck184 [pe_K (pm_h M σ (M + kq) y) M = 9] (cond (decide ((pe_w (pe_I (pm_h M σ (M + kq) y) M 52)) = 0)) 17 7, [some (.inr (.inr M)), some (.inl x1)], [], pm_h M σ (M + kq) y) rfl ?_ ?_
  · first
    | (simp (disch := omega) only [pe_all, pe_wi w0, pe_I_wR, pe_K_wI, pe_K_wR, pm_I0, pm_KM hF, pm_Kh, pm_uj, pm_uk, pm_us]; done)
    | (simp (disch := omega) only [pe_all, pe_wi w0, pe_I_wR, pe_K_wI, pe_K_wR, pm_I0, pm_KM hF, pm_Kh, pm_uj, pm_uk, pm_us]; (repeat' apply And.intro) <;> first | assumption | omega | decide)
  · try simp (disch := omega) only [pe_wi w0, pe_I_wR, pe_K_wI, pe_K_wR, pm_I0, pm_KM hF, pm_Kh, pm_uj, pm_uk, pm_us]
    exact pe_two k1 k2
theorem b184_7 {d : Nat} {Φ : Option pe_V → pe_H → Prop} {σ : pe_H} {M kq : Nat} {y : Nat → Int → Int} (hF : pm_F M σ) (hk : kq ≤ 42) (hk1 : 1 ≤ kq) (hKq : pe_K σ (M + kq) = 10) (hLq : pe_L σ (M + kq) = 3200) {x1 : Int}  (w0 : pe_in (y 0 51) := by unfold pe_in; omega) (h0 : 0 ≤ (y 0 51) := by first | assumption | omega) (h1 : (y 0 51) < 3200 := by first | assumption | omega) (k : pe_X d 184 (17, [some (.inr (.inr M)), some (.inl x1)], [], pm_h M σ (M + kq) (pm_u y kq (y 0 51) x1)) Φ) : pe_X d 184 (7, [some (.inr (.inr M)), some (.inl x1)], [], pm_h M σ (M + kq) y) Φ := by
  have hM2 := pm_2 hF
  refine pe_blk 3 6 ck184 [pe_K (pm_h M σ (M + kq) y) M = 9, pe_K (pm_h M σ (M + kq) y) M = 9, pe_K (pm_h M σ (M + kq) y) (pe_R (pm_h M σ (M + kq) y) M 53) = 10, 0 ≤ (pe_w (pe_I (pm_h M σ (M + kq) y) M 51)), (pe_w (pe_I (pm_h M σ (M + kq) y) M 51)) < pe_L (pm_h M σ (M + kq) y) (pe_R (pm_h M σ (M + kq) y) M 53), 2 ≤ (pe_R (pm_h M σ (M + kq) y) M 53)] (17, [some (.inr (.inr M)), some (.inl x1)], [], pe_wI (pm_h M σ (M + kq) y) (pe_R (pm_h M σ (M + kq) y) M 53) (pe_w (pe_I (pm_h M σ (M + kq) y) M 51)) x1) rfl ?_ ?_
  · first
    | (simp (disch := omega) only [pe_all, pe_wi w0, hKq, hLq, pe_I_wR, pe_K_wI, pe_K_wR, pe_L_wI, pe_L_wR, pe_R_same, pe_R_wI, pm_I0, pm_KM hF, pm_Kh, pm_Lh, pm_R53, pm_uj, pm_uk, pm_us, pm_wIk, pm_wIk hk]; done)
    | (simp (disch := omega) only [pe_all, pe_wi w0, hKq, hLq, pe_I_wR, pe_K_wI, pe_K_wR, pe_L_wI, pe_L_wR, pe_R_same, pe_R_wI, pm_I0, pm_KM hF, pm_Kh, pm_Lh, pm_R53, pm_uj, pm_uk, pm_us, pm_wIk, pm_wIk hk]; (repeat' apply And.intro) <;> first | assumption | omega | decide)
  · try simp (disch := omega) only [pe_wi w0, hKq, hLq, pe_I_wR, pe_K_wI, pe_K_wR, pe_L_wI, pe_L_wR, pe_R_same, pe_R_wI, pm_I0, pm_KM hF, pm_Kh, pm_Lh, pm_R53, pm_uj, pm_uk, pm_us, pm_wIk, pm_wIk hk]
    exact k
theorem b184_17 {d : Nat} {Φ : Option pe_V → pe_H → Prop} {σ : pe_H} {M kq : Nat} {y : Nat → Int → Int} (hF : pm_F M σ) (hk : kq ≤ 42) (hk1 : 1 ≤ kq) (hKq : pe_K σ (M + kq) = 10) (hLq : pe_L σ (M + kq) = 3200) {o1 : Option pe_V}  (w0 : pe_in (((y 0 51) + 1) - 1) := by unfold pe_in; omega) (h0 : 0 ≤ (((y 0 51) + 1) - 1) := by first | assumption | omega) (h1 : (((y 0 51) + 1) - 1) < 3200 := by first | assumption | omega) (k : Φ (some (.inl (y kq (((y 0 51) + 1) - 1)))) (pm_h M σ (M + kq) (pm_u y 0 51 ((y 0 51) + 1)))) : pe_X d 184 (17, [some (.inr (.inr M)), o1], [], pm_h M σ (M + kq) y) Φ := by
  refine pe_blk 9 13 ck184 [pe_K (pm_h M σ (M + kq) y) M = 9, pe_K (pm_h M σ (M + kq) y) M = 9, pe_K (pe_wI (pm_h M σ (M + kq) y) M 51 ((pe_I (pm_h M σ (M + kq) y) M 51) + 1)) M = 9, pe_K (pe_wI (pm_h M σ (M + kq) y) M 51 ((pe_I (pm_h M σ (M + kq) y) M 51) + 1)) M = 9, pe_K (pe_wI (pm_h M σ (M + kq) y) M 51 ((pe_I (pm_h M σ (M + kq) y) M 51) + 1)) (pe_R (pe_wI (pm_h M σ (M + kq) y) M 51 ((pe_I (pm_h M σ (M + kq) y) M 51) + 1)) M 53) = 10, 0 ≤ (pe_w ((pe_I (pe_wI (pm_h M σ (M + kq) y) M 51 ((pe_I (pm_h M σ (M + kq) y) M 51) + 1)) M 51) - 1)), (pe_w ((pe_I (pe_wI (pm_h M σ (M + kq) y) M 51 ((pe_I (pm_h M σ (M + kq) y) M 51) + 1)) M 51) - 1)) < pe_L (pe_wI (pm_h M σ (M + kq) y) M 51 ((pe_I (pm_h M σ (M + kq) y) M 51) + 1)) (pe_R (pe_wI (pm_h M σ (M + kq) y) M 51 ((pe_I (pm_h M σ (M + kq) y) M 51) + 1)) M 53)] (38, [some (.inr (.inr M)), o1], [.inl (pe_I (pe_wI (pm_h M σ (M + kq) y) M 51 ((pe_I (pm_h M σ (M + kq) y) M 51) + 1)) (pe_R (pe_wI (pm_h M σ (M + kq) y) M 51 ((pe_I (pm_h M σ (M + kq) y) M 51) + 1)) M 53) (pe_w ((pe_I (pe_wI (pm_h M σ (M + kq) y) M 51 ((pe_I (pm_h M σ (M + kq) y) M 51) + 1)) M 51) - 1)))], pe_wI (pm_h M σ (M + kq) y) M 51 ((pe_I (pm_h M σ (M + kq) y) M 51) + 1)) rfl ?_ ?_
  · first
    | (simp (disch := omega) only [pe_all, pe_wi w0, hKq, hLq, pe_I_wR, pe_K_wI, pe_K_wR, pe_L_wI, pe_L_wR, pe_R_same, pe_R_wI, pm_I0, pm_Ik, pm_Ik hk, pm_KM hF, pm_Kh, pm_Lh, pm_R53, pm_uj, pm_uk, pm_us, pm_wI0]; done)
    | (simp (disch := omega) only [pe_all, pe_wi w0, hKq, hLq, pe_I_wR, pe_K_wI, pe_K_wR, pe_L_wI, pe_L_wR, pe_R_same, pe_R_wI, pm_I0, pm_Ik, pm_Ik hk, pm_KM hF, pm_Kh, pm_Lh, pm_R53, pm_uj, pm_uk, pm_us, pm_wI0]; (repeat' apply And.intro) <;> first | assumption | omega | decide)
  · try simp (disch := omega) only [pe_wi w0, hKq, hLq, pe_I_wR, pe_K_wI, pe_K_wR, pe_L_wI, pe_L_wR, pe_R_same, pe_R_wI, pm_I0, pm_Ik, pm_Ik hk, pm_KM hF, pm_Kh, pm_Lh, pm_R53, pm_uj, pm_uk, pm_us, pm_wI0]
    exact pe_fine 22 ck184 rfl rfl rfl trivial k
-- StepMachinesModel.carryFrames()V
def T185 : List (Nat × Instr × Nat) := [(0, .iconst 0, 1), (1, .istore_n 1, 1), (2, .iload_n 1, 1), (3, .bipush 48, 2), (5, .if_icmp .ge 121, 3), (8, .aload_n 0, 1), (9, .getfield 52, 3), (12, .iload_n 1, 1), (13, .aload_n 0, 1), (14, .aload_n 0, 1), (15, .getfield 52, 3), (18, .iload_n 1, 1), (19, .iaload, 1), (20, .invokevirtual 356, 3), (23, .iastore, 1), (24, .aload_n 0, 1), (25, .getfield 55, 3), (28, .iload_n 1, 1), (29, .aload_n 0, 1), (30, .aload_n 0, 1), (31, .getfield 55, 3), (34, .iload_n 1, 1), (35, .iaload, 1), (36, .invokevirtual 356, 3), (39, .iastore, 1), (40, .aload_n 0, 1), (41, .getfield 58, 3), (44, .iload_n 1, 1), (45, .aload_n 0, 1), (46, .aload_n 0, 1), (47, .getfield 58, 3), (50, .iload_n 1, 1), (51, .iaload, 1), (52, .invokevirtual 356, 3), (55, .iastore, 1), (56, .aload_n 0, 1), (57, .getfield 61, 3), (60, .iload_n 1, 1), (61, .aload_n 0, 1), (62, .aload_n 0, 1), (63, .getfield 61, 3), (66, .iload_n 1, 1), (67, .iaload, 1), (68, .invokevirtual 356, 3), (71, .iastore, 1), (72, .aload_n 0, 1), (73, .getfield 64, 3), (76, .iload_n 1, 1), (77, .aload_n 0, 1), (78, .aload_n 0, 1), (79, .getfield 64, 3), (82, .iload_n 1, 1), (83, .iaload, 1), (84, .invokevirtual 356, 3), (87, .iastore, 1), (88, .aload_n 0, 1), (89, .getfield 67, 3), (92, .iload_n 1, 1), (93, .aload_n 0, 1), (94, .aload_n 0, 1), (95, .getfield 67, 3), (98, .iload_n 1, 1), (99, .iaload, 1), (100, .invokevirtual 356, 3), (103, .iastore, 1), (104, .aload_n 0, 1), (105, .getfield 85, 3), (108, .iload_n 1, 1), (109, .aload_n 0, 1), (110, .aload_n 0, 1), (111, .getfield 85, 3), (114, .iload_n 1, 1), (115, .iaload, 1), (116, .invokevirtual 356, 3), (119, .iastore, 1), (120, .iinc 1 1, 3), (123, .goto (-121), 3), (126, .iconst 0, 1), (127, .istore_n 1, 1), (128, .iload_n 1, 1), (129, .sipush 768, 3), (132, .if_icmp .ge 41, 3), (135, .aload_n 0, 1), (136, .getfield 70, 3), (139, .iload_n 1, 1), (140, .aload_n 0, 1), (141, .aload_n 0, 1), (142, .getfield 70, 3), (145, .iload_n 1, 1), (146, .iaload, 1), (147, .invokevirtual 356, 3), (150, .iastore, 1), (151, .aload_n 0, 1), (152, .getfield 73, 3), (155, .iload_n 1, 1), (156, .aload_n 0, 1), (157, .aload_n 0, 1), (158, .getfield 73, 3), (161, .iload_n 1, 1), (162, .iaload, 1), (163, .invokevirtual 356, 3), (166, .iastore, 1), (167, .iinc 1 1, 3), (170, .goto (-42), 3), (173, .iconst 0, 1), (174, .istore_n 1, 1), (175, .iload_n 1, 1), (176, .sipush 600, 3), (179, .if_icmp .ge 25, 3), (182, .aload_n 0, 1), (183, .getfield 79, 3), (186, .iload_n 1, 1), (187, .aload_n 0, 1), (188, .aload_n 0, 1), (189, .getfield 79, 3), (192, .iload_n 1, 1), (193, .iaload, 1), (194, .invokevirtual 356, 3), (197, .iastore, 1), (198, .iinc 1 1, 3), (201, .goto (-26), 3), (204, .return_, 1)]
theorem ck185 : pe_ctx 185 9 false none 2 T185 := ⟨rfl, rfl, rfl, rfl, by decide +kernel, by decide, by decide⟩
theorem b185_0 {d : Nat} {Φ : Option pe_V → pe_H → Prop} {σ : pe_H} {M q : Nat} {y : Nat → Int → Int} (hF : pm_F M σ) {o1 : Option pe_V}    (k : pe_X d 185 (2, [some (.inr (.inr M)), some (.inl 0)], [], pm_h M σ q y) Φ) : pe_X d 185 (0, [some (.inr (.inr M)), o1], [], pm_h M σ q y) Φ := by
  refine pe_blk 0 2 ck185 [] (2, [some (.inr (.inr M)), some (.inl 0)], [], pm_h M σ q y) rfl ?_ ?_
  · exact trivial
  · exact k
theorem b185_2 {d : Nat} {Φ : Option pe_V → pe_H → Prop} {σ : pe_H} {M q : Nat} {y : Nat → Int → Int} (hF : pm_F M σ) {x1 : Int}  (w0 : pe_in x1 := by unfold pe_in; omega)  (k1 : 48 ≤ x1 → pe_X d 185 (126, [some (.inr (.inr M)), some (.inl x1)], [], pm_h M σ q y) Φ) (k2 : ¬ (48 ≤ x1) → pe_X d 185 (8, [some (.inr (.inr M)), some (.inl x1)], [], pm_h M σ q y) Φ) : pe_X d 185 (2, [some (.inr (.inr M)), some (.inl x1)], [], pm_h M σ q y) Φ := by
  refine pe_blk 2 3 ck185 [] (cond (decide ((pe_w 48) ≤ (pe_w x1))) 126 8, [some (.inr (.inr M)), some (.inl x1)], [], pm_h M σ q y) rfl ?_ ?_
  · exact trivial
  · try simp (disch := omega) only [pe_wi w0, pe_wi (x := 48) ⟨by decide, by decide⟩]
    exact pe_two k1 k2
theorem b185_8 {d : Nat} {Φ : Option pe_V → pe_H → Prop} {σ : pe_H} {M q : Nat} {y : Nat → Int → Int} (hF : pm_F M σ) {x1 : Int}  (w0 : pe_in x1 := by unfold pe_in; omega) (h0 : 0 ≤ x1 := by first | assumption | omega) (h1 : x1 < 48 := by first | assumption | omega) (k : pe_M d 184 [.inr (.inr M), .inl (y 15 x1)] (pm_h M σ q y) (fun r σ' => pe_X d 185 (23, [some (.inr (.inr M)), some (.inl x1)], r.toList ++ [.inl x1, .inr (.inr (M + 15))], σ') Φ)) : pe_X d 185 (8, [some (.inr (.inr M)), some (.inl x1)], [], pm_h M σ q y) Φ := by
  refine pe_blk 5 8 ck185 [pe_K (pm_h M σ q y) M = 9, pe_K (pm_h M σ q y) M = 9, pe_K (pm_h M σ q y) (pe_R (pm_h M σ q y) M 15) = 10, 0 ≤ (pe_w x1), (pe_w x1) < pe_L (pm_h M σ q y) (pe_R (pm_h M σ q y) M 15)] (20, [some (.inr (.inr M)), some (.inl x1)], [.inl (pe_I (pm_h M σ q y) (pe_R (pm_h M σ q y) M 15) (pe_w x1)), .inr (.inr M), .inl x1, .inr (.inr (pe_R (pm_h M σ q y) M 15))], pm_h M σ q y) rfl ?_ ?_
  · first
    | (simp (disch := omega) only [pe_all, pe_wi w0, pe_I_wR, pe_K_wI, pe_K_wR, pe_L_wI, pe_L_wR, pe_R_nej, pe_R_wI, pm_Ik, pm_K15 hF, pm_KM hF, pm_Kh, pm_L15 hF, pm_Lh, pm_R15 hF, pm_Rh, pm_uj, pm_uk, pm_us]; done)
    | (simp (disch := omega) only [pe_all, pe_wi w0, pe_I_wR, pe_K_wI, pe_K_wR, pe_L_wI, pe_L_wR, pe_R_nej, pe_R_wI, pm_Ik, pm_K15 hF, pm_KM hF, pm_Kh, pm_L15 hF, pm_Lh, pm_R15 hF, pm_Rh, pm_uj, pm_uk, pm_us]; (repeat' apply And.intro) <;> first | assumption | omega | decide)
  · try simp (disch := omega) only [pe_wi w0, pe_I_wR, pe_K_wI, pe_K_wR, pe_L_wI, pe_L_wR, pe_R_nej, pe_R_wI, pm_Ik, pm_K15 hF, pm_KM hF, pm_Kh, pm_L15 hF, pm_Lh, pm_R15 hF, pm_Rh, pm_uj, pm_uk, pm_us]
    have hrc : pe_K (pm_h M σ q y) M = 9 := by first | assumption | (simp (disch := omega) only [pe_wi w0, pe_I_wR, pe_K_wI, pe_K_wR, pe_L_wI, pe_L_wR, pe_R_nej, pe_R_wI, pm_Ik, pm_K15 hF, pm_KM hF, pm_Kh, pm_L15 hF, pm_Lh, pm_R15 hF, pm_Rh, pm_uj, pm_uk, pm_us]; done) | (simp (disch := omega) only [pe_wi w0, pe_I_wR, pe_K_wI, pe_K_wR, pe_L_wI, pe_L_wR, pe_R_nej, pe_R_wI, pm_Ik, pm_K15 hF, pm_KM hF, pm_Kh, pm_L15 hF, pm_Lh, pm_R15 hF, pm_Rh, pm_uj, pm_uk, pm_us]; assumption)
    exact pe_cal 13 ck185 rfl rfl rfl ⟨hrc, by decide⟩ k
theorem b185_23 {d : Nat} {Φ : Option pe_V → pe_H → Prop} {σ : pe_H} {M q : Nat} {y : Nat → Int → Int} (hF : pm_F M σ) {x1 : Int} {s1 : Int} {s2 : Int}  (w0 : pe_in s1 := by unfold pe_in; omega) (w1 : pe_in x1 := by unfold pe_in; omega) (h0 : 0 ≤ s1 := by first | assumption | omega) (h1 : s1 < 48 := by first | assumption | omega) (h2 : 0 ≤ x1 := by first | assumption | omega) (h3 : x1 < 48 := by first | assumption | omega) (k : pe_M d 184 [.inr (.inr M), .inl (y 16 x1)] (pm_h M σ q (pm_u y 15 s1 s2)) (fun r σ' => pe_X d 185 (39, [some (.inr (.inr M)), some (.inl x1)], r.toList ++ [.inl x1, .inr (.inr (M + 16))], σ') Φ)) : pe_X d 185 (23, [some (.inr (.inr M)), some (.inl x1)], [.inl s2, .inl s1, .inr (.inr (M + 15))], pm_h M σ q y) Φ := by
  have hM2 := pm_2 hF
  refine pe_blk 14 9 ck185 [pe_K (pm_h M σ q y) (M + 15) = 10, 0 ≤ (pe_w s1), (pe_w s1) < pe_L (pm_h M σ q y) (M + 15), 2 ≤ (M + 15), pe_K (pe_wI (pm_h M σ q y) (M + 15) (pe_w s1) s2) M = 9, pe_K (pe_wI (pm_h M σ q y) (M + 15) (pe_w s1) s2) M = 9, pe_K (pe_wI (pm_h M σ q y) (M + 15) (pe_w s1) s2) (pe_R (pe_wI (pm_h M σ q y) (M + 15) (pe_w s1) s2) M 16) = 10, 0 ≤ (pe_w x1), (pe_w x1) < pe_L (pe_wI (pm_h M σ q y) (M + 15) (pe_w s1) s2) (pe_R (pe_wI (pm_h M σ q y) (M + 15) (pe_w s1) s2) M 16)] (36, [some (.inr (.inr M)), some (.inl x1)], [.inl (pe_I (pe_wI (pm_h M σ q y) (M + 15) (pe_w s1) s2) (pe_R (pe_wI (pm_h M σ q y) (M + 15) (pe_w s1) s2) M 16) (pe_w x1)), .inr (.inr M), .inl x1, .inr (.inr (pe_R (pe_wI (pm_h M σ q y) (M + 15) (pe_w s1) s2) M 16))], pe_wI (pm_h M σ q y) (M + 15) (pe_w s1) s2) rfl ?_ ?_
  · first
    | (simp (disch := omega) only [pe_all, pe_wi w0, pe_wi w1, pe_I_wR, pe_K_wI, pe_K_wR, pe_L_wI, pe_L_wR, pe_R_nej, pe_R_wI, pm_Ik, pm_K15 hF, pm_K16 hF, pm_KM hF, pm_Kh, pm_L15 hF, pm_L16 hF, pm_Lh, pm_R16 hF, pm_Rh, pm_uj, pm_uk, pm_us, pm_wIk]; done)
    | (simp (disch := omega) only [pe_all, pe_wi w0, pe_wi w1, pe_I_wR, pe_K_wI, pe_K_wR, pe_L_wI, pe_L_wR, pe_R_nej, pe_R_wI, pm_Ik, pm_K15 hF, pm_K16 hF, pm_KM hF, pm_Kh, pm_L15 hF, pm_L16 hF, pm_Lh, pm_R16 hF, pm_Rh, pm_uj, pm_uk, pm_us, pm_wIk]; (repeat' apply And.intro) <;> first | assumption | omega | decide)
  · try simp (disch := omega) only [pe_wi w0, pe_wi w1, pe_I_wR, pe_K_wI, pe_K_wR, pe_L_wI, pe_L_wR, pe_R_nej, pe_R_wI, pm_Ik, pm_K15 hF, pm_K16 hF, pm_KM hF, pm_Kh, pm_L15 hF, pm_L16 hF, pm_Lh, pm_R16 hF, pm_Rh, pm_uj, pm_uk, pm_us, pm_wIk]
    have hrc : pe_K (pm_h M σ q (pm_u y 15 s1 s2)) M = 9 := by first | assumption | (simp (disch := omega) only [pe_wi w0, pe_wi w1, pe_I_wR, pe_K_wI, pe_K_wR, pe_L_wI, pe_L_wR, pe_R_nej, pe_R_wI, pm_Ik, pm_K15 hF, pm_K16 hF, pm_KM hF, pm_Kh, pm_L15 hF, pm_L16 hF, pm_Lh, pm_R16 hF, pm_Rh, pm_uj, pm_uk, pm_us, pm_wIk]; done) | (simp (disch := omega) only [pe_wi w0, pe_wi w1, pe_I_wR, pe_K_wI, pe_K_wR, pe_L_wI, pe_L_wR, pe_R_nej, pe_R_wI, pm_Ik, pm_K15 hF, pm_K16 hF, pm_KM hF, pm_Kh, pm_L15 hF, pm_L16 hF, pm_Lh, pm_R16 hF, pm_Rh, pm_uj, pm_uk, pm_us, pm_wIk]; assumption)
    exact pe_cal 23 ck185 rfl rfl rfl ⟨hrc, by decide⟩ k
theorem b185_39 {d : Nat} {Φ : Option pe_V → pe_H → Prop} {σ : pe_H} {M q : Nat} {y : Nat → Int → Int} (hF : pm_F M σ) {x1 : Int} {s1 : Int} {s2 : Int}  (w0 : pe_in s1 := by unfold pe_in; omega) (w1 : pe_in x1 := by unfold pe_in; omega) (h0 : 0 ≤ s1 := by first | assumption | omega) (h1 : s1 < 48 := by first | assumption | omega) (h2 : 0 ≤ x1 := by first | assumption | omega) (h3 : x1 < 48 := by first | assumption | omega) (k : pe_M d 184 [.inr (.inr M), .inl (y 17 x1)] (pm_h M σ q (pm_u y 16 s1 s2)) (fun r σ' => pe_X d 185 (55, [some (.inr (.inr M)), some (.inl x1)], r.toList ++ [.inl x1, .inr (.inr (M + 17))], σ') Φ)) : pe_X d 185 (39, [some (.inr (.inr M)), some (.inl x1)], [.inl s2, .inl s1, .inr (.inr (M + 16))], pm_h M σ q y) Φ := by
  have hM2 := pm_2 hF
  refine pe_blk 24 9 ck185 [pe_K (pm_h M σ q y) (M + 16) = 10, 0 ≤ (pe_w s1), (pe_w s1) < pe_L (pm_h M σ q y) (M + 16), 2 ≤ (M + 16), pe_K (pe_wI (pm_h M σ q y) (M + 16) (pe_w s1) s2) M = 9, pe_K (pe_wI (pm_h M σ q y) (M + 16) (pe_w s1) s2) M = 9, pe_K (pe_wI (pm_h M σ q y) (M + 16) (pe_w s1) s2) (pe_R (pe_wI (pm_h M σ q y) (M + 16) (pe_w s1) s2) M 17) = 10, 0 ≤ (pe_w x1), (pe_w x1) < pe_L (pe_wI (pm_h M σ q y) (M + 16) (pe_w s1) s2) (pe_R (pe_wI (pm_h M σ q y) (M + 16) (pe_w s1) s2) M 17)] (52, [some (.inr (.inr M)), some (.inl x1)], [.inl (pe_I (pe_wI (pm_h M σ q y) (M + 16) (pe_w s1) s2) (pe_R (pe_wI (pm_h M σ q y) (M + 16) (pe_w s1) s2) M 17) (pe_w x1)), .inr (.inr M), .inl x1, .inr (.inr (pe_R (pe_wI (pm_h M σ q y) (M + 16) (pe_w s1) s2) M 17))], pe_wI (pm_h M σ q y) (M + 16) (pe_w s1) s2) rfl ?_ ?_
  · first
    | (simp (disch := omega) only [pe_all, pe_wi w0, pe_wi w1, pe_I_wR, pe_K_wI, pe_K_wR, pe_L_wI, pe_L_wR, pe_R_nej, pe_R_wI, pm_Ik, pm_K16 hF, pm_K17 hF, pm_KM hF, pm_Kh, pm_L16 hF, pm_L17 hF, pm_Lh, pm_R17 hF, pm_Rh, pm_uj, pm_uk, pm_us, pm_wIk]; done)
    | (simp (disch := omega) only [pe_all, pe_wi w0, pe_wi w1, pe_I_wR, pe_K_wI, pe_K_wR, pe_L_wI, pe_L_wR, pe_R_nej, pe_R_wI, pm_Ik, pm_K16 hF, pm_K17 hF, pm_KM hF, pm_Kh, pm_L16 hF, pm_L17 hF, pm_Lh, pm_R17 hF, pm_Rh, pm_uj, pm_uk, pm_us, pm_wIk]; (repeat' apply And.intro) <;> first | assumption | omega | decide)
  · try simp (disch := omega) only [pe_wi w0, pe_wi w1, pe_I_wR, pe_K_wI, pe_K_wR, pe_L_wI, pe_L_wR, pe_R_nej, pe_R_wI, pm_Ik, pm_K16 hF, pm_K17 hF, pm_KM hF, pm_Kh, pm_L16 hF, pm_L17 hF, pm_Lh, pm_R17 hF, pm_Rh, pm_uj, pm_uk, pm_us, pm_wIk]
    have hrc : pe_K (pm_h M σ q (pm_u y 16 s1 s2)) M = 9 := by first | assumption | (simp (disch := omega) only [pe_wi w0, pe_wi w1, pe_I_wR, pe_K_wI, pe_K_wR, pe_L_wI, pe_L_wR, pe_R_nej, pe_R_wI, pm_Ik, pm_K16 hF, pm_K17 hF, pm_KM hF, pm_Kh, pm_L16 hF, pm_L17 hF, pm_Lh, pm_R17 hF, pm_Rh, pm_uj, pm_uk, pm_us, pm_wIk]; done) | (simp (disch := omega) only [pe_wi w0, pe_wi w1, pe_I_wR, pe_K_wI, pe_K_wR, pe_L_wI, pe_L_wR, pe_R_nej, pe_R_wI, pm_Ik, pm_K16 hF, pm_K17 hF, pm_KM hF, pm_Kh, pm_L16 hF, pm_L17 hF, pm_Lh, pm_R17 hF, pm_Rh, pm_uj, pm_uk, pm_us, pm_wIk]; assumption)
    exact pe_cal 33 ck185 rfl rfl rfl ⟨hrc, by decide⟩ k
theorem b185_55 {d : Nat} {Φ : Option pe_V → pe_H → Prop} {σ : pe_H} {M q : Nat} {y : Nat → Int → Int} (hF : pm_F M σ) {x1 : Int} {s1 : Int} {s2 : Int}  (w0 : pe_in s1 := by unfold pe_in; omega) (w1 : pe_in x1 := by unfold pe_in; omega) (h0 : 0 ≤ s1 := by first | assumption | omega) (h1 : s1 < 48 := by first | assumption | omega) (h2 : 0 ≤ x1 := by first | assumption | omega) (h3 : x1 < 48 := by first | assumption | omega) (k : pe_M d 184 [.inr (.inr M), .inl (y 18 x1)] (pm_h M σ q (pm_u y 17 s1 s2)) (fun r σ' => pe_X d 185 (71, [some (.inr (.inr M)), some (.inl x1)], r.toList ++ [.inl x1, .inr (.inr (M + 18))], σ') Φ)) : pe_X d 185 (55, [some (.inr (.inr M)), some (.inl x1)], [.inl s2, .inl s1, .inr (.inr (M + 17))], pm_h M σ q y) Φ := by
  have hM2 := pm_2 hF
  refine pe_blk 34 9 ck185 [pe_K (pm_h M σ q y) (M + 17) = 10, 0 ≤ (pe_w s1), (pe_w s1) < pe_L (pm_h M σ q y) (M + 17), 2 ≤ (M + 17), pe_K (pe_wI (pm_h M σ q y) (M + 17) (pe_w s1) s2) M = 9, pe_K (pe_wI (pm_h M σ q y) (M + 17) (pe_w s1) s2) M = 9, pe_K (pe_wI (pm_h M σ q y) (M + 17) (pe_w s1) s2) (pe_R (pe_wI (pm_h M σ q y) (M + 17) (pe_w s1) s2) M 18) = 10, 0 ≤ (pe_w x1), (pe_w x1) < pe_L (pe_wI (pm_h M σ q y) (M + 17) (pe_w s1) s2) (pe_R (pe_wI (pm_h M σ q y) (M + 17) (pe_w s1) s2) M 18)] (68, [some (.inr (.inr M)), some (.inl x1)], [.inl (pe_I (pe_wI (pm_h M σ q y) (M + 17) (pe_w s1) s2) (pe_R (pe_wI (pm_h M σ q y) (M + 17) (pe_w s1) s2) M 18) (pe_w x1)), .inr (.inr M), .inl x1, .inr (.inr (pe_R (pe_wI (pm_h M σ q y) (M + 17) (pe_w s1) s2) M 18))], pe_wI (pm_h M σ q y) (M + 17) (pe_w s1) s2) rfl ?_ ?_
  · first
    | (simp (disch := omega) only [pe_all, pe_wi w0, pe_wi w1, pe_I_wR, pe_K_wI, pe_K_wR, pe_L_wI, pe_L_wR, pe_R_nej, pe_R_wI, pm_Ik, pm_K17 hF, pm_K18 hF, pm_KM hF, pm_Kh, pm_L17 hF, pm_L18 hF, pm_Lh, pm_R18 hF, pm_Rh, pm_uj, pm_uk, pm_us, pm_wIk]; done)
    | (simp (disch := omega) only [pe_all, pe_wi w0, pe_wi w1, pe_I_wR, pe_K_wI, pe_K_wR, pe_L_wI, pe_L_wR, pe_R_nej, pe_R_wI, pm_Ik, pm_K17 hF, pm_K18 hF, pm_KM hF, pm_Kh, pm_L17 hF, pm_L18 hF, pm_Lh, pm_R18 hF, pm_Rh, pm_uj, pm_uk, pm_us, pm_wIk]; (repeat' apply And.intro) <;> first | assumption | omega | decide)
  · try simp (disch := omega) only [pe_wi w0, pe_wi w1, pe_I_wR, pe_K_wI, pe_K_wR, pe_L_wI, pe_L_wR, pe_R_nej, pe_R_wI, pm_Ik, pm_K17 hF, pm_K18 hF, pm_KM hF, pm_Kh, pm_L17 hF, pm_L18 hF, pm_Lh, pm_R18 hF, pm_Rh, pm_uj, pm_uk, pm_us, pm_wIk]
    have hrc : pe_K (pm_h M σ q (pm_u y 17 s1 s2)) M = 9 := by first | assumption | (simp (disch := omega) only [pe_wi w0, pe_wi w1, pe_I_wR, pe_K_wI, pe_K_wR, pe_L_wI, pe_L_wR, pe_R_nej, pe_R_wI, pm_Ik, pm_K17 hF, pm_K18 hF, pm_KM hF, pm_Kh, pm_L17 hF, pm_L18 hF, pm_Lh, pm_R18 hF, pm_Rh, pm_uj, pm_uk, pm_us, pm_wIk]; done) | (simp (disch := omega) only [pe_wi w0, pe_wi w1, pe_I_wR, pe_K_wI, pe_K_wR, pe_L_wI, pe_L_wR, pe_R_nej, pe_R_wI, pm_Ik, pm_K17 hF, pm_K18 hF, pm_KM hF, pm_Kh, pm_L17 hF, pm_L18 hF, pm_Lh, pm_R18 hF, pm_Rh, pm_uj, pm_uk, pm_us, pm_wIk]; assumption)
    exact pe_cal 43 ck185 rfl rfl rfl ⟨hrc, by decide⟩ k
set_option maxRecDepth 8000 in
theorem b185_71 {d : Nat} {Φ : Option pe_V → pe_H → Prop} {σ : pe_H} {M q : Nat} {y : Nat → Int → Int} (hF : pm_F M σ) {x1 : Int} {s1 : Int} {s2 : Int}  (w0 : pe_in s1 := by unfold pe_in; omega) (w1 : pe_in x1 := by unfold pe_in; omega) (h0 : 0 ≤ s1 := by first | assumption | omega) (h1 : s1 < 48 := by first | assumption | omega) (h2 : 0 ≤ x1 := by first | assumption | omega) (h3 : x1 < 48 := by first | assumption | omega) (k : pe_M d 184 [.inr (.inr M), .inl (y 19 x1)] (pm_h M σ q (pm_u y 18 s1 s2)) (fun r σ' => pe_X d 185 (87, [some (.inr (.inr M)), some (.inl x1)], r.toList ++ [.inl x1, .inr (.inr (M + 19))], σ') Φ)) : pe_X d 185 (71, [some (.inr (.inr M)), some (.inl x1)], [.inl s2, .inl s1, .inr (.inr (M + 18))], pm_h M σ q y) Φ := by
  have hM2 := pm_2 hF
  refine pe_blk 44 9 ck185 [pe_K (pm_h M σ q y) (M + 18) = 10, 0 ≤ (pe_w s1), (pe_w s1) < pe_L (pm_h M σ q y) (M + 18), 2 ≤ (M + 18), pe_K (pe_wI (pm_h M σ q y) (M + 18) (pe_w s1) s2) M = 9, pe_K (pe_wI (pm_h M σ q y) (M + 18) (pe_w s1) s2) M = 9, pe_K (pe_wI (pm_h M σ q y) (M + 18) (pe_w s1) s2) (pe_R (pe_wI (pm_h M σ q y) (M + 18) (pe_w s1) s2) M 19) = 10, 0 ≤ (pe_w x1), (pe_w x1) < pe_L (pe_wI (pm_h M σ q y) (M + 18) (pe_w s1) s2) (pe_R (pe_wI (pm_h M σ q y) (M + 18) (pe_w s1) s2) M 19)] (84, [some (.inr (.inr M)), some (.inl x1)], [.inl (pe_I (pe_wI (pm_h M σ q y) (M + 18) (pe_w s1) s2) (pe_R (pe_wI (pm_h M σ q y) (M + 18) (pe_w s1) s2) M 19) (pe_w x1)), .inr (.inr M), .inl x1, .inr (.inr (pe_R (pe_wI (pm_h M σ q y) (M + 18) (pe_w s1) s2) M 19))], pe_wI (pm_h M σ q y) (M + 18) (pe_w s1) s2) rfl ?_ ?_
  · first
    | (simp (disch := omega) only [pe_all, pe_wi w0, pe_wi w1, pe_I_wR, pe_K_wI, pe_K_wR, pe_L_wI, pe_L_wR, pe_R_nej, pe_R_wI, pm_Ik, pm_K18 hF, pm_K19 hF, pm_KM hF, pm_Kh, pm_L18 hF, pm_L19 hF, pm_Lh, pm_R19 hF, pm_Rh, pm_uj, pm_uk, pm_us, pm_wIk]; done)
    | (simp (disch := omega) only [pe_all, pe_wi w0, pe_wi w1, pe_I_wR, pe_K_wI, pe_K_wR, pe_L_wI, pe_L_wR, pe_R_nej, pe_R_wI, pm_Ik, pm_K18 hF, pm_K19 hF, pm_KM hF, pm_Kh, pm_L18 hF, pm_L19 hF, pm_Lh, pm_R19 hF, pm_Rh, pm_uj, pm_uk, pm_us, pm_wIk]; (repeat' apply And.intro) <;> first | assumption | omega | decide)
  · try simp (disch := omega) only [pe_wi w0, pe_wi w1, pe_I_wR, pe_K_wI, pe_K_wR, pe_L_wI, pe_L_wR, pe_R_nej, pe_R_wI, pm_Ik, pm_K18 hF, pm_K19 hF, pm_KM hF, pm_Kh, pm_L18 hF, pm_L19 hF, pm_Lh, pm_R19 hF, pm_Rh, pm_uj, pm_uk, pm_us, pm_wIk]
    have hrc : pe_K (pm_h M σ q (pm_u y 18 s1 s2)) M = 9 := by first | assumption | (simp (disch := omega) only [pe_wi w0, pe_wi w1, pe_I_wR, pe_K_wI, pe_K_wR, pe_L_wI, pe_L_wR, pe_R_nej, pe_R_wI, pm_Ik, pm_K18 hF, pm_K19 hF, pm_KM hF, pm_Kh, pm_L18 hF, pm_L19 hF, pm_Lh, pm_R19 hF, pm_Rh, pm_uj, pm_uk, pm_us, pm_wIk]; done) | (simp (disch := omega) only [pe_wi w0, pe_wi w1, pe_I_wR, pe_K_wI, pe_K_wR, pe_L_wI, pe_L_wR, pe_R_nej, pe_R_wI, pm_Ik, pm_K18 hF, pm_K19 hF, pm_KM hF, pm_Kh, pm_L18 hF, pm_L19 hF, pm_Lh, pm_R19 hF, pm_Rh, pm_uj, pm_uk, pm_us, pm_wIk]; assumption)
    exact pe_cal 53 ck185 rfl rfl rfl ⟨hrc, by decide⟩ k
set_option maxRecDepth 8000 in
theorem b185_87 {d : Nat} {Φ : Option pe_V → pe_H → Prop} {σ : pe_H} {M q : Nat} {y : Nat → Int → Int} (hF : pm_F M σ) {x1 : Int} {s1 : Int} {s2 : Int}  (w0 : pe_in s1 := by unfold pe_in; omega) (w1 : pe_in x1 := by unfold pe_in; omega) (h0 : 0 ≤ s1 := by first | assumption | omega) (h1 : s1 < 48 := by first | assumption | omega) (h2 : 0 ≤ x1 := by first | assumption | omega) (h3 : x1 < 48 := by first | assumption | omega) (k : pe_M d 184 [.inr (.inr M), .inl (y 20 x1)] (pm_h M σ q (pm_u y 19 s1 s2)) (fun r σ' => pe_X d 185 (103, [some (.inr (.inr M)), some (.inl x1)], r.toList ++ [.inl x1, .inr (.inr (M + 20))], σ') Φ)) : pe_X d 185 (87, [some (.inr (.inr M)), some (.inl x1)], [.inl s2, .inl s1, .inr (.inr (M + 19))], pm_h M σ q y) Φ := by
  have hM2 := pm_2 hF
  refine pe_blk 54 9 ck185 [pe_K (pm_h M σ q y) (M + 19) = 10, 0 ≤ (pe_w s1), (pe_w s1) < pe_L (pm_h M σ q y) (M + 19), 2 ≤ (M + 19), pe_K (pe_wI (pm_h M σ q y) (M + 19) (pe_w s1) s2) M = 9, pe_K (pe_wI (pm_h M σ q y) (M + 19) (pe_w s1) s2) M = 9, pe_K (pe_wI (pm_h M σ q y) (M + 19) (pe_w s1) s2) (pe_R (pe_wI (pm_h M σ q y) (M + 19) (pe_w s1) s2) M 20) = 10, 0 ≤ (pe_w x1), (pe_w x1) < pe_L (pe_wI (pm_h M σ q y) (M + 19) (pe_w s1) s2) (pe_R (pe_wI (pm_h M σ q y) (M + 19) (pe_w s1) s2) M 20)] (100, [some (.inr (.inr M)), some (.inl x1)], [.inl (pe_I (pe_wI (pm_h M σ q y) (M + 19) (pe_w s1) s2) (pe_R (pe_wI (pm_h M σ q y) (M + 19) (pe_w s1) s2) M 20) (pe_w x1)), .inr (.inr M), .inl x1, .inr (.inr (pe_R (pe_wI (pm_h M σ q y) (M + 19) (pe_w s1) s2) M 20))], pe_wI (pm_h M σ q y) (M + 19) (pe_w s1) s2) rfl ?_ ?_
  · first
    | (simp (disch := omega) only [pe_all, pe_wi w0, pe_wi w1, pe_I_wR, pe_K_wI, pe_K_wR, pe_L_wI, pe_L_wR, pe_R_nej, pe_R_wI, pm_Ik, pm_K19 hF, pm_K20 hF, pm_KM hF, pm_Kh, pm_L19 hF, pm_L20 hF, pm_Lh, pm_R20 hF, pm_Rh, pm_uj, pm_uk, pm_us, pm_wIk]; done)
    | (simp (disch := omega) only [pe_all, pe_wi w0, pe_wi w1, pe_I_wR, pe_K_wI, pe_K_wR, pe_L_wI, pe_L_wR, pe_R_nej, pe_R_wI, pm_Ik, pm_K19 hF, pm_K20 hF, pm_KM hF, pm_Kh, pm_L19 hF, pm_L20 hF, pm_Lh, pm_R20 hF, pm_Rh, pm_uj, pm_uk, pm_us, pm_wIk]; (repeat' apply And.intro) <;> first | assumption | omega | decide)
  · try simp (disch := omega) only [pe_wi w0, pe_wi w1, pe_I_wR, pe_K_wI, pe_K_wR, pe_L_wI, pe_L_wR, pe_R_nej, pe_R_wI, pm_Ik, pm_K19 hF, pm_K20 hF, pm_KM hF, pm_Kh, pm_L19 hF, pm_L20 hF, pm_Lh, pm_R20 hF, pm_Rh, pm_uj, pm_uk, pm_us, pm_wIk]
    have hrc : pe_K (pm_h M σ q (pm_u y 19 s1 s2)) M = 9 := by first | assumption | (simp (disch := omega) only [pe_wi w0, pe_wi w1, pe_I_wR, pe_K_wI, pe_K_wR, pe_L_wI, pe_L_wR, pe_R_nej, pe_R_wI, pm_Ik, pm_K19 hF, pm_K20 hF, pm_KM hF, pm_Kh, pm_L19 hF, pm_L20 hF, pm_Lh, pm_R20 hF, pm_Rh, pm_uj, pm_uk, pm_us, pm_wIk]; done) | (simp (disch := omega) only [pe_wi w0, pe_wi w1, pe_I_wR, pe_K_wI, pe_K_wR, pe_L_wI, pe_L_wR, pe_R_nej, pe_R_wI, pm_Ik, pm_K19 hF, pm_K20 hF, pm_KM hF, pm_Kh, pm_L19 hF, pm_L20 hF, pm_Lh, pm_R20 hF, pm_Rh, pm_uj, pm_uk, pm_us, pm_wIk]; assumption)
    exact pe_cal 63 ck185 rfl rfl rfl ⟨hrc, by decide⟩ k
set_option maxRecDepth 8000 in
theorem b185_103 {d : Nat} {Φ : Option pe_V → pe_H → Prop} {σ : pe_H} {M q : Nat} {y : Nat → Int → Int} (hF : pm_F M σ) {x1 : Int} {s1 : Int} {s2 : Int}  (w0 : pe_in s1 := by unfold pe_in; omega) (w1 : pe_in x1 := by unfold pe_in; omega) (h0 : 0 ≤ s1 := by first | assumption | omega) (h1 : s1 < 48 := by first | assumption | omega) (h2 : 0 ≤ x1 := by first | assumption | omega) (h3 : x1 < 48 := by first | assumption | omega) (k : pe_M d 184 [.inr (.inr M), .inl (y 26 x1)] (pm_h M σ q (pm_u y 20 s1 s2)) (fun r σ' => pe_X d 185 (119, [some (.inr (.inr M)), some (.inl x1)], r.toList ++ [.inl x1, .inr (.inr (M + 26))], σ') Φ)) : pe_X d 185 (103, [some (.inr (.inr M)), some (.inl x1)], [.inl s2, .inl s1, .inr (.inr (M + 20))], pm_h M σ q y) Φ := by
  have hM2 := pm_2 hF
  refine pe_blk 64 9 ck185 [pe_K (pm_h M σ q y) (M + 20) = 10, 0 ≤ (pe_w s1), (pe_w s1) < pe_L (pm_h M σ q y) (M + 20), 2 ≤ (M + 20), pe_K (pe_wI (pm_h M σ q y) (M + 20) (pe_w s1) s2) M = 9, pe_K (pe_wI (pm_h M σ q y) (M + 20) (pe_w s1) s2) M = 9, pe_K (pe_wI (pm_h M σ q y) (M + 20) (pe_w s1) s2) (pe_R (pe_wI (pm_h M σ q y) (M + 20) (pe_w s1) s2) M 27) = 10, 0 ≤ (pe_w x1), (pe_w x1) < pe_L (pe_wI (pm_h M σ q y) (M + 20) (pe_w s1) s2) (pe_R (pe_wI (pm_h M σ q y) (M + 20) (pe_w s1) s2) M 27)] (116, [some (.inr (.inr M)), some (.inl x1)], [.inl (pe_I (pe_wI (pm_h M σ q y) (M + 20) (pe_w s1) s2) (pe_R (pe_wI (pm_h M σ q y) (M + 20) (pe_w s1) s2) M 27) (pe_w x1)), .inr (.inr M), .inl x1, .inr (.inr (pe_R (pe_wI (pm_h M σ q y) (M + 20) (pe_w s1) s2) M 27))], pe_wI (pm_h M σ q y) (M + 20) (pe_w s1) s2) rfl ?_ ?_
  · first
    | (simp (disch := omega) only [pe_all, pe_wi w0, pe_wi w1, pe_I_wR, pe_K_wI, pe_K_wR, pe_L_wI, pe_L_wR, pe_R_nej, pe_R_wI, pm_Ik, pm_K20 hF, pm_K26 hF, pm_KM hF, pm_Kh, pm_L20 hF, pm_L26 hF, pm_Lh, pm_R27 hF, pm_Rh, pm_uj, pm_uk, pm_us, pm_wIk]; done)
    | (simp (disch := omega) only [pe_all, pe_wi w0, pe_wi w1, pe_I_wR, pe_K_wI, pe_K_wR, pe_L_wI, pe_L_wR, pe_R_nej, pe_R_wI, pm_Ik, pm_K20 hF, pm_K26 hF, pm_KM hF, pm_Kh, pm_L20 hF, pm_L26 hF, pm_Lh, pm_R27 hF, pm_Rh, pm_uj, pm_uk, pm_us, pm_wIk]; (repeat' apply And.intro) <;> first | assumption | omega | decide)
  · try simp (disch := omega) only [pe_wi w0, pe_wi w1, pe_I_wR, pe_K_wI, pe_K_wR, pe_L_wI, pe_L_wR, pe_R_nej, pe_R_wI, pm_Ik, pm_K20 hF, pm_K26 hF, pm_KM hF, pm_Kh, pm_L20 hF, pm_L26 hF, pm_Lh, pm_R27 hF, pm_Rh, pm_uj, pm_uk, pm_us, pm_wIk]
    have hrc : pe_K (pm_h M σ q (pm_u y 20 s1 s2)) M = 9 := by first | assumption | (simp (disch := omega) only [pe_wi w0, pe_wi w1, pe_I_wR, pe_K_wI, pe_K_wR, pe_L_wI, pe_L_wR, pe_R_nej, pe_R_wI, pm_Ik, pm_K20 hF, pm_K26 hF, pm_KM hF, pm_Kh, pm_L20 hF, pm_L26 hF, pm_Lh, pm_R27 hF, pm_Rh, pm_uj, pm_uk, pm_us, pm_wIk]; done) | (simp (disch := omega) only [pe_wi w0, pe_wi w1, pe_I_wR, pe_K_wI, pe_K_wR, pe_L_wI, pe_L_wR, pe_R_nej, pe_R_wI, pm_Ik, pm_K20 hF, pm_K26 hF, pm_KM hF, pm_Kh, pm_L20 hF, pm_L26 hF, pm_Lh, pm_R27 hF, pm_Rh, pm_uj, pm_uk, pm_us, pm_wIk]; assumption)
    exact pe_cal 73 ck185 rfl rfl rfl ⟨hrc, by decide⟩ k
set_option maxRecDepth 8000 in
theorem b185_119 {d : Nat} {Φ : Option pe_V → pe_H → Prop} {σ : pe_H} {M q : Nat} {y : Nat → Int → Int} (hF : pm_F M σ) {x1 : Int} {s1 : Int} {s2 : Int}  (w0 : pe_in s1 := by unfold pe_in; omega) (h0 : 0 ≤ s1 := by first | assumption | omega) (h1 : s1 < 48 := by first | assumption | omega) (k : pe_X d 185 (2, [some (.inr (.inr M)), some (.inl (x1 + 1))], [], pm_h M σ q (pm_u y 26 s1 s2)) Φ) : pe_X d 185 (119, [some (.inr (.inr M)), some (.inl x1)], [.inl s2, .inl s1, .inr (.inr (M + 26))], pm_h M σ q y) Φ := by
  have hM2 := pm_2 hF
  refine pe_blk 74 3 ck185 [pe_K (pm_h M σ q y) (M + 26) = 10, 0 ≤ (pe_w s1), (pe_w s1) < pe_L (pm_h M σ q y) (M + 26), 2 ≤ (M + 26)] (2, [some (.inr (.inr M)), some (.inl (x1 + 1))], [], pe_wI (pm_h M σ q y) (M + 26) (pe_w s1) s2) rfl ?_ ?_
  · first
    | (simp (disch := omega) only [pe_all, pe_wi w0, pe_K_wI, pe_K_wR, pe_L_wI, pe_L_wR, pm_K26 hF, pm_Kh, pm_L26 hF, pm_Lh, pm_wIk]; done)
    | (simp (disch := omega) only [pe_all, pe_wi w0, pe_K_wI, pe_K_wR, pe_L_wI, pe_L_wR, pm_K26 hF, pm_Kh, pm_L26 hF, pm_Lh, pm_wIk]; (repeat' apply And.intro) <;> first | assumption | omega | decide)
  · try simp (disch := omega) only [pe_wi w0, pe_K_wI, pe_K_wR, pe_L_wI, pe_L_wR, pm_K26 hF, pm_Kh, pm_L26 hF, pm_Lh, pm_wIk]
    exact k
set_option maxRecDepth 8000 in
theorem b185_126 {d : Nat} {Φ : Option pe_V → pe_H → Prop} {σ : pe_H} {M q : Nat} {y : Nat → Int → Int} (hF : pm_F M σ) {o1 : Option pe_V}    (k : pe_X d 185 (128, [some (.inr (.inr M)), some (.inl 0)], [], pm_h M σ q y) Φ) : pe_X d 185 (126, [some (.inr (.inr M)), o1], [], pm_h M σ q y) Φ := by
  refine pe_blk 77 2 ck185 [] (128, [some (.inr (.inr M)), some (.inl 0)], [], pm_h M σ q y) rfl ?_ ?_
  · exact trivial
  · exact k
set_option maxRecDepth 8000 in
theorem b185_128 {d : Nat} {Φ : Option pe_V → pe_H → Prop} {σ : pe_H} {M q : Nat} {y : Nat → Int → Int} (hF : pm_F M σ) {x1 : Int}  (w0 : pe_in x1 := by unfold pe_in; omega)  (k1 : 768 ≤ x1 → pe_X d 185 (173, [some (.inr (.inr M)), some (.inl x1)], [], pm_h M σ q y) Φ) (k2 : ¬ (768 ≤ x1) → pe_X d 185 (135, [some (.inr (.inr M)), some (.inl x1)], [], pm_h M σ q y) Φ) : pe_X d 185 (128, [some (.inr (.inr M)), some (.inl x1)], [], pm_h M σ q y) Φ := by
  refine pe_blk 79 3 ck185 [] (cond (decide ((pe_w 768) ≤ (pe_w x1))) 173 135, [some (.inr (.inr M)), some (.inl x1)], [], pm_h M σ q y) rfl ?_ ?_
  · exact trivial
  · try simp (disch := omega) only [pe_wi w0, pe_wi (x := 768) ⟨by decide, by decide⟩]
    exact pe_two k1 k2
set_option maxRecDepth 8000 in
theorem b185_135 {d : Nat} {Φ : Option pe_V → pe_H → Prop} {σ : pe_H} {M q : Nat} {y : Nat → Int → Int} (hF : pm_F M σ) {x1 : Int}  (w0 : pe_in x1 := by unfold pe_in; omega) (h0 : 0 ≤ x1 := by first | assumption | omega) (h1 : x1 < 768 := by first | assumption | omega) (k : pe_M d 184 [.inr (.inr M), .inl (y 21 x1)] (pm_h M σ q y) (fun r σ' => pe_X d 185 (150, [some (.inr (.inr M)), some (.inl x1)], r.toList ++ [.inl x1, .inr (.inr (M + 21))], σ') Φ)) : pe_X d 185 (135, [some (.inr (.inr M)), some (.inl x1)], [], pm_h M σ q y) Φ := by
  refine pe_blk 82 8 ck185 [pe_K (pm_h M σ q y) M = 9, pe_K (pm_h M σ q y) M = 9, pe_K (pm_h M σ q y) (pe_R (pm_h M σ q y) M 21) = 10, 0 ≤ (pe_w x1), (pe_w x1) < pe_L (pm_h M σ q y) (pe_R (pm_h M σ q y) M 21)] (147, [some (.inr (.inr M)), some (.inl x1)], [.inl (pe_I (pm_h M σ q y) (pe_R (pm_h M σ q y) M 21) (pe_w x1)), .inr (.inr M), .inl x1, .inr (.inr (pe_R (pm_h M σ q y) M 21))], pm_h M σ q y) rfl ?_ ?_
  · first
    | (simp (disch := omega) only [pe_all, pe_wi w0, pe_I_wR, pe_K_wI, pe_K_wR, pe_L_wI, pe_L_wR, pe_R_nej, pe_R_wI, pm_Ik, pm_K21 hF, pm_KM hF, pm_Kh, pm_L21 hF, pm_Lh, pm_R21 hF, pm_Rh, pm_uj, pm_uk, pm_us]; done)
    | (simp (disch := omega) only [pe_all, pe_wi w0, pe_I_wR, pe_K_wI, pe_K_wR, pe_L_wI, pe_L_wR, pe_R_nej, pe_R_wI, pm_Ik, pm_K21 hF, pm_KM hF, pm_Kh, pm_L21 hF, pm_Lh, pm_R21 hF, pm_Rh, pm_uj, pm_uk, pm_us]; (repeat' apply And.intro) <;> first | assumption | omega | decide)
  · try simp (disch := omega) only [pe_wi w0, pe_I_wR, pe_K_wI, pe_K_wR, pe_L_wI, pe_L_wR, pe_R_nej, pe_R_wI, pm_Ik, pm_K21 hF, pm_KM hF, pm_Kh, pm_L21 hF, pm_Lh, pm_R21 hF, pm_Rh, pm_uj, pm_uk, pm_us]
    have hrc : pe_K (pm_h M σ q y) M = 9 := by first | assumption | (simp (disch := omega) only [pe_wi w0, pe_I_wR, pe_K_wI, pe_K_wR, pe_L_wI, pe_L_wR, pe_R_nej, pe_R_wI, pm_Ik, pm_K21 hF, pm_KM hF, pm_Kh, pm_L21 hF, pm_Lh, pm_R21 hF, pm_Rh, pm_uj, pm_uk, pm_us]; done) | (simp (disch := omega) only [pe_wi w0, pe_I_wR, pe_K_wI, pe_K_wR, pe_L_wI, pe_L_wR, pe_R_nej, pe_R_wI, pm_Ik, pm_K21 hF, pm_KM hF, pm_Kh, pm_L21 hF, pm_Lh, pm_R21 hF, pm_Rh, pm_uj, pm_uk, pm_us]; assumption)
    exact pe_cal 90 ck185 rfl rfl rfl ⟨hrc, by decide⟩ k
set_option maxRecDepth 8000 in
theorem b185_150 {d : Nat} {Φ : Option pe_V → pe_H → Prop} {σ : pe_H} {M q : Nat} {y : Nat → Int → Int} (hF : pm_F M σ) {x1 : Int} {s1 : Int} {s2 : Int}  (w0 : pe_in s1 := by unfold pe_in; omega) (w1 : pe_in x1 := by unfold pe_in; omega) (h0 : 0 ≤ s1 := by first | assumption | omega) (h1 : s1 < 768 := by first | assumption | omega) (h2 : 0 ≤ x1 := by first | assumption | omega) (h3 : x1 < 768 := by first | assumption | omega) (k : pe_M d 184 [.inr (.inr M), .inl (y 22 x1)] (pm_h M σ q (pm_u y 21 s1 s2)) (fun r σ' => pe_X d 185 (166, [some (.inr (.inr M)), some (.inl x1)], r.toList ++ [.inl x1, .inr (.inr (M + 22))], σ') Φ)) : pe_X d 185 (150, [some (.inr (.inr M)), some (.inl x1)], [.inl s2, .inl s1, .inr (.inr (M + 21))], pm_h M σ q y) Φ := by
  have hM2 := pm_2 hF
  refine pe_blk 91 9 ck185 [pe_K (pm_h M σ q y) (M + 21) = 10, 0 ≤ (pe_w s1), (pe_w s1) < pe_L (pm_h M σ q y) (M + 21), 2 ≤ (M + 21), pe_K (pe_wI (pm_h M σ q y) (M + 21) (pe_w s1) s2) M = 9, pe_K (pe_wI (pm_h M σ q y) (M + 21) (pe_w s1) s2) M = 9, pe_K (pe_wI (pm_h M σ q y) (M + 21) (pe_w s1) s2) (pe_R (pe_wI (pm_h M σ q y) (M + 21) (pe_w s1) s2) M 22) = 10, 0 ≤ (pe_w x1), (pe_w x1) < pe_L (pe_wI (pm_h M σ q y) (M + 21) (pe_w s1) s2) (pe_R (pe_wI (pm_h M σ q y) (M + 21) (pe_w s1) s2) M 22)] (163, [some (.inr (.inr M)), some (.inl x1)], [.inl (pe_I (pe_wI (pm_h M σ q y) (M + 21) (pe_w s1) s2) (pe_R (pe_wI (pm_h M σ q y) (M + 21) (pe_w s1) s2) M 22) (pe_w x1)), .inr (.inr M), .inl x1, .inr (.inr (pe_R (pe_wI (pm_h M σ q y) (M + 21) (pe_w s1) s2) M 22))], pe_wI (pm_h M σ q y) (M + 21) (pe_w s1) s2) rfl ?_ ?_
  · first
    | (simp (disch := omega) only [pe_all, pe_wi w0, pe_wi w1, pe_I_wR, pe_K_wI, pe_K_wR, pe_L_wI, pe_L_wR, pe_R_nej, pe_R_wI, pm_Ik, pm_K21 hF, pm_K22 hF, pm_KM hF, pm_Kh, pm_L21 hF, pm_L22 hF, pm_Lh, pm_R22 hF, pm_Rh, pm_uj, pm_uk, pm_us, pm_wIk]; done)
    | (simp (disch := omega) only [pe_all, pe_wi w0, pe_wi w1, pe_I_wR, pe_K_wI, pe_K_wR, pe_L_wI, pe_L_wR, pe_R_nej, pe_R_wI, pm_Ik, pm_K21 hF, pm_K22 hF, pm_KM hF, pm_Kh, pm_L21 hF, pm_L22 hF, pm_Lh, pm_R22 hF, pm_Rh, pm_uj, pm_uk, pm_us, pm_wIk]; (repeat' apply And.intro) <;> first | assumption | omega | decide)
  · try simp (disch := omega) only [pe_wi w0, pe_wi w1, pe_I_wR, pe_K_wI, pe_K_wR, pe_L_wI, pe_L_wR, pe_R_nej, pe_R_wI, pm_Ik, pm_K21 hF, pm_K22 hF, pm_KM hF, pm_Kh, pm_L21 hF, pm_L22 hF, pm_Lh, pm_R22 hF, pm_Rh, pm_uj, pm_uk, pm_us, pm_wIk]
    have hrc : pe_K (pm_h M σ q (pm_u y 21 s1 s2)) M = 9 := by first | assumption | (simp (disch := omega) only [pe_wi w0, pe_wi w1, pe_I_wR, pe_K_wI, pe_K_wR, pe_L_wI, pe_L_wR, pe_R_nej, pe_R_wI, pm_Ik, pm_K21 hF, pm_K22 hF, pm_KM hF, pm_Kh, pm_L21 hF, pm_L22 hF, pm_Lh, pm_R22 hF, pm_Rh, pm_uj, pm_uk, pm_us, pm_wIk]; done) | (simp (disch := omega) only [pe_wi w0, pe_wi w1, pe_I_wR, pe_K_wI, pe_K_wR, pe_L_wI, pe_L_wR, pe_R_nej, pe_R_wI, pm_Ik, pm_K21 hF, pm_K22 hF, pm_KM hF, pm_Kh, pm_L21 hF, pm_L22 hF, pm_Lh, pm_R22 hF, pm_Rh, pm_uj, pm_uk, pm_us, pm_wIk]; assumption)
    exact pe_cal 100 ck185 rfl rfl rfl ⟨hrc, by decide⟩ k
set_option maxRecDepth 8000 in
theorem b185_166 {d : Nat} {Φ : Option pe_V → pe_H → Prop} {σ : pe_H} {M q : Nat} {y : Nat → Int → Int} (hF : pm_F M σ) {x1 : Int} {s1 : Int} {s2 : Int}  (w0 : pe_in s1 := by unfold pe_in; omega) (h0 : 0 ≤ s1 := by first | assumption | omega) (h1 : s1 < 768 := by first | assumption | omega) (k : pe_X d 185 (128, [some (.inr (.inr M)), some (.inl (x1 + 1))], [], pm_h M σ q (pm_u y 22 s1 s2)) Φ) : pe_X d 185 (166, [some (.inr (.inr M)), some (.inl x1)], [.inl s2, .inl s1, .inr (.inr (M + 22))], pm_h M σ q y) Φ := by
  have hM2 := pm_2 hF
  refine pe_blk 101 3 ck185 [pe_K (pm_h M σ q y) (M + 22) = 10, 0 ≤ (pe_w s1), (pe_w s1) < pe_L (pm_h M σ q y) (M + 22), 2 ≤ (M + 22)] (128, [some (.inr (.inr M)), some (.inl (x1 + 1))], [], pe_wI (pm_h M σ q y) (M + 22) (pe_w s1) s2) rfl ?_ ?_
  · first
    | (simp (disch := omega) only [pe_all, pe_wi w0, pe_K_wI, pe_K_wR, pe_L_wI, pe_L_wR, pm_K22 hF, pm_Kh, pm_L22 hF, pm_Lh, pm_wIk]; done)
    | (simp (disch := omega) only [pe_all, pe_wi w0, pe_K_wI, pe_K_wR, pe_L_wI, pe_L_wR, pm_K22 hF, pm_Kh, pm_L22 hF, pm_Lh, pm_wIk]; (repeat' apply And.intro) <;> first | assumption | omega | decide)
  · try simp (disch := omega) only [pe_wi w0, pe_K_wI, pe_K_wR, pe_L_wI, pe_L_wR, pm_K22 hF, pm_Kh, pm_L22 hF, pm_Lh, pm_wIk]
    exact k
set_option maxRecDepth 8000 in
theorem b185_173 {d : Nat} {Φ : Option pe_V → pe_H → Prop} {σ : pe_H} {M q : Nat} {y : Nat → Int → Int} (hF : pm_F M σ) {o1 : Option pe_V}    (k : pe_X d 185 (175, [some (.inr (.inr M)), some (.inl 0)], [], pm_h M σ q y) Φ) : pe_X d 185 (173, [some (.inr (.inr M)), o1], [], pm_h M σ q y) Φ := by
  refine pe_blk 104 2 ck185 [] (175, [some (.inr (.inr M)), some (.inl 0)], [], pm_h M σ q y) rfl ?_ ?_
  · exact trivial
  · exact k
set_option maxRecDepth 8000 in
theorem b185_175 {d : Nat} {Φ : Option pe_V → pe_H → Prop} {σ : pe_H} {M q : Nat} {y : Nat → Int → Int} (hF : pm_F M σ) {x1 : Int}  (w0 : pe_in x1 := by unfold pe_in; omega)  (k1 : 600 ≤ x1 → pe_X d 185 (204, [some (.inr (.inr M)), some (.inl x1)], [], pm_h M σ q y) Φ) (k2 : ¬ (600 ≤ x1) → pe_X d 185 (182, [some (.inr (.inr M)), some (.inl x1)], [], pm_h M σ q y) Φ) : pe_X d 185 (175, [some (.inr (.inr M)), some (.inl x1)], [], pm_h M σ q y) Φ := by
  refine pe_blk 106 3 ck185 [] (cond (decide ((pe_w 600) ≤ (pe_w x1))) 204 182, [some (.inr (.inr M)), some (.inl x1)], [], pm_h M σ q y) rfl ?_ ?_
  · exact trivial
  · try simp (disch := omega) only [pe_wi w0, pe_wi (x := 600) ⟨by decide, by decide⟩]
    exact pe_two k1 k2
set_option maxRecDepth 8000 in
theorem b185_182 {d : Nat} {Φ : Option pe_V → pe_H → Prop} {σ : pe_H} {M q : Nat} {y : Nat → Int → Int} (hF : pm_F M σ) {x1 : Int}  (w0 : pe_in x1 := by unfold pe_in; omega) (h0 : 0 ≤ x1 := by first | assumption | omega) (h1 : x1 < 600 := by first | assumption | omega) (k : pe_M d 184 [.inr (.inr M), .inl (y 24 x1)] (pm_h M σ q y) (fun r σ' => pe_X d 185 (197, [some (.inr (.inr M)), some (.inl x1)], r.toList ++ [.inl x1, .inr (.inr (M + 24))], σ') Φ)) : pe_X d 185 (182, [some (.inr (.inr M)), some (.inl x1)], [], pm_h M σ q y) Φ := by
  refine pe_blk 109 8 ck185 [pe_K (pm_h M σ q y) M = 9, pe_K (pm_h M σ q y) M = 9, pe_K (pm_h M σ q y) (pe_R (pm_h M σ q y) M 25) = 10, 0 ≤ (pe_w x1), (pe_w x1) < pe_L (pm_h M σ q y) (pe_R (pm_h M σ q y) M 25)] (194, [some (.inr (.inr M)), some (.inl x1)], [.inl (pe_I (pm_h M σ q y) (pe_R (pm_h M σ q y) M 25) (pe_w x1)), .inr (.inr M), .inl x1, .inr (.inr (pe_R (pm_h M σ q y) M 25))], pm_h M σ q y) rfl ?_ ?_
  · first
    | (simp (disch := omega) only [pe_all, pe_wi w0, pe_I_wR, pe_K_wI, pe_K_wR, pe_L_wI, pe_L_wR, pe_R_nej, pe_R_wI, pm_Ik, pm_K24 hF, pm_KM hF, pm_Kh, pm_L24 hF, pm_Lh, pm_R25 hF, pm_Rh, pm_uj, pm_uk, pm_us]; done)
    | (simp (disch := omega) only [pe_all, pe_wi w0, pe_I_wR, pe_K_wI, pe_K_wR, pe_L_wI, pe_L_wR, pe_R_nej, pe_R_wI, pm_Ik, pm_K24 hF, pm_KM hF, pm_Kh, pm_L24 hF, pm_Lh, pm_R25 hF, pm_Rh, pm_uj, pm_uk, pm_us]; (repeat' apply And.intro) <;> first | assumption | omega | decide)
  · try simp (disch := omega) only [pe_wi w0, pe_I_wR, pe_K_wI, pe_K_wR, pe_L_wI, pe_L_wR, pe_R_nej, pe_R_wI, pm_Ik, pm_K24 hF, pm_KM hF, pm_Kh, pm_L24 hF, pm_Lh, pm_R25 hF, pm_Rh, pm_uj, pm_uk, pm_us]
    have hrc : pe_K (pm_h M σ q y) M = 9 := by first | assumption | (simp (disch := omega) only [pe_wi w0, pe_I_wR, pe_K_wI, pe_K_wR, pe_L_wI, pe_L_wR, pe_R_nej, pe_R_wI, pm_Ik, pm_K24 hF, pm_KM hF, pm_Kh, pm_L24 hF, pm_Lh, pm_R25 hF, pm_Rh, pm_uj, pm_uk, pm_us]; done) | (simp (disch := omega) only [pe_wi w0, pe_I_wR, pe_K_wI, pe_K_wR, pe_L_wI, pe_L_wR, pe_R_nej, pe_R_wI, pm_Ik, pm_K24 hF, pm_KM hF, pm_Kh, pm_L24 hF, pm_Lh, pm_R25 hF, pm_Rh, pm_uj, pm_uk, pm_us]; assumption)
    exact pe_cal 117 ck185 rfl rfl rfl ⟨hrc, by decide⟩ k
set_option maxRecDepth 8000 in
theorem b185_197 {d : Nat} {Φ : Option pe_V → pe_H → Prop} {σ : pe_H} {M q : Nat} {y : Nat → Int → Int} (hF : pm_F M σ) {x1 : Int} {s1 : Int} {s2 : Int}  (w0 : pe_in s1 := by unfold pe_in; omega) (h0 : 0 ≤ s1 := by first | assumption | omega) (h1 : s1 < 600 := by first | assumption | omega) (k : pe_X d 185 (175, [some (.inr (.inr M)), some (.inl (x1 + 1))], [], pm_h M σ q (pm_u y 24 s1 s2)) Φ) : pe_X d 185 (197, [some (.inr (.inr M)), some (.inl x1)], [.inl s2, .inl s1, .inr (.inr (M + 24))], pm_h M σ q y) Φ := by
  have hM2 := pm_2 hF
  refine pe_blk 118 3 ck185 [pe_K (pm_h M σ q y) (M + 24) = 10, 0 ≤ (pe_w s1), (pe_w s1) < pe_L (pm_h M σ q y) (M + 24), 2 ≤ (M + 24)] (175, [some (.inr (.inr M)), some (.inl (x1 + 1))], [], pe_wI (pm_h M σ q y) (M + 24) (pe_w s1) s2) rfl ?_ ?_
  · first
    | (simp (disch := omega) only [pe_all, pe_wi w0, pe_K_wI, pe_K_wR, pe_L_wI, pe_L_wR, pm_K24 hF, pm_Kh, pm_L24 hF, pm_Lh, pm_wIk]; done)
    | (simp (disch := omega) only [pe_all, pe_wi w0, pe_K_wI, pe_K_wR, pe_L_wI, pe_L_wR, pm_K24 hF, pm_Kh, pm_L24 hF, pm_Lh, pm_wIk]; (repeat' apply And.intro) <;> first | assumption | omega | decide)
  · try simp (disch := omega) only [pe_wi w0, pe_K_wI, pe_K_wR, pe_L_wI, pe_L_wR, pm_K24 hF, pm_Kh, pm_L24 hF, pm_Lh, pm_wIk]
    exact k
set_option maxRecDepth 8000 in
theorem b185_204 {d : Nat} {Φ : Option pe_V → pe_H → Prop} {σ : pe_H} {M q : Nat} {y : Nat → Int → Int} (hF : pm_F M σ) {o1 : Option pe_V}    (k : Φ none (pm_h M σ q y)) : pe_X d 185 (204, [some (.inr (.inr M)), o1], [], pm_h M σ q y) Φ := by
  exact pe_fine 121 ck185 rfl rfl rfl trivial k
-- StepMachinesModel.carryAll([IZ)V
def T186 : List (Nat × Instr × Nat) := [(0, .aload_n 0, 1), (1, .aload_n 1, 1), (2, .putfield 350, 3), (5, .aload_n 0, 1), (6, .iload_n 2, 1), (7, .putfield 347, 3), (10, .aload_n 0, 1), (11, .iconst 0, 1), (12, .putfield 353, 3), (15, .aload_n 0, 1), (16, .aload_n 0, 1), (17, .aload_n 0, 1), (18, .getfield 144, 3), (21, .invokevirtual 356, 3), (24, .putfield 144, 3), (27, .aload_n 0, 1), (28, .aload_n 0, 1), (29, .aload_n 0, 1), (30, .getfield 155, 3), (33, .invokevirtual 356, 3), (36, .putfield 155, 3), (39, .aload_n 0, 1), (40, .aload_n 0, 1), (41, .aload_n 0, 1), (42, .getfield 88, 3), (45, .invokevirtual 356, 3), (48, .putfield 88, 3), (51, .aload_n 0, 1), (52, .aload_n 0, 1), (53, .aload_n 0, 1), (54, .getfield 246, 3), (57, .invokevirtual 356, 3), (60, .putfield 246, 3), (63, .iconst 0, 1), (64, .istore_n 3, 1), (65, .iload_n 3, 1), (66, .iconst 5, 1), (67, .if_icmp .ge 25, 3), (70, .aload_n 0, 1), (71, .getfield 7, 3), (74, .iload_n 3, 1), (75, .aload_n 0, 1), (76, .aload_n 0, 1), (77, .getfield 7, 3), (80, .iload_n 3, 1), (81, .iaload, 1), (82, .invokevirtual 356, 3), (85, .iastore, 1), (86, .iinc 3 1, 3), (89, .goto (-24), 3), (92, .iconst 0, 1), (93, .istore_n 3, 1), (94, .iload_n 3, 1), (95, .bipush 80, 2), (97, .if_icmp .ge 41, 3), (100, .aload_n 0, 1), (101, .getfield 13, 3), (104, .iload_n 3, 1), (105, .aload_n 0, 1), (106, .aload_n 0, 1), (107, .getfield 13, 3), (110, .iload_n 3, 1), (111, .iaload, 1), (112, .invokevirtual 356, 3), (115, .iastore, 1), (116, .aload_n 0, 1), (117, .getfield 16, 3), (120, .iload_n 3, 1), (121, .aload_n 0, 1), (122, .aload_n 0, 1), (123, .getfield 16, 3), (126, .iload_n 3, 1), (127, .iaload, 1), (128, .invokevirtual 356, 3), (131, .iastore, 1), (132, .iinc 3 1, 3), (135, .goto (-41), 3), (138, .iconst 0, 1), (139, .istore_n 3, 1), (140, .iload_n 3, 1), (141, .bipush 8, 2), (143, .if_icmp .ge 185, 3), (146, .aload_n 0, 1), (147, .getfield 19, 3), (150, .iload_n 3, 1), (151, .aload_n 0, 1), (152, .aload_n 0, 1), (153, .getfield 19, 3), (156, .iload_n 3, 1), (157, .iaload, 1), (158, .invokevirtual 356, 3), (161, .iastore, 1), (162, .aload_n 0, 1), (163, .getfield 22, 3), (166, .iload_n 3, 1), (167, .aload_n 0, 1), (168, .aload_n 0, 1), (169, .getfield 22, 3), (172, .iload_n 3, 1), (173, .iaload, 1), (174, .invokevirtual 356, 3), (177, .iastore, 1), (178, .aload_n 0, 1), (179, .getfield 25, 3), (182, .iload_n 3, 1), (183, .aload_n 0, 1), (184, .aload_n 0, 1), (185, .getfield 25, 3), (188, .iload_n 3, 1), (189, .iaload, 1), (190, .invokevirtual 356, 3), (193, .iastore, 1), (194, .aload_n 0, 1), (195, .getfield 28, 3), (198, .iload_n 3, 1), (199, .aload_n 0, 1), (200, .aload_n 0, 1), (201, .getfield 28, 3), (204, .iload_n 3, 1), (205, .iaload, 1), (206, .invokevirtual 356, 3), (209, .iastore, 1), (210, .aload_n 0, 1), (211, .getfield 31, 3), (214, .iload_n 3, 1), (215, .aload_n 0, 1), (216, .aload_n 0, 1), (217, .getfield 31, 3), (220, .iload_n 3, 1), (221, .iaload, 1), (222, .invokevirtual 356, 3), (225, .iastore, 1), (226, .aload_n 0, 1), (227, .getfield 34, 3), (230, .iload_n 3, 1), (231, .aload_n 0, 1), (232, .aload_n 0, 1), (233, .getfield 34, 3), (236, .iload_n 3, 1), (237, .iaload, 1), (238, .invokevirtual 356, 3), (241, .iastore, 1), (242, .aload_n 0, 1), (243, .getfield 37, 3), (246, .iload_n 3, 1), (247, .aload_n 0, 1), (248, .aload_n 0, 1), (249, .getfield 37, 3), (252, .iload_n 3, 1), (253, .iaload, 1), (254, .invokevirtual 356, 3), (257, .iastore, 1), (258, .aload_n 0, 1), (259, .getfield 40, 3), (262, .iload_n 3, 1), (263, .aload_n 0, 1), (264, .aload_n 0, 1), (265, .getfield 40, 3), (268, .iload_n 3, 1), (269, .iaload, 1), (270, .invokevirtual 356, 3), (273, .iastore, 1), (274, .aload_n 0, 1), (275, .getfield 43, 3), (278, .iload_n 3, 1), (279, .aload_n 0, 1), (280, .aload_n 0, 1), (281, .getfield 43, 3), (284, .iload_n 3, 1), (285, .iaload, 1), (286, .invokevirtual 356, 3), (289, .iastore, 1), (290, .aload_n 0, 1), (291, .getfield 46, 3), (294, .iload_n 3, 1), (295, .aload_n 0, 1), (296, .aload_n 0, 1), (297, .getfield 46, 3), (300, .iload_n 3, 1), (301, .iaload, 1), (302, .invokevirtual 356, 3), (305, .iastore, 1), (306, .aload_n 0, 1), (307, .getfield 49, 3), (310, .iload_n 3, 1), (311, .aload_n 0, 1), (312, .aload_n 0, 1), (313, .getfield 49, 3), (316, .iload_n 3, 1), (317, .iaload, 1), (318, .invokevirtual 356, 3), (321, .iastore, 1), (322, .iinc 3 1, 3), (325, .goto (-185), 3), (328, .iconst 0, 1), (329, .istore_n 3, 1), (330, .iload_n 3, 1), (331, .bipush 6, 2), (333, .if_icmp .ge 25, 3), (336, .aload_n 0, 1), (337, .getfield 82, 3), (340, .iload_n 3, 1), (341, .aload_n 0, 1), (342, .aload_n 0, 1), (343, .getfield 82, 3), (346, .iload_n 3, 1), (347, .iaload, 1), (348, .invokevirtual 356, 3), (351, .iastore, 1), (352, .iinc 3 1, 3), (355, .goto (-25), 3), (358, .aload_n 0, 1), (359, .invokevirtual 359, 3), (362, .return_, 1)]
theorem ck186 : pe_ctx 186 9 false none 4 T186 := ⟨rfl, rfl, rfl, rfl, by decide +kernel, by decide, by decide⟩
theorem b186_0 {d : Nat} {Φ : Option pe_V → pe_H → Prop} {σ : pe_H} {M q : Nat} {y : Nat → Int → Int} (hF : pm_F M σ) {a1 : Nat} {x2 : Int} {o3 : Option pe_V}   (h0 : x2 = 0 ∨ x2 = 1 := by first | assumption | omega) (k : pe_M d 184 [.inr (.inr M), .inl (y 0 3)] (pm_h M σ a1 (pm_u (pm_u y 0 52 x2) 0 51 0)) (fun r σ' => pe_X d 186 (24, [some (.inr (.inr M)), some (.inr (.inr a1)), some (.inl x2), o3], r.toList ++ [.inr (.inr M)], σ') Φ)) : pe_X d 186 (0, [some (.inr (.inr M)), some (.inr (.inr a1)), some (.inl x2), o3], [], pm_h M σ q y) Φ := by
  refine pe_blk 0 13 ck186 [pe_K (pm_h M σ q y) M = 9, pe_K (pe_wR (pm_h M σ q y) M 53 a1) M = 9, x2 = 0 ∨ x2 = 1, pe_K (pe_wI (pe_wR (pm_h M σ q y) M 53 a1) M 52 x2) M = 9, pe_K (pe_wI (pe_wI (pe_wR (pm_h M σ q y) M 53 a1) M 52 x2) M 51 0) M = 9] (21, [some (.inr (.inr M)), some (.inr (.inr a1)), some (.inl x2), o3], [.inl (pe_I (pe_wI (pe_wI (pe_wR (pm_h M σ q y) M 53 a1) M 52 x2) M 51 0) M 3), .inr (.inr M), .inr (.inr M)], pe_wI (pe_wI (pe_wR (pm_h M σ q y) M 53 a1) M 52 x2) M 51 0) rfl ?_ ?_
  · first
    | (simp (disch := omega) only [pe_all, pe_I_wR, pe_K_wI, pe_K_wR, pm_I0, pm_KM hF, pm_Kh, pm_uj, pm_uk, pm_us, pm_wI0, pm_wR53]; done)
    | (simp (disch := omega) only [pe_all, pe_I_wR, pe_K_wI, pe_K_wR, pm_I0, pm_KM hF, pm_Kh, pm_uj, pm_uk, pm_us, pm_wI0, pm_wR53]; (repeat' apply And.intro) <;> first | assumption | omega | decide)
  · try simp (disch := omega) only [pe_I_wR, pe_K_wI, pe_K_wR, pm_I0, pm_KM hF, pm_Kh, pm_uj, pm_uk, pm_us, pm_wI0, pm_wR53]
    have hrc : pe_K (pm_h M σ a1 (pm_u (pm_u y 0 52 x2) 0 51 0)) M = 9 := by first | assumption | (simp (disch := omega) only [pe_I_wR, pe_K_wI, pe_K_wR, pm_I0, pm_KM hF, pm_Kh, pm_uj, pm_uk, pm_us, pm_wI0, pm_wR53]; done) | (simp (disch := omega) only [pe_I_wR, pe_K_wI, pe_K_wR, pm_I0, pm_KM hF, pm_Kh, pm_uj, pm_uk, pm_us, pm_wI0, pm_wR53]; assumption)
    exact pe_cal 13 ck186 rfl rfl rfl ⟨hrc, by decide⟩ k
theorem b186_24 {d : Nat} {Φ : Option pe_V → pe_H → Prop} {σ : pe_H} {M q : Nat} {y : Nat → Int → Int} (hF : pm_F M σ) {o1 : Option pe_V} {o2 : Option pe_V} {o3 : Option pe_V} {s1 : Int}    (k : pe_M d 184 [.inr (.inr M), .inl (y 0 23)] (pm_h M σ q (pm_u y 0 3 s1)) (fun r σ' => pe_X d 186 (36, [some (.inr (.inr M)), o1, o2, o3], r.toList ++ [.inr (.inr M)], σ') Φ)) : pe_X d 186 (24, [some (.inr (.inr M)), o1, o2, o3], [.inl s1, .inr (.inr M)], pm_h M σ q y) Φ := by
  refine pe_blk 14 5 ck186 [pe_K (pm_h M σ q y) M = 9, pe_K (pe_wI (pm_h M σ q y) M 3 s1) M = 9] (33, [some (.inr (.inr M)), o1, o2, o3], [.inl (pe_I (pe_wI (pm_h M σ q y) M 3 s1) M 23), .inr (.inr M), .inr (.inr M)], pe_wI (pm_h M σ q y) M 3 s1) rfl ?_ ?_
  · first
    | (simp (disch := omega) only [pe_all, pe_I_wR, pe_K_wI, pe_K_wR, pm_I0, pm_KM hF, pm_Kh, pm_uj, pm_uk, pm_us, pm_wI0]; done)
    | (simp (disch := omega) only [pe_all, pe_I_wR, pe_K_wI, pe_K_wR, pm_I0, pm_KM hF, pm_Kh, pm_uj, pm_uk, pm_us, pm_wI0]; (repeat' apply And.intro) <;> first | assumption | omega | decide)
  · try simp (disch := omega) only [pe_I_wR, pe_K_wI, pe_K_wR, pm_I0, pm_KM hF, pm_Kh, pm_uj, pm_uk, pm_us, pm_wI0]
    have hrc : pe_K (pm_h M σ q (pm_u y 0 3 s1)) M = 9 := by first | assumption | (simp (disch := omega) only [pe_I_wR, pe_K_wI, pe_K_wR, pm_I0, pm_KM hF, pm_Kh, pm_uj, pm_uk, pm_us, pm_wI0]; done) | (simp (disch := omega) only [pe_I_wR, pe_K_wI, pe_K_wR, pm_I0, pm_KM hF, pm_Kh, pm_uj, pm_uk, pm_us, pm_wI0]; assumption)
    exact pe_cal 19 ck186 rfl rfl rfl ⟨hrc, by decide⟩ k
theorem b186_36 {d : Nat} {Φ : Option pe_V → pe_H → Prop} {σ : pe_H} {M q : Nat} {y : Nat → Int → Int} (hF : pm_F M σ) {o1 : Option pe_V} {o2 : Option pe_V} {o3 : Option pe_V} {s1 : Int}    (k : pe_M d 184 [.inr (.inr M), .inl (y 0 28)] (pm_h M σ q (pm_u y 0 23 s1)) (fun r σ' => pe_X d 186 (48, [some (.inr (.inr M)), o1, o2, o3], r.toList ++ [.inr (.inr M)], σ') Φ)) : pe_X d 186 (36, [some (.inr (.inr M)), o1, o2, o3], [.inl s1, .inr (.inr M)], pm_h M σ q y) Φ := by
  refine pe_blk 20 5 ck186 [pe_K (pm_h M σ q y) M = 9, pe_K (pe_wI (pm_h M σ q y) M 23 s1) M = 9] (45, [some (.inr (.inr M)), o1, o2, o3], [.inl (pe_I (pe_wI (pm_h M σ q y) M 23 s1) M 28), .inr (.inr M), .inr (.inr M)], pe_wI (pm_h M σ q y) M 23 s1) rfl ?_ ?_
  · first
    | (simp (disch := omega) only [pe_all, pe_I_wR, pe_K_wI, pe_K_wR, pm_I0, pm_KM hF, pm_Kh, pm_uj, pm_uk, pm_us, pm_wI0]; done)
    | (simp (disch := omega) only [pe_all, pe_I_wR, pe_K_wI, pe_K_wR, pm_I0, pm_KM hF, pm_Kh, pm_uj, pm_uk, pm_us, pm_wI0]; (repeat' apply And.intro) <;> first | assumption | omega | decide)
  · try simp (disch := omega) only [pe_I_wR, pe_K_wI, pe_K_wR, pm_I0, pm_KM hF, pm_Kh, pm_uj, pm_uk, pm_us, pm_wI0]
    have hrc : pe_K (pm_h M σ q (pm_u y 0 23 s1)) M = 9 := by first | assumption | (simp (disch := omega) only [pe_I_wR, pe_K_wI, pe_K_wR, pm_I0, pm_KM hF, pm_Kh, pm_uj, pm_uk, pm_us, pm_wI0]; done) | (simp (disch := omega) only [pe_I_wR, pe_K_wI, pe_K_wR, pm_I0, pm_KM hF, pm_Kh, pm_uj, pm_uk, pm_us, pm_wI0]; assumption)
    exact pe_cal 25 ck186 rfl rfl rfl ⟨hrc, by decide⟩ k
theorem b186_48 {d : Nat} {Φ : Option pe_V → pe_H → Prop} {σ : pe_H} {M q : Nat} {y : Nat → Int → Int} (hF : pm_F M σ) {o1 : Option pe_V} {o2 : Option pe_V} {o3 : Option pe_V} {s1 : Int}    (k : pe_M d 184 [.inr (.inr M), .inl (y 0 29)] (pm_h M σ q (pm_u y 0 28 s1)) (fun r σ' => pe_X d 186 (60, [some (.inr (.inr M)), o1, o2, o3], r.toList ++ [.inr (.inr M)], σ') Φ)) : pe_X d 186 (48, [some (.inr (.inr M)), o1, o2, o3], [.inl s1, .inr (.inr M)], pm_h M σ q y) Φ := by
  refine pe_blk 26 5 ck186 [pe_K (pm_h M σ q y) M = 9, pe_K (pe_wI (pm_h M σ q y) M 28 s1) M = 9] (57, [some (.inr (.inr M)), o1, o2, o3], [.inl (pe_I (pe_wI (pm_h M σ q y) M 28 s1) M 29), .inr (.inr M), .inr (.inr M)], pe_wI (pm_h M σ q y) M 28 s1) rfl ?_ ?_
  · first
    | (simp (disch := omega) only [pe_all, pe_I_wR, pe_K_wI, pe_K_wR, pm_I0, pm_KM hF, pm_Kh, pm_uj, pm_uk, pm_us, pm_wI0]; done)
    | (simp (disch := omega) only [pe_all, pe_I_wR, pe_K_wI, pe_K_wR, pm_I0, pm_KM hF, pm_Kh, pm_uj, pm_uk, pm_us, pm_wI0]; (repeat' apply And.intro) <;> first | assumption | omega | decide)
  · try simp (disch := omega) only [pe_I_wR, pe_K_wI, pe_K_wR, pm_I0, pm_KM hF, pm_Kh, pm_uj, pm_uk, pm_us, pm_wI0]
    have hrc : pe_K (pm_h M σ q (pm_u y 0 28 s1)) M = 9 := by first | assumption | (simp (disch := omega) only [pe_I_wR, pe_K_wI, pe_K_wR, pm_I0, pm_KM hF, pm_Kh, pm_uj, pm_uk, pm_us, pm_wI0]; done) | (simp (disch := omega) only [pe_I_wR, pe_K_wI, pe_K_wR, pm_I0, pm_KM hF, pm_Kh, pm_uj, pm_uk, pm_us, pm_wI0]; assumption)
    exact pe_cal 31 ck186 rfl rfl rfl ⟨hrc, by decide⟩ k
theorem b186_60 {d : Nat} {Φ : Option pe_V → pe_H → Prop} {σ : pe_H} {M q : Nat} {y : Nat → Int → Int} (hF : pm_F M σ) {o1 : Option pe_V} {o2 : Option pe_V} {o3 : Option pe_V} {s1 : Int}    (k : pe_X d 186 (65, [some (.inr (.inr M)), o1, pe_nl o2, some (.inl 0)], [], pm_h M σ q (pm_u y 0 29 s1)) Φ) : pe_X d 186 (60, [some (.inr (.inr M)), o1, o2, o3], [.inl s1, .inr (.inr M)], pm_h M σ q y) Φ := by
  refine pe_blk 32 3 ck186 [pe_K (pm_h M σ q y) M = 9] (65, [some (.inr (.inr M)), o1, pe_nl o2, some (.inl 0)], [], pe_wI (pm_h M σ q y) M 29 s1) rfl ?_ ?_
  · first
    | (simp (disch := omega) only [pe_all, pe_K_wI, pe_K_wR, pm_KM hF, pm_Kh, pm_wI0]; done)
    | (simp (disch := omega) only [pe_all, pe_K_wI, pe_K_wR, pm_KM hF, pm_Kh, pm_wI0]; (repeat' apply And.intro) <;> first | assumption | omega | decide)
  · try simp (disch := omega) only [pe_K_wI, pe_K_wR, pm_KM hF, pm_Kh, pm_wI0]
    exact k
theorem b186_65 {d : Nat} {Φ : Option pe_V → pe_H → Prop} {σ : pe_H} {M q : Nat} {y : Nat → Int → Int} (hF : pm_F M σ) {o1 : Option pe_V} {o2 : Option pe_V} {x3 : Int}  (w0 : pe_in x3 := by unfold pe_in; omega)  (k1 : 5 ≤ x3 → pe_X d 186 (92, [some (.inr (.inr M)), o1, o2, some (.inl x3)], [], pm_h M σ q y) Φ) (k2 : ¬ (5 ≤ x3) → pe_X d 186 (70, [some (.inr (.inr M)), o1, o2, some (.inl x3)], [], pm_h M σ q y) Φ) : pe_X d 186 (65, [some (.inr (.inr M)), o1, o2, some (.inl x3)], [], pm_h M σ q y) Φ := by
  refine pe_blk 35 3 ck186 [] (cond (decide ((pe_w 5) ≤ (pe_w x3))) 92 70, [some (.inr (.inr M)), o1, o2, some (.inl x3)], [], pm_h M σ q y) rfl ?_ ?_
  · exact trivial
  · try simp (disch := omega) only [pe_wi w0, pe_wi (x := 5) ⟨by decide, by decide⟩]
    exact pe_two k1 k2
theorem b186_70 {d : Nat} {Φ : Option pe_V → pe_H → Prop} {σ : pe_H} {M q : Nat} {y : Nat → Int → Int} (hF : pm_F M σ) {o1 : Option pe_V} {o2 : Option pe_V} {x3 : Int}  (w0 : pe_in x3 := by unfold pe_in; omega) (h0 : 0 ≤ x3 := by first | assumption | omega) (h1 : x3 < 5 := by first | assumption | omega) (k : pe_M d 184 [.inr (.inr M), .inl (y 1 x3)] (pm_h M σ q y) (fun r σ' => pe_X d 186 (85, [some (.inr (.inr M)), o1, o2, some (.inl x3)], r.toList ++ [.inl x3, .inr (.inr (M + 1))], σ') Φ)) : pe_X d 186 (70, [some (.inr (.inr M)), o1, o2, some (.inl x3)], [], pm_h M σ q y) Φ := by
  refine pe_blk 38 8 ck186 [pe_K (pm_h M σ q y) M = 9, pe_K (pm_h M σ q y) M = 9, pe_K (pm_h M σ q y) (pe_R (pm_h M σ q y) M 0) = 10, 0 ≤ (pe_w x3), (pe_w x3) < pe_L (pm_h M σ q y) (pe_R (pm_h M σ q y) M 0)] (82, [some (.inr (.inr M)), o1, o2, some (.inl x3)], [.inl (pe_I (pm_h M σ q y) (pe_R (pm_h M σ q y) M 0) (pe_w x3)), .inr (.inr M), .inl x3, .inr (.inr (pe_R (pm_h M σ q y) M 0))], pm_h M σ q y) rfl ?_ ?_
  · first
    | (simp (disch := omega) only [pe_all, pe_wi w0, pe_I_wR, pe_K_wI, pe_K_wR, pe_L_wI, pe_L_wR, pe_R_nej, pe_R_wI, pm_Ik, pm_K1 hF, pm_KM hF, pm_Kh, pm_L1 hF, pm_Lh, pm_R0 hF, pm_Rh, pm_uj, pm_uk, pm_us]; done)
    | (simp (disch := omega) only [pe_all, pe_wi w0, pe_I_wR, pe_K_wI, pe_K_wR, pe_L_wI, pe_L_wR, pe_R_nej, pe_R_wI, pm_Ik, pm_K1 hF, pm_KM hF, pm_Kh, pm_L1 hF, pm_Lh, pm_R0 hF, pm_Rh, pm_uj, pm_uk, pm_us]; (repeat' apply And.intro) <;> first | assumption | omega | decide)
  · try simp (disch := omega) only [pe_wi w0, pe_I_wR, pe_K_wI, pe_K_wR, pe_L_wI, pe_L_wR, pe_R_nej, pe_R_wI, pm_Ik, pm_K1 hF, pm_KM hF, pm_Kh, pm_L1 hF, pm_Lh, pm_R0 hF, pm_Rh, pm_uj, pm_uk, pm_us]
    have hrc : pe_K (pm_h M σ q y) M = 9 := by first | assumption | (simp (disch := omega) only [pe_wi w0, pe_I_wR, pe_K_wI, pe_K_wR, pe_L_wI, pe_L_wR, pe_R_nej, pe_R_wI, pm_Ik, pm_K1 hF, pm_KM hF, pm_Kh, pm_L1 hF, pm_Lh, pm_R0 hF, pm_Rh, pm_uj, pm_uk, pm_us]; done) | (simp (disch := omega) only [pe_wi w0, pe_I_wR, pe_K_wI, pe_K_wR, pe_L_wI, pe_L_wR, pe_R_nej, pe_R_wI, pm_Ik, pm_K1 hF, pm_KM hF, pm_Kh, pm_L1 hF, pm_Lh, pm_R0 hF, pm_Rh, pm_uj, pm_uk, pm_us]; assumption)
    exact pe_cal 46 ck186 rfl rfl rfl ⟨hrc, by decide⟩ k
theorem b186_85 {d : Nat} {Φ : Option pe_V → pe_H → Prop} {σ : pe_H} {M q : Nat} {y : Nat → Int → Int} (hF : pm_F M σ) {o1 : Option pe_V} {o2 : Option pe_V} {x3 : Int} {s1 : Int} {s2 : Int}  (w0 : pe_in s1 := by unfold pe_in; omega) (h0 : 0 ≤ s1 := by first | assumption | omega) (h1 : s1 < 5 := by first | assumption | omega) (k : pe_X d 186 (65, [some (.inr (.inr M)), o1, pe_nl o2, some (.inl (x3 + 1))], [], pm_h M σ q (pm_u y 1 s1 s2)) Φ) : pe_X d 186 (85, [some (.inr (.inr M)), o1, o2, some (.inl x3)], [.inl s2, .inl s1, .inr (.inr (M + 1))], pm_h M σ q y) Φ := by
  have hM2 := pm_2 hF
  refine pe_blk 47 3 ck186 [pe_K (pm_h M σ q y) (M + 1) = 10, 0 ≤ (pe_w s1), (pe_w s1) < pe_L (pm_h M σ q y) (M + 1), 2 ≤ (M + 1)] (65, [some (.inr (.inr M)), o1, pe_nl o2, some (.inl (x3 + 1))], [], pe_wI (pm_h M σ q y) (M + 1) (pe_w s1) s2) rfl ?_ ?_
  · first
    | (simp (disch := omega) only [pe_all, pe_wi w0, pe_K_wI, pe_K_wR, pe_L_wI, pe_L_wR, pm_K1 hF, pm_Kh, pm_L1 hF, pm_Lh, pm_wIk]; done)
    | (simp (disch := omega) only [pe_all, pe_wi w0, pe_K_wI, pe_K_wR, pe_L_wI, pe_L_wR, pm_K1 hF, pm_Kh, pm_L1 hF, pm_Lh, pm_wIk]; (repeat' apply And.intro) <;> first | assumption | omega | decide)
  · try simp (disch := omega) only [pe_wi w0, pe_K_wI, pe_K_wR, pe_L_wI, pe_L_wR, pm_K1 hF, pm_Kh, pm_L1 hF, pm_Lh, pm_wIk]
    exact k
set_option maxRecDepth 8000 in
theorem b186_92 {d : Nat} {Φ : Option pe_V → pe_H → Prop} {σ : pe_H} {M q : Nat} {y : Nat → Int → Int} (hF : pm_F M σ) {o1 : Option pe_V} {o2 : Option pe_V} {o3 : Option pe_V}    (k : pe_X d 186 (94, [some (.inr (.inr M)), o1, pe_nl o2, some (.inl 0)], [], pm_h M σ q y) Φ) : pe_X d 186 (92, [some (.inr (.inr M)), o1, o2, o3], [], pm_h M σ q y) Φ := by
  refine pe_blk 50 2 ck186 [] (94, [some (.inr (.inr M)), o1, pe_nl o2, some (.inl 0)], [], pm_h M σ q y) rfl ?_ ?_
  · exact trivial
  · exact k
set_option maxRecDepth 8000 in
theorem b186_94 {d : Nat} {Φ : Option pe_V → pe_H → Prop} {σ : pe_H} {M q : Nat} {y : Nat → Int → Int} (hF : pm_F M σ) {o1 : Option pe_V} {o2 : Option pe_V} {x3 : Int}  (w0 : pe_in x3 := by unfold pe_in; omega)  (k1 : 80 ≤ x3 → pe_X d 186 (138, [some (.inr (.inr M)), o1, o2, some (.inl x3)], [], pm_h M σ q y) Φ) (k2 : ¬ (80 ≤ x3) → pe_X d 186 (100, [some (.inr (.inr M)), o1, o2, some (.inl x3)], [], pm_h M σ q y) Φ) : pe_X d 186 (94, [some (.inr (.inr M)), o1, o2, some (.inl x3)], [], pm_h M σ q y) Φ := by
  refine pe_blk 52 3 ck186 [] (cond (decide ((pe_w 80) ≤ (pe_w x3))) 138 100, [some (.inr (.inr M)), o1, o2, some (.inl x3)], [], pm_h M σ q y) rfl ?_ ?_
  · exact trivial
  · try simp (disch := omega) only [pe_wi w0, pe_wi (x := 80) ⟨by decide, by decide⟩]
    exact pe_two k1 k2
set_option maxRecDepth 8000 in
theorem b186_100 {d : Nat} {Φ : Option pe_V → pe_H → Prop} {σ : pe_H} {M q : Nat} {y : Nat → Int → Int} (hF : pm_F M σ) {o1 : Option pe_V} {o2 : Option pe_V} {x3 : Int}  (w0 : pe_in x3 := by unfold pe_in; omega) (h0 : 0 ≤ x3 := by first | assumption | omega) (h1 : x3 < 80 := by first | assumption | omega) (k : pe_M d 184 [.inr (.inr M), .inl (y 2 x3)] (pm_h M σ q y) (fun r σ' => pe_X d 186 (115, [some (.inr (.inr M)), o1, o2, some (.inl x3)], r.toList ++ [.inl x3, .inr (.inr (M + 2))], σ') Φ)) : pe_X d 186 (100, [some (.inr (.inr M)), o1, o2, some (.inl x3)], [], pm_h M σ q y) Φ := by
  refine pe_blk 55 8 ck186 [pe_K (pm_h M σ q y) M = 9, pe_K (pm_h M σ q y) M = 9, pe_K (pm_h M σ q y) (pe_R (pm_h M σ q y) M 1) = 10, 0 ≤ (pe_w x3), (pe_w x3) < pe_L (pm_h M σ q y) (pe_R (pm_h M σ q y) M 1)] (112, [some (.inr (.inr M)), o1, o2, some (.inl x3)], [.inl (pe_I (pm_h M σ q y) (pe_R (pm_h M σ q y) M 1) (pe_w x3)), .inr (.inr M), .inl x3, .inr (.inr (pe_R (pm_h M σ q y) M 1))], pm_h M σ q y) rfl ?_ ?_
  · first
    | (simp (disch := omega) only [pe_all, pe_wi w0, pe_I_wR, pe_K_wI, pe_K_wR, pe_L_wI, pe_L_wR, pe_R_nej, pe_R_wI, pm_Ik, pm_K2 hF, pm_KM hF, pm_Kh, pm_L2 hF, pm_Lh, pm_R1 hF, pm_Rh, pm_uj, pm_uk, pm_us]; done)
    | (simp (disch := omega) only [pe_all, pe_wi w0, pe_I_wR, pe_K_wI, pe_K_wR, pe_L_wI, pe_L_wR, pe_R_nej, pe_R_wI, pm_Ik, pm_K2 hF, pm_KM hF, pm_Kh, pm_L2 hF, pm_Lh, pm_R1 hF, pm_Rh, pm_uj, pm_uk, pm_us]; (repeat' apply And.intro) <;> first | assumption | omega | decide)
  · try simp (disch := omega) only [pe_wi w0, pe_I_wR, pe_K_wI, pe_K_wR, pe_L_wI, pe_L_wR, pe_R_nej, pe_R_wI, pm_Ik, pm_K2 hF, pm_KM hF, pm_Kh, pm_L2 hF, pm_Lh, pm_R1 hF, pm_Rh, pm_uj, pm_uk, pm_us]
    have hrc : pe_K (pm_h M σ q y) M = 9 := by first | assumption | (simp (disch := omega) only [pe_wi w0, pe_I_wR, pe_K_wI, pe_K_wR, pe_L_wI, pe_L_wR, pe_R_nej, pe_R_wI, pm_Ik, pm_K2 hF, pm_KM hF, pm_Kh, pm_L2 hF, pm_Lh, pm_R1 hF, pm_Rh, pm_uj, pm_uk, pm_us]; done) | (simp (disch := omega) only [pe_wi w0, pe_I_wR, pe_K_wI, pe_K_wR, pe_L_wI, pe_L_wR, pe_R_nej, pe_R_wI, pm_Ik, pm_K2 hF, pm_KM hF, pm_Kh, pm_L2 hF, pm_Lh, pm_R1 hF, pm_Rh, pm_uj, pm_uk, pm_us]; assumption)
    exact pe_cal 63 ck186 rfl rfl rfl ⟨hrc, by decide⟩ k
set_option maxRecDepth 8000 in
theorem b186_115 {d : Nat} {Φ : Option pe_V → pe_H → Prop} {σ : pe_H} {M q : Nat} {y : Nat → Int → Int} (hF : pm_F M σ) {o1 : Option pe_V} {o2 : Option pe_V} {x3 : Int} {s1 : Int} {s2 : Int}  (w0 : pe_in s1 := by unfold pe_in; omega) (w1 : pe_in x3 := by unfold pe_in; omega) (h0 : 0 ≤ s1 := by first | assumption | omega) (h1 : s1 < 80 := by first | assumption | omega) (h2 : 0 ≤ x3 := by first | assumption | omega) (h3 : x3 < 80 := by first | assumption | omega) (k : pe_M d 184 [.inr (.inr M), .inl (y 3 x3)] (pm_h M σ q (pm_u y 2 s1 s2)) (fun r σ' => pe_X d 186 (131, [some (.inr (.inr M)), o1, o2, some (.inl x3)], r.toList ++ [.inl x3, .inr (.inr (M + 3))], σ') Φ)) : pe_X d 186 (115, [some (.inr (.inr M)), o1, o2, some (.inl x3)], [.inl s2, .inl s1, .inr (.inr (M + 2))], pm_h M σ q y) Φ := by
  have hM2 := pm_2 hF
  refine pe_blk 64 9 ck186 [pe_K (pm_h M σ q y) (M + 2) = 10, 0 ≤ (pe_w s1), (pe_w s1) < pe_L (pm_h M σ q y) (M + 2), 2 ≤ (M + 2), pe_K (pe_wI (pm_h M σ q y) (M + 2) (pe_w s1) s2) M = 9, pe_K (pe_wI (pm_h M σ q y) (M + 2) (pe_w s1) s2) M = 9, pe_K (pe_wI (pm_h M σ q y) (M + 2) (pe_w s1) s2) (pe_R (pe_wI (pm_h M σ q y) (M + 2) (pe_w s1) s2) M 2) = 10, 0 ≤ (pe_w x3), (pe_w x3) < pe_L (pe_wI (pm_h M σ q y) (M + 2) (pe_w s1) s2) (pe_R (pe_wI (pm_h M σ q y) (M + 2) (pe_w s1) s2) M 2)] (128, [some (.inr (.inr M)), o1, o2, some (.inl x3)], [.inl (pe_I (pe_wI (pm_h M σ q y) (M + 2) (pe_w s1) s2) (pe_R (pe_wI (pm_h M σ q y) (M + 2) (pe_w s1) s2) M 2) (pe_w x3)), .inr (.inr M), .inl x3, .inr (.inr (pe_R (pe_wI (pm_h M σ q y) (M + 2) (pe_w s1) s2) M 2))], pe_wI (pm_h M σ q y) (M + 2) (pe_w s1) s2) rfl ?_ ?_
  · first
    | (simp (disch := omega) only [pe_all, pe_wi w0, pe_wi w1, pe_I_wR, pe_K_wI, pe_K_wR, pe_L_wI, pe_L_wR, pe_R_nej, pe_R_wI, pm_Ik, pm_K2 hF, pm_K3 hF, pm_KM hF, pm_Kh, pm_L2 hF, pm_L3 hF, pm_Lh, pm_R2 hF, pm_Rh, pm_uj, pm_uk, pm_us, pm_wIk]; done)
    | (simp (disch := omega) only [pe_all, pe_wi w0, pe_wi w1, pe_I_wR, pe_K_wI, pe_K_wR, pe_L_wI, pe_L_wR, pe_R_nej, pe_R_wI, pm_Ik, pm_K2 hF, pm_K3 hF, pm_KM hF, pm_Kh, pm_L2 hF, pm_L3 hF, pm_Lh, pm_R2 hF, pm_Rh, pm_uj, pm_uk, pm_us, pm_wIk]; (repeat' apply And.intro) <;> first | assumption | omega | decide)
  · try simp (disch := omega) only [pe_wi w0, pe_wi w1, pe_I_wR, pe_K_wI, pe_K_wR, pe_L_wI, pe_L_wR, pe_R_nej, pe_R_wI, pm_Ik, pm_K2 hF, pm_K3 hF, pm_KM hF, pm_Kh, pm_L2 hF, pm_L3 hF, pm_Lh, pm_R2 hF, pm_Rh, pm_uj, pm_uk, pm_us, pm_wIk]
    have hrc : pe_K (pm_h M σ q (pm_u y 2 s1 s2)) M = 9 := by first | assumption | (simp (disch := omega) only [pe_wi w0, pe_wi w1, pe_I_wR, pe_K_wI, pe_K_wR, pe_L_wI, pe_L_wR, pe_R_nej, pe_R_wI, pm_Ik, pm_K2 hF, pm_K3 hF, pm_KM hF, pm_Kh, pm_L2 hF, pm_L3 hF, pm_Lh, pm_R2 hF, pm_Rh, pm_uj, pm_uk, pm_us, pm_wIk]; done) | (simp (disch := omega) only [pe_wi w0, pe_wi w1, pe_I_wR, pe_K_wI, pe_K_wR, pe_L_wI, pe_L_wR, pe_R_nej, pe_R_wI, pm_Ik, pm_K2 hF, pm_K3 hF, pm_KM hF, pm_Kh, pm_L2 hF, pm_L3 hF, pm_Lh, pm_R2 hF, pm_Rh, pm_uj, pm_uk, pm_us, pm_wIk]; assumption)
    exact pe_cal 73 ck186 rfl rfl rfl ⟨hrc, by decide⟩ k
set_option maxRecDepth 8000 in
theorem b186_131 {d : Nat} {Φ : Option pe_V → pe_H → Prop} {σ : pe_H} {M q : Nat} {y : Nat → Int → Int} (hF : pm_F M σ) {o1 : Option pe_V} {o2 : Option pe_V} {x3 : Int} {s1 : Int} {s2 : Int}  (w0 : pe_in s1 := by unfold pe_in; omega) (h0 : 0 ≤ s1 := by first | assumption | omega) (h1 : s1 < 80 := by first | assumption | omega) (k : pe_X d 186 (94, [some (.inr (.inr M)), o1, pe_nl o2, some (.inl (x3 + 1))], [], pm_h M σ q (pm_u y 3 s1 s2)) Φ) : pe_X d 186 (131, [some (.inr (.inr M)), o1, o2, some (.inl x3)], [.inl s2, .inl s1, .inr (.inr (M + 3))], pm_h M σ q y) Φ := by
  have hM2 := pm_2 hF
  refine pe_blk 74 3 ck186 [pe_K (pm_h M σ q y) (M + 3) = 10, 0 ≤ (pe_w s1), (pe_w s1) < pe_L (pm_h M σ q y) (M + 3), 2 ≤ (M + 3)] (94, [some (.inr (.inr M)), o1, pe_nl o2, some (.inl (x3 + 1))], [], pe_wI (pm_h M σ q y) (M + 3) (pe_w s1) s2) rfl ?_ ?_
  · first
    | (simp (disch := omega) only [pe_all, pe_wi w0, pe_K_wI, pe_K_wR, pe_L_wI, pe_L_wR, pm_K3 hF, pm_Kh, pm_L3 hF, pm_Lh, pm_wIk]; done)
    | (simp (disch := omega) only [pe_all, pe_wi w0, pe_K_wI, pe_K_wR, pe_L_wI, pe_L_wR, pm_K3 hF, pm_Kh, pm_L3 hF, pm_Lh, pm_wIk]; (repeat' apply And.intro) <;> first | assumption | omega | decide)
  · try simp (disch := omega) only [pe_wi w0, pe_K_wI, pe_K_wR, pe_L_wI, pe_L_wR, pm_K3 hF, pm_Kh, pm_L3 hF, pm_Lh, pm_wIk]
    exact k
set_option maxRecDepth 8000 in
theorem b186_138 {d : Nat} {Φ : Option pe_V → pe_H → Prop} {σ : pe_H} {M q : Nat} {y : Nat → Int → Int} (hF : pm_F M σ) {o1 : Option pe_V} {o2 : Option pe_V} {o3 : Option pe_V}    (k : pe_X d 186 (140, [some (.inr (.inr M)), o1, pe_nl o2, some (.inl 0)], [], pm_h M σ q y) Φ) : pe_X d 186 (138, [some (.inr (.inr M)), o1, o2, o3], [], pm_h M σ q y) Φ := by
  refine pe_blk 77 2 ck186 [] (140, [some (.inr (.inr M)), o1, pe_nl o2, some (.inl 0)], [], pm_h M σ q y) rfl ?_ ?_
  · exact trivial
  · exact k
set_option maxRecDepth 8000 in
theorem b186_140 {d : Nat} {Φ : Option pe_V → pe_H → Prop} {σ : pe_H} {M q : Nat} {y : Nat → Int → Int} (hF : pm_F M σ) {o1 : Option pe_V} {o2 : Option pe_V} {x3 : Int}  (w0 : pe_in x3 := by unfold pe_in; omega)  (k1 : 8 ≤ x3 → pe_X d 186 (328, [some (.inr (.inr M)), o1, o2, some (.inl x3)], [], pm_h M σ q y) Φ) (k2 : ¬ (8 ≤ x3) → pe_X d 186 (146, [some (.inr (.inr M)), o1, o2, some (.inl x3)], [], pm_h M σ q y) Φ) : pe_X d 186 (140, [some (.inr (.inr M)), o1, o2, some (.inl x3)], [], pm_h M σ q y) Φ := by
  refine pe_blk 79 3 ck186 [] (cond (decide ((pe_w 8) ≤ (pe_w x3))) 328 146, [some (.inr (.inr M)), o1, o2, some (.inl x3)], [], pm_h M σ q y) rfl ?_ ?_
  · exact trivial
  · try simp (disch := omega) only [pe_wi w0, pe_wi (x := 8) ⟨by decide, by decide⟩]
    exact pe_two k1 k2
set_option maxRecDepth 8000 in
theorem b186_146 {d : Nat} {Φ : Option pe_V → pe_H → Prop} {σ : pe_H} {M q : Nat} {y : Nat → Int → Int} (hF : pm_F M σ) {o1 : Option pe_V} {o2 : Option pe_V} {x3 : Int}  (w0 : pe_in x3 := by unfold pe_in; omega) (h0 : 0 ≤ x3 := by first | assumption | omega) (h1 : x3 < 8 := by first | assumption | omega) (k : pe_M d 184 [.inr (.inr M), .inl (y 4 x3)] (pm_h M σ q y) (fun r σ' => pe_X d 186 (161, [some (.inr (.inr M)), o1, o2, some (.inl x3)], r.toList ++ [.inl x3, .inr (.inr (M + 4))], σ') Φ)) : pe_X d 186 (146, [some (.inr (.inr M)), o1, o2, some (.inl x3)], [], pm_h M σ q y) Φ := by
  refine pe_blk 82 8 ck186 [pe_K (pm_h M σ q y) M = 9, pe_K (pm_h M σ q y) M = 9, pe_K (pm_h M σ q y) (pe_R (pm_h M σ q y) M 4) = 10, 0 ≤ (pe_w x3), (pe_w x3) < pe_L (pm_h M σ q y) (pe_R (pm_h M σ q y) M 4)] (158, [some (.inr (.inr M)), o1, o2, some (.inl x3)], [.inl (pe_I (pm_h M σ q y) (pe_R (pm_h M σ q y) M 4) (pe_w x3)), .inr (.inr M), .inl x3, .inr (.inr (pe_R (pm_h M σ q y) M 4))], pm_h M σ q y) rfl ?_ ?_
  · first
    | (simp (disch := omega) only [pe_all, pe_wi w0, pe_I_wR, pe_K_wI, pe_K_wR, pe_L_wI, pe_L_wR, pe_R_nej, pe_R_wI, pm_Ik, pm_K4 hF, pm_KM hF, pm_Kh, pm_L4 hF, pm_Lh, pm_R4 hF, pm_Rh, pm_uj, pm_uk, pm_us]; done)
    | (simp (disch := omega) only [pe_all, pe_wi w0, pe_I_wR, pe_K_wI, pe_K_wR, pe_L_wI, pe_L_wR, pe_R_nej, pe_R_wI, pm_Ik, pm_K4 hF, pm_KM hF, pm_Kh, pm_L4 hF, pm_Lh, pm_R4 hF, pm_Rh, pm_uj, pm_uk, pm_us]; (repeat' apply And.intro) <;> first | assumption | omega | decide)
  · try simp (disch := omega) only [pe_wi w0, pe_I_wR, pe_K_wI, pe_K_wR, pe_L_wI, pe_L_wR, pe_R_nej, pe_R_wI, pm_Ik, pm_K4 hF, pm_KM hF, pm_Kh, pm_L4 hF, pm_Lh, pm_R4 hF, pm_Rh, pm_uj, pm_uk, pm_us]
    have hrc : pe_K (pm_h M σ q y) M = 9 := by first | assumption | (simp (disch := omega) only [pe_wi w0, pe_I_wR, pe_K_wI, pe_K_wR, pe_L_wI, pe_L_wR, pe_R_nej, pe_R_wI, pm_Ik, pm_K4 hF, pm_KM hF, pm_Kh, pm_L4 hF, pm_Lh, pm_R4 hF, pm_Rh, pm_uj, pm_uk, pm_us]; done) | (simp (disch := omega) only [pe_wi w0, pe_I_wR, pe_K_wI, pe_K_wR, pe_L_wI, pe_L_wR, pe_R_nej, pe_R_wI, pm_Ik, pm_K4 hF, pm_KM hF, pm_Kh, pm_L4 hF, pm_Lh, pm_R4 hF, pm_Rh, pm_uj, pm_uk, pm_us]; assumption)
    exact pe_cal 90 ck186 rfl rfl rfl ⟨hrc, by decide⟩ k
set_option maxRecDepth 8000 in
theorem b186_161 {d : Nat} {Φ : Option pe_V → pe_H → Prop} {σ : pe_H} {M q : Nat} {y : Nat → Int → Int} (hF : pm_F M σ) {o1 : Option pe_V} {o2 : Option pe_V} {x3 : Int} {s1 : Int} {s2 : Int}  (w0 : pe_in s1 := by unfold pe_in; omega) (w1 : pe_in x3 := by unfold pe_in; omega) (h0 : 0 ≤ s1 := by first | assumption | omega) (h1 : s1 < 8 := by first | assumption | omega) (h2 : 0 ≤ x3 := by first | assumption | omega) (h3 : x3 < 8 := by first | assumption | omega) (k : pe_M d 184 [.inr (.inr M), .inl (y 5 x3)] (pm_h M σ q (pm_u y 4 s1 s2)) (fun r σ' => pe_X d 186 (177, [some (.inr (.inr M)), o1, o2, some (.inl x3)], r.toList ++ [.inl x3, .inr (.inr (M + 5))], σ') Φ)) : pe_X d 186 (161, [some (.inr (.inr M)), o1, o2, some (.inl x3)], [.inl s2, .inl s1, .inr (.inr (M + 4))], pm_h M σ q y) Φ := by
  have hM2 := pm_2 hF
  refine pe_blk 91 9 ck186 [pe_K (pm_h M σ q y) (M + 4) = 10, 0 ≤ (pe_w s1), (pe_w s1) < pe_L (pm_h M σ q y) (M + 4), 2 ≤ (M + 4), pe_K (pe_wI (pm_h M σ q y) (M + 4) (pe_w s1) s2) M = 9, pe_K (pe_wI (pm_h M σ q y) (M + 4) (pe_w s1) s2) M = 9, pe_K (pe_wI (pm_h M σ q y) (M + 4) (pe_w s1) s2) (pe_R (pe_wI (pm_h M σ q y) (M + 4) (pe_w s1) s2) M 5) = 10, 0 ≤ (pe_w x3), (pe_w x3) < pe_L (pe_wI (pm_h M σ q y) (M + 4) (pe_w s1) s2) (pe_R (pe_wI (pm_h M σ q y) (M + 4) (pe_w s1) s2) M 5)] (174, [some (.inr (.inr M)), o1, o2, some (.inl x3)], [.inl (pe_I (pe_wI (pm_h M σ q y) (M + 4) (pe_w s1) s2) (pe_R (pe_wI (pm_h M σ q y) (M + 4) (pe_w s1) s2) M 5) (pe_w x3)), .inr (.inr M), .inl x3, .inr (.inr (pe_R (pe_wI (pm_h M σ q y) (M + 4) (pe_w s1) s2) M 5))], pe_wI (pm_h M σ q y) (M + 4) (pe_w s1) s2) rfl ?_ ?_
  · first
    | (simp (disch := omega) only [pe_all, pe_wi w0, pe_wi w1, pe_I_wR, pe_K_wI, pe_K_wR, pe_L_wI, pe_L_wR, pe_R_nej, pe_R_wI, pm_Ik, pm_K4 hF, pm_K5 hF, pm_KM hF, pm_Kh, pm_L4 hF, pm_L5 hF, pm_Lh, pm_R5 hF, pm_Rh, pm_uj, pm_uk, pm_us, pm_wIk]; done)
    | (simp (disch := omega) only [pe_all, pe_wi w0, pe_wi w1, pe_I_wR, pe_K_wI, pe_K_wR, pe_L_wI, pe_L_wR, pe_R_nej, pe_R_wI, pm_Ik, pm_K4 hF, pm_K5 hF, pm_KM hF, pm_Kh, pm_L4 hF, pm_L5 hF, pm_Lh, pm_R5 hF, pm_Rh, pm_uj, pm_uk, pm_us, pm_wIk]; (repeat' apply And.intro) <;> first | assumption | omega | decide)
  · try simp (disch := omega) only [pe_wi w0, pe_wi w1, pe_I_wR, pe_K_wI, pe_K_wR, pe_L_wI, pe_L_wR, pe_R_nej, pe_R_wI, pm_Ik, pm_K4 hF, pm_K5 hF, pm_KM hF, pm_Kh, pm_L4 hF, pm_L5 hF, pm_Lh, pm_R5 hF, pm_Rh, pm_uj, pm_uk, pm_us, pm_wIk]
    have hrc : pe_K (pm_h M σ q (pm_u y 4 s1 s2)) M = 9 := by first | assumption | (simp (disch := omega) only [pe_wi w0, pe_wi w1, pe_I_wR, pe_K_wI, pe_K_wR, pe_L_wI, pe_L_wR, pe_R_nej, pe_R_wI, pm_Ik, pm_K4 hF, pm_K5 hF, pm_KM hF, pm_Kh, pm_L4 hF, pm_L5 hF, pm_Lh, pm_R5 hF, pm_Rh, pm_uj, pm_uk, pm_us, pm_wIk]; done) | (simp (disch := omega) only [pe_wi w0, pe_wi w1, pe_I_wR, pe_K_wI, pe_K_wR, pe_L_wI, pe_L_wR, pe_R_nej, pe_R_wI, pm_Ik, pm_K4 hF, pm_K5 hF, pm_KM hF, pm_Kh, pm_L4 hF, pm_L5 hF, pm_Lh, pm_R5 hF, pm_Rh, pm_uj, pm_uk, pm_us, pm_wIk]; assumption)
    exact pe_cal 100 ck186 rfl rfl rfl ⟨hrc, by decide⟩ k
set_option maxRecDepth 8000 in
theorem b186_177 {d : Nat} {Φ : Option pe_V → pe_H → Prop} {σ : pe_H} {M q : Nat} {y : Nat → Int → Int} (hF : pm_F M σ) {o1 : Option pe_V} {o2 : Option pe_V} {x3 : Int} {s1 : Int} {s2 : Int}  (w0 : pe_in s1 := by unfold pe_in; omega) (w1 : pe_in x3 := by unfold pe_in; omega) (h0 : 0 ≤ s1 := by first | assumption | omega) (h1 : s1 < 8 := by first | assumption | omega) (h2 : 0 ≤ x3 := by first | assumption | omega) (h3 : x3 < 8 := by first | assumption | omega) (k : pe_M d 184 [.inr (.inr M), .inl (y 6 x3)] (pm_h M σ q (pm_u y 5 s1 s2)) (fun r σ' => pe_X d 186 (193, [some (.inr (.inr M)), o1, o2, some (.inl x3)], r.toList ++ [.inl x3, .inr (.inr (M + 6))], σ') Φ)) : pe_X d 186 (177, [some (.inr (.inr M)), o1, o2, some (.inl x3)], [.inl s2, .inl s1, .inr (.inr (M + 5))], pm_h M σ q y) Φ := by
  have hM2 := pm_2 hF
  refine pe_blk 101 9 ck186 [pe_K (pm_h M σ q y) (M + 5) = 10, 0 ≤ (pe_w s1), (pe_w s1) < pe_L (pm_h M σ q y) (M + 5), 2 ≤ (M + 5), pe_K (pe_wI (pm_h M σ q y) (M + 5) (pe_w s1) s2) M = 9, pe_K (pe_wI (pm_h M σ q y) (M + 5) (pe_w s1) s2) M = 9, pe_K (pe_wI (pm_h M σ q y) (M + 5) (pe_w s1) s2) (pe_R (pe_wI (pm_h M σ q y) (M + 5) (pe_w s1) s2) M 6) = 10, 0 ≤ (pe_w x3), (pe_w x3) < pe_L (pe_wI (pm_h M σ q y) (M + 5) (pe_w s1) s2) (pe_R (pe_wI (pm_h M σ q y) (M + 5) (pe_w s1) s2) M 6)] (190, [some (.inr (.inr M)), o1, o2, some (.inl x3)], [.inl (pe_I (pe_wI (pm_h M σ q y) (M + 5) (pe_w s1) s2) (pe_R (pe_wI (pm_h M σ q y) (M + 5) (pe_w s1) s2) M 6) (pe_w x3)), .inr (.inr M), .inl x3, .inr (.inr (pe_R (pe_wI (pm_h M σ q y) (M + 5) (pe_w s1) s2) M 6))], pe_wI (pm_h M σ q y) (M + 5) (pe_w s1) s2) rfl ?_ ?_
  · first
    | (simp (disch := omega) only [pe_all, pe_wi w0, pe_wi w1, pe_I_wR, pe_K_wI, pe_K_wR, pe_L_wI, pe_L_wR, pe_R_nej, pe_R_wI, pm_Ik, pm_K5 hF, pm_K6 hF, pm_KM hF, pm_Kh, pm_L5 hF, pm_L6 hF, pm_Lh, pm_R6 hF, pm_Rh, pm_uj, pm_uk, pm_us, pm_wIk]; done)
    | (simp (disch := omega) only [pe_all, pe_wi w0, pe_wi w1, pe_I_wR, pe_K_wI, pe_K_wR, pe_L_wI, pe_L_wR, pe_R_nej, pe_R_wI, pm_Ik, pm_K5 hF, pm_K6 hF, pm_KM hF, pm_Kh, pm_L5 hF, pm_L6 hF, pm_Lh, pm_R6 hF, pm_Rh, pm_uj, pm_uk, pm_us, pm_wIk]; (repeat' apply And.intro) <;> first | assumption | omega | decide)
  · try simp (disch := omega) only [pe_wi w0, pe_wi w1, pe_I_wR, pe_K_wI, pe_K_wR, pe_L_wI, pe_L_wR, pe_R_nej, pe_R_wI, pm_Ik, pm_K5 hF, pm_K6 hF, pm_KM hF, pm_Kh, pm_L5 hF, pm_L6 hF, pm_Lh, pm_R6 hF, pm_Rh, pm_uj, pm_uk, pm_us, pm_wIk]
    have hrc : pe_K (pm_h M σ q (pm_u y 5 s1 s2)) M = 9 := by first | assumption | (simp (disch := omega) only [pe_wi w0, pe_wi w1, pe_I_wR, pe_K_wI, pe_K_wR, pe_L_wI, pe_L_wR, pe_R_nej, pe_R_wI, pm_Ik, pm_K5 hF, pm_K6 hF, pm_KM hF, pm_Kh, pm_L5 hF, pm_L6 hF, pm_Lh, pm_R6 hF, pm_Rh, pm_uj, pm_uk, pm_us, pm_wIk]; done) | (simp (disch := omega) only [pe_wi w0, pe_wi w1, pe_I_wR, pe_K_wI, pe_K_wR, pe_L_wI, pe_L_wR, pe_R_nej, pe_R_wI, pm_Ik, pm_K5 hF, pm_K6 hF, pm_KM hF, pm_Kh, pm_L5 hF, pm_L6 hF, pm_Lh, pm_R6 hF, pm_Rh, pm_uj, pm_uk, pm_us, pm_wIk]; assumption)
    exact pe_cal 110 ck186 rfl rfl rfl ⟨hrc, by decide⟩ k
set_option maxRecDepth 8000 in
theorem b186_193 {d : Nat} {Φ : Option pe_V → pe_H → Prop} {σ : pe_H} {M q : Nat} {y : Nat → Int → Int} (hF : pm_F M σ) {o1 : Option pe_V} {o2 : Option pe_V} {x3 : Int} {s1 : Int} {s2 : Int}  (w0 : pe_in s1 := by unfold pe_in; omega) (w1 : pe_in x3 := by unfold pe_in; omega) (h0 : 0 ≤ s1 := by first | assumption | omega) (h1 : s1 < 8 := by first | assumption | omega) (h2 : 0 ≤ x3 := by first | assumption | omega) (h3 : x3 < 8 := by first | assumption | omega) (k : pe_M d 184 [.inr (.inr M), .inl (y 7 x3)] (pm_h M σ q (pm_u y 6 s1 s2)) (fun r σ' => pe_X d 186 (209, [some (.inr (.inr M)), o1, o2, some (.inl x3)], r.toList ++ [.inl x3, .inr (.inr (M + 7))], σ') Φ)) : pe_X d 186 (193, [some (.inr (.inr M)), o1, o2, some (.inl x3)], [.inl s2, .inl s1, .inr (.inr (M + 6))], pm_h M σ q y) Φ := by
  have hM2 := pm_2 hF
  refine pe_blk 111 9 ck186 [pe_K (pm_h M σ q y) (M + 6) = 10, 0 ≤ (pe_w s1), (pe_w s1) < pe_L (pm_h M σ q y) (M + 6), 2 ≤ (M + 6), pe_K (pe_wI (pm_h M σ q y) (M + 6) (pe_w s1) s2) M = 9, pe_K (pe_wI (pm_h M σ q y) (M + 6) (pe_w s1) s2) M = 9, pe_K (pe_wI (pm_h M σ q y) (M + 6) (pe_w s1) s2) (pe_R (pe_wI (pm_h M σ q y) (M + 6) (pe_w s1) s2) M 7) = 10, 0 ≤ (pe_w x3), (pe_w x3) < pe_L (pe_wI (pm_h M σ q y) (M + 6) (pe_w s1) s2) (pe_R (pe_wI (pm_h M σ q y) (M + 6) (pe_w s1) s2) M 7)] (206, [some (.inr (.inr M)), o1, o2, some (.inl x3)], [.inl (pe_I (pe_wI (pm_h M σ q y) (M + 6) (pe_w s1) s2) (pe_R (pe_wI (pm_h M σ q y) (M + 6) (pe_w s1) s2) M 7) (pe_w x3)), .inr (.inr M), .inl x3, .inr (.inr (pe_R (pe_wI (pm_h M σ q y) (M + 6) (pe_w s1) s2) M 7))], pe_wI (pm_h M σ q y) (M + 6) (pe_w s1) s2) rfl ?_ ?_
  · first
    | (simp (disch := omega) only [pe_all, pe_wi w0, pe_wi w1, pe_I_wR, pe_K_wI, pe_K_wR, pe_L_wI, pe_L_wR, pe_R_nej, pe_R_wI, pm_Ik, pm_K6 hF, pm_K7 hF, pm_KM hF, pm_Kh, pm_L6 hF, pm_L7 hF, pm_Lh, pm_R7 hF, pm_Rh, pm_uj, pm_uk, pm_us, pm_wIk]; done)
    | (simp (disch := omega) only [pe_all, pe_wi w0, pe_wi w1, pe_I_wR, pe_K_wI, pe_K_wR, pe_L_wI, pe_L_wR, pe_R_nej, pe_R_wI, pm_Ik, pm_K6 hF, pm_K7 hF, pm_KM hF, pm_Kh, pm_L6 hF, pm_L7 hF, pm_Lh, pm_R7 hF, pm_Rh, pm_uj, pm_uk, pm_us, pm_wIk]; (repeat' apply And.intro) <;> first | assumption | omega | decide)
  · try simp (disch := omega) only [pe_wi w0, pe_wi w1, pe_I_wR, pe_K_wI, pe_K_wR, pe_L_wI, pe_L_wR, pe_R_nej, pe_R_wI, pm_Ik, pm_K6 hF, pm_K7 hF, pm_KM hF, pm_Kh, pm_L6 hF, pm_L7 hF, pm_Lh, pm_R7 hF, pm_Rh, pm_uj, pm_uk, pm_us, pm_wIk]
    have hrc : pe_K (pm_h M σ q (pm_u y 6 s1 s2)) M = 9 := by first | assumption | (simp (disch := omega) only [pe_wi w0, pe_wi w1, pe_I_wR, pe_K_wI, pe_K_wR, pe_L_wI, pe_L_wR, pe_R_nej, pe_R_wI, pm_Ik, pm_K6 hF, pm_K7 hF, pm_KM hF, pm_Kh, pm_L6 hF, pm_L7 hF, pm_Lh, pm_R7 hF, pm_Rh, pm_uj, pm_uk, pm_us, pm_wIk]; done) | (simp (disch := omega) only [pe_wi w0, pe_wi w1, pe_I_wR, pe_K_wI, pe_K_wR, pe_L_wI, pe_L_wR, pe_R_nej, pe_R_wI, pm_Ik, pm_K6 hF, pm_K7 hF, pm_KM hF, pm_Kh, pm_L6 hF, pm_L7 hF, pm_Lh, pm_R7 hF, pm_Rh, pm_uj, pm_uk, pm_us, pm_wIk]; assumption)
    exact pe_cal 120 ck186 rfl rfl rfl ⟨hrc, by decide⟩ k
set_option maxRecDepth 8000 in
theorem b186_209 {d : Nat} {Φ : Option pe_V → pe_H → Prop} {σ : pe_H} {M q : Nat} {y : Nat → Int → Int} (hF : pm_F M σ) {o1 : Option pe_V} {o2 : Option pe_V} {x3 : Int} {s1 : Int} {s2 : Int}  (w0 : pe_in s1 := by unfold pe_in; omega) (w1 : pe_in x3 := by unfold pe_in; omega) (h0 : 0 ≤ s1 := by first | assumption | omega) (h1 : s1 < 8 := by first | assumption | omega) (h2 : 0 ≤ x3 := by first | assumption | omega) (h3 : x3 < 8 := by first | assumption | omega) (k : pe_M d 184 [.inr (.inr M), .inl (y 8 x3)] (pm_h M σ q (pm_u y 7 s1 s2)) (fun r σ' => pe_X d 186 (225, [some (.inr (.inr M)), o1, o2, some (.inl x3)], r.toList ++ [.inl x3, .inr (.inr (M + 8))], σ') Φ)) : pe_X d 186 (209, [some (.inr (.inr M)), o1, o2, some (.inl x3)], [.inl s2, .inl s1, .inr (.inr (M + 7))], pm_h M σ q y) Φ := by
  have hM2 := pm_2 hF
  refine pe_blk 121 9 ck186 [pe_K (pm_h M σ q y) (M + 7) = 10, 0 ≤ (pe_w s1), (pe_w s1) < pe_L (pm_h M σ q y) (M + 7), 2 ≤ (M + 7), pe_K (pe_wI (pm_h M σ q y) (M + 7) (pe_w s1) s2) M = 9, pe_K (pe_wI (pm_h M σ q y) (M + 7) (pe_w s1) s2) M = 9, pe_K (pe_wI (pm_h M σ q y) (M + 7) (pe_w s1) s2) (pe_R (pe_wI (pm_h M σ q y) (M + 7) (pe_w s1) s2) M 8) = 10, 0 ≤ (pe_w x3), (pe_w x3) < pe_L (pe_wI (pm_h M σ q y) (M + 7) (pe_w s1) s2) (pe_R (pe_wI (pm_h M σ q y) (M + 7) (pe_w s1) s2) M 8)] (222, [some (.inr (.inr M)), o1, o2, some (.inl x3)], [.inl (pe_I (pe_wI (pm_h M σ q y) (M + 7) (pe_w s1) s2) (pe_R (pe_wI (pm_h M σ q y) (M + 7) (pe_w s1) s2) M 8) (pe_w x3)), .inr (.inr M), .inl x3, .inr (.inr (pe_R (pe_wI (pm_h M σ q y) (M + 7) (pe_w s1) s2) M 8))], pe_wI (pm_h M σ q y) (M + 7) (pe_w s1) s2) rfl ?_ ?_
  · first
    | (simp (disch := omega) only [pe_all, pe_wi w0, pe_wi w1, pe_I_wR, pe_K_wI, pe_K_wR, pe_L_wI, pe_L_wR, pe_R_nej, pe_R_wI, pm_Ik, pm_K7 hF, pm_K8 hF, pm_KM hF, pm_Kh, pm_L7 hF, pm_L8 hF, pm_Lh, pm_R8 hF, pm_Rh, pm_uj, pm_uk, pm_us, pm_wIk]; done)
    | (simp (disch := omega) only [pe_all, pe_wi w0, pe_wi w1, pe_I_wR, pe_K_wI, pe_K_wR, pe_L_wI, pe_L_wR, pe_R_nej, pe_R_wI, pm_Ik, pm_K7 hF, pm_K8 hF, pm_KM hF, pm_Kh, pm_L7 hF, pm_L8 hF, pm_Lh, pm_R8 hF, pm_Rh, pm_uj, pm_uk, pm_us, pm_wIk]; (repeat' apply And.intro) <;> first | assumption | omega | decide)
  · try simp (disch := omega) only [pe_wi w0, pe_wi w1, pe_I_wR, pe_K_wI, pe_K_wR, pe_L_wI, pe_L_wR, pe_R_nej, pe_R_wI, pm_Ik, pm_K7 hF, pm_K8 hF, pm_KM hF, pm_Kh, pm_L7 hF, pm_L8 hF, pm_Lh, pm_R8 hF, pm_Rh, pm_uj, pm_uk, pm_us, pm_wIk]
    have hrc : pe_K (pm_h M σ q (pm_u y 7 s1 s2)) M = 9 := by first | assumption | (simp (disch := omega) only [pe_wi w0, pe_wi w1, pe_I_wR, pe_K_wI, pe_K_wR, pe_L_wI, pe_L_wR, pe_R_nej, pe_R_wI, pm_Ik, pm_K7 hF, pm_K8 hF, pm_KM hF, pm_Kh, pm_L7 hF, pm_L8 hF, pm_Lh, pm_R8 hF, pm_Rh, pm_uj, pm_uk, pm_us, pm_wIk]; done) | (simp (disch := omega) only [pe_wi w0, pe_wi w1, pe_I_wR, pe_K_wI, pe_K_wR, pe_L_wI, pe_L_wR, pe_R_nej, pe_R_wI, pm_Ik, pm_K7 hF, pm_K8 hF, pm_KM hF, pm_Kh, pm_L7 hF, pm_L8 hF, pm_Lh, pm_R8 hF, pm_Rh, pm_uj, pm_uk, pm_us, pm_wIk]; assumption)
    exact pe_cal 130 ck186 rfl rfl rfl ⟨hrc, by decide⟩ k
set_option maxRecDepth 8000 in
theorem b186_225 {d : Nat} {Φ : Option pe_V → pe_H → Prop} {σ : pe_H} {M q : Nat} {y : Nat → Int → Int} (hF : pm_F M σ) {o1 : Option pe_V} {o2 : Option pe_V} {x3 : Int} {s1 : Int} {s2 : Int}  (w0 : pe_in s1 := by unfold pe_in; omega) (w1 : pe_in x3 := by unfold pe_in; omega) (h0 : 0 ≤ s1 := by first | assumption | omega) (h1 : s1 < 8 := by first | assumption | omega) (h2 : 0 ≤ x3 := by first | assumption | omega) (h3 : x3 < 8 := by first | assumption | omega) (k : pe_M d 184 [.inr (.inr M), .inl (y 9 x3)] (pm_h M σ q (pm_u y 8 s1 s2)) (fun r σ' => pe_X d 186 (241, [some (.inr (.inr M)), o1, o2, some (.inl x3)], r.toList ++ [.inl x3, .inr (.inr (M + 9))], σ') Φ)) : pe_X d 186 (225, [some (.inr (.inr M)), o1, o2, some (.inl x3)], [.inl s2, .inl s1, .inr (.inr (M + 8))], pm_h M σ q y) Φ := by
  have hM2 := pm_2 hF
  refine pe_blk 131 9 ck186 [pe_K (pm_h M σ q y) (M + 8) = 10, 0 ≤ (pe_w s1), (pe_w s1) < pe_L (pm_h M σ q y) (M + 8), 2 ≤ (M + 8), pe_K (pe_wI (pm_h M σ q y) (M + 8) (pe_w s1) s2) M = 9, pe_K (pe_wI (pm_h M σ q y) (M + 8) (pe_w s1) s2) M = 9, pe_K (pe_wI (pm_h M σ q y) (M + 8) (pe_w s1) s2) (pe_R (pe_wI (pm_h M σ q y) (M + 8) (pe_w s1) s2) M 9) = 10, 0 ≤ (pe_w x3), (pe_w x3) < pe_L (pe_wI (pm_h M σ q y) (M + 8) (pe_w s1) s2) (pe_R (pe_wI (pm_h M σ q y) (M + 8) (pe_w s1) s2) M 9)] (238, [some (.inr (.inr M)), o1, o2, some (.inl x3)], [.inl (pe_I (pe_wI (pm_h M σ q y) (M + 8) (pe_w s1) s2) (pe_R (pe_wI (pm_h M σ q y) (M + 8) (pe_w s1) s2) M 9) (pe_w x3)), .inr (.inr M), .inl x3, .inr (.inr (pe_R (pe_wI (pm_h M σ q y) (M + 8) (pe_w s1) s2) M 9))], pe_wI (pm_h M σ q y) (M + 8) (pe_w s1) s2) rfl ?_ ?_
  · first
    | (simp (disch := omega) only [pe_all, pe_wi w0, pe_wi w1, pe_I_wR, pe_K_wI, pe_K_wR, pe_L_wI, pe_L_wR, pe_R_nej, pe_R_wI, pm_Ik, pm_K8 hF, pm_K9 hF, pm_KM hF, pm_Kh, pm_L8 hF, pm_L9 hF, pm_Lh, pm_R9 hF, pm_Rh, pm_uj, pm_uk, pm_us, pm_wIk]; done)
    | (simp (disch := omega) only [pe_all, pe_wi w0, pe_wi w1, pe_I_wR, pe_K_wI, pe_K_wR, pe_L_wI, pe_L_wR, pe_R_nej, pe_R_wI, pm_Ik, pm_K8 hF, pm_K9 hF, pm_KM hF, pm_Kh, pm_L8 hF, pm_L9 hF, pm_Lh, pm_R9 hF, pm_Rh, pm_uj, pm_uk, pm_us, pm_wIk]; (repeat' apply And.intro) <;> first | assumption | omega | decide)
  · try simp (disch := omega) only [pe_wi w0, pe_wi w1, pe_I_wR, pe_K_wI, pe_K_wR, pe_L_wI, pe_L_wR, pe_R_nej, pe_R_wI, pm_Ik, pm_K8 hF, pm_K9 hF, pm_KM hF, pm_Kh, pm_L8 hF, pm_L9 hF, pm_Lh, pm_R9 hF, pm_Rh, pm_uj, pm_uk, pm_us, pm_wIk]
    have hrc : pe_K (pm_h M σ q (pm_u y 8 s1 s2)) M = 9 := by first | assumption | (simp (disch := omega) only [pe_wi w0, pe_wi w1, pe_I_wR, pe_K_wI, pe_K_wR, pe_L_wI, pe_L_wR, pe_R_nej, pe_R_wI, pm_Ik, pm_K8 hF, pm_K9 hF, pm_KM hF, pm_Kh, pm_L8 hF, pm_L9 hF, pm_Lh, pm_R9 hF, pm_Rh, pm_uj, pm_uk, pm_us, pm_wIk]; done) | (simp (disch := omega) only [pe_wi w0, pe_wi w1, pe_I_wR, pe_K_wI, pe_K_wR, pe_L_wI, pe_L_wR, pe_R_nej, pe_R_wI, pm_Ik, pm_K8 hF, pm_K9 hF, pm_KM hF, pm_Kh, pm_L8 hF, pm_L9 hF, pm_Lh, pm_R9 hF, pm_Rh, pm_uj, pm_uk, pm_us, pm_wIk]; assumption)
    exact pe_cal 140 ck186 rfl rfl rfl ⟨hrc, by decide⟩ k
set_option maxRecDepth 8000 in
theorem b186_241 {d : Nat} {Φ : Option pe_V → pe_H → Prop} {σ : pe_H} {M q : Nat} {y : Nat → Int → Int} (hF : pm_F M σ) {o1 : Option pe_V} {o2 : Option pe_V} {x3 : Int} {s1 : Int} {s2 : Int}  (w0 : pe_in s1 := by unfold pe_in; omega) (w1 : pe_in x3 := by unfold pe_in; omega) (h0 : 0 ≤ s1 := by first | assumption | omega) (h1 : s1 < 8 := by first | assumption | omega) (h2 : 0 ≤ x3 := by first | assumption | omega) (h3 : x3 < 8 := by first | assumption | omega) (k : pe_M d 184 [.inr (.inr M), .inl (y 10 x3)] (pm_h M σ q (pm_u y 9 s1 s2)) (fun r σ' => pe_X d 186 (257, [some (.inr (.inr M)), o1, o2, some (.inl x3)], r.toList ++ [.inl x3, .inr (.inr (M + 10))], σ') Φ)) : pe_X d 186 (241, [some (.inr (.inr M)), o1, o2, some (.inl x3)], [.inl s2, .inl s1, .inr (.inr (M + 9))], pm_h M σ q y) Φ := by
  have hM2 := pm_2 hF
  refine pe_blk 141 9 ck186 [pe_K (pm_h M σ q y) (M + 9) = 10, 0 ≤ (pe_w s1), (pe_w s1) < pe_L (pm_h M σ q y) (M + 9), 2 ≤ (M + 9), pe_K (pe_wI (pm_h M σ q y) (M + 9) (pe_w s1) s2) M = 9, pe_K (pe_wI (pm_h M σ q y) (M + 9) (pe_w s1) s2) M = 9, pe_K (pe_wI (pm_h M σ q y) (M + 9) (pe_w s1) s2) (pe_R (pe_wI (pm_h M σ q y) (M + 9) (pe_w s1) s2) M 10) = 10, 0 ≤ (pe_w x3), (pe_w x3) < pe_L (pe_wI (pm_h M σ q y) (M + 9) (pe_w s1) s2) (pe_R (pe_wI (pm_h M σ q y) (M + 9) (pe_w s1) s2) M 10)] (254, [some (.inr (.inr M)), o1, o2, some (.inl x3)], [.inl (pe_I (pe_wI (pm_h M σ q y) (M + 9) (pe_w s1) s2) (pe_R (pe_wI (pm_h M σ q y) (M + 9) (pe_w s1) s2) M 10) (pe_w x3)), .inr (.inr M), .inl x3, .inr (.inr (pe_R (pe_wI (pm_h M σ q y) (M + 9) (pe_w s1) s2) M 10))], pe_wI (pm_h M σ q y) (M + 9) (pe_w s1) s2) rfl ?_ ?_
  · first
    | (simp (disch := omega) only [pe_all, pe_wi w0, pe_wi w1, pe_I_wR, pe_K_wI, pe_K_wR, pe_L_wI, pe_L_wR, pe_R_nej, pe_R_wI, pm_Ik, pm_K10 hF, pm_K9 hF, pm_KM hF, pm_Kh, pm_L10 hF, pm_L9 hF, pm_Lh, pm_R10 hF, pm_Rh, pm_uj, pm_uk, pm_us, pm_wIk]; done)
    | (simp (disch := omega) only [pe_all, pe_wi w0, pe_wi w1, pe_I_wR, pe_K_wI, pe_K_wR, pe_L_wI, pe_L_wR, pe_R_nej, pe_R_wI, pm_Ik, pm_K10 hF, pm_K9 hF, pm_KM hF, pm_Kh, pm_L10 hF, pm_L9 hF, pm_Lh, pm_R10 hF, pm_Rh, pm_uj, pm_uk, pm_us, pm_wIk]; (repeat' apply And.intro) <;> first | assumption | omega | decide)
  · try simp (disch := omega) only [pe_wi w0, pe_wi w1, pe_I_wR, pe_K_wI, pe_K_wR, pe_L_wI, pe_L_wR, pe_R_nej, pe_R_wI, pm_Ik, pm_K10 hF, pm_K9 hF, pm_KM hF, pm_Kh, pm_L10 hF, pm_L9 hF, pm_Lh, pm_R10 hF, pm_Rh, pm_uj, pm_uk, pm_us, pm_wIk]
    have hrc : pe_K (pm_h M σ q (pm_u y 9 s1 s2)) M = 9 := by first | assumption | (simp (disch := omega) only [pe_wi w0, pe_wi w1, pe_I_wR, pe_K_wI, pe_K_wR, pe_L_wI, pe_L_wR, pe_R_nej, pe_R_wI, pm_Ik, pm_K10 hF, pm_K9 hF, pm_KM hF, pm_Kh, pm_L10 hF, pm_L9 hF, pm_Lh, pm_R10 hF, pm_Rh, pm_uj, pm_uk, pm_us, pm_wIk]; done) | (simp (disch := omega) only [pe_wi w0, pe_wi w1, pe_I_wR, pe_K_wI, pe_K_wR, pe_L_wI, pe_L_wR, pe_R_nej, pe_R_wI, pm_Ik, pm_K10 hF, pm_K9 hF, pm_KM hF, pm_Kh, pm_L10 hF, pm_L9 hF, pm_Lh, pm_R10 hF, pm_Rh, pm_uj, pm_uk, pm_us, pm_wIk]; assumption)
    exact pe_cal 150 ck186 rfl rfl rfl ⟨hrc, by decide⟩ k
set_option maxRecDepth 8000 in
theorem b186_257 {d : Nat} {Φ : Option pe_V → pe_H → Prop} {σ : pe_H} {M q : Nat} {y : Nat → Int → Int} (hF : pm_F M σ) {o1 : Option pe_V} {o2 : Option pe_V} {x3 : Int} {s1 : Int} {s2 : Int}  (w0 : pe_in s1 := by unfold pe_in; omega) (w1 : pe_in x3 := by unfold pe_in; omega) (h0 : 0 ≤ s1 := by first | assumption | omega) (h1 : s1 < 8 := by first | assumption | omega) (h2 : 0 ≤ x3 := by first | assumption | omega) (h3 : x3 < 8 := by first | assumption | omega) (k : pe_M d 184 [.inr (.inr M), .inl (y 11 x3)] (pm_h M σ q (pm_u y 10 s1 s2)) (fun r σ' => pe_X d 186 (273, [some (.inr (.inr M)), o1, o2, some (.inl x3)], r.toList ++ [.inl x3, .inr (.inr (M + 11))], σ') Φ)) : pe_X d 186 (257, [some (.inr (.inr M)), o1, o2, some (.inl x3)], [.inl s2, .inl s1, .inr (.inr (M + 10))], pm_h M σ q y) Φ := by
  have hM2 := pm_2 hF
  refine pe_blk 151 9 ck186 [pe_K (pm_h M σ q y) (M + 10) = 10, 0 ≤ (pe_w s1), (pe_w s1) < pe_L (pm_h M σ q y) (M + 10), 2 ≤ (M + 10), pe_K (pe_wI (pm_h M σ q y) (M + 10) (pe_w s1) s2) M = 9, pe_K (pe_wI (pm_h M σ q y) (M + 10) (pe_w s1) s2) M = 9, pe_K (pe_wI (pm_h M σ q y) (M + 10) (pe_w s1) s2) (pe_R (pe_wI (pm_h M σ q y) (M + 10) (pe_w s1) s2) M 11) = 10, 0 ≤ (pe_w x3), (pe_w x3) < pe_L (pe_wI (pm_h M σ q y) (M + 10) (pe_w s1) s2) (pe_R (pe_wI (pm_h M σ q y) (M + 10) (pe_w s1) s2) M 11)] (270, [some (.inr (.inr M)), o1, o2, some (.inl x3)], [.inl (pe_I (pe_wI (pm_h M σ q y) (M + 10) (pe_w s1) s2) (pe_R (pe_wI (pm_h M σ q y) (M + 10) (pe_w s1) s2) M 11) (pe_w x3)), .inr (.inr M), .inl x3, .inr (.inr (pe_R (pe_wI (pm_h M σ q y) (M + 10) (pe_w s1) s2) M 11))], pe_wI (pm_h M σ q y) (M + 10) (pe_w s1) s2) rfl ?_ ?_
  · first
    | (simp (disch := omega) only [pe_all, pe_wi w0, pe_wi w1, pe_I_wR, pe_K_wI, pe_K_wR, pe_L_wI, pe_L_wR, pe_R_nej, pe_R_wI, pm_Ik, pm_K10 hF, pm_K11 hF, pm_KM hF, pm_Kh, pm_L10 hF, pm_L11 hF, pm_Lh, pm_R11 hF, pm_Rh, pm_uj, pm_uk, pm_us, pm_wIk]; done)
    | (simp (disch := omega) only [pe_all, pe_wi w0, pe_wi w1, pe_I_wR, pe_K_wI, pe_K_wR, pe_L_wI, pe_L_wR, pe_R_nej, pe_R_wI, pm_Ik, pm_K10 hF, pm_K11 hF, pm_KM hF, pm_Kh, pm_L10 hF, pm_L11 hF, pm_Lh, pm_R11 hF, pm_Rh, pm_uj, pm_uk, pm_us, pm_wIk]; (repeat' apply And.intro) <;> first | assumption | omega | decide)
  · try simp (disch := omega) only [pe_wi w0, pe_wi w1, pe_I_wR, pe_K_wI, pe_K_wR, pe_L_wI, pe_L_wR, pe_R_nej, pe_R_wI, pm_Ik, pm_K10 hF, pm_K11 hF, pm_KM hF, pm_Kh, pm_L10 hF, pm_L11 hF, pm_Lh, pm_R11 hF, pm_Rh, pm_uj, pm_uk, pm_us, pm_wIk]
    have hrc : pe_K (pm_h M σ q (pm_u y 10 s1 s2)) M = 9 := by first | assumption | (simp (disch := omega) only [pe_wi w0, pe_wi w1, pe_I_wR, pe_K_wI, pe_K_wR, pe_L_wI, pe_L_wR, pe_R_nej, pe_R_wI, pm_Ik, pm_K10 hF, pm_K11 hF, pm_KM hF, pm_Kh, pm_L10 hF, pm_L11 hF, pm_Lh, pm_R11 hF, pm_Rh, pm_uj, pm_uk, pm_us, pm_wIk]; done) | (simp (disch := omega) only [pe_wi w0, pe_wi w1, pe_I_wR, pe_K_wI, pe_K_wR, pe_L_wI, pe_L_wR, pe_R_nej, pe_R_wI, pm_Ik, pm_K10 hF, pm_K11 hF, pm_KM hF, pm_Kh, pm_L10 hF, pm_L11 hF, pm_Lh, pm_R11 hF, pm_Rh, pm_uj, pm_uk, pm_us, pm_wIk]; assumption)
    exact pe_cal 160 ck186 rfl rfl rfl ⟨hrc, by decide⟩ k
set_option maxRecDepth 8000 in
theorem b186_273 {d : Nat} {Φ : Option pe_V → pe_H → Prop} {σ : pe_H} {M q : Nat} {y : Nat → Int → Int} (hF : pm_F M σ) {o1 : Option pe_V} {o2 : Option pe_V} {x3 : Int} {s1 : Int} {s2 : Int}  (w0 : pe_in s1 := by unfold pe_in; omega) (w1 : pe_in x3 := by unfold pe_in; omega) (h0 : 0 ≤ s1 := by first | assumption | omega) (h1 : s1 < 8 := by first | assumption | omega) (h2 : 0 ≤ x3 := by first | assumption | omega) (h3 : x3 < 8 := by first | assumption | omega) (k : pe_M d 184 [.inr (.inr M), .inl (y 12 x3)] (pm_h M σ q (pm_u y 11 s1 s2)) (fun r σ' => pe_X d 186 (289, [some (.inr (.inr M)), o1, o2, some (.inl x3)], r.toList ++ [.inl x3, .inr (.inr (M + 12))], σ') Φ)) : pe_X d 186 (273, [some (.inr (.inr M)), o1, o2, some (.inl x3)], [.inl s2, .inl s1, .inr (.inr (M + 11))], pm_h M σ q y) Φ := by
  have hM2 := pm_2 hF
  refine pe_blk 161 9 ck186 [pe_K (pm_h M σ q y) (M + 11) = 10, 0 ≤ (pe_w s1), (pe_w s1) < pe_L (pm_h M σ q y) (M + 11), 2 ≤ (M + 11), pe_K (pe_wI (pm_h M σ q y) (M + 11) (pe_w s1) s2) M = 9, pe_K (pe_wI (pm_h M σ q y) (M + 11) (pe_w s1) s2) M = 9, pe_K (pe_wI (pm_h M σ q y) (M + 11) (pe_w s1) s2) (pe_R (pe_wI (pm_h M σ q y) (M + 11) (pe_w s1) s2) M 12) = 10, 0 ≤ (pe_w x3), (pe_w x3) < pe_L (pe_wI (pm_h M σ q y) (M + 11) (pe_w s1) s2) (pe_R (pe_wI (pm_h M σ q y) (M + 11) (pe_w s1) s2) M 12)] (286, [some (.inr (.inr M)), o1, o2, some (.inl x3)], [.inl (pe_I (pe_wI (pm_h M σ q y) (M + 11) (pe_w s1) s2) (pe_R (pe_wI (pm_h M σ q y) (M + 11) (pe_w s1) s2) M 12) (pe_w x3)), .inr (.inr M), .inl x3, .inr (.inr (pe_R (pe_wI (pm_h M σ q y) (M + 11) (pe_w s1) s2) M 12))], pe_wI (pm_h M σ q y) (M + 11) (pe_w s1) s2) rfl ?_ ?_
  · first
    | (simp (disch := omega) only [pe_all, pe_wi w0, pe_wi w1, pe_I_wR, pe_K_wI, pe_K_wR, pe_L_wI, pe_L_wR, pe_R_nej, pe_R_wI, pm_Ik, pm_K11 hF, pm_K12 hF, pm_KM hF, pm_Kh, pm_L11 hF, pm_L12 hF, pm_Lh, pm_R12 hF, pm_Rh, pm_uj, pm_uk, pm_us, pm_wIk]; done)
    | (simp (disch := omega) only [pe_all, pe_wi w0, pe_wi w1, pe_I_wR, pe_K_wI, pe_K_wR, pe_L_wI, pe_L_wR, pe_R_nej, pe_R_wI, pm_Ik, pm_K11 hF, pm_K12 hF, pm_KM hF, pm_Kh, pm_L11 hF, pm_L12 hF, pm_Lh, pm_R12 hF, pm_Rh, pm_uj, pm_uk, pm_us, pm_wIk]; (repeat' apply And.intro) <;> first | assumption | omega | decide)
  · try simp (disch := omega) only [pe_wi w0, pe_wi w1, pe_I_wR, pe_K_wI, pe_K_wR, pe_L_wI, pe_L_wR, pe_R_nej, pe_R_wI, pm_Ik, pm_K11 hF, pm_K12 hF, pm_KM hF, pm_Kh, pm_L11 hF, pm_L12 hF, pm_Lh, pm_R12 hF, pm_Rh, pm_uj, pm_uk, pm_us, pm_wIk]
    have hrc : pe_K (pm_h M σ q (pm_u y 11 s1 s2)) M = 9 := by first | assumption | (simp (disch := omega) only [pe_wi w0, pe_wi w1, pe_I_wR, pe_K_wI, pe_K_wR, pe_L_wI, pe_L_wR, pe_R_nej, pe_R_wI, pm_Ik, pm_K11 hF, pm_K12 hF, pm_KM hF, pm_Kh, pm_L11 hF, pm_L12 hF, pm_Lh, pm_R12 hF, pm_Rh, pm_uj, pm_uk, pm_us, pm_wIk]; done) | (simp (disch := omega) only [pe_wi w0, pe_wi w1, pe_I_wR, pe_K_wI, pe_K_wR, pe_L_wI, pe_L_wR, pe_R_nej, pe_R_wI, pm_Ik, pm_K11 hF, pm_K12 hF, pm_KM hF, pm_Kh, pm_L11 hF, pm_L12 hF, pm_Lh, pm_R12 hF, pm_Rh, pm_uj, pm_uk, pm_us, pm_wIk]; assumption)
    exact pe_cal 170 ck186 rfl rfl rfl ⟨hrc, by decide⟩ k
set_option maxRecDepth 8000 in
theorem b186_289 {d : Nat} {Φ : Option pe_V → pe_H → Prop} {σ : pe_H} {M q : Nat} {y : Nat → Int → Int} (hF : pm_F M σ) {o1 : Option pe_V} {o2 : Option pe_V} {x3 : Int} {s1 : Int} {s2 : Int}  (w0 : pe_in s1 := by unfold pe_in; omega) (w1 : pe_in x3 := by unfold pe_in; omega) (h0 : 0 ≤ s1 := by first | assumption | omega) (h1 : s1 < 8 := by first | assumption | omega) (h2 : 0 ≤ x3 := by first | assumption | omega) (h3 : x3 < 8 := by first | assumption | omega) (k : pe_M d 184 [.inr (.inr M), .inl (y 13 x3)] (pm_h M σ q (pm_u y 12 s1 s2)) (fun r σ' => pe_X d 186 (305, [some (.inr (.inr M)), o1, o2, some (.inl x3)], r.toList ++ [.inl x3, .inr (.inr (M + 13))], σ') Φ)) : pe_X d 186 (289, [some (.inr (.inr M)), o1, o2, some (.inl x3)], [.inl s2, .inl s1, .inr (.inr (M + 12))], pm_h M σ q y) Φ := by
  have hM2 := pm_2 hF
  refine pe_blk 171 9 ck186 [pe_K (pm_h M σ q y) (M + 12) = 10, 0 ≤ (pe_w s1), (pe_w s1) < pe_L (pm_h M σ q y) (M + 12), 2 ≤ (M + 12), pe_K (pe_wI (pm_h M σ q y) (M + 12) (pe_w s1) s2) M = 9, pe_K (pe_wI (pm_h M σ q y) (M + 12) (pe_w s1) s2) M = 9, pe_K (pe_wI (pm_h M σ q y) (M + 12) (pe_w s1) s2) (pe_R (pe_wI (pm_h M σ q y) (M + 12) (pe_w s1) s2) M 13) = 10, 0 ≤ (pe_w x3), (pe_w x3) < pe_L (pe_wI (pm_h M σ q y) (M + 12) (pe_w s1) s2) (pe_R (pe_wI (pm_h M σ q y) (M + 12) (pe_w s1) s2) M 13)] (302, [some (.inr (.inr M)), o1, o2, some (.inl x3)], [.inl (pe_I (pe_wI (pm_h M σ q y) (M + 12) (pe_w s1) s2) (pe_R (pe_wI (pm_h M σ q y) (M + 12) (pe_w s1) s2) M 13) (pe_w x3)), .inr (.inr M), .inl x3, .inr (.inr (pe_R (pe_wI (pm_h M σ q y) (M + 12) (pe_w s1) s2) M 13))], pe_wI (pm_h M σ q y) (M + 12) (pe_w s1) s2) rfl ?_ ?_
  · first
    | (simp (disch := omega) only [pe_all, pe_wi w0, pe_wi w1, pe_I_wR, pe_K_wI, pe_K_wR, pe_L_wI, pe_L_wR, pe_R_nej, pe_R_wI, pm_Ik, pm_K12 hF, pm_K13 hF, pm_KM hF, pm_Kh, pm_L12 hF, pm_L13 hF, pm_Lh, pm_R13 hF, pm_Rh, pm_uj, pm_uk, pm_us, pm_wIk]; done)
    | (simp (disch := omega) only [pe_all, pe_wi w0, pe_wi w1, pe_I_wR, pe_K_wI, pe_K_wR, pe_L_wI, pe_L_wR, pe_R_nej, pe_R_wI, pm_Ik, pm_K12 hF, pm_K13 hF, pm_KM hF, pm_Kh, pm_L12 hF, pm_L13 hF, pm_Lh, pm_R13 hF, pm_Rh, pm_uj, pm_uk, pm_us, pm_wIk]; (repeat' apply And.intro) <;> first | assumption | omega | decide)
  · try simp (disch := omega) only [pe_wi w0, pe_wi w1, pe_I_wR, pe_K_wI, pe_K_wR, pe_L_wI, pe_L_wR, pe_R_nej, pe_R_wI, pm_Ik, pm_K12 hF, pm_K13 hF, pm_KM hF, pm_Kh, pm_L12 hF, pm_L13 hF, pm_Lh, pm_R13 hF, pm_Rh, pm_uj, pm_uk, pm_us, pm_wIk]
    have hrc : pe_K (pm_h M σ q (pm_u y 12 s1 s2)) M = 9 := by first | assumption | (simp (disch := omega) only [pe_wi w0, pe_wi w1, pe_I_wR, pe_K_wI, pe_K_wR, pe_L_wI, pe_L_wR, pe_R_nej, pe_R_wI, pm_Ik, pm_K12 hF, pm_K13 hF, pm_KM hF, pm_Kh, pm_L12 hF, pm_L13 hF, pm_Lh, pm_R13 hF, pm_Rh, pm_uj, pm_uk, pm_us, pm_wIk]; done) | (simp (disch := omega) only [pe_wi w0, pe_wi w1, pe_I_wR, pe_K_wI, pe_K_wR, pe_L_wI, pe_L_wR, pe_R_nej, pe_R_wI, pm_Ik, pm_K12 hF, pm_K13 hF, pm_KM hF, pm_Kh, pm_L12 hF, pm_L13 hF, pm_Lh, pm_R13 hF, pm_Rh, pm_uj, pm_uk, pm_us, pm_wIk]; assumption)
    exact pe_cal 180 ck186 rfl rfl rfl ⟨hrc, by decide⟩ k
set_option maxRecDepth 8000 in
theorem b186_305 {d : Nat} {Φ : Option pe_V → pe_H → Prop} {σ : pe_H} {M q : Nat} {y : Nat → Int → Int} (hF : pm_F M σ) {o1 : Option pe_V} {o2 : Option pe_V} {x3 : Int} {s1 : Int} {s2 : Int}  (w0 : pe_in s1 := by unfold pe_in; omega) (w1 : pe_in x3 := by unfold pe_in; omega) (h0 : 0 ≤ s1 := by first | assumption | omega) (h1 : s1 < 8 := by first | assumption | omega) (h2 : 0 ≤ x3 := by first | assumption | omega) (h3 : x3 < 8 := by first | assumption | omega) (k : pe_M d 184 [.inr (.inr M), .inl (y 14 x3)] (pm_h M σ q (pm_u y 13 s1 s2)) (fun r σ' => pe_X d 186 (321, [some (.inr (.inr M)), o1, o2, some (.inl x3)], r.toList ++ [.inl x3, .inr (.inr (M + 14))], σ') Φ)) : pe_X d 186 (305, [some (.inr (.inr M)), o1, o2, some (.inl x3)], [.inl s2, .inl s1, .inr (.inr (M + 13))], pm_h M σ q y) Φ := by
  have hM2 := pm_2 hF
  refine pe_blk 181 9 ck186 [pe_K (pm_h M σ q y) (M + 13) = 10, 0 ≤ (pe_w s1), (pe_w s1) < pe_L (pm_h M σ q y) (M + 13), 2 ≤ (M + 13), pe_K (pe_wI (pm_h M σ q y) (M + 13) (pe_w s1) s2) M = 9, pe_K (pe_wI (pm_h M σ q y) (M + 13) (pe_w s1) s2) M = 9, pe_K (pe_wI (pm_h M σ q y) (M + 13) (pe_w s1) s2) (pe_R (pe_wI (pm_h M σ q y) (M + 13) (pe_w s1) s2) M 14) = 10, 0 ≤ (pe_w x3), (pe_w x3) < pe_L (pe_wI (pm_h M σ q y) (M + 13) (pe_w s1) s2) (pe_R (pe_wI (pm_h M σ q y) (M + 13) (pe_w s1) s2) M 14)] (318, [some (.inr (.inr M)), o1, o2, some (.inl x3)], [.inl (pe_I (pe_wI (pm_h M σ q y) (M + 13) (pe_w s1) s2) (pe_R (pe_wI (pm_h M σ q y) (M + 13) (pe_w s1) s2) M 14) (pe_w x3)), .inr (.inr M), .inl x3, .inr (.inr (pe_R (pe_wI (pm_h M σ q y) (M + 13) (pe_w s1) s2) M 14))], pe_wI (pm_h M σ q y) (M + 13) (pe_w s1) s2) rfl ?_ ?_
  · first
    | (simp (disch := omega) only [pe_all, pe_wi w0, pe_wi w1, pe_I_wR, pe_K_wI, pe_K_wR, pe_L_wI, pe_L_wR, pe_R_nej, pe_R_wI, pm_Ik, pm_K13 hF, pm_K14 hF, pm_KM hF, pm_Kh, pm_L13 hF, pm_L14 hF, pm_Lh, pm_R14 hF, pm_Rh, pm_uj, pm_uk, pm_us, pm_wIk]; done)
    | (simp (disch := omega) only [pe_all, pe_wi w0, pe_wi w1, pe_I_wR, pe_K_wI, pe_K_wR, pe_L_wI, pe_L_wR, pe_R_nej, pe_R_wI, pm_Ik, pm_K13 hF, pm_K14 hF, pm_KM hF, pm_Kh, pm_L13 hF, pm_L14 hF, pm_Lh, pm_R14 hF, pm_Rh, pm_uj, pm_uk, pm_us, pm_wIk]; (repeat' apply And.intro) <;> first | assumption | omega | decide)
  · try simp (disch := omega) only [pe_wi w0, pe_wi w1, pe_I_wR, pe_K_wI, pe_K_wR, pe_L_wI, pe_L_wR, pe_R_nej, pe_R_wI, pm_Ik, pm_K13 hF, pm_K14 hF, pm_KM hF, pm_Kh, pm_L13 hF, pm_L14 hF, pm_Lh, pm_R14 hF, pm_Rh, pm_uj, pm_uk, pm_us, pm_wIk]
    have hrc : pe_K (pm_h M σ q (pm_u y 13 s1 s2)) M = 9 := by first | assumption | (simp (disch := omega) only [pe_wi w0, pe_wi w1, pe_I_wR, pe_K_wI, pe_K_wR, pe_L_wI, pe_L_wR, pe_R_nej, pe_R_wI, pm_Ik, pm_K13 hF, pm_K14 hF, pm_KM hF, pm_Kh, pm_L13 hF, pm_L14 hF, pm_Lh, pm_R14 hF, pm_Rh, pm_uj, pm_uk, pm_us, pm_wIk]; done) | (simp (disch := omega) only [pe_wi w0, pe_wi w1, pe_I_wR, pe_K_wI, pe_K_wR, pe_L_wI, pe_L_wR, pe_R_nej, pe_R_wI, pm_Ik, pm_K13 hF, pm_K14 hF, pm_KM hF, pm_Kh, pm_L13 hF, pm_L14 hF, pm_Lh, pm_R14 hF, pm_Rh, pm_uj, pm_uk, pm_us, pm_wIk]; assumption)
    exact pe_cal 190 ck186 rfl rfl rfl ⟨hrc, by decide⟩ k
set_option maxRecDepth 8000 in
theorem b186_321 {d : Nat} {Φ : Option pe_V → pe_H → Prop} {σ : pe_H} {M q : Nat} {y : Nat → Int → Int} (hF : pm_F M σ) {o1 : Option pe_V} {o2 : Option pe_V} {x3 : Int} {s1 : Int} {s2 : Int}  (w0 : pe_in s1 := by unfold pe_in; omega) (h0 : 0 ≤ s1 := by first | assumption | omega) (h1 : s1 < 8 := by first | assumption | omega) (k : pe_X d 186 (140, [some (.inr (.inr M)), o1, pe_nl o2, some (.inl (x3 + 1))], [], pm_h M σ q (pm_u y 14 s1 s2)) Φ) : pe_X d 186 (321, [some (.inr (.inr M)), o1, o2, some (.inl x3)], [.inl s2, .inl s1, .inr (.inr (M + 14))], pm_h M σ q y) Φ := by
  have hM2 := pm_2 hF
  refine pe_blk 191 3 ck186 [pe_K (pm_h M σ q y) (M + 14) = 10, 0 ≤ (pe_w s1), (pe_w s1) < pe_L (pm_h M σ q y) (M + 14), 2 ≤ (M + 14)] (140, [some (.inr (.inr M)), o1, pe_nl o2, some (.inl (x3 + 1))], [], pe_wI (pm_h M σ q y) (M + 14) (pe_w s1) s2) rfl ?_ ?_
  · first
    | (simp (disch := omega) only [pe_all, pe_wi w0, pe_K_wI, pe_K_wR, pe_L_wI, pe_L_wR, pm_K14 hF, pm_Kh, pm_L14 hF, pm_Lh, pm_wIk]; done)
    | (simp (disch := omega) only [pe_all, pe_wi w0, pe_K_wI, pe_K_wR, pe_L_wI, pe_L_wR, pm_K14 hF, pm_Kh, pm_L14 hF, pm_Lh, pm_wIk]; (repeat' apply And.intro) <;> first | assumption | omega | decide)
  · try simp (disch := omega) only [pe_wi w0, pe_K_wI, pe_K_wR, pe_L_wI, pe_L_wR, pm_K14 hF, pm_Kh, pm_L14 hF, pm_Lh, pm_wIk]
    exact k
set_option maxRecDepth 8000 in
theorem b186_328 {d : Nat} {Φ : Option pe_V → pe_H → Prop} {σ : pe_H} {M q : Nat} {y : Nat → Int → Int} (hF : pm_F M σ) {o1 : Option pe_V} {o2 : Option pe_V} {o3 : Option pe_V}    (k : pe_X d 186 (330, [some (.inr (.inr M)), o1, pe_nl o2, some (.inl 0)], [], pm_h M σ q y) Φ) : pe_X d 186 (328, [some (.inr (.inr M)), o1, o2, o3], [], pm_h M σ q y) Φ := by
  refine pe_blk 194 2 ck186 [] (330, [some (.inr (.inr M)), o1, pe_nl o2, some (.inl 0)], [], pm_h M σ q y) rfl ?_ ?_
  · exact trivial
  · exact k
set_option maxRecDepth 8000 in
theorem b186_330 {d : Nat} {Φ : Option pe_V → pe_H → Prop} {σ : pe_H} {M q : Nat} {y : Nat → Int → Int} (hF : pm_F M σ) {o1 : Option pe_V} {o2 : Option pe_V} {x3 : Int}  (w0 : pe_in x3 := by unfold pe_in; omega)  (k1 : 6 ≤ x3 → pe_X d 186 (358, [some (.inr (.inr M)), o1, o2, some (.inl x3)], [], pm_h M σ q y) Φ) (k2 : ¬ (6 ≤ x3) → pe_X d 186 (336, [some (.inr (.inr M)), o1, o2, some (.inl x3)], [], pm_h M σ q y) Φ) : pe_X d 186 (330, [some (.inr (.inr M)), o1, o2, some (.inl x3)], [], pm_h M σ q y) Φ := by
  refine pe_blk 196 3 ck186 [] (cond (decide ((pe_w 6) ≤ (pe_w x3))) 358 336, [some (.inr (.inr M)), o1, o2, some (.inl x3)], [], pm_h M σ q y) rfl ?_ ?_
  · exact trivial
  · try simp (disch := omega) only [pe_wi w0, pe_wi (x := 6) ⟨by decide, by decide⟩]
    exact pe_two k1 k2
set_option maxRecDepth 8000 in
theorem b186_336 {d : Nat} {Φ : Option pe_V → pe_H → Prop} {σ : pe_H} {M q : Nat} {y : Nat → Int → Int} (hF : pm_F M σ) {o1 : Option pe_V} {o2 : Option pe_V} {x3 : Int}  (w0 : pe_in x3 := by unfold pe_in; omega) (h0 : 0 ≤ x3 := by first | assumption | omega) (h1 : x3 < 6 := by first | assumption | omega) (k : pe_M d 184 [.inr (.inr M), .inl (y 25 x3)] (pm_h M σ q y) (fun r σ' => pe_X d 186 (351, [some (.inr (.inr M)), o1, o2, some (.inl x3)], r.toList ++ [.inl x3, .inr (.inr (M + 25))], σ') Φ)) : pe_X d 186 (336, [some (.inr (.inr M)), o1, o2, some (.inl x3)], [], pm_h M σ q y) Φ := by
  refine pe_blk 199 8 ck186 [pe_K (pm_h M σ q y) M = 9, pe_K (pm_h M σ q y) M = 9, pe_K (pm_h M σ q y) (pe_R (pm_h M σ q y) M 26) = 10, 0 ≤ (pe_w x3), (pe_w x3) < pe_L (pm_h M σ q y) (pe_R (pm_h M σ q y) M 26)] (348, [some (.inr (.inr M)), o1, o2, some (.inl x3)], [.inl (pe_I (pm_h M σ q y) (pe_R (pm_h M σ q y) M 26) (pe_w x3)), .inr (.inr M), .inl x3, .inr (.inr (pe_R (pm_h M σ q y) M 26))], pm_h M σ q y) rfl ?_ ?_
  · first
    | (simp (disch := omega) only [pe_all, pe_wi w0, pe_I_wR, pe_K_wI, pe_K_wR, pe_L_wI, pe_L_wR, pe_R_nej, pe_R_wI, pm_Ik, pm_K25 hF, pm_KM hF, pm_Kh, pm_L25 hF, pm_Lh, pm_R26 hF, pm_Rh, pm_uj, pm_uk, pm_us]; done)
    | (simp (disch := omega) only [pe_all, pe_wi w0, pe_I_wR, pe_K_wI, pe_K_wR, pe_L_wI, pe_L_wR, pe_R_nej, pe_R_wI, pm_Ik, pm_K25 hF, pm_KM hF, pm_Kh, pm_L25 hF, pm_Lh, pm_R26 hF, pm_Rh, pm_uj, pm_uk, pm_us]; (repeat' apply And.intro) <;> first | assumption | omega | decide)
  · try simp (disch := omega) only [pe_wi w0, pe_I_wR, pe_K_wI, pe_K_wR, pe_L_wI, pe_L_wR, pe_R_nej, pe_R_wI, pm_Ik, pm_K25 hF, pm_KM hF, pm_Kh, pm_L25 hF, pm_Lh, pm_R26 hF, pm_Rh, pm_uj, pm_uk, pm_us]
    have hrc : pe_K (pm_h M σ q y) M = 9 := by first | assumption | (simp (disch := omega) only [pe_wi w0, pe_I_wR, pe_K_wI, pe_K_wR, pe_L_wI, pe_L_wR, pe_R_nej, pe_R_wI, pm_Ik, pm_K25 hF, pm_KM hF, pm_Kh, pm_L25 hF, pm_Lh, pm_R26 hF, pm_Rh, pm_uj, pm_uk, pm_us]; done) | (simp (disch := omega) only [pe_wi w0, pe_I_wR, pe_K_wI, pe_K_wR, pe_L_wI, pe_L_wR, pe_R_nej, pe_R_wI, pm_Ik, pm_K25 hF, pm_KM hF, pm_Kh, pm_L25 hF, pm_Lh, pm_R26 hF, pm_Rh, pm_uj, pm_uk, pm_us]; assumption)
    exact pe_cal 207 ck186 rfl rfl rfl ⟨hrc, by decide⟩ k
set_option maxRecDepth 8000 in
theorem b186_351 {d : Nat} {Φ : Option pe_V → pe_H → Prop} {σ : pe_H} {M q : Nat} {y : Nat → Int → Int} (hF : pm_F M σ) {o1 : Option pe_V} {o2 : Option pe_V} {x3 : Int} {s1 : Int} {s2 : Int}  (w0 : pe_in s1 := by unfold pe_in; omega) (h0 : 0 ≤ s1 := by first | assumption | omega) (h1 : s1 < 6 := by first | assumption | omega) (k : pe_X d 186 (330, [some (.inr (.inr M)), o1, pe_nl o2, some (.inl (x3 + 1))], [], pm_h M σ q (pm_u y 25 s1 s2)) Φ) : pe_X d 186 (351, [some (.inr (.inr M)), o1, o2, some (.inl x3)], [.inl s2, .inl s1, .inr (.inr (M + 25))], pm_h M σ q y) Φ := by
  have hM2 := pm_2 hF
  refine pe_blk 208 3 ck186 [pe_K (pm_h M σ q y) (M + 25) = 10, 0 ≤ (pe_w s1), (pe_w s1) < pe_L (pm_h M σ q y) (M + 25), 2 ≤ (M + 25)] (330, [some (.inr (.inr M)), o1, pe_nl o2, some (.inl (x3 + 1))], [], pe_wI (pm_h M σ q y) (M + 25) (pe_w s1) s2) rfl ?_ ?_
  · first
    | (simp (disch := omega) only [pe_all, pe_wi w0, pe_K_wI, pe_K_wR, pe_L_wI, pe_L_wR, pm_K25 hF, pm_Kh, pm_L25 hF, pm_Lh, pm_wIk]; done)
    | (simp (disch := omega) only [pe_all, pe_wi w0, pe_K_wI, pe_K_wR, pe_L_wI, pe_L_wR, pm_K25 hF, pm_Kh, pm_L25 hF, pm_Lh, pm_wIk]; (repeat' apply And.intro) <;> first | assumption | omega | decide)
  · try simp (disch := omega) only [pe_wi w0, pe_K_wI, pe_K_wR, pe_L_wI, pe_L_wR, pm_K25 hF, pm_Kh, pm_L25 hF, pm_Lh, pm_wIk]
    exact k
set_option maxRecDepth 8000 in
theorem b186_358 {d : Nat} {Φ : Option pe_V → pe_H → Prop} {σ : pe_H} {M q : Nat} {y : Nat → Int → Int} (hF : pm_F M σ) {o1 : Option pe_V} {o2 : Option pe_V} {o3 : Option pe_V}    (k : pe_M d 185 [.inr (.inr M)] (pm_h M σ q y) (fun r σ' => pe_X d 186 (362, [some (.inr (.inr M)), o1, o2, o3], r.toList ++ [], σ') Φ)) : pe_X d 186 (358, [some (.inr (.inr M)), o1, o2, o3], [], pm_h M σ q y) Φ := by
  refine pe_blk 211 1 ck186 [] (359, [some (.inr (.inr M)), o1, o2, o3], [.inr (.inr M)], pm_h M σ q y) rfl ?_ ?_
  · exact trivial
  · try simp (disch := omega) only [pe_K_wI, pe_K_wR, pm_KM hF, pm_Kh]
    have hrc : pe_K (pm_h M σ q y) M = 9 := by first | assumption | (simp (disch := omega) only [pe_K_wI, pe_K_wR, pm_KM hF, pm_Kh]; done) | (simp (disch := omega) only [pe_K_wI, pe_K_wR, pm_KM hF, pm_Kh]; assumption)
    exact pe_cal 212 ck186 rfl rfl rfl ⟨hrc, by decide⟩ k
set_option maxRecDepth 8000 in
theorem b186_362 {d : Nat} {Φ : Option pe_V → pe_H → Prop} {σ : pe_H} {M q : Nat} {y : Nat → Int → Int} (hF : pm_F M σ) {o1 : Option pe_V} {o2 : Option pe_V} {o3 : Option pe_V}    (k : Φ none (pm_h M σ q y)) : pe_X d 186 (362, [some (.inr (.inr M)), o1, o2, o3], [], pm_h M σ q y) Φ := by
  exact pe_fine 213 ck186 rfl rfl rfl trivial k
-- StepMachinesModel.think()V
def T187 : List (Nat × Instr × Nat) := [(0, .aload_n 0, 1), (1, .aload_n 0, 1), (2, .getfield 126, 3), (5, .iconst 1, 1), (6, .invokevirtual 362, 3), (9, .return_, 1)]
theorem ck187 : pe_ctx 187 9 false none 1 T187 := ⟨rfl, rfl, rfl, rfl, by decide +kernel, by decide, by decide⟩
theorem b187_0 {d : Nat} {Φ : Option pe_V → pe_H → Prop} {σ : pe_H} {M q : Nat} {y : Nat → Int → Int} (hF : pm_F M σ)     (k : pe_M d 186 [.inr (.inr M), .inr (.inr (M + 38)), .inl 1] (pm_h M σ q y) (fun r σ' => pe_X d 187 (9, [some (.inr (.inr M))], r.toList ++ [], σ') Φ)) : pe_X d 187 (0, [some (.inr (.inr M))], [], pm_h M σ q y) Φ := by
  refine pe_blk 0 4 ck187 [pe_K (pm_h M σ q y) M = 9] (6, [some (.inr (.inr M))], [.inl 1, .inr (.inr (pe_R (pm_h M σ q y) M 48)), .inr (.inr M)], pm_h M σ q y) rfl ?_ ?_
  · first
    | (simp (disch := omega) only [pe_all, pe_K_wI, pe_K_wR, pe_R_nej, pe_R_wI, pm_KM hF, pm_Kh, pm_R48 hF, pm_Rh]; done)
    | (simp (disch := omega) only [pe_all, pe_K_wI, pe_K_wR, pe_R_nej, pe_R_wI, pm_KM hF, pm_Kh, pm_R48 hF, pm_Rh]; (repeat' apply And.intro) <;> first | assumption | omega | decide)
  · try simp (disch := omega) only [pe_K_wI, pe_K_wR, pe_R_nej, pe_R_wI, pm_KM hF, pm_Kh, pm_R48 hF, pm_Rh]
    have hrc : pe_K (pm_h M σ q y) M = 9 := by first | assumption | (simp (disch := omega) only [pe_K_wI, pe_K_wR, pe_R_nej, pe_R_wI, pm_KM hF, pm_Kh, pm_R48 hF, pm_Rh]; done) | (simp (disch := omega) only [pe_K_wI, pe_K_wR, pe_R_nej, pe_R_wI, pm_KM hF, pm_Kh, pm_R48 hF, pm_Rh]; assumption)
    exact pe_cal 4 ck187 rfl rfl rfl ⟨hrc, by decide⟩ k
theorem b187_9 {d : Nat} {Φ : Option pe_V → pe_H → Prop} {σ : pe_H} {M q : Nat} {y : Nat → Int → Int} (hF : pm_F M σ)     (k : Φ none (pm_h M σ q y)) : pe_X d 187 (9, [some (.inr (.inr M))], [], pm_h M σ q y) Φ := by
  exact pe_fine 5 ck187 rfl rfl rfl trivial k
-- StepMachinesModel.again()V
def T188 : List (Nat × Instr × Nat) := [(0, .aload_n 0, 1), (1, .aload_n 0, 1), (2, .getfield 126, 3), (5, .iconst 0, 1), (6, .invokevirtual 362, 3), (9, .return_, 1)]
theorem ck188 : pe_ctx 188 9 false none 1 T188 := ⟨rfl, rfl, rfl, rfl, by decide +kernel, by decide, by decide⟩
theorem b188_0 {d : Nat} {Φ : Option pe_V → pe_H → Prop} {σ : pe_H} {M q : Nat} {y : Nat → Int → Int} (hF : pm_F M σ)     (k : pe_M d 186 [.inr (.inr M), .inr (.inr (M + 38)), .inl 0] (pm_h M σ q y) (fun r σ' => pe_X d 188 (9, [some (.inr (.inr M))], r.toList ++ [], σ') Φ)) : pe_X d 188 (0, [some (.inr (.inr M))], [], pm_h M σ q y) Φ := by
  refine pe_blk 0 4 ck188 [pe_K (pm_h M σ q y) M = 9] (6, [some (.inr (.inr M))], [.inl 0, .inr (.inr (pe_R (pm_h M σ q y) M 48)), .inr (.inr M)], pm_h M σ q y) rfl ?_ ?_
  · first
    | (simp (disch := omega) only [pe_all, pe_K_wI, pe_K_wR, pe_R_nej, pe_R_wI, pm_KM hF, pm_Kh, pm_R48 hF, pm_Rh]; done)
    | (simp (disch := omega) only [pe_all, pe_K_wI, pe_K_wR, pe_R_nej, pe_R_wI, pm_KM hF, pm_Kh, pm_R48 hF, pm_Rh]; (repeat' apply And.intro) <;> first | assumption | omega | decide)
  · try simp (disch := omega) only [pe_K_wI, pe_K_wR, pe_R_nej, pe_R_wI, pm_KM hF, pm_Kh, pm_R48 hF, pm_Rh]
    have hrc : pe_K (pm_h M σ q y) M = 9 := by first | assumption | (simp (disch := omega) only [pe_K_wI, pe_K_wR, pe_R_nej, pe_R_wI, pm_KM hF, pm_Kh, pm_R48 hF, pm_Rh]; done) | (simp (disch := omega) only [pe_K_wI, pe_K_wR, pe_R_nej, pe_R_wI, pm_KM hF, pm_Kh, pm_R48 hF, pm_Rh]; assumption)
    exact pe_cal 4 ck188 rfl rfl rfl ⟨hrc, by decide⟩ k
theorem b188_9 {d : Nat} {Φ : Option pe_V → pe_H → Prop} {σ : pe_H} {M q : Nat} {y : Nat → Int → Int} (hF : pm_F M σ)     (k : Φ none (pm_h M σ q y)) : pe_X d 188 (9, [some (.inr (.inr M))], [], pm_h M σ q y) Φ := by
  exact pe_fine 5 ck188 rfl rfl rfl trivial k
-- StepMachinesModel.image()I
def T189 : List (Nat × Instr × Nat) := [(0, .aload_n 0, 1), (1, .iconst 0, 1), (2, .putfield 141, 3), (5, .aload_n 0, 1), (6, .iconst 1, 1), (7, .putfield 366, 3), (10, .aload_n 0, 1), (11, .aload_n 0, 1), (12, .getfield 129, 3), (15, .iconst 1, 1), (16, .invokevirtual 362, 3), (19, .aload_n 0, 1), (20, .getfield 246, 3), (23, .ireturn, 1)]
theorem ck189 : pe_ctx 189 9 false (some .int) 1 T189 := ⟨rfl, rfl, rfl, rfl, by decide +kernel, by decide, by decide⟩
theorem b189_0 {d : Nat} {Φ : Option pe_V → pe_H → Prop} {σ : pe_H} {M q : Nat} {y : Nat → Int → Int} (hF : pm_F M σ)     (k : pe_M d 186 [.inr (.inr M), .inr (.inr (M + 39)), .inl 1] (pm_h M σ q (pm_u (pm_u y 0 37 0) 0 50 1)) (fun r σ' => pe_X d 189 (19, [some (.inr (.inr M))], r.toList ++ [], σ') Φ)) : pe_X d 189 (0, [some (.inr (.inr M))], [], pm_h M σ q y) Φ := by
  refine pe_blk 0 10 ck189 [pe_K (pm_h M σ q y) M = 9, pe_K (pe_wI (pm_h M σ q y) M 37 0) M = 9, 1 = 0 ∨ 1 = 1, pe_K (pe_wI (pe_wI (pm_h M σ q y) M 37 0) M 50 1) M = 9] (16, [some (.inr (.inr M))], [.inl 1, .inr (.inr (pe_R (pe_wI (pe_wI (pm_h M σ q y) M 37 0) M 50 1) M 49)), .inr (.inr M)], pe_wI (pe_wI (pm_h M σ q y) M 37 0) M 50 1) rfl ?_ ?_
  · first
    | (simp (disch := omega) only [pe_all, pe_K_wI, pe_K_wR, pe_R_nej, pe_R_wI, pm_KM hF, pm_Kh, pm_R49 hF, pm_Rh, pm_wI0]; done)
    | (simp (disch := omega) only [pe_all, pe_K_wI, pe_K_wR, pe_R_nej, pe_R_wI, pm_KM hF, pm_Kh, pm_R49 hF, pm_Rh, pm_wI0]; (repeat' apply And.intro) <;> first | assumption | omega | decide)
  · try simp (disch := omega) only [pe_K_wI, pe_K_wR, pe_R_nej, pe_R_wI, pm_KM hF, pm_Kh, pm_R49 hF, pm_Rh, pm_wI0]
    have hrc : pe_K (pm_h M σ q (pm_u (pm_u y 0 37 0) 0 50 1)) M = 9 := by first | assumption | (simp (disch := omega) only [pe_K_wI, pe_K_wR, pe_R_nej, pe_R_wI, pm_KM hF, pm_Kh, pm_R49 hF, pm_Rh, pm_wI0]; done) | (simp (disch := omega) only [pe_K_wI, pe_K_wR, pe_R_nej, pe_R_wI, pm_KM hF, pm_Kh, pm_R49 hF, pm_Rh, pm_wI0]; assumption)
    exact pe_cal 10 ck189 rfl rfl rfl ⟨hrc, by decide⟩ k
theorem b189_19 {d : Nat} {Φ : Option pe_V → pe_H → Prop} {σ : pe_H} {M q : Nat} {y : Nat → Int → Int} (hF : pm_F M σ)     (k : Φ (some (.inl (y 0 29))) (pm_h M σ q y)) : pe_X d 189 (19, [some (.inr (.inr M))], [], pm_h M σ q y) Φ := by
  refine pe_blk 11 2 ck189 [pe_K (pm_h M σ q y) M = 9] (23, [some (.inr (.inr M))], [.inl (pe_I (pm_h M σ q y) M 29)], pm_h M σ q y) rfl ?_ ?_
  · first
    | (simp (disch := omega) only [pe_all, pe_I_wR, pe_K_wI, pe_K_wR, pm_I0, pm_KM hF, pm_Kh, pm_uj, pm_uk, pm_us]; done)
    | (simp (disch := omega) only [pe_all, pe_I_wR, pe_K_wI, pe_K_wR, pm_I0, pm_KM hF, pm_Kh, pm_uj, pm_uk, pm_us]; (repeat' apply And.intro) <;> first | assumption | omega | decide)
  · try simp (disch := omega) only [pe_I_wR, pe_K_wI, pe_K_wR, pm_I0, pm_KM hF, pm_Kh, pm_uj, pm_uk, pm_us]
    exact pe_fine 13 ck189 rfl rfl rfl trivial k
-- StepMachinesModel.restore()I
def T190 : List (Nat × Instr × Nat) := [(0, .aload_n 0, 1), (1, .iconst 0, 1), (2, .putfield 141, 3), (5, .aload_n 0, 1), (6, .getfield 366, 3), (9, .ifCond .ne 6, 3), (12, .bipush (-3), 2), (14, .ireturn, 1), (15, .aload_n 0, 1), (16, .aload_n 0, 1), (17, .getfield 129, 3), (20, .iconst 0, 1), (21, .invokevirtual 362, 3), (24, .aload_n 0, 1), (25, .getfield 246, 3), (28, .ireturn, 1)]
theorem ck190 : pe_ctx 190 9 false (some .int) 1 T190 := ⟨rfl, rfl, rfl, rfl, by decide +kernel, by decide, by decide⟩
theorem b190_0 {d : Nat} {Φ : Option pe_V → pe_H → Prop} {σ : pe_H} {M q : Nat} {y : Nat → Int → Int} (hF : pm_F M σ)   (w0 : pe_in (y 0 50) := by unfold pe_in; omega)  (k1 : ¬ (y 0 50) = 0 → pe_X d 190 (15, [some (.inr (.inr M))], [], pm_h M σ q (pm_u y 0 37 0)) Φ) (k2 : (y 0 50) = 0 → pe_X d 190 (12, [some (.inr (.inr M))], [], pm_h M σ q (pm_u y 0 37 0)) Φ) : pe_X d 190 (0, [some (.inr (.inr M))], [], pm_h M σ q y) Φ := by
  refine pe_blk 0 6 ck190 [pe_K (pm_h M σ q y) M = 9, pe_K (pe_wI (pm_h M σ q y) M 37 0) M = 9] (cond (decide (¬ (pe_w (pe_I (pe_wI (pm_h M σ q y) M 37 0) M 50)) = 0)) 15 12, [some (.inr (.inr M))], [], pe_wI (pm_h M σ q y) M 37 0) rfl ?_ ?_
  · first
    | (simp (disch := omega) only [pe_all, pe_wi w0, pe_I_wR, pe_K_wI, pe_K_wR, pm_I0, pm_KM hF, pm_Kh, pm_uj, pm_uk, pm_us, pm_wI0]; done)
    | (simp (disch := omega) only [pe_all, pe_wi w0, pe_I_wR, pe_K_wI, pe_K_wR, pm_I0, pm_KM hF, pm_Kh, pm_uj, pm_uk, pm_us, pm_wI0]; (repeat' apply And.intro) <;> first | assumption | omega | decide)
  · try simp (disch := omega) only [pe_wi w0, pe_I_wR, pe_K_wI, pe_K_wR, pm_I0, pm_KM hF, pm_Kh, pm_uj, pm_uk, pm_us, pm_wI0]
    exact pe_two' k1 k2
theorem b190_12 {d : Nat} {Φ : Option pe_V → pe_H → Prop} {σ : pe_H} {M q : Nat} {y : Nat → Int → Int} (hF : pm_F M σ)     (k : Φ (some (.inl (-3))) (pm_h M σ q y)) : pe_X d 190 (12, [some (.inr (.inr M))], [], pm_h M σ q y) Φ := by
  refine pe_blk 6 1 ck190 [] (14, [some (.inr (.inr M))], [.inl (-3)], pm_h M σ q y) rfl ?_ ?_
  · exact trivial
  · exact pe_fine 7 ck190 rfl rfl rfl trivial k
theorem b190_15 {d : Nat} {Φ : Option pe_V → pe_H → Prop} {σ : pe_H} {M q : Nat} {y : Nat → Int → Int} (hF : pm_F M σ)     (k : pe_M d 186 [.inr (.inr M), .inr (.inr (M + 39)), .inl 0] (pm_h M σ q y) (fun r σ' => pe_X d 190 (24, [some (.inr (.inr M))], r.toList ++ [], σ') Φ)) : pe_X d 190 (15, [some (.inr (.inr M))], [], pm_h M σ q y) Φ := by
  refine pe_blk 8 4 ck190 [pe_K (pm_h M σ q y) M = 9] (21, [some (.inr (.inr M))], [.inl 0, .inr (.inr (pe_R (pm_h M σ q y) M 49)), .inr (.inr M)], pm_h M σ q y) rfl ?_ ?_
  · first
    | (simp (disch := omega) only [pe_all, pe_K_wI, pe_K_wR, pe_R_nej, pe_R_wI, pm_KM hF, pm_Kh, pm_R49 hF, pm_Rh]; done)
    | (simp (disch := omega) only [pe_all, pe_K_wI, pe_K_wR, pe_R_nej, pe_R_wI, pm_KM hF, pm_Kh, pm_R49 hF, pm_Rh]; (repeat' apply And.intro) <;> first | assumption | omega | decide)
  · try simp (disch := omega) only [pe_K_wI, pe_K_wR, pe_R_nej, pe_R_wI, pm_KM hF, pm_Kh, pm_R49 hF, pm_Rh]
    have hrc : pe_K (pm_h M σ q y) M = 9 := by first | assumption | (simp (disch := omega) only [pe_K_wI, pe_K_wR, pe_R_nej, pe_R_wI, pm_KM hF, pm_Kh, pm_R49 hF, pm_Rh]; done) | (simp (disch := omega) only [pe_K_wI, pe_K_wR, pe_R_nej, pe_R_wI, pm_KM hF, pm_Kh, pm_R49 hF, pm_Rh]; assumption)
    exact pe_cal 12 ck190 rfl rfl rfl ⟨hrc, by decide⟩ k
theorem b190_24 {d : Nat} {Φ : Option pe_V → pe_H → Prop} {σ : pe_H} {M q : Nat} {y : Nat → Int → Int} (hF : pm_F M σ)     (k : Φ (some (.inl (y 0 29))) (pm_h M σ q y)) : pe_X d 190 (24, [some (.inr (.inr M))], [], pm_h M σ q y) Φ := by
  refine pe_blk 13 2 ck190 [pe_K (pm_h M σ q y) M = 9] (28, [some (.inr (.inr M))], [.inl (pe_I (pm_h M σ q y) M 29)], pm_h M σ q y) rfl ?_ ?_
  · first
    | (simp (disch := omega) only [pe_all, pe_I_wR, pe_K_wI, pe_K_wR, pm_I0, pm_KM hF, pm_Kh, pm_uj, pm_uk, pm_us]; done)
    | (simp (disch := omega) only [pe_all, pe_I_wR, pe_K_wI, pe_K_wR, pm_I0, pm_KM hF, pm_Kh, pm_uj, pm_uk, pm_us]; (repeat' apply And.intro) <;> first | assumption | omega | decide)
  · try simp (disch := omega) only [pe_I_wR, pe_K_wI, pe_K_wR, pm_I0, pm_KM hF, pm_Kh, pm_uj, pm_uk, pm_us]
    exact pe_fine 15 ck190 rfl rfl rfl trivial k
-- StepMachinesModel.program(III)I
def T191 : List (Nat × Instr × Nat) := [(0, .aload_n 0, 1), (1, .iconst 0, 1), (2, .putfield 141, 3), (5, .iload_n 1, 1), (6, .i2l, 1), (7, .lconst 0, 1), (8, .ldc2_w 263, 3), (11, .invokestatic 147, 3), (14, .ifCond .eq 49, 3), (17, .iload_n 2, 1), (18, .i2l, 1), (19, .ldc2_w 369, 3), (22, .aload_n 0, 1), (23, .getfield 7, 3), (26, .iload_n 1, 1), (27, .i2l, 1), (28, .lconst 0, 1), (29, .ldc2_w 263, 3), (32, .invokestatic 147, 3), (35, .ifCond .eq 7, 3), (38, .iload_n 1, 1), (39, .goto 4, 3), (42, .iconst 0, 1), (43, .iaload, 1), (44, .iconst 1, 1), (45, .isub, 1), (46, .i2l, 1), (47, .invokestatic 147, 3), (50, .ifCond .eq 13, 3), (53, .iload_n 3, 1), (54, .i2l, 1), (55, .lconst 0, 1), (56, .lconst 1, 1), (57, .invokestatic 147, 3), (60, .ifCond .ne 5, 3), (63, .iconst (-1), 1), (64, .ireturn, 1), (65, .iload_n 2, 1), (66, .ifCond .ge 12, 3), (69, .aload_n 0, 1), (70, .getfield 7, 3), (73, .iload_n 1, 1), (74, .iaload, 1), (75, .goto 32, 3), (78, .iload_n 3, 1), (79, .ifCond .ne 17, 3), (82, .aload_n 0, 1), (83, .getfield 13, 3), (86, .bipush 16, 2), (88, .iload_n 1, 1), (89, .imul, 1), (90, .iload_n 2, 1), (91, .iadd, 1), (92, .iaload, 1), (93, .goto 14, 3), (96, .aload_n 0, 1), (97, .getfield 16, 3), (100, .bipush 16, 2), (102, .iload_n 1, 1), (103, .imul, 1), (104, .iload_n 2, 1), (105, .iadd, 1), (106, .iaload, 1), (107, .ireturn, 1)]
theorem ck191 : pe_ctx 191 9 false (some .int) 4 T191 := ⟨rfl, rfl, rfl, rfl, by decide +kernel, by decide, by decide⟩
theorem b191_0 {d : Nat} {Φ : Option pe_V → pe_H → Prop} {σ : pe_H} {M q : Nat} {y : Nat → Int → Int} (hF : pm_F M σ) {x1 : Int} {x2 : Int} {x3 : Int}  (w0 : pe_in x1 := by unfold pe_in; omega)  (k : pe_M d 134 [.inr (.inl x1), .inr (.inl 0), .inr (.inl 4)] (pm_h M σ q (pm_u y 0 37 0)) (fun r σ' => pe_X d 191 (14, [some (.inr (.inr M)), some (.inl x1), some (.inl x2), some (.inl x3)], r.toList ++ [], σ') Φ)) : pe_X d 191 (0, [some (.inr (.inr M)), some (.inl x1), some (.inl x2), some (.inl x3)], [], pm_h M σ q y) Φ := by
  refine pe_blk 0 7 ck191 [pe_K (pm_h M σ q y) M = 9] (11, [some (.inr (.inr M)), some (.inl x1), some (.inl x2), some (.inl x3)], [.inr (.inl 4), .inr (.inl 0), .inr (.inl (pe_w x1))], pe_wI (pm_h M σ q y) M 37 0) rfl ?_ ?_
  · first
    | (simp (disch := omega) only [pe_all, pe_wi w0, pe_K_wI, pe_K_wR, pm_KM hF, pm_Kh, pm_wI0]; done)
    | (simp (disch := omega) only [pe_all, pe_wi w0, pe_K_wI, pe_K_wR, pm_KM hF, pm_Kh, pm_wI0]; (repeat' apply And.intro) <;> first | assumption | omega | decide)
  · try simp (disch := omega) only [pe_wi w0, pe_K_wI, pe_K_wR, pm_KM hF, pm_Kh, pm_wI0]
    exact pe_cal 7 ck191 rfl rfl rfl trivial k
theorem b191_14 {d : Nat} {Φ : Option pe_V → pe_H → Prop} {σ : pe_H} {M q : Nat} {y : Nat → Int → Int} (hF : pm_F M σ) {x1 : Int} {x2 : Int} {x3 : Int} {s0 : Int}  (w0 : pe_in s0 := by unfold pe_in; omega)  (k1 : s0 = 0 → pe_X d 191 (63, [some (.inr (.inr M)), some (.inl x1), some (.inl x2), some (.inl x3)], [], pm_h M σ q y) Φ) (k2 : ¬ (s0 = 0) → pe_X d 191 (17, [some (.inr (.inr M)), some (.inl x1), some (.inl x2), some (.inl x3)], [], pm_h M σ q y) Φ) : pe_X d 191 (14, [some (.inr (.inr M)), some (.inl x1), some (.inl x2), some (.inl x3)], [.inl s0], pm_h M σ q y) Φ := by
  refine pe_blk 8 1 ck191 [] (cond (decide ((pe_w s0) = 0)) 63 17, [some (.inr (.inr M)), some (.inl x1), some (.inl x2), some (.inl x3)], [], pm_h M σ q y) rfl ?_ ?_
  · exact trivial
  · try simp (disch := omega) only [pe_wi w0]
    exact pe_two k1 k2
theorem b191_17 {d : Nat} {Φ : Option pe_V → pe_H → Prop} {σ : pe_H} {M q : Nat} {y : Nat → Int → Int} (hF : pm_F M σ) {x1 : Int} {x2 : Int} {x3 : Int}  (w0 : pe_in x2 := by unfold pe_in; omega) (w1 : pe_in x1 := by unfold pe_in; omega)  (k : pe_M d 134 [.inr (.inl x1), .inr (.inl 0), .inr (.inl 4)] (pm_h M σ q y) (fun r σ' => pe_X d 191 (35, [some (.inr (.inr M)), some (.inl x1), some (.inl x2), some (.inl x3)], r.toList ++ [.inr (.inr (M + 1)), .inr (.inl (-1)), .inr (.inl x2)], σ') Φ)) : pe_X d 191 (17, [some (.inr (.inr M)), some (.inl x1), some (.inl x2), some (.inl x3)], [], pm_h M σ q y) Φ := by
  refine pe_blk 9 9 ck191 [pe_K (pm_h M σ q y) M = 9] (32, [some (.inr (.inr M)), some (.inl x1), some (.inl x2), some (.inl x3)], [.inr (.inl 4), .inr (.inl 0), .inr (.inl (pe_w x1)), .inr (.inr (pe_R (pm_h M σ q y) M 0)), .inr (.inl (-1)), .inr (.inl (pe_w x2))], pm_h M σ q y) rfl ?_ ?_
  · first
    | (simp (disch := omega) only [pe_all, pe_wi w0, pe_wi w1, pe_K_wI, pe_K_wR, pe_R_nej, pe_R_wI, pm_KM hF, pm_Kh, pm_R0 hF, pm_Rh]; done)
    | (simp (disch := omega) only [pe_all, pe_wi w0, pe_wi w1, pe_K_wI, pe_K_wR, pe_R_nej, pe_R_wI, pm_KM hF, pm_Kh, pm_R0 hF, pm_Rh]; (repeat' apply And.intro) <;> first | assumption | omega | decide)
  · try simp (disch := omega) only [pe_wi w0, pe_wi w1, pe_K_wI, pe_K_wR, pe_R_nej, pe_R_wI, pm_KM hF, pm_Kh, pm_R0 hF, pm_Rh]
    exact pe_cal 18 ck191 rfl rfl rfl trivial k
theorem b191_35 {d : Nat} {Φ : Option pe_V → pe_H → Prop} {σ : pe_H} {M q : Nat} {y : Nat → Int → Int} (hF : pm_F M σ) {x1 : Int} {x2 : Int} {x3 : Int} {z0 : Int} {z1 : Int} {s3 : Int}  (w0 : pe_in s3 := by unfold pe_in; omega)  (k1 : s3 = 0 → pe_X d 191 (42, [some (.inr (.inr M)), some (.inl x1), some (.inl x2), some (.inl x3)], [.inr (.inr (M + 1)), .inr (.inl z1), .inr (.inl z0)], pm_h M σ q y) Φ) (k2 : ¬ (s3 = 0) → pe_X d 191 (38, [some (.inr (.inr M)), some (.inl x1), some (.inl x2), some (.inl x3)], [.inr (.inr (M + 1)), .inr (.inl z1), .inr (.inl z0)], pm_h M σ q y) Φ) : pe_X d 191 (35, [some (.inr (.inr M)), some (.inl x1), some (.inl x2), some (.inl x3)], [.inl s3, .inr (.inr (M + 1)), .inr (.inl z1), .inr (.inl z0)], pm_h M σ q y) Φ := by
  refine pe_blk 19 1 ck191 [] (cond (decide ((pe_w s3) = 0)) 42 38, [some (.inr (.inr M)), some (.inl x1), some (.inl x2), some (.inl x3)], [.inr (.inr (M + 1)), .inr (.inl z1), .inr (.inl z0)], pm_h M σ q y) rfl ?_ ?_
  · exact trivial
  · try simp (disch := omega) only [pe_wi w0]
    exact pe_two k1 k2
theorem b191_38 {d : Nat} {Φ : Option pe_V → pe_H → Prop} {σ : pe_H} {M q : Nat} {y : Nat → Int → Int} (hF : pm_F M σ) {x1 : Int} {x2 : Int} {x3 : Int} {z0 : Int} {z1 : Int}    (k : pe_X d 191 (43, [some (.inr (.inr M)), some (.inl x1), some (.inl x2), some (.inl x3)], [.inl x1, .inr (.inr (M + 1)), .inr (.inl z1), .inr (.inl z0)], pm_h M σ q y) Φ) : pe_X d 191 (38, [some (.inr (.inr M)), some (.inl x1), some (.inl x2), some (.inl x3)], [.inr (.inr (M + 1)), .inr (.inl z1), .inr (.inl z0)], pm_h M σ q y) Φ := by
  refine pe_blk 20 2 ck191 [] (43, [some (.inr (.inr M)), some (.inl x1), some (.inl x2), some (.inl x3)], [.inl x1, .inr (.inr (M + 1)), .inr (.inl z1), .inr (.inl z0)], pm_h M σ q y) rfl ?_ ?_
  · exact trivial
  · exact k
theorem b191_42 {d : Nat} {Φ : Option pe_V → pe_H → Prop} {σ : pe_H} {M q : Nat} {y : Nat → Int → Int} (hF : pm_F M σ) {x1 : Int} {x2 : Int} {x3 : Int} {z0 : Int} {z1 : Int}    (k : pe_X d 191 (43, [some (.inr (.inr M)), some (.inl x1), some (.inl x2), some (.inl x3)], [.inl 0, .inr (.inr (M + 1)), .inr (.inl z1), .inr (.inl z0)], pm_h M σ q y) Φ) : pe_X d 191 (42, [some (.inr (.inr M)), some (.inl x1), some (.inl x2), some (.inl x3)], [.inr (.inr (M + 1)), .inr (.inl z1), .inr (.inl z0)], pm_h M σ q y) Φ := by
  refine pe_blk 22 1 ck191 [] (43, [some (.inr (.inr M)), some (.inl x1), some (.inl x2), some (.inl x3)], [.inl 0, .inr (.inr (M + 1)), .inr (.inl z1), .inr (.inl z0)], pm_h M σ q y) rfl ?_ ?_
  · exact trivial
  · exact k
theorem b191_43 {d : Nat} {Φ : Option pe_V → pe_H → Prop} {σ : pe_H} {M q : Nat} {y : Nat → Int → Int} (hF : pm_F M σ) {x1 : Int} {x2 : Int} {x3 : Int} {z0 : Int} {z1 : Int} {s3 : Int}  (w0 : pe_in s3 := by unfold pe_in; omega) (w1 : pe_in ((y 1 s3) - 1) := by unfold pe_in; omega) (h0 : 0 ≤ s3 := by first | assumption | omega) (h1 : s3 < 5 := by first | assumption | omega) (k : pe_M d 134 [.inr (.inl z0), .inr (.inl z1), .inr (.inl ((y 1 s3) - 1))] (pm_h M σ q y) (fun r σ' => pe_X d 191 (50, [some (.inr (.inr M)), some (.inl x1), some (.inl x2), some (.inl x3)], r.toList ++ [], σ') Φ)) : pe_X d 191 (43, [some (.inr (.inr M)), some (.inl x1), some (.inl x2), some (.inl x3)], [.inl s3, .inr (.inr (M + 1)), .inr (.inl z1), .inr (.inl z0)], pm_h M σ q y) Φ := by
  refine pe_blk 23 4 ck191 [pe_K (pm_h M σ q y) (M + 1) = 10, 0 ≤ (pe_w s3), (pe_w s3) < pe_L (pm_h M σ q y) (M + 1)] (47, [some (.inr (.inr M)), some (.inl x1), some (.inl x2), some (.inl x3)], [.inr (.inl (pe_w ((pe_I (pm_h M σ q y) (M + 1) (pe_w s3)) - 1))), .inr (.inl z1), .inr (.inl z0)], pm_h M σ q y) rfl ?_ ?_
  · first
    | (simp (disch := omega) only [pe_all, pe_wi w0, pe_wi w1, pe_I_wR, pe_K_wI, pe_K_wR, pe_L_wI, pe_L_wR, pm_Ik, pm_K1 hF, pm_Kh, pm_L1 hF, pm_Lh, pm_uj, pm_uk, pm_us]; done)
    | (simp (disch := omega) only [pe_all, pe_wi w0, pe_wi w1, pe_I_wR, pe_K_wI, pe_K_wR, pe_L_wI, pe_L_wR, pm_Ik, pm_K1 hF, pm_Kh, pm_L1 hF, pm_Lh, pm_uj, pm_uk, pm_us]; (repeat' apply And.intro) <;> first | assumption | omega | decide)
  · try simp (disch := omega) only [pe_wi w0, pe_wi w1, pe_I_wR, pe_K_wI, pe_K_wR, pe_L_wI, pe_L_wR, pm_Ik, pm_K1 hF, pm_Kh, pm_L1 hF, pm_Lh, pm_uj, pm_uk, pm_us]
    exact pe_cal 27 ck191 rfl rfl rfl trivial k
theorem b191_50 {d : Nat} {Φ : Option pe_V → pe_H → Prop} {σ : pe_H} {M q : Nat} {y : Nat → Int → Int} (hF : pm_F M σ) {x1 : Int} {x2 : Int} {x3 : Int} {s0 : Int}  (w0 : pe_in s0 := by unfold pe_in; omega)  (k1 : s0 = 0 → pe_X d 191 (63, [some (.inr (.inr M)), some (.inl x1), some (.inl x2), some (.inl x3)], [], pm_h M σ q y) Φ) (k2 : ¬ (s0 = 0) → pe_X d 191 (53, [some (.inr (.inr M)), some (.inl x1), some (.inl x2), some (.inl x3)], [], pm_h M σ q y) Φ) : pe_X d 191 (50, [some (.inr (.inr M)), some (.inl x1), some (.inl x2), some (.inl x3)], [.inl s0], pm_h M σ q y) Φ := by
  refine pe_blk 28 1 ck191 [] (cond (decide ((pe_w s0) = 0)) 63 53, [some (.inr (.inr M)), some (.inl x1), some (.inl x2), some (.inl x3)], [], pm_h M σ q y) rfl ?_ ?_
  · exact trivial
  · try simp (disch := omega) only [pe_wi w0]
    exact pe_two k1 k2
theorem b191_53 {d : Nat} {Φ : Option pe_V → pe_H → Prop} {σ : pe_H} {M q : Nat} {y : Nat → Int → Int} (hF : pm_F M σ) {x1 : Int} {x2 : Int} {x3 : Int}  (w0 : pe_in x3 := by unfold pe_in; omega)  (k : pe_M d 134 [.inr (.inl x3), .inr (.inl 0), .inr (.inl 1)] (pm_h M σ q y) (fun r σ' => pe_X d 191 (60, [some (.inr (.inr M)), some (.inl x1), some (.inl x2), some (.inl x3)], r.toList ++ [], σ') Φ)) : pe_X d 191 (53, [some (.inr (.inr M)), some (.inl x1), some (.inl x2), some (.inl x3)], [], pm_h M σ q y) Φ := by
  refine pe_blk 29 4 ck191 [] (57, [some (.inr (.inr M)), some (.inl x1), some (.inl x2), some (.inl x3)], [.inr (.inl 1), .inr (.inl 0), .inr (.inl (pe_w x3))], pm_h M σ q y) rfl ?_ ?_
  · exact trivial
  · try simp (disch := omega) only [pe_wi w0]
    exact pe_cal 33 ck191 rfl rfl rfl trivial k
theorem b191_60 {d : Nat} {Φ : Option pe_V → pe_H → Prop} {σ : pe_H} {M q : Nat} {y : Nat → Int → Int} (hF : pm_F M σ) {x1 : Int} {x2 : Int} {x3 : Int} {s0 : Int}  (w0 : pe_in s0 := by unfold pe_in; omega)  (k1 : ¬ s0 = 0 → pe_X d 191 (65, [some (.inr (.inr M)), some (.inl x1), some (.inl x2), some (.inl x3)], [], pm_h M σ q y) Φ) (k2 : s0 = 0 → pe_X d 191 (63, [some (.inr (.inr M)), some (.inl x1), some (.inl x2), some (.inl x3)], [], pm_h M σ q y) Φ) : pe_X d 191 (60, [some (.inr (.inr M)), some (.inl x1), some (.inl x2), some (.inl x3)], [.inl s0], pm_h M σ q y) Φ := by
  refine pe_blk 34 1 ck191 [] (cond (decide (¬ (pe_w s0) = 0)) 65 63, [some (.inr (.inr M)), some (.inl x1), some (.inl x2), some (.inl x3)], [], pm_h M σ q y) rfl ?_ ?_
  · exact trivial
  · try simp (disch := omega) only [pe_wi w0]
    exact pe_two' k1 k2
theorem b191_63 {d : Nat} {Φ : Option pe_V → pe_H → Prop} {σ : pe_H} {M q : Nat} {y : Nat → Int → Int} (hF : pm_F M σ) {o1 : Option pe_V} {o2 : Option pe_V} {o3 : Option pe_V}    (k : Φ (some (.inl (-1))) (pm_h M σ q y)) : pe_X d 191 (63, [some (.inr (.inr M)), o1, o2, o3], [], pm_h M σ q y) Φ := by
  refine pe_blk 35 1 ck191 [] (64, [some (.inr (.inr M)), o1, o2, o3], [.inl (-1)], pm_h M σ q y) rfl ?_ ?_
  · exact trivial
  · exact pe_fine 36 ck191 rfl rfl rfl trivial k
theorem b191_65 {d : Nat} {Φ : Option pe_V → pe_H → Prop} {σ : pe_H} {M q : Nat} {y : Nat → Int → Int} (hF : pm_F M σ) {x1 : Int} {x2 : Int} {x3 : Int}  (w0 : pe_in x2 := by unfold pe_in; omega)  (k1 : 0 ≤ x2 → pe_X d 191 (78, [some (.inr (.inr M)), some (.inl x1), some (.inl x2), some (.inl x3)], [], pm_h M σ q y) Φ) (k2 : ¬ (0 ≤ x2) → pe_X d 191 (69, [some (.inr (.inr M)), some (.inl x1), some (.inl x2), some (.inl x3)], [], pm_h M σ q y) Φ) : pe_X d 191 (65, [some (.inr (.inr M)), some (.inl x1), some (.inl x2), some (.inl x3)], [], pm_h M σ q y) Φ := by
  refine pe_blk 37 2 ck191 [] (cond (decide (0 ≤ (pe_w x2))) 78 69, [some (.inr (.inr M)), some (.inl x1), some (.inl x2), some (.inl x3)], [], pm_h M σ q y) rfl ?_ ?_
  · exact trivial
  · try simp (disch := omega) only [pe_wi w0]
    exact pe_two k1 k2
theorem b191_69 {d : Nat} {Φ : Option pe_V → pe_H → Prop} {σ : pe_H} {M q : Nat} {y : Nat → Int → Int} (hF : pm_F M σ) {x1 : Int} {o2 : Option pe_V} {o3 : Option pe_V}  (w0 : pe_in x1 := by unfold pe_in; omega) (h0 : 0 ≤ x1 := by first | assumption | omega) (h1 : x1 < 5 := by first | assumption | omega) (k : pe_X d 191 (107, [some (.inr (.inr M)), some (.inl x1), o2, o3], [.inl (y 1 x1)], pm_h M σ q y) Φ) : pe_X d 191 (69, [some (.inr (.inr M)), some (.inl x1), o2, o3], [], pm_h M σ q y) Φ := by
  refine pe_blk 39 5 ck191 [pe_K (pm_h M σ q y) M = 9, pe_K (pm_h M σ q y) (pe_R (pm_h M σ q y) M 0) = 10, 0 ≤ (pe_w x1), (pe_w x1) < pe_L (pm_h M σ q y) (pe_R (pm_h M σ q y) M 0)] (107, [some (.inr (.inr M)), some (.inl x1), o2, o3], [.inl (pe_I (pm_h M σ q y) (pe_R (pm_h M σ q y) M 0) (pe_w x1))], pm_h M σ q y) rfl ?_ ?_
  · first
    | (simp (disch := omega) only [pe_all, pe_wi w0, pe_I_wR, pe_K_wI, pe_K_wR, pe_L_wI, pe_L_wR, pe_R_nej, pe_R_wI, pm_Ik, pm_K1 hF, pm_KM hF, pm_Kh, pm_L1 hF, pm_Lh, pm_R0 hF, pm_Rh, pm_uj, pm_uk, pm_us]; done)
    | (simp (disch := omega) only [pe_all, pe_wi w0, pe_I_wR, pe_K_wI, pe_K_wR, pe_L_wI, pe_L_wR, pe_R_nej, pe_R_wI, pm_Ik, pm_K1 hF, pm_KM hF, pm_Kh, pm_L1 hF, pm_Lh, pm_R0 hF, pm_Rh, pm_uj, pm_uk, pm_us]; (repeat' apply And.intro) <;> first | assumption | omega | decide)
  · try simp (disch := omega) only [pe_wi w0, pe_I_wR, pe_K_wI, pe_K_wR, pe_L_wI, pe_L_wR, pe_R_nej, pe_R_wI, pm_Ik, pm_K1 hF, pm_KM hF, pm_Kh, pm_L1 hF, pm_Lh, pm_R0 hF, pm_Rh, pm_uj, pm_uk, pm_us]
    exact k
theorem b191_78 {d : Nat} {Φ : Option pe_V → pe_H → Prop} {σ : pe_H} {M q : Nat} {y : Nat → Int → Int} (hF : pm_F M σ) {x1 : Int} {x2 : Int} {x3 : Int}  (w0 : pe_in x3 := by unfold pe_in; omega)  (k1 : ¬ x3 = 0 → pe_X d 191 (96, [some (.inr (.inr M)), some (.inl x1), some (.inl x2), some (.inl x3)], [], pm_h M σ q y) Φ) (k2 : x3 = 0 → pe_X d 191 (82, [some (.inr (.inr M)), some (.inl x1), some (.inl x2), some (.inl x3)], [], pm_h M σ q y) Φ) : pe_X d 191 (78, [some (.inr (.inr M)), some (.inl x1), some (.inl x2), some (.inl x3)], [], pm_h M σ q y) Φ := by
  refine pe_blk 44 2 ck191 [] (cond (decide (¬ (pe_w x3) = 0)) 96 82, [some (.inr (.inr M)), some (.inl x1), some (.inl x2), some (.inl x3)], [], pm_h M σ q y) rfl ?_ ?_
  · exact trivial
  · try simp (disch := omega) only [pe_wi w0]
    exact pe_two' k1 k2
set_option maxRecDepth 8000 in
theorem b191_82 {d : Nat} {Φ : Option pe_V → pe_H → Prop} {σ : pe_H} {M q : Nat} {y : Nat → Int → Int} (hF : pm_F M σ) {x1 : Int} {x2 : Int} {o3 : Option pe_V}  (w0 : pe_in ((16 * x1) + x2) := by unfold pe_in; omega) (h0 : 0 ≤ ((16 * x1) + x2) := by first | assumption | omega) (h1 : ((16 * x1) + x2) < 80 := by first | assumption | omega) (k : pe_X d 191 (107, [some (.inr (.inr M)), some (.inl x1), some (.inl x2), o3], [.inl (y 2 ((16 * x1) + x2))], pm_h M σ q y) Φ) : pe_X d 191 (82, [some (.inr (.inr M)), some (.inl x1), some (.inl x2), o3], [], pm_h M σ q y) Φ := by
  refine pe_blk 46 9 ck191 [pe_K (pm_h M σ q y) M = 9, pe_K (pm_h M σ q y) (pe_R (pm_h M σ q y) M 1) = 10, 0 ≤ (pe_w ((16 * x1) + x2)), (pe_w ((16 * x1) + x2)) < pe_L (pm_h M σ q y) (pe_R (pm_h M σ q y) M 1)] (107, [some (.inr (.inr M)), some (.inl x1), some (.inl x2), o3], [.inl (pe_I (pm_h M σ q y) (pe_R (pm_h M σ q y) M 1) (pe_w ((16 * x1) + x2)))], pm_h M σ q y) rfl ?_ ?_
  · first
    | (simp (disch := omega) only [pe_all, pe_wi w0, pe_I_wR, pe_K_wI, pe_K_wR, pe_L_wI, pe_L_wR, pe_R_nej, pe_R_wI, pm_Ik, pm_K2 hF, pm_KM hF, pm_Kh, pm_L2 hF, pm_Lh, pm_R1 hF, pm_Rh, pm_uj, pm_uk, pm_us]; done)
    | (simp (disch := omega) only [pe_all, pe_wi w0, pe_I_wR, pe_K_wI, pe_K_wR, pe_L_wI, pe_L_wR, pe_R_nej, pe_R_wI, pm_Ik, pm_K2 hF, pm_KM hF, pm_Kh, pm_L2 hF, pm_Lh, pm_R1 hF, pm_Rh, pm_uj, pm_uk, pm_us]; (repeat' apply And.intro) <;> first | assumption | omega | decide)
  · try simp (disch := omega) only [pe_wi w0, pe_I_wR, pe_K_wI, pe_K_wR, pe_L_wI, pe_L_wR, pe_R_nej, pe_R_wI, pm_Ik, pm_K2 hF, pm_KM hF, pm_Kh, pm_L2 hF, pm_Lh, pm_R1 hF, pm_Rh, pm_uj, pm_uk, pm_us]
    exact k
set_option maxRecDepth 8000 in
theorem b191_96 {d : Nat} {Φ : Option pe_V → pe_H → Prop} {σ : pe_H} {M q : Nat} {y : Nat → Int → Int} (hF : pm_F M σ) {x1 : Int} {x2 : Int} {o3 : Option pe_V}  (w0 : pe_in ((16 * x1) + x2) := by unfold pe_in; omega) (h0 : 0 ≤ ((16 * x1) + x2) := by first | assumption | omega) (h1 : ((16 * x1) + x2) < 80 := by first | assumption | omega) (k : pe_X d 191 (107, [some (.inr (.inr M)), some (.inl x1), some (.inl x2), o3], [.inl (y 3 ((16 * x1) + x2))], pm_h M σ q y) Φ) : pe_X d 191 (96, [some (.inr (.inr M)), some (.inl x1), some (.inl x2), o3], [], pm_h M σ q y) Φ := by
  refine pe_blk 55 8 ck191 [pe_K (pm_h M σ q y) M = 9, pe_K (pm_h M σ q y) (pe_R (pm_h M σ q y) M 2) = 10, 0 ≤ (pe_w ((16 * x1) + x2)), (pe_w ((16 * x1) + x2)) < pe_L (pm_h M σ q y) (pe_R (pm_h M σ q y) M 2)] (107, [some (.inr (.inr M)), some (.inl x1), some (.inl x2), o3], [.inl (pe_I (pm_h M σ q y) (pe_R (pm_h M σ q y) M 2) (pe_w ((16 * x1) + x2)))], pm_h M σ q y) rfl ?_ ?_
  · first
    | (simp (disch := omega) only [pe_all, pe_wi w0, pe_I_wR, pe_K_wI, pe_K_wR, pe_L_wI, pe_L_wR, pe_R_nej, pe_R_wI, pm_Ik, pm_K3 hF, pm_KM hF, pm_Kh, pm_L3 hF, pm_Lh, pm_R2 hF, pm_Rh, pm_uj, pm_uk, pm_us]; done)
    | (simp (disch := omega) only [pe_all, pe_wi w0, pe_I_wR, pe_K_wI, pe_K_wR, pe_L_wI, pe_L_wR, pe_R_nej, pe_R_wI, pm_Ik, pm_K3 hF, pm_KM hF, pm_Kh, pm_L3 hF, pm_Lh, pm_R2 hF, pm_Rh, pm_uj, pm_uk, pm_us]; (repeat' apply And.intro) <;> first | assumption | omega | decide)
  · try simp (disch := omega) only [pe_wi w0, pe_I_wR, pe_K_wI, pe_K_wR, pe_L_wI, pe_L_wR, pe_R_nej, pe_R_wI, pm_Ik, pm_K3 hF, pm_KM hF, pm_Kh, pm_L3 hF, pm_Lh, pm_R2 hF, pm_Rh, pm_uj, pm_uk, pm_us]
    exact k
set_option maxRecDepth 8000 in
theorem b191_107 {d : Nat} {Φ : Option pe_V → pe_H → Prop} {σ : pe_H} {M q : Nat} {y : Nat → Int → Int} (hF : pm_F M σ) {o1 : Option pe_V} {o2 : Option pe_V} {o3 : Option pe_V} {s0 : Int}    (k : Φ (some (.inl s0)) (pm_h M σ q y)) : pe_X d 191 (107, [some (.inr (.inr M)), o1, o2, o3], [.inl s0], pm_h M σ q y) Φ := by
  exact pe_fine 63 ck191 rfl rfl rfl trivial k
-- StepMachinesModel.comes(II)I
def T192 : List (Nat × Instr × Nat) := [(0, .aload_n 0, 1), (1, .iconst 0, 1), (2, .putfield 141, 3), (5, .iload_n 1, 1), (6, .i2l, 1), (7, .lconst 0, 1), (8, .ldc2_w 263, 3), (11, .invokestatic 147, 3), (14, .ifCond .eq 11, 3), (17, .aload_n 0, 1), (18, .iload_n 2, 1), (19, .invokevirtual 371, 3), (22, .ifCond .ge 25, 3), (25, .iload_n 1, 1), (26, .i2l, 1), (27, .lconst 0, 1), (28, .ldc2_w 263, 3), (31, .invokestatic 147, 3), (34, .ifCond .eq 11, 3), (37, .aload_n 0, 1), (38, .iload_n 2, 1), (39, .invokevirtual 371, 3), (42, .goto 4, 3), (45, .iconst (-1), 1), (46, .ireturn, 1), (47, .aload_n 0, 1), (48, .iload_n 1, 1), (49, .aload_n 0, 1), (50, .getfield 95, 3), (53, .iload_n 2, 1), (54, .iaload, 1), (55, .aload_n 0, 1), (56, .getfield 98, 3), (59, .iload_n 2, 1), (60, .iaload, 1), (61, .invokevirtual 318, 3), (64, .ifCond .eq 12, 3), (67, .aload_n 0, 1), (68, .getfield 144, 3), (71, .iconst 1, 1), (72, .isub, 1), (73, .goto 5, 3), (76, .bipush (-2), 2), (78, .ireturn, 1)]
theorem ck192 : pe_ctx 192 9 false (some .int) 3 T192 := ⟨rfl, rfl, rfl, rfl, by decide +kernel, by decide, by decide⟩
theorem b192_0 {d : Nat} {Φ : Option pe_V → pe_H → Prop} {σ : pe_H} {M q : Nat} {y : Nat → Int → Int} (hF : pm_F M σ) {x1 : Int} {x2 : Int}  (w0 : pe_in x1 := by unfold pe_in; omega)  (k : pe_M d 134 [.inr (.inl x1), .inr (.inl 0), .inr (.inl 4)] (pm_h M σ q (pm_u y 0 37 0)) (fun r σ' => pe_X d 192 (14, [some (.inr (.inr M)), some (.inl x1), some (.inl x2)], r.toList ++ [], σ') Φ)) : pe_X d 192 (0, [some (.inr (.inr M)), some (.inl x1), some (.inl x2)], [], pm_h M σ q y) Φ := by
  refine pe_blk 0 7 ck192 [pe_K (pm_h M σ q y) M = 9] (11, [some (.inr (.inr M)), some (.inl x1), some (.inl x2)], [.inr (.inl 4), .inr (.inl 0), .inr (.inl (pe_w x1))], pe_wI (pm_h M σ q y) M 37 0) rfl ?_ ?_
  · first
    | (simp (disch := omega) only [pe_all, pe_wi w0, pe_K_wI, pe_K_wR, pm_KM hF, pm_Kh, pm_wI0]; done)
    | (simp (disch := omega) only [pe_all, pe_wi w0, pe_K_wI, pe_K_wR, pm_KM hF, pm_Kh, pm_wI0]; (repeat' apply And.intro) <;> first | assumption | omega | decide)
  · try simp (disch := omega) only [pe_wi w0, pe_K_wI, pe_K_wR, pm_KM hF, pm_Kh, pm_wI0]
    exact pe_cal 7 ck192 rfl rfl rfl trivial k
theorem b192_14 {d : Nat} {Φ : Option pe_V → pe_H → Prop} {σ : pe_H} {M q : Nat} {y : Nat → Int → Int} (hF : pm_F M σ) {x1 : Int} {x2 : Int} {s0 : Int}  (w0 : pe_in s0 := by unfold pe_in; omega)  (k1 : s0 = 0 → pe_X d 192 (25, [some (.inr (.inr M)), some (.inl x1), some (.inl x2)], [], pm_h M σ q y) Φ) (k2 : ¬ (s0 = 0) → pe_X d 192 (17, [some (.inr (.inr M)), some (.inl x1), some (.inl x2)], [], pm_h M σ q y) Φ) : pe_X d 192 (14, [some (.inr (.inr M)), some (.inl x1), some (.inl x2)], [.inl s0], pm_h M σ q y) Φ := by
  refine pe_blk 8 1 ck192 [] (cond (decide ((pe_w s0) = 0)) 25 17, [some (.inr (.inr M)), some (.inl x1), some (.inl x2)], [], pm_h M σ q y) rfl ?_ ?_
  · exact trivial
  · try simp (disch := omega) only [pe_wi w0]
    exact pe_two k1 k2
theorem b192_17 {d : Nat} {Φ : Option pe_V → pe_H → Prop} {σ : pe_H} {M q : Nat} {y : Nat → Int → Int} (hF : pm_F M σ) {x1 : Int} {x2 : Int}    (k : pe_M d 233 [.inr (.inr M), .inl x2] (pm_h M σ q y) (fun r σ' => pe_X d 192 (22, [some (.inr (.inr M)), some (.inl x1), some (.inl x2)], r.toList ++ [], σ') Φ)) : pe_X d 192 (17, [some (.inr (.inr M)), some (.inl x1), some (.inl x2)], [], pm_h M σ q y) Φ := by
  refine pe_blk 9 2 ck192 [] (19, [some (.inr (.inr M)), some (.inl x1), some (.inl x2)], [.inl x2, .inr (.inr M)], pm_h M σ q y) rfl ?_ ?_
  · exact trivial
  · try simp (disch := omega) only [pe_K_wI, pe_K_wR, pm_KM hF, pm_Kh]
    have hrc : pe_K (pm_h M σ q y) M = 9 := by first | assumption | (simp (disch := omega) only [pe_K_wI, pe_K_wR, pm_KM hF, pm_Kh]; done) | (simp (disch := omega) only [pe_K_wI, pe_K_wR, pm_KM hF, pm_Kh]; assumption)
    exact pe_cal 11 ck192 rfl rfl rfl ⟨hrc, by decide⟩ k
theorem b192_22 {d : Nat} {Φ : Option pe_V → pe_H → Prop} {σ : pe_H} {M q : Nat} {y : Nat → Int → Int} (hF : pm_F M σ) {x1 : Int} {x2 : Int} {s0 : Int}  (w0 : pe_in s0 := by unfold pe_in; omega)  (k1 : 0 ≤ s0 → pe_X d 192 (47, [some (.inr (.inr M)), some (.inl x1), some (.inl x2)], [], pm_h M σ q y) Φ) (k2 : ¬ (0 ≤ s0) → pe_X d 192 (25, [some (.inr (.inr M)), some (.inl x1), some (.inl x2)], [], pm_h M σ q y) Φ) : pe_X d 192 (22, [some (.inr (.inr M)), some (.inl x1), some (.inl x2)], [.inl s0], pm_h M σ q y) Φ := by
  refine pe_blk 12 1 ck192 [] (cond (decide (0 ≤ (pe_w s0))) 47 25, [some (.inr (.inr M)), some (.inl x1), some (.inl x2)], [], pm_h M σ q y) rfl ?_ ?_
  · exact trivial
  · try simp (disch := omega) only [pe_wi w0]
    exact pe_two k1 k2
theorem b192_25 {d : Nat} {Φ : Option pe_V → pe_H → Prop} {σ : pe_H} {M q : Nat} {y : Nat → Int → Int} (hF : pm_F M σ) {x1 : Int} {x2 : Int}  (w0 : pe_in x1 := by unfold pe_in; omega)  (k : pe_M d 134 [.inr (.inl x1), .inr (.inl 0), .inr (.inl 4)] (pm_h M σ q y) (fun r σ' => pe_X d 192 (34, [some (.inr (.inr M)), some (.inl x1), some (.inl x2)], r.toList ++ [], σ') Φ)) : pe_X d 192 (25, [some (.inr (.inr M)), some (.inl x1), some (.inl x2)], [], pm_h M σ q y) Φ := by
  refine pe_blk 13 4 ck192 [] (31, [some (.inr (.inr M)), some (.inl x1), some (.inl x2)], [.inr (.inl 4), .inr (.inl 0), .inr (.inl (pe_w x1))], pm_h M σ q y) rfl ?_ ?_
  · exact trivial
  · try simp (disch := omega) only [pe_wi w0]
    exact pe_cal 17 ck192 rfl rfl rfl trivial k
theorem b192_34 {d : Nat} {Φ : Option pe_V → pe_H → Prop} {σ : pe_H} {M q : Nat} {y : Nat → Int → Int} (hF : pm_F M σ) {o1 : Option pe_V} {x2 : Int} {s0 : Int}  (w0 : pe_in s0 := by unfold pe_in; omega)  (k1 : s0 = 0 → pe_X d 192 (45, [some (.inr (.inr M)), o1, some (.inl x2)], [], pm_h M σ q y) Φ) (k2 : ¬ (s0 = 0) → pe_X d 192 (37, [some (.inr (.inr M)), o1, some (.inl x2)], [], pm_h M σ q y) Φ) : pe_X d 192 (34, [some (.inr (.inr M)), o1, some (.inl x2)], [.inl s0], pm_h M σ q y) Φ := by
  refine pe_blk 18 1 ck192 [] (cond (decide ((pe_w s0) = 0)) 45 37, [some (.inr (.inr M)), o1, some (.inl x2)], [], pm_h M σ q y) rfl ?_ ?_
  · exact trivial
  · try simp (disch := omega) only [pe_wi w0]
    exact pe_two k1 k2
theorem b192_37 {d : Nat} {Φ : Option pe_V → pe_H → Prop} {σ : pe_H} {M q : Nat} {y : Nat → Int → Int} (hF : pm_F M σ) {o1 : Option pe_V} {x2 : Int}    (k : pe_M d 233 [.inr (.inr M), .inl x2] (pm_h M σ q y) (fun r σ' => pe_X d 192 (42, [some (.inr (.inr M)), o1, some (.inl x2)], r.toList ++ [], σ') Φ)) : pe_X d 192 (37, [some (.inr (.inr M)), o1, some (.inl x2)], [], pm_h M σ q y) Φ := by
  refine pe_blk 19 2 ck192 [] (39, [some (.inr (.inr M)), o1, some (.inl x2)], [.inl x2, .inr (.inr M)], pm_h M σ q y) rfl ?_ ?_
  · exact trivial
  · try simp (disch := omega) only [pe_K_wI, pe_K_wR, pm_KM hF, pm_Kh]
    have hrc : pe_K (pm_h M σ q y) M = 9 := by first | assumption | (simp (disch := omega) only [pe_K_wI, pe_K_wR, pm_KM hF, pm_Kh]; done) | (simp (disch := omega) only [pe_K_wI, pe_K_wR, pm_KM hF, pm_Kh]; assumption)
    exact pe_cal 21 ck192 rfl rfl rfl ⟨hrc, by decide⟩ k
theorem b192_42 {d : Nat} {Φ : Option pe_V → pe_H → Prop} {σ : pe_H} {M q : Nat} {y : Nat → Int → Int} (hF : pm_F M σ) {o1 : Option pe_V} {o2 : Option pe_V} {s0 : Int}    (k : pe_X d 192 (46, [some (.inr (.inr M)), o1, o2], [.inl s0], pm_h M σ q y) Φ) : pe_X d 192 (42, [some (.inr (.inr M)), o1, o2], [.inl s0], pm_h M σ q y) Φ := by
  refine pe_blk 22 1 ck192 [] (46, [some (.inr (.inr M)), o1, o2], [.inl s0], pm_h M σ q y) rfl ?_ ?_
  · exact trivial
  · exact k
theorem b192_45 {d : Nat} {Φ : Option pe_V → pe_H → Prop} {σ : pe_H} {M q : Nat} {y : Nat → Int → Int} (hF : pm_F M σ) {o1 : Option pe_V} {o2 : Option pe_V}    (k : pe_X d 192 (46, [some (.inr (.inr M)), o1, o2], [.inl (-1)], pm_h M σ q y) Φ) : pe_X d 192 (45, [some (.inr (.inr M)), o1, o2], [], pm_h M σ q y) Φ := by
  refine pe_blk 23 1 ck192 [] (46, [some (.inr (.inr M)), o1, o2], [.inl (-1)], pm_h M σ q y) rfl ?_ ?_
  · exact trivial
  · exact k
theorem b192_46 {d : Nat} {Φ : Option pe_V → pe_H → Prop} {σ : pe_H} {M q : Nat} {y : Nat → Int → Int} (hF : pm_F M σ) {o1 : Option pe_V} {o2 : Option pe_V} {s0 : Int}    (k : Φ (some (.inl s0)) (pm_h M σ q y)) : pe_X d 192 (46, [some (.inr (.inr M)), o1, o2], [.inl s0], pm_h M σ q y) Φ := by
  exact pe_fine 24 ck192 rfl rfl rfl trivial k
theorem b192_47 {d : Nat} {Φ : Option pe_V → pe_H → Prop} {σ : pe_H} {M q : Nat} {y : Nat → Int → Int} (hF : pm_F M σ) {x1 : Int} {x2 : Int}  (w0 : pe_in x2 := by unfold pe_in; omega) (h0 : 0 ≤ x2 := by first | assumption | omega) (h1 : x2 < 8 := by first | assumption | omega) (k : pe_M d 171 [.inr (.inr M), .inl x1, .inl (y 28 x2), .inl (y 29 x2)] (pm_h M σ q y) (fun r σ' => pe_X d 192 (64, [some (.inr (.inr M)), some (.inl x1), some (.inl x2)], r.toList ++ [], σ') Φ)) : pe_X d 192 (47, [some (.inr (.inr M)), some (.inl x1), some (.inl x2)], [], pm_h M σ q y) Φ := by
  refine pe_blk 25 10 ck192 [pe_K (pm_h M σ q y) M = 9, pe_K (pm_h M σ q y) (pe_R (pm_h M σ q y) M 32) = 10, 0 ≤ (pe_w x2), (pe_w x2) < pe_L (pm_h M σ q y) (pe_R (pm_h M σ q y) M 32), pe_K (pm_h M σ q y) M = 9, pe_K (pm_h M σ q y) (pe_R (pm_h M σ q y) M 33) = 10, 0 ≤ (pe_w x2), (pe_w x2) < pe_L (pm_h M σ q y) (pe_R (pm_h M σ q y) M 33)] (61, [some (.inr (.inr M)), some (.inl x1), some (.inl x2)], [.inl (pe_I (pm_h M σ q y) (pe_R (pm_h M σ q y) M 33) (pe_w x2)), .inl (pe_I (pm_h M σ q y) (pe_R (pm_h M σ q y) M 32) (pe_w x2)), .inl x1, .inr (.inr M)], pm_h M σ q y) rfl ?_ ?_
  · first
    | (simp (disch := omega) only [pe_all, pe_wi w0, pe_I_wR, pe_K_wI, pe_K_wR, pe_L_wI, pe_L_wR, pe_R_nej, pe_R_wI, pm_Ik, pm_K28 hF, pm_K29 hF, pm_KM hF, pm_Kh, pm_L28 hF, pm_L29 hF, pm_Lh, pm_R32 hF, pm_R33 hF, pm_Rh, pm_uj, pm_uk, pm_us]; done)
    | (simp (disch := omega) only [pe_all, pe_wi w0, pe_I_wR, pe_K_wI, pe_K_wR, pe_L_wI, pe_L_wR, pe_R_nej, pe_R_wI, pm_Ik, pm_K28 hF, pm_K29 hF, pm_KM hF, pm_Kh, pm_L28 hF, pm_L29 hF, pm_Lh, pm_R32 hF, pm_R33 hF, pm_Rh, pm_uj, pm_uk, pm_us]; (repeat' apply And.intro) <;> first | assumption | omega | decide)
  · try simp (disch := omega) only [pe_wi w0, pe_I_wR, pe_K_wI, pe_K_wR, pe_L_wI, pe_L_wR, pe_R_nej, pe_R_wI, pm_Ik, pm_K28 hF, pm_K29 hF, pm_KM hF, pm_Kh, pm_L28 hF, pm_L29 hF, pm_Lh, pm_R32 hF, pm_R33 hF, pm_Rh, pm_uj, pm_uk, pm_us]
    have hrc : pe_K (pm_h M σ q y) M = 9 := by first | assumption | (simp (disch := omega) only [pe_wi w0, pe_I_wR, pe_K_wI, pe_K_wR, pe_L_wI, pe_L_wR, pe_R_nej, pe_R_wI, pm_Ik, pm_K28 hF, pm_K29 hF, pm_KM hF, pm_Kh, pm_L28 hF, pm_L29 hF, pm_Lh, pm_R32 hF, pm_R33 hF, pm_Rh, pm_uj, pm_uk, pm_us]; done) | (simp (disch := omega) only [pe_wi w0, pe_I_wR, pe_K_wI, pe_K_wR, pe_L_wI, pe_L_wR, pe_R_nej, pe_R_wI, pm_Ik, pm_K28 hF, pm_K29 hF, pm_KM hF, pm_Kh, pm_L28 hF, pm_L29 hF, pm_Lh, pm_R32 hF, pm_R33 hF, pm_Rh, pm_uj, pm_uk, pm_us]; assumption)
    exact pe_cal 35 ck192 rfl rfl rfl ⟨hrc, by decide⟩ k
theorem b192_64 {d : Nat} {Φ : Option pe_V → pe_H → Prop} {σ : pe_H} {M q : Nat} {y : Nat → Int → Int} (hF : pm_F M σ) {o1 : Option pe_V} {o2 : Option pe_V} {s0 : Int}  (w0 : pe_in s0 := by unfold pe_in; omega)  (k1 : s0 = 0 → pe_X d 192 (76, [some (.inr (.inr M)), o1, o2], [], pm_h M σ q y) Φ) (k2 : ¬ (s0 = 0) → pe_X d 192 (67, [some (.inr (.inr M)), o1, o2], [], pm_h M σ q y) Φ) : pe_X d 192 (64, [some (.inr (.inr M)), o1, o2], [.inl s0], pm_h M σ q y) Φ := by
  refine pe_blk 36 1 ck192 [] (cond (decide ((pe_w s0) = 0)) 76 67, [some (.inr (.inr M)), o1, o2], [], pm_h M σ q y) rfl ?_ ?_
  · exact trivial
  · try simp (disch := omega) only [pe_wi w0]
    exact pe_two k1 k2
theorem b192_67 {d : Nat} {Φ : Option pe_V → pe_H → Prop} {σ : pe_H} {M q : Nat} {y : Nat → Int → Int} (hF : pm_F M σ) {o1 : Option pe_V} {o2 : Option pe_V}    (k : pe_X d 192 (78, [some (.inr (.inr M)), o1, o2], [.inl ((y 0 3) - 1)], pm_h M σ q y) Φ) : pe_X d 192 (67, [some (.inr (.inr M)), o1, o2], [], pm_h M σ q y) Φ := by
  refine pe_blk 37 5 ck192 [pe_K (pm_h M σ q y) M = 9] (78, [some (.inr (.inr M)), o1, o2], [.inl ((pe_I (pm_h M σ q y) M 3) - 1)], pm_h M σ q y) rfl ?_ ?_
  · first
    | (simp (disch := omega) only [pe_all, pe_I_wR, pe_K_wI, pe_K_wR, pm_I0, pm_KM hF, pm_Kh, pm_uj, pm_uk, pm_us]; done)
    | (simp (disch := omega) only [pe_all, pe_I_wR, pe_K_wI, pe_K_wR, pm_I0, pm_KM hF, pm_Kh, pm_uj, pm_uk, pm_us]; (repeat' apply And.intro) <;> first | assumption | omega | decide)
  · try simp (disch := omega) only [pe_I_wR, pe_K_wI, pe_K_wR, pm_I0, pm_KM hF, pm_Kh, pm_uj, pm_uk, pm_us]
    exact k
theorem b192_76 {d : Nat} {Φ : Option pe_V → pe_H → Prop} {σ : pe_H} {M q : Nat} {y : Nat → Int → Int} (hF : pm_F M σ) {o1 : Option pe_V} {o2 : Option pe_V}    (k : pe_X d 192 (78, [some (.inr (.inr M)), o1, o2], [.inl (-2)], pm_h M σ q y) Φ) : pe_X d 192 (76, [some (.inr (.inr M)), o1, o2], [], pm_h M σ q y) Φ := by
  refine pe_blk 42 1 ck192 [] (78, [some (.inr (.inr M)), o1, o2], [.inl (-2)], pm_h M σ q y) rfl ?_ ?_
  · exact trivial
  · exact k
theorem b192_78 {d : Nat} {Φ : Option pe_V → pe_H → Prop} {σ : pe_H} {M q : Nat} {y : Nat → Int → Int} (hF : pm_F M σ) {o1 : Option pe_V} {o2 : Option pe_V} {s0 : Int}    (k : Φ (some (.inl s0)) (pm_h M σ q y)) : pe_X d 192 (78, [some (.inr (.inr M)), o1, o2], [.inl s0], pm_h M σ q y) Φ := by
  exact pe_fine 43 ck192 rfl rfl rfl trivial k
-- StepMachinesModel.faultMany(I)I
def T193 : List (Nat × Instr × Nat) := [(0, .iconst 0, 1), (1, .istore_n 2, 1), (2, .aload_n 0, 1), (3, .getfield 28, 3), (6, .iload_n 1, 1), (7, .iaload, 1), (8, .bipush 7, 2), (10, .if_icmp .ne 12, 3), (13, .aload_n 0, 1), (14, .getfield 46, 3), (17, .iload_n 1, 1), (18, .iaload, 1), (19, .goto 4, 3), (22, .iconst (-1), 1), (23, .istore_n 3, 1), (24, .iload_n 3, 1), (25, .ifCond .lt 16, 3), (28, .iinc 2 1, 3), (31, .aload_n 0, 1), (32, .getfield 79, 3), (35, .iload_n 3, 1), (36, .iaload, 1), (37, .istore_n 3, 1), (38, .goto (-14), 3), (41, .iload_n 2, 1), (42, .ireturn, 1)]
theorem ck193 : pe_ctx 193 9 false (some .int) 4 T193 := ⟨rfl, rfl, rfl, rfl, by decide +kernel, by decide, by decide⟩
theorem b193_0 {d : Nat} {Φ : Option pe_V → pe_H → Prop} {σ : pe_H} {M q : Nat} {y : Nat → Int → Int} (hF : pm_F M σ) {x1 : Int} {o2 : Option pe_V} {o3 : Option pe_V}  (w0 : pe_in x1 := by unfold pe_in; omega) (w1 : pe_in (y 7 x1) := by unfold pe_in; omega) (h0 : 0 ≤ x1 := by first | assumption | omega) (h1 : x1 < 8 := by first | assumption | omega) (k1 : ¬ (y 7 x1) = 7 → pe_X d 193 (22, [some (.inr (.inr M)), some (.inl x1), some (.inl 0), o3], [], pm_h M σ q y) Φ) (k2 : (y 7 x1) = 7 → pe_X d 193 (13, [some (.inr (.inr M)), some (.inl x1), some (.inl 0), o3], [], pm_h M σ q y) Φ) : pe_X d 193 (0, [some (.inr (.inr M)), some (.inl x1), o2, o3], [], pm_h M σ q y) Φ := by
  refine pe_blk 0 8 ck193 [pe_K (pm_h M σ q y) M = 9, pe_K (pm_h M σ q y) (pe_R (pm_h M σ q y) M 7) = 10, 0 ≤ (pe_w x1), (pe_w x1) < pe_L (pm_h M σ q y) (pe_R (pm_h M σ q y) M 7)] (cond (decide (¬ (pe_w (pe_I (pm_h M σ q y) (pe_R (pm_h M σ q y) M 7) (pe_w x1))) = (pe_w 7))) 22 13, [some (.inr (.inr M)), some (.inl x1), some (.inl 0), o3], [], pm_h M σ q y) rfl ?_ ?_
  · first
    | (simp (disch := omega) only [pe_all, pe_wi w0, pe_wi w1, pe_wi (x := 7) ⟨by decide, by decide⟩, pe_I_wR, pe_K_wI, pe_K_wR, pe_L_wI, pe_L_wR, pe_R_nej, pe_R_wI, pm_Ik, pm_K7 hF, pm_KM hF, pm_Kh, pm_L7 hF, pm_Lh, pm_R7 hF, pm_Rh, pm_uj, pm_uk, pm_us]; done)
    | (simp (disch := omega) only [pe_all, pe_wi w0, pe_wi w1, pe_wi (x := 7) ⟨by decide, by decide⟩, pe_I_wR, pe_K_wI, pe_K_wR, pe_L_wI, pe_L_wR, pe_R_nej, pe_R_wI, pm_Ik, pm_K7 hF, pm_KM hF, pm_Kh, pm_L7 hF, pm_Lh, pm_R7 hF, pm_Rh, pm_uj, pm_uk, pm_us]; (repeat' apply And.intro) <;> first | assumption | omega | decide)
  · try simp (disch := omega) only [pe_wi w0, pe_wi w1, pe_wi (x := 7) ⟨by decide, by decide⟩, pe_I_wR, pe_K_wI, pe_K_wR, pe_L_wI, pe_L_wR, pe_R_nej, pe_R_wI, pm_Ik, pm_K7 hF, pm_KM hF, pm_Kh, pm_L7 hF, pm_Lh, pm_R7 hF, pm_Rh, pm_uj, pm_uk, pm_us]
    exact pe_two' k1 k2
theorem b193_13 {d : Nat} {Φ : Option pe_V → pe_H → Prop} {σ : pe_H} {M q : Nat} {y : Nat → Int → Int} (hF : pm_F M σ) {x1 : Int} {x2 : Int} {o3 : Option pe_V}  (w0 : pe_in x1 := by unfold pe_in; omega) (h0 : 0 ≤ x1 := by first | assumption | omega) (h1 : x1 < 8 := by first | assumption | omega) (k : pe_X d 193 (23, [some (.inr (.inr M)), some (.inl x1), some (.inl x2), o3], [.inl (y 13 x1)], pm_h M σ q y) Φ) : pe_X d 193 (13, [some (.inr (.inr M)), some (.inl x1), some (.inl x2), o3], [], pm_h M σ q y) Φ := by
  refine pe_blk 8 5 ck193 [pe_K (pm_h M σ q y) M = 9, pe_K (pm_h M σ q y) (pe_R (pm_h M σ q y) M 13) = 10, 0 ≤ (pe_w x1), (pe_w x1) < pe_L (pm_h M σ q y) (pe_R (pm_h M σ q y) M 13)] (23, [some (.inr (.inr M)), some (.inl x1), some (.inl x2), o3], [.inl (pe_I (pm_h M σ q y) (pe_R (pm_h M σ q y) M 13) (pe_w x1))], pm_h M σ q y) rfl ?_ ?_
  · first
    | (simp (disch := omega) only [pe_all, pe_wi w0, pe_I_wR, pe_K_wI, pe_K_wR, pe_L_wI, pe_L_wR, pe_R_nej, pe_R_wI, pm_Ik, pm_K13 hF, pm_KM hF, pm_Kh, pm_L13 hF, pm_Lh, pm_R13 hF, pm_Rh, pm_uj, pm_uk, pm_us]; done)
    | (simp (disch := omega) only [pe_all, pe_wi w0, pe_I_wR, pe_K_wI, pe_K_wR, pe_L_wI, pe_L_wR, pe_R_nej, pe_R_wI, pm_Ik, pm_K13 hF, pm_KM hF, pm_Kh, pm_L13 hF, pm_Lh, pm_R13 hF, pm_Rh, pm_uj, pm_uk, pm_us]; (repeat' apply And.intro) <;> first | assumption | omega | decide)
  · try simp (disch := omega) only [pe_wi w0, pe_I_wR, pe_K_wI, pe_K_wR, pe_L_wI, pe_L_wR, pe_R_nej, pe_R_wI, pm_Ik, pm_K13 hF, pm_KM hF, pm_Kh, pm_L13 hF, pm_Lh, pm_R13 hF, pm_Rh, pm_uj, pm_uk, pm_us]
    exact k
theorem b193_22 {d : Nat} {Φ : Option pe_V → pe_H → Prop} {σ : pe_H} {M q : Nat} {y : Nat → Int → Int} (hF : pm_F M σ) {o1 : Option pe_V} {x2 : Int} {o3 : Option pe_V}    (k : pe_X d 193 (23, [some (.inr (.inr M)), o1, some (.inl x2), o3], [.inl (-1)], pm_h M σ q y) Φ) : pe_X d 193 (22, [some (.inr (.inr M)), o1, some (.inl x2), o3], [], pm_h M σ q y) Φ := by
  refine pe_blk 13 1 ck193 [] (23, [some (.inr (.inr M)), o1, some (.inl x2), o3], [.inl (-1)], pm_h M σ q y) rfl ?_ ?_
  · exact trivial
  · exact k
theorem b193_23 {d : Nat} {Φ : Option pe_V → pe_H → Prop} {σ : pe_H} {M q : Nat} {y : Nat → Int → Int} (hF : pm_F M σ) {o1 : Option pe_V} {x2 : Int} {o3 : Option pe_V} {s0 : Int}    (k : pe_X d 193 (24, [some (.inr (.inr M)), o1, some (.inl x2), some (.inl s0)], [], pm_h M σ q y) Φ) : pe_X d 193 (23, [some (.inr (.inr M)), o1, some (.inl x2), o3], [.inl s0], pm_h M σ q y) Φ := by
  refine pe_blk 14 1 ck193 [] (24, [some (.inr (.inr M)), o1, some (.inl x2), some (.inl s0)], [], pm_h M σ q y) rfl ?_ ?_
  · exact trivial
  · exact k
theorem b193_24 {d : Nat} {Φ : Option pe_V → pe_H → Prop} {σ : pe_H} {M q : Nat} {y : Nat → Int → Int} (hF : pm_F M σ) {o1 : Option pe_V} {x2 : Int} {x3 : Int}  (w0 : pe_in x3 := by unfold pe_in; omega)  (k1 : x3 < 0 → pe_X d 193 (41, [some (.inr (.inr M)), o1, some (.inl x2), some (.inl x3)], [], pm_h M σ q y) Φ) (k2 : ¬ (x3 < 0) → pe_X d 193 (28, [some (.inr (.inr M)), o1, some (.inl x2), some (.inl x3)], [], pm_h M σ q y) Φ) : pe_X d 193 (24, [some (.inr (.inr M)), o1, some (.inl x2), some (.inl x3)], [], pm_h M σ q y) Φ := by
  refine pe_blk 15 2 ck193 [] (cond (decide ((pe_w x3) < 0)) 41 28, [some (.inr (.inr M)), o1, some (.inl x2), some (.inl x3)], [], pm_h M σ q y) rfl ?_ ?_
  · exact trivial
  · try simp (disch := omega) only [pe_wi w0]
    exact pe_two k1 k2
theorem b193_28 {d : Nat} {Φ : Option pe_V → pe_H → Prop} {σ : pe_H} {M q : Nat} {y : Nat → Int → Int} (hF : pm_F M σ) {o1 : Option pe_V} {x2 : Int} {x3 : Int}  (w0 : pe_in x3 := by unfold pe_in; omega) (h0 : 0 ≤ x3 := by first | assumption | omega) (h1 : x3 < 600 := by first | assumption | omega) (k : pe_X d 193 (24, [some (.inr (.inr M)), pe_nl o1, some (.inl (x2 + 1)), some (.inl (y 24 x3))], [], pm_h M σ q y) Φ) : pe_X d 193 (28, [some (.inr (.inr M)), o1, some (.inl x2), some (.inl x3)], [], pm_h M σ q y) Φ := by
  refine pe_blk 17 7 ck193 [pe_K (pm_h M σ q y) M = 9, pe_K (pm_h M σ q y) (pe_R (pm_h M σ q y) M 25) = 10, 0 ≤ (pe_w x3), (pe_w x3) < pe_L (pm_h M σ q y) (pe_R (pm_h M σ q y) M 25)] (24, [some (.inr (.inr M)), pe_nl o1, some (.inl (x2 + 1)), some (.inl (pe_I (pm_h M σ q y) (pe_R (pm_h M σ q y) M 25) (pe_w x3)))], [], pm_h M σ q y) rfl ?_ ?_
  · first
    | (simp (disch := omega) only [pe_all, pe_wi w0, pe_I_wR, pe_K_wI, pe_K_wR, pe_L_wI, pe_L_wR, pe_R_nej, pe_R_wI, pm_Ik, pm_K24 hF, pm_KM hF, pm_Kh, pm_L24 hF, pm_Lh, pm_R25 hF, pm_Rh, pm_uj, pm_uk, pm_us]; done)
    | (simp (disch := omega) only [pe_all, pe_wi w0, pe_I_wR, pe_K_wI, pe_K_wR, pe_L_wI, pe_L_wR, pe_R_nej, pe_R_wI, pm_Ik, pm_K24 hF, pm_KM hF, pm_Kh, pm_L24 hF, pm_Lh, pm_R25 hF, pm_Rh, pm_uj, pm_uk, pm_us]; (repeat' apply And.intro) <;> first | assumption | omega | decide)
  · try simp (disch := omega) only [pe_wi w0, pe_I_wR, pe_K_wI, pe_K_wR, pe_L_wI, pe_L_wR, pe_R_nej, pe_R_wI, pm_Ik, pm_K24 hF, pm_KM hF, pm_Kh, pm_L24 hF, pm_Lh, pm_R25 hF, pm_Rh, pm_uj, pm_uk, pm_us]
    exact k
theorem b193_41 {d : Nat} {Φ : Option pe_V → pe_H → Prop} {σ : pe_H} {M q : Nat} {y : Nat → Int → Int} (hF : pm_F M σ) {o1 : Option pe_V} {x2 : Int} {o3 : Option pe_V}    (k : Φ (some (.inl x2)) (pm_h M σ q y)) : pe_X d 193 (41, [some (.inr (.inr M)), o1, some (.inl x2), o3], [], pm_h M σ q y) Φ := by
  refine pe_blk 24 1 ck193 [] (42, [some (.inr (.inr M)), o1, some (.inl x2), o3], [.inl x2], pm_h M σ q y) rfl ?_ ?_
  · exact trivial
  · exact pe_fine 25 ck193 rfl rfl rfl trivial k
-- StepMachinesModel.waits(I)Z
def T194 : List (Nat × Instr × Nat) := [(0, .aload_n 0, 1), (1, .getfield 28, 3), (4, .iload_n 1, 1), (5, .iaload, 1), (6, .i2l, 1), (7, .ldc2_w 374, 3), (10, .ldc2_w 265, 3), (13, .invokestatic 147, 3), (16, .ireturn, 1)]
theorem ck194 : pe_ctx 194 9 false (some .boolean) 2 T194 := ⟨rfl, rfl, rfl, rfl, by decide +kernel, by decide, by decide⟩
theorem b194_0 {d : Nat} {Φ : Option pe_V → pe_H → Prop} {σ : pe_H} {M q : Nat} {y : Nat → Int → Int} (hF : pm_F M σ) {x1 : Int}  (w0 : pe_in x1 := by unfold pe_in; omega) (w1 : pe_in (y 7 x1) := by unfold pe_in; omega) (h0 : 0 ≤ x1 := by first | assumption | omega) (h1 : x1 < 8 := by first | assumption | omega) (k : pe_M d 134 [.inr (.inl (y 7 x1)), .inr (.inl 3), .inr (.inl 5)] (pm_h M σ q y) (fun r σ' => pe_X d 194 (16, [some (.inr (.inr M)), some (.inl x1)], r.toList ++ [], σ') Φ)) : pe_X d 194 (0, [some (.inr (.inr M)), some (.inl x1)], [], pm_h M σ q y) Φ := by
  refine pe_blk 0 7 ck194 [pe_K (pm_h M σ q y) M = 9, pe_K (pm_h M σ q y) (pe_R (pm_h M σ q y) M 7) = 10, 0 ≤ (pe_w x1), (pe_w x1) < pe_L (pm_h M σ q y) (pe_R (pm_h M σ q y) M 7)] (13, [some (.inr (.inr M)), some (.inl x1)], [.inr (.inl 5), .inr (.inl 3), .inr (.inl (pe_w (pe_I (pm_h M σ q y) (pe_R (pm_h M σ q y) M 7) (pe_w x1))))], pm_h M σ q y) rfl ?_ ?_
  · first
    | (simp (disch := omega) only [pe_all, pe_wi w0, pe_wi w1, pe_I_wR, pe_K_wI, pe_K_wR, pe_L_wI, pe_L_wR, pe_R_nej, pe_R_wI, pm_Ik, pm_K7 hF, pm_KM hF, pm_Kh, pm_L7 hF, pm_Lh, pm_R7 hF, pm_Rh, pm_uj, pm_uk, pm_us]; done)
    | (simp (disch := omega) only [pe_all, pe_wi w0, pe_wi w1, pe_I_wR, pe_K_wI, pe_K_wR, pe_L_wI, pe_L_wR, pe_R_nej, pe_R_wI, pm_Ik, pm_K7 hF, pm_KM hF, pm_Kh, pm_L7 hF, pm_Lh, pm_R7 hF, pm_Rh, pm_uj, pm_uk, pm_us]; (repeat' apply And.intro) <;> first | assumption | omega | decide)
  · try simp (disch := omega) only [pe_wi w0, pe_wi w1, pe_I_wR, pe_K_wI, pe_K_wR, pe_L_wI, pe_L_wR, pe_R_nej, pe_R_wI, pm_Ik, pm_K7 hF, pm_KM hF, pm_Kh, pm_L7 hF, pm_Lh, pm_R7 hF, pm_Rh, pm_uj, pm_uk, pm_us]
    exact pe_cal 7 ck194 rfl rfl rfl trivial k
theorem b194_16 {d : Nat} {Φ : Option pe_V → pe_H → Prop} {σ : pe_H} {M q : Nat} {y : Nat → Int → Int} (hF : pm_F M σ) {o1 : Option pe_V} {s0 : Int}   (h0 : s0 = 0 ∨ s0 = 1 := by first | assumption | omega) (k : Φ (some (.inl s0)) (pm_h M σ q y)) : pe_X d 194 (16, [some (.inr (.inr M)), o1], [.inl s0], pm_h M σ q y) Φ := by
  exact pe_fine 8 ck194 rfl rfl rfl h0 k
-- StepMachinesModel.ofOne(II)I
def T195 : List (Nat × Instr × Nat) := [(0, .iload_n 2, 1), (1, .tableswitch 59 0 3 #[31, 38, 45, 52], 31), (32, .aload_n 0, 1), (33, .getfield 28, 3), (36, .iload_n 1, 1), (37, .iaload, 1), (38, .ireturn, 1), (39, .aload_n 0, 1), (40, .getfield 31, 3), (43, .iload_n 1, 1), (44, .iaload, 1), (45, .ireturn, 1), (46, .aload_n 0, 1), (47, .getfield 34, 3), (50, .iload_n 1, 1), (51, .iaload, 1), (52, .ireturn, 1), (53, .aload_n 0, 1), (54, .getfield 37, 3), (57, .iload_n 1, 1), (58, .iaload, 1), (59, .ireturn, 1), (60, .aload_n 0, 1), (61, .getfield 40, 3), (64, .iload_n 1, 1), (65, .iaload, 1), (66, .ireturn, 1)]
theorem ck195 : pe_ctx 195 9 false (some .int) 3 T195 := ⟨rfl, rfl, rfl, rfl, by decide +kernel, by decide, by decide⟩
theorem b195_0 {d : Nat} {Φ : Option pe_V → pe_H → Prop} {σ : pe_H} {M q : Nat} {y : Nat → Int → Int} (hF : pm_F M σ) {x1 : Int} {x2 : Int}  (w0 : pe_in x2 := by unfold pe_in; omega)  (k0 : x2 = 0 → pe_X d 195 (32, [some (.inr (.inr M)), some (.inl x1), some (.inl x2)], [], pm_h M σ q y) Φ) (k1 : x2 = 1 → pe_X d 195 (39, [some (.inr (.inr M)), some (.inl x1), some (.inl x2)], [], pm_h M σ q y) Φ) (k2 : x2 = 2 → pe_X d 195 (46, [some (.inr (.inr M)), some (.inl x1), some (.inl x2)], [], pm_h M σ q y) Φ) (k3 : x2 = 3 → pe_X d 195 (53, [some (.inr (.inr M)), some (.inl x1), some (.inl x2)], [], pm_h M σ q y) Φ) (kd : ¬ x2 = 0 → ¬ x2 = 1 → ¬ x2 = 2 → ¬ x2 = 3 → pe_X d 195 (60, [some (.inr (.inr M)), some (.inl x1), some (.inl x2)], [], pm_h M σ q y) Φ) : pe_X d 195 (0, [some (.inr (.inr M)), some (.inl x1), some (.inl x2)], [], pm_h M σ q y) Φ := by
  refine pe_blk 0 2 ck195 [] ((((1 : Nat) : Int) + pe_sw 59 [(0, 31), (1, 38), (2, 45), (3, 52)] (pe_w x2)).toNat, [some (.inr (.inr M)), some (.inl x1), some (.inl x2)], [], pm_h M σ q y) rfl ?_ ?_
  · exact trivial
  · try simp (disch := omega) only [pe_wi w0]
    by_cases q0 : x2 = 0
    · have e : pe_sw 59 [(0, 31), (1, 38), (2, 45), (3, 52)] x2 = 31 := by rw [q0]; rfl
      rw [e]; exact k0 q0
    by_cases q1 : x2 = 1
    · have e : pe_sw 59 [(0, 31), (1, 38), (2, 45), (3, 52)] x2 = 38 := by rw [q1]; rfl
      rw [e]; exact k1 q1
    by_cases q2 : x2 = 2
    · have e : pe_sw 59 [(0, 31), (1, 38), (2, 45), (3, 52)] x2 = 45 := by rw [q2]; rfl
      rw [e]; exact k2 q2
    by_cases q3 : x2 = 3
    · have e : pe_sw 59 [(0, 31), (1, 38), (2, 45), (3, 52)] x2 = 52 := by rw [q3]; rfl
      rw [e]; exact k3 q3
    have e : pe_sw 59 [(0, 31), (1, 38), (2, 45), (3, 52)] x2 = 59 := by simp only [pe_sw, if_neg q0, if_neg q1, if_neg q2, if_neg q3]
    rw [e]; exact kd q0 q1 q2 q3
theorem b195_32 {d : Nat} {Φ : Option pe_V → pe_H → Prop} {σ : pe_H} {M q : Nat} {y : Nat → Int → Int} (hF : pm_F M σ) {x1 : Int} {o2 : Option pe_V}  (w0 : pe_in x1 := by unfold pe_in; omega) (h0 : 0 ≤ x1 := by first | assumption | omega) (h1 : x1 < 8 := by first | assumption | omega) (k : Φ (some (.inl (y 7 x1))) (pm_h M σ q y)) : pe_X d 195 (32, [some (.inr (.inr M)), some (.inl x1), o2], [], pm_h M σ q y) Φ := by
  refine pe_blk 2 4 ck195 [pe_K (pm_h M σ q y) M = 9, pe_K (pm_h M σ q y) (pe_R (pm_h M σ q y) M 7) = 10, 0 ≤ (pe_w x1), (pe_w x1) < pe_L (pm_h M σ q y) (pe_R (pm_h M σ q y) M 7)] (38, [some (.inr (.inr M)), some (.inl x1), o2], [.inl (pe_I (pm_h M σ q y) (pe_R (pm_h M σ q y) M 7) (pe_w x1))], pm_h M σ q y) rfl ?_ ?_
  · first
    | (simp (disch := omega) only [pe_all, pe_wi w0, pe_I_wR, pe_K_wI, pe_K_wR, pe_L_wI, pe_L_wR, pe_R_nej, pe_R_wI, pm_Ik, pm_K7 hF, pm_KM hF, pm_Kh, pm_L7 hF, pm_Lh, pm_R7 hF, pm_Rh, pm_uj, pm_uk, pm_us]; done)
    | (simp (disch := omega) only [pe_all, pe_wi w0, pe_I_wR, pe_K_wI, pe_K_wR, pe_L_wI, pe_L_wR, pe_R_nej, pe_R_wI, pm_Ik, pm_K7 hF, pm_KM hF, pm_Kh, pm_L7 hF, pm_Lh, pm_R7 hF, pm_Rh, pm_uj, pm_uk, pm_us]; (repeat' apply And.intro) <;> first | assumption | omega | decide)
  · try simp (disch := omega) only [pe_wi w0, pe_I_wR, pe_K_wI, pe_K_wR, pe_L_wI, pe_L_wR, pe_R_nej, pe_R_wI, pm_Ik, pm_K7 hF, pm_KM hF, pm_Kh, pm_L7 hF, pm_Lh, pm_R7 hF, pm_Rh, pm_uj, pm_uk, pm_us]
    exact pe_fine 6 ck195 rfl rfl rfl trivial k
theorem b195_39 {d : Nat} {Φ : Option pe_V → pe_H → Prop} {σ : pe_H} {M q : Nat} {y : Nat → Int → Int} (hF : pm_F M σ) {x1 : Int} {o2 : Option pe_V}  (w0 : pe_in x1 := by unfold pe_in; omega) (h0 : 0 ≤ x1 := by first | assumption | omega) (h1 : x1 < 8 := by first | assumption | omega) (k : Φ (some (.inl (y 8 x1))) (pm_h M σ q y)) : pe_X d 195 (39, [some (.inr (.inr M)), some (.inl x1), o2], [], pm_h M σ q y) Φ := by
  refine pe_blk 7 4 ck195 [pe_K (pm_h M σ q y) M = 9, pe_K (pm_h M σ q y) (pe_R (pm_h M σ q y) M 8) = 10, 0 ≤ (pe_w x1), (pe_w x1) < pe_L (pm_h M σ q y) (pe_R (pm_h M σ q y) M 8)] (45, [some (.inr (.inr M)), some (.inl x1), o2], [.inl (pe_I (pm_h M σ q y) (pe_R (pm_h M σ q y) M 8) (pe_w x1))], pm_h M σ q y) rfl ?_ ?_
  · first
    | (simp (disch := omega) only [pe_all, pe_wi w0, pe_I_wR, pe_K_wI, pe_K_wR, pe_L_wI, pe_L_wR, pe_R_nej, pe_R_wI, pm_Ik, pm_K8 hF, pm_KM hF, pm_Kh, pm_L8 hF, pm_Lh, pm_R8 hF, pm_Rh, pm_uj, pm_uk, pm_us]; done)
    | (simp (disch := omega) only [pe_all, pe_wi w0, pe_I_wR, pe_K_wI, pe_K_wR, pe_L_wI, pe_L_wR, pe_R_nej, pe_R_wI, pm_Ik, pm_K8 hF, pm_KM hF, pm_Kh, pm_L8 hF, pm_Lh, pm_R8 hF, pm_Rh, pm_uj, pm_uk, pm_us]; (repeat' apply And.intro) <;> first | assumption | omega | decide)
  · try simp (disch := omega) only [pe_wi w0, pe_I_wR, pe_K_wI, pe_K_wR, pe_L_wI, pe_L_wR, pe_R_nej, pe_R_wI, pm_Ik, pm_K8 hF, pm_KM hF, pm_Kh, pm_L8 hF, pm_Lh, pm_R8 hF, pm_Rh, pm_uj, pm_uk, pm_us]
    exact pe_fine 11 ck195 rfl rfl rfl trivial k
theorem b195_46 {d : Nat} {Φ : Option pe_V → pe_H → Prop} {σ : pe_H} {M q : Nat} {y : Nat → Int → Int} (hF : pm_F M σ) {x1 : Int} {o2 : Option pe_V}  (w0 : pe_in x1 := by unfold pe_in; omega) (h0 : 0 ≤ x1 := by first | assumption | omega) (h1 : x1 < 8 := by first | assumption | omega) (k : Φ (some (.inl (y 9 x1))) (pm_h M σ q y)) : pe_X d 195 (46, [some (.inr (.inr M)), some (.inl x1), o2], [], pm_h M σ q y) Φ := by
  refine pe_blk 12 4 ck195 [pe_K (pm_h M σ q y) M = 9, pe_K (pm_h M σ q y) (pe_R (pm_h M σ q y) M 9) = 10, 0 ≤ (pe_w x1), (pe_w x1) < pe_L (pm_h M σ q y) (pe_R (pm_h M σ q y) M 9)] (52, [some (.inr (.inr M)), some (.inl x1), o2], [.inl (pe_I (pm_h M σ q y) (pe_R (pm_h M σ q y) M 9) (pe_w x1))], pm_h M σ q y) rfl ?_ ?_
  · first
    | (simp (disch := omega) only [pe_all, pe_wi w0, pe_I_wR, pe_K_wI, pe_K_wR, pe_L_wI, pe_L_wR, pe_R_nej, pe_R_wI, pm_Ik, pm_K9 hF, pm_KM hF, pm_Kh, pm_L9 hF, pm_Lh, pm_R9 hF, pm_Rh, pm_uj, pm_uk, pm_us]; done)
    | (simp (disch := omega) only [pe_all, pe_wi w0, pe_I_wR, pe_K_wI, pe_K_wR, pe_L_wI, pe_L_wR, pe_R_nej, pe_R_wI, pm_Ik, pm_K9 hF, pm_KM hF, pm_Kh, pm_L9 hF, pm_Lh, pm_R9 hF, pm_Rh, pm_uj, pm_uk, pm_us]; (repeat' apply And.intro) <;> first | assumption | omega | decide)
  · try simp (disch := omega) only [pe_wi w0, pe_I_wR, pe_K_wI, pe_K_wR, pe_L_wI, pe_L_wR, pe_R_nej, pe_R_wI, pm_Ik, pm_K9 hF, pm_KM hF, pm_Kh, pm_L9 hF, pm_Lh, pm_R9 hF, pm_Rh, pm_uj, pm_uk, pm_us]
    exact pe_fine 16 ck195 rfl rfl rfl trivial k
theorem b195_53 {d : Nat} {Φ : Option pe_V → pe_H → Prop} {σ : pe_H} {M q : Nat} {y : Nat → Int → Int} (hF : pm_F M σ) {x1 : Int} {o2 : Option pe_V}  (w0 : pe_in x1 := by unfold pe_in; omega) (h0 : 0 ≤ x1 := by first | assumption | omega) (h1 : x1 < 8 := by first | assumption | omega) (k : Φ (some (.inl (y 10 x1))) (pm_h M σ q y)) : pe_X d 195 (53, [some (.inr (.inr M)), some (.inl x1), o2], [], pm_h M σ q y) Φ := by
  refine pe_blk 17 4 ck195 [pe_K (pm_h M σ q y) M = 9, pe_K (pm_h M σ q y) (pe_R (pm_h M σ q y) M 10) = 10, 0 ≤ (pe_w x1), (pe_w x1) < pe_L (pm_h M σ q y) (pe_R (pm_h M σ q y) M 10)] (59, [some (.inr (.inr M)), some (.inl x1), o2], [.inl (pe_I (pm_h M σ q y) (pe_R (pm_h M σ q y) M 10) (pe_w x1))], pm_h M σ q y) rfl ?_ ?_
  · first
    | (simp (disch := omega) only [pe_all, pe_wi w0, pe_I_wR, pe_K_wI, pe_K_wR, pe_L_wI, pe_L_wR, pe_R_nej, pe_R_wI, pm_Ik, pm_K10 hF, pm_KM hF, pm_Kh, pm_L10 hF, pm_Lh, pm_R10 hF, pm_Rh, pm_uj, pm_uk, pm_us]; done)
    | (simp (disch := omega) only [pe_all, pe_wi w0, pe_I_wR, pe_K_wI, pe_K_wR, pe_L_wI, pe_L_wR, pe_R_nej, pe_R_wI, pm_Ik, pm_K10 hF, pm_KM hF, pm_Kh, pm_L10 hF, pm_Lh, pm_R10 hF, pm_Rh, pm_uj, pm_uk, pm_us]; (repeat' apply And.intro) <;> first | assumption | omega | decide)
  · try simp (disch := omega) only [pe_wi w0, pe_I_wR, pe_K_wI, pe_K_wR, pe_L_wI, pe_L_wR, pe_R_nej, pe_R_wI, pm_Ik, pm_K10 hF, pm_KM hF, pm_Kh, pm_L10 hF, pm_Lh, pm_R10 hF, pm_Rh, pm_uj, pm_uk, pm_us]
    exact pe_fine 21 ck195 rfl rfl rfl trivial k
theorem b195_60 {d : Nat} {Φ : Option pe_V → pe_H → Prop} {σ : pe_H} {M q : Nat} {y : Nat → Int → Int} (hF : pm_F M σ) {x1 : Int} {o2 : Option pe_V}  (w0 : pe_in x1 := by unfold pe_in; omega) (h0 : 0 ≤ x1 := by first | assumption | omega) (h1 : x1 < 8 := by first | assumption | omega) (k : Φ (some (.inl (y 11 x1))) (pm_h M σ q y)) : pe_X d 195 (60, [some (.inr (.inr M)), some (.inl x1), o2], [], pm_h M σ q y) Φ := by
  refine pe_blk 22 4 ck195 [pe_K (pm_h M σ q y) M = 9, pe_K (pm_h M σ q y) (pe_R (pm_h M σ q y) M 11) = 10, 0 ≤ (pe_w x1), (pe_w x1) < pe_L (pm_h M σ q y) (pe_R (pm_h M σ q y) M 11)] (66, [some (.inr (.inr M)), some (.inl x1), o2], [.inl (pe_I (pm_h M σ q y) (pe_R (pm_h M σ q y) M 11) (pe_w x1))], pm_h M σ q y) rfl ?_ ?_
  · first
    | (simp (disch := omega) only [pe_all, pe_wi w0, pe_I_wR, pe_K_wI, pe_K_wR, pe_L_wI, pe_L_wR, pe_R_nej, pe_R_wI, pm_Ik, pm_K11 hF, pm_KM hF, pm_Kh, pm_L11 hF, pm_Lh, pm_R11 hF, pm_Rh, pm_uj, pm_uk, pm_us]; done)
    | (simp (disch := omega) only [pe_all, pe_wi w0, pe_I_wR, pe_K_wI, pe_K_wR, pe_L_wI, pe_L_wR, pe_R_nej, pe_R_wI, pm_Ik, pm_K11 hF, pm_KM hF, pm_Kh, pm_L11 hF, pm_Lh, pm_R11 hF, pm_Rh, pm_uj, pm_uk, pm_us]; (repeat' apply And.intro) <;> first | assumption | omega | decide)
  · try simp (disch := omega) only [pe_wi w0, pe_I_wR, pe_K_wI, pe_K_wR, pe_L_wI, pe_L_wR, pe_R_nej, pe_R_wI, pm_Ik, pm_K11 hF, pm_KM hF, pm_Kh, pm_L11 hF, pm_Lh, pm_R11 hF, pm_Rh, pm_uj, pm_uk, pm_us]
    exact pe_fine 26 ck195 rfl rfl rfl trivial k
-- StepMachinesModel.coroutine(II)I
def T196 : List (Nat × Instr × Nat) := [(0, .aload_n 0, 1), (1, .iconst 0, 1), (2, .putfield 141, 3), (5, .aload_n 0, 1), (6, .iload_n 1, 1), (7, .invokevirtual 187, 3), (10, .ifCond .eq 15, 3), (13, .iload_n 2, 1), (14, .i2l, 1), (15, .lconst 0, 1), (16, .ldc2_w 376, 3), (19, .invokestatic 147, 3), (22, .ifCond .ne 5, 3), (25, .iconst (-1), 1), (26, .ireturn, 1), (27, .iload_n 2, 1), (28, .tableswitch 107 5 11 #[44, 51, 58, 65, 74, 81, 101], 44), (72, .aload_n 0, 1), (73, .getfield 19, 3), (76, .iload_n 1, 1), (77, .iaload, 1), (78, .ireturn, 1), (79, .aload_n 0, 1), (80, .getfield 22, 3), (83, .iload_n 1, 1), (84, .iaload, 1), (85, .ireturn, 1), (86, .aload_n 0, 1), (87, .getfield 25, 3), (90, .iload_n 1, 1), (91, .iaload, 1), (92, .ireturn, 1), (93, .aload_n 0, 1), (94, .iload_n 1, 1), (95, .invokevirtual 243, 3), (98, .bipush 100, 2), (100, .iadd, 1), (101, .ireturn, 1), (102, .aload_n 0, 1), (103, .getfield 49, 3), (106, .iload_n 1, 1), (107, .iaload, 1), (108, .ireturn, 1), (109, .aload_n 0, 1), (110, .iload_n 1, 1), (111, .invokevirtual 378, 3), (114, .ifCond .eq 12, 3), (117, .aload_n 0, 1), (118, .getfield 43, 3), (121, .iload_n 1, 1), (122, .iaload, 1), (123, .goto 5, 3), (126, .bipush (-4), 2), (128, .ireturn, 1), (129, .aload_n 0, 1), (130, .iload_n 1, 1), (131, .invokevirtual 381, 3), (134, .ireturn, 1), (135, .aload_n 0, 1), (136, .iload_n 1, 1), (137, .iload_n 2, 1), (138, .invokevirtual 384, 3), (141, .ireturn, 1)]
theorem ck196 : pe_ctx 196 9 false (some .int) 3 T196 := ⟨rfl, rfl, rfl, rfl, by decide +kernel, by decide, by decide⟩
theorem b196_0 {d : Nat} {Φ : Option pe_V → pe_H → Prop} {σ : pe_H} {M q : Nat} {y : Nat → Int → Int} (hF : pm_F M σ) {x1 : Int} {x2 : Int}    (k : pe_M d 138 [.inr (.inr M), .inl x1] (pm_h M σ q (pm_u y 0 37 0)) (fun r σ' => pe_X d 196 (10, [some (.inr (.inr M)), some (.inl x1), some (.inl x2)], r.toList ++ [], σ') Φ)) : pe_X d 196 (0, [some (.inr (.inr M)), some (.inl x1), some (.inl x2)], [], pm_h M σ q y) Φ := by
  refine pe_blk 0 5 ck196 [pe_K (pm_h M σ q y) M = 9] (7, [some (.inr (.inr M)), some (.inl x1), some (.inl x2)], [.inl x1, .inr (.inr M)], pe_wI (pm_h M σ q y) M 37 0) rfl ?_ ?_
  · first
    | (simp (disch := omega) only [pe_all, pe_K_wI, pe_K_wR, pm_KM hF, pm_Kh, pm_wI0]; done)
    | (simp (disch := omega) only [pe_all, pe_K_wI, pe_K_wR, pm_KM hF, pm_Kh, pm_wI0]; (repeat' apply And.intro) <;> first | assumption | omega | decide)
  · try simp (disch := omega) only [pe_K_wI, pe_K_wR, pm_KM hF, pm_Kh, pm_wI0]
    have hrc : pe_K (pm_h M σ q (pm_u y 0 37 0)) M = 9 := by first | assumption | (simp (disch := omega) only [pe_K_wI, pe_K_wR, pm_KM hF, pm_Kh, pm_wI0]; done) | (simp (disch := omega) only [pe_K_wI, pe_K_wR, pm_KM hF, pm_Kh, pm_wI0]; assumption)
    exact pe_cal 5 ck196 rfl rfl rfl ⟨hrc, by decide⟩ k
theorem b196_10 {d : Nat} {Φ : Option pe_V → pe_H → Prop} {σ : pe_H} {M q : Nat} {y : Nat → Int → Int} (hF : pm_F M σ) {x1 : Int} {x2 : Int} {s0 : Int}  (w0 : pe_in s0 := by unfold pe_in; omega)  (k1 : s0 = 0 → pe_X d 196 (25, [some (.inr (.inr M)), some (.inl x1), some (.inl x2)], [], pm_h M σ q y) Φ) (k2 : ¬ (s0 = 0) → pe_X d 196 (13, [some (.inr (.inr M)), some (.inl x1), some (.inl x2)], [], pm_h M σ q y) Φ) : pe_X d 196 (10, [some (.inr (.inr M)), some (.inl x1), some (.inl x2)], [.inl s0], pm_h M σ q y) Φ := by
  refine pe_blk 6 1 ck196 [] (cond (decide ((pe_w s0) = 0)) 25 13, [some (.inr (.inr M)), some (.inl x1), some (.inl x2)], [], pm_h M σ q y) rfl ?_ ?_
  · exact trivial
  · try simp (disch := omega) only [pe_wi w0]
    exact pe_two k1 k2
theorem b196_13 {d : Nat} {Φ : Option pe_V → pe_H → Prop} {σ : pe_H} {M q : Nat} {y : Nat → Int → Int} (hF : pm_F M σ) {x1 : Int} {x2 : Int}  (w0 : pe_in x2 := by unfold pe_in; omega)  (k : pe_M d 134 [.inr (.inl x2), .inr (.inl 0), .inr (.inl 11)] (pm_h M σ q y) (fun r σ' => pe_X d 196 (22, [some (.inr (.inr M)), some (.inl x1), some (.inl x2)], r.toList ++ [], σ') Φ)) : pe_X d 196 (13, [some (.inr (.inr M)), some (.inl x1), some (.inl x2)], [], pm_h M σ q y) Φ := by
  refine pe_blk 7 4 ck196 [] (19, [some (.inr (.inr M)), some (.inl x1), some (.inl x2)], [.inr (.inl 11), .inr (.inl 0), .inr (.inl (pe_w x2))], pm_h M σ q y) rfl ?_ ?_
  · exact trivial
  · try simp (disch := omega) only [pe_wi w0]
    exact pe_cal 11 ck196 rfl rfl rfl trivial k
theorem b196_22 {d : Nat} {Φ : Option pe_V → pe_H → Prop} {σ : pe_H} {M q : Nat} {y : Nat → Int → Int} (hF : pm_F M σ) {x1 : Int} {x2 : Int} {s0 : Int}  (w0 : pe_in s0 := by unfold pe_in; omega)  (k1 : ¬ s0 = 0 → pe_X d 196 (27, [some (.inr (.inr M)), some (.inl x1), some (.inl x2)], [], pm_h M σ q y) Φ) (k2 : s0 = 0 → pe_X d 196 (25, [some (.inr (.inr M)), some (.inl x1), some (.inl x2)], [], pm_h M σ q y) Φ) : pe_X d 196 (22, [some (.inr (.inr M)), some (.inl x1), some (.inl x2)], [.inl s0], pm_h M σ q y) Φ := by
  refine pe_blk 12 1 ck196 [] (cond (decide (¬ (pe_w s0) = 0)) 27 25, [some (.inr (.inr M)), some (.inl x1), some (.inl x2)], [], pm_h M σ q y) rfl ?_ ?_
  · exact trivial
  · try simp (disch := omega) only [pe_wi w0]
    exact pe_two' k1 k2
theorem b196_25 {d : Nat} {Φ : Option pe_V → pe_H → Prop} {σ : pe_H} {M q : Nat} {y : Nat → Int → Int} (hF : pm_F M σ) {o1 : Option pe_V} {o2 : Option pe_V}    (k : Φ (some (.inl (-1))) (pm_h M σ q y)) : pe_X d 196 (25, [some (.inr (.inr M)), o1, o2], [], pm_h M σ q y) Φ := by
  refine pe_blk 13 1 ck196 [] (26, [some (.inr (.inr M)), o1, o2], [.inl (-1)], pm_h M σ q y) rfl ?_ ?_
  · exact trivial
  · exact pe_fine 14 ck196 rfl rfl rfl trivial k
theorem b196_27 {d : Nat} {Φ : Option pe_V → pe_H → Prop} {σ : pe_H} {M q : Nat} {y : Nat → Int → Int} (hF : pm_F M σ) {x1 : Int} {x2 : Int}  (w0 : pe_in x2 := by unfold pe_in; omega)  (k0 : x2 = 5 → pe_X d 196 (72, [some (.inr (.inr M)), some (.inl x1), some (.inl x2)], [], pm_h M σ q y) Φ) (k1 : x2 = 6 → pe_X d 196 (79, [some (.inr (.inr M)), some (.inl x1), some (.inl x2)], [], pm_h M σ q y) Φ) (k2 : x2 = 7 → pe_X d 196 (86, [some (.inr (.inr M)), some (.inl x1), some (.inl x2)], [], pm_h M σ q y) Φ) (k3 : x2 = 8 → pe_X d 196 (93, [some (.inr (.inr M)), some (.inl x1), some (.inl x2)], [], pm_h M σ q y) Φ) (k4 : x2 = 9 → pe_X d 196 (102, [some (.inr (.inr M)), some (.inl x1), some (.inl x2)], [], pm_h M σ q y) Φ) (k5 : x2 = 10 → pe_X d 196 (109, [some (.inr (.inr M)), some (.inl x1), some (.inl x2)], [], pm_h M σ q y) Φ) (k6 : x2 = 11 → pe_X d 196 (129, [some (.inr (.inr M)), some (.inl x1), some (.inl x2)], [], pm_h M σ q y) Φ) (kd : ¬ x2 = 5 → ¬ x2 = 6 → ¬ x2 = 7 → ¬ x2 = 8 → ¬ x2 = 9 → ¬ x2 = 10 → ¬ x2 = 11 → pe_X d 196 (135, [some (.inr (.inr M)), some (.inl x1), some (.inl x2)], [], pm_h M σ q y) Φ) : pe_X d 196 (27, [some (.inr (.inr M)), some (.inl x1), some (.inl x2)], [], pm_h M σ q y) Φ := by
  refine pe_blk 15 2 ck196 [] ((((28 : Nat) : Int) + pe_sw 107 [(5, 44), (6, 51), (7, 58), (8, 65), (9, 74), (10, 81), (11, 101)] (pe_w x2)).toNat, [some (.inr (.inr M)), some (.inl x1), some (.inl x2)], [], pm_h M σ q y) rfl ?_ ?_
  · exact trivial
  · try simp (disch := omega) only [pe_wi w0]
    by_cases q0 : x2 = 5
    · have e : pe_sw 107 [(5, 44), (6, 51), (7, 58), (8, 65), (9, 74), (10, 81), (11, 101)] x2 = 44 := by rw [q0]; rfl
      rw [e]; exact k0 q0
    by_cases q1 : x2 = 6
    · have e : pe_sw 107 [(5, 44), (6, 51), (7, 58), (8, 65), (9, 74), (10, 81), (11, 101)] x2 = 51 := by rw [q1]; rfl
      rw [e]; exact k1 q1
    by_cases q2 : x2 = 7
    · have e : pe_sw 107 [(5, 44), (6, 51), (7, 58), (8, 65), (9, 74), (10, 81), (11, 101)] x2 = 58 := by rw [q2]; rfl
      rw [e]; exact k2 q2
    by_cases q3 : x2 = 8
    · have e : pe_sw 107 [(5, 44), (6, 51), (7, 58), (8, 65), (9, 74), (10, 81), (11, 101)] x2 = 65 := by rw [q3]; rfl
      rw [e]; exact k3 q3
    by_cases q4 : x2 = 9
    · have e : pe_sw 107 [(5, 44), (6, 51), (7, 58), (8, 65), (9, 74), (10, 81), (11, 101)] x2 = 74 := by rw [q4]; rfl
      rw [e]; exact k4 q4
    by_cases q5 : x2 = 10
    · have e : pe_sw 107 [(5, 44), (6, 51), (7, 58), (8, 65), (9, 74), (10, 81), (11, 101)] x2 = 81 := by rw [q5]; rfl
      rw [e]; exact k5 q5
    by_cases q6 : x2 = 11
    · have e : pe_sw 107 [(5, 44), (6, 51), (7, 58), (8, 65), (9, 74), (10, 81), (11, 101)] x2 = 101 := by rw [q6]; rfl
      rw [e]; exact k6 q6
    have e : pe_sw 107 [(5, 44), (6, 51), (7, 58), (8, 65), (9, 74), (10, 81), (11, 101)] x2 = 107 := by simp only [pe_sw, if_neg q0, if_neg q1, if_neg q2, if_neg q3, if_neg q4, if_neg q5, if_neg q6]
    rw [e]; exact kd q0 q1 q2 q3 q4 q5 q6
theorem b196_72 {d : Nat} {Φ : Option pe_V → pe_H → Prop} {σ : pe_H} {M q : Nat} {y : Nat → Int → Int} (hF : pm_F M σ) {x1 : Int} {o2 : Option pe_V}  (w0 : pe_in x1 := by unfold pe_in; omega) (h0 : 0 ≤ x1 := by first | assumption | omega) (h1 : x1 < 8 := by first | assumption | omega) (k : Φ (some (.inl (y 4 x1))) (pm_h M σ q y)) : pe_X d 196 (72, [some (.inr (.inr M)), some (.inl x1), o2], [], pm_h M σ q y) Φ := by
  refine pe_blk 17 4 ck196 [pe_K (pm_h M σ q y) M = 9, pe_K (pm_h M σ q y) (pe_R (pm_h M σ q y) M 4) = 10, 0 ≤ (pe_w x1), (pe_w x1) < pe_L (pm_h M σ q y) (pe_R (pm_h M σ q y) M 4)] (78, [some (.inr (.inr M)), some (.inl x1), o2], [.inl (pe_I (pm_h M σ q y) (pe_R (pm_h M σ q y) M 4) (pe_w x1))], pm_h M σ q y) rfl ?_ ?_
  · first
    | (simp (disch := omega) only [pe_all, pe_wi w0, pe_I_wR, pe_K_wI, pe_K_wR, pe_L_wI, pe_L_wR, pe_R_nej, pe_R_wI, pm_Ik, pm_K4 hF, pm_KM hF, pm_Kh, pm_L4 hF, pm_Lh, pm_R4 hF, pm_Rh, pm_uj, pm_uk, pm_us]; done)
    | (simp (disch := omega) only [pe_all, pe_wi w0, pe_I_wR, pe_K_wI, pe_K_wR, pe_L_wI, pe_L_wR, pe_R_nej, pe_R_wI, pm_Ik, pm_K4 hF, pm_KM hF, pm_Kh, pm_L4 hF, pm_Lh, pm_R4 hF, pm_Rh, pm_uj, pm_uk, pm_us]; (repeat' apply And.intro) <;> first | assumption | omega | decide)
  · try simp (disch := omega) only [pe_wi w0, pe_I_wR, pe_K_wI, pe_K_wR, pe_L_wI, pe_L_wR, pe_R_nej, pe_R_wI, pm_Ik, pm_K4 hF, pm_KM hF, pm_Kh, pm_L4 hF, pm_Lh, pm_R4 hF, pm_Rh, pm_uj, pm_uk, pm_us]
    exact pe_fine 21 ck196 rfl rfl rfl trivial k
theorem b196_79 {d : Nat} {Φ : Option pe_V → pe_H → Prop} {σ : pe_H} {M q : Nat} {y : Nat → Int → Int} (hF : pm_F M σ) {x1 : Int} {o2 : Option pe_V}  (w0 : pe_in x1 := by unfold pe_in; omega) (h0 : 0 ≤ x1 := by first | assumption | omega) (h1 : x1 < 8 := by first | assumption | omega) (k : Φ (some (.inl (y 5 x1))) (pm_h M σ q y)) : pe_X d 196 (79, [some (.inr (.inr M)), some (.inl x1), o2], [], pm_h M σ q y) Φ := by
  refine pe_blk 22 4 ck196 [pe_K (pm_h M σ q y) M = 9, pe_K (pm_h M σ q y) (pe_R (pm_h M σ q y) M 5) = 10, 0 ≤ (pe_w x1), (pe_w x1) < pe_L (pm_h M σ q y) (pe_R (pm_h M σ q y) M 5)] (85, [some (.inr (.inr M)), some (.inl x1), o2], [.inl (pe_I (pm_h M σ q y) (pe_R (pm_h M σ q y) M 5) (pe_w x1))], pm_h M σ q y) rfl ?_ ?_
  · first
    | (simp (disch := omega) only [pe_all, pe_wi w0, pe_I_wR, pe_K_wI, pe_K_wR, pe_L_wI, pe_L_wR, pe_R_nej, pe_R_wI, pm_Ik, pm_K5 hF, pm_KM hF, pm_Kh, pm_L5 hF, pm_Lh, pm_R5 hF, pm_Rh, pm_uj, pm_uk, pm_us]; done)
    | (simp (disch := omega) only [pe_all, pe_wi w0, pe_I_wR, pe_K_wI, pe_K_wR, pe_L_wI, pe_L_wR, pe_R_nej, pe_R_wI, pm_Ik, pm_K5 hF, pm_KM hF, pm_Kh, pm_L5 hF, pm_Lh, pm_R5 hF, pm_Rh, pm_uj, pm_uk, pm_us]; (repeat' apply And.intro) <;> first | assumption | omega | decide)
  · try simp (disch := omega) only [pe_wi w0, pe_I_wR, pe_K_wI, pe_K_wR, pe_L_wI, pe_L_wR, pe_R_nej, pe_R_wI, pm_Ik, pm_K5 hF, pm_KM hF, pm_Kh, pm_L5 hF, pm_Lh, pm_R5 hF, pm_Rh, pm_uj, pm_uk, pm_us]
    exact pe_fine 26 ck196 rfl rfl rfl trivial k
theorem b196_86 {d : Nat} {Φ : Option pe_V → pe_H → Prop} {σ : pe_H} {M q : Nat} {y : Nat → Int → Int} (hF : pm_F M σ) {x1 : Int} {o2 : Option pe_V}  (w0 : pe_in x1 := by unfold pe_in; omega) (h0 : 0 ≤ x1 := by first | assumption | omega) (h1 : x1 < 8 := by first | assumption | omega) (k : Φ (some (.inl (y 6 x1))) (pm_h M σ q y)) : pe_X d 196 (86, [some (.inr (.inr M)), some (.inl x1), o2], [], pm_h M σ q y) Φ := by
  refine pe_blk 27 4 ck196 [pe_K (pm_h M σ q y) M = 9, pe_K (pm_h M σ q y) (pe_R (pm_h M σ q y) M 6) = 10, 0 ≤ (pe_w x1), (pe_w x1) < pe_L (pm_h M σ q y) (pe_R (pm_h M σ q y) M 6)] (92, [some (.inr (.inr M)), some (.inl x1), o2], [.inl (pe_I (pm_h M σ q y) (pe_R (pm_h M σ q y) M 6) (pe_w x1))], pm_h M σ q y) rfl ?_ ?_
  · first
    | (simp (disch := omega) only [pe_all, pe_wi w0, pe_I_wR, pe_K_wI, pe_K_wR, pe_L_wI, pe_L_wR, pe_R_nej, pe_R_wI, pm_Ik, pm_K6 hF, pm_KM hF, pm_Kh, pm_L6 hF, pm_Lh, pm_R6 hF, pm_Rh, pm_uj, pm_uk, pm_us]; done)
    | (simp (disch := omega) only [pe_all, pe_wi w0, pe_I_wR, pe_K_wI, pe_K_wR, pe_L_wI, pe_L_wR, pe_R_nej, pe_R_wI, pm_Ik, pm_K6 hF, pm_KM hF, pm_Kh, pm_L6 hF, pm_Lh, pm_R6 hF, pm_Rh, pm_uj, pm_uk, pm_us]; (repeat' apply And.intro) <;> first | assumption | omega | decide)
  · try simp (disch := omega) only [pe_wi w0, pe_I_wR, pe_K_wI, pe_K_wR, pe_L_wI, pe_L_wR, pe_R_nej, pe_R_wI, pm_Ik, pm_K6 hF, pm_KM hF, pm_Kh, pm_L6 hF, pm_Lh, pm_R6 hF, pm_Rh, pm_uj, pm_uk, pm_us]
    exact pe_fine 31 ck196 rfl rfl rfl trivial k
theorem b196_93 {d : Nat} {Φ : Option pe_V → pe_H → Prop} {σ : pe_H} {M q : Nat} {y : Nat → Int → Int} (hF : pm_F M σ) {x1 : Int} {o2 : Option pe_V}    (k : pe_M d 142 [.inr (.inr M), .inl x1] (pm_h M σ q y) (fun r σ' => pe_X d 196 (98, [some (.inr (.inr M)), some (.inl x1), o2], r.toList ++ [], σ') Φ)) : pe_X d 196 (93, [some (.inr (.inr M)), some (.inl x1), o2], [], pm_h M σ q y) Φ := by
  refine pe_blk 32 2 ck196 [] (95, [some (.inr (.inr M)), some (.inl x1), o2], [.inl x1, .inr (.inr M)], pm_h M σ q y) rfl ?_ ?_
  · exact trivial
  · try simp (disch := omega) only [pe_K_wI, pe_K_wR, pm_KM hF, pm_Kh]
    have hrc : pe_K (pm_h M σ q y) M = 9 := by first | assumption | (simp (disch := omega) only [pe_K_wI, pe_K_wR, pm_KM hF, pm_Kh]; done) | (simp (disch := omega) only [pe_K_wI, pe_K_wR, pm_KM hF, pm_Kh]; assumption)
    exact pe_cal 34 ck196 rfl rfl rfl ⟨hrc, by decide⟩ k
theorem b196_98 {d : Nat} {Φ : Option pe_V → pe_H → Prop} {σ : pe_H} {M q : Nat} {y : Nat → Int → Int} (hF : pm_F M σ) {o1 : Option pe_V} {o2 : Option pe_V} {s0 : Int}    (k : Φ (some (.inl (s0 + 100))) (pm_h M σ q y)) : pe_X d 196 (98, [some (.inr (.inr M)), o1, o2], [.inl s0], pm_h M σ q y) Φ := by
  refine pe_blk 35 2 ck196 [] (101, [some (.inr (.inr M)), o1, o2], [.inl (s0 + 100)], pm_h M σ q y) rfl ?_ ?_
  · exact trivial
  · exact pe_fine 37 ck196 rfl rfl rfl trivial k
theorem b196_102 {d : Nat} {Φ : Option pe_V → pe_H → Prop} {σ : pe_H} {M q : Nat} {y : Nat → Int → Int} (hF : pm_F M σ) {x1 : Int} {o2 : Option pe_V}  (w0 : pe_in x1 := by unfold pe_in; omega) (h0 : 0 ≤ x1 := by first | assumption | omega) (h1 : x1 < 8 := by first | assumption | omega) (k : Φ (some (.inl (y 14 x1))) (pm_h M σ q y)) : pe_X d 196 (102, [some (.inr (.inr M)), some (.inl x1), o2], [], pm_h M σ q y) Φ := by
  refine pe_blk 38 4 ck196 [pe_K (pm_h M σ q y) M = 9, pe_K (pm_h M σ q y) (pe_R (pm_h M σ q y) M 14) = 10, 0 ≤ (pe_w x1), (pe_w x1) < pe_L (pm_h M σ q y) (pe_R (pm_h M σ q y) M 14)] (108, [some (.inr (.inr M)), some (.inl x1), o2], [.inl (pe_I (pm_h M σ q y) (pe_R (pm_h M σ q y) M 14) (pe_w x1))], pm_h M σ q y) rfl ?_ ?_
  · first
    | (simp (disch := omega) only [pe_all, pe_wi w0, pe_I_wR, pe_K_wI, pe_K_wR, pe_L_wI, pe_L_wR, pe_R_nej, pe_R_wI, pm_Ik, pm_K14 hF, pm_KM hF, pm_Kh, pm_L14 hF, pm_Lh, pm_R14 hF, pm_Rh, pm_uj, pm_uk, pm_us]; done)
    | (simp (disch := omega) only [pe_all, pe_wi w0, pe_I_wR, pe_K_wI, pe_K_wR, pe_L_wI, pe_L_wR, pe_R_nej, pe_R_wI, pm_Ik, pm_K14 hF, pm_KM hF, pm_Kh, pm_L14 hF, pm_Lh, pm_R14 hF, pm_Rh, pm_uj, pm_uk, pm_us]; (repeat' apply And.intro) <;> first | assumption | omega | decide)
  · try simp (disch := omega) only [pe_wi w0, pe_I_wR, pe_K_wI, pe_K_wR, pe_L_wI, pe_L_wR, pe_R_nej, pe_R_wI, pm_Ik, pm_K14 hF, pm_KM hF, pm_Kh, pm_L14 hF, pm_Lh, pm_R14 hF, pm_Rh, pm_uj, pm_uk, pm_us]
    exact pe_fine 42 ck196 rfl rfl rfl trivial k
theorem b196_109 {d : Nat} {Φ : Option pe_V → pe_H → Prop} {σ : pe_H} {M q : Nat} {y : Nat → Int → Int} (hF : pm_F M σ) {x1 : Int} {o2 : Option pe_V}    (k : pe_M d 194 [.inr (.inr M), .inl x1] (pm_h M σ q y) (fun r σ' => pe_X d 196 (114, [some (.inr (.inr M)), some (.inl x1), o2], r.toList ++ [], σ') Φ)) : pe_X d 196 (109, [some (.inr (.inr M)), some (.inl x1), o2], [], pm_h M σ q y) Φ := by
  refine pe_blk 43 2 ck196 [] (111, [some (.inr (.inr M)), some (.inl x1), o2], [.inl x1, .inr (.inr M)], pm_h M σ q y) rfl ?_ ?_
  · exact trivial
  · try simp (disch := omega) only [pe_K_wI, pe_K_wR, pm_KM hF, pm_Kh]
    have hrc : pe_K (pm_h M σ q y) M = 9 := by first | assumption | (simp (disch := omega) only [pe_K_wI, pe_K_wR, pm_KM hF, pm_Kh]; done) | (simp (disch := omega) only [pe_K_wI, pe_K_wR, pm_KM hF, pm_Kh]; assumption)
    exact pe_cal 45 ck196 rfl rfl rfl ⟨hrc, by decide⟩ k
theorem b196_114 {d : Nat} {Φ : Option pe_V → pe_H → Prop} {σ : pe_H} {M q : Nat} {y : Nat → Int → Int} (hF : pm_F M σ) {x1 : Int} {o2 : Option pe_V} {s0 : Int}  (w0 : pe_in s0 := by unfold pe_in; omega)  (k1 : s0 = 0 → pe_X d 196 (126, [some (.inr (.inr M)), some (.inl x1), o2], [], pm_h M σ q y) Φ) (k2 : ¬ (s0 = 0) → pe_X d 196 (117, [some (.inr (.inr M)), some (.inl x1), o2], [], pm_h M σ q y) Φ) : pe_X d 196 (114, [some (.inr (.inr M)), some (.inl x1), o2], [.inl s0], pm_h M σ q y) Φ := by
  refine pe_blk 46 1 ck196 [] (cond (decide ((pe_w s0) = 0)) 126 117, [some (.inr (.inr M)), some (.inl x1), o2], [], pm_h M σ q y) rfl ?_ ?_
  · exact trivial
  · try simp (disch := omega) only [pe_wi w0]
    exact pe_two k1 k2
set_option maxRecDepth 8000 in
theorem b196_117 {d : Nat} {Φ : Option pe_V → pe_H → Prop} {σ : pe_H} {M q : Nat} {y : Nat → Int → Int} (hF : pm_F M σ) {x1 : Int} {o2 : Option pe_V}  (w0 : pe_in x1 := by unfold pe_in; omega) (h0 : 0 ≤ x1 := by first | assumption | omega) (h1 : x1 < 8 := by first | assumption | omega) (k : pe_X d 196 (128, [some (.inr (.inr M)), some (.inl x1), o2], [.inl (y 12 x1)], pm_h M σ q y) Φ) : pe_X d 196 (117, [some (.inr (.inr M)), some (.inl x1), o2], [], pm_h M σ q y) Φ := by
  refine pe_blk 47 5 ck196 [pe_K (pm_h M σ q y) M = 9, pe_K (pm_h M σ q y) (pe_R (pm_h M σ q y) M 12) = 10, 0 ≤ (pe_w x1), (pe_w x1) < pe_L (pm_h M σ q y) (pe_R (pm_h M σ q y) M 12)] (128, [some (.inr (.inr M)), some (.inl x1), o2], [.inl (pe_I (pm_h M σ q y) (pe_R (pm_h M σ q y) M 12) (pe_w x1))], pm_h M σ q y) rfl ?_ ?_
  · first
    | (simp (disch := omega) only [pe_all, pe_wi w0, pe_I_wR, pe_K_wI, pe_K_wR, pe_L_wI, pe_L_wR, pe_R_nej, pe_R_wI, pm_Ik, pm_K12 hF, pm_KM hF, pm_Kh, pm_L12 hF, pm_Lh, pm_R12 hF, pm_Rh, pm_uj, pm_uk, pm_us]; done)
    | (simp (disch := omega) only [pe_all, pe_wi w0, pe_I_wR, pe_K_wI, pe_K_wR, pe_L_wI, pe_L_wR, pe_R_nej, pe_R_wI, pm_Ik, pm_K12 hF, pm_KM hF, pm_Kh, pm_L12 hF, pm_Lh, pm_R12 hF, pm_Rh, pm_uj, pm_uk, pm_us]; (repeat' apply And.intro) <;> first | assumption | omega | decide)
  · try simp (disch := omega) only [pe_wi w0, pe_I_wR, pe_K_wI, pe_K_wR, pe_L_wI, pe_L_wR, pe_R_nej, pe_R_wI, pm_Ik, pm_K12 hF, pm_KM hF, pm_Kh, pm_L12 hF, pm_Lh, pm_R12 hF, pm_Rh, pm_uj, pm_uk, pm_us]
    exact k
set_option maxRecDepth 8000 in
theorem b196_126 {d : Nat} {Φ : Option pe_V → pe_H → Prop} {σ : pe_H} {M q : Nat} {y : Nat → Int → Int} (hF : pm_F M σ) {o1 : Option pe_V} {o2 : Option pe_V}    (k : pe_X d 196 (128, [some (.inr (.inr M)), o1, o2], [.inl (-4)], pm_h M σ q y) Φ) : pe_X d 196 (126, [some (.inr (.inr M)), o1, o2], [], pm_h M σ q y) Φ := by
  refine pe_blk 52 1 ck196 [] (128, [some (.inr (.inr M)), o1, o2], [.inl (-4)], pm_h M σ q y) rfl ?_ ?_
  · exact trivial
  · exact k
set_option maxRecDepth 8000 in
theorem b196_128 {d : Nat} {Φ : Option pe_V → pe_H → Prop} {σ : pe_H} {M q : Nat} {y : Nat → Int → Int} (hF : pm_F M σ) {o1 : Option pe_V} {o2 : Option pe_V} {s0 : Int}    (k : Φ (some (.inl s0)) (pm_h M σ q y)) : pe_X d 196 (128, [some (.inr (.inr M)), o1, o2], [.inl s0], pm_h M σ q y) Φ := by
  exact pe_fine 53 ck196 rfl rfl rfl trivial k
set_option maxRecDepth 8000 in
theorem b196_129 {d : Nat} {Φ : Option pe_V → pe_H → Prop} {σ : pe_H} {M q : Nat} {y : Nat → Int → Int} (hF : pm_F M σ) {x1 : Int} {o2 : Option pe_V}    (k : pe_M d 193 [.inr (.inr M), .inl x1] (pm_h M σ q y) (fun r σ' => pe_X d 196 (134, [some (.inr (.inr M)), some (.inl x1), o2], r.toList ++ [], σ') Φ)) : pe_X d 196 (129, [some (.inr (.inr M)), some (.inl x1), o2], [], pm_h M σ q y) Φ := by
  refine pe_blk 54 2 ck196 [] (131, [some (.inr (.inr M)), some (.inl x1), o2], [.inl x1, .inr (.inr M)], pm_h M σ q y) rfl ?_ ?_
  · exact trivial
  · try simp (disch := omega) only [pe_K_wI, pe_K_wR, pm_KM hF, pm_Kh]
    have hrc : pe_K (pm_h M σ q y) M = 9 := by first | assumption | (simp (disch := omega) only [pe_K_wI, pe_K_wR, pm_KM hF, pm_Kh]; done) | (simp (disch := omega) only [pe_K_wI, pe_K_wR, pm_KM hF, pm_Kh]; assumption)
    exact pe_cal 56 ck196 rfl rfl rfl ⟨hrc, by decide⟩ k
set_option maxRecDepth 8000 in
theorem b196_134 {d : Nat} {Φ : Option pe_V → pe_H → Prop} {σ : pe_H} {M q : Nat} {y : Nat → Int → Int} (hF : pm_F M σ) {o1 : Option pe_V} {o2 : Option pe_V} {s0 : Int}    (k : Φ (some (.inl s0)) (pm_h M σ q y)) : pe_X d 196 (134, [some (.inr (.inr M)), o1, o2], [.inl s0], pm_h M σ q y) Φ := by
  exact pe_fine 57 ck196 rfl rfl rfl trivial k
set_option maxRecDepth 8000 in
theorem b196_135 {d : Nat} {Φ : Option pe_V → pe_H → Prop} {σ : pe_H} {M q : Nat} {y : Nat → Int → Int} (hF : pm_F M σ) {x1 : Int} {x2 : Int}    (k : pe_M d 195 [.inr (.inr M), .inl x1, .inl x2] (pm_h M σ q y) (fun r σ' => pe_X d 196 (141, [some (.inr (.inr M)), some (.inl x1), some (.inl x2)], r.toList ++ [], σ') Φ)) : pe_X d 196 (135, [some (.inr (.inr M)), some (.inl x1), some (.inl x2)], [], pm_h M σ q y) Φ := by
  refine pe_blk 58 3 ck196 [] (138, [some (.inr (.inr M)), some (.inl x1), some (.inl x2)], [.inl x2, .inl x1, .inr (.inr M)], pm_h M σ q y) rfl ?_ ?_
  · exact trivial
  · try simp (disch := omega) only [pe_K_wI, pe_K_wR, pm_KM hF, pm_Kh]
    have hrc : pe_K (pm_h M σ q y) M = 9 := by first | assumption | (simp (disch := omega) only [pe_K_wI, pe_K_wR, pm_KM hF, pm_Kh]; done) | (simp (disch := omega) only [pe_K_wI, pe_K_wR, pm_KM hF, pm_Kh]; assumption)
    exact pe_cal 61 ck196 rfl rfl rfl ⟨hrc, by decide⟩ k
set_option maxRecDepth 8000 in
theorem b196_141 {d : Nat} {Φ : Option pe_V → pe_H → Prop} {σ : pe_H} {M q : Nat} {y : Nat → Int → Int} (hF : pm_F M σ) {o1 : Option pe_V} {o2 : Option pe_V} {s0 : Int}    (k : Φ (some (.inl s0)) (pm_h M σ q y)) : pe_X d 196 (141, [some (.inr (.inr M)), o1, o2], [.inl s0], pm_h M σ q y) Φ := by
  exact pe_fine 62 ck196 rfl rfl rfl trivial k
-- StepMachinesModel.frame(III)I
def T197 : List (Nat × Instr × Nat) := [(0, .aload_n 0, 1), (1, .iconst 0, 1), (2, .putfield 141, 3), (5, .aload_n 0, 1), (6, .iload_n 1, 1), (7, .invokevirtual 187, 3), (10, .ifCond .eq 45, 3), (13, .iload_n 3, 1), (14, .i2l, 1), (15, .lconst 0, 1), (16, .ldc2_w 263, 3), (19, .invokestatic 147, 3), (22, .ifCond .eq 33, 3), (25, .iload_n 2, 1), (26, .i2l, 1), (27, .lconst 0, 1), (28, .aload_n 0, 1), (29, .getfield 49, 3), (32, .aload_n 0, 1), (33, .iload_n 1, 1), (34, .invokevirtual 187, 3), (37, .ifCond .eq 7, 3), (40, .iload_n 1, 1), (41, .goto 4, 3), (44, .iconst 0, 1), (45, .iaload, 1), (46, .iconst 1, 1), (47, .isub, 1), (48, .i2l, 1), (49, .invokestatic 147, 3), (52, .ifCond .ne 5, 3), (55, .iconst (-1), 1), (56, .ireturn, 1), (57, .bipush 6, 2), (59, .iload_n 1, 1), (60, .imul, 1), (61, .iload_n 2, 1), (62, .iadd, 1), (63, .istore 4, 2), (65, .iload_n 3, 1), (66, .tableswitch 62 0 3 #[30, 38, 46, 54], 30), (96, .aload_n 0, 1), (97, .getfield 52, 3), (100, .iload 4, 2), (102, .iaload, 1), (103, .ireturn, 1), (104, .aload_n 0, 1), (105, .getfield 58, 3), (108, .iload 4, 2), (110, .iaload, 1), (111, .ireturn, 1), (112, .aload_n 0, 1), (113, .getfield 61, 3), (116, .iload 4, 2), (118, .iaload, 1), (119, .ireturn, 1), (120, .aload_n 0, 1), (121, .getfield 64, 3), (124, .iload 4, 2), (126, .iaload, 1), (127, .ireturn, 1), (128, .aload_n 0, 1), (129, .getfield 67, 3), (132, .iload 4, 2), (134, .iaload, 1), (135, .iconst 2, 1), (136, .if_icmp .ge 13, 3), (139, .aload_n 0, 1), (140, .getfield 67, 3), (143, .iload 4, 2), (145, .iaload, 1), (146, .goto 20, 3), (149, .bipush 10, 2), (151, .aload_n 0, 1), (152, .getfield 76, 3), (155, .aload_n 0, 1), (156, .getfield 67, 3), (159, .iload 4, 2), (161, .iaload, 1), (162, .iconst 2, 1), (163, .isub, 1), (164, .iaload, 1), (165, .iadd, 1), (166, .ireturn, 1)]
theorem ck197 : pe_ctx 197 9 false (some .int) 5 T197 := ⟨rfl, rfl, rfl, rfl, by decide +kernel, by decide, by decide⟩
theorem b197_0 {d : Nat} {Φ : Option pe_V → pe_H → Prop} {σ : pe_H} {M q : Nat} {y : Nat → Int → Int} (hF : pm_F M σ) {x1 : Int} {x2 : Int} {x3 : Int} {o4 : Option pe_V}    (k : pe_M d 138 [.inr (.inr M), .inl x1] (pm_h M σ q (pm_u y 0 37 0)) (fun r σ' => pe_X d 197 (10, [some (.inr (.inr M)), some (.inl x1), some (.inl x2), some (.inl x3), o4], r.toList ++ [], σ') Φ)) : pe_X d 197 (0, [some (.inr (.inr M)), some (.inl x1), some (.inl x2), some (.inl x3), o4], [], pm_h M σ q y) Φ := by
  refine pe_blk 0 5 ck197 [pe_K (pm_h M σ q y) M = 9] (7, [some (.inr (.inr M)), some (.inl x1), some (.inl x2), some (.inl x3), o4], [.inl x1, .inr (.inr M)], pe_wI (pm_h M σ q y) M 37 0) rfl ?_ ?_
  · first
    | (simp (disch := omega) only [pe_all, pe_K_wI, pe_K_wR, pm_KM hF, pm_Kh, pm_wI0]; done)
    | (simp (disch := omega) only [pe_all, pe_K_wI, pe_K_wR, pm_KM hF, pm_Kh, pm_wI0]; (repeat' apply And.intro) <;> first | assumption | omega | decide)
  · try simp (disch := omega) only [pe_K_wI, pe_K_wR, pm_KM hF, pm_Kh, pm_wI0]
    have hrc : pe_K (pm_h M σ q (pm_u y 0 37 0)) M = 9 := by first | assumption | (simp (disch := omega) only [pe_K_wI, pe_K_wR, pm_KM hF, pm_Kh, pm_wI0]; done) | (simp (disch := omega) only [pe_K_wI, pe_K_wR, pm_KM hF, pm_Kh, pm_wI0]; assumption)
    exact pe_cal 5 ck197 rfl rfl rfl ⟨hrc, by decide⟩ k
theorem b197_10 {d : Nat} {Φ : Option pe_V → pe_H → Prop} {σ : pe_H} {M q : Nat} {y : Nat → Int → Int} (hF : pm_F M σ) {x1 : Int} {x2 : Int} {x3 : Int} {o4 : Option pe_V} {s0 : Int}  (w0 : pe_in s0 := by unfold pe_in; omega)  (k1 : s0 = 0 → pe_X d 197 (55, [some (.inr (.inr M)), some (.inl x1), some (.inl x2), some (.inl x3), o4], [], pm_h M σ q y) Φ) (k2 : ¬ (s0 = 0) → pe_X d 197 (13, [some (.inr (.inr M)), some (.inl x1), some (.inl x2), some (.inl x3), o4], [], pm_h M σ q y) Φ) : pe_X d 197 (10, [some (.inr (.inr M)), some (.inl x1), some (.inl x2), some (.inl x3), o4], [.inl s0], pm_h M σ q y) Φ := by
  refine pe_blk 6 1 ck197 [] (cond (decide ((pe_w s0) = 0)) 55 13, [some (.inr (.inr M)), some (.inl x1), some (.inl x2), some (.inl x3), o4], [], pm_h M σ q y) rfl ?_ ?_
  · exact trivial
  · try simp (disch := omega) only [pe_wi w0]
    exact pe_two k1 k2
theorem b197_13 {d : Nat} {Φ : Option pe_V → pe_H → Prop} {σ : pe_H} {M q : Nat} {y : Nat → Int → Int} (hF : pm_F M σ) {x1 : Int} {x2 : Int} {x3 : Int} {o4 : Option pe_V}  (w0 : pe_in x3 := by unfold pe_in; omega)  (k : pe_M d 134 [.inr (.inl x3), .inr (.inl 0), .inr (.inl 4)] (pm_h M σ q y) (fun r σ' => pe_X d 197 (22, [some (.inr (.inr M)), some (.inl x1), some (.inl x2), some (.inl x3), o4], r.toList ++ [], σ') Φ)) : pe_X d 197 (13, [some (.inr (.inr M)), some (.inl x1), some (.inl x2), some (.inl x3), o4], [], pm_h M σ q y) Φ := by
  refine pe_blk 7 4 ck197 [] (19, [some (.inr (.inr M)), some (.inl x1), some (.inl x2), some (.inl x3), o4], [.inr (.inl 4), .inr (.inl 0), .inr (.inl (pe_w x3))], pm_h M σ q y) rfl ?_ ?_
  · exact trivial
  · try simp (disch := omega) only [pe_wi w0]
    exact pe_cal 11 ck197 rfl rfl rfl trivial k
theorem b197_22 {d : Nat} {Φ : Option pe_V → pe_H → Prop} {σ : pe_H} {M q : Nat} {y : Nat → Int → Int} (hF : pm_F M σ) {x1 : Int} {x2 : Int} {x3 : Int} {o4 : Option pe_V} {s0 : Int}  (w0 : pe_in s0 := by unfold pe_in; omega)  (k1 : s0 = 0 → pe_X d 197 (55, [some (.inr (.inr M)), some (.inl x1), some (.inl x2), some (.inl x3), o4], [], pm_h M σ q y) Φ) (k2 : ¬ (s0 = 0) → pe_X d 197 (25, [some (.inr (.inr M)), some (.inl x1), some (.inl x2), some (.inl x3), o4], [], pm_h M σ q y) Φ) : pe_X d 197 (22, [some (.inr (.inr M)), some (.inl x1), some (.inl x2), some (.inl x3), o4], [.inl s0], pm_h M σ q y) Φ := by
  refine pe_blk 12 1 ck197 [] (cond (decide ((pe_w s0) = 0)) 55 25, [some (.inr (.inr M)), some (.inl x1), some (.inl x2), some (.inl x3), o4], [], pm_h M σ q y) rfl ?_ ?_
  · exact trivial
  · try simp (disch := omega) only [pe_wi w0]
    exact pe_two k1 k2
theorem b197_25 {d : Nat} {Φ : Option pe_V → pe_H → Prop} {σ : pe_H} {M q : Nat} {y : Nat → Int → Int} (hF : pm_F M σ) {x1 : Int} {x2 : Int} {x3 : Int} {o4 : Option pe_V}  (w0 : pe_in x2 := by unfold pe_in; omega)  (k : pe_M d 138 [.inr (.inr M), .inl x1] (pm_h M σ q y) (fun r σ' => pe_X d 197 (37, [some (.inr (.inr M)), some (.inl x1), some (.inl x2), some (.inl x3), o4], r.toList ++ [.inr (.inr (M + 14)), .inr (.inl 0), .inr (.inl x2)], σ') Φ)) : pe_X d 197 (25, [some (.inr (.inr M)), some (.inl x1), some (.inl x2), some (.inl x3), o4], [], pm_h M σ q y) Φ := by
  refine pe_blk 13 7 ck197 [pe_K (pm_h M σ q y) M = 9] (34, [some (.inr (.inr M)), some (.inl x1), some (.inl x2), some (.inl x3), o4], [.inl x1, .inr (.inr M), .inr (.inr (pe_R (pm_h M σ q y) M 14)), .inr (.inl 0), .inr (.inl (pe_w x2))], pm_h M σ q y) rfl ?_ ?_
  · first
    | (simp (disch := omega) only [pe_all, pe_wi w0, pe_K_wI, pe_K_wR, pe_R_nej, pe_R_wI, pm_KM hF, pm_Kh, pm_R14 hF, pm_Rh]; done)
    | (simp (disch := omega) only [pe_all, pe_wi w0, pe_K_wI, pe_K_wR, pe_R_nej, pe_R_wI, pm_KM hF, pm_Kh, pm_R14 hF, pm_Rh]; (repeat' apply And.intro) <;> first | assumption | omega | decide)
  · try simp (disch := omega) only [pe_wi w0, pe_K_wI, pe_K_wR, pe_R_nej, pe_R_wI, pm_KM hF, pm_Kh, pm_R14 hF, pm_Rh]
    have hrc : pe_K (pm_h M σ q y) M = 9 := by first | assumption | (simp (disch := omega) only [pe_wi w0, pe_K_wI, pe_K_wR, pe_R_nej, pe_R_wI, pm_KM hF, pm_Kh, pm_R14 hF, pm_Rh]; done) | (simp (disch := omega) only [pe_wi w0, pe_K_wI, pe_K_wR, pe_R_nej, pe_R_wI, pm_KM hF, pm_Kh, pm_R14 hF, pm_Rh]; assumption)
    exact pe_cal 20 ck197 rfl rfl rfl ⟨hrc, by decide⟩ k
theorem b197_37 {d : Nat} {Φ : Option pe_V → pe_H → Prop} {σ : pe_H} {M q : Nat} {y : Nat → Int → Int} (hF : pm_F M σ) {x1 : Int} {x2 : Int} {x3 : Int} {o4 : Option pe_V} {z0 : Int} {z1 : Int} {s3 : Int}  (w0 : pe_in s3 := by unfold pe_in; omega)  (k1 : s3 = 0 → pe_X d 197 (44, [some (.inr (.inr M)), some (.inl x1), some (.inl x2), some (.inl x3), o4], [.inr (.inr (M + 14)), .inr (.inl z1), .inr (.inl z0)], pm_h M σ q y) Φ) (k2 : ¬ (s3 = 0) → pe_X d 197 (40, [some (.inr (.inr M)), some (.inl x1), some (.inl x2), some (.inl x3), o4], [.inr (.inr (M + 14)), .inr (.inl z1), .inr (.inl z0)], pm_h M σ q y) Φ) : pe_X d 197 (37, [some (.inr (.inr M)), some (.inl x1), some (.inl x2), some (.inl x3), o4], [.inl s3, .inr (.inr (M + 14)), .inr (.inl z1), .inr (.inl z0)], pm_h M σ q y) Φ := by
  refine pe_blk 21 1 ck197 [] (cond (decide ((pe_w s3) = 0)) 44 40, [some (.inr (.inr M)), some (.inl x1), some (.inl x2), some (.inl x3), o4], [.inr (.inr (M + 14)), .inr (.inl z1), .inr (.inl z0)], pm_h M σ q y) rfl ?_ ?_
  · exact trivial
  · try simp (disch := omega) only [pe_wi w0]
    exact pe_two k1 k2
theorem b197_40 {d : Nat} {Φ : Option pe_V → pe_H → Prop} {σ : pe_H} {M q : Nat} {y : Nat → Int → Int} (hF : pm_F M σ) {x1 : Int} {x2 : Int} {x3 : Int} {o4 : Option pe_V} {z0 : Int} {z1 : Int}    (k : pe_X d 197 (45, [some (.inr (.inr M)), some (.inl x1), some (.inl x2), some (.inl x3), o4], [.inl x1, .inr (.inr (M + 14)), .inr (.inl z1), .inr (.inl z0)], pm_h M σ q y) Φ) : pe_X d 197 (40, [some (.inr (.inr M)), some (.inl x1), some (.inl x2), some (.inl x3), o4], [.inr (.inr (M + 14)), .inr (.inl z1), .inr (.inl z0)], pm_h M σ q y) Φ := by
  refine pe_blk 22 2 ck197 [] (45, [some (.inr (.inr M)), some (.inl x1), some (.inl x2), some (.inl x3), o4], [.inl x1, .inr (.inr (M + 14)), .inr (.inl z1), .inr (.inl z0)], pm_h M σ q y) rfl ?_ ?_
  · exact trivial
  · exact k
theorem b197_44 {d : Nat} {Φ : Option pe_V → pe_H → Prop} {σ : pe_H} {M q : Nat} {y : Nat → Int → Int} (hF : pm_F M σ) {x1 : Int} {x2 : Int} {x3 : Int} {o4 : Option pe_V} {z0 : Int} {z1 : Int}    (k : pe_X d 197 (45, [some (.inr (.inr M)), some (.inl x1), some (.inl x2), some (.inl x3), o4], [.inl 0, .inr (.inr (M + 14)), .inr (.inl z1), .inr (.inl z0)], pm_h M σ q y) Φ) : pe_X d 197 (44, [some (.inr (.inr M)), some (.inl x1), some (.inl x2), some (.inl x3), o4], [.inr (.inr (M + 14)), .inr (.inl z1), .inr (.inl z0)], pm_h M σ q y) Φ := by
  refine pe_blk 24 1 ck197 [] (45, [some (.inr (.inr M)), some (.inl x1), some (.inl x2), some (.inl x3), o4], [.inl 0, .inr (.inr (M + 14)), .inr (.inl z1), .inr (.inl z0)], pm_h M σ q y) rfl ?_ ?_
  · exact trivial
  · exact k
theorem b197_45 {d : Nat} {Φ : Option pe_V → pe_H → Prop} {σ : pe_H} {M q : Nat} {y : Nat → Int → Int} (hF : pm_F M σ) {x1 : Int} {x2 : Int} {x3 : Int} {o4 : Option pe_V} {z0 : Int} {z1 : Int} {s3 : Int}  (w0 : pe_in s3 := by unfold pe_in; omega) (w1 : pe_in ((y 14 s3) - 1) := by unfold pe_in; omega) (h0 : 0 ≤ s3 := by first | assumption | omega) (h1 : s3 < 8 := by first | assumption | omega) (k : pe_M d 134 [.inr (.inl z0), .inr (.inl z1), .inr (.inl ((y 14 s3) - 1))] (pm_h M σ q y) (fun r σ' => pe_X d 197 (52, [some (.inr (.inr M)), some (.inl x1), some (.inl x2), some (.inl x3), o4], r.toList ++ [], σ') Φ)) : pe_X d 197 (45, [some (.inr (.inr M)), some (.inl x1), some (.inl x2), some (.inl x3), o4], [.inl s3, .inr (.inr (M + 14)), .inr (.inl z1), .inr (.inl z0)], pm_h M σ q y) Φ := by
  refine pe_blk 25 4 ck197 [pe_K (pm_h M σ q y) (M + 14) = 10, 0 ≤ (pe_w s3), (pe_w s3) < pe_L (pm_h M σ q y) (M + 14)] (49, [some (.inr (.inr M)), some (.inl x1), some (.inl x2), some (.inl x3), o4], [.inr (.inl (pe_w ((pe_I (pm_h M σ q y) (M + 14) (pe_w s3)) - 1))), .inr (.inl z1), .inr (.inl z0)], pm_h M σ q y) rfl ?_ ?_
  · first
    | (simp (disch := omega) only [pe_all, pe_wi w0, pe_wi w1, pe_I_wR, pe_K_wI, pe_K_wR, pe_L_wI, pe_L_wR, pm_Ik, pm_K14 hF, pm_Kh, pm_L14 hF, pm_Lh, pm_uj, pm_uk, pm_us]; done)
    | (simp (disch := omega) only [pe_all, pe_wi w0, pe_wi w1, pe_I_wR, pe_K_wI, pe_K_wR, pe_L_wI, pe_L_wR, pm_Ik, pm_K14 hF, pm_Kh, pm_L14 hF, pm_Lh, pm_uj, pm_uk, pm_us]; (repeat' apply And.intro) <;> first | assumption | omega | decide)
  · try simp (disch := omega) only [pe_wi w0, pe_wi w1, pe_I_wR, pe_K_wI, pe_K_wR, pe_L_wI, pe_L_wR, pm_Ik, pm_K14 hF, pm_Kh, pm_L14 hF, pm_Lh, pm_uj, pm_uk, pm_us]
    exact pe_cal 29 ck197 rfl rfl rfl trivial k
theorem b197_52 {d : Nat} {Φ : Option pe_V → pe_H → Prop} {σ : pe_H} {M q : Nat} {y : Nat → Int → Int} (hF : pm_F M σ) {x1 : Int} {x2 : Int} {x3 : Int} {o4 : Option pe_V} {s0 : Int}  (w0 : pe_in s0 := by unfold pe_in; omega)  (k1 : ¬ s0 = 0 → pe_X d 197 (57, [some (.inr (.inr M)), some (.inl x1), some (.inl x2), some (.inl x3), o4], [], pm_h M σ q y) Φ) (k2 : s0 = 0 → pe_X d 197 (55, [some (.inr (.inr M)), some (.inl x1), some (.inl x2), some (.inl x3), o4], [], pm_h M σ q y) Φ) : pe_X d 197 (52, [some (.inr (.inr M)), some (.inl x1), some (.inl x2), some (.inl x3), o4], [.inl s0], pm_h M σ q y) Φ := by
  refine pe_blk 30 1 ck197 [] (cond (decide (¬ (pe_w s0) = 0)) 57 55, [some (.inr (.inr M)), some (.inl x1), some (.inl x2), some (.inl x3), o4], [], pm_h M σ q y) rfl ?_ ?_
  · exact trivial
  · try simp (disch := omega) only [pe_wi w0]
    exact pe_two' k1 k2
theorem b197_55 {d : Nat} {Φ : Option pe_V → pe_H → Prop} {σ : pe_H} {M q : Nat} {y : Nat → Int → Int} (hF : pm_F M σ) {o1 : Option pe_V} {o2 : Option pe_V} {o3 : Option pe_V} {o4 : Option pe_V}    (k : Φ (some (.inl (-1))) (pm_h M σ q y)) : pe_X d 197 (55, [some (.inr (.inr M)), o1, o2, o3, o4], [], pm_h M σ q y) Φ := by
  refine pe_blk 31 1 ck197 [] (56, [some (.inr (.inr M)), o1, o2, o3, o4], [.inl (-1)], pm_h M σ q y) rfl ?_ ?_
  · exact trivial
  · exact pe_fine 32 ck197 rfl rfl rfl trivial k
theorem b197_57 {d : Nat} {Φ : Option pe_V → pe_H → Prop} {σ : pe_H} {M q : Nat} {y : Nat → Int → Int} (hF : pm_F M σ) {x1 : Int} {x2 : Int} {x3 : Int} {o4 : Option pe_V}  (w0 : pe_in x3 := by unfold pe_in; omega)  (k0 : x3 = 0 → pe_X d 197 (96, [some (.inr (.inr M)), some (.inl x1), some (.inl x2), some (.inl x3), some (.inl ((6 * x1) + x2))], [], pm_h M σ q y) Φ) (k1 : x3 = 1 → pe_X d 197 (104, [some (.inr (.inr M)), some (.inl x1), some (.inl x2), some (.inl x3), some (.inl ((6 * x1) + x2))], [], pm_h M σ q y) Φ) (k2 : x3 = 2 → pe_X d 197 (112, [some (.inr (.inr M)), some (.inl x1), some (.inl x2), some (.inl x3), some (.inl ((6 * x1) + x2))], [], pm_h M σ q y) Φ) (k3 : x3 = 3 → pe_X d 197 (120, [some (.inr (.inr M)), some (.inl x1), some (.inl x2), some (.inl x3), some (.inl ((6 * x1) + x2))], [], pm_h M σ q y) Φ) (kd : ¬ x3 = 0 → ¬ x3 = 1 → ¬ x3 = 2 → ¬ x3 = 3 → pe_X d 197 (128, [some (.inr (.inr M)), some (.inl x1), some (.inl x2), some (.inl x3), some (.inl ((6 * x1) + x2))], [], pm_h M σ q y) Φ) : pe_X d 197 (57, [some (.inr (.inr M)), some (.inl x1), some (.inl x2), some (.inl x3), o4], [], pm_h M σ q y) Φ := by
  refine pe_blk 33 8 ck197 [] ((((66 : Nat) : Int) + pe_sw 62 [(0, 30), (1, 38), (2, 46), (3, 54)] (pe_w x3)).toNat, [some (.inr (.inr M)), some (.inl x1), some (.inl x2), some (.inl x3), some (.inl ((6 * x1) + x2))], [], pm_h M σ q y) rfl ?_ ?_
  · exact trivial
  · try simp (disch := omega) only [pe_wi w0]
    by_cases q0 : x3 = 0
    · have e : pe_sw 62 [(0, 30), (1, 38), (2, 46), (3, 54)] x3 = 30 := by rw [q0]; rfl
      rw [e]; exact k0 q0
    by_cases q1 : x3 = 1
    · have e : pe_sw 62 [(0, 30), (1, 38), (2, 46), (3, 54)] x3 = 38 := by rw [q1]; rfl
      rw [e]; exact k1 q1
    by_cases q2 : x3 = 2
    · have e : pe_sw 62 [(0, 30), (1, 38), (2, 46), (3, 54)] x3 = 46 := by rw [q2]; rfl
      rw [e]; exact k2 q2
    by_cases q3 : x3 = 3
    · have e : pe_sw 62 [(0, 30), (1, 38), (2, 46), (3, 54)] x3 = 54 := by rw [q3]; rfl
      rw [e]; exact k3 q3
    have e : pe_sw 62 [(0, 30), (1, 38), (2, 46), (3, 54)] x3 = 62 := by simp only [pe_sw, if_neg q0, if_neg q1, if_neg q2, if_neg q3]
    rw [e]; exact kd q0 q1 q2 q3
theorem b197_96 {d : Nat} {Φ : Option pe_V → pe_H → Prop} {σ : pe_H} {M q : Nat} {y : Nat → Int → Int} (hF : pm_F M σ) {o1 : Option pe_V} {o2 : Option pe_V} {o3 : Option pe_V} {x4 : Int}  (w0 : pe_in x4 := by unfold pe_in; omega) (h0 : 0 ≤ x4 := by first | assumption | omega) (h1 : x4 < 48 := by first | assumption | omega) (k : Φ (some (.inl (y 15 x4))) (pm_h M σ q y)) : pe_X d 197 (96, [some (.inr (.inr M)), o1, o2, o3, some (.inl x4)], [], pm_h M σ q y) Φ := by
  refine pe_blk 41 4 ck197 [pe_K (pm_h M σ q y) M = 9, pe_K (pm_h M σ q y) (pe_R (pm_h M σ q y) M 15) = 10, 0 ≤ (pe_w x4), (pe_w x4) < pe_L (pm_h M σ q y) (pe_R (pm_h M σ q y) M 15)] (103, [some (.inr (.inr M)), o1, o2, o3, some (.inl x4)], [.inl (pe_I (pm_h M σ q y) (pe_R (pm_h M σ q y) M 15) (pe_w x4))], pm_h M σ q y) rfl ?_ ?_
  · first
    | (simp (disch := omega) only [pe_all, pe_wi w0, pe_I_wR, pe_K_wI, pe_K_wR, pe_L_wI, pe_L_wR, pe_R_nej, pe_R_wI, pm_Ik, pm_K15 hF, pm_KM hF, pm_Kh, pm_L15 hF, pm_Lh, pm_R15 hF, pm_Rh, pm_uj, pm_uk, pm_us]; done)
    | (simp (disch := omega) only [pe_all, pe_wi w0, pe_I_wR, pe_K_wI, pe_K_wR, pe_L_wI, pe_L_wR, pe_R_nej, pe_R_wI, pm_Ik, pm_K15 hF, pm_KM hF, pm_Kh, pm_L15 hF, pm_Lh, pm_R15 hF, pm_Rh, pm_uj, pm_uk, pm_us]; (repeat' apply And.intro) <;> first | assumption | omega | decide)
  · try simp (disch := omega) only [pe_wi w0, pe_I_wR, pe_K_wI, pe_K_wR, pe_L_wI, pe_L_wR, pe_R_nej, pe_R_wI, pm_Ik, pm_K15 hF, pm_KM hF, pm_Kh, pm_L15 hF, pm_Lh, pm_R15 hF, pm_Rh, pm_uj, pm_uk, pm_us]
    exact pe_fine 45 ck197 rfl rfl rfl trivial k
theorem b197_104 {d : Nat} {Φ : Option pe_V → pe_H → Prop} {σ : pe_H} {M q : Nat} {y : Nat → Int → Int} (hF : pm_F M σ) {o1 : Option pe_V} {o2 : Option pe_V} {o3 : Option pe_V} {x4 : Int}  (w0 : pe_in x4 := by unfold pe_in; omega) (h0 : 0 ≤ x4 := by first | assumption | omega) (h1 : x4 < 48 := by first | assumption | omega) (k : Φ (some (.inl (y 17 x4))) (pm_h M σ q y)) : pe_X d 197 (104, [some (.inr (.inr M)), o1, o2, o3, some (.inl x4)], [], pm_h M σ q y) Φ := by
  refine pe_blk 46 4 ck197 [pe_K (pm_h M σ q y) M = 9, pe_K (pm_h M σ q y) (pe_R (pm_h M σ q y) M 17) = 10, 0 ≤ (pe_w x4), (pe_w x4) < pe_L (pm_h M σ q y) (pe_R (pm_h M σ q y) M 17)] (111, [some (.inr (.inr M)), o1, o2, o3, some (.inl x4)], [.inl (pe_I (pm_h M σ q y) (pe_R (pm_h M σ q y) M 17) (pe_w x4))], pm_h M σ q y) rfl ?_ ?_
  · first
    | (simp (disch := omega) only [pe_all, pe_wi w0, pe_I_wR, pe_K_wI, pe_K_wR, pe_L_wI, pe_L_wR, pe_R_nej, pe_R_wI, pm_Ik, pm_K17 hF, pm_KM hF, pm_Kh, pm_L17 hF, pm_Lh, pm_R17 hF, pm_Rh, pm_uj, pm_uk, pm_us]; done)
    | (simp (disch := omega) only [pe_all, pe_wi w0, pe_I_wR, pe_K_wI, pe_K_wR, pe_L_wI, pe_L_wR, pe_R_nej, pe_R_wI, pm_Ik, pm_K17 hF, pm_KM hF, pm_Kh, pm_L17 hF, pm_Lh, pm_R17 hF, pm_Rh, pm_uj, pm_uk, pm_us]; (repeat' apply And.intro) <;> first | assumption | omega | decide)
  · try simp (disch := omega) only [pe_wi w0, pe_I_wR, pe_K_wI, pe_K_wR, pe_L_wI, pe_L_wR, pe_R_nej, pe_R_wI, pm_Ik, pm_K17 hF, pm_KM hF, pm_Kh, pm_L17 hF, pm_Lh, pm_R17 hF, pm_Rh, pm_uj, pm_uk, pm_us]
    exact pe_fine 50 ck197 rfl rfl rfl trivial k
set_option maxRecDepth 8000 in
theorem b197_112 {d : Nat} {Φ : Option pe_V → pe_H → Prop} {σ : pe_H} {M q : Nat} {y : Nat → Int → Int} (hF : pm_F M σ) {o1 : Option pe_V} {o2 : Option pe_V} {o3 : Option pe_V} {x4 : Int}  (w0 : pe_in x4 := by unfold pe_in; omega) (h0 : 0 ≤ x4 := by first | assumption | omega) (h1 : x4 < 48 := by first | assumption | omega) (k : Φ (some (.inl (y 18 x4))) (pm_h M σ q y)) : pe_X d 197 (112, [some (.inr (.inr M)), o1, o2, o3, some (.inl x4)], [], pm_h M σ q y) Φ := by
  refine pe_blk 51 4 ck197 [pe_K (pm_h M σ q y) M = 9, pe_K (pm_h M σ q y) (pe_R (pm_h M σ q y) M 18) = 10, 0 ≤ (pe_w x4), (pe_w x4) < pe_L (pm_h M σ q y) (pe_R (pm_h M σ q y) M 18)] (119, [some (.inr (.inr M)), o1, o2, o3, some (.inl x4)], [.inl (pe_I (pm_h M σ q y) (pe_R (pm_h M σ q y) M 18) (pe_w x4))], pm_h M σ q y) rfl ?_ ?_
  · first
    | (simp (disch := omega) only [pe_all, pe_wi w0, pe_I_wR, pe_K_wI, pe_K_wR, pe_L_wI, pe_L_wR, pe_R_nej, pe_R_wI, pm_Ik, pm_K18 hF, pm_KM hF, pm_Kh, pm_L18 hF, pm_Lh, pm_R18 hF, pm_Rh, pm_uj, pm_uk, pm_us]; done)
    | (simp (disch := omega) only [pe_all, pe_wi w0, pe_I_wR, pe_K_wI, pe_K_wR, pe_L_wI, pe_L_wR, pe_R_nej, pe_R_wI, pm_Ik, pm_K18 hF, pm_KM hF, pm_Kh, pm_L18 hF, pm_Lh, pm_R18 hF, pm_Rh, pm_uj, pm_uk, pm_us]; (repeat' apply And.intro) <;> first | assumption | omega | decide)
  · try simp (disch := omega) only [pe_wi w0, pe_I_wR, pe_K_wI, pe_K_wR, pe_L_wI, pe_L_wR, pe_R_nej, pe_R_wI, pm_Ik, pm_K18 hF, pm_KM hF, pm_Kh, pm_L18 hF, pm_Lh, pm_R18 hF, pm_Rh, pm_uj, pm_uk, pm_us]
    exact pe_fine 55 ck197 rfl rfl rfl trivial k
set_option maxRecDepth 8000 in
theorem b197_120 {d : Nat} {Φ : Option pe_V → pe_H → Prop} {σ : pe_H} {M q : Nat} {y : Nat → Int → Int} (hF : pm_F M σ) {o1 : Option pe_V} {o2 : Option pe_V} {o3 : Option pe_V} {x4 : Int}  (w0 : pe_in x4 := by unfold pe_in; omega) (h0 : 0 ≤ x4 := by first | assumption | omega) (h1 : x4 < 48 := by first | assumption | omega) (k : Φ (some (.inl (y 19 x4))) (pm_h M σ q y)) : pe_X d 197 (120, [some (.inr (.inr M)), o1, o2, o3, some (.inl x4)], [], pm_h M σ q y) Φ := by
  refine pe_blk 56 4 ck197 [pe_K (pm_h M σ q y) M = 9, pe_K (pm_h M σ q y) (pe_R (pm_h M σ q y) M 19) = 10, 0 ≤ (pe_w x4), (pe_w x4) < pe_L (pm_h M σ q y) (pe_R (pm_h M σ q y) M 19)] (127, [some (.inr (.inr M)), o1, o2, o3, some (.inl x4)], [.inl (pe_I (pm_h M σ q y) (pe_R (pm_h M σ q y) M 19) (pe_w x4))], pm_h M σ q y) rfl ?_ ?_
  · first
    | (simp (disch := omega) only [pe_all, pe_wi w0, pe_I_wR, pe_K_wI, pe_K_wR, pe_L_wI, pe_L_wR, pe_R_nej, pe_R_wI, pm_Ik, pm_K19 hF, pm_KM hF, pm_Kh, pm_L19 hF, pm_Lh, pm_R19 hF, pm_Rh, pm_uj, pm_uk, pm_us]; done)
    | (simp (disch := omega) only [pe_all, pe_wi w0, pe_I_wR, pe_K_wI, pe_K_wR, pe_L_wI, pe_L_wR, pe_R_nej, pe_R_wI, pm_Ik, pm_K19 hF, pm_KM hF, pm_Kh, pm_L19 hF, pm_Lh, pm_R19 hF, pm_Rh, pm_uj, pm_uk, pm_us]; (repeat' apply And.intro) <;> first | assumption | omega | decide)
  · try simp (disch := omega) only [pe_wi w0, pe_I_wR, pe_K_wI, pe_K_wR, pe_L_wI, pe_L_wR, pe_R_nej, pe_R_wI, pm_Ik, pm_K19 hF, pm_KM hF, pm_Kh, pm_L19 hF, pm_Lh, pm_R19 hF, pm_Rh, pm_uj, pm_uk, pm_us]
    exact pe_fine 60 ck197 rfl rfl rfl trivial k
set_option maxRecDepth 8000 in
theorem b197_128 {d : Nat} {Φ : Option pe_V → pe_H → Prop} {σ : pe_H} {M q : Nat} {y : Nat → Int → Int} (hF : pm_F M σ) {o1 : Option pe_V} {o2 : Option pe_V} {o3 : Option pe_V} {x4 : Int}  (w0 : pe_in x4 := by unfold pe_in; omega) (w1 : pe_in (y 20 x4) := by unfold pe_in; omega) (h0 : 0 ≤ x4 := by first | assumption | omega) (h1 : x4 < 48 := by first | assumption | omega) (k1 : 2 ≤ (y 20 x4) → pe_X d 197 (149, [some (.inr (.inr M)), o1, o2, o3, some (.inl x4)], [], pm_h M σ q y) Φ) (k2 : ¬ (2 ≤ (y 20 x4)) → pe_X d 197 (139, [some (.inr (.inr M)), o1, o2, o3, some (.inl x4)], [], pm_h M σ q y) Φ) : pe_X d 197 (128, [some (.inr (.inr M)), o1, o2, o3, some (.inl x4)], [], pm_h M σ q y) Φ := by
  refine pe_blk 61 6 ck197 [pe_K (pm_h M σ q y) M = 9, pe_K (pm_h M σ q y) (pe_R (pm_h M σ q y) M 20) = 10, 0 ≤ (pe_w x4), (pe_w x4) < pe_L (pm_h M σ q y) (pe_R (pm_h M σ q y) M 20)] (cond (decide ((pe_w 2) ≤ (pe_w (pe_I (pm_h M σ q y) (pe_R (pm_h M σ q y) M 20) (pe_w x4))))) 149 139, [some (.inr (.inr M)), o1, o2, o3, some (.inl x4)], [], pm_h M σ q y) rfl ?_ ?_
  · first
    | (simp (disch := omega) only [pe_all, pe_wi w0, pe_wi w1, pe_wi (x := 2) ⟨by decide, by decide⟩, pe_I_wR, pe_K_wI, pe_K_wR, pe_L_wI, pe_L_wR, pe_R_nej, pe_R_wI, pm_Ik, pm_K20 hF, pm_KM hF, pm_Kh, pm_L20 hF, pm_Lh, pm_R20 hF, pm_Rh, pm_uj, pm_uk, pm_us]; done)
    | (simp (disch := omega) only [pe_all, pe_wi w0, pe_wi w1, pe_wi (x := 2) ⟨by decide, by decide⟩, pe_I_wR, pe_K_wI, pe_K_wR, pe_L_wI, pe_L_wR, pe_R_nej, pe_R_wI, pm_Ik, pm_K20 hF, pm_KM hF, pm_Kh, pm_L20 hF, pm_Lh, pm_R20 hF, pm_Rh, pm_uj, pm_uk, pm_us]; (repeat' apply And.intro) <;> first | assumption | omega | decide)
  · try simp (disch := omega) only [pe_wi w0, pe_wi w1, pe_wi (x := 2) ⟨by decide, by decide⟩, pe_I_wR, pe_K_wI, pe_K_wR, pe_L_wI, pe_L_wR, pe_R_nej, pe_R_wI, pm_Ik, pm_K20 hF, pm_KM hF, pm_Kh, pm_L20 hF, pm_Lh, pm_R20 hF, pm_Rh, pm_uj, pm_uk, pm_us]
    exact pe_two k1 k2
set_option maxRecDepth 8000 in
theorem b197_139 {d : Nat} {Φ : Option pe_V → pe_H → Prop} {σ : pe_H} {M q : Nat} {y : Nat → Int → Int} (hF : pm_F M σ) {o1 : Option pe_V} {o2 : Option pe_V} {o3 : Option pe_V} {x4 : Int}  (w0 : pe_in x4 := by unfold pe_in; omega) (h0 : 0 ≤ x4 := by first | assumption | omega) (h1 : x4 < 48 := by first | assumption | omega) (k : pe_X d 197 (166, [some (.inr (.inr M)), o1, o2, o3, some (.inl x4)], [.inl (y 20 x4)], pm_h M σ q y) Φ) : pe_X d 197 (139, [some (.inr (.inr M)), o1, o2, o3, some (.inl x4)], [], pm_h M σ q y) Φ := by
  refine pe_blk 67 5 ck197 [pe_K (pm_h M σ q y) M = 9, pe_K (pm_h M σ q y) (pe_R (pm_h M σ q y) M 20) = 10, 0 ≤ (pe_w x4), (pe_w x4) < pe_L (pm_h M σ q y) (pe_R (pm_h M σ q y) M 20)] (166, [some (.inr (.inr M)), o1, o2, o3, some (.inl x4)], [.inl (pe_I (pm_h M σ q y) (pe_R (pm_h M σ q y) M 20) (pe_w x4))], pm_h M σ q y) rfl ?_ ?_
  · first
    | (simp (disch := omega) only [pe_all, pe_wi w0, pe_I_wR, pe_K_wI, pe_K_wR, pe_L_wI, pe_L_wR, pe_R_nej, pe_R_wI, pm_Ik, pm_K20 hF, pm_KM hF, pm_Kh, pm_L20 hF, pm_Lh, pm_R20 hF, pm_Rh, pm_uj, pm_uk, pm_us]; done)
    | (simp (disch := omega) only [pe_all, pe_wi w0, pe_I_wR, pe_K_wI, pe_K_wR, pe_L_wI, pe_L_wR, pe_R_nej, pe_R_wI, pm_Ik, pm_K20 hF, pm_KM hF, pm_Kh, pm_L20 hF, pm_Lh, pm_R20 hF, pm_Rh, pm_uj, pm_uk, pm_us]; (repeat' apply And.intro) <;> first | assumption | omega | decide)
  · try simp (disch := omega) only [pe_wi w0, pe_I_wR, pe_K_wI, pe_K_wR, pe_L_wI, pe_L_wR, pe_R_nej, pe_R_wI, pm_Ik, pm_K20 hF, pm_KM hF, pm_Kh, pm_L20 hF, pm_Lh, pm_R20 hF, pm_Rh, pm_uj, pm_uk, pm_us]
    exact k
set_option maxRecDepth 8000 in
theorem b197_149 {d : Nat} {Φ : Option pe_V → pe_H → Prop} {σ : pe_H} {M q : Nat} {y : Nat → Int → Int} (hF : pm_F M σ) {o1 : Option pe_V} {o2 : Option pe_V} {o3 : Option pe_V} {x4 : Int}  (w0 : pe_in x4 := by unfold pe_in; omega) (w1 : pe_in ((y 20 x4) - 2) := by unfold pe_in; omega) (h0 : 0 ≤ x4 := by first | assumption | omega) (h1 : x4 < 48 := by first | assumption | omega) (h2 : 0 ≤ ((y 20 x4) - 2) := by first | assumption | omega) (h3 : ((y 20 x4) - 2) < 600 := by first | assumption | omega) (k : pe_X d 197 (166, [some (.inr (.inr M)), o1, o2, o3, some (.inl x4)], [.inl (10 + (y 23 ((y 20 x4) - 2)))], pm_h M σ q y) Φ) : pe_X d 197 (149, [some (.inr (.inr M)), o1, o2, o3, some (.inl x4)], [], pm_h M σ q y) Φ := by
  refine pe_blk 72 11 ck197 [pe_K (pm_h M σ q y) M = 9, pe_K (pm_h M σ q y) M = 9, pe_K (pm_h M σ q y) (pe_R (pm_h M σ q y) M 20) = 10, 0 ≤ (pe_w x4), (pe_w x4) < pe_L (pm_h M σ q y) (pe_R (pm_h M σ q y) M 20), pe_K (pm_h M σ q y) (pe_R (pm_h M σ q y) M 24) = 10, 0 ≤ (pe_w ((pe_I (pm_h M σ q y) (pe_R (pm_h M σ q y) M 20) (pe_w x4)) - 2)), (pe_w ((pe_I (pm_h M σ q y) (pe_R (pm_h M σ q y) M 20) (pe_w x4)) - 2)) < pe_L (pm_h M σ q y) (pe_R (pm_h M σ q y) M 24)] (166, [some (.inr (.inr M)), o1, o2, o3, some (.inl x4)], [.inl (10 + (pe_I (pm_h M σ q y) (pe_R (pm_h M σ q y) M 24) (pe_w ((pe_I (pm_h M σ q y) (pe_R (pm_h M σ q y) M 20) (pe_w x4)) - 2))))], pm_h M σ q y) rfl ?_ ?_
  · first
    | (simp (disch := omega) only [pe_all, pe_wi w0, pe_wi w1, pe_I_wR, pe_K_wI, pe_K_wR, pe_L_wI, pe_L_wR, pe_R_nej, pe_R_wI, pm_Ik, pm_K20 hF, pm_K23 hF, pm_KM hF, pm_Kh, pm_L20 hF, pm_L23 hF, pm_Lh, pm_R20 hF, pm_R24 hF, pm_Rh, pm_uj, pm_uk, pm_us]; done)
    | (simp (disch := omega) only [pe_all, pe_wi w0, pe_wi w1, pe_I_wR, pe_K_wI, pe_K_wR, pe_L_wI, pe_L_wR, pe_R_nej, pe_R_wI, pm_Ik, pm_K20 hF, pm_K23 hF, pm_KM hF, pm_Kh, pm_L20 hF, pm_L23 hF, pm_Lh, pm_R20 hF, pm_R24 hF, pm_Rh, pm_uj, pm_uk, pm_us]; (repeat' apply And.intro) <;> first | assumption | omega | decide)
  · try simp (disch := omega) only [pe_wi w0, pe_wi w1, pe_I_wR, pe_K_wI, pe_K_wR, pe_L_wI, pe_L_wR, pe_R_nej, pe_R_wI, pm_Ik, pm_K20 hF, pm_K23 hF, pm_KM hF, pm_Kh, pm_L20 hF, pm_L23 hF, pm_Lh, pm_R20 hF, pm_R24 hF, pm_Rh, pm_uj, pm_uk, pm_us]
    exact k
set_option maxRecDepth 8000 in
theorem b197_166 {d : Nat} {Φ : Option pe_V → pe_H → Prop} {σ : pe_H} {M q : Nat} {y : Nat → Int → Int} (hF : pm_F M σ) {o1 : Option pe_V} {o2 : Option pe_V} {o3 : Option pe_V} {o4 : Option pe_V} {s0 : Int}    (k : Φ (some (.inl s0)) (pm_h M σ q y)) : pe_X d 197 (166, [some (.inr (.inr M)), o1, o2, o3, o4], [.inl s0], pm_h M σ q y) Φ := by
  exact pe_fine 83 ck197 rfl rfl rfl trivial k
-- StepMachinesModel.cause(II)I
def T198 : List (Nat × Instr × Nat) := [(0, .aload_n 0, 1), (1, .iconst 0, 1), (2, .putfield 141, 3), (5, .aload_n 0, 1), (6, .iload_n 1, 1), (7, .invokevirtual 187, 3), (10, .ifCond .eq 20, 3), (13, .iload_n 2, 1), (14, .i2l, 1), (15, .lconst 0, 1), (16, .aload_n 0, 1), (17, .iload_n 1, 1), (18, .invokevirtual 381, 3), (21, .iconst 1, 1), (22, .isub, 1), (23, .i2l, 1), (24, .invokestatic 147, 3), (27, .ifCond .ne 5, 3), (30, .iconst (-1), 1), (31, .ireturn, 1), (32, .aload_n 0, 1), (33, .getfield 46, 3), (36, .iload_n 1, 1), (37, .iaload, 1), (38, .istore_n 3, 1), (39, .iconst 0, 1), (40, .istore 4, 2), (42, .iload 4, 2), (44, .iload_n 2, 1), (45, .if_icmp .ge 16, 3), (48, .aload_n 0, 1), (49, .getfield 79, 3), (52, .iload_n 3, 1), (53, .iaload, 1), (54, .istore_n 3, 1), (55, .iinc 4 1, 3), (58, .goto (-16), 3), (61, .aload_n 0, 1), (62, .getfield 76, 3), (65, .iload_n 3, 1), (66, .iaload, 1), (67, .ireturn, 1)]
theorem ck198 : pe_ctx 198 9 false (some .int) 5 T198 := ⟨rfl, rfl, rfl, rfl, by decide +kernel, by decide, by decide⟩
theorem b198_0 {d : Nat} {Φ : Option pe_V → pe_H → Prop} {σ : pe_H} {M q : Nat} {y : Nat → Int → Int} (hF : pm_F M σ) {x1 : Int} {x2 : Int} {o3 : Option pe_V} {o4 : Option pe_V}    (k : pe_M d 138 [.inr (.inr M), .inl x1] (pm_h M σ q (pm_u y 0 37 0)) (fun r σ' => pe_X d 198 (10, [some (.inr (.inr M)), some (.inl x1), some (.inl x2), o3, o4], r.toList ++ [], σ') Φ)) : pe_X d 198 (0, [some (.inr (.inr M)), some (.inl x1), some (.inl x2), o3, o4], [], pm_h M σ q y) Φ := by
  refine pe_blk 0 5 ck198 [pe_K (pm_h M σ q y) M = 9] (7, [some (.inr (.inr M)), some (.inl x1), some (.inl x2), o3, o4], [.inl x1, .inr (.inr M)], pe_wI (pm_h M σ q y) M 37 0) rfl ?_ ?_
  · first
    | (simp (disch := omega) only [pe_all, pe_K_wI, pe_K_wR, pm_KM hF, pm_Kh, pm_wI0]; done)
    | (simp (disch := omega) only [pe_all, pe_K_wI, pe_K_wR, pm_KM hF, pm_Kh, pm_wI0]; (repeat' apply And.intro) <;> first | assumption | omega | decide)
  · try simp (disch := omega) only [pe_K_wI, pe_K_wR, pm_KM hF, pm_Kh, pm_wI0]
    have hrc : pe_K (pm_h M σ q (pm_u y 0 37 0)) M = 9 := by first | assumption | (simp (disch := omega) only [pe_K_wI, pe_K_wR, pm_KM hF, pm_Kh, pm_wI0]; done) | (simp (disch := omega) only [pe_K_wI, pe_K_wR, pm_KM hF, pm_Kh, pm_wI0]; assumption)
    exact pe_cal 5 ck198 rfl rfl rfl ⟨hrc, by decide⟩ k
theorem b198_10 {d : Nat} {Φ : Option pe_V → pe_H → Prop} {σ : pe_H} {M q : Nat} {y : Nat → Int → Int} (hF : pm_F M σ) {x1 : Int} {x2 : Int} {o3 : Option pe_V} {o4 : Option pe_V} {s0 : Int}  (w0 : pe_in s0 := by unfold pe_in; omega)  (k1 : s0 = 0 → pe_X d 198 (30, [some (.inr (.inr M)), some (.inl x1), some (.inl x2), o3, o4], [], pm_h M σ q y) Φ) (k2 : ¬ (s0 = 0) → pe_X d 198 (13, [some (.inr (.inr M)), some (.inl x1), some (.inl x2), o3, o4], [], pm_h M σ q y) Φ) : pe_X d 198 (10, [some (.inr (.inr M)), some (.inl x1), some (.inl x2), o3, o4], [.inl s0], pm_h M σ q y) Φ := by
  refine pe_blk 6 1 ck198 [] (cond (decide ((pe_w s0) = 0)) 30 13, [some (.inr (.inr M)), some (.inl x1), some (.inl x2), o3, o4], [], pm_h M σ q y) rfl ?_ ?_
  · exact trivial
  · try simp (disch := omega) only [pe_wi w0]
    exact pe_two k1 k2
theorem b198_13 {d : Nat} {Φ : Option pe_V → pe_H → Prop} {σ : pe_H} {M q : Nat} {y : Nat → Int → Int} (hF : pm_F M σ) {x1 : Int} {x2 : Int} {o3 : Option pe_V} {o4 : Option pe_V}  (w0 : pe_in x2 := by unfold pe_in; omega)  (k : pe_M d 193 [.inr (.inr M), .inl x1] (pm_h M σ q y) (fun r σ' => pe_X d 198 (21, [some (.inr (.inr M)), some (.inl x1), some (.inl x2), o3, o4], r.toList ++ [.inr (.inl 0), .inr (.inl x2)], σ') Φ)) : pe_X d 198 (13, [some (.inr (.inr M)), some (.inl x1), some (.inl x2), o3, o4], [], pm_h M σ q y) Φ := by
  refine pe_blk 7 5 ck198 [] (18, [some (.inr (.inr M)), some (.inl x1), some (.inl x2), o3, o4], [.inl x1, .inr (.inr M), .inr (.inl 0), .inr (.inl (pe_w x2))], pm_h M σ q y) rfl ?_ ?_
  · exact trivial
  · try simp (disch := omega) only [pe_wi w0, pe_K_wI, pe_K_wR, pm_KM hF, pm_Kh]
    have hrc : pe_K (pm_h M σ q y) M = 9 := by first | assumption | (simp (disch := omega) only [pe_wi w0, pe_K_wI, pe_K_wR, pm_KM hF, pm_Kh]; done) | (simp (disch := omega) only [pe_wi w0, pe_K_wI, pe_K_wR, pm_KM hF, pm_Kh]; assumption)
    exact pe_cal 12 ck198 rfl rfl rfl ⟨hrc, by decide⟩ k
theorem b198_21 {d : Nat} {Φ : Option pe_V → pe_H → Prop} {σ : pe_H} {M q : Nat} {y : Nat → Int → Int} (hF : pm_F M σ) {x1 : Int} {x2 : Int} {o3 : Option pe_V} {o4 : Option pe_V} {z0 : Int} {z1 : Int} {s2 : Int}  (w0 : pe_in (s2 - 1) := by unfold pe_in; omega)  (k : pe_M d 134 [.inr (.inl z0), .inr (.inl z1), .inr (.inl (s2 - 1))] (pm_h M σ q y) (fun r σ' => pe_X d 198 (27, [some (.inr (.inr M)), some (.inl x1), some (.inl x2), o3, o4], r.toList ++ [], σ') Φ)) : pe_X d 198 (21, [some (.inr (.inr M)), some (.inl x1), some (.inl x2), o3, o4], [.inl s2, .inr (.inl z1), .inr (.inl z0)], pm_h M σ q y) Φ := by
  refine pe_blk 13 3 ck198 [] (24, [some (.inr (.inr M)), some (.inl x1), some (.inl x2), o3, o4], [.inr (.inl (pe_w (s2 - 1))), .inr (.inl z1), .inr (.inl z0)], pm_h M σ q y) rfl ?_ ?_
  · exact trivial
  · try simp (disch := omega) only [pe_wi w0]
    exact pe_cal 16 ck198 rfl rfl rfl trivial k
theorem b198_27 {d : Nat} {Φ : Option pe_V → pe_H → Prop} {σ : pe_H} {M q : Nat} {y : Nat → Int → Int} (hF : pm_F M σ) {x1 : Int} {x2 : Int} {o3 : Option pe_V} {o4 : Option pe_V} {s0 : Int}  (w0 : pe_in s0 := by unfold pe_in; omega)  (k1 : ¬ s0 = 0 → pe_X d 198 (32, [some (.inr (.inr M)), some (.inl x1), some (.inl x2), o3, o4], [], pm_h M σ q y) Φ) (k2 : s0 = 0 → pe_X d 198 (30, [some (.inr (.inr M)), some (.inl x1), some (.inl x2), o3, o4], [], pm_h M σ q y) Φ) : pe_X d 198 (27, [some (.inr (.inr M)), some (.inl x1), some (.inl x2), o3, o4], [.inl s0], pm_h M σ q y) Φ := by
  refine pe_blk 17 1 ck198 [] (cond (decide (¬ (pe_w s0) = 0)) 32 30, [some (.inr (.inr M)), some (.inl x1), some (.inl x2), o3, o4], [], pm_h M σ q y) rfl ?_ ?_
  · exact trivial
  · try simp (disch := omega) only [pe_wi w0]
    exact pe_two' k1 k2
theorem b198_30 {d : Nat} {Φ : Option pe_V → pe_H → Prop} {σ : pe_H} {M q : Nat} {y : Nat → Int → Int} (hF : pm_F M σ) {o1 : Option pe_V} {o2 : Option pe_V} {o3 : Option pe_V} {o4 : Option pe_V}    (k : Φ (some (.inl (-1))) (pm_h M σ q y)) : pe_X d 198 (30, [some (.inr (.inr M)), o1, o2, o3, o4], [], pm_h M σ q y) Φ := by
  refine pe_blk 18 1 ck198 [] (31, [some (.inr (.inr M)), o1, o2, o3, o4], [.inl (-1)], pm_h M σ q y) rfl ?_ ?_
  · exact trivial
  · exact pe_fine 19 ck198 rfl rfl rfl trivial k
theorem b198_32 {d : Nat} {Φ : Option pe_V → pe_H → Prop} {σ : pe_H} {M q : Nat} {y : Nat → Int → Int} (hF : pm_F M σ) {x1 : Int} {x2 : Int} {o3 : Option pe_V} {o4 : Option pe_V}  (w0 : pe_in x1 := by unfold pe_in; omega) (h0 : 0 ≤ x1 := by first | assumption | omega) (h1 : x1 < 8 := by first | assumption | omega) (k : pe_X d 198 (42, [some (.inr (.inr M)), some (.inl x1), some (.inl x2), some (.inl (y 13 x1)), some (.inl 0)], [], pm_h M σ q y) Φ) : pe_X d 198 (32, [some (.inr (.inr M)), some (.inl x1), some (.inl x2), o3, o4], [], pm_h M σ q y) Φ := by
  refine pe_blk 20 7 ck198 [pe_K (pm_h M σ q y) M = 9, pe_K (pm_h M σ q y) (pe_R (pm_h M σ q y) M 13) = 10, 0 ≤ (pe_w x1), (pe_w x1) < pe_L (pm_h M σ q y) (pe_R (pm_h M σ q y) M 13)] (42, [some (.inr (.inr M)), some (.inl x1), some (.inl x2), some (.inl (pe_I (pm_h M σ q y) (pe_R (pm_h M σ q y) M 13) (pe_w x1))), some (.inl 0)], [], pm_h M σ q y) rfl ?_ ?_
  · first
    | (simp (disch := omega) only [pe_all, pe_wi w0, pe_I_wR, pe_K_wI, pe_K_wR, pe_L_wI, pe_L_wR, pe_R_nej, pe_R_wI, pm_Ik, pm_K13 hF, pm_KM hF, pm_Kh, pm_L13 hF, pm_Lh, pm_R13 hF, pm_Rh, pm_uj, pm_uk, pm_us]; done)
    | (simp (disch := omega) only [pe_all, pe_wi w0, pe_I_wR, pe_K_wI, pe_K_wR, pe_L_wI, pe_L_wR, pe_R_nej, pe_R_wI, pm_Ik, pm_K13 hF, pm_KM hF, pm_Kh, pm_L13 hF, pm_Lh, pm_R13 hF, pm_Rh, pm_uj, pm_uk, pm_us]; (repeat' apply And.intro) <;> first | assumption | omega | decide)
  · try simp (disch := omega) only [pe_wi w0, pe_I_wR, pe_K_wI, pe_K_wR, pe_L_wI, pe_L_wR, pe_R_nej, pe_R_wI, pm_Ik, pm_K13 hF, pm_KM hF, pm_Kh, pm_L13 hF, pm_Lh, pm_R13 hF, pm_Rh, pm_uj, pm_uk, pm_us]
    exact k
theorem b198_42 {d : Nat} {Φ : Option pe_V → pe_H → Prop} {σ : pe_H} {M q : Nat} {y : Nat → Int → Int} (hF : pm_F M σ) {o1 : Option pe_V} {x2 : Int} {x3 : Int} {x4 : Int}  (w0 : pe_in x2 := by unfold pe_in; omega) (w1 : pe_in x4 := by unfold pe_in; omega)  (k1 : x2 ≤ x4 → pe_X d 198 (61, [some (.inr (.inr M)), o1, some (.inl x2), some (.inl x3), some (.inl x4)], [], pm_h M σ q y) Φ) (k2 : ¬ (x2 ≤ x4) → pe_X d 198 (48, [some (.inr (.inr M)), o1, some (.inl x2), some (.inl x3), some (.inl x4)], [], pm_h M σ q y) Φ) : pe_X d 198 (42, [some (.inr (.inr M)), o1, some (.inl x2), some (.inl x3), some (.inl x4)], [], pm_h M σ q y) Φ := by
  refine pe_blk 27 3 ck198 [] (cond (decide ((pe_w x2) ≤ (pe_w x4))) 61 48, [some (.inr (.inr M)), o1, some (.inl x2), some (.inl x3), some (.inl x4)], [], pm_h M σ q y) rfl ?_ ?_
  · exact trivial
  · try simp (disch := omega) only [pe_wi w0, pe_wi w1]
    exact pe_two k1 k2
theorem b198_48 {d : Nat} {Φ : Option pe_V → pe_H → Prop} {σ : pe_H} {M q : Nat} {y : Nat → Int → Int} (hF : pm_F M σ) {o1 : Option pe_V} {x2 : Int} {x3 : Int} {x4 : Int}  (w0 : pe_in x3 := by unfold pe_in; omega) (h0 : 0 ≤ x3 := by first | assumption | omega) (h1 : x3 < 600 := by first | assumption | omega) (k : pe_X d 198 (42, [some (.inr (.inr M)), o1, some (.inl x2), some (.inl (y 24 x3)), some (.inl (x4 + 1))], [], pm_h M σ q y) Φ) : pe_X d 198 (48, [some (.inr (.inr M)), o1, some (.inl x2), some (.inl x3), some (.inl x4)], [], pm_h M σ q y) Φ := by
  refine pe_blk 30 7 ck198 [pe_K (pm_h M σ q y) M = 9, pe_K (pm_h M σ q y) (pe_R (pm_h M σ q y) M 25) = 10, 0 ≤ (pe_w x3), (pe_w x3) < pe_L (pm_h M σ q y) (pe_R (pm_h M σ q y) M 25)] (42, [some (.inr (.inr M)), o1, some (.inl x2), some (.inl (pe_I (pm_h M σ q y) (pe_R (pm_h M σ q y) M 25) (pe_w x3))), some (.inl (x4 + 1))], [], pm_h M σ q y) rfl ?_ ?_
  · first
    | (simp (disch := omega) only [pe_all, pe_wi w0, pe_I_wR, pe_K_wI, pe_K_wR, pe_L_wI, pe_L_wR, pe_R_nej, pe_R_wI, pm_Ik, pm_K24 hF, pm_KM hF, pm_Kh, pm_L24 hF, pm_Lh, pm_R25 hF, pm_Rh, pm_uj, pm_uk, pm_us]; done)
    | (simp (disch := omega) only [pe_all, pe_wi w0, pe_I_wR, pe_K_wI, pe_K_wR, pe_L_wI, pe_L_wR, pe_R_nej, pe_R_wI, pm_Ik, pm_K24 hF, pm_KM hF, pm_Kh, pm_L24 hF, pm_Lh, pm_R25 hF, pm_Rh, pm_uj, pm_uk, pm_us]; (repeat' apply And.intro) <;> first | assumption | omega | decide)
  · try simp (disch := omega) only [pe_wi w0, pe_I_wR, pe_K_wI, pe_K_wR, pe_L_wI, pe_L_wR, pe_R_nej, pe_R_wI, pm_Ik, pm_K24 hF, pm_KM hF, pm_Kh, pm_L24 hF, pm_Lh, pm_R25 hF, pm_Rh, pm_uj, pm_uk, pm_us]
    exact k
theorem b198_61 {d : Nat} {Φ : Option pe_V → pe_H → Prop} {σ : pe_H} {M q : Nat} {y : Nat → Int → Int} (hF : pm_F M σ) {o1 : Option pe_V} {o2 : Option pe_V} {x3 : Int} {o4 : Option pe_V}  (w0 : pe_in x3 := by unfold pe_in; omega) (h0 : 0 ≤ x3 := by first | assumption | omega) (h1 : x3 < 600 := by first | assumption | omega) (k : Φ (some (.inl (y 23 x3))) (pm_h M σ q y)) : pe_X d 198 (61, [some (.inr (.inr M)), o1, o2, some (.inl x3), o4], [], pm_h M σ q y) Φ := by
  refine pe_blk 37 4 ck198 [pe_K (pm_h M σ q y) M = 9, pe_K (pm_h M σ q y) (pe_R (pm_h M σ q y) M 24) = 10, 0 ≤ (pe_w x3), (pe_w x3) < pe_L (pm_h M σ q y) (pe_R (pm_h M σ q y) M 24)] (67, [some (.inr (.inr M)), o1, o2, some (.inl x3), o4], [.inl (pe_I (pm_h M σ q y) (pe_R (pm_h M σ q y) M 24) (pe_w x3))], pm_h M σ q y) rfl ?_ ?_
  · first
    | (simp (disch := omega) only [pe_all, pe_wi w0, pe_I_wR, pe_K_wI, pe_K_wR, pe_L_wI, pe_L_wR, pe_R_nej, pe_R_wI, pm_Ik, pm_K23 hF, pm_KM hF, pm_Kh, pm_L23 hF, pm_Lh, pm_R24 hF, pm_Rh, pm_uj, pm_uk, pm_us]; done)
    | (simp (disch := omega) only [pe_all, pe_wi w0, pe_I_wR, pe_K_wI, pe_K_wR, pe_L_wI, pe_L_wR, pe_R_nej, pe_R_wI, pm_Ik, pm_K23 hF, pm_KM hF, pm_Kh, pm_L23 hF, pm_Lh, pm_R24 hF, pm_Rh, pm_uj, pm_uk, pm_us]; (repeat' apply And.intro) <;> first | assumption | omega | decide)
  · try simp (disch := omega) only [pe_wi w0, pe_I_wR, pe_K_wI, pe_K_wR, pe_L_wI, pe_L_wR, pe_R_nej, pe_R_wI, pm_Ik, pm_K23 hF, pm_KM hF, pm_Kh, pm_L23 hF, pm_Lh, pm_R24 hF, pm_Rh, pm_uj, pm_uk, pm_us]
    exact pe_fine 41 ck198 rfl rfl rfl trivial k
-- StepMachinesModel.channel(III)I
def T199 : List (Nat × Instr × Nat) := [(0, .aload_n 0, 1), (1, .iconst 0, 1), (2, .putfield 141, 3), (5, .iload_n 1, 1), (6, .i2l, 1), (7, .lconst 0, 1), (8, .ldc2_w 387, 3), (11, .invokestatic 147, 3), (14, .ifCond .eq 13, 3), (17, .iload_n 3, 1), (18, .i2l, 1), (19, .lconst 0, 1), (20, .lconst 1, 1), (21, .invokestatic 147, 3), (24, .ifCond .ne 5, 3), (27, .iconst (-1), 1), (28, .ireturn, 1), (29, .iload_n 1, 1), (30, .iconst 3, 1), (31, .iload_n 3, 1), (32, .imul, 1), (33, .iadd, 1), (34, .istore 4, 2), (36, .iload_n 2, 1), (37, .iconst (-1), 1), (38, .if_icmp .ne 13, 3), (41, .aload_n 0, 1), (42, .getfield 82, 3), (45, .iload 4, 2), (47, .iaload, 1), (48, .goto 38, 3), (51, .iload_n 2, 1), (52, .i2l, 1), (53, .lconst 0, 1), (54, .aload_n 0, 1), (55, .getfield 82, 3), (58, .iload 4, 2), (60, .iaload, 1), (61, .iconst 1, 1), (62, .isub, 1), (63, .i2l, 1), (64, .invokestatic 147, 3), (67, .ifCond .eq 18, 3), (70, .aload_n 0, 1), (71, .getfield 85, 3), (74, .bipush 8, 2), (76, .iload 4, 2), (78, .imul, 1), (79, .iload_n 2, 1), (80, .iadd, 1), (81, .iaload, 1), (82, .goto 4, 3), (85, .iconst (-1), 1), (86, .ireturn, 1)]
theorem ck199 : pe_ctx 199 9 false (some .int) 5 T199 := ⟨rfl, rfl, rfl, rfl, by decide +kernel, by decide, by decide⟩
theorem b199_0 {d : Nat} {Φ : Option pe_V → pe_H → Prop} {σ : pe_H} {M q : Nat} {y : Nat → Int → Int} (hF : pm_F M σ) {x1 : Int} {x2 : Int} {x3 : Int} {o4 : Option pe_V}  (w0 : pe_in x1 := by unfold pe_in; omega)  (k : pe_M d 134 [.inr (.inl x1), .inr (.inl 0), .inr (.inl 2)] (pm_h M σ q (pm_u y 0 37 0)) (fun r σ' => pe_X d 199 (14, [some (.inr (.inr M)), some (.inl x1), some (.inl x2), some (.inl x3), o4], r.toList ++ [], σ') Φ)) : pe_X d 199 (0, [some (.inr (.inr M)), some (.inl x1), some (.inl x2), some (.inl x3), o4], [], pm_h M σ q y) Φ := by
  refine pe_blk 0 7 ck199 [pe_K (pm_h M σ q y) M = 9] (11, [some (.inr (.inr M)), some (.inl x1), some (.inl x2), some (.inl x3), o4], [.inr (.inl 2), .inr (.inl 0), .inr (.inl (pe_w x1))], pe_wI (pm_h M σ q y) M 37 0) rfl ?_ ?_
  · first
    | (simp (disch := omega) only [pe_all, pe_wi w0, pe_K_wI, pe_K_wR, pm_KM hF, pm_Kh, pm_wI0]; done)
    | (simp (disch := omega) only [pe_all, pe_wi w0, pe_K_wI, pe_K_wR, pm_KM hF, pm_Kh, pm_wI0]; (repeat' apply And.intro) <;> first | assumption | omega | decide)
  · try simp (disch := omega) only [pe_wi w0, pe_K_wI, pe_K_wR, pm_KM hF, pm_Kh, pm_wI0]
    exact pe_cal 7 ck199 rfl rfl rfl trivial k
theorem b199_14 {d : Nat} {Φ : Option pe_V → pe_H → Prop} {σ : pe_H} {M q : Nat} {y : Nat → Int → Int} (hF : pm_F M σ) {x1 : Int} {x2 : Int} {x3 : Int} {o4 : Option pe_V} {s0 : Int}  (w0 : pe_in s0 := by unfold pe_in; omega)  (k1 : s0 = 0 → pe_X d 199 (27, [some (.inr (.inr M)), some (.inl x1), some (.inl x2), some (.inl x3), o4], [], pm_h M σ q y) Φ) (k2 : ¬ (s0 = 0) → pe_X d 199 (17, [some (.inr (.inr M)), some (.inl x1), some (.inl x2), some (.inl x3), o4], [], pm_h M σ q y) Φ) : pe_X d 199 (14, [some (.inr (.inr M)), some (.inl x1), some (.inl x2), some (.inl x3), o4], [.inl s0], pm_h M σ q y) Φ := by
  refine pe_blk 8 1 ck199 [] (cond (decide ((pe_w s0) = 0)) 27 17, [some (.inr (.inr M)), some (.inl x1), some (.inl x2), some (.inl x3), o4], [], pm_h M σ q y) rfl ?_ ?_
  · exact trivial
  · try simp (disch := omega) only [pe_wi w0]
    exact pe_two k1 k2
theorem b199_17 {d : Nat} {Φ : Option pe_V → pe_H → Prop} {σ : pe_H} {M q : Nat} {y : Nat → Int → Int} (hF : pm_F M σ) {x1 : Int} {x2 : Int} {x3 : Int} {o4 : Option pe_V}  (w0 : pe_in x3 := by unfold pe_in; omega)  (k : pe_M d 134 [.inr (.inl x3), .inr (.inl 0), .inr (.inl 1)] (pm_h M σ q y) (fun r σ' => pe_X d 199 (24, [some (.inr (.inr M)), some (.inl x1), some (.inl x2), some (.inl x3), o4], r.toList ++ [], σ') Φ)) : pe_X d 199 (17, [some (.inr (.inr M)), some (.inl x1), some (.inl x2), some (.inl x3), o4], [], pm_h M σ q y) Φ := by
  refine pe_blk 9 4 ck199 [] (21, [some (.inr (.inr M)), some (.inl x1), some (.inl x2), some (.inl x3), o4], [.inr (.inl 1), .inr (.inl 0), .inr (.inl (pe_w x3))], pm_h M σ q y) rfl ?_ ?_
  · exact trivial
  · try simp (disch := omega) only [pe_wi w0]
    exact pe_cal 13 ck199 rfl rfl rfl trivial k
theorem b199_24 {d : Nat} {Φ : Option pe_V → pe_H → Prop} {σ : pe_H} {M q : Nat} {y : Nat → Int → Int} (hF : pm_F M σ) {x1 : Int} {x2 : Int} {x3 : Int} {o4 : Option pe_V} {s0 : Int}  (w0 : pe_in s0 := by unfold pe_in; omega)  (k1 : ¬ s0 = 0 → pe_X d 199 (29, [some (.inr (.inr M)), some (.inl x1), some (.inl x2), some (.inl x3), o4], [], pm_h M σ q y) Φ) (k2 : s0 = 0 → pe_X d 199 (27, [some (.inr (.inr M)), some (.inl x1), some (.inl x2), some (.inl x3), o4], [], pm_h M σ q y) Φ) : pe_X d 199 (24, [some (.inr (.inr M)), some (.inl x1), some (.inl x2), some (.inl x3), o4], [.inl s0], pm_h M σ q y) Φ := by
  refine pe_blk 14 1 ck199 [] (cond (decide (¬ (pe_w s0) = 0)) 29 27, [some (.inr (.inr M)), some (.inl x1), some (.inl x2), some (.inl x3), o4], [], pm_h M σ q y) rfl ?_ ?_
  · exact trivial
  · try simp (disch := omega) only [pe_wi w0]
    exact pe_two' k1 k2
theorem b199_27 {d : Nat} {Φ : Option pe_V → pe_H → Prop} {σ : pe_H} {M q : Nat} {y : Nat → Int → Int} (hF : pm_F M σ) {o1 : Option pe_V} {o2 : Option pe_V} {o3 : Option pe_V} {o4 : Option pe_V}    (k : Φ (some (.inl (-1))) (pm_h M σ q y)) : pe_X d 199 (27, [some (.inr (.inr M)), o1, o2, o3, o4], [], pm_h M σ q y) Φ := by
  refine pe_blk 15 1 ck199 [] (28, [some (.inr (.inr M)), o1, o2, o3, o4], [.inl (-1)], pm_h M σ q y) rfl ?_ ?_
  · exact trivial
  · exact pe_fine 16 ck199 rfl rfl rfl trivial k
theorem b199_29 {d : Nat} {Φ : Option pe_V → pe_H → Prop} {σ : pe_H} {M q : Nat} {y : Nat → Int → Int} (hF : pm_F M σ) {x1 : Int} {x2 : Int} {x3 : Int} {o4 : Option pe_V}  (w0 : pe_in x2 := by unfold pe_in; omega)  (k1 : ¬ x2 = (-1) → pe_X d 199 (51, [some (.inr (.inr M)), some (.inl x1), some (.inl x2), some (.inl x3), some (.inl (x1 + (3 * x3)))], [], pm_h M σ q y) Φ) (k2 : x2 = (-1) → pe_X d 199 (41, [some (.inr (.inr M)), some (.inl x1), some (.inl x2), some (.inl x3), some (.inl (x1 + (3 * x3)))], [], pm_h M σ q y) Φ) : pe_X d 199 (29, [some (.inr (.inr M)), some (.inl x1), some (.inl x2), some (.inl x3), o4], [], pm_h M σ q y) Φ := by
  refine pe_blk 17 9 ck199 [] (cond (decide (¬ (pe_w x2) = (pe_w (-1)))) 51 41, [some (.inr (.inr M)), some (.inl x1), some (.inl x2), some (.inl x3), some (.inl (x1 + (3 * x3)))], [], pm_h M σ q y) rfl ?_ ?_
  · exact trivial
  · try simp (disch := omega) only [pe_wi w0, pe_wi (x := (-1)) ⟨by decide, by decide⟩]
    exact pe_two' k1 k2
theorem b199_41 {d : Nat} {Φ : Option pe_V → pe_H → Prop} {σ : pe_H} {M q : Nat} {y : Nat → Int → Int} (hF : pm_F M σ) {o1 : Option pe_V} {o2 : Option pe_V} {o3 : Option pe_V} {x4 : Int}  (w0 : pe_in x4 := by unfold pe_in; omega) (h0 : 0 ≤ x4 := by first | assumption | omega) (h1 : x4 < 6 := by first | assumption | omega) (k : pe_X d 199 (86, [some (.inr (.inr M)), o1, o2, o3, some (.inl x4)], [.inl (y 25 x4)], pm_h M σ q y) Φ) : pe_X d 199 (41, [some (.inr (.inr M)), o1, o2, o3, some (.inl x4)], [], pm_h M σ q y) Φ := by
  refine pe_blk 26 5 ck199 [pe_K (pm_h M σ q y) M = 9, pe_K (pm_h M σ q y) (pe_R (pm_h M σ q y) M 26) = 10, 0 ≤ (pe_w x4), (pe_w x4) < pe_L (pm_h M σ q y) (pe_R (pm_h M σ q y) M 26)] (86, [some (.inr (.inr M)), o1, o2, o3, some (.inl x4)], [.inl (pe_I (pm_h M σ q y) (pe_R (pm_h M σ q y) M 26) (pe_w x4))], pm_h M σ q y) rfl ?_ ?_
  · first
    | (simp (disch := omega) only [pe_all, pe_wi w0, pe_I_wR, pe_K_wI, pe_K_wR, pe_L_wI, pe_L_wR, pe_R_nej, pe_R_wI, pm_Ik, pm_K25 hF, pm_KM hF, pm_Kh, pm_L25 hF, pm_Lh, pm_R26 hF, pm_Rh, pm_uj, pm_uk, pm_us]; done)
    | (simp (disch := omega) only [pe_all, pe_wi w0, pe_I_wR, pe_K_wI, pe_K_wR, pe_L_wI, pe_L_wR, pe_R_nej, pe_R_wI, pm_Ik, pm_K25 hF, pm_KM hF, pm_Kh, pm_L25 hF, pm_Lh, pm_R26 hF, pm_Rh, pm_uj, pm_uk, pm_us]; (repeat' apply And.intro) <;> first | assumption | omega | decide)
  · try simp (disch := omega) only [pe_wi w0, pe_I_wR, pe_K_wI, pe_K_wR, pe_L_wI, pe_L_wR, pe_R_nej, pe_R_wI, pm_Ik, pm_K25 hF, pm_KM hF, pm_Kh, pm_L25 hF, pm_Lh, pm_R26 hF, pm_Rh, pm_uj, pm_uk, pm_us]
    exact k
theorem b199_51 {d : Nat} {Φ : Option pe_V → pe_H → Prop} {σ : pe_H} {M q : Nat} {y : Nat → Int → Int} (hF : pm_F M σ) {o1 : Option pe_V} {x2 : Int} {o3 : Option pe_V} {x4 : Int}  (w0 : pe_in x2 := by unfold pe_in; omega) (w1 : pe_in x4 := by unfold pe_in; omega) (w2 : pe_in ((y 25 x4) - 1) := by unfold pe_in; omega) (h0 : 0 ≤ x4 := by first | assumption | omega) (h1 : x4 < 6 := by first | assumption | omega) (k : pe_M d 134 [.inr (.inl x2), .inr (.inl 0), .inr (.inl ((y 25 x4) - 1))] (pm_h M σ q y) (fun r σ' => pe_X d 199 (67, [some (.inr (.inr M)), o1, some (.inl x2), o3, some (.inl x4)], r.toList ++ [], σ') Φ)) : pe_X d 199 (51, [some (.inr (.inr M)), o1, some (.inl x2), o3, some (.inl x4)], [], pm_h M σ q y) Φ := by
  refine pe_blk 31 10 ck199 [pe_K (pm_h M σ q y) M = 9, pe_K (pm_h M σ q y) (pe_R (pm_h M σ q y) M 26) = 10, 0 ≤ (pe_w x4), (pe_w x4) < pe_L (pm_h M σ q y) (pe_R (pm_h M σ q y) M 26)] (64, [some (.inr (.inr M)), o1, some (.inl x2), o3, some (.inl x4)], [.inr (.inl (pe_w ((pe_I (pm_h M σ q y) (pe_R (pm_h M σ q y) M 26) (pe_w x4)) - 1))), .inr (.inl 0), .inr (.inl (pe_w x2))], pm_h M σ q y) rfl ?_ ?_
  · first
    | (simp (disch := omega) only [pe_all, pe_wi w0, pe_wi w1, pe_wi w2, pe_I_wR, pe_K_wI, pe_K_wR, pe_L_wI, pe_L_wR, pe_R_nej, pe_R_wI, pm_Ik, pm_K25 hF, pm_KM hF, pm_Kh, pm_L25 hF, pm_Lh, pm_R26 hF, pm_Rh, pm_uj, pm_uk, pm_us]; done)
    | (simp (disch := omega) only [pe_all, pe_wi w0, pe_wi w1, pe_wi w2, pe_I_wR, pe_K_wI, pe_K_wR, pe_L_wI, pe_L_wR, pe_R_nej, pe_R_wI, pm_Ik, pm_K25 hF, pm_KM hF, pm_Kh, pm_L25 hF, pm_Lh, pm_R26 hF, pm_Rh, pm_uj, pm_uk, pm_us]; (repeat' apply And.intro) <;> first | assumption | omega | decide)
  · try simp (disch := omega) only [pe_wi w0, pe_wi w1, pe_wi w2, pe_I_wR, pe_K_wI, pe_K_wR, pe_L_wI, pe_L_wR, pe_R_nej, pe_R_wI, pm_Ik, pm_K25 hF, pm_KM hF, pm_Kh, pm_L25 hF, pm_Lh, pm_R26 hF, pm_Rh, pm_uj, pm_uk, pm_us]
    exact pe_cal 41 ck199 rfl rfl rfl trivial k
theorem b199_67 {d : Nat} {Φ : Option pe_V → pe_H → Prop} {σ : pe_H} {M q : Nat} {y : Nat → Int → Int} (hF : pm_F M σ) {o1 : Option pe_V} {x2 : Int} {o3 : Option pe_V} {x4 : Int} {s0 : Int}  (w0 : pe_in s0 := by unfold pe_in; omega)  (k1 : s0 = 0 → pe_X d 199 (85, [some (.inr (.inr M)), o1, some (.inl x2), o3, some (.inl x4)], [], pm_h M σ q y) Φ) (k2 : ¬ (s0 = 0) → pe_X d 199 (70, [some (.inr (.inr M)), o1, some (.inl x2), o3, some (.inl x4)], [], pm_h M σ q y) Φ) : pe_X d 199 (67, [some (.inr (.inr M)), o1, some (.inl x2), o3, some (.inl x4)], [.inl s0], pm_h M σ q y) Φ := by
  refine pe_blk 42 1 ck199 [] (cond (decide ((pe_w s0) = 0)) 85 70, [some (.inr (.inr M)), o1, some (.inl x2), o3, some (.inl x4)], [], pm_h M σ q y) rfl ?_ ?_
  · exact trivial
  · try simp (disch := omega) only [pe_wi w0]
    exact pe_two k1 k2
set_option maxRecDepth 8000 in
theorem b199_70 {d : Nat} {Φ : Option pe_V → pe_H → Prop} {σ : pe_H} {M q : Nat} {y : Nat → Int → Int} (hF : pm_F M σ) {o1 : Option pe_V} {x2 : Int} {o3 : Option pe_V} {x4 : Int}  (w0 : pe_in ((8 * x4) + x2) := by unfold pe_in; omega) (h0 : 0 ≤ ((8 * x4) + x2) := by first | assumption | omega) (h1 : ((8 * x4) + x2) < 48 := by first | assumption | omega) (k : pe_X d 199 (86, [some (.inr (.inr M)), o1, some (.inl x2), o3, some (.inl x4)], [.inl (y 26 ((8 * x4) + x2))], pm_h M σ q y) Φ) : pe_X d 199 (70, [some (.inr (.inr M)), o1, some (.inl x2), o3, some (.inl x4)], [], pm_h M σ q y) Φ := by
  refine pe_blk 43 9 ck199 [pe_K (pm_h M σ q y) M = 9, pe_K (pm_h M σ q y) (pe_R (pm_h M σ q y) M 27) = 10, 0 ≤ (pe_w ((8 * x4) + x2)), (pe_w ((8 * x4) + x2)) < pe_L (pm_h M σ q y) (pe_R (pm_h M σ q y) M 27)] (86, [some (.inr (.inr M)), o1, some (.inl x2), o3, some (.inl x4)], [.inl (pe_I (pm_h M σ q y) (pe_R (pm_h M σ q y) M 27) (pe_w ((8 * x4) + x2)))], pm_h M σ q y) rfl ?_ ?_
  · first
    | (simp (disch := omega) only [pe_all, pe_wi w0, pe_I_wR, pe_K_wI, pe_K_wR, pe_L_wI, pe_L_wR, pe_R_nej, pe_R_wI, pm_Ik, pm_K26 hF, pm_KM hF, pm_Kh, pm_L26 hF, pm_Lh, pm_R27 hF, pm_Rh, pm_uj, pm_uk, pm_us]; done)
    | (simp (disch := omega) only [pe_all, pe_wi w0, pe_I_wR, pe_K_wI, pe_K_wR, pe_L_wI, pe_L_wR, pe_R_nej, pe_R_wI, pm_Ik, pm_K26 hF, pm_KM hF, pm_Kh, pm_L26 hF, pm_Lh, pm_R27 hF, pm_Rh, pm_uj, pm_uk, pm_us]; (repeat' apply And.intro) <;> first | assumption | omega | decide)
  · try simp (disch := omega) only [pe_wi w0, pe_I_wR, pe_K_wI, pe_K_wR, pe_L_wI, pe_L_wR, pe_R_nej, pe_R_wI, pm_Ik, pm_K26 hF, pm_KM hF, pm_Kh, pm_L26 hF, pm_Lh, pm_R27 hF, pm_Rh, pm_uj, pm_uk, pm_us]
    exact k
set_option maxRecDepth 8000 in
theorem b199_85 {d : Nat} {Φ : Option pe_V → pe_H → Prop} {σ : pe_H} {M q : Nat} {y : Nat → Int → Int} (hF : pm_F M σ) {o1 : Option pe_V} {o2 : Option pe_V} {o3 : Option pe_V} {o4 : Option pe_V}    (k : pe_X d 199 (86, [some (.inr (.inr M)), o1, o2, o3, o4], [.inl (-1)], pm_h M σ q y) Φ) : pe_X d 199 (85, [some (.inr (.inr M)), o1, o2, o3, o4], [], pm_h M σ q y) Φ := by
  refine pe_blk 52 1 ck199 [] (86, [some (.inr (.inr M)), o1, o2, o3, o4], [.inl (-1)], pm_h M σ q y) rfl ?_ ?_
  · exact trivial
  · exact k
set_option maxRecDepth 8000 in
theorem b199_86 {d : Nat} {Φ : Option pe_V → pe_H → Prop} {σ : pe_H} {M q : Nat} {y : Nat → Int → Int} (hF : pm_F M σ) {o1 : Option pe_V} {o2 : Option pe_V} {o3 : Option pe_V} {o4 : Option pe_V} {s0 : Int}    (k : Φ (some (.inl s0)) (pm_h M σ q y)) : pe_X d 199 (86, [some (.inr (.inr M)), o1, o2, o3, o4], [.inl s0], pm_h M σ q y) Φ := by
  exact pe_fine 53 ck199 rfl rfl rfl trivial k
-- StepMachinesModel.send(II)I
def T200 : List (Nat × Instr × Nat) := [(0, .aload_n 0, 1), (1, .iconst 0, 1), (2, .putfield 141, 3), (5, .aload_n 0, 1), (6, .iload_n 1, 1), (7, .invokevirtual 187, 3), (10, .ifCond .eq 15, 3), (13, .iload_n 2, 1), (14, .i2l, 1), (15, .lconst 0, 1), (16, .ldc2_w 389, 3), (19, .invokestatic 147, 3), (22, .ifCond .ne 5, 3), (25, .iconst (-1), 1), (26, .ireturn, 1), (27, .aload_n 0, 1), (28, .iload_n 1, 1), (29, .invokevirtual 249, 3), (32, .ifCond .ne 6, 3), (35, .bipush (-3), 2), (37, .ireturn, 1), (38, .aload_n 0, 1), (39, .iload_n 1, 1), (40, .iload_n 2, 1), (41, .invokevirtual 303, 3), (44, .aload_n 0, 1), (45, .getfield 28, 3), (48, .iload_n 1, 1), (49, .iaload, 1), (50, .ireturn, 1)]
theorem ck200 : pe_ctx 200 9 false (some .int) 3 T200 := ⟨rfl, rfl, rfl, rfl, by decide +kernel, by decide, by decide⟩
theorem b200_0 {d : Nat} {Φ : Option pe_V → pe_H → Prop} {σ : pe_H} {M q : Nat} {y : Nat → Int → Int} (hF : pm_F M σ) {x1 : Int} {x2 : Int}    (k : pe_M d 138 [.inr (.inr M), .inl x1] (pm_h M σ q (pm_u y 0 37 0)) (fun r σ' => pe_X d 200 (10, [some (.inr (.inr M)), some (.inl x1), some (.inl x2)], r.toList ++ [], σ') Φ)) : pe_X d 200 (0, [some (.inr (.inr M)), some (.inl x1), some (.inl x2)], [], pm_h M σ q y) Φ := by
  refine pe_blk 0 5 ck200 [pe_K (pm_h M σ q y) M = 9] (7, [some (.inr (.inr M)), some (.inl x1), some (.inl x2)], [.inl x1, .inr (.inr M)], pe_wI (pm_h M σ q y) M 37 0) rfl ?_ ?_
  · first
    | (simp (disch := omega) only [pe_all, pe_K_wI, pe_K_wR, pm_KM hF, pm_Kh, pm_wI0]; done)
    | (simp (disch := omega) only [pe_all, pe_K_wI, pe_K_wR, pm_KM hF, pm_Kh, pm_wI0]; (repeat' apply And.intro) <;> first | assumption | omega | decide)
  · try simp (disch := omega) only [pe_K_wI, pe_K_wR, pm_KM hF, pm_Kh, pm_wI0]
    have hrc : pe_K (pm_h M σ q (pm_u y 0 37 0)) M = 9 := by first | assumption | (simp (disch := omega) only [pe_K_wI, pe_K_wR, pm_KM hF, pm_Kh, pm_wI0]; done) | (simp (disch := omega) only [pe_K_wI, pe_K_wR, pm_KM hF, pm_Kh, pm_wI0]; assumption)
    exact pe_cal 5 ck200 rfl rfl rfl ⟨hrc, by decide⟩ k
theorem b200_10 {d : Nat} {Φ : Option pe_V → pe_H → Prop} {σ : pe_H} {M q : Nat} {y : Nat → Int → Int} (hF : pm_F M σ) {x1 : Int} {x2 : Int} {s0 : Int}  (w0 : pe_in s0 := by unfold pe_in; omega)  (k1 : s0 = 0 → pe_X d 200 (25, [some (.inr (.inr M)), some (.inl x1), some (.inl x2)], [], pm_h M σ q y) Φ) (k2 : ¬ (s0 = 0) → pe_X d 200 (13, [some (.inr (.inr M)), some (.inl x1), some (.inl x2)], [], pm_h M σ q y) Φ) : pe_X d 200 (10, [some (.inr (.inr M)), some (.inl x1), some (.inl x2)], [.inl s0], pm_h M σ q y) Φ := by
  refine pe_blk 6 1 ck200 [] (cond (decide ((pe_w s0) = 0)) 25 13, [some (.inr (.inr M)), some (.inl x1), some (.inl x2)], [], pm_h M σ q y) rfl ?_ ?_
  · exact trivial
  · try simp (disch := omega) only [pe_wi w0]
    exact pe_two k1 k2
theorem b200_13 {d : Nat} {Φ : Option pe_V → pe_H → Prop} {σ : pe_H} {M q : Nat} {y : Nat → Int → Int} (hF : pm_F M σ) {x1 : Int} {x2 : Int}  (w0 : pe_in x2 := by unfold pe_in; omega)  (k : pe_M d 134 [.inr (.inl x2), .inr (.inl 0), .inr (.inl 999)] (pm_h M σ q y) (fun r σ' => pe_X d 200 (22, [some (.inr (.inr M)), some (.inl x1), some (.inl x2)], r.toList ++ [], σ') Φ)) : pe_X d 200 (13, [some (.inr (.inr M)), some (.inl x1), some (.inl x2)], [], pm_h M σ q y) Φ := by
  refine pe_blk 7 4 ck200 [] (19, [some (.inr (.inr M)), some (.inl x1), some (.inl x2)], [.inr (.inl 999), .inr (.inl 0), .inr (.inl (pe_w x2))], pm_h M σ q y) rfl ?_ ?_
  · exact trivial
  · try simp (disch := omega) only [pe_wi w0]
    exact pe_cal 11 ck200 rfl rfl rfl trivial k
theorem b200_22 {d : Nat} {Φ : Option pe_V → pe_H → Prop} {σ : pe_H} {M q : Nat} {y : Nat → Int → Int} (hF : pm_F M σ) {x1 : Int} {x2 : Int} {s0 : Int}  (w0 : pe_in s0 := by unfold pe_in; omega)  (k1 : ¬ s0 = 0 → pe_X d 200 (27, [some (.inr (.inr M)), some (.inl x1), some (.inl x2)], [], pm_h M σ q y) Φ) (k2 : s0 = 0 → pe_X d 200 (25, [some (.inr (.inr M)), some (.inl x1), some (.inl x2)], [], pm_h M σ q y) Φ) : pe_X d 200 (22, [some (.inr (.inr M)), some (.inl x1), some (.inl x2)], [.inl s0], pm_h M σ q y) Φ := by
  refine pe_blk 12 1 ck200 [] (cond (decide (¬ (pe_w s0) = 0)) 27 25, [some (.inr (.inr M)), some (.inl x1), some (.inl x2)], [], pm_h M σ q y) rfl ?_ ?_
  · exact trivial
  · try simp (disch := omega) only [pe_wi w0]
    exact pe_two' k1 k2
theorem b200_25 {d : Nat} {Φ : Option pe_V → pe_H → Prop} {σ : pe_H} {M q : Nat} {y : Nat → Int → Int} (hF : pm_F M σ) {o1 : Option pe_V} {o2 : Option pe_V}    (k : Φ (some (.inl (-1))) (pm_h M σ q y)) : pe_X d 200 (25, [some (.inr (.inr M)), o1, o2], [], pm_h M σ q y) Φ := by
  refine pe_blk 13 1 ck200 [] (26, [some (.inr (.inr M)), o1, o2], [.inl (-1)], pm_h M σ q y) rfl ?_ ?_
  · exact trivial
  · exact pe_fine 14 ck200 rfl rfl rfl trivial k
theorem b200_27 {d : Nat} {Φ : Option pe_V → pe_H → Prop} {σ : pe_H} {M q : Nat} {y : Nat → Int → Int} (hF : pm_F M σ) {x1 : Int} {x2 : Int}    (k : pe_M d 140 [.inr (.inr M), .inl x1] (pm_h M σ q y) (fun r σ' => pe_X d 200 (32, [some (.inr (.inr M)), some (.inl x1), some (.inl x2)], r.toList ++ [], σ') Φ)) : pe_X d 200 (27, [some (.inr (.inr M)), some (.inl x1), some (.inl x2)], [], pm_h M σ q y) Φ := by
  refine pe_blk 15 2 ck200 [] (29, [some (.inr (.inr M)), some (.inl x1), some (.inl x2)], [.inl x1, .inr (.inr M)], pm_h M σ q y) rfl ?_ ?_
  · exact trivial
  · try simp (disch := omega) only [pe_K_wI, pe_K_wR, pm_KM hF, pm_Kh]
    have hrc : pe_K (pm_h M σ q y) M = 9 := by first | assumption | (simp (disch := omega) only [pe_K_wI, pe_K_wR, pm_KM hF, pm_Kh]; done) | (simp (disch := omega) only [pe_K_wI, pe_K_wR, pm_KM hF, pm_Kh]; assumption)
    exact pe_cal 17 ck200 rfl rfl rfl ⟨hrc, by decide⟩ k
theorem b200_32 {d : Nat} {Φ : Option pe_V → pe_H → Prop} {σ : pe_H} {M q : Nat} {y : Nat → Int → Int} (hF : pm_F M σ) {x1 : Int} {x2 : Int} {s0 : Int}  (w0 : pe_in s0 := by unfold pe_in; omega)  (k1 : ¬ s0 = 0 → pe_X d 200 (38, [some (.inr (.inr M)), some (.inl x1), some (.inl x2)], [], pm_h M σ q y) Φ) (k2 : s0 = 0 → pe_X d 200 (35, [some (.inr (.inr M)), some (.inl x1), some (.inl x2)], [], pm_h M σ q y) Φ) : pe_X d 200 (32, [some (.inr (.inr M)), some (.inl x1), some (.inl x2)], [.inl s0], pm_h M σ q y) Φ := by
  refine pe_blk 18 1 ck200 [] (cond (decide (¬ (pe_w s0) = 0)) 38 35, [some (.inr (.inr M)), some (.inl x1), some (.inl x2)], [], pm_h M σ q y) rfl ?_ ?_
  · exact trivial
  · try simp (disch := omega) only [pe_wi w0]
    exact pe_two' k1 k2
theorem b200_35 {d : Nat} {Φ : Option pe_V → pe_H → Prop} {σ : pe_H} {M q : Nat} {y : Nat → Int → Int} (hF : pm_F M σ) {o1 : Option pe_V} {o2 : Option pe_V}    (k : Φ (some (.inl (-3))) (pm_h M σ q y)) : pe_X d 200 (35, [some (.inr (.inr M)), o1, o2], [], pm_h M σ q y) Φ := by
  refine pe_blk 19 1 ck200 [] (37, [some (.inr (.inr M)), o1, o2], [.inl (-3)], pm_h M σ q y) rfl ?_ ?_
  · exact trivial
  · exact pe_fine 20 ck200 rfl rfl rfl trivial k
theorem b200_38 {d : Nat} {Φ : Option pe_V → pe_H → Prop} {σ : pe_H} {M q : Nat} {y : Nat → Int → Int} (hF : pm_F M σ) {x1 : Int} {x2 : Int}    (k : pe_M d 166 [.inr (.inr M), .inl x1, .inl x2] (pm_h M σ q y) (fun r σ' => pe_X d 200 (44, [some (.inr (.inr M)), some (.inl x1), some (.inl x2)], r.toList ++ [], σ') Φ)) : pe_X d 200 (38, [some (.inr (.inr M)), some (.inl x1), some (.inl x2)], [], pm_h M σ q y) Φ := by
  refine pe_blk 21 3 ck200 [] (41, [some (.inr (.inr M)), some (.inl x1), some (.inl x2)], [.inl x2, .inl x1, .inr (.inr M)], pm_h M σ q y) rfl ?_ ?_
  · exact trivial
  · try simp (disch := omega) only [pe_K_wI, pe_K_wR, pm_KM hF, pm_Kh]
    have hrc : pe_K (pm_h M σ q y) M = 9 := by first | assumption | (simp (disch := omega) only [pe_K_wI, pe_K_wR, pm_KM hF, pm_Kh]; done) | (simp (disch := omega) only [pe_K_wI, pe_K_wR, pm_KM hF, pm_Kh]; assumption)
    exact pe_cal 24 ck200 rfl rfl rfl ⟨hrc, by decide⟩ k
theorem b200_44 {d : Nat} {Φ : Option pe_V → pe_H → Prop} {σ : pe_H} {M q : Nat} {y : Nat → Int → Int} (hF : pm_F M σ) {x1 : Int} {o2 : Option pe_V}  (w0 : pe_in x1 := by unfold pe_in; omega) (h0 : 0 ≤ x1 := by first | assumption | omega) (h1 : x1 < 8 := by first | assumption | omega) (k : Φ (some (.inl (y 7 x1))) (pm_h M σ q y)) : pe_X d 200 (44, [some (.inr (.inr M)), some (.inl x1), o2], [], pm_h M σ q y) Φ := by
  refine pe_blk 25 4 ck200 [pe_K (pm_h M σ q y) M = 9, pe_K (pm_h M σ q y) (pe_R (pm_h M σ q y) M 7) = 10, 0 ≤ (pe_w x1), (pe_w x1) < pe_L (pm_h M σ q y) (pe_R (pm_h M σ q y) M 7)] (50, [some (.inr (.inr M)), some (.inl x1), o2], [.inl (pe_I (pm_h M σ q y) (pe_R (pm_h M σ q y) M 7) (pe_w x1))], pm_h M σ q y) rfl ?_ ?_
  · first
    | (simp (disch := omega) only [pe_all, pe_wi w0, pe_I_wR, pe_K_wI, pe_K_wR, pe_L_wI, pe_L_wR, pe_R_nej, pe_R_wI, pm_Ik, pm_K7 hF, pm_KM hF, pm_Kh, pm_L7 hF, pm_Lh, pm_R7 hF, pm_Rh, pm_uj, pm_uk, pm_us]; done)
    | (simp (disch := omega) only [pe_all, pe_wi w0, pe_I_wR, pe_K_wI, pe_K_wR, pe_L_wI, pe_L_wR, pe_R_nej, pe_R_wI, pm_Ik, pm_K7 hF, pm_KM hF, pm_Kh, pm_L7 hF, pm_Lh, pm_R7 hF, pm_Rh, pm_uj, pm_uk, pm_us]; (repeat' apply And.intro) <;> first | assumption | omega | decide)
  · try simp (disch := omega) only [pe_wi w0, pe_I_wR, pe_K_wI, pe_K_wR, pe_L_wI, pe_L_wR, pe_R_nej, pe_R_wI, pm_Ik, pm_K7 hF, pm_KM hF, pm_Kh, pm_L7 hF, pm_Lh, pm_R7 hF, pm_Rh, pm_uj, pm_uk, pm_us]
    exact pe_fine 29 ck200 rfl rfl rfl trivial k
-- StepMachinesModel.close(I)I
def T201 : List (Nat × Instr × Nat) := [(0, .aload_n 0, 1), (1, .iconst 0, 1), (2, .putfield 141, 3), (5, .aload_n 0, 1), (6, .iload_n 1, 1), (7, .invokevirtual 187, 3), (10, .ifCond .ne 5, 3), (13, .iconst (-1), 1), (14, .ireturn, 1), (15, .aload_n 0, 1), (16, .iload_n 1, 1), (17, .invokevirtual 151, 3), (20, .ifCond .eq 6, 3), (23, .bipush (-3), 2), (25, .ireturn, 1), (26, .aload_n 0, 1), (27, .iload_n 1, 1), (28, .invokevirtual 306, 3), (31, .aload_n 0, 1), (32, .getfield 28, 3), (35, .iload_n 1, 1), (36, .iaload, 1), (37, .ireturn, 1)]
theorem ck201 : pe_ctx 201 9 false (some .int) 2 T201 := ⟨rfl, rfl, rfl, rfl, by decide +kernel, by decide, by decide⟩
theorem b201_0 {d : Nat} {Φ : Option pe_V → pe_H → Prop} {σ : pe_H} {M q : Nat} {y : Nat → Int → Int} (hF : pm_F M σ) {x1 : Int}    (k : pe_M d 138 [.inr (.inr M), .inl x1] (pm_h M σ q (pm_u y 0 37 0)) (fun r σ' => pe_X d 201 (10, [some (.inr (.inr M)), some (.inl x1)], r.toList ++ [], σ') Φ)) : pe_X d 201 (0, [some (.inr (.inr M)), some (.inl x1)], [], pm_h M σ q y) Φ := by
  refine pe_blk 0 5 ck201 [pe_K (pm_h M σ q y) M = 9] (7, [some (.inr (.inr M)), some (.inl x1)], [.inl x1, .inr (.inr M)], pe_wI (pm_h M σ q y) M 37 0) rfl ?_ ?_
  · first
    | (simp (disch := omega) only [pe_all, pe_K_wI, pe_K_wR, pm_KM hF, pm_Kh, pm_wI0]; done)
    | (simp (disch := omega) only [pe_all, pe_K_wI, pe_K_wR, pm_KM hF, pm_Kh, pm_wI0]; (repeat' apply And.intro) <;> first | assumption | omega | decide)
  · try simp (disch := omega) only [pe_K_wI, pe_K_wR, pm_KM hF, pm_Kh, pm_wI0]
    have hrc : pe_K (pm_h M σ q (pm_u y 0 37 0)) M = 9 := by first | assumption | (simp (disch := omega) only [pe_K_wI, pe_K_wR, pm_KM hF, pm_Kh, pm_wI0]; done) | (simp (disch := omega) only [pe_K_wI, pe_K_wR, pm_KM hF, pm_Kh, pm_wI0]; assumption)
    exact pe_cal 5 ck201 rfl rfl rfl ⟨hrc, by decide⟩ k
theorem b201_10 {d : Nat} {Φ : Option pe_V → pe_H → Prop} {σ : pe_H} {M q : Nat} {y : Nat → Int → Int} (hF : pm_F M σ) {x1 : Int} {s0 : Int}  (w0 : pe_in s0 := by unfold pe_in; omega)  (k1 : ¬ s0 = 0 → pe_X d 201 (15, [some (.inr (.inr M)), some (.inl x1)], [], pm_h M σ q y) Φ) (k2 : s0 = 0 → pe_X d 201 (13, [some (.inr (.inr M)), some (.inl x1)], [], pm_h M σ q y) Φ) : pe_X d 201 (10, [some (.inr (.inr M)), some (.inl x1)], [.inl s0], pm_h M σ q y) Φ := by
  refine pe_blk 6 1 ck201 [] (cond (decide (¬ (pe_w s0) = 0)) 15 13, [some (.inr (.inr M)), some (.inl x1)], [], pm_h M σ q y) rfl ?_ ?_
  · exact trivial
  · try simp (disch := omega) only [pe_wi w0]
    exact pe_two' k1 k2
theorem b201_13 {d : Nat} {Φ : Option pe_V → pe_H → Prop} {σ : pe_H} {M q : Nat} {y : Nat → Int → Int} (hF : pm_F M σ) {o1 : Option pe_V}    (k : Φ (some (.inl (-1))) (pm_h M σ q y)) : pe_X d 201 (13, [some (.inr (.inr M)), o1], [], pm_h M σ q y) Φ := by
  refine pe_blk 7 1 ck201 [] (14, [some (.inr (.inr M)), o1], [.inl (-1)], pm_h M σ q y) rfl ?_ ?_
  · exact trivial
  · exact pe_fine 8 ck201 rfl rfl rfl trivial k
theorem b201_15 {d : Nat} {Φ : Option pe_V → pe_H → Prop} {σ : pe_H} {M q : Nat} {y : Nat → Int → Int} (hF : pm_F M σ) {x1 : Int}    (k : pe_M d 139 [.inr (.inr M), .inl x1] (pm_h M σ q y) (fun r σ' => pe_X d 201 (20, [some (.inr (.inr M)), some (.inl x1)], r.toList ++ [], σ') Φ)) : pe_X d 201 (15, [some (.inr (.inr M)), some (.inl x1)], [], pm_h M σ q y) Φ := by
  refine pe_blk 9 2 ck201 [] (17, [some (.inr (.inr M)), some (.inl x1)], [.inl x1, .inr (.inr M)], pm_h M σ q y) rfl ?_ ?_
  · exact trivial
  · try simp (disch := omega) only [pe_K_wI, pe_K_wR, pm_KM hF, pm_Kh]
    have hrc : pe_K (pm_h M σ q y) M = 9 := by first | assumption | (simp (disch := omega) only [pe_K_wI, pe_K_wR, pm_KM hF, pm_Kh]; done) | (simp (disch := omega) only [pe_K_wI, pe_K_wR, pm_KM hF, pm_Kh]; assumption)
    exact pe_cal 11 ck201 rfl rfl rfl ⟨hrc, by decide⟩ k
theorem b201_20 {d : Nat} {Φ : Option pe_V → pe_H → Prop} {σ : pe_H} {M q : Nat} {y : Nat → Int → Int} (hF : pm_F M σ) {x1 : Int} {s0 : Int}  (w0 : pe_in s0 := by unfold pe_in; omega)  (k1 : s0 = 0 → pe_X d 201 (26, [some (.inr (.inr M)), some (.inl x1)], [], pm_h M σ q y) Φ) (k2 : ¬ (s0 = 0) → pe_X d 201 (23, [some (.inr (.inr M)), some (.inl x1)], [], pm_h M σ q y) Φ) : pe_X d 201 (20, [some (.inr (.inr M)), some (.inl x1)], [.inl s0], pm_h M σ q y) Φ := by
  refine pe_blk 12 1 ck201 [] (cond (decide ((pe_w s0) = 0)) 26 23, [some (.inr (.inr M)), some (.inl x1)], [], pm_h M σ q y) rfl ?_ ?_
  · exact trivial
  · try simp (disch := omega) only [pe_wi w0]
    exact pe_two k1 k2
theorem b201_23 {d : Nat} {Φ : Option pe_V → pe_H → Prop} {σ : pe_H} {M q : Nat} {y : Nat → Int → Int} (hF : pm_F M σ) {o1 : Option pe_V}    (k : Φ (some (.inl (-3))) (pm_h M σ q y)) : pe_X d 201 (23, [some (.inr (.inr M)), o1], [], pm_h M σ q y) Φ := by
  refine pe_blk 13 1 ck201 [] (25, [some (.inr (.inr M)), o1], [.inl (-3)], pm_h M σ q y) rfl ?_ ?_
  · exact trivial
  · exact pe_fine 14 ck201 rfl rfl rfl trivial k
theorem b201_26 {d : Nat} {Φ : Option pe_V → pe_H → Prop} {σ : pe_H} {M q : Nat} {y : Nat → Int → Int} (hF : pm_F M σ) {x1 : Int}    (k : pe_M d 167 [.inr (.inr M), .inl x1] (pm_h M σ q y) (fun r σ' => pe_X d 201 (31, [some (.inr (.inr M)), some (.inl x1)], r.toList ++ [], σ') Φ)) : pe_X d 201 (26, [some (.inr (.inr M)), some (.inl x1)], [], pm_h M σ q y) Φ := by
  refine pe_blk 15 2 ck201 [] (28, [some (.inr (.inr M)), some (.inl x1)], [.inl x1, .inr (.inr M)], pm_h M σ q y) rfl ?_ ?_
  · exact trivial
  · try simp (disch := omega) only [pe_K_wI, pe_K_wR, pm_KM hF, pm_Kh]
    have hrc : pe_K (pm_h M σ q y) M = 9 := by first | assumption | (simp (disch := omega) only [pe_K_wI, pe_K_wR, pm_KM hF, pm_Kh]; done) | (simp (disch := omega) only [pe_K_wI, pe_K_wR, pm_KM hF, pm_Kh]; assumption)
    exact pe_cal 17 ck201 rfl rfl rfl ⟨hrc, by decide⟩ k
theorem b201_31 {d : Nat} {Φ : Option pe_V → pe_H → Prop} {σ : pe_H} {M q : Nat} {y : Nat → Int → Int} (hF : pm_F M σ) {x1 : Int}  (w0 : pe_in x1 := by unfold pe_in; omega) (h0 : 0 ≤ x1 := by first | assumption | omega) (h1 : x1 < 8 := by first | assumption | omega) (k : Φ (some (.inl (y 7 x1))) (pm_h M σ q y)) : pe_X d 201 (31, [some (.inr (.inr M)), some (.inl x1)], [], pm_h M σ q y) Φ := by
  refine pe_blk 18 4 ck201 [pe_K (pm_h M σ q y) M = 9, pe_K (pm_h M σ q y) (pe_R (pm_h M σ q y) M 7) = 10, 0 ≤ (pe_w x1), (pe_w x1) < pe_L (pm_h M σ q y) (pe_R (pm_h M σ q y) M 7)] (37, [some (.inr (.inr M)), some (.inl x1)], [.inl (pe_I (pm_h M σ q y) (pe_R (pm_h M σ q y) M 7) (pe_w x1))], pm_h M σ q y) rfl ?_ ?_
  · first
    | (simp (disch := omega) only [pe_all, pe_wi w0, pe_I_wR, pe_K_wI, pe_K_wR, pe_L_wI, pe_L_wR, pe_R_nej, pe_R_wI, pm_Ik, pm_K7 hF, pm_KM hF, pm_Kh, pm_L7 hF, pm_Lh, pm_R7 hF, pm_Rh, pm_uj, pm_uk, pm_us]; done)
    | (simp (disch := omega) only [pe_all, pe_wi w0, pe_I_wR, pe_K_wI, pe_K_wR, pe_L_wI, pe_L_wR, pe_R_nej, pe_R_wI, pm_Ik, pm_K7 hF, pm_KM hF, pm_Kh, pm_L7 hF, pm_Lh, pm_R7 hF, pm_Rh, pm_uj, pm_uk, pm_us]; (repeat' apply And.intro) <;> first | assumption | omega | decide)
  · try simp (disch := omega) only [pe_wi w0, pe_I_wR, pe_K_wI, pe_K_wR, pe_L_wI, pe_L_wR, pe_R_nej, pe_R_wI, pm_Ik, pm_K7 hF, pm_KM hF, pm_Kh, pm_L7 hF, pm_Lh, pm_R7 hF, pm_Rh, pm_uj, pm_uk, pm_us]
    exact pe_fine 22 ck201 rfl rfl rfl trivial k
-- StepMachinesModel.width(I)I
def T202 : List (Nat × Instr × Nat) := [(0, .aload_n 0, 1), (1, .iconst 0, 1), (2, .putfield 141, 3), (5, .iload_n 1, 1), (6, .i2l, 1), (7, .lconst 1, 1), (8, .ldc2_w 327, 3), (11, .invokestatic 147, 3), (14, .ifCond .ne 5, 3), (17, .iconst (-1), 1), (18, .ireturn, 1), (19, .aload_n 0, 1), (20, .getfield 88, 3), (23, .istore_n 2, 1), (24, .aload_n 0, 1), (25, .iload_n 1, 1), (26, .putfield 88, 3), (29, .iload_n 2, 1), (30, .ireturn, 1)]
theorem ck202 : pe_ctx 202 9 false (some .int) 3 T202 := ⟨rfl, rfl, rfl, rfl, by decide +kernel, by decide, by decide⟩
theorem b202_0 {d : Nat} {Φ : Option pe_V → pe_H → Prop} {σ : pe_H} {M q : Nat} {y : Nat → Int → Int} (hF : pm_F M σ) {x1 : Int} {o2 : Option pe_V}  (w0 : pe_in x1 := by unfold pe_in; omega)  (k : pe_M d 134 [.inr (.inl x1), .inr (.inl 1), .inr (.inl 8)] (pm_h M σ q (pm_u y 0 37 0)) (fun r σ' => pe_X d 202 (14, [some (.inr (.inr M)), some (.inl x1), o2], r.toList ++ [], σ') Φ)) : pe_X d 202 (0, [some (.inr (.inr M)), some (.inl x1), o2], [], pm_h M σ q y) Φ := by
  refine pe_blk 0 7 ck202 [pe_K (pm_h M σ q y) M = 9] (11, [some (.inr (.inr M)), some (.inl x1), o2], [.inr (.inl 8), .inr (.inl 1), .inr (.inl (pe_w x1))], pe_wI (pm_h M σ q y) M 37 0) rfl ?_ ?_
  · first
    | (simp (disch := omega) only [pe_all, pe_wi w0, pe_K_wI, pe_K_wR, pm_KM hF, pm_Kh, pm_wI0]; done)
    | (simp (disch := omega) only [pe_all, pe_wi w0, pe_K_wI, pe_K_wR, pm_KM hF, pm_Kh, pm_wI0]; (repeat' apply And.intro) <;> first | assumption | omega | decide)
  · try simp (disch := omega) only [pe_wi w0, pe_K_wI, pe_K_wR, pm_KM hF, pm_Kh, pm_wI0]
    exact pe_cal 7 ck202 rfl rfl rfl trivial k
theorem b202_14 {d : Nat} {Φ : Option pe_V → pe_H → Prop} {σ : pe_H} {M q : Nat} {y : Nat → Int → Int} (hF : pm_F M σ) {x1 : Int} {o2 : Option pe_V} {s0 : Int}  (w0 : pe_in s0 := by unfold pe_in; omega)  (k1 : ¬ s0 = 0 → pe_X d 202 (19, [some (.inr (.inr M)), some (.inl x1), o2], [], pm_h M σ q y) Φ) (k2 : s0 = 0 → pe_X d 202 (17, [some (.inr (.inr M)), some (.inl x1), o2], [], pm_h M σ q y) Φ) : pe_X d 202 (14, [some (.inr (.inr M)), some (.inl x1), o2], [.inl s0], pm_h M σ q y) Φ := by
  refine pe_blk 8 1 ck202 [] (cond (decide (¬ (pe_w s0) = 0)) 19 17, [some (.inr (.inr M)), some (.inl x1), o2], [], pm_h M σ q y) rfl ?_ ?_
  · exact trivial
  · try simp (disch := omega) only [pe_wi w0]
    exact pe_two' k1 k2
theorem b202_17 {d : Nat} {Φ : Option pe_V → pe_H → Prop} {σ : pe_H} {M q : Nat} {y : Nat → Int → Int} (hF : pm_F M σ) {o1 : Option pe_V} {o2 : Option pe_V}    (k : Φ (some (.inl (-1))) (pm_h M σ q y)) : pe_X d 202 (17, [some (.inr (.inr M)), o1, o2], [], pm_h M σ q y) Φ := by
  refine pe_blk 9 1 ck202 [] (18, [some (.inr (.inr M)), o1, o2], [.inl (-1)], pm_h M σ q y) rfl ?_ ?_
  · exact trivial
  · exact pe_fine 10 ck202 rfl rfl rfl trivial k
theorem b202_19 {d : Nat} {Φ : Option pe_V → pe_H → Prop} {σ : pe_H} {M q : Nat} {y : Nat → Int → Int} (hF : pm_F M σ) {x1 : Int} {o2 : Option pe_V}    (k : Φ (some (.inl (y 0 28))) (pm_h M σ q (pm_u y 0 28 x1))) : pe_X d 202 (19, [some (.inr (.inr M)), some (.inl x1), o2], [], pm_h M σ q y) Φ := by
  refine pe_blk 11 7 ck202 [pe_K (pm_h M σ q y) M = 9, pe_K (pm_h M σ q y) M = 9] (30, [some (.inr (.inr M)), some (.inl x1), some (.inl (pe_I (pm_h M σ q y) M 28))], [.inl (pe_I (pm_h M σ q y) M 28)], pe_wI (pm_h M σ q y) M 28 x1) rfl ?_ ?_
  · first
    | (simp (disch := omega) only [pe_all, pe_I_wR, pe_K_wI, pe_K_wR, pm_I0, pm_KM hF, pm_Kh, pm_uj, pm_uk, pm_us, pm_wI0]; done)
    | (simp (disch := omega) only [pe_all, pe_I_wR, pe_K_wI, pe_K_wR, pm_I0, pm_KM hF, pm_Kh, pm_uj, pm_uk, pm_us, pm_wI0]; (repeat' apply And.intro) <;> first | assumption | omega | decide)
  · try simp (disch := omega) only [pe_I_wR, pe_K_wI, pe_K_wR, pm_I0, pm_KM hF, pm_Kh, pm_uj, pm_uk, pm_us, pm_wI0]
    exact pe_fine 18 ck202 rfl rfl rfl trivial k
-- StepMachinesModel.rounds(I)I
def T203 : List (Nat × Instr × Nat) := [(0, .aload_n 0, 1), (1, .iconst 0, 1), (2, .putfield 141, 3), (5, .iload_n 1, 1), (6, .i2l, 1), (7, .lconst 1, 1), (8, .ldc2_w 309, 3), (11, .invokestatic 147, 3), (14, .ifCond .ne 5, 3), (17, .iconst (-1), 1), (18, .ireturn, 1), (19, .aload_n 0, 1), (20, .getfield 246, 3), (23, .iload_n 1, 1), (24, .iadd, 1), (25, .sipush 999, 3), (28, .if_icmp .le 6, 3), (31, .bipush (-3), 2), (33, .ireturn, 1), (34, .aload_n 0, 1), (35, .iload_n 1, 1), (36, .invokevirtual 311, 3), (39, .aload_n 0, 1), (40, .invokevirtual 391, 3), (43, .invokestatic 394, 3), (46, .ireturn, 1)]
theorem ck203 : pe_ctx 203 9 false (some .int) 2 T203 := ⟨rfl, rfl, rfl, rfl, by decide +kernel, by decide, by decide⟩
theorem b203_0 {d : Nat} {Φ : Option pe_V → pe_H → Prop} {σ : pe_H} {M q : Nat} {y : Nat → Int → Int} (hF : pm_F M σ) {x1 : Int}  (w0 : pe_in x1 := by unfold pe_in; omega)  (k : pe_M d 134 [.inr (.inl x1), .inr (.inl 1), .inr (.inl 60)] (pm_h M σ q (pm_u y 0 37 0)) (fun r σ' => pe_X d 203 (14, [some (.inr (.inr M)), some (.inl x1)], r.toList ++ [], σ') Φ)) : pe_X d 203 (0, [some (.inr (.inr M)), some (.inl x1)], [], pm_h M σ q y) Φ := by
  refine pe_blk 0 7 ck203 [pe_K (pm_h M σ q y) M = 9] (11, [some (.inr (.inr M)), some (.inl x1)], [.inr (.inl 60), .inr (.inl 1), .inr (.inl (pe_w x1))], pe_wI (pm_h M σ q y) M 37 0) rfl ?_ ?_
  · first
    | (simp (disch := omega) only [pe_all, pe_wi w0, pe_K_wI, pe_K_wR, pm_KM hF, pm_Kh, pm_wI0]; done)
    | (simp (disch := omega) only [pe_all, pe_wi w0, pe_K_wI, pe_K_wR, pm_KM hF, pm_Kh, pm_wI0]; (repeat' apply And.intro) <;> first | assumption | omega | decide)
  · try simp (disch := omega) only [pe_wi w0, pe_K_wI, pe_K_wR, pm_KM hF, pm_Kh, pm_wI0]
    exact pe_cal 7 ck203 rfl rfl rfl trivial k
theorem b203_14 {d : Nat} {Φ : Option pe_V → pe_H → Prop} {σ : pe_H} {M q : Nat} {y : Nat → Int → Int} (hF : pm_F M σ) {x1 : Int} {s0 : Int}  (w0 : pe_in s0 := by unfold pe_in; omega)  (k1 : ¬ s0 = 0 → pe_X d 203 (19, [some (.inr (.inr M)), some (.inl x1)], [], pm_h M σ q y) Φ) (k2 : s0 = 0 → pe_X d 203 (17, [some (.inr (.inr M)), some (.inl x1)], [], pm_h M σ q y) Φ) : pe_X d 203 (14, [some (.inr (.inr M)), some (.inl x1)], [.inl s0], pm_h M σ q y) Φ := by
  refine pe_blk 8 1 ck203 [] (cond (decide (¬ (pe_w s0) = 0)) 19 17, [some (.inr (.inr M)), some (.inl x1)], [], pm_h M σ q y) rfl ?_ ?_
  · exact trivial
  · try simp (disch := omega) only [pe_wi w0]
    exact pe_two' k1 k2
theorem b203_17 {d : Nat} {Φ : Option pe_V → pe_H → Prop} {σ : pe_H} {M q : Nat} {y : Nat → Int → Int} (hF : pm_F M σ) {o1 : Option pe_V}    (k : Φ (some (.inl (-1))) (pm_h M σ q y)) : pe_X d 203 (17, [some (.inr (.inr M)), o1], [], pm_h M σ q y) Φ := by
  refine pe_blk 9 1 ck203 [] (18, [some (.inr (.inr M)), o1], [.inl (-1)], pm_h M σ q y) rfl ?_ ?_
  · exact trivial
  · exact pe_fine 10 ck203 rfl rfl rfl trivial k
theorem b203_19 {d : Nat} {Φ : Option pe_V → pe_H → Prop} {σ : pe_H} {M q : Nat} {y : Nat → Int → Int} (hF : pm_F M σ) {x1 : Int}  (w0 : pe_in ((y 0 29) + x1) := by unfold pe_in; omega)  (k1 : ((y 0 29) + x1) ≤ 999 → pe_X d 203 (34, [some (.inr (.inr M)), some (.inl x1)], [], pm_h M σ q y) Φ) (k2 : ¬ (((y 0 29) + x1) ≤ 999) → pe_X d 203 (31, [some (.inr (.inr M)), some (.inl x1)], [], pm_h M σ q y) Φ) : pe_X d 203 (19, [some (.inr (.inr M)), some (.inl x1)], [], pm_h M σ q y) Φ := by
  refine pe_blk 11 6 ck203 [pe_K (pm_h M σ q y) M = 9] (cond (decide ((pe_w ((pe_I (pm_h M σ q y) M 29) + x1)) ≤ (pe_w 999))) 34 31, [some (.inr (.inr M)), some (.inl x1)], [], pm_h M σ q y) rfl ?_ ?_
  · first
    | (simp (disch := omega) only [pe_all, pe_wi w0, pe_wi (x := 999) ⟨by decide, by decide⟩, pe_I_wR, pe_K_wI, pe_K_wR, pm_I0, pm_KM hF, pm_Kh, pm_uj, pm_uk, pm_us]; done)
    | (simp (disch := omega) only [pe_all, pe_wi w0, pe_wi (x := 999) ⟨by decide, by decide⟩, pe_I_wR, pe_K_wI, pe_K_wR, pm_I0, pm_KM hF, pm_Kh, pm_uj, pm_uk, pm_us]; (repeat' apply And.intro) <;> first | assumption | omega | decide)
  · try simp (disch := omega) only [pe_wi w0, pe_wi (x := 999) ⟨by decide, by decide⟩, pe_I_wR, pe_K_wI, pe_K_wR, pm_I0, pm_KM hF, pm_Kh, pm_uj, pm_uk, pm_us]
    exact pe_two k1 k2
theorem b203_31 {d : Nat} {Φ : Option pe_V → pe_H → Prop} {σ : pe_H} {M q : Nat} {y : Nat → Int → Int} (hF : pm_F M σ) {o1 : Option pe_V}    (k : Φ (some (.inl (-3))) (pm_h M σ q y)) : pe_X d 203 (31, [some (.inr (.inr M)), o1], [], pm_h M σ q y) Φ := by
  refine pe_blk 17 1 ck203 [] (33, [some (.inr (.inr M)), o1], [.inl (-3)], pm_h M σ q y) rfl ?_ ?_
  · exact trivial
  · exact pe_fine 18 ck203 rfl rfl rfl trivial k
theorem b203_34 {d : Nat} {Φ : Option pe_V → pe_H → Prop} {σ : pe_H} {M q : Nat} {y : Nat → Int → Int} (hF : pm_F M σ) {x1 : Int}    (k : pe_M d 170 [.inr (.inr M), .inl x1] (pm_h M σ q y) (fun r σ' => pe_X d 203 (39, [some (.inr (.inr M)), some (.inl x1)], r.toList ++ [], σ') Φ)) : pe_X d 203 (34, [some (.inr (.inr M)), some (.inl x1)], [], pm_h M σ q y) Φ := by
  refine pe_blk 19 2 ck203 [] (36, [some (.inr (.inr M)), some (.inl x1)], [.inl x1, .inr (.inr M)], pm_h M σ q y) rfl ?_ ?_
  · exact trivial
  · try simp (disch := omega) only [pe_K_wI, pe_K_wR, pm_KM hF, pm_Kh]
    have hrc : pe_K (pm_h M σ q y) M = 9 := by first | assumption | (simp (disch := omega) only [pe_K_wI, pe_K_wR, pm_KM hF, pm_Kh]; done) | (simp (disch := omega) only [pe_K_wI, pe_K_wR, pm_KM hF, pm_Kh]; assumption)
    exact pe_cal 21 ck203 rfl rfl rfl ⟨hrc, by decide⟩ k
theorem b203_39 {d : Nat} {Φ : Option pe_V → pe_H → Prop} {σ : pe_H} {M q : Nat} {y : Nat → Int → Int} (hF : pm_F M σ) {o1 : Option pe_V}    (k : pe_M d 141 [.inr (.inr M)] (pm_h M σ q y) (fun r σ' => pe_X d 203 (43, [some (.inr (.inr M)), o1], r.toList ++ [], σ') Φ)) : pe_X d 203 (39, [some (.inr (.inr M)), o1], [], pm_h M σ q y) Φ := by
  refine pe_blk 22 1 ck203 [] (40, [some (.inr (.inr M)), o1], [.inr (.inr M)], pm_h M σ q y) rfl ?_ ?_
  · exact trivial
  · try simp (disch := omega) only [pe_K_wI, pe_K_wR, pm_KM hF, pm_Kh]
    have hrc : pe_K (pm_h M σ q y) M = 9 := by first | assumption | (simp (disch := omega) only [pe_K_wI, pe_K_wR, pm_KM hF, pm_Kh]; done) | (simp (disch := omega) only [pe_K_wI, pe_K_wR, pm_KM hF, pm_Kh]; assumption)
    exact pe_cal 23 ck203 rfl rfl rfl ⟨hrc, by decide⟩ k
theorem b203_43 {d : Nat} {Φ : Option pe_V → pe_H → Prop} {σ : pe_H} {M q : Nat} {y : Nat → Int → Int} (hF : pm_F M σ) {o1 : Option pe_V} {s0 : Int}    (k : pe_M d 136 [.inl s0] (pm_h M σ q y) (fun r σ' => pe_X d 203 (46, [some (.inr (.inr M)), o1], r.toList ++ [], σ') Φ)) : pe_X d 203 (43, [some (.inr (.inr M)), o1], [.inl s0], pm_h M σ q y) Φ := by
  exact pe_cal 24 ck203 rfl rfl rfl trivial k
theorem b203_46 {d : Nat} {Φ : Option pe_V → pe_H → Prop} {σ : pe_H} {M q : Nat} {y : Nat → Int → Int} (hF : pm_F M σ) {o1 : Option pe_V} {s0 : Int}    (k : Φ (some (.inl s0)) (pm_h M σ q y)) : pe_X d 203 (46, [some (.inr (.inr M)), o1], [.inl s0], pm_h M σ q y) Φ := by
  exact pe_fine 25 ck203 rfl rfl rfl trivial k
-- StepMachinesModel.then(III)I
def T204 : List (Nat × Instr × Nat) := [(0, .aload_n 0, 1), (1, .iconst 0, 1), (2, .putfield 141, 3), (5, .aload_n 0, 1), (6, .iload_n 1, 1), (7, .invokevirtual 187, 3), (10, .ifCond .eq 27, 3), (13, .iload_n 2, 1), (14, .i2l, 1), (15, .lconst 0, 1), (16, .ldc2_w 309, 3), (19, .invokestatic 147, 3), (22, .ifCond .eq 15, 3), (25, .iload_n 3, 1), (26, .i2l, 1), (27, .lconst 0, 1), (28, .ldc2_w 263, 3), (31, .invokestatic 147, 3), (34, .ifCond .ne 5, 3), (37, .iconst (-1), 1), (38, .ireturn, 1), (39, .aload_n 0, 1), (40, .invokevirtual 338, 3), (43, .aload_n 0, 1), (44, .iload_n 2, 1), (45, .invokevirtual 311, 3), (48, .aload_n 0, 1), (49, .iload_n 1, 1), (50, .iload_n 3, 1), (51, .invokevirtual 384, 3), (54, .istore 4, 2), (56, .aload_n 0, 1), (57, .invokevirtual 344, 3), (60, .iload 4, 2), (62, .ireturn, 1)]
theorem ck204 : pe_ctx 204 9 false (some .int) 5 T204 := ⟨rfl, rfl, rfl, rfl, by decide +kernel, by decide, by decide⟩
theorem b204_0 {d : Nat} {Φ : Option pe_V → pe_H → Prop} {σ : pe_H} {M q : Nat} {y : Nat → Int → Int} (hF : pm_F M σ) {x1 : Int} {x2 : Int} {x3 : Int} {o4 : Option pe_V}    (k : pe_M d 138 [.inr (.inr M), .inl x1] (pm_h M σ q (pm_u y 0 37 0)) (fun r σ' => pe_X d 204 (10, [some (.inr (.inr M)), some (.inl x1), some (.inl x2), some (.inl x3), o4], r.toList ++ [], σ') Φ)) : pe_X d 204 (0, [some (.inr (.inr M)), some (.inl x1), some (.inl x2), some (.inl x3), o4], [], pm_h M σ q y) Φ := by
  refine pe_blk 0 5 ck204 [pe_K (pm_h M σ q y) M = 9] (7, [some (.inr (.inr M)), some (.inl x1), some (.inl x2), some (.inl x3), o4], [.inl x1, .inr (.inr M)], pe_wI (pm_h M σ q y) M 37 0) rfl ?_ ?_
  · first
    | (simp (disch := omega) only [pe_all, pe_K_wI, pe_K_wR, pm_KM hF, pm_Kh, pm_wI0]; done)
    | (simp (disch := omega) only [pe_all, pe_K_wI, pe_K_wR, pm_KM hF, pm_Kh, pm_wI0]; (repeat' apply And.intro) <;> first | assumption | omega | decide)
  · try simp (disch := omega) only [pe_K_wI, pe_K_wR, pm_KM hF, pm_Kh, pm_wI0]
    have hrc : pe_K (pm_h M σ q (pm_u y 0 37 0)) M = 9 := by first | assumption | (simp (disch := omega) only [pe_K_wI, pe_K_wR, pm_KM hF, pm_Kh, pm_wI0]; done) | (simp (disch := omega) only [pe_K_wI, pe_K_wR, pm_KM hF, pm_Kh, pm_wI0]; assumption)
    exact pe_cal 5 ck204 rfl rfl rfl ⟨hrc, by decide⟩ k
theorem b204_10 {d : Nat} {Φ : Option pe_V → pe_H → Prop} {σ : pe_H} {M q : Nat} {y : Nat → Int → Int} (hF : pm_F M σ) {x1 : Int} {x2 : Int} {x3 : Int} {o4 : Option pe_V} {s0 : Int}  (w0 : pe_in s0 := by unfold pe_in; omega)  (k1 : s0 = 0 → pe_X d 204 (37, [some (.inr (.inr M)), some (.inl x1), some (.inl x2), some (.inl x3), o4], [], pm_h M σ q y) Φ) (k2 : ¬ (s0 = 0) → pe_X d 204 (13, [some (.inr (.inr M)), some (.inl x1), some (.inl x2), some (.inl x3), o4], [], pm_h M σ q y) Φ) : pe_X d 204 (10, [some (.inr (.inr M)), some (.inl x1), some (.inl x2), some (.inl x3), o4], [.inl s0], pm_h M σ q y) Φ := by
  refine pe_blk 6 1 ck204 [] (cond (decide ((pe_w s0) = 0)) 37 13, [some (.inr (.inr M)), some (.inl x1), some (.inl x2), some (.inl x3), o4], [], pm_h M σ q y) rfl ?_ ?_
  · exact trivial
  · try simp (disch := omega) only [pe_wi w0]
    exact pe_two k1 k2
theorem b204_13 {d : Nat} {Φ : Option pe_V → pe_H → Prop} {σ : pe_H} {M q : Nat} {y : Nat → Int → Int} (hF : pm_F M σ) {x1 : Int} {x2 : Int} {x3 : Int} {o4 : Option pe_V}  (w0 : pe_in x2 := by unfold pe_in; omega)  (k : pe_M d 134 [.inr (.inl x2), .inr (.inl 0), .inr (.inl 60)] (pm_h M σ q y) (fun r σ' => pe_X d 204 (22, [some (.inr (.inr M)), some (.inl x1), some (.inl x2), some (.inl x3), o4], r.toList ++ [], σ') Φ)) : pe_X d 204 (13, [some (.inr (.inr M)), some (.inl x1), some (.inl x2), some (.inl x3), o4], [], pm_h M σ q y) Φ := by
  refine pe_blk 7 4 ck204 [] (19, [some (.inr (.inr M)), some (.inl x1), some (.inl x2), some (.inl x3), o4], [.inr (.inl 60), .inr (.inl 0), .inr (.inl (pe_w x2))], pm_h M σ q y) rfl ?_ ?_
  · exact trivial
  · try simp (disch := omega) only [pe_wi w0]
    exact pe_cal 11 ck204 rfl rfl rfl trivial k
theorem b204_22 {d : Nat} {Φ : Option pe_V → pe_H → Prop} {σ : pe_H} {M q : Nat} {y : Nat → Int → Int} (hF : pm_F M σ) {x1 : Int} {x2 : Int} {x3 : Int} {o4 : Option pe_V} {s0 : Int}  (w0 : pe_in s0 := by unfold pe_in; omega)  (k1 : s0 = 0 → pe_X d 204 (37, [some (.inr (.inr M)), some (.inl x1), some (.inl x2), some (.inl x3), o4], [], pm_h M σ q y) Φ) (k2 : ¬ (s0 = 0) → pe_X d 204 (25, [some (.inr (.inr M)), some (.inl x1), some (.inl x2), some (.inl x3), o4], [], pm_h M σ q y) Φ) : pe_X d 204 (22, [some (.inr (.inr M)), some (.inl x1), some (.inl x2), some (.inl x3), o4], [.inl s0], pm_h M σ q y) Φ := by
  refine pe_blk 12 1 ck204 [] (cond (decide ((pe_w s0) = 0)) 37 25, [some (.inr (.inr M)), some (.inl x1), some (.inl x2), some (.inl x3), o4], [], pm_h M σ q y) rfl ?_ ?_
  · exact trivial
  · try simp (disch := omega) only [pe_wi w0]
    exact pe_two k1 k2
theorem b204_25 {d : Nat} {Φ : Option pe_V → pe_H → Prop} {σ : pe_H} {M q : Nat} {y : Nat → Int → Int} (hF : pm_F M σ) {x1 : Int} {x2 : Int} {x3 : Int} {o4 : Option pe_V}  (w0 : pe_in x3 := by unfold pe_in; omega)  (k : pe_M d 134 [.inr (.inl x3), .inr (.inl 0), .inr (.inl 4)] (pm_h M σ q y) (fun r σ' => pe_X d 204 (34, [some (.inr (.inr M)), some (.inl x1), some (.inl x2), some (.inl x3), o4], r.toList ++ [], σ') Φ)) : pe_X d 204 (25, [some (.inr (.inr M)), some (.inl x1), some (.inl x2), some (.inl x3), o4], [], pm_h M σ q y) Φ := by
  refine pe_blk 13 4 ck204 [] (31, [some (.inr (.inr M)), some (.inl x1), some (.inl x2), some (.inl x3), o4], [.inr (.inl 4), .inr (.inl 0), .inr (.inl (pe_w x3))], pm_h M σ q y) rfl ?_ ?_
  · exact trivial
  · try simp (disch := omega) only [pe_wi w0]
    exact pe_cal 17 ck204 rfl rfl rfl trivial k
theorem b204_34 {d : Nat} {Φ : Option pe_V → pe_H → Prop} {σ : pe_H} {M q : Nat} {y : Nat → Int → Int} (hF : pm_F M σ) {x1 : Int} {x2 : Int} {x3 : Int} {o4 : Option pe_V} {s0 : Int}  (w0 : pe_in s0 := by unfold pe_in; omega)  (k1 : ¬ s0 = 0 → pe_X d 204 (39, [some (.inr (.inr M)), some (.inl x1), some (.inl x2), some (.inl x3), o4], [], pm_h M σ q y) Φ) (k2 : s0 = 0 → pe_X d 204 (37, [some (.inr (.inr M)), some (.inl x1), some (.inl x2), some (.inl x3), o4], [], pm_h M σ q y) Φ) : pe_X d 204 (34, [some (.inr (.inr M)), some (.inl x1), some (.inl x2), some (.inl x3), o4], [.inl s0], pm_h M σ q y) Φ := by
  refine pe_blk 18 1 ck204 [] (cond (decide (¬ (pe_w s0) = 0)) 39 37, [some (.inr (.inr M)), some (.inl x1), some (.inl x2), some (.inl x3), o4], [], pm_h M σ q y) rfl ?_ ?_
  · exact trivial
  · try simp (disch := omega) only [pe_wi w0]
    exact pe_two' k1 k2
theorem b204_37 {d : Nat} {Φ : Option pe_V → pe_H → Prop} {σ : pe_H} {M q : Nat} {y : Nat → Int → Int} (hF : pm_F M σ) {o1 : Option pe_V} {o2 : Option pe_V} {o3 : Option pe_V} {o4 : Option pe_V}    (k : Φ (some (.inl (-1))) (pm_h M σ q y)) : pe_X d 204 (37, [some (.inr (.inr M)), o1, o2, o3, o4], [], pm_h M σ q y) Φ := by
  refine pe_blk 19 1 ck204 [] (38, [some (.inr (.inr M)), o1, o2, o3, o4], [.inl (-1)], pm_h M σ q y) rfl ?_ ?_
  · exact trivial
  · exact pe_fine 20 ck204 rfl rfl rfl trivial k
theorem b204_39 {d : Nat} {Φ : Option pe_V → pe_H → Prop} {σ : pe_H} {M q : Nat} {y : Nat → Int → Int} (hF : pm_F M σ) {x1 : Int} {x2 : Int} {x3 : Int} {o4 : Option pe_V}    (k : pe_M d 187 [.inr (.inr M)] (pm_h M σ q y) (fun r σ' => pe_X d 204 (43, [some (.inr (.inr M)), some (.inl x1), some (.inl x2), some (.inl x3), o4], r.toList ++ [], σ') Φ)) : pe_X d 204 (39, [some (.inr (.inr M)), some (.inl x1), some (.inl x2), some (.inl x3), o4], [], pm_h M σ q y) Φ := by
  refine pe_blk 21 1 ck204 [] (40, [some (.inr (.inr M)), some (.inl x1), some (.inl x2), some (.inl x3), o4], [.inr (.inr M)], pm_h M σ q y) rfl ?_ ?_
  · exact trivial
  · try simp (disch := omega) only [pe_K_wI, pe_K_wR, pm_KM hF, pm_Kh]
    have hrc : pe_K (pm_h M σ q y) M = 9 := by first | assumption | (simp (disch := omega) only [pe_K_wI, pe_K_wR, pm_KM hF, pm_Kh]; done) | (simp (disch := omega) only [pe_K_wI, pe_K_wR, pm_KM hF, pm_Kh]; assumption)
    exact pe_cal 22 ck204 rfl rfl rfl ⟨hrc, by decide⟩ k
theorem b204_43 {d : Nat} {Φ : Option pe_V → pe_H → Prop} {σ : pe_H} {M q : Nat} {y : Nat → Int → Int} (hF : pm_F M σ) {x1 : Int} {x2 : Int} {x3 : Int} {o4 : Option pe_V}    (k : pe_M d 170 [.inr (.inr M), .inl x2] (pm_h M σ q y) (fun r σ' => pe_X d 204 (48, [some (.inr (.inr M)), some (.inl x1), some (.inl x2), some (.inl x3), o4], r.toList ++ [], σ') Φ)) : pe_X d 204 (43, [some (.inr (.inr M)), some (.inl x1), some (.inl x2), some (.inl x3), o4], [], pm_h M σ q y) Φ := by
  refine pe_blk 23 2 ck204 [] (45, [some (.inr (.inr M)), some (.inl x1), some (.inl x2), some (.inl x3), o4], [.inl x2, .inr (.inr M)], pm_h M σ q y) rfl ?_ ?_
  · exact trivial
  · try simp (disch := omega) only [pe_K_wI, pe_K_wR, pm_KM hF, pm_Kh]
    have hrc : pe_K (pm_h M σ q y) M = 9 := by first | assumption | (simp (disch := omega) only [pe_K_wI, pe_K_wR, pm_KM hF, pm_Kh]; done) | (simp (disch := omega) only [pe_K_wI, pe_K_wR, pm_KM hF, pm_Kh]; assumption)
    exact pe_cal 25 ck204 rfl rfl rfl ⟨hrc, by decide⟩ k
theorem b204_48 {d : Nat} {Φ : Option pe_V → pe_H → Prop} {σ : pe_H} {M q : Nat} {y : Nat → Int → Int} (hF : pm_F M σ) {x1 : Int} {o2 : Option pe_V} {x3 : Int} {o4 : Option pe_V}    (k : pe_M d 195 [.inr (.inr M), .inl x1, .inl x3] (pm_h M σ q y) (fun r σ' => pe_X d 204 (54, [some (.inr (.inr M)), some (.inl x1), o2, some (.inl x3), o4], r.toList ++ [], σ') Φ)) : pe_X d 204 (48, [some (.inr (.inr M)), some (.inl x1), o2, some (.inl x3), o4], [], pm_h M σ q y) Φ := by
  refine pe_blk 26 3 ck204 [] (51, [some (.inr (.inr M)), some (.inl x1), o2, some (.inl x3), o4], [.inl x3, .inl x1, .inr (.inr M)], pm_h M σ q y) rfl ?_ ?_
  · exact trivial
  · try simp (disch := omega) only [pe_K_wI, pe_K_wR, pm_KM hF, pm_Kh]
    have hrc : pe_K (pm_h M σ q y) M = 9 := by first | assumption | (simp (disch := omega) only [pe_K_wI, pe_K_wR, pm_KM hF, pm_Kh]; done) | (simp (disch := omega) only [pe_K_wI, pe_K_wR, pm_KM hF, pm_Kh]; assumption)
    exact pe_cal 29 ck204 rfl rfl rfl ⟨hrc, by decide⟩ k
theorem b204_54 {d : Nat} {Φ : Option pe_V → pe_H → Prop} {σ : pe_H} {M q : Nat} {y : Nat → Int → Int} (hF : pm_F M σ) {o1 : Option pe_V} {o2 : Option pe_V} {o3 : Option pe_V} {o4 : Option pe_V} {s0 : Int}    (k : pe_M d 188 [.inr (.inr M)] (pm_h M σ q y) (fun r σ' => pe_X d 204 (60, [some (.inr (.inr M)), o1, o2, pe_nl o3, some (.inl s0)], r.toList ++ [], σ') Φ)) : pe_X d 204 (54, [some (.inr (.inr M)), o1, o2, o3, o4], [.inl s0], pm_h M σ q y) Φ := by
  refine pe_blk 30 2 ck204 [] (57, [some (.inr (.inr M)), o1, o2, pe_nl o3, some (.inl s0)], [.inr (.inr M)], pm_h M σ q y) rfl ?_ ?_
  · exact trivial
  · try simp (disch := omega) only [pe_K_wI, pe_K_wR, pm_KM hF, pm_Kh]
    have hrc : pe_K (pm_h M σ q y) M = 9 := by first | assumption | (simp (disch := omega) only [pe_K_wI, pe_K_wR, pm_KM hF, pm_Kh]; done) | (simp (disch := omega) only [pe_K_wI, pe_K_wR, pm_KM hF, pm_Kh]; assumption)
    exact pe_cal 32 ck204 rfl rfl rfl ⟨hrc, by decide⟩ k
theorem b204_60 {d : Nat} {Φ : Option pe_V → pe_H → Prop} {σ : pe_H} {M q : Nat} {y : Nat → Int → Int} (hF : pm_F M σ) {o1 : Option pe_V} {o2 : Option pe_V} {o3 : Option pe_V} {x4 : Int}    (k : Φ (some (.inl x4)) (pm_h M σ q y)) : pe_X d 204 (60, [some (.inr (.inr M)), o1, o2, o3, some (.inl x4)], [], pm_h M σ q y) Φ := by
  refine pe_blk 33 1 ck204 [] (62, [some (.inr (.inr M)), o1, o2, o3, some (.inl x4)], [.inl x4], pm_h M σ q y) rfl ?_ ?_
  · exact trivial
  · exact pe_fine 34 ck204 rfl rfl rfl trivial k
-- StepMachinesModel.ends(I)I
def T205 : List (Nat × Instr × Nat) := [(0, .aload_n 0, 1), (1, .iconst 0, 1), (2, .putfield 141, 3), (5, .aload_n 0, 1), (6, .iload_n 1, 1), (7, .invokevirtual 187, 3), (10, .ifCond .ne 5, 3), (13, .iconst (-1), 1), (14, .ireturn, 1), (15, .bipush (-4), 2), (17, .istore_n 2, 1), (18, .aload_n 0, 1), (19, .invokevirtual 338, 3), (22, .iconst 0, 1), (23, .istore_n 3, 1), (24, .iload_n 3, 1), (25, .bipush 60, 2), (27, .if_icmp .gt 33, 3), (30, .iload_n 2, 1), (31, .ifCond .ge 29, 3), (34, .aload_n 0, 1), (35, .iload_n 1, 1), (36, .invokevirtual 151, 3), (39, .ifCond .eq 7, 3), (42, .iload_n 3, 1), (43, .goto 5, 3), (46, .bipush (-4), 2), (48, .istore_n 2, 1), (49, .aload_n 0, 1), (50, .iconst 0, 1), (51, .invokevirtual 259, 3), (54, .iinc 3 1, 3), (57, .goto (-33), 3), (60, .aload_n 0, 1), (61, .invokevirtual 344, 3), (64, .iload_n 2, 1), (65, .ireturn, 1)]
theorem ck205 : pe_ctx 205 9 false (some .int) 4 T205 := ⟨rfl, rfl, rfl, rfl, by decide +kernel, by decide, by decide⟩
theorem b205_0 {d : Nat} {Φ : Option pe_V → pe_H → Prop} {σ : pe_H} {M q : Nat} {y : Nat → Int → Int} (hF : pm_F M σ) {x1 : Int} {o2 : Option pe_V} {o3 : Option pe_V}    (k : pe_M d 138 [.inr (.inr M), .inl x1] (pm_h M σ q (pm_u y 0 37 0)) (fun r σ' => pe_X d 205 (10, [some (.inr (.inr M)), some (.inl x1), o2, o3], r.toList ++ [], σ') Φ)) : pe_X d 205 (0, [some (.inr (.inr M)), some (.inl x1), o2, o3], [], pm_h M σ q y) Φ := by
  refine pe_blk 0 5 ck205 [pe_K (pm_h M σ q y) M = 9] (7, [some (.inr (.inr M)), some (.inl x1), o2, o3], [.inl x1, .inr (.inr M)], pe_wI (pm_h M σ q y) M 37 0) rfl ?_ ?_
  · first
    | (simp (disch := omega) only [pe_all, pe_K_wI, pe_K_wR, pm_KM hF, pm_Kh, pm_wI0]; done)
    | (simp (disch := omega) only [pe_all, pe_K_wI, pe_K_wR, pm_KM hF, pm_Kh, pm_wI0]; (repeat' apply And.intro) <;> first | assumption | omega | decide)
  · try simp (disch := omega) only [pe_K_wI, pe_K_wR, pm_KM hF, pm_Kh, pm_wI0]
    have hrc : pe_K (pm_h M σ q (pm_u y 0 37 0)) M = 9 := by first | assumption | (simp (disch := omega) only [pe_K_wI, pe_K_wR, pm_KM hF, pm_Kh, pm_wI0]; done) | (simp (disch := omega) only [pe_K_wI, pe_K_wR, pm_KM hF, pm_Kh, pm_wI0]; assumption)
    exact pe_cal 5 ck205 rfl rfl rfl ⟨hrc, by decide⟩ k
theorem b205_10 {d : Nat} {Φ : Option pe_V → pe_H → Prop} {σ : pe_H} {M q : Nat} {y : Nat → Int → Int} (hF : pm_F M σ) {x1 : Int} {o2 : Option pe_V} {o3 : Option pe_V} {s0 : Int}  (w0 : pe_in s0 := by unfold pe_in; omega)  (k1 : ¬ s0 = 0 → pe_X d 205 (15, [some (.inr (.inr M)), some (.inl x1), o2, o3], [], pm_h M σ q y) Φ) (k2 : s0 = 0 → pe_X d 205 (13, [some (.inr (.inr M)), some (.inl x1), o2, o3], [], pm_h M σ q y) Φ) : pe_X d 205 (10, [some (.inr (.inr M)), some (.inl x1), o2, o3], [.inl s0], pm_h M σ q y) Φ := by
  refine pe_blk 6 1 ck205 [] (cond (decide (¬ (pe_w s0) = 0)) 15 13, [some (.inr (.inr M)), some (.inl x1), o2, o3], [], pm_h M σ q y) rfl ?_ ?_
  · exact trivial
  · try simp (disch := omega) only [pe_wi w0]
    exact pe_two' k1 k2
theorem b205_13 {d : Nat} {Φ : Option pe_V → pe_H → Prop} {σ : pe_H} {M q : Nat} {y : Nat → Int → Int} (hF : pm_F M σ) {o1 : Option pe_V} {o2 : Option pe_V} {o3 : Option pe_V}    (k : Φ (some (.inl (-1))) (pm_h M σ q y)) : pe_X d 205 (13, [some (.inr (.inr M)), o1, o2, o3], [], pm_h M σ q y) Φ := by
  refine pe_blk 7 1 ck205 [] (14, [some (.inr (.inr M)), o1, o2, o3], [.inl (-1)], pm_h M σ q y) rfl ?_ ?_
  · exact trivial
  · exact pe_fine 8 ck205 rfl rfl rfl trivial k
theorem b205_15 {d : Nat} {Φ : Option pe_V → pe_H → Prop} {σ : pe_H} {M q : Nat} {y : Nat → Int → Int} (hF : pm_F M σ) {x1 : Int} {o2 : Option pe_V} {o3 : Option pe_V}    (k : pe_M d 187 [.inr (.inr M)] (pm_h M σ q y) (fun r σ' => pe_X d 205 (22, [some (.inr (.inr M)), some (.inl x1), some (.inl (-4)), o3], r.toList ++ [], σ') Φ)) : pe_X d 205 (15, [some (.inr (.inr M)), some (.inl x1), o2, o3], [], pm_h M σ q y) Φ := by
  refine pe_blk 9 3 ck205 [] (19, [some (.inr (.inr M)), some (.inl x1), some (.inl (-4)), o3], [.inr (.inr M)], pm_h M σ q y) rfl ?_ ?_
  · exact trivial
  · try simp (disch := omega) only [pe_K_wI, pe_K_wR, pm_KM hF, pm_Kh]
    have hrc : pe_K (pm_h M σ q y) M = 9 := by first | assumption | (simp (disch := omega) only [pe_K_wI, pe_K_wR, pm_KM hF, pm_Kh]; done) | (simp (disch := omega) only [pe_K_wI, pe_K_wR, pm_KM hF, pm_Kh]; assumption)
    exact pe_cal 12 ck205 rfl rfl rfl ⟨hrc, by decide⟩ k
theorem b205_22 {d : Nat} {Φ : Option pe_V → pe_H → Prop} {σ : pe_H} {M q : Nat} {y : Nat → Int → Int} (hF : pm_F M σ) {x1 : Int} {x2 : Int} {o3 : Option pe_V}    (k : pe_X d 205 (24, [some (.inr (.inr M)), some (.inl x1), some (.inl x2), some (.inl 0)], [], pm_h M σ q y) Φ) : pe_X d 205 (22, [some (.inr (.inr M)), some (.inl x1), some (.inl x2), o3], [], pm_h M σ q y) Φ := by
  refine pe_blk 13 2 ck205 [] (24, [some (.inr (.inr M)), some (.inl x1), some (.inl x2), some (.inl 0)], [], pm_h M σ q y) rfl ?_ ?_
  · exact trivial
  · exact k
theorem b205_24 {d : Nat} {Φ : Option pe_V → pe_H → Prop} {σ : pe_H} {M q : Nat} {y : Nat → Int → Int} (hF : pm_F M σ) {x1 : Int} {x2 : Int} {x3 : Int}  (w0 : pe_in x3 := by unfold pe_in; omega)  (k1 : 60 < x3 → pe_X d 205 (60, [some (.inr (.inr M)), some (.inl x1), some (.inl x2), some (.inl x3)], [], pm_h M σ q y) Φ) (k2 : ¬ (60 < x3) → pe_X d 205 (30, [some (.inr (.inr M)), some (.inl x1), some (.inl x2), some (.inl x3)], [], pm_h M σ q y) Φ) : pe_X d 205 (24, [some (.inr (.inr M)), some (.inl x1), some (.inl x2), some (.inl x3)], [], pm_h M σ q y) Φ := by
  refine pe_blk 15 3 ck205 [] (cond (decide ((pe_w 60) < (pe_w x3))) 60 30, [some (.inr (.inr M)), some (.inl x1), some (.inl x2), some (.inl x3)], [], pm_h M σ q y) rfl ?_ ?_
  · exact trivial
  · try simp (disch := omega) only [pe_wi w0, pe_wi (x := 60) ⟨by decide, by decide⟩]
    exact pe_two k1 k2
theorem b205_30 {d : Nat} {Φ : Option pe_V → pe_H → Prop} {σ : pe_H} {M q : Nat} {y : Nat → Int → Int} (hF : pm_F M σ) {x1 : Int} {x2 : Int} {x3 : Int}  (w0 : pe_in x2 := by unfold pe_in; omega)  (k1 : 0 ≤ x2 → pe_X d 205 (60, [some (.inr (.inr M)), some (.inl x1), some (.inl x2), some (.inl x3)], [], pm_h M σ q y) Φ) (k2 : ¬ (0 ≤ x2) → pe_X d 205 (34, [some (.inr (.inr M)), some (.inl x1), some (.inl x2), some (.inl x3)], [], pm_h M σ q y) Φ) : pe_X d 205 (30, [some (.inr (.inr M)), some (.inl x1), some (.inl x2), some (.inl x3)], [], pm_h M σ q y) Φ := by
  refine pe_blk 18 2 ck205 [] (cond (decide (0 ≤ (pe_w x2))) 60 34, [some (.inr (.inr M)), some (.inl x1), some (.inl x2), some (.inl x3)], [], pm_h M σ q y) rfl ?_ ?_
  · exact trivial
  · try simp (disch := omega) only [pe_wi w0]
    exact pe_two k1 k2
theorem b205_34 {d : Nat} {Φ : Option pe_V → pe_H → Prop} {σ : pe_H} {M q : Nat} {y : Nat → Int → Int} (hF : pm_F M σ) {x1 : Int} {o2 : Option pe_V} {x3 : Int}    (k : pe_M d 139 [.inr (.inr M), .inl x1] (pm_h M σ q y) (fun r σ' => pe_X d 205 (39, [some (.inr (.inr M)), some (.inl x1), o2, some (.inl x3)], r.toList ++ [], σ') Φ)) : pe_X d 205 (34, [some (.inr (.inr M)), some (.inl x1), o2, some (.inl x3)], [], pm_h M σ q y) Φ := by
  refine pe_blk 20 2 ck205 [] (36, [some (.inr (.inr M)), some (.inl x1), o2, some (.inl x3)], [.inl x1, .inr (.inr M)], pm_h M σ q y) rfl ?_ ?_
  · exact trivial
  · try simp (disch := omega) only [pe_K_wI, pe_K_wR, pm_KM hF, pm_Kh]
    have hrc : pe_K (pm_h M σ q y) M = 9 := by first | assumption | (simp (disch := omega) only [pe_K_wI, pe_K_wR, pm_KM hF, pm_Kh]; done) | (simp (disch := omega) only [pe_K_wI, pe_K_wR, pm_KM hF, pm_Kh]; assumption)
    exact pe_cal 22 ck205 rfl rfl rfl ⟨hrc, by decide⟩ k
theorem b205_39 {d : Nat} {Φ : Option pe_V → pe_H → Prop} {σ : pe_H} {M q : Nat} {y : Nat → Int → Int} (hF : pm_F M σ) {x1 : Int} {o2 : Option pe_V} {x3 : Int} {s0 : Int}  (w0 : pe_in s0 := by unfold pe_in; omega)  (k1 : s0 = 0 → pe_X d 205 (46, [some (.inr (.inr M)), some (.inl x1), o2, some (.inl x3)], [], pm_h M σ q y) Φ) (k2 : ¬ (s0 = 0) → pe_X d 205 (42, [some (.inr (.inr M)), some (.inl x1), o2, some (.inl x3)], [], pm_h M σ q y) Φ) : pe_X d 205 (39, [some (.inr (.inr M)), some (.inl x1), o2, some (.inl x3)], [.inl s0], pm_h M σ q y) Φ := by
  refine pe_blk 23 1 ck205 [] (cond (decide ((pe_w s0) = 0)) 46 42, [some (.inr (.inr M)), some (.inl x1), o2, some (.inl x3)], [], pm_h M σ q y) rfl ?_ ?_
  · exact trivial
  · try simp (disch := omega) only [pe_wi w0]
    exact pe_two k1 k2
theorem b205_42 {d : Nat} {Φ : Option pe_V → pe_H → Prop} {σ : pe_H} {M q : Nat} {y : Nat → Int → Int} (hF : pm_F M σ) {x1 : Int} {o2 : Option pe_V} {x3 : Int}    (k : pe_X d 205 (48, [some (.inr (.inr M)), some (.inl x1), o2, some (.inl x3)], [.inl x3], pm_h M σ q y) Φ) : pe_X d 205 (42, [some (.inr (.inr M)), some (.inl x1), o2, some (.inl x3)], [], pm_h M σ q y) Φ := by
  refine pe_blk 24 2 ck205 [] (48, [some (.inr (.inr M)), some (.inl x1), o2, some (.inl x3)], [.inl x3], pm_h M σ q y) rfl ?_ ?_
  · exact trivial
  · exact k
theorem b205_46 {d : Nat} {Φ : Option pe_V → pe_H → Prop} {σ : pe_H} {M q : Nat} {y : Nat → Int → Int} (hF : pm_F M σ) {x1 : Int} {o2 : Option pe_V} {x3 : Int}    (k : pe_X d 205 (48, [some (.inr (.inr M)), some (.inl x1), o2, some (.inl x3)], [.inl (-4)], pm_h M σ q y) Φ) : pe_X d 205 (46, [some (.inr (.inr M)), some (.inl x1), o2, some (.inl x3)], [], pm_h M σ q y) Φ := by
  refine pe_blk 26 1 ck205 [] (48, [some (.inr (.inr M)), some (.inl x1), o2, some (.inl x3)], [.inl (-4)], pm_h M σ q y) rfl ?_ ?_
  · exact trivial
  · exact k
theorem b205_48 {d : Nat} {Φ : Option pe_V → pe_H → Prop} {σ : pe_H} {M q : Nat} {y : Nat → Int → Int} (hF : pm_F M σ) {x1 : Int} {o2 : Option pe_V} {x3 : Int} {s0 : Int}    (k : pe_M d 169 [.inr (.inr M), .inl 0] (pm_h M σ q y) (fun r σ' => pe_X d 205 (54, [some (.inr (.inr M)), some (.inl x1), some (.inl s0), some (.inl x3)], r.toList ++ [], σ') Φ)) : pe_X d 205 (48, [some (.inr (.inr M)), some (.inl x1), o2, some (.inl x3)], [.inl s0], pm_h M σ q y) Φ := by
  refine pe_blk 27 3 ck205 [] (51, [some (.inr (.inr M)), some (.inl x1), some (.inl s0), some (.inl x3)], [.inl 0, .inr (.inr M)], pm_h M σ q y) rfl ?_ ?_
  · exact trivial
  · try simp (disch := omega) only [pe_K_wI, pe_K_wR, pm_KM hF, pm_Kh]
    have hrc : pe_K (pm_h M σ q y) M = 9 := by first | assumption | (simp (disch := omega) only [pe_K_wI, pe_K_wR, pm_KM hF, pm_Kh]; done) | (simp (disch := omega) only [pe_K_wI, pe_K_wR, pm_KM hF, pm_Kh]; assumption)
    exact pe_cal 30 ck205 rfl rfl rfl ⟨hrc, by decide⟩ k
theorem b205_54 {d : Nat} {Φ : Option pe_V → pe_H → Prop} {σ : pe_H} {M q : Nat} {y : Nat → Int → Int} (hF : pm_F M σ) {x1 : Int} {x2 : Int} {x3 : Int}    (k : pe_X d 205 (24, [some (.inr (.inr M)), some (.inl x1), some (.inl x2), some (.inl (x3 + 1))], [], pm_h M σ q y) Φ) : pe_X d 205 (54, [some (.inr (.inr M)), some (.inl x1), some (.inl x2), some (.inl x3)], [], pm_h M σ q y) Φ := by
  refine pe_blk 31 2 ck205 [] (24, [some (.inr (.inr M)), some (.inl x1), some (.inl x2), some (.inl (x3 + 1))], [], pm_h M σ q y) rfl ?_ ?_
  · exact trivial
  · exact k
theorem b205_60 {d : Nat} {Φ : Option pe_V → pe_H → Prop} {σ : pe_H} {M q : Nat} {y : Nat → Int → Int} (hF : pm_F M σ) {o1 : Option pe_V} {x2 : Int} {o3 : Option pe_V}    (k : pe_M d 188 [.inr (.inr M)] (pm_h M σ q y) (fun r σ' => pe_X d 205 (64, [some (.inr (.inr M)), o1, some (.inl x2), o3], r.toList ++ [], σ') Φ)) : pe_X d 205 (60, [some (.inr (.inr M)), o1, some (.inl x2), o3], [], pm_h M σ q y) Φ := by
  refine pe_blk 33 1 ck205 [] (61, [some (.inr (.inr M)), o1, some (.inl x2), o3], [.inr (.inr M)], pm_h M σ q y) rfl ?_ ?_
  · exact trivial
  · try simp (disch := omega) only [pe_K_wI, pe_K_wR, pm_KM hF, pm_Kh]
    have hrc : pe_K (pm_h M σ q y) M = 9 := by first | assumption | (simp (disch := omega) only [pe_K_wI, pe_K_wR, pm_KM hF, pm_Kh]; done) | (simp (disch := omega) only [pe_K_wI, pe_K_wR, pm_KM hF, pm_Kh]; assumption)
    exact pe_cal 34 ck205 rfl rfl rfl ⟨hrc, by decide⟩ k
theorem b205_64 {d : Nat} {Φ : Option pe_V → pe_H → Prop} {σ : pe_H} {M q : Nat} {y : Nat → Int → Int} (hF : pm_F M σ) {o1 : Option pe_V} {x2 : Int} {o3 : Option pe_V}    (k : Φ (some (.inl x2)) (pm_h M σ q y)) : pe_X d 205 (64, [some (.inr (.inr M)), o1, some (.inl x2), o3], [], pm_h M σ q y) Φ := by
  refine pe_blk 35 1 ck205 [] (65, [some (.inr (.inr M)), o1, some (.inl x2), o3], [.inl x2], pm_h M σ q y) rfl ?_ ?_
  · exact trivial
  · exact pe_fine 36 ck205 rfl rfl rfl trivial k
-- StepMachinesModel.anyFree()Z
def T206 : List (Nat × Instr × Nat) := [(0, .iconst 0, 1), (1, .istore_n 1, 1), (2, .iconst 0, 1), (3, .istore_n 2, 1), (4, .iload_n 2, 1), (5, .aload_n 0, 1), (6, .getfield 144, 3), (9, .if_icmp .ge 27, 3), (12, .iload_n 1, 1), (13, .ifCond .ne 11, 3), (16, .aload_n 0, 1), (17, .iload_n 2, 1), (18, .invokevirtual 249, 3), (21, .ifCond .eq 7, 3), (24, .iconst 1, 1), (25, .goto 4, 3), (28, .iconst 0, 1), (29, .istore_n 1, 1), (30, .iinc 2 1, 3), (33, .goto (-29), 3), (36, .iload_n 1, 1), (37, .ireturn, 1)]
theorem ck206 : pe_ctx 206 9 false (some .boolean) 3 T206 := ⟨rfl, rfl, rfl, rfl, by decide +kernel, by decide, by decide⟩
theorem b206_0 {d : Nat} {Φ : Option pe_V → pe_H → Prop} {σ : pe_H} {M q : Nat} {y : Nat → Int → Int} (hF : pm_F M σ) {o1 : Option pe_V} {o2 : Option pe_V}    (k : pe_X d 206 (4, [some (.inr (.inr M)), some (.inl 0), some (.inl 0)], [], pm_h M σ q y) Φ) : pe_X d 206 (0, [some (.inr (.inr M)), o1, o2], [], pm_h M σ q y) Φ := by
  refine pe_blk 0 4 ck206 [] (4, [some (.inr (.inr M)), some (.inl 0), some (.inl 0)], [], pm_h M σ q y) rfl ?_ ?_
  · exact trivial
  · exact k
theorem b206_4 {d : Nat} {Φ : Option pe_V → pe_H → Prop} {σ : pe_H} {M q : Nat} {y : Nat → Int → Int} (hF : pm_F M σ) {x1 : Int} {x2 : Int}  (w0 : pe_in (y 0 3) := by unfold pe_in; omega) (w1 : pe_in x2 := by unfold pe_in; omega)  (k1 : (y 0 3) ≤ x2 → pe_X d 206 (36, [some (.inr (.inr M)), some (.inl x1), some (.inl x2)], [], pm_h M σ q y) Φ) (k2 : ¬ ((y 0 3) ≤ x2) → pe_X d 206 (12, [some (.inr (.inr M)), some (.inl x1), some (.inl x2)], [], pm_h M σ q y) Φ) : pe_X d 206 (4, [some (.inr (.inr M)), some (.inl x1), some (.inl x2)], [], pm_h M σ q y) Φ := by
  refine pe_blk 4 4 ck206 [pe_K (pm_h M σ q y) M = 9] (cond (decide ((pe_w (pe_I (pm_h M σ q y) M 3)) ≤ (pe_w x2))) 36 12, [some (.inr (.inr M)), some (.inl x1), some (.inl x2)], [], pm_h M σ q y) rfl ?_ ?_
  · first
    | (simp (disch := omega) only [pe_all, pe_wi w0, pe_wi w1, pe_I_wR, pe_K_wI, pe_K_wR, pm_I0, pm_KM hF, pm_Kh, pm_uj, pm_uk, pm_us]; done)
    | (simp (disch := omega) only [pe_all, pe_wi w0, pe_wi w1, pe_I_wR, pe_K_wI, pe_K_wR, pm_I0, pm_KM hF, pm_Kh, pm_uj, pm_uk, pm_us]; (repeat' apply And.intro) <;> first | assumption | omega | decide)
  · try simp (disch := omega) only [pe_wi w0, pe_wi w1, pe_I_wR, pe_K_wI, pe_K_wR, pm_I0, pm_KM hF, pm_Kh, pm_uj, pm_uk, pm_us]
    exact pe_two k1 k2
theorem b206_12 {d : Nat} {Φ : Option pe_V → pe_H → Prop} {σ : pe_H} {M q : Nat} {y : Nat → Int → Int} (hF : pm_F M σ) {x1 : Int} {x2 : Int}  (w0 : pe_in x1 := by unfold pe_in; omega)  (k1 : ¬ x1 = 0 → pe_X d 206 (24, [some (.inr (.inr M)), some (.inl x1), some (.inl x2)], [], pm_h M σ q y) Φ) (k2 : x1 = 0 → pe_X d 206 (16, [some (.inr (.inr M)), some (.inl x1), some (.inl x2)], [], pm_h M σ q y) Φ) : pe_X d 206 (12, [some (.inr (.inr M)), some (.inl x1), some (.inl x2)], [], pm_h M σ q y) Φ := by
  refine pe_blk 8 2 ck206 [] (cond (decide (¬ (pe_w x1) = 0)) 24 16, [some (.inr (.inr M)), some (.inl x1), some (.inl x2)], [], pm_h M σ q y) rfl ?_ ?_
  · exact trivial
  · try simp (disch := omega) only [pe_wi w0]
    exact pe_two' k1 k2
theorem b206_16 {d : Nat} {Φ : Option pe_V → pe_H → Prop} {σ : pe_H} {M q : Nat} {y : Nat → Int → Int} (hF : pm_F M σ) {o1 : Option pe_V} {x2 : Int}    (k : pe_M d 140 [.inr (.inr M), .inl x2] (pm_h M σ q y) (fun r σ' => pe_X d 206 (21, [some (.inr (.inr M)), o1, some (.inl x2)], r.toList ++ [], σ') Φ)) : pe_X d 206 (16, [some (.inr (.inr M)), o1, some (.inl x2)], [], pm_h M σ q y) Φ := by
  refine pe_blk 10 2 ck206 [] (18, [some (.inr (.inr M)), o1, some (.inl x2)], [.inl x2, .inr (.inr M)], pm_h M σ q y) rfl ?_ ?_
  · exact trivial
  · try simp (disch := omega) only [pe_K_wI, pe_K_wR, pm_KM hF, pm_Kh]
    have hrc : pe_K (pm_h M σ q y) M = 9 := by first | assumption | (simp (disch := omega) only [pe_K_wI, pe_K_wR, pm_KM hF, pm_Kh]; done) | (simp (disch := omega) only [pe_K_wI, pe_K_wR, pm_KM hF, pm_Kh]; assumption)
    exact pe_cal 12 ck206 rfl rfl rfl ⟨hrc, by decide⟩ k
theorem b206_21 {d : Nat} {Φ : Option pe_V → pe_H → Prop} {σ : pe_H} {M q : Nat} {y : Nat → Int → Int} (hF : pm_F M σ) {o1 : Option pe_V} {x2 : Int} {s0 : Int}  (w0 : pe_in s0 := by unfold pe_in; omega)  (k1 : s0 = 0 → pe_X d 206 (28, [some (.inr (.inr M)), o1, some (.inl x2)], [], pm_h M σ q y) Φ) (k2 : ¬ (s0 = 0) → pe_X d 206 (24, [some (.inr (.inr M)), o1, some (.inl x2)], [], pm_h M σ q y) Φ) : pe_X d 206 (21, [some (.inr (.inr M)), o1, some (.inl x2)], [.inl s0], pm_h M σ q y) Φ := by
  refine pe_blk 13 1 ck206 [] (cond (decide ((pe_w s0) = 0)) 28 24, [some (.inr (.inr M)), o1, some (.inl x2)], [], pm_h M σ q y) rfl ?_ ?_
  · exact trivial
  · try simp (disch := omega) only [pe_wi w0]
    exact pe_two k1 k2
theorem b206_24 {d : Nat} {Φ : Option pe_V → pe_H → Prop} {σ : pe_H} {M q : Nat} {y : Nat → Int → Int} (hF : pm_F M σ) {o1 : Option pe_V} {x2 : Int}    (k : pe_X d 206 (29, [some (.inr (.inr M)), o1, some (.inl x2)], [.inl 1], pm_h M σ q y) Φ) : pe_X d 206 (24, [some (.inr (.inr M)), o1, some (.inl x2)], [], pm_h M σ q y) Φ := by
  refine pe_blk 14 2 ck206 [] (29, [some (.inr (.inr M)), o1, some (.inl x2)], [.inl 1], pm_h M σ q y) rfl ?_ ?_
  · exact trivial
  · exact k
theorem b206_28 {d : Nat} {Φ : Option pe_V → pe_H → Prop} {σ : pe_H} {M q : Nat} {y : Nat → Int → Int} (hF : pm_F M σ) {o1 : Option pe_V} {x2 : Int}    (k : pe_X d 206 (29, [some (.inr (.inr M)), o1, some (.inl x2)], [.inl 0], pm_h M σ q y) Φ) : pe_X d 206 (28, [some (.inr (.inr M)), o1, some (.inl x2)], [], pm_h M σ q y) Φ := by
  refine pe_blk 16 1 ck206 [] (29, [some (.inr (.inr M)), o1, some (.inl x2)], [.inl 0], pm_h M σ q y) rfl ?_ ?_
  · exact trivial
  · exact k
theorem b206_29 {d : Nat} {Φ : Option pe_V → pe_H → Prop} {σ : pe_H} {M q : Nat} {y : Nat → Int → Int} (hF : pm_F M σ) {o1 : Option pe_V} {x2 : Int} {s0 : Int}    (k : pe_X d 206 (4, [some (.inr (.inr M)), some (.inl s0), some (.inl (x2 + 1))], [], pm_h M σ q y) Φ) : pe_X d 206 (29, [some (.inr (.inr M)), o1, some (.inl x2)], [.inl s0], pm_h M σ q y) Φ := by
  refine pe_blk 17 3 ck206 [] (4, [some (.inr (.inr M)), some (.inl s0), some (.inl (x2 + 1))], [], pm_h M σ q y) rfl ?_ ?_
  · exact trivial
  · exact k
theorem b206_36 {d : Nat} {Φ : Option pe_V → pe_H → Prop} {σ : pe_H} {M q : Nat} {y : Nat → Int → Int} (hF : pm_F M σ) {x1 : Int} {o2 : Option pe_V}   (h0 : x1 = 0 ∨ x1 = 1 := by first | assumption | omega) (k : Φ (some (.inl x1)) (pm_h M σ q y)) : pe_X d 206 (36, [some (.inr (.inr M)), some (.inl x1), o2], [], pm_h M σ q y) Φ := by
  refine pe_blk 20 1 ck206 [] (37, [some (.inr (.inr M)), some (.inl x1), o2], [.inl x1], pm_h M σ q y) rfl ?_ ?_
  · exact trivial
  · exact pe_fine 21 ck206 rfl rfl rfl h0 k
-- StepMachinesModel.stuck(I)I
def T207 : List (Nat × Instr × Nat) := [(0, .aload_n 0, 1), (1, .iconst 0, 1), (2, .putfield 141, 3), (5, .iload_n 1, 1), (6, .i2l, 1), (7, .lconst 0, 1), (8, .lconst 1, 1), (9, .invokestatic 147, 3), (12, .ifCond .ne 5, 3), (15, .iconst (-1), 1), (16, .ireturn, 1), (17, .bipush (-4), 2), (19, .istore_n 2, 1), (20, .bipush (-4), 2), (22, .istore_n 3, 1), (23, .aload_n 0, 1), (24, .invokevirtual 338, 3), (27, .iconst 0, 1), (28, .istore 4, 2), (30, .iload 4, 2), (32, .bipush 60, 2), (34, .if_icmp .gt 61, 3), (37, .iload_n 2, 1), (38, .ifCond .ge 57, 3), (41, .aload_n 0, 1), (42, .invokevirtual 397, 3), (45, .ifCond .eq 8, 3), (48, .bipush (-4), 2), (50, .goto 5, 3), (53, .iload 4, 2), (55, .istore_n 2, 1), (56, .aload_n 0, 1), (57, .invokevirtual 397, 3), (60, .ifCond .eq 8, 3), (63, .bipush (-4), 2), (65, .goto 18, 3), (68, .iconst 1, 1), (69, .aload_n 0, 1), (70, .getfield 144, 3), (73, .ishl, 1), (74, .iconst 1, 1), (75, .isub, 1), (76, .aload_n 0, 1), (77, .invokevirtual 391, 3), (80, .iconst (-1), 1), (81, .ixor, 1), (82, .iand, 1), (83, .istore_n 3, 1), (84, .aload_n 0, 1), (85, .iconst 0, 1), (86, .invokevirtual 259, 3), (89, .iinc 4 1, 3), (92, .goto (-62), 3), (95, .aload_n 0, 1), (96, .invokevirtual 344, 3), (99, .iload_n 1, 1), (100, .ifCond .ne 7, 3), (103, .iload_n 2, 1), (104, .goto 4, 3), (107, .iload_n 3, 1), (108, .ireturn, 1)]
theorem ck207 : pe_ctx 207 9 false (some .int) 5 T207 := ⟨rfl, rfl, rfl, rfl, by decide +kernel, by decide, by decide⟩
theorem b207_0 {d : Nat} {Φ : Option pe_V → pe_H → Prop} {σ : pe_H} {M q : Nat} {y : Nat → Int → Int} (hF : pm_F M σ) {x1 : Int} {o2 : Option pe_V} {o3 : Option pe_V} {o4 : Option pe_V}  (w0 : pe_in x1 := by unfold pe_in; omega)  (k : pe_M d 134 [.inr (.inl x1), .inr (.inl 0), .inr (.inl 1)] (pm_h M σ q (pm_u y 0 37 0)) (fun r σ' => pe_X d 207 (12, [some (.inr (.inr M)), some (.inl x1), o2, o3, o4], r.toList ++ [], σ') Φ)) : pe_X d 207 (0, [some (.inr (.inr M)), some (.inl x1), o2, o3, o4], [], pm_h M σ q y) Φ := by
  refine pe_blk 0 7 ck207 [pe_K (pm_h M σ q y) M = 9] (9, [some (.inr (.inr M)), some (.inl x1), o2, o3, o4], [.inr (.inl 1), .inr (.inl 0), .inr (.inl (pe_w x1))], pe_wI (pm_h M σ q y) M 37 0) rfl ?_ ?_
  · first
    | (simp (disch := omega) only [pe_all, pe_wi w0, pe_K_wI, pe_K_wR, pm_KM hF, pm_Kh, pm_wI0]; done)
    | (simp (disch := omega) only [pe_all, pe_wi w0, pe_K_wI, pe_K_wR, pm_KM hF, pm_Kh, pm_wI0]; (repeat' apply And.intro) <;> first | assumption | omega | decide)
  · try simp (disch := omega) only [pe_wi w0, pe_K_wI, pe_K_wR, pm_KM hF, pm_Kh, pm_wI0]
    exact pe_cal 7 ck207 rfl rfl rfl trivial k
theorem b207_12 {d : Nat} {Φ : Option pe_V → pe_H → Prop} {σ : pe_H} {M q : Nat} {y : Nat → Int → Int} (hF : pm_F M σ) {x1 : Int} {o2 : Option pe_V} {o3 : Option pe_V} {o4 : Option pe_V} {s0 : Int}  (w0 : pe_in s0 := by unfold pe_in; omega)  (k1 : ¬ s0 = 0 → pe_X d 207 (17, [some (.inr (.inr M)), some (.inl x1), o2, o3, o4], [], pm_h M σ q y) Φ) (k2 : s0 = 0 → pe_X d 207 (15, [some (.inr (.inr M)), some (.inl x1), o2, o3, o4], [], pm_h M σ q y) Φ) : pe_X d 207 (12, [some (.inr (.inr M)), some (.inl x1), o2, o3, o4], [.inl s0], pm_h M σ q y) Φ := by
  refine pe_blk 8 1 ck207 [] (cond (decide (¬ (pe_w s0) = 0)) 17 15, [some (.inr (.inr M)), some (.inl x1), o2, o3, o4], [], pm_h M σ q y) rfl ?_ ?_
  · exact trivial
  · try simp (disch := omega) only [pe_wi w0]
    exact pe_two' k1 k2
theorem b207_15 {d : Nat} {Φ : Option pe_V → pe_H → Prop} {σ : pe_H} {M q : Nat} {y : Nat → Int → Int} (hF : pm_F M σ) {o1 : Option pe_V} {o2 : Option pe_V} {o3 : Option pe_V} {o4 : Option pe_V}    (k : Φ (some (.inl (-1))) (pm_h M σ q y)) : pe_X d 207 (15, [some (.inr (.inr M)), o1, o2, o3, o4], [], pm_h M σ q y) Φ := by
  refine pe_blk 9 1 ck207 [] (16, [some (.inr (.inr M)), o1, o2, o3, o4], [.inl (-1)], pm_h M σ q y) rfl ?_ ?_
  · exact trivial
  · exact pe_fine 10 ck207 rfl rfl rfl trivial k
theorem b207_17 {d : Nat} {Φ : Option pe_V → pe_H → Prop} {σ : pe_H} {M q : Nat} {y : Nat → Int → Int} (hF : pm_F M σ) {x1 : Int} {o2 : Option pe_V} {o3 : Option pe_V} {o4 : Option pe_V}    (k : pe_M d 187 [.inr (.inr M)] (pm_h M σ q y) (fun r σ' => pe_X d 207 (27, [some (.inr (.inr M)), some (.inl x1), some (.inl (-4)), some (.inl (-4)), o4], r.toList ++ [], σ') Φ)) : pe_X d 207 (17, [some (.inr (.inr M)), some (.inl x1), o2, o3, o4], [], pm_h M σ q y) Φ := by
  refine pe_blk 11 5 ck207 [] (24, [some (.inr (.inr M)), some (.inl x1), some (.inl (-4)), some (.inl (-4)), o4], [.inr (.inr M)], pm_h M σ q y) rfl ?_ ?_
  · exact trivial
  · try simp (disch := omega) only [pe_K_wI, pe_K_wR, pm_KM hF, pm_Kh]
    have hrc : pe_K (pm_h M σ q y) M = 9 := by first | assumption | (simp (disch := omega) only [pe_K_wI, pe_K_wR, pm_KM hF, pm_Kh]; done) | (simp (disch := omega) only [pe_K_wI, pe_K_wR, pm_KM hF, pm_Kh]; assumption)
    exact pe_cal 16 ck207 rfl rfl rfl ⟨hrc, by decide⟩ k
theorem b207_27 {d : Nat} {Φ : Option pe_V → pe_H → Prop} {σ : pe_H} {M q : Nat} {y : Nat → Int → Int} (hF : pm_F M σ) {x1 : Int} {x2 : Int} {x3 : Int} {o4 : Option pe_V}    (k : pe_X d 207 (30, [some (.inr (.inr M)), some (.inl x1), some (.inl x2), some (.inl x3), some (.inl 0)], [], pm_h M σ q y) Φ) : pe_X d 207 (27, [some (.inr (.inr M)), some (.inl x1), some (.inl x2), some (.inl x3), o4], [], pm_h M σ q y) Φ := by
  refine pe_blk 17 2 ck207 [] (30, [some (.inr (.inr M)), some (.inl x1), some (.inl x2), some (.inl x3), some (.inl 0)], [], pm_h M σ q y) rfl ?_ ?_
  · exact trivial
  · exact k
theorem b207_30 {d : Nat} {Φ : Option pe_V → pe_H → Prop} {σ : pe_H} {M q : Nat} {y : Nat → Int → Int} (hF : pm_F M σ) {x1 : Int} {x2 : Int} {x3 : Int} {x4 : Int}  (w0 : pe_in x4 := by unfold pe_in; omega)  (k1 : 60 < x4 → pe_X d 207 (95, [some (.inr (.inr M)), some (.inl x1), some (.inl x2), some (.inl x3), some (.inl x4)], [], pm_h M σ q y) Φ) (k2 : ¬ (60 < x4) → pe_X d 207 (37, [some (.inr (.inr M)), some (.inl x1), some (.inl x2), some (.inl x3), some (.inl x4)], [], pm_h M σ q y) Φ) : pe_X d 207 (30, [some (.inr (.inr M)), some (.inl x1), some (.inl x2), some (.inl x3), some (.inl x4)], [], pm_h M σ q y) Φ := by
  refine pe_blk 19 3 ck207 [] (cond (decide ((pe_w 60) < (pe_w x4))) 95 37, [some (.inr (.inr M)), some (.inl x1), some (.inl x2), some (.inl x3), some (.inl x4)], [], pm_h M σ q y) rfl ?_ ?_
  · exact trivial
  · try simp (disch := omega) only [pe_wi w0, pe_wi (x := 60) ⟨by decide, by decide⟩]
    exact pe_two k1 k2
theorem b207_37 {d : Nat} {Φ : Option pe_V → pe_H → Prop} {σ : pe_H} {M q : Nat} {y : Nat → Int → Int} (hF : pm_F M σ) {x1 : Int} {x2 : Int} {x3 : Int} {x4 : Int}  (w0 : pe_in x2 := by unfold pe_in; omega)  (k1 : 0 ≤ x2 → pe_X d 207 (95, [some (.inr (.inr M)), some (.inl x1), some (.inl x2), some (.inl x3), some (.inl x4)], [], pm_h M σ q y) Φ) (k2 : ¬ (0 ≤ x2) → pe_X d 207 (41, [some (.inr (.inr M)), some (.inl x1), some (.inl x2), some (.inl x3), some (.inl x4)], [], pm_h M σ q y) Φ) : pe_X d 207 (37, [some (.inr (.inr M)), some (.inl x1), some (.inl x2), some (.inl x3), some (.inl x4)], [], pm_h M σ q y) Φ := by
  refine pe_blk 22 2 ck207 [] (cond (decide (0 ≤ (pe_w x2))) 95 41, [some (.inr (.inr M)), some (.inl x1), some (.inl x2), some (.inl x3), some (.inl x4)], [], pm_h M σ q y) rfl ?_ ?_
  · exact trivial
  · try simp (disch := omega) only [pe_wi w0]
    exact pe_two k1 k2
theorem b207_41 {d : Nat} {Φ : Option pe_V → pe_H → Prop} {σ : pe_H} {M q : Nat} {y : Nat → Int → Int} (hF : pm_F M σ) {x1 : Int} {o2 : Option pe_V} {o3 : Option pe_V} {x4 : Int}    (k : pe_M d 206 [.inr (.inr M)] (pm_h M σ q y) (fun r σ' => pe_X d 207 (45, [some (.inr (.inr M)), some (.inl x1), o2, o3, some (.inl x4)], r.toList ++ [], σ') Φ)) : pe_X d 207 (41, [some (.inr (.inr M)), some (.inl x1), o2, o3, some (.inl x4)], [], pm_h M σ q y) Φ := by
  refine pe_blk 24 1 ck207 [] (42, [some (.inr (.inr M)), some (.inl x1), o2, o3, some (.inl x4)], [.inr (.inr M)], pm_h M σ q y) rfl ?_ ?_
  · exact trivial
  · try simp (disch := omega) only [pe_K_wI, pe_K_wR, pm_KM hF, pm_Kh]
    have hrc : pe_K (pm_h M σ q y) M = 9 := by first | assumption | (simp (disch := omega) only [pe_K_wI, pe_K_wR, pm_KM hF, pm_Kh]; done) | (simp (disch := omega) only [pe_K_wI, pe_K_wR, pm_KM hF, pm_Kh]; assumption)
    exact pe_cal 25 ck207 rfl rfl rfl ⟨hrc, by decide⟩ k
theorem b207_45 {d : Nat} {Φ : Option pe_V → pe_H → Prop} {σ : pe_H} {M q : Nat} {y : Nat → Int → Int} (hF : pm_F M σ) {x1 : Int} {o2 : Option pe_V} {o3 : Option pe_V} {x4 : Int} {s0 : Int}  (w0 : pe_in s0 := by unfold pe_in; omega)  (k1 : s0 = 0 → pe_X d 207 (53, [some (.inr (.inr M)), some (.inl x1), o2, o3, some (.inl x4)], [], pm_h M σ q y) Φ) (k2 : ¬ (s0 = 0) → pe_X d 207 (48, [some (.inr (.inr M)), some (.inl x1), o2, o3, some (.inl x4)], [], pm_h M σ q y) Φ) : pe_X d 207 (45, [some (.inr (.inr M)), some (.inl x1), o2, o3, some (.inl x4)], [.inl s0], pm_h M σ q y) Φ := by
  refine pe_blk 26 1 ck207 [] (cond (decide ((pe_w s0) = 0)) 53 48, [some (.inr (.inr M)), some (.inl x1), o2, o3, some (.inl x4)], [], pm_h M σ q y) rfl ?_ ?_
  · exact trivial
  · try simp (disch := omega) only [pe_wi w0]
    exact pe_two k1 k2
theorem b207_48 {d : Nat} {Φ : Option pe_V → pe_H → Prop} {σ : pe_H} {M q : Nat} {y : Nat → Int → Int} (hF : pm_F M σ) {x1 : Int} {o2 : Option pe_V} {o3 : Option pe_V} {x4 : Int}    (k : pe_X d 207 (55, [some (.inr (.inr M)), some (.inl x1), o2, o3, some (.inl x4)], [.inl (-4)], pm_h M σ q y) Φ) : pe_X d 207 (48, [some (.inr (.inr M)), some (.inl x1), o2, o3, some (.inl x4)], [], pm_h M σ q y) Φ := by
  refine pe_blk 27 2 ck207 [] (55, [some (.inr (.inr M)), some (.inl x1), o2, o3, some (.inl x4)], [.inl (-4)], pm_h M σ q y) rfl ?_ ?_
  · exact trivial
  · exact k
theorem b207_53 {d : Nat} {Φ : Option pe_V → pe_H → Prop} {σ : pe_H} {M q : Nat} {y : Nat → Int → Int} (hF : pm_F M σ) {x1 : Int} {o2 : Option pe_V} {o3 : Option pe_V} {x4 : Int}    (k : pe_X d 207 (55, [some (.inr (.inr M)), some (.inl x1), o2, o3, some (.inl x4)], [.inl x4], pm_h M σ q y) Φ) : pe_X d 207 (53, [some (.inr (.inr M)), some (.inl x1), o2, o3, some (.inl x4)], [], pm_h M σ q y) Φ := by
  refine pe_blk 29 1 ck207 [] (55, [some (.inr (.inr M)), some (.inl x1), o2, o3, some (.inl x4)], [.inl x4], pm_h M σ q y) rfl ?_ ?_
  · exact trivial
  · exact k
theorem b207_55 {d : Nat} {Φ : Option pe_V → pe_H → Prop} {σ : pe_H} {M q : Nat} {y : Nat → Int → Int} (hF : pm_F M σ) {x1 : Int} {o2 : Option pe_V} {o3 : Option pe_V} {x4 : Int} {s0 : Int}    (k : pe_M d 206 [.inr (.inr M)] (pm_h M σ q y) (fun r σ' => pe_X d 207 (60, [some (.inr (.inr M)), some (.inl x1), some (.inl s0), o3, some (.inl x4)], r.toList ++ [], σ') Φ)) : pe_X d 207 (55, [some (.inr (.inr M)), some (.inl x1), o2, o3, some (.inl x4)], [.inl s0], pm_h M σ q y) Φ := by
  refine pe_blk 30 2 ck207 [] (57, [some (.inr (.inr M)), some (.inl x1), some (.inl s0), o3, some (.inl x4)], [.inr (.inr M)], pm_h M σ q y) rfl ?_ ?_
  · exact trivial
  · try simp (disch := omega) only [pe_K_wI, pe_K_wR, pm_KM hF, pm_Kh]
    have hrc : pe_K (pm_h M σ q y) M = 9 := by first | assumption | (simp (disch := omega) only [pe_K_wI, pe_K_wR, pm_KM hF, pm_Kh]; done) | (simp (disch := omega) only [pe_K_wI, pe_K_wR, pm_KM hF, pm_Kh]; assumption)
    exact pe_cal 32 ck207 rfl rfl rfl ⟨hrc, by decide⟩ k
theorem b207_60 {d : Nat} {Φ : Option pe_V → pe_H → Prop} {σ : pe_H} {M q : Nat} {y : Nat → Int → Int} (hF : pm_F M σ) {x1 : Int} {x2 : Int} {o3 : Option pe_V} {x4 : Int} {s0 : Int}  (w0 : pe_in s0 := by unfold pe_in; omega)  (k1 : s0 = 0 → pe_X d 207 (68, [some (.inr (.inr M)), some (.inl x1), some (.inl x2), o3, some (.inl x4)], [], pm_h M σ q y) Φ) (k2 : ¬ (s0 = 0) → pe_X d 207 (63, [some (.inr (.inr M)), some (.inl x1), some (.inl x2), o3, some (.inl x4)], [], pm_h M σ q y) Φ) : pe_X d 207 (60, [some (.inr (.inr M)), some (.inl x1), some (.inl x2), o3, some (.inl x4)], [.inl s0], pm_h M σ q y) Φ := by
  refine pe_blk 33 1 ck207 [] (cond (decide ((pe_w s0) = 0)) 68 63, [some (.inr (.inr M)), some (.inl x1), some (.inl x2), o3, some (.inl x4)], [], pm_h M σ q y) rfl ?_ ?_
  · exact trivial
  · try simp (disch := omega) only [pe_wi w0]
    exact pe_two k1 k2
theorem b207_63 {d : Nat} {Φ : Option pe_V → pe_H → Prop} {σ : pe_H} {M q : Nat} {y : Nat → Int → Int} (hF : pm_F M σ) {x1 : Int} {x2 : Int} {o3 : Option pe_V} {x4 : Int}    (k : pe_X d 207 (83, [some (.inr (.inr M)), some (.inl x1), some (.inl x2), o3, some (.inl x4)], [.inl (-4)], pm_h M σ q y) Φ) : pe_X d 207 (63, [some (.inr (.inr M)), some (.inl x1), some (.inl x2), o3, some (.inl x4)], [], pm_h M σ q y) Φ := by
  refine pe_blk 34 2 ck207 [] (83, [some (.inr (.inr M)), some (.inl x1), some (.inl x2), o3, some (.inl x4)], [.inl (-4)], pm_h M σ q y) rfl ?_ ?_
  · exact trivial
  · exact k
theorem b207_68 {d : Nat} {Φ : Option pe_V → pe_H → Prop} {σ : pe_H} {M q : Nat} {y : Nat → Int → Int} (hF : pm_F M σ) {x1 : Int} {x2 : Int} {o3 : Option pe_V} {x4 : Int}    (k : pe_M d 141 [.inr (.inr M)] (pm_h M σ q y) (fun r σ' => pe_X d 207 (80, [some (.inr (.inr M)), some (.inl x1), some (.inl x2), o3, some (.inl x4)], r.toList ++ [.inl ((pe_shl 1 (y 0 3)) - 1)], σ') Φ)) : pe_X d 207 (68, [some (.inr (.inr M)), some (.inl x1), some (.inl x2), o3, some (.inl x4)], [], pm_h M σ q y) Φ := by
  refine pe_blk 36 7 ck207 [pe_K (pm_h M σ q y) M = 9] (77, [some (.inr (.inr M)), some (.inl x1), some (.inl x2), o3, some (.inl x4)], [.inr (.inr M), .inl ((pe_shl 1 (pe_I (pm_h M σ q y) M 3)) - 1)], pm_h M σ q y) rfl ?_ ?_
  · first
    | (simp (disch := omega) only [pe_all, pe_I_wR, pe_K_wI, pe_K_wR, pm_I0, pm_KM hF, pm_Kh, pm_uj, pm_uk, pm_us]; done)
    | (simp (disch := omega) only [pe_all, pe_I_wR, pe_K_wI, pe_K_wR, pm_I0, pm_KM hF, pm_Kh, pm_uj, pm_uk, pm_us]; (repeat' apply And.intro) <;> first | assumption | omega | decide)
  · try simp (disch := omega) only [pe_I_wR, pe_K_wI, pe_K_wR, pm_I0, pm_KM hF, pm_Kh, pm_uj, pm_uk, pm_us]
    have hrc : pe_K (pm_h M σ q y) M = 9 := by first | assumption | (simp (disch := omega) only [pe_I_wR, pe_K_wI, pe_K_wR, pm_I0, pm_KM hF, pm_Kh, pm_uj, pm_uk, pm_us]; done) | (simp (disch := omega) only [pe_I_wR, pe_K_wI, pe_K_wR, pm_I0, pm_KM hF, pm_Kh, pm_uj, pm_uk, pm_us]; assumption)
    exact pe_cal 43 ck207 rfl rfl rfl ⟨hrc, by decide⟩ k
theorem b207_80 {d : Nat} {Φ : Option pe_V → pe_H → Prop} {σ : pe_H} {M q : Nat} {y : Nat → Int → Int} (hF : pm_F M σ) {x1 : Int} {x2 : Int} {o3 : Option pe_V} {x4 : Int} {s0 : Int} {s1 : Int}    (k : pe_X d 207 (83, [some (.inr (.inr M)), some (.inl x1), some (.inl x2), o3, some (.inl x4)], [.inl (pe_and s0 (pe_xor s1 (-1)))], pm_h M σ q y) Φ) : pe_X d 207 (80, [some (.inr (.inr M)), some (.inl x1), some (.inl x2), o3, some (.inl x4)], [.inl s1, .inl s0], pm_h M σ q y) Φ := by
  refine pe_blk 44 3 ck207 [] (83, [some (.inr (.inr M)), some (.inl x1), some (.inl x2), o3, some (.inl x4)], [.inl (pe_and s0 (pe_xor s1 (-1)))], pm_h M σ q y) rfl ?_ ?_
  · exact trivial
  · exact k
theorem b207_83 {d : Nat} {Φ : Option pe_V → pe_H → Prop} {σ : pe_H} {M q : Nat} {y : Nat → Int → Int} (hF : pm_F M σ) {x1 : Int} {x2 : Int} {o3 : Option pe_V} {x4 : Int} {s0 : Int}    (k : pe_M d 169 [.inr (.inr M), .inl 0] (pm_h M σ q y) (fun r σ' => pe_X d 207 (89, [some (.inr (.inr M)), some (.inl x1), some (.inl x2), some (.inl s0), some (.inl x4)], r.toList ++ [], σ') Φ)) : pe_X d 207 (83, [some (.inr (.inr M)), some (.inl x1), some (.inl x2), o3, some (.inl x4)], [.inl s0], pm_h M σ q y) Φ := by
  refine pe_blk 47 3 ck207 [] (86, [some (.inr (.inr M)), some (.inl x1), some (.inl x2), some (.inl s0), some (.inl x4)], [.inl 0, .inr (.inr M)], pm_h M σ q y) rfl ?_ ?_
  · exact trivial
  · try simp (disch := omega) only [pe_K_wI, pe_K_wR, pm_KM hF, pm_Kh]
    have hrc : pe_K (pm_h M σ q y) M = 9 := by first | assumption | (simp (disch := omega) only [pe_K_wI, pe_K_wR, pm_KM hF, pm_Kh]; done) | (simp (disch := omega) only [pe_K_wI, pe_K_wR, pm_KM hF, pm_Kh]; assumption)
    exact pe_cal 50 ck207 rfl rfl rfl ⟨hrc, by decide⟩ k
set_option maxRecDepth 8000 in
theorem b207_89 {d : Nat} {Φ : Option pe_V → pe_H → Prop} {σ : pe_H} {M q : Nat} {y : Nat → Int → Int} (hF : pm_F M σ) {x1 : Int} {x2 : Int} {x3 : Int} {x4 : Int}    (k : pe_X d 207 (30, [some (.inr (.inr M)), some (.inl x1), some (.inl x2), some (.inl x3), some (.inl (x4 + 1))], [], pm_h M σ q y) Φ) : pe_X d 207 (89, [some (.inr (.inr M)), some (.inl x1), some (.inl x2), some (.inl x3), some (.inl x4)], [], pm_h M σ q y) Φ := by
  refine pe_blk 51 2 ck207 [] (30, [some (.inr (.inr M)), some (.inl x1), some (.inl x2), some (.inl x3), some (.inl (x4 + 1))], [], pm_h M σ q y) rfl ?_ ?_
  · exact trivial
  · exact k
set_option maxRecDepth 8000 in
theorem b207_95 {d : Nat} {Φ : Option pe_V → pe_H → Prop} {σ : pe_H} {M q : Nat} {y : Nat → Int → Int} (hF : pm_F M σ) {x1 : Int} {x2 : Int} {x3 : Int} {o4 : Option pe_V}    (k : pe_M d 188 [.inr (.inr M)] (pm_h M σ q y) (fun r σ' => pe_X d 207 (99, [some (.inr (.inr M)), some (.inl x1), some (.inl x2), some (.inl x3), o4], r.toList ++ [], σ') Φ)) : pe_X d 207 (95, [some (.inr (.inr M)), some (.inl x1), some (.inl x2), some (.inl x3), o4], [], pm_h M σ q y) Φ := by
  refine pe_blk 53 1 ck207 [] (96, [some (.inr (.inr M)), some (.inl x1), some (.inl x2), some (.inl x3), o4], [.inr (.inr M)], pm_h M σ q y) rfl ?_ ?_
  · exact trivial
  · try simp (disch := omega) only [pe_K_wI, pe_K_wR, pm_KM hF, pm_Kh]
    have hrc : pe_K (pm_h M σ q y) M = 9 := by first | assumption | (simp (disch := omega) only [pe_K_wI, pe_K_wR, pm_KM hF, pm_Kh]; done) | (simp (disch := omega) only [pe_K_wI, pe_K_wR, pm_KM hF, pm_Kh]; assumption)
    exact pe_cal 54 ck207 rfl rfl rfl ⟨hrc, by decide⟩ k
set_option maxRecDepth 8000 in
theorem b207_99 {d : Nat} {Φ : Option pe_V → pe_H → Prop} {σ : pe_H} {M q : Nat} {y : Nat → Int → Int} (hF : pm_F M σ) {x1 : Int} {x2 : Int} {x3 : Int} {o4 : Option pe_V}  (w0 : pe_in x1 := by unfold pe_in; omega)  (k1 : ¬ x1 = 0 → pe_X d 207 (107, [some (.inr (.inr M)), some (.inl x1), some (.inl x2), some (.inl x3), o4], [], pm_h M σ q y) Φ) (k2 : x1 = 0 → pe_X d 207 (103, [some (.inr (.inr M)), some (.inl x1), some (.inl x2), some (.inl x3), o4], [], pm_h M σ q y) Φ) : pe_X d 207 (99, [some (.inr (.inr M)), some (.inl x1), some (.inl x2), some (.inl x3), o4], [], pm_h M σ q y) Φ := by
  refine pe_blk 55 2 ck207 [] (cond (decide (¬ (pe_w x1) = 0)) 107 103, [some (.inr (.inr M)), some (.inl x1), some (.inl x2), some (.inl x3), o4], [], pm_h M σ q y) rfl ?_ ?_
  · exact trivial
  · try simp (disch := omega) only [pe_wi w0]
    exact pe_two' k1 k2
set_option maxRecDepth 8000 in
theorem b207_103 {d : Nat} {Φ : Option pe_V → pe_H → Prop} {σ : pe_H} {M q : Nat} {y : Nat → Int → Int} (hF : pm_F M σ) {o1 : Option pe_V} {x2 : Int} {o3 : Option pe_V} {o4 : Option pe_V}    (k : pe_X d 207 (108, [some (.inr (.inr M)), o1, some (.inl x2), o3, o4], [.inl x2], pm_h M σ q y) Φ) : pe_X d 207 (103, [some (.inr (.inr M)), o1, some (.inl x2), o3, o4], [], pm_h M σ q y) Φ := by
  refine pe_blk 57 2 ck207 [] (108, [some (.inr (.inr M)), o1, some (.inl x2), o3, o4], [.inl x2], pm_h M σ q y) rfl ?_ ?_
  · exact trivial
  · exact k
set_option maxRecDepth 8000 in
theorem b207_107 {d : Nat} {Φ : Option pe_V → pe_H → Prop} {σ : pe_H} {M q : Nat} {y : Nat → Int → Int} (hF : pm_F M σ) {o1 : Option pe_V} {o2 : Option pe_V} {x3 : Int} {o4 : Option pe_V}    (k : pe_X d 207 (108, [some (.inr (.inr M)), o1, o2, some (.inl x3), o4], [.inl x3], pm_h M σ q y) Φ) : pe_X d 207 (107, [some (.inr (.inr M)), o1, o2, some (.inl x3), o4], [], pm_h M σ q y) Φ := by
  refine pe_blk 59 1 ck207 [] (108, [some (.inr (.inr M)), o1, o2, some (.inl x3), o4], [.inl x3], pm_h M σ q y) rfl ?_ ?_
  · exact trivial
  · exact k
set_option maxRecDepth 8000 in
theorem b207_108 {d : Nat} {Φ : Option pe_V → pe_H → Prop} {σ : pe_H} {M q : Nat} {y : Nat → Int → Int} (hF : pm_F M σ) {o1 : Option pe_V} {o2 : Option pe_V} {o3 : Option pe_V} {o4 : Option pe_V} {s0 : Int}    (k : Φ (some (.inl s0)) (pm_h M σ q y)) : pe_X d 207 (108, [some (.inr (.inr M)), o1, o2, o3, o4], [.inl s0], pm_h M σ q y) Φ := by
  exact pe_fine 60 ck207 rfl rfl rfl trivial k
-- StepMachinesModel.leastWidth(I)I
def T208 : List (Nat × Instr × Nat) := [(0, .aload_n 0, 1), (1, .iconst 0, 1), (2, .putfield 141, 3), (5, .iload_n 1, 1), (6, .i2l, 1), (7, .lconst 0, 1), (8, .ldc2_w 309, 3), (11, .invokestatic 147, 3), (14, .ifCond .ne 5, 3), (17, .iconst (-1), 1), (18, .ireturn, 1), (19, .bipush (-4), 2), (21, .istore_n 2, 1), (22, .aload_n 0, 1), (23, .invokevirtual 338, 3), (26, .iconst 1, 1), (27, .istore_n 3, 1), (28, .iload_n 3, 1), (29, .bipush 8, 2), (31, .if_icmp .gt 48, 3), (34, .iload_n 2, 1), (35, .ifCond .ge 44, 3), (38, .aload_n 0, 1), (39, .iload_n 3, 1), (40, .putfield 88, 3), (43, .aload_n 0, 1), (44, .iload_n 1, 1), (45, .invokevirtual 311, 3), (48, .aload_n 0, 1), (49, .invokevirtual 391, 3), (52, .invokestatic 394, 3), (55, .aload_n 0, 1), (56, .getfield 144, 3), (59, .if_icmp .ne 7, 3), (62, .iload_n 3, 1), (63, .goto 5, 3), (66, .bipush (-4), 2), (68, .istore_n 2, 1), (69, .aload_n 0, 1), (70, .invokevirtual 344, 3), (73, .iinc 3 1, 3), (76, .goto (-48), 3), (79, .iload_n 2, 1), (80, .ireturn, 1)]
theorem ck208 : pe_ctx 208 9 false (some .int) 4 T208 := ⟨rfl, rfl, rfl, rfl, by decide +kernel, by decide, by decide⟩
theorem b208_0 {d : Nat} {Φ : Option pe_V → pe_H → Prop} {σ : pe_H} {M q : Nat} {y : Nat → Int → Int} (hF : pm_F M σ) {x1 : Int} {o2 : Option pe_V} {o3 : Option pe_V}  (w0 : pe_in x1 := by unfold pe_in; omega)  (k : pe_M d 134 [.inr (.inl x1), .inr (.inl 0), .inr (.inl 60)] (pm_h M σ q (pm_u y 0 37 0)) (fun r σ' => pe_X d 208 (14, [some (.inr (.inr M)), some (.inl x1), o2, o3], r.toList ++ [], σ') Φ)) : pe_X d 208 (0, [some (.inr (.inr M)), some (.inl x1), o2, o3], [], pm_h M σ q y) Φ := by
  refine pe_blk 0 7 ck208 [pe_K (pm_h M σ q y) M = 9] (11, [some (.inr (.inr M)), some (.inl x1), o2, o3], [.inr (.inl 60), .inr (.inl 0), .inr (.inl (pe_w x1))], pe_wI (pm_h M σ q y) M 37 0) rfl ?_ ?_
  · first
    | (simp (disch := omega) only [pe_all, pe_wi w0, pe_K_wI, pe_K_wR, pm_KM hF, pm_Kh, pm_wI0]; done)
    | (simp (disch := omega) only [pe_all, pe_wi w0, pe_K_wI, pe_K_wR, pm_KM hF, pm_Kh, pm_wI0]; (repeat' apply And.intro) <;> first | assumption | omega | decide)
  · try simp (disch := omega) only [pe_wi w0, pe_K_wI, pe_K_wR, pm_KM hF, pm_Kh, pm_wI0]
    exact pe_cal 7 ck208 rfl rfl rfl trivial k
theorem b208_14 {d : Nat} {Φ : Option pe_V → pe_H → Prop} {σ : pe_H} {M q : Nat} {y : Nat → Int → Int} (hF : pm_F M σ) {x1 : Int} {o2 : Option pe_V} {o3 : Option pe_V} {s0 : Int}  (w0 : pe_in s0 := by unfold pe_in; omega)  (k1 : ¬ s0 = 0 → pe_X d 208 (19, [some (.inr (.inr M)), some (.inl x1), o2, o3], [], pm_h M σ q y) Φ) (k2 : s0 = 0 → pe_X d 208 (17, [some (.inr (.inr M)), some (.inl x1), o2, o3], [], pm_h M σ q y) Φ) : pe_X d 208 (14, [some (.inr (.inr M)), some (.inl x1), o2, o3], [.inl s0], pm_h M σ q y) Φ := by
  refine pe_blk 8 1 ck208 [] (cond (decide (¬ (pe_w s0) = 0)) 19 17, [some (.inr (.inr M)), some (.inl x1), o2, o3], [], pm_h M σ q y) rfl ?_ ?_
  · exact trivial
  · try simp (disch := omega) only [pe_wi w0]
    exact pe_two' k1 k2
theorem b208_17 {d : Nat} {Φ : Option pe_V → pe_H → Prop} {σ : pe_H} {M q : Nat} {y : Nat → Int → Int} (hF : pm_F M σ) {o1 : Option pe_V} {o2 : Option pe_V} {o3 : Option pe_V}    (k : Φ (some (.inl (-1))) (pm_h M σ q y)) : pe_X d 208 (17, [some (.inr (.inr M)), o1, o2, o3], [], pm_h M σ q y) Φ := by
  refine pe_blk 9 1 ck208 [] (18, [some (.inr (.inr M)), o1, o2, o3], [.inl (-1)], pm_h M σ q y) rfl ?_ ?_
  · exact trivial
  · exact pe_fine 10 ck208 rfl rfl rfl trivial k
theorem b208_19 {d : Nat} {Φ : Option pe_V → pe_H → Prop} {σ : pe_H} {M q : Nat} {y : Nat → Int → Int} (hF : pm_F M σ) {x1 : Int} {o2 : Option pe_V} {o3 : Option pe_V}    (k : pe_M d 187 [.inr (.inr M)] (pm_h M σ q y) (fun r σ' => pe_X d 208 (26, [some (.inr (.inr M)), some (.inl x1), some (.inl (-4)), o3], r.toList ++ [], σ') Φ)) : pe_X d 208 (19, [some (.inr (.inr M)), some (.inl x1), o2, o3], [], pm_h M σ q y) Φ := by
  refine pe_blk 11 3 ck208 [] (23, [some (.inr (.inr M)), some (.inl x1), some (.inl (-4)), o3], [.inr (.inr M)], pm_h M σ q y) rfl ?_ ?_
  · exact trivial
  · try simp (disch := omega) only [pe_K_wI, pe_K_wR, pm_KM hF, pm_Kh]
    have hrc : pe_K (pm_h M σ q y) M = 9 := by first | assumption | (simp (disch := omega) only [pe_K_wI, pe_K_wR, pm_KM hF, pm_Kh]; done) | (simp (disch := omega) only [pe_K_wI, pe_K_wR, pm_KM hF, pm_Kh]; assumption)
    exact pe_cal 14 ck208 rfl rfl rfl ⟨hrc, by decide⟩ k
theorem b208_26 {d : Nat} {Φ : Option pe_V → pe_H → Prop} {σ : pe_H} {M q : Nat} {y : Nat → Int → Int} (hF : pm_F M σ) {x1 : Int} {x2 : Int} {o3 : Option pe_V}    (k : pe_X d 208 (28, [some (.inr (.inr M)), some (.inl x1), some (.inl x2), some (.inl 1)], [], pm_h M σ q y) Φ) : pe_X d 208 (26, [some (.inr (.inr M)), some (.inl x1), some (.inl x2), o3], [], pm_h M σ q y) Φ := by
  refine pe_blk 15 2 ck208 [] (28, [some (.inr (.inr M)), some (.inl x1), some (.inl x2), some (.inl 1)], [], pm_h M σ q y) rfl ?_ ?_
  · exact trivial
  · exact k
theorem b208_28 {d : Nat} {Φ : Option pe_V → pe_H → Prop} {σ : pe_H} {M q : Nat} {y : Nat → Int → Int} (hF : pm_F M σ) {x1 : Int} {x2 : Int} {x3 : Int}  (w0 : pe_in x3 := by unfold pe_in; omega)  (k1 : 8 < x3 → pe_X d 208 (79, [some (.inr (.inr M)), some (.inl x1), some (.inl x2), some (.inl x3)], [], pm_h M σ q y) Φ) (k2 : ¬ (8 < x3) → pe_X d 208 (34, [some (.inr (.inr M)), some (.inl x1), some (.inl x2), some (.inl x3)], [], pm_h M σ q y) Φ) : pe_X d 208 (28, [some (.inr (.inr M)), some (.inl x1), some (.inl x2), some (.inl x3)], [], pm_h M σ q y) Φ := by
  refine pe_blk 17 3 ck208 [] (cond (decide ((pe_w 8) < (pe_w x3))) 79 34, [some (.inr (.inr M)), some (.inl x1), some (.inl x2), some (.inl x3)], [], pm_h M σ q y) rfl ?_ ?_
  · exact trivial
  · try simp (disch := omega) only [pe_wi w0, pe_wi (x := 8) ⟨by decide, by decide⟩]
    exact pe_two k1 k2
theorem b208_34 {d : Nat} {Φ : Option pe_V → pe_H → Prop} {σ : pe_H} {M q : Nat} {y : Nat → Int → Int} (hF : pm_F M σ) {x1 : Int} {x2 : Int} {x3 : Int}  (w0 : pe_in x2 := by unfold pe_in; omega)  (k1 : 0 ≤ x2 → pe_X d 208 (79, [some (.inr (.inr M)), some (.inl x1), some (.inl x2), some (.inl x3)], [], pm_h M σ q y) Φ) (k2 : ¬ (0 ≤ x2) → pe_X d 208 (38, [some (.inr (.inr M)), some (.inl x1), some (.inl x2), some (.inl x3)], [], pm_h M σ q y) Φ) : pe_X d 208 (34, [some (.inr (.inr M)), some (.inl x1), some (.inl x2), some (.inl x3)], [], pm_h M σ q y) Φ := by
  refine pe_blk 20 2 ck208 [] (cond (decide (0 ≤ (pe_w x2))) 79 38, [some (.inr (.inr M)), some (.inl x1), some (.inl x2), some (.inl x3)], [], pm_h M σ q y) rfl ?_ ?_
  · exact trivial
  · try simp (disch := omega) only [pe_wi w0]
    exact pe_two k1 k2
theorem b208_38 {d : Nat} {Φ : Option pe_V → pe_H → Prop} {σ : pe_H} {M q : Nat} {y : Nat → Int → Int} (hF : pm_F M σ) {x1 : Int} {o2 : Option pe_V} {x3 : Int}    (k : pe_M d 170 [.inr (.inr M), .inl x1] (pm_h M σ q (pm_u y 0 28 x3)) (fun r σ' => pe_X d 208 (48, [some (.inr (.inr M)), some (.inl x1), o2, some (.inl x3)], r.toList ++ [], σ') Φ)) : pe_X d 208 (38, [some (.inr (.inr M)), some (.inl x1), o2, some (.inl x3)], [], pm_h M σ q y) Φ := by
  refine pe_blk 22 5 ck208 [pe_K (pm_h M σ q y) M = 9] (45, [some (.inr (.inr M)), some (.inl x1), o2, some (.inl x3)], [.inl x1, .inr (.inr M)], pe_wI (pm_h M σ q y) M 28 x3) rfl ?_ ?_
  · first
    | (simp (disch := omega) only [pe_all, pe_K_wI, pe_K_wR, pm_KM hF, pm_Kh, pm_wI0]; done)
    | (simp (disch := omega) only [pe_all, pe_K_wI, pe_K_wR, pm_KM hF, pm_Kh, pm_wI0]; (repeat' apply And.intro) <;> first | assumption | omega | decide)
  · try simp (disch := omega) only [pe_K_wI, pe_K_wR, pm_KM hF, pm_Kh, pm_wI0]
    have hrc : pe_K (pm_h M σ q (pm_u y 0 28 x3)) M = 9 := by first | assumption | (simp (disch := omega) only [pe_K_wI, pe_K_wR, pm_KM hF, pm_Kh, pm_wI0]; done) | (simp (disch := omega) only [pe_K_wI, pe_K_wR, pm_KM hF, pm_Kh, pm_wI0]; assumption)
    exact pe_cal 27 ck208 rfl rfl rfl ⟨hrc, by decide⟩ k
theorem b208_48 {d : Nat} {Φ : Option pe_V → pe_H → Prop} {σ : pe_H} {M q : Nat} {y : Nat → Int → Int} (hF : pm_F M σ) {x1 : Int} {o2 : Option pe_V} {x3 : Int}    (k : pe_M d 141 [.inr (.inr M)] (pm_h M σ q y) (fun r σ' => pe_X d 208 (52, [some (.inr (.inr M)), some (.inl x1), o2, some (.inl x3)], r.toList ++ [], σ') Φ)) : pe_X d 208 (48, [some (.inr (.inr M)), some (.inl x1), o2, some (.inl x3)], [], pm_h M σ q y) Φ := by
  refine pe_blk 28 1 ck208 [] (49, [some (.inr (.inr M)), some (.inl x1), o2, some (.inl x3)], [.inr (.inr M)], pm_h M σ q y) rfl ?_ ?_
  · exact trivial
  · try simp (disch := omega) only [pe_K_wI, pe_K_wR, pm_KM hF, pm_Kh]
    have hrc : pe_K (pm_h M σ q y) M = 9 := by first | assumption | (simp (disch := omega) only [pe_K_wI, pe_K_wR, pm_KM hF, pm_Kh]; done) | (simp (disch := omega) only [pe_K_wI, pe_K_wR, pm_KM hF, pm_Kh]; assumption)
    exact pe_cal 29 ck208 rfl rfl rfl ⟨hrc, by decide⟩ k
theorem b208_52 {d : Nat} {Φ : Option pe_V → pe_H → Prop} {σ : pe_H} {M q : Nat} {y : Nat → Int → Int} (hF : pm_F M σ) {x1 : Int} {o2 : Option pe_V} {x3 : Int} {s0 : Int}    (k : pe_M d 136 [.inl s0] (pm_h M σ q y) (fun r σ' => pe_X d 208 (55, [some (.inr (.inr M)), some (.inl x1), o2, some (.inl x3)], r.toList ++ [], σ') Φ)) : pe_X d 208 (52, [some (.inr (.inr M)), some (.inl x1), o2, some (.inl x3)], [.inl s0], pm_h M σ q y) Φ := by
  exact pe_cal 30 ck208 rfl rfl rfl trivial k
theorem b208_55 {d : Nat} {Φ : Option pe_V → pe_H → Prop} {σ : pe_H} {M q : Nat} {y : Nat → Int → Int} (hF : pm_F M σ) {x1 : Int} {o2 : Option pe_V} {x3 : Int} {s0 : Int}  (w0 : pe_in (y 0 3) := by unfold pe_in; omega) (w1 : pe_in s0 := by unfold pe_in; omega)  (k1 : ¬ s0 = (y 0 3) → pe_X d 208 (66, [some (.inr (.inr M)), some (.inl x1), o2, some (.inl x3)], [], pm_h M σ q y) Φ) (k2 : s0 = (y 0 3) → pe_X d 208 (62, [some (.inr (.inr M)), some (.inl x1), o2, some (.inl x3)], [], pm_h M σ q y) Φ) : pe_X d 208 (55, [some (.inr (.inr M)), some (.inl x1), o2, some (.inl x3)], [.inl s0], pm_h M σ q y) Φ := by
  refine pe_blk 31 3 ck208 [pe_K (pm_h M σ q y) M = 9] (cond (decide (¬ (pe_w s0) = (pe_w (pe_I (pm_h M σ q y) M 3)))) 66 62, [some (.inr (.inr M)), some (.inl x1), o2, some (.inl x3)], [], pm_h M σ q y) rfl ?_ ?_
  · first
    | (simp (disch := omega) only [pe_all, pe_wi w0, pe_wi w1, pe_I_wR, pe_K_wI, pe_K_wR, pm_I0, pm_KM hF, pm_Kh, pm_uj, pm_uk, pm_us]; done)
    | (simp (disch := omega) only [pe_all, pe_wi w0, pe_wi w1, pe_I_wR, pe_K_wI, pe_K_wR, pm_I0, pm_KM hF, pm_Kh, pm_uj, pm_uk, pm_us]; (repeat' apply And.intro) <;> first | assumption | omega | decide)
  · try simp (disch := omega) only [pe_wi w0, pe_wi w1, pe_I_wR, pe_K_wI, pe_K_wR, pm_I0, pm_KM hF, pm_Kh, pm_uj, pm_uk, pm_us]
    exact pe_two' k1 k2
theorem b208_62 {d : Nat} {Φ : Option pe_V → pe_H → Prop} {σ : pe_H} {M q : Nat} {y : Nat → Int → Int} (hF : pm_F M σ) {x1 : Int} {o2 : Option pe_V} {x3 : Int}    (k : pe_X d 208 (68, [some (.inr (.inr M)), some (.inl x1), o2, some (.inl x3)], [.inl x3], pm_h M σ q y) Φ) : pe_X d 208 (62, [some (.inr (.inr M)), some (.inl x1), o2, some (.inl x3)], [], pm_h M σ q y) Φ := by
  refine pe_blk 34 2 ck208 [] (68, [some (.inr (.inr M)), some (.inl x1), o2, some (.inl x3)], [.inl x3], pm_h M σ q y) rfl ?_ ?_
  · exact trivial
  · exact k
theorem b208_66 {d : Nat} {Φ : Option pe_V → pe_H → Prop} {σ : pe_H} {M q : Nat} {y : Nat → Int → Int} (hF : pm_F M σ) {x1 : Int} {o2 : Option pe_V} {x3 : Int}    (k : pe_X d 208 (68, [some (.inr (.inr M)), some (.inl x1), o2, some (.inl x3)], [.inl (-4)], pm_h M σ q y) Φ) : pe_X d 208 (66, [some (.inr (.inr M)), some (.inl x1), o2, some (.inl x3)], [], pm_h M σ q y) Φ := by
  refine pe_blk 36 1 ck208 [] (68, [some (.inr (.inr M)), some (.inl x1), o2, some (.inl x3)], [.inl (-4)], pm_h M σ q y) rfl ?_ ?_
  · exact trivial
  · exact k
theorem b208_68 {d : Nat} {Φ : Option pe_V → pe_H → Prop} {σ : pe_H} {M q : Nat} {y : Nat → Int → Int} (hF : pm_F M σ) {x1 : Int} {o2 : Option pe_V} {x3 : Int} {s0 : Int}    (k : pe_M d 188 [.inr (.inr M)] (pm_h M σ q y) (fun r σ' => pe_X d 208 (73, [some (.inr (.inr M)), some (.inl x1), some (.inl s0), some (.inl x3)], r.toList ++ [], σ') Φ)) : pe_X d 208 (68, [some (.inr (.inr M)), some (.inl x1), o2, some (.inl x3)], [.inl s0], pm_h M σ q y) Φ := by
  refine pe_blk 37 2 ck208 [] (70, [some (.inr (.inr M)), some (.inl x1), some (.inl s0), some (.inl x3)], [.inr (.inr M)], pm_h M σ q y) rfl ?_ ?_
  · exact trivial
  · try simp (disch := omega) only [pe_K_wI, pe_K_wR, pm_KM hF, pm_Kh]
    have hrc : pe_K (pm_h M σ q y) M = 9 := by first | assumption | (simp (disch := omega) only [pe_K_wI, pe_K_wR, pm_KM hF, pm_Kh]; done) | (simp (disch := omega) only [pe_K_wI, pe_K_wR, pm_KM hF, pm_Kh]; assumption)
    exact pe_cal 39 ck208 rfl rfl rfl ⟨hrc, by decide⟩ k
theorem b208_73 {d : Nat} {Φ : Option pe_V → pe_H → Prop} {σ : pe_H} {M q : Nat} {y : Nat → Int → Int} (hF : pm_F M σ) {x1 : Int} {x2 : Int} {x3 : Int}    (k : pe_X d 208 (28, [some (.inr (.inr M)), some (.inl x1), some (.inl x2), some (.inl (x3 + 1))], [], pm_h M σ q y) Φ) : pe_X d 208 (73, [some (.inr (.inr M)), some (.inl x1), some (.inl x2), some (.inl x3)], [], pm_h M σ q y) Φ := by
  refine pe_blk 40 2 ck208 [] (28, [some (.inr (.inr M)), some (.inl x1), some (.inl x2), some (.inl (x3 + 1))], [], pm_h M σ q y) rfl ?_ ?_
  · exact trivial
  · exact k
theorem b208_79 {d : Nat} {Φ : Option pe_V → pe_H → Prop} {σ : pe_H} {M q : Nat} {y : Nat → Int → Int} (hF : pm_F M σ) {o1 : Option pe_V} {x2 : Int} {o3 : Option pe_V}    (k : Φ (some (.inl x2)) (pm_h M σ q y)) : pe_X d 208 (79, [some (.inr (.inr M)), o1, some (.inl x2), o3], [], pm_h M σ q y) Φ := by
  refine pe_blk 42 1 ck208 [] (80, [some (.inr (.inr M)), o1, some (.inl x2), o3], [.inl x2], pm_h M σ q y) rfl ?_ ?_
  · exact trivial
  · exact pe_fine 43 ck208 rfl rfl rfl trivial k
