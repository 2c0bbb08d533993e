/-! THE MODEL (StepMachinesModel): where its arrays stand, its methods' code and blocks -/
def pm_tab : List (Int × Nat × Nat × Int) := [(0, 1, 10, 5), (1, 2, 10, 80), (2, 3, 10, 80), (4, 4, 10, 8), (5, 5, 10, 8), (6, 6, 10, 8), (7, 7, 10, 8), (8, 8, 10, 8), (9, 9, 10, 8), (10, 10, 10, 8), (11, 11, 10, 8), (12, 12, 10, 8), (13, 13, 10, 8), (14, 14, 10, 8), (15, 15, 10, 48), (16, 16, 10, 48), (17, 17, 10, 48), (18, 18, 10, 48), (19, 19, 10, 48), (20, 20, 10, 48), (21, 21, 10, 768), (22, 22, 10, 768), (24, 23, 10, 600), (25, 24, 10, 600), (26, 25, 10, 6), (27, 26, 10, 48), (31, 27, 10, 8), (32, 28, 10, 8), (33, 29, 10, 8), (34, 30, 10, 8), (35, 31, 10, 8), (36, 32, 11, 800), (42, 33, 10, 51), (43, 34, 10, 51), (44, 35, 10, 153), (45, 36, 10, 100), (46, 37, 10, 100), (48, 38, 10, 3200), (49, 39, 10, 3200), (54, 40, 10, 40), (55, 41, 10, 8), (57, 42, 11, 100)]
/-- the model's object at M, its arrays behind it, in the order of its constructor -/
def pm_F (M : Nat) (σ : pe_H) : Prop := 2 ≤ M ∧ pe_K σ M = 9 ∧ ∀ q ∈ pm_tab, pe_R σ M q.1 = M + q.2.1 ∧ pe_K σ (M + q.2.1) = q.2.2.1 ∧ pe_L σ (M + q.2.1) = q.2.2.2
theorem pm_2 {M : Nat} {σ : pe_H} (h : pm_F M σ) : 2 ≤ M := h.1
theorem pm_KM {M : Nat} {σ : pe_H} (h : pm_F M σ) : pe_K σ M = 9 := h.2.1
theorem pm_R0 {M : Nat} {σ : pe_H} (h : pm_F M σ) : pe_R σ M 0 = M + 1 := (h.2.2 (0, 1, 10, 5) (List.mem_of_getElem? (i := 0) rfl)).1
theorem pm_K1 {M : Nat} {σ : pe_H} (h : pm_F M σ) : pe_K σ (M + 1) = 10 := (h.2.2 (0, 1, 10, 5) (List.mem_of_getElem? (i := 0) rfl)).2.1
theorem pm_L1 {M : Nat} {σ : pe_H} (h : pm_F M σ) : pe_L σ (M + 1) = 5 := (h.2.2 (0, 1, 10, 5) (List.mem_of_getElem? (i := 0) rfl)).2.2
theorem pm_R1 {M : Nat} {σ : pe_H} (h : pm_F M σ) : pe_R σ M 1 = M + 2 := (h.2.2 (1, 2, 10, 80) (List.mem_of_getElem? (i := 1) rfl)).1
theorem pm_K2 {M : Nat} {σ : pe_H} (h : pm_F M σ) : pe_K σ (M + 2) = 10 := (h.2.2 (1, 2, 10, 80) (List.mem_of_getElem? (i := 1) rfl)).2.1
theorem pm_L2 {M : Nat} {σ : pe_H} (h : pm_F M σ) : pe_L σ (M + 2) = 80 := (h.2.2 (1, 2, 10, 80) (List.mem_of_getElem? (i := 1) rfl)).2.2
theorem pm_R2 {M : Nat} {σ : pe_H} (h : pm_F M σ) : pe_R σ M 2 = M + 3 := (h.2.2 (2, 3, 10, 80) (List.mem_of_getElem? (i := 2) rfl)).1
theorem pm_K3 {M : Nat} {σ : pe_H} (h : pm_F M σ) : pe_K σ (M + 3) = 10 := (h.2.2 (2, 3, 10, 80) (List.mem_of_getElem? (i := 2) rfl)).2.1
theorem pm_L3 {M : Nat} {σ : pe_H} (h : pm_F M σ) : pe_L σ (M + 3) = 80 := (h.2.2 (2, 3, 10, 80) (List.mem_of_getElem? (i := 2) rfl)).2.2
theorem pm_R4 {M : Nat} {σ : pe_H} (h : pm_F M σ) : pe_R σ M 4 = M + 4 := (h.2.2 (4, 4, 10, 8) (List.mem_of_getElem? (i := 3) rfl)).1
theorem pm_K4 {M : Nat} {σ : pe_H} (h : pm_F M σ) : pe_K σ (M + 4) = 10 := (h.2.2 (4, 4, 10, 8) (List.mem_of_getElem? (i := 3) rfl)).2.1
theorem pm_L4 {M : Nat} {σ : pe_H} (h : pm_F M σ) : pe_L σ (M + 4) = 8 := (h.2.2 (4, 4, 10, 8) (List.mem_of_getElem? (i := 3) rfl)).2.2
theorem pm_R5 {M : Nat} {σ : pe_H} (h : pm_F M σ) : pe_R σ M 5 = M + 5 := (h.2.2 (5, 5, 10, 8) (List.mem_of_getElem? (i := 4) rfl)).1
theorem pm_K5 {M : Nat} {σ : pe_H} (h : pm_F M σ) : pe_K σ (M + 5) = 10 := (h.2.2 (5, 5, 10, 8) (List.mem_of_getElem? (i := 4) rfl)).2.1
theorem pm_L5 {M : Nat} {σ : pe_H} (h : pm_F M σ) : pe_L σ (M + 5) = 8 := (h.2.2 (5, 5, 10, 8) (List.mem_of_getElem? (i := 4) rfl)).2.2
theorem pm_R6 {M : Nat} {σ : pe_H} (h : pm_F M σ) : pe_R σ M 6 = M + 6 := (h.2.2 (6, 6, 10, 8) (List.mem_of_getElem? (i := 5) rfl)).1
theorem pm_K6 {M : Nat} {σ : pe_H} (h : pm_F M σ) : pe_K σ (M + 6) = 10 := (h.2.2 (6, 6, 10, 8) (List.mem_of_getElem? (i := 5) rfl)).2.1
theorem pm_L6 {M : Nat} {σ : pe_H} (h : pm_F M σ) : pe_L σ (M + 6) = 8 := (h.2.2 (6, 6, 10, 8) (List.mem_of_getElem? (i := 5) rfl)).2.2
theorem pm_R7 {M : Nat} {σ : pe_H} (h : pm_F M σ) : pe_R σ M 7 = M + 7 := (h.2.2 (7, 7, 10, 8) (List.mem_of_getElem? (i := 6) rfl)).1
theorem pm_K7 {M : Nat} {σ : pe_H} (h : pm_F M σ) : pe_K σ (M + 7) = 10 := (h.2.2 (7, 7, 10, 8) (List.mem_of_getElem? (i := 6) rfl)).2.1
theorem pm_L7 {M : Nat} {σ : pe_H} (h : pm_F M σ) : pe_L σ (M + 7) = 8 := (h.2.2 (7, 7, 10, 8) (List.mem_of_getElem? (i := 6) rfl)).2.2
theorem pm_R8 {M : Nat} {σ : pe_H} (h : pm_F M σ) : pe_R σ M 8 = M + 8 := (h.2.2 (8, 8, 10, 8) (List.mem_of_getElem? (i := 7) rfl)).1
theorem pm_K8 {M : Nat} {σ : pe_H} (h : pm_F M σ) : pe_K σ (M + 8) = 10 := (h.2.2 (8, 8, 10, 8) (List.mem_of_getElem? (i := 7) rfl)).2.1
theorem pm_L8 {M : Nat} {σ : pe_H} (h : pm_F M σ) : pe_L σ (M + 8) = 8 := (h.2.2 (8, 8, 10, 8) (List.mem_of_getElem? (i := 7) rfl)).2.2
theorem pm_R9 {M : Nat} {σ : pe_H} (h : pm_F M σ) : pe_R σ M 9 = M + 9 := (h.2.2 (9, 9, 10, 8) (List.mem_of_getElem? (i := 8) rfl)).1
theorem pm_K9 {M : Nat} {σ : pe_H} (h : pm_F M σ) : pe_K σ (M + 9) = 10 := (h.2.2 (9, 9, 10, 8) (List.mem_of_getElem? (i := 8) rfl)).2.1
theorem pm_L9 {M : Nat} {σ : pe_H} (h : pm_F M σ) : pe_L σ (M + 9) = 8 := (h.2.2 (9, 9, 10, 8) (List.mem_of_getElem? (i := 8) rfl)).2.2
theorem pm_R10 {M : Nat} {σ : pe_H} (h : pm_F M σ) : pe_R σ M 10 = M + 10 := (h.2.2 (10, 10, 10, 8) (List.mem_of_getElem? (i := 9) rfl)).1
theorem pm_K10 {M : Nat} {σ : pe_H} (h : pm_F M σ) : pe_K σ (M + 10) = 10 := (h.2.2 (10, 10, 10, 8) (List.mem_of_getElem? (i := 9) rfl)).2.1
theorem pm_L10 {M : Nat} {σ : pe_H} (h : pm_F M σ) : pe_L σ (M + 10) = 8 := (h.2.2 (10, 10, 10, 8) (List.mem_of_getElem? (i := 9) rfl)).2.2
theorem pm_R11 {M : Nat} {σ : pe_H} (h : pm_F M σ) : pe_R σ M 11 = M + 11 := (h.2.2 (11, 11, 10, 8) (List.mem_of_getElem? (i := 10) rfl)).1
theorem pm_K11 {M : Nat} {σ : pe_H} (h : pm_F M σ) : pe_K σ (M + 11) = 10 := (h.2.2 (11, 11, 10, 8) (List.mem_of_getElem? (i := 10) rfl)).2.1
theorem pm_L11 {M : Nat} {σ : pe_H} (h : pm_F M σ) : pe_L σ (M + 11) = 8 := (h.2.2 (11, 11, 10, 8) (List.mem_of_getElem? (i := 10) rfl)).2.2
theorem pm_R12 {M : Nat} {σ : pe_H} (h : pm_F M σ) : pe_R σ M 12 = M + 12 := (h.2.2 (12, 12, 10, 8) (List.mem_of_getElem? (i := 11) rfl)).1
theorem pm_K12 {M : Nat} {σ : pe_H} (h : pm_F M σ) : pe_K σ (M + 12) = 10 := (h.2.2 (12, 12, 10, 8) (List.mem_of_getElem? (i := 11) rfl)).2.1
theorem pm_L12 {M : Nat} {σ : pe_H} (h : pm_F M σ) : pe_L σ (M + 12) = 8 := (h.2.2 (12, 12, 10, 8) (List.mem_of_getElem? (i := 11) rfl)).2.2
theorem pm_R13 {M : Nat} {σ : pe_H} (h : pm_F M σ) : pe_R σ M 13 = M + 13 := (h.2.2 (13, 13, 10, 8) (List.mem_of_getElem? (i := 12) rfl)).1
theorem pm_K13 {M : Nat} {σ : pe_H} (h : pm_F M σ) : pe_K σ (M + 13) = 10 := (h.2.2 (13, 13, 10, 8) (List.mem_of_getElem? (i := 12) rfl)).2.1
theorem pm_L13 {M : Nat} {σ : pe_H} (h : pm_F M σ) : pe_L σ (M + 13) = 8 := (h.2.2 (13, 13, 10, 8) (List.mem_of_getElem? (i := 12) rfl)).2.2
theorem pm_R14 {M : Nat} {σ : pe_H} (h : pm_F M σ) : pe_R σ M 14 = M + 14 := (h.2.2 (14, 14, 10, 8) (List.mem_of_getElem? (i := 13) rfl)).1
theorem pm_K14 {M : Nat} {σ : pe_H} (h : pm_F M σ) : pe_K σ (M + 14) = 10 := (h.2.2 (14, 14, 10, 8) (List.mem_of_getElem? (i := 13) rfl)).2.1
theorem pm_L14 {M : Nat} {σ : pe_H} (h : pm_F M σ) : pe_L σ (M + 14) = 8 := (h.2.2 (14, 14, 10, 8) (List.mem_of_getElem? (i := 13) rfl)).2.2
theorem pm_R15 {M : Nat} {σ : pe_H} (h : pm_F M σ) : pe_R σ M 15 = M + 15 := (h.2.2 (15, 15, 10, 48) (List.mem_of_getElem? (i := 14) rfl)).1
theorem pm_K15 {M : Nat} {σ : pe_H} (h : pm_F M σ) : pe_K σ (M + 15) = 10 := (h.2.2 (15, 15, 10, 48) (List.mem_of_getElem? (i := 14) rfl)).2.1
theorem pm_L15 {M : Nat} {σ : pe_H} (h : pm_F M σ) : pe_L σ (M + 15) = 48 := (h.2.2 (15, 15, 10, 48) (List.mem_of_getElem? (i := 14) rfl)).2.2
theorem pm_R16 {M : Nat} {σ : pe_H} (h : pm_F M σ) : pe_R σ M 16 = M + 16 := (h.2.2 (16, 16, 10, 48) (List.mem_of_getElem? (i := 15) rfl)).1
theorem pm_K16 {M : Nat} {σ : pe_H} (h : pm_F M σ) : pe_K σ (M + 16) = 10 := (h.2.2 (16, 16, 10, 48) (List.mem_of_getElem? (i := 15) rfl)).2.1
theorem pm_L16 {M : Nat} {σ : pe_H} (h : pm_F M σ) : pe_L σ (M + 16) = 48 := (h.2.2 (16, 16, 10, 48) (List.mem_of_getElem? (i := 15) rfl)).2.2
theorem pm_R17 {M : Nat} {σ : pe_H} (h : pm_F M σ) : pe_R σ M 17 = M + 17 := (h.2.2 (17, 17, 10, 48) (List.mem_of_getElem? (i := 16) rfl)).1
theorem pm_K17 {M : Nat} {σ : pe_H} (h : pm_F M σ) : pe_K σ (M + 17) = 10 := (h.2.2 (17, 17, 10, 48) (List.mem_of_getElem? (i := 16) rfl)).2.1
theorem pm_L17 {M : Nat} {σ : pe_H} (h : pm_F M σ) : pe_L σ (M + 17) = 48 := (h.2.2 (17, 17, 10, 48) (List.mem_of_getElem? (i := 16) rfl)).2.2
theorem pm_R18 {M : Nat} {σ : pe_H} (h : pm_F M σ) : pe_R σ M 18 = M + 18 := (h.2.2 (18, 18, 10, 48) (List.mem_of_getElem? (i := 17) rfl)).1
theorem pm_K18 {M : Nat} {σ : pe_H} (h : pm_F M σ) : pe_K σ (M + 18) = 10 := (h.2.2 (18, 18, 10, 48) (List.mem_of_getElem? (i := 17) rfl)).2.1
theorem pm_L18 {M : Nat} {σ : pe_H} (h : pm_F M σ) : pe_L σ (M + 18) = 48 := (h.2.2 (18, 18, 10, 48) (List.mem_of_getElem? (i := 17) rfl)).2.2
theorem pm_R19 {M : Nat} {σ : pe_H} (h : pm_F M σ) : pe_R σ M 19 = M + 19 := (h.2.2 (19, 19, 10, 48) (List.mem_of_getElem? (i := 18) rfl)).1
theorem pm_K19 {M : Nat} {σ : pe_H} (h : pm_F M σ) : pe_K σ (M + 19) = 10 := (h.2.2 (19, 19, 10, 48) (List.mem_of_getElem? (i := 18) rfl)).2.1
theorem pm_L19 {M : Nat} {σ : pe_H} (h : pm_F M σ) : pe_L σ (M + 19) = 48 := (h.2.2 (19, 19, 10, 48) (List.mem_of_getElem? (i := 18) rfl)).2.2
theorem pm_R20 {M : Nat} {σ : pe_H} (h : pm_F M σ) : pe_R σ M 20 = M + 20 := (h.2.2 (20, 20, 10, 48) (List.mem_of_getElem? (i := 19) rfl)).1
theorem pm_K20 {M : Nat} {σ : pe_H} (h : pm_F M σ) : pe_K σ (M + 20) = 10 := (h.2.2 (20, 20, 10, 48) (List.mem_of_getElem? (i := 19) rfl)).2.1
theorem pm_L20 {M : Nat} {σ : pe_H} (h : pm_F M σ) : pe_L σ (M + 20) = 48 := (h.2.2 (20, 20, 10, 48) (List.mem_of_getElem? (i := 19) rfl)).2.2
theorem pm_R21 {M : Nat} {σ : pe_H} (h : pm_F M σ) : pe_R σ M 21 = M + 21 := (h.2.2 (21, 21, 10, 768) (List.mem_of_getElem? (i := 20) rfl)).1
theorem pm_K21 {M : Nat} {σ : pe_H} (h : pm_F M σ) : pe_K σ (M + 21) = 10 := (h.2.2 (21, 21, 10, 768) (List.mem_of_getElem? (i := 20) rfl)).2.1
theorem pm_L21 {M : Nat} {σ : pe_H} (h : pm_F M σ) : pe_L σ (M + 21) = 768 := (h.2.2 (21, 21, 10, 768) (List.mem_of_getElem? (i := 20) rfl)).2.2
theorem pm_R22 {M : Nat} {σ : pe_H} (h : pm_F M σ) : pe_R σ M 22 = M + 22 := (h.2.2 (22, 22, 10, 768) (List.mem_of_getElem? (i := 21) rfl)).1
theorem pm_K22 {M : Nat} {σ : pe_H} (h : pm_F M σ) : pe_K σ (M + 22) = 10 := (h.2.2 (22, 22, 10, 768) (List.mem_of_getElem? (i := 21) rfl)).2.1
theorem pm_L22 {M : Nat} {σ : pe_H} (h : pm_F M σ) : pe_L σ (M + 22) = 768 := (h.2.2 (22, 22, 10, 768) (List.mem_of_getElem? (i := 21) rfl)).2.2
theorem pm_R24 {M : Nat} {σ : pe_H} (h : pm_F M σ) : pe_R σ M 24 = M + 23 := (h.2.2 (24, 23, 10, 600) (List.mem_of_getElem? (i := 22) rfl)).1
theorem pm_K23 {M : Nat} {σ : pe_H} (h : pm_F M σ) : pe_K σ (M + 23) = 10 := (h.2.2 (24, 23, 10, 600) (List.mem_of_getElem? (i := 22) rfl)).2.1
theorem pm_L23 {M : Nat} {σ : pe_H} (h : pm_F M σ) : pe_L σ (M + 23) = 600 := (h.2.2 (24, 23, 10, 600) (List.mem_of_getElem? (i := 22) rfl)).2.2
theorem pm_R25 {M : Nat} {σ : pe_H} (h : pm_F M σ) : pe_R σ M 25 = M + 24 := (h.2.2 (25, 24, 10, 600) (List.mem_of_getElem? (i := 23) rfl)).1
theorem pm_K24 {M : Nat} {σ : pe_H} (h : pm_F M σ) : pe_K σ (M + 24) = 10 := (h.2.2 (25, 24, 10, 600) (List.mem_of_getElem? (i := 23) rfl)).2.1
theorem pm_L24 {M : Nat} {σ : pe_H} (h : pm_F M σ) : pe_L σ (M + 24) = 600 := (h.2.2 (25, 24, 10, 600) (List.mem_of_getElem? (i := 23) rfl)).2.2
theorem pm_R26 {M : Nat} {σ : pe_H} (h : pm_F M σ) : pe_R σ M 26 = M + 25 := (h.2.2 (26, 25, 10, 6) (List.mem_of_getElem? (i := 24) rfl)).1
theorem pm_K25 {M : Nat} {σ : pe_H} (h : pm_F M σ) : pe_K σ (M + 25) = 10 := (h.2.2 (26, 25, 10, 6) (List.mem_of_getElem? (i := 24) rfl)).2.1
theorem pm_L25 {M : Nat} {σ : pe_H} (h : pm_F M σ) : pe_L σ (M + 25) = 6 := (h.2.2 (26, 25, 10, 6) (List.mem_of_getElem? (i := 24) rfl)).2.2
theorem pm_R27 {M : Nat} {σ : pe_H} (h : pm_F M σ) : pe_R σ M 27 = M + 26 := (h.2.2 (27, 26, 10, 48) (List.mem_of_getElem? (i := 25) rfl)).1
theorem pm_K26 {M : Nat} {σ : pe_H} (h : pm_F M σ) : pe_K σ (M + 26) = 10 := (h.2.2 (27, 26, 10, 48) (List.mem_of_getElem? (i := 25) rfl)).2.1
theorem pm_L26 {M : Nat} {σ : pe_H} (h : pm_F M σ) : pe_L σ (M + 26) = 48 := (h.2.2 (27, 26, 10, 48) (List.mem_of_getElem? (i := 25) rfl)).2.2
theorem pm_R31 {M : Nat} {σ : pe_H} (h : pm_F M σ) : pe_R σ M 31 = M + 27 := (h.2.2 (31, 27, 10, 8) (List.mem_of_getElem? (i := 26) rfl)).1
theorem pm_K27 {M : Nat} {σ : pe_H} (h : pm_F M σ) : pe_K σ (M + 27) = 10 := (h.2.2 (31, 27, 10, 8) (List.mem_of_getElem? (i := 26) rfl)).2.1
theorem pm_L27 {M : Nat} {σ : pe_H} (h : pm_F M σ) : pe_L σ (M + 27) = 8 := (h.2.2 (31, 27, 10, 8) (List.mem_of_getElem? (i := 26) rfl)).2.2
theorem pm_R32 {M : Nat} {σ : pe_H} (h : pm_F M σ) : pe_R σ M 32 = M + 28 := (h.2.2 (32, 28, 10, 8) (List.mem_of_getElem? (i := 27) rfl)).1
theorem pm_K28 {M : Nat} {σ : pe_H} (h : pm_F M σ) : pe_K σ (M + 28) = 10 := (h.2.2 (32, 28, 10, 8) (List.mem_of_getElem? (i := 27) rfl)).2.1
theorem pm_L28 {M : Nat} {σ : pe_H} (h : pm_F M σ) : pe_L σ (M + 28) = 8 := (h.2.2 (32, 28, 10, 8) (List.mem_of_getElem? (i := 27) rfl)).2.2
theorem pm_R33 {M : Nat} {σ : pe_H} (h : pm_F M σ) : pe_R σ M 33 = M + 29 := (h.2.2 (33, 29, 10, 8) (List.mem_of_getElem? (i := 28) rfl)).1
theorem pm_K29 {M : Nat} {σ : pe_H} (h : pm_F M σ) : pe_K σ (M + 29) = 10 := (h.2.2 (33, 29, 10, 8) (List.mem_of_getElem? (i := 28) rfl)).2.1
theorem pm_L29 {M : Nat} {σ : pe_H} (h : pm_F M σ) : pe_L σ (M + 29) = 8 := (h.2.2 (33, 29, 10, 8) (List.mem_of_getElem? (i := 28) rfl)).2.2
theorem pm_R34 {M : Nat} {σ : pe_H} (h : pm_F M σ) : pe_R σ M 34 = M + 30 := (h.2.2 (34, 30, 10, 8) (List.mem_of_getElem? (i := 29) rfl)).1
theorem pm_K30 {M : Nat} {σ : pe_H} (h : pm_F M σ) : pe_K σ (M + 30) = 10 := (h.2.2 (34, 30, 10, 8) (List.mem_of_getElem? (i := 29) rfl)).2.1
theorem pm_L30 {M : Nat} {σ : pe_H} (h : pm_F M σ) : pe_L σ (M + 30) = 8 := (h.2.2 (34, 30, 10, 8) (List.mem_of_getElem? (i := 29) rfl)).2.2
theorem pm_R35 {M : Nat} {σ : pe_H} (h : pm_F M σ) : pe_R σ M 35 = M + 31 := (h.2.2 (35, 31, 10, 8) (List.mem_of_getElem? (i := 30) rfl)).1
theorem pm_K31 {M : Nat} {σ : pe_H} (h : pm_F M σ) : pe_K σ (M + 31) = 10 := (h.2.2 (35, 31, 10, 8) (List.mem_of_getElem? (i := 30) rfl)).2.1
theorem pm_L31 {M : Nat} {σ : pe_H} (h : pm_F M σ) : pe_L σ (M + 31) = 8 := (h.2.2 (35, 31, 10, 8) (List.mem_of_getElem? (i := 30) rfl)).2.2
theorem pm_R36 {M : Nat} {σ : pe_H} (h : pm_F M σ) : pe_R σ M 36 = M + 32 := (h.2.2 (36, 32, 11, 800) (List.mem_of_getElem? (i := 31) rfl)).1
theorem pm_K32 {M : Nat} {σ : pe_H} (h : pm_F M σ) : pe_K σ (M + 32) = 11 := (h.2.2 (36, 32, 11, 800) (List.mem_of_getElem? (i := 31) rfl)).2.1
theorem pm_L32 {M : Nat} {σ : pe_H} (h : pm_F M σ) : pe_L σ (M + 32) = 800 := (h.2.2 (36, 32, 11, 800) (List.mem_of_getElem? (i := 31) rfl)).2.2
theorem pm_R42 {M : Nat} {σ : pe_H} (h : pm_F M σ) : pe_R σ M 42 = M + 33 := (h.2.2 (42, 33, 10, 51) (List.mem_of_getElem? (i := 32) rfl)).1
theorem pm_K33 {M : Nat} {σ : pe_H} (h : pm_F M σ) : pe_K σ (M + 33) = 10 := (h.2.2 (42, 33, 10, 51) (List.mem_of_getElem? (i := 32) rfl)).2.1
theorem pm_L33 {M : Nat} {σ : pe_H} (h : pm_F M σ) : pe_L σ (M + 33) = 51 := (h.2.2 (42, 33, 10, 51) (List.mem_of_getElem? (i := 32) rfl)).2.2
theorem pm_R43 {M : Nat} {σ : pe_H} (h : pm_F M σ) : pe_R σ M 43 = M + 34 := (h.2.2 (43, 34, 10, 51) (List.mem_of_getElem? (i := 33) rfl)).1
theorem pm_K34 {M : Nat} {σ : pe_H} (h : pm_F M σ) : pe_K σ (M + 34) = 10 := (h.2.2 (43, 34, 10, 51) (List.mem_of_getElem? (i := 33) rfl)).2.1
theorem pm_L34 {M : Nat} {σ : pe_H} (h : pm_F M σ) : pe_L σ (M + 34) = 51 := (h.2.2 (43, 34, 10, 51) (List.mem_of_getElem? (i := 33) rfl)).2.2
theorem pm_R44 {M : Nat} {σ : pe_H} (h : pm_F M σ) : pe_R σ M 44 = M + 35 := (h.2.2 (44, 35, 10, 153) (List.mem_of_getElem? (i := 34) rfl)).1
theorem pm_K35 {M : Nat} {σ : pe_H} (h : pm_F M σ) : pe_K σ (M + 35) = 10 := (h.2.2 (44, 35, 10, 153) (List.mem_of_getElem? (i := 34) rfl)).2.1
theorem pm_L35 {M : Nat} {σ : pe_H} (h : pm_F M σ) : pe_L σ (M + 35) = 153 := (h.2.2 (44, 35, 10, 153) (List.mem_of_getElem? (i := 34) rfl)).2.2
theorem pm_R45 {M : Nat} {σ : pe_H} (h : pm_F M σ) : pe_R σ M 45 = M + 36 := (h.2.2 (45, 36, 10, 100) (List.mem_of_getElem? (i := 35) rfl)).1
theorem pm_K36 {M : Nat} {σ : pe_H} (h : pm_F M σ) : pe_K σ (M + 36) = 10 := (h.2.2 (45, 36, 10, 100) (List.mem_of_getElem? (i := 35) rfl)).2.1
theorem pm_L36 {M : Nat} {σ : pe_H} (h : pm_F M σ) : pe_L σ (M + 36) = 100 := (h.2.2 (45, 36, 10, 100) (List.mem_of_getElem? (i := 35) rfl)).2.2
theorem pm_R46 {M : Nat} {σ : pe_H} (h : pm_F M σ) : pe_R σ M 46 = M + 37 := (h.2.2 (46, 37, 10, 100) (List.mem_of_getElem? (i := 36) rfl)).1
theorem pm_K37 {M : Nat} {σ : pe_H} (h : pm_F M σ) : pe_K σ (M + 37) = 10 := (h.2.2 (46, 37, 10, 100) (List.mem_of_getElem? (i := 36) rfl)).2.1
theorem pm_L37 {M : Nat} {σ : pe_H} (h : pm_F M σ) : pe_L σ (M + 37) = 100 := (h.2.2 (46, 37, 10, 100) (List.mem_of_getElem? (i := 36) rfl)).2.2
theorem pm_R48 {M : Nat} {σ : pe_H} (h : pm_F M σ) : pe_R σ M 48 = M + 38 := (h.2.2 (48, 38, 10, 3200) (List.mem_of_getElem? (i := 37) rfl)).1
theorem pm_K38 {M : Nat} {σ : pe_H} (h : pm_F M σ) : pe_K σ (M + 38) = 10 := (h.2.2 (48, 38, 10, 3200) (List.mem_of_getElem? (i := 37) rfl)).2.1
theorem pm_L38 {M : Nat} {σ : pe_H} (h : pm_F M σ) : pe_L σ (M + 38) = 3200 := (h.2.2 (48, 38, 10, 3200) (List.mem_of_getElem? (i := 37) rfl)).2.2
theorem pm_R49 {M : Nat} {σ : pe_H} (h : pm_F M σ) : pe_R σ M 49 = M + 39 := (h.2.2 (49, 39, 10, 3200) (List.mem_of_getElem? (i := 38) rfl)).1
theorem pm_K39 {M : Nat} {σ : pe_H} (h : pm_F M σ) : pe_K σ (M + 39) = 10 := (h.2.2 (49, 39, 10, 3200) (List.mem_of_getElem? (i := 38) rfl)).2.1
theorem pm_L39 {M : Nat} {σ : pe_H} (h : pm_F M σ) : pe_L σ (M + 39) = 3200 := (h.2.2 (49, 39, 10, 3200) (List.mem_of_getElem? (i := 38) rfl)).2.2
theorem pm_R54 {M : Nat} {σ : pe_H} (h : pm_F M σ) : pe_R σ M 54 = M + 40 := (h.2.2 (54, 40, 10, 40) (List.mem_of_getElem? (i := 39) rfl)).1
theorem pm_K40 {M : Nat} {σ : pe_H} (h : pm_F M σ) : pe_K σ (M + 40) = 10 := (h.2.2 (54, 40, 10, 40) (List.mem_of_getElem? (i := 39) rfl)).2.1
theorem pm_L40 {M : Nat} {σ : pe_H} (h : pm_F M σ) : pe_L σ (M + 40) = 40 := (h.2.2 (54, 40, 10, 40) (List.mem_of_getElem? (i := 39) rfl)).2.2
theorem pm_R55 {M : Nat} {σ : pe_H} (h : pm_F M σ) : pe_R σ M 55 = M + 41 := (h.2.2 (55, 41, 10, 8) (List.mem_of_getElem? (i := 40) rfl)).1
theorem pm_K41 {M : Nat} {σ : pe_H} (h : pm_F M σ) : pe_K σ (M + 41) = 10 := (h.2.2 (55, 41, 10, 8) (List.mem_of_getElem? (i := 40) rfl)).2.1
theorem pm_L41 {M : Nat} {σ : pe_H} (h : pm_F M σ) : pe_L σ (M + 41) = 8 := (h.2.2 (55, 41, 10, 8) (List.mem_of_getElem? (i := 40) rfl)).2.2
theorem pm_R57 {M : Nat} {σ : pe_H} (h : pm_F M σ) : pe_R σ M 57 = M + 42 := (h.2.2 (57, 42, 11, 100) (List.mem_of_getElem? (i := 41) rfl)).1
theorem pm_K42 {M : Nat} {σ : pe_H} (h : pm_F M σ) : pe_K σ (M + 42) = 11 := (h.2.2 (57, 42, 11, 100) (List.mem_of_getElem? (i := 41) rfl)).2.1
theorem pm_L42 {M : Nat} {σ : pe_H} (h : pm_F M σ) : pe_L σ (M + 42) = 100 := (h.2.2 (57, 42, 11, 100) (List.mem_of_getElem? (i := 41) rfl)).2.2
theorem pe_wlit : pe_w 0 = 0 := pe_w0
/-! THE OVERLAY: the model's ints at M .. M + 42 by a function; q what keptIn refers to -/
def pm_u (y : Nat → Int → Int) (k : Nat) (j v : Int) : Nat → Int → Int := fun a i => if a = k ∧ i = j then v else y a i
def pm_h (M : Nat) (σ : pe_H) (q : Nat) (y : Nat → Int → Int) : pe_H := (σ.1, σ.2.1, σ.2.2.1, σ.2.2.2.1, (fun a j => if M ≤ a ∧ a ≤ M + 42 then y (a - M) j else σ.2.2.2.2.1 a j), (fun a j => if a = M ∧ j = 53 then q else σ.2.2.2.2.2 a j))
theorem pm_us {y : Nat → Int → Int} {k : Nat} {j v : Int} : pm_u y k j v k j = v := if_pos ⟨rfl, rfl⟩
theorem pm_uk {y : Nat → Int → Int} {k a : Nat} {j i v : Int} (h : a ≠ k) : pm_u y k j v a i = y a i := if_neg (fun q => h q.1)
theorem pm_uj {y : Nat → Int → Int} {k a : Nat} {j i v : Int} (h : i ≠ j) : pm_u y k j v a i = y a i := if_neg (fun q => h q.2)
section
variable {M q : Nat} {σ : pe_H} {y : Nat → Int → Int}
theorem pm_Kh {a : Nat} : pe_K (pm_h M σ q y) a = pe_K σ a := rfl
theorem pm_Lh {a : Nat} : pe_L (pm_h M σ q y) a = pe_L σ a := rfl
theorem pm_Rh {a : Nat} {j : Int} (h : j ≠ 53) : pe_R (pm_h M σ q y) a j = pe_R σ a j := if_neg (fun q => h q.2)
theorem pm_R53 : pe_R (pm_h M σ q y) M 53 = q := if_pos ⟨rfl, rfl⟩
theorem pm_Ik {k : Nat} {j : Int} (h : k ≤ 42) : pe_I (pm_h M σ q y) (M + k) j = y k j := by
  show (if M ≤ M + k ∧ M + k ≤ M + 42 then y (M + k - M) j else _) = _
  rw [if_pos ⟨by omega, by omega⟩, show M + k - M = k by omega]
theorem pm_I0 {j : Int} : pe_I (pm_h M σ q y) M j = y 0 j := pm_Ik (k := 0) (Nat.zero_le _)
theorem pm_wIk {k : Nat} {j v : Int} (h : k ≤ 42) : pe_wI (pm_h M σ q y) (M + k) j v = pm_h M σ q (pm_u y k j v) := by
  unfold pe_wI pm_h
  refine congrArg (fun f => (σ.1, σ.2.1, σ.2.2.1, σ.2.2.2.1, f, _)) ?_
  funext a i
  show (if a = M + k ∧ i = j then v else if M ≤ a ∧ a ≤ M + 42 then y (a - M) i else _) = (if M ≤ a ∧ a ≤ M + 42 then (if a - M = k ∧ i = j then v else y (a - M) i) else _)
  by_cases h1 : a = M + k
  · subst h1
    by_cases h2 : i = j
    · rw [if_pos ⟨rfl, h2⟩, if_pos ⟨by omega, by omega⟩, if_pos ⟨by omega, h2⟩]
    · rw [if_neg (fun q => h2 q.2), if_pos ⟨by omega, by omega⟩, if_pos ⟨by omega, by omega⟩, if_neg (fun q => h2 q.2)]
  · rw [if_neg (fun q => h1 q.1)]
    by_cases h3 : M ≤ a ∧ a ≤ M + 42
    · rw [if_pos h3, if_pos h3, if_neg (fun q => h1 (by omega))]
    · rw [if_neg h3, if_neg h3]
theorem pm_wI0 {j v : Int} : pe_wI (pm_h M σ q y) M j v = pm_h M σ q (pm_u y 0 j v) := pm_wIk (k := 0) (Nat.zero_le _)
theorem pm_wR53 {a : Nat} : pe_wR (pm_h M σ q y) M 53 a = pm_h M σ a y := by
  unfold pe_wR pm_h
  refine congrArg (fun f => (σ.1, σ.2.1, σ.2.2.1, σ.2.2.2.1, _, f)) ?_
  funext b i
  show (if b = M ∧ i = 53 then a else if b = M ∧ i = 53 then q else _) = (if b = M ∧ i = 53 then a else _)
  by_cases h : b = M ∧ i = 53
  · rw [if_pos h, if_pos h]
  · rw [if_neg h, if_neg h, if_neg h]
end
