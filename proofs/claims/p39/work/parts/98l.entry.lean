/-! FROM THE LAW'S ENTRY: new, its constructor, holds -/
def T244 : List (Nat × Instr × Nat) := [(0, .new 11, 3), (3, .dup, 1), (4, .invokespecial 304, 3), (7, .aload_n 0, 1), (8, .invokevirtual 305, 3), (11, .ireturn, 1)]
theorem ck244 : pe_chk (pe_me 244).2.1 T244 = true := by decide +kernel
theorem lw_all {σ : pe_H} {G : pe_S → Prop} (hn : pe_n σ = 3) (hs : ll_sc σ) (hsg : ll_sg σ) (k : ∀ σ' ls, pe_n σ' ≤ 78916 → pe_u σ' ≤ pe_u σ + 266743 → G (11, ls, [.inl 1], σ')) : py_X 21 21 false (pe_me 244).2.1 (0, [some (.inr (.inr 1))], [], σ) G := by
  have nw : ∀ x, x < 3 → pg_same σ (pe_new σ 21 0 9) x := fun x hx => ⟨pe_Kn (by omega), pe_Ln (by omega), fun i => ⟨pe_In (by omega), pe_Rn (by omega)⟩⟩
  refine py_blk 0 2 ck244 [] (4, [some (.inr (.inr 1))], [.inr (.inr (pe_n σ)), .inr (.inr (pe_n σ))], pe_new σ 21 0 9) rfl trivial ?_
  refine py_cal 2 ck244 rfl rfl rfl (show ¬ pe_n σ = 0 by omega) ?_
  rw [hn]
  refine pe_M.up (k144 (d := 0) (σ := pe_new σ 21 0 9) (by show pe_n σ + 1 = 4; omega) (pe_Ke hn.symm) (fun j => pe_Ie hn.symm) (fun σ1 n1 u1 hq sm => ?_)) (by omega)
  have u1 : pe_u σ1 = pe_u σ + 9 + 15638 := u1
  have e1 := pg_same_trans (nw 1 (by decide)) (sm 1 (by decide))
  have e2 := pg_same_trans (nw 2 (by decide)) (sm 2 (by decide))
  refine py_blk 3 1 ck244 [] (8, [some (.inr (.inr 1))], [.inr (.inr 1), .inr (.inr 3)], σ1) rfl trivial ?_
  refine py_cal 4 ck244 rfl rfl rfl ⟨ll_k3 hq.R.L, by decide⟩ ?_
  refine pe_M.up (k172 (d := 0) hq ⟨e1.1.trans hs.1, by rw [e1.2.1]; exact hs.2⟩ ⟨e2.1.trans hsg.1, e2.2.1.trans hsg.2.1, fun i i0 i1 => by rw [(e2.2.2 i).1]; exact hsg.2.2 i i0 i1⟩ rfl rfl ⟨fun i i0 i1 => by have : i < 0 := i1; omega, fun n _ _ => Or.inl rfl⟩ (fun σ2 n2 u2 => ?_)) (by omega)
  have n2 : pe_n σ2 ≤ pe_n σ1 + 78017 := n2
  have u2 : pe_u σ2 ≤ pe_u σ1 + 251096 := u2
  exact py_end (k σ2 _ (by omega) (by omega))
