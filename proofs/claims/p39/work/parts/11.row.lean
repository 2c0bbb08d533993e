/-! SOUND, 7: a step, all instructions -/
theorem pe_mono {o : Nat} {ini : Bool} {i : Instr} {S S' : pe_S} {φ : List Prop} (hs : pe_nx o ini i S = some (φ, S')) : pe_n S.2.2.2 ≤ pe_n S'.2.2.2 ∧ pe_u S.2.2.2 ≤ pe_u S'.2.2.2 := by
  unfold pe_nx at hs
  split at hs
  all_goals try simp only [pe_ldi, pe_ldl, pe_lda, pe_sti, pe_stl, pe_sta, pe_psh, pe_ii, pe_ll, pe_x1, pe_y1, pe_br, pe_jmp, pe_gf, pe_pf, pe_al, pe_as, pe_rs, pe_rsL, pe_mna, pe_nw, pe_na, pe_min, pe_acp, pe_cln, pe_cst] at hs
  all_goals repeat' split at hs
  all_goals first
    | (cases hs; exact ⟨Nat.le_refl _, Nat.le_refl _⟩)
    | (cases hs; exact ⟨Nat.le_succ _, Nat.le_add_right _ _⟩)
    | (cases hs; exact ⟨Nat.le_trans (Nat.le_succ _) (Nat.le_add_right _ _), Nat.le_trans (Nat.le_add_right _ _) (Nat.le_add_right _ _)⟩)
    | cases hs
section PEW5
variable {p : Program} {l : Launch} {e : Env} {R : Room} {s : State} {m : MethodId} {args : Array Value} {below : List Frame} {meth : Method} {c : Code} {Q : State → Prop} {cc : ByteArray}
variable {D : va_G} {cA : Nat → ClassId} {b : Nat × Nat} {n0 : Nat} {H0 : Heap} {nS uS nF uF nL : Nat}

theorem pe_by8 {n : Int} (h1 : -128 ≤ n) (h2 : n < 128) : (Int8.ofInt n).toInt32 = Int32.ofInt n := by
  apply Int32.toInt_inj.mp
  rw [Int8.toInt_toInt32, Int8.toInt_ofInt_of_le (by simpa using h1) (by simpa using h2), Int32.toInt_ofInt_of_le (by simp; omega) (by simp; omega)]
theorem pe_sh16 {n : Int} (h1 : -32768 ≤ n) (h2 : n < 32768) : (Int16.ofInt n).toInt32 = Int32.ofInt n := by
  apply Int32.toInt_inj.mp
  rw [Int16.toInt_toInt32, Int16.toInt_ofInt_of_le (by simpa using h1) (by simpa using h2), Int32.toInt_ofInt_of_le (by simp; omega) (by simp; omega)]
theorem pe_row {S S' : pe_S} {φ : List Prop} {o : Nat} {ini : Bool} {i : Instr} {len : Nat} (hx : p.tables.exec = Jvm.exec) (hb : c.code = cc) (hf : 1 ≤ R.frames) (hlo : 60 ≤ R.locals) (hml : c.maxLocals = nL) (hRc : nF - nS ≤ R.cells) (hRs : uF - uS ≤ R.slots)
    (hts : ∀ w ∈ pe_TB, w.before args s = true) (hown : s.vm.findClass (pe_rn o) = some m.cls) (hN : pe_N s) (hini : ini = true → meth.name = "<init>") (hG : pe_G D cA b n0 H0 s) (hs : pe_nx o ini i S = some (φ, S')) (hφ : pe_all φ) (hd0 : decode cc S.1 = .ok (i, len)) (hlen : pe_ln i = len ∨ pe_ln i = 0)
    (h : pe_PW p l e R s m args below meth c Q D cA b n0 H0 nS uS nF uF nL S') : pe_PW p l e R s m args below meth c Q D cA b n0 H0 nS uS nF uF nL S := by
  have len_of : ∀ k, pe_ln i = k + 1 → decode cc S.1 = .ok (i, k + 1) := fun k hk => by
    rcases hlen with q | q
    · rw [← hk, q]; exact hd0
    · rw [hk] at q; exact absurd q (by omega)
  cases i with
  | iload k =>
    have hd := len_of 1 rfl
    have hs := hs
    unfold pe_nx at hs
    dsimp only at hs
    exact pe_r_ldi hx hb hs (Or.inl ⟨rfl, hd⟩) h
  | iload_n k =>
    have hd := len_of 0 rfl
    have hs := hs
    unfold pe_nx at hs
    dsimp only at hs
    exact pe_r_ldi hx hb hs (Or.inr ⟨k, rfl, rfl, hd⟩) h
  | lload k =>
    have hd := len_of 1 rfl
    have hs := hs
    unfold pe_nx at hs
    dsimp only at hs
    exact pe_r_ldl hx hb hs (Or.inl ⟨rfl, hd⟩) h
  | lload_n k =>
    have hd := len_of 0 rfl
    have hs := hs
    unfold pe_nx at hs
    dsimp only at hs
    exact pe_r_ldl hx hb hs (Or.inr ⟨k, rfl, rfl, hd⟩) h
  | aload k =>
    have hd := len_of 1 rfl
    have hs := hs
    unfold pe_nx at hs
    dsimp only at hs
    exact pe_r_lda hx hb hs (Or.inl ⟨rfl, hd⟩) h
  | aload_n k =>
    have hd := len_of 0 rfl
    have hs := hs
    unfold pe_nx at hs
    dsimp only at hs
    exact pe_r_lda hx hb hs (Or.inr ⟨k, rfl, rfl, hd⟩) h
  | istore k =>
    have hd := len_of 1 rfl
    have hs := hs
    unfold pe_nx at hs
    dsimp only at hs
    exact pe_r_sti hx hb hs (Or.inl ⟨rfl, hd⟩) h
  | istore_n k =>
    have hd := len_of 0 rfl
    have hs := hs
    unfold pe_nx at hs
    dsimp only at hs
    exact pe_r_sti hx hb hs (Or.inr ⟨k, rfl, rfl, hd⟩) h
  | lstore k =>
    have hd := len_of 1 rfl
    have hs := hs
    unfold pe_nx at hs
    dsimp only at hs
    exact pe_r_stl hx hb hs (Or.inl ⟨rfl, hd⟩) h
  | lstore_n k =>
    have hd := len_of 0 rfl
    have hs := hs
    unfold pe_nx at hs
    dsimp only at hs
    exact pe_r_stl hx hb hs (Or.inr ⟨k, rfl, rfl, hd⟩) h
  | astore k =>
    have hd := len_of 1 rfl
    have hs := hs
    unfold pe_nx at hs
    dsimp only at hs
    exact pe_r_sta hx hb hs (Or.inl ⟨rfl, hd⟩) h
  | astore_n k =>
    have hd := len_of 0 rfl
    have hs := hs
    unfold pe_nx at hs
    dsimp only at hs
    exact pe_r_sta hx hb hs (Or.inr ⟨k, rfl, rfl, hd⟩) h
  | iconst n =>
    have hd := len_of 0 rfl
    have hs := hs
    unfold pe_nx at hs
    dsimp only at hs
    exact pe_r_psh hx hb hs (fun H Ls locs k z rest kk => lv_iconst hx hb hd rfl kk) h
  | bipush n =>
    have hd := len_of 1 rfl
    have hs := hs
    unfold pe_nx at hs
    dsimp only at hs
    split at hs
    · rename_i hn
      refine pe_r_psh hx hb hs (fun H Ls locs k z rest kk => lv_bipush hx hb hd ?_ kk) h
      exact pe_by8 hn.1 hn.2
    · cases hs
  | sipush n =>
    have hd := len_of 2 rfl
    have hs := hs
    unfold pe_nx at hs
    dsimp only at hs
    split at hs
    · rename_i hn
      refine pe_r_psh hx hb hs (fun H Ls locs k z rest kk => lv_sipush hx hb hd ?_ kk) h
      exact pe_sh16 hn.1 hn.2
    · cases hs
  | lconst n =>
    have hd := len_of 0 rfl
    have hs := hs
    unfold pe_nx at hs
    dsimp only at hs
    exact pe_r_psh hx hb hs (fun H Ls locs k z rest kk => lv_lconst hx hb hd rfl kk) h
  | aconst_null =>
    have hd := len_of 0 rfl
    have hs := hs
    unfold pe_nx at hs
    dsimp only at hs
    exact pe_r_psh hx hb hs (fun H Ls locs k z rest kk => lv_null hx hb hd kk) h
  | ldc_w k =>
    have hd := len_of 2 rfl
    have hs := hs
    unfold pe_nx at hs
    dsimp only at hs
    split at hs
    · rename_i v pl hg
      exact pe_r_psh hx hb hs (fun H Ls locs k z rest kk => lv_ldcw hx hb hown (hts _ (pe_kok _ _ _ _ hg)) hd kk) h
    · cases hs
  | ldc k =>
    have hd := len_of 1 rfl
    have hs := hs
    unfold pe_nx at hs
    dsimp only at hs
    split at hs
    · rename_i v pl hg
      exact pe_r_psh hx hb hs (fun H Ls locs k z rest kk => W.ldc hx hb hown (hts _ (pe_kok _ _ _ _ hg)) rfl hd kk) h
    · cases hs
  | ldc2_w k =>
    have hd := len_of 2 rfl
    have hs := hs
    unfold pe_nx at hs
    dsimp only at hs
    split at hs
    · rename_i v pl hg
      exact pe_r_psh hx hb hs (fun H Ls locs k z rest kk => lv_ldc2 hx hb hown (hts _ (pe_lok _ _ _ _ hg)) hd kk) h
    · cases hs
  | iadd =>
    have hd := len_of 0 rfl
    have hs := hs
    unfold pe_nx at hs
    dsimp only at hs
    exact pe_r_iadd hx hb hs hφ hd h
  | isub =>
    have hd := len_of 0 rfl
    have hs := hs
    unfold pe_nx at hs
    dsimp only at hs
    exact pe_r_isub hx hb hs hφ hd h
  | imul =>
    have hd := len_of 0 rfl
    have hs := hs
    unfold pe_nx at hs
    dsimp only at hs
    exact pe_r_imul hx hb hs hφ hd h
  | idiv =>
    have hd := len_of 0 rfl
    have hs := hs
    unfold pe_nx at hs
    dsimp only at hs
    exact pe_r_idiv hx hb hs hφ hd h
  | irem =>
    have hd := len_of 0 rfl
    have hs := hs
    unfold pe_nx at hs
    dsimp only at hs
    exact pe_r_irem hx hb hs hφ hd h
  | iand =>
    have hd := len_of 0 rfl
    have hs := hs
    unfold pe_nx at hs
    dsimp only at hs
    exact pe_r_iand hx hb hs hφ hd h
  | ior =>
    have hd := len_of 0 rfl
    have hs := hs
    unfold pe_nx at hs
    dsimp only at hs
    exact pe_r_ior hx hb hs hφ hd h
  | ixor =>
    have hd := len_of 0 rfl
    have hs := hs
    unfold pe_nx at hs
    dsimp only at hs
    exact pe_r_ixor hx hb hs hφ hd h
  | ishl =>
    have hd := len_of 0 rfl
    have hs := hs
    unfold pe_nx at hs
    dsimp only at hs
    exact pe_r_ishl hx hb hs hφ hd h
  | ishr =>
    have hd := len_of 0 rfl
    have hs := hs
    unfold pe_nx at hs
    dsimp only at hs
    exact pe_r_ishr hx hb hs hφ hd h
  | iushr =>
    have hd := len_of 0 rfl
    have hs := hs
    unfold pe_nx at hs
    dsimp only at hs
    exact pe_r_iushr hx hb hs hφ hd h
  | ladd =>
    have hd := len_of 0 rfl
    have hs := hs
    unfold pe_nx at hs
    dsimp only at hs
    exact pe_r_ladd hx hb hs hφ hd h
  | lsub =>
    have hd := len_of 0 rfl
    have hs := hs
    unfold pe_nx at hs
    dsimp only at hs
    exact pe_r_lsub hx hb hs hφ hd h
  | lmul =>
    have hd := len_of 0 rfl
    have hs := hs
    unfold pe_nx at hs
    dsimp only at hs
    exact pe_r_lmul hx hb hs hφ hd h
  | ldiv =>
    have hd := len_of 0 rfl
    have hs := hs
    unfold pe_nx at hs
    dsimp only at hs
    exact pe_r_ldiv hx hb hs hφ hd h
  | lrem =>
    have hd := len_of 0 rfl
    have hs := hs
    unfold pe_nx at hs
    dsimp only at hs
    exact pe_r_lrem hx hb hs hφ hd h
  | ineg =>
    have hd := len_of 0 rfl
    have hs := hs
    unfold pe_nx at hs
    dsimp only at hs
    exact pe_r_x1 hx hb hs (fun x H Ls locs k z rest kk => lv_ineg hx hb hd (by rw [pe_neg]; exact kk)) h
  | i2l =>
    have hd := len_of 0 rfl
    have hs := hs
    unfold pe_nx at hs
    dsimp only at hs
    exact pe_r_x1 hx hb hs (fun x H Ls locs k z rest kk => lv_i2l hx hb hd (pe_i2l_ok x) kk) h
  | i2b =>
    have hd := len_of 0 rfl
    have hs := hs
    unfold pe_nx at hs
    dsimp only at hs
    exact pe_r_x1 hx hb hs (fun x H Ls locs k z rest kk => lv_i2b hx hb hd (by show _ = Int32.ofInt (pe_i2b x); unfold pe_i2b; exact (Int32.ofInt_toInt _).symm) kk) h
  | i2s =>
    have hd := len_of 0 rfl
    have hs := hs
    unfold pe_nx at hs
    dsimp only at hs
    exact pe_r_x1 hx hb hs (fun x H Ls locs k z rest kk => lv_i2s hx hb hd (by show _ = Int32.ofInt (pe_i2s x); unfold pe_i2s; exact (Int32.ofInt_toInt _).symm) kk) h
  | l2i =>
    have hd := len_of 0 rfl
    have hs := hs
    unfold pe_nx at hs
    dsimp only at hs
    exact pe_r_y1 hx hb hs (fun x H Ls locs k z rest kk => lv_l2i hx hb hd (pe_l2i_ok x) kk) h
  | lcmp =>
    have hd := len_of 0 rfl
    have hs := hs
    unfold pe_nx at hs
    dsimp only at hs
    exact pe_r_lcmp hx hb hs hd h
  | iinc k n =>
    have hd := len_of 2 rfl
    have hs := hs
    unfold pe_nx at hs
    dsimp only at hs
    exact pe_r_iinc hx hb hs hd h
  | dup =>
    have hd := len_of 0 rfl
    have hs := hs
    unfold pe_nx at hs
    dsimp only at hs
    exact pe_r_dup hx hb hs hd h
  | dup2 =>
    have hd := len_of 0 rfl
    have hs := hs
    unfold pe_nx at hs
    dsimp only at hs
    exact pe_r_dup2 hx hb hs hd h
  | pop =>
    have hd := len_of 0 rfl
    have hs := hs
    unfold pe_nx at hs
    dsimp only at hs
    exact pe_r_pop hx hb hs hd h
  | goto off =>
    have hd := len_of 2 rfl
    have hs := hs
    unfold pe_nx at hs
    dsimp only at hs
    exact pe_r_goto hx hb hs hd h
  | if_icmp q off =>
    have hd := len_of 2 rfl
    have hs := hs
    unfold pe_nx at hs
    dsimp only at hs
    exact pe_r_icmp hx hb hs hd h
  | ifCond q off =>
    have hd := len_of 2 rfl
    have hs := hs
    unfold pe_nx at hs
    dsimp only at hs
    exact pe_r_if hx hb hs hd h
  | ifnull off =>
    have hd := len_of 2 rfl
    have hs := hs
    unfold pe_nx at hs
    dsimp only at hs
    exact pe_r_ifnull hx hb hs hd h
  | ifnonnull off =>
    have hd := len_of 2 rfl
    have hs := hs
    unfold pe_nx at hs
    dsimp only at hs
    exact pe_r_ifnonnull hx hb hs hd h
  | tableswitch d lo hi os =>
    have hs := hs
    unfold pe_nx at hs
    dsimp only at hs
    split at hs
    · rename_i hl
      exact pe_r_tsw hx hb hs hl hd0 h
    · cases hs
  | lookupswitch d ps =>
    have hs := hs
    unfold pe_nx at hs
    dsimp only at hs
    split at hs
    · rename_i hl
      exact pe_r_lsw hx hb hs hl hd0 h
    · cases hs
  | getfield k =>
    have hd := len_of 2 rfl
    have hs := hs
    unfold pe_nx at hs
    dsimp only at hs
    exact pe_r_gf hx hb hs hφ hts hN hown hG hd h
  | putfield k =>
    have hd := len_of 2 rfl
    have hs := hs
    unfold pe_nx at hs
    dsimp only at hs
    exact pe_r_pf hx hb hs hφ hts hN hown hini hG hd h
  | iaload =>
    have hd := len_of 0 rfl
    have hs := hs
    unfold pe_nx at hs
    dsimp only at hs
    split at hs
    · exact pe_r_iaload hx hb (fun _ q => Or.inl q) hs hφ hG hd h
    · exact pe_r_iaload hx hb (fun _ q => q) hs hφ hG hd h
  | aaload =>
    have hd := len_of 0 rfl
    have hs := hs
    unfold pe_nx at hs
    dsimp only at hs
    split at hs
    · exact pe_r_aaload hx hb (fun _ q => Or.inl q) hs hφ hG hd h
    · exact pe_r_aaload hx hb (fun _ q => Or.inr q) hs hφ hG hd h
  | iastore =>
    have hd := len_of 0 rfl
    have hs := hs
    unfold pe_nx at hs
    dsimp only at hs
    exact pe_r_iastore hx hb hs hφ hG hd h
  | aastore =>
    have hd := len_of 0 rfl
    have hs := hs
    unfold pe_nx at hs
    dsimp only at hs
    split at hs
    · exact pe_r_aastore hx hb hs hφ hG hd h
    · exact pe_r_aastoreL hx hb hs hφ hG hd h
  | arraylength =>
    have hd := len_of 0 rfl
    have hs := hs
    unfold pe_nx at hs
    dsimp only at hs
    have key : ∀ gk : Nat → Prop, (∀ k, gk k → pe_ka k = true) → (match S.2.2.1 with | .inr (.inr r) :: st => some ([gk (pe_K S.2.2.2 r)], (S.1 + 1, S.2.1, .inl (pe_L S.2.2.2 r) :: st, S.2.2.2)) | _ => none) = some (φ, S') → pe_PW p l e R s m args below meth c Q D cA b n0 H0 nS uS nF uF nL S := fun gk hgk hs => pe_r_alen hx hb hgk hs hφ hG hd h
    by_cases ho : Nat.blt o 19 = true
    · refine key (fun k => 10 ≤ k ∧ k < 19) (fun k q => ?_) ?_
      · exact pe_ka_of (Or.inl q)
      · simp only [ho, if_true] at hs
        exact hs
    · refine key (fun k => k = 10 ∨ (22 ≤ k ∧ k < 26)) (fun k q => pe_ka_of (by omega)) ?_
      simp only [ho, if_false] at hs
      exact hs
  | new k =>
    have hd := len_of 2 rfl
    have hs := hs
    unfold pe_nx at hs
    dsimp only at hs
    exact pe_r_nw hx hb hs hRc hRs hts hown hG hd h
  | newarray t =>
    have hd := len_of 1 rfl
    have hs := hs
    unfold pe_nx at hs
    dsimp only at hs
    cases t with
    | int => exact pe_r_na_int hx hb hs hRc hRs hφ hts hG hd h
    | _ => cases hs
  | anewarray k =>
    have hd := len_of 2 rfl
    have hs2 := hs
    unfold pe_nx at hs2
    dsimp only at hs2
    split at hs2
    · rename_i cI pl hg
      split at hs2
      · rename_i hc7
        exact pe_r_an hx hb hs2 hRc hRs hg hc7 hφ hts hown hG hd h
      · split at hs2
        · rename_i hc
          exact pe_r_anL hx hb hs2 hRc hRs hg (Or.inl ⟨hc, rfl⟩) hφ hts hown hG hd h
        · split at hs2
          · rename_i hc
            exact pe_r_anL hx hb hs2 hRc hRs hg (Or.inr ⟨hc, rfl⟩) hφ hts hown hG hd h
          · cases hs2
    · split at hs2
      · rename_i hq
        obtain ⟨q1, q2⟩ := pe_beq2 hq
        subst q1
        exact pe_r_anA hx hb hs2 hRc hRs q2 hφ hts hown hG hd h
      · cases hs2
  | multianewarray k n =>
    have hd := len_of 3 rfl
    have hs2 := hs
    unfold pe_nx at hs2
    dsimp only at hs2
    split at hs2
    · rename_i hq
      rw [Bool.and_eq_true] at hq
      obtain ⟨q2, q3⟩ := pe_beq2 hq.2
      have q1 := Nat.eq_of_beq_eq_true hq.1
      subst q1
      subst q3
      exact pe_r_mna hx hb hs2 q2 hRc hRs hφ hts hown hG hd h
    · cases hs2
  | getstatic k =>
    have hd := len_of 2 rfl
    have hs2 := hs
    unfold pe_nx at hs2
    dsimp only at hs2
    split at hs2
    · rename_i hq
      obtain ⟨q1, q2⟩ := pe_beq2 hq
      subst q1
      exact pe_r_gs hx hb hs2 q2 hts hown hG hd h
    · cases hs2
  | invokespecial k =>
    have hd := len_of 2 rfl
    have hs := hs
    unfold pe_nx at hs
    dsimp only at hs
    exact pe_r_oi hx hb hs hf (by omega) hml hφ hts hown hd h
  | invokestatic k =>
    have hd := len_of 2 rfl
    have hs := hs
    unfold pe_nx at hs
    dsimp only at hs
    split at hs
    · rename_i pl hg
      exact pe_r_min hx hb hs hf hlo hml hRc hRs hg hts hown hd h
    · split at hs
      · rename_i pl hg
        exact pe_r_acp hx hb hs hf hlo hml hφ hg hts hown hG hd h
      · cases hs
  | invokevirtual k =>
    have hd := len_of 2 rfl
    have hs := hs
    unfold pe_nx at hs
    dsimp only at hs
    split at hs
    · rename_i hq
      obtain ⟨q1, q2⟩ := pe_beq2 hq
      subst q1
      subst q2
      exact pe_r_cln hx hb hs hf hlo hml hRc hRs hφ hts hown hG hd h
    · cases hs
  | checkcast k =>
    have hd := len_of 2 rfl
    have hs := hs
    unfold pe_nx at hs
    dsimp only at hs
    split at hs
    · rename_i hq
      obtain ⟨q1, q2⟩ := pe_beq2 hq
      subst q1
      subst q2
      exact pe_r_cst hx hb hs hφ hts hown hG hd h
    · cases hs
  | _ => exact absurd hs (by unfold pe_nx; simp)
end PEW5
