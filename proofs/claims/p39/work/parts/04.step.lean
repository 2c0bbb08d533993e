/-! A STEP of the pure machine, and what runs -/
abbrev pe_R2 : Type := List Prop × pe_S
def pe_psh (len : Nat) (v : pe_V) (S : pe_S) : Option pe_R2 := some ([], (S.1 + len, S.2.1, v :: S.2.2.1, S.2.2.2))
def pe_ldi (len k : Nat) (S : pe_S) : Option pe_R2 := match pe_ld S.2.1 k with
  | some (.inl x) => pe_psh len (.inl x) S
  | _ => none
def pe_ldl (len k : Nat) (S : pe_S) : Option pe_R2 := match pe_ld S.2.1 k with
  | some (.inr (.inl x)) => pe_psh len (.inr (.inl x)) S
  | _ => none
def pe_lda (len k : Nat) (S : pe_S) : Option pe_R2 := match pe_ld S.2.1 k with
  | some (.inr (.inr x)) => pe_psh len (.inr (.inr x)) S
  | _ => none
def pe_sti (len k : Nat) (S : pe_S) : Option pe_R2 := match S.2.2.1 with
  | .inl x :: st => if k < S.2.1.length then some ([], (S.1 + len, pe_st1 S.2.1 k (.inl x), st, S.2.2.2)) else none
  | _ => none
def pe_stl (len k : Nat) (S : pe_S) : Option pe_R2 := match S.2.2.1 with
  | .inr (.inl x) :: st => if k + 1 < S.2.1.length then some ([], (S.1 + len, pe_st2 S.2.1 k (.inr (.inl x)), st, S.2.2.2)) else none
  | _ => none
def pe_sta (len k : Nat) (S : pe_S) : Option pe_R2 := match S.2.2.1 with
  | .inr (.inr x) :: st => if k < S.2.1.length then some ([], (S.1 + len, pe_st1 S.2.1 k (.inr (.inr x)), st, S.2.2.2)) else none
  | _ => none
def pe_ii (f : Int → Int → List Prop × Int) (S : pe_S) : Option pe_R2 := match S.2.2.1 with
  | .inl y :: .inl x :: st => some ((f x y).1, (S.1 + 1, S.2.1, .inl (f x y).2 :: st, S.2.2.2))
  | _ => none
def pe_ll (f : Int → Int → List Prop × Int) (S : pe_S) : Option pe_R2 := match S.2.2.1 with
  | .inr (.inl y) :: .inr (.inl x) :: st => some ((f x y).1, (S.1 + 1, S.2.1, .inr (.inl (f x y).2) :: st, S.2.2.2))
  | _ => none
def pe_x1 (f : Int → pe_V) (S : pe_S) : Option pe_R2 := match S.2.2.1 with
  | .inl x :: st => some ([], (S.1 + 1, S.2.1, f x :: st, S.2.2.2))
  | _ => none
def pe_y1 (f : Int → pe_V) (S : pe_S) : Option pe_R2 := match S.2.2.1 with
  | .inr (.inl x) :: st => some ([], (S.1 + 1, S.2.1, f x :: st, S.2.2.2))
  | _ => none
def pe_cb (c : Jvm.ClassFile.Cond) (x y : Int) : Bool := match c with
  | .eq => decide (x = y)
  | .ne => decide (¬ x = y)
  | .lt => decide (x < y)
  | .ge => decide (y ≤ x)
  | .gt => decide (y < x)
  | .le => decide (x ≤ y)
def pe_br (c : Bool) (off : Int) (S : pe_S) (st : List pe_V) : Option pe_R2 := match (S.1 : Int) + off with
  | .ofNat t => some ([], (cond c t (S.1 + 3), S.2.1, st, S.2.2.2))
  | _ => none
def pe_sw (d : Int) (ps : List (Int × Int)) (x : Int) : Int := match ps with
  | [] => d
  | (a, o) :: ps => if x = a then o else pe_sw d ps x
def pe_tbl (lo : Int) (os : List Int) : List (Int × Int) := match os with
  | [] => []
  | o :: os => (lo, o) :: pe_tbl (lo + 1) os
def pe_ok (pc : Nat) (os : List Int) : Bool := os.all (fun o => decide (0 ≤ (pc : Int) + o))
def pe_jmp (os : List Int) (off : Int → Int) (S : pe_S) : Option pe_R2 := match S.2.2.1 with
  | .inl x :: st => if pe_ok S.1 os then some ([], (((S.1 : Int) + off (pe_w x)).toNat, S.2.1, st, S.2.2.2)) else none
  | _ => none
def pe_fd (o i : Nat) : Option (Nat × Nat × Nat) := match pe_go (pe_fT o) i with
  | some x => some x
  | none => pe_go (pe_gT o) i
def pe_fty (c j : Nat) : Nat := pe_tc (pe_ty c j)
def pe_fin (c j : Nat) : Bool := ((pe_cl c).2.1 j).2.2.2
def pe_gf (o i : Nat) (S : pe_S) : Option pe_R2 := match S.2.2.1, pe_fd o i with
  | .inr (.inr r) :: st, some (c, j, _) => match pe_fty c j with
    | 0 => some ([pe_K S.2.2.2 r = c], (S.1 + 3, S.2.1, .inl (pe_I S.2.2.2 r j) :: st, S.2.2.2))
    | 3 => some ([pe_K S.2.2.2 r = c], (S.1 + 3, S.2.1, .inl (pe_I S.2.2.2 r j) :: st, S.2.2.2))
    | 2 => some ([pe_K S.2.2.2 r = c], (S.1 + 3, S.2.1, .inr (.inr (pe_R S.2.2.2 r j)) :: st, S.2.2.2))
    | _ => none
  | _, _ => none
def pe_pf (o : Nat) (ini : Bool) (i : Nat) (S : pe_S) : Option pe_R2 := match S.2.2.1, pe_fd o i with
  | .inl x :: .inr (.inr r) :: st, some (c, j, _) => if pe_fin c j && !(ini && Nat.beq o c) then none else match pe_fty c j with
    | 0 => some ([pe_K S.2.2.2 r = c], (S.1 + 3, S.2.1, st, pe_wI S.2.2.2 r j x))
    | 3 => some ([pe_K S.2.2.2 r = c, x = 0 ∨ x = 1], (S.1 + 3, S.2.1, st, pe_wI S.2.2.2 r j x))
    | _ => none
  | .inr (.inr q) :: .inr (.inr r) :: st, some (c, j, _) => if pe_fin c j && !(ini && Nat.beq o c) then none else match pe_fty c j with
    | 2 => some ([pe_K S.2.2.2 r = c], (S.1 + 3, S.2.1, st, pe_wR S.2.2.2 r j q))
    | _ => none
  | _, _ => none
/-- an array's element read: its kinds -/
def pe_al (g : Nat → Prop) (v : pe_H → Nat → Int → pe_V) (S : pe_S) : Option pe_R2 := match S.2.2.1 with
  | .inl x :: .inr (.inr r) :: st => some ([g (pe_K S.2.2.2 r), 0 ≤ pe_w x, pe_w x < pe_L S.2.2.2 r], (S.1 + 1, S.2.1, v S.2.2.2 r (pe_w x) :: st, S.2.2.2))
  | _ => none
def pe_as (S : pe_S) : Option pe_R2 := match S.2.2.1 with
  | .inl y :: .inl x :: .inr (.inr r) :: st => some ([pe_K S.2.2.2 r = 10, 0 ≤ pe_w x, pe_w x < pe_L S.2.2.2 r, 2 ≤ r], (S.1 + 1, S.2.1, st, pe_wI S.2.2.2 r (pe_w x) y))
  | _ => none
def pe_rs (S : pe_S) : Option pe_R2 := match S.2.2.1 with
  | .inr (.inr q) :: .inl x :: .inr (.inr r) :: st => some ([12 ≤ pe_K S.2.2.2 r ∧ pe_K S.2.2.2 r < 19, q = 0 ∨ pe_K S.2.2.2 r = pe_ak (pe_K S.2.2.2 q), 0 ≤ pe_w x, pe_w x < pe_L S.2.2.2 r, 2 ≤ r], (S.1 + 1, S.2.1, st, pe_wR S.2.2.2 r (pe_w x) q))
  | _ => none
def pe_nw (o i : Nat) (S : pe_S) : Option pe_R2 := match pe_go (pe_cT o) i with
  | some (c, _) => some ([], (S.1 + 3, S.2.1, .inr (.inr (pe_n S.2.2.2)) :: S.2.2.1, pe_new S.2.2.2 c 0 (pe_cl c).2.2))
  | _ => none
def pe_na (k len : Nat) (S : pe_S) : Option pe_R2 := match S.2.2.1 with
  | .inl x :: st => some ([0 ≤ pe_w x, pe_w x ≤ 10000], (S.1 + len, S.2.1, .inr (.inr (pe_n S.2.2.2)) :: st, pe_new S.2.2.2 k (pe_w x) (pe_w x).toNat))
  | _ => none
/-- the law's own: references into its arrays -/
def pe_rsL (S : pe_S) : Option pe_R2 := match S.2.2.1 with
  | .inr (.inr q) :: .inl x :: .inr (.inr r) :: st => some ([22 ≤ pe_K S.2.2.2 r ∧ pe_K S.2.2.2 r < 25, q = 0 ∨ (3 ≤ q ∧ pe_K S.2.2.2 q = pe_ek (pe_K S.2.2.2 r)), 0 ≤ pe_w x, pe_w x < pe_L S.2.2.2 r, 3 ≤ r], (S.1 + 1, S.2.1, st, pe_wR S.2.2.2 r (pe_w x) q))
  | _ => none
/-- an array of n arrays of m ints each: numbers in this order -/
def pe_mn2 (σ : pe_H) (n m : Int) : pe_H := (σ.1 + 1 + n.toNat, σ.2.1 + n.toNat + n.toNat * m.toNat, (fun a => if a = σ.1 then 24 else if σ.1 < a ∧ a < σ.1 + 1 + n.toNat then 10 else σ.2.2.1 a), (fun a => if a = σ.1 then n else if σ.1 < a ∧ a < σ.1 + 1 + n.toNat then m else σ.2.2.2.1 a), (fun a k => if σ.1 ≤ a ∧ a < σ.1 + 1 + n.toNat then 0 else σ.2.2.2.2.1 a k), (fun a k => if a = σ.1 then σ.1 + 1 + k.toNat else if σ.1 < a ∧ a < σ.1 + 1 + n.toNat then 0 else σ.2.2.2.2.2 a k))
def pe_mna (S : pe_S) : Option pe_R2 := match S.2.2.1 with
  | .inl y :: .inl x :: st => some ([0 ≤ pe_w x, pe_w x ≤ 1000, 0 ≤ pe_w y, pe_w y ≤ 1000], (S.1 + 4, S.2.1, .inr (.inr (pe_n S.2.2.2)) :: st, pe_mn2 S.2.2.2 (pe_w x) (pe_w y)))
  | _ => none
/-- ints copied from one array to another (or the same) -/
def pe_cpy (σ : pe_H) (s : Nat) (sp : Int) (d : Nat) (dp n : Int) : pe_H := (σ.1, σ.2.1, σ.2.2.1, σ.2.2.2.1, (fun a k => if a = d ∧ dp ≤ k ∧ k < dp + n then σ.2.2.2.2.1 s (sp + (k - dp)) else σ.2.2.2.2.1 a k), σ.2.2.2.2.2)
def pe_min (S : pe_S) : Option pe_R2 := match S.2.2.1 with
  | .inl y :: .inl x :: st => if pe_cat st ≤ 8 then some ([], (S.1 + 3, S.2.1, .inl (if pe_w y < pe_w x then y else x) :: st, S.2.2.2)) else none
  | _ => none
def pe_acp (S : pe_S) : Option pe_R2 := match S.2.2.1 with
  | .inl n :: .inl dp :: .inr (.inr d) :: .inl sp :: .inr (.inr s) :: st => if pe_cat st ≤ 8 then some ([pe_K S.2.2.2 s = 10, pe_K S.2.2.2 d = 10, 2 ≤ d, 0 ≤ pe_w sp, 0 ≤ pe_w dp, 0 ≤ pe_w n, pe_w sp + pe_w n ≤ pe_L S.2.2.2 s, pe_w dp + pe_w n ≤ pe_L S.2.2.2 d], (S.1 + 3, S.2.1, st, pe_cpy S.2.2.2 s (pe_w sp) d (pe_w dp) (pe_w n))) else none
  | _ => none
/-- an array of ints made like another -/
def pe_cln (S : pe_S) : Option pe_R2 := match S.2.2.1 with
  | .inr (.inr r) :: st => if pe_cat st ≤ 8 then some ([pe_K S.2.2.2 r = 10, 2 ≤ r], (S.1 + 3, S.2.1, .inr (.inr (pe_n S.2.2.2)) :: st, pe_cpy (pe_new S.2.2.2 10 (pe_L S.2.2.2 r) (pe_L S.2.2.2 r).toNat) r 0 (pe_n S.2.2.2) 0 (pe_L S.2.2.2 r))) else none
  | _ => none
def pe_cst (S : pe_S) : Option pe_R2 := match S.2.2.1 with
  | .inr (.inr r) :: st => some ([pe_K S.2.2.2 r = 10, 2 ≤ r], (S.1 + 3, S.2.1, .inr (.inr r) :: st, S.2.2.2))
  | _ => none
def pe_nx (o : Nat) (ini : Bool) (i : Instr) (S : pe_S) : Option pe_R2 := match i with
  | .iload k => pe_ldi 2 k S
  | .iload_n k => pe_ldi 1 k.val S
  | .lload k => pe_ldl 2 k S
  | .lload_n k => pe_ldl 1 k.val S
  | .aload k => pe_lda 2 k S
  | .aload_n k => pe_lda 1 k.val S
  | .istore k => pe_sti 2 k S
  | .istore_n k => pe_sti 1 k.val S
  | .lstore k => pe_stl 2 k S
  | .lstore_n k => pe_stl 1 k.val S
  | .astore k => pe_sta 2 k S
  | .astore_n k => pe_sta 1 k.val S
  | .iconst n => pe_psh 1 (.inl n) S
  | .bipush n => if -128 ≤ n ∧ n < 128 then pe_psh 2 (.inl n) S else none
  | .sipush n => if -32768 ≤ n ∧ n < 32768 then pe_psh 3 (.inl n) S else none
  | .lconst n => pe_psh 1 (.inr (.inl (n.val : Int))) S
  | .aconst_null => pe_psh 1 (.inr (.inr 0)) S
  | .ldc_w k => match pe_go (pe_kT o) k with
    | some (v, _) => pe_psh 3 (.inl v) S
    | _ => none
  | .ldc k => match pe_go (pe_kT o) k with
    | some (v, _) => pe_psh 2 (.inl v) S
    | _ => none
  | .ldc2_w k => match pe_go (pe_lT o) k with
    | some (v, _) => pe_psh 3 (.inr (.inl v)) S
    | _ => none
  | .iadd => pe_ii (fun x y => ([], x + y)) S
  | .isub => pe_ii (fun x y => ([], x - y)) S
  | .imul => pe_ii (fun x y => ([], x * y)) S
  | .idiv => pe_ii (fun x y => ([¬ pe_w y = 0], Int.tdiv (pe_w x) (pe_w y))) S
  | .irem => pe_ii (fun x y => ([¬ pe_w y = 0], Int.tmod (pe_w x) (pe_w y))) S
  | .iand => pe_ii (fun x y => ([], pe_and x y)) S
  | .ior => pe_ii (fun x y => ([], pe_or x y)) S
  | .ixor => pe_ii (fun x y => ([], pe_xor x y)) S
  | .ishl => pe_ii (fun x y => ([], pe_shl x y)) S
  | .ishr => pe_ii (fun x y => ([], pe_shr x y)) S
  | .iushr => pe_ii (fun x y => ([], pe_ushr x y)) S
  | .ladd => pe_ll (fun x y => ([], x + y)) S
  | .lsub => pe_ll (fun x y => ([], x - y)) S
  | .lmul => pe_ll (fun x y => ([], x * y)) S
  | .ldiv => pe_ll (fun x y => ([¬ pe_wl y = 0], Int.tdiv (pe_wl x) (pe_wl y))) S
  | .lrem => pe_ll (fun x y => ([¬ pe_wl y = 0], Int.tmod (pe_wl x) (pe_wl y))) S
  | .ineg => pe_x1 (fun x => .inl (-x)) S
  | .i2l => pe_x1 (fun x => .inr (.inl (pe_w x))) S
  | .i2b => pe_x1 (fun x => .inl (pe_i2b x)) S
  | .i2s => pe_x1 (fun x => .inl (pe_i2s x)) S
  | .l2i => pe_y1 (fun x => .inl x) S
  | .lcmp => match S.2.2.1 with
    | .inr (.inl y) :: .inr (.inl x) :: st => some ([], (S.1 + 1, S.2.1, .inl (pe_lcmp x y) :: st, S.2.2.2))
    | _ => none
  | .iinc k n => match pe_ld S.2.1 k with
    | some (.inl x) => if k < S.2.1.length then some ([], (S.1 + 3, pe_st1 S.2.1 k (.inl (x + n)), S.2.2.1, S.2.2.2)) else none
    | _ => none
  | .dup => match S.2.2.1 with
    | .inl x :: st => some ([], (S.1 + 1, S.2.1, .inl x :: .inl x :: st, S.2.2.2))
    | .inr (.inr x) :: st => some ([], (S.1 + 1, S.2.1, .inr (.inr x) :: .inr (.inr x) :: st, S.2.2.2))
    | _ => none
  | .dup2 => match S.2.2.1 with
    | .inl x :: .inr (.inr y) :: st => some ([], (S.1 + 1, S.2.1, .inl x :: .inr (.inr y) :: .inl x :: .inr (.inr y) :: st, S.2.2.2))
    | _ => none
  | .pop => match S.2.2.1 with
    | .inl _ :: st => some ([], (S.1 + 1, S.2.1, st, S.2.2.2))
    | .inr (.inr _) :: st => some ([], (S.1 + 1, S.2.1, st, S.2.2.2))
    | _ => none
  | .goto off => pe_br true off S S.2.2.1
  | .if_icmp c off => match S.2.2.1 with
    | .inl y :: .inl x :: st => pe_br (pe_cb c (pe_w x) (pe_w y)) off S st
    | _ => none
  | .ifCond c off => match S.2.2.1 with
    | .inl x :: st => pe_br (pe_cb c (pe_w x) 0) off S st
    | _ => none
  | .ifnull off => match S.2.2.1 with
    | .inr (.inr x) :: st => pe_br (decide (x = 0)) off S st
    | _ => none
  | .ifnonnull off => match S.2.2.1 with
    | .inr (.inr x) :: st => pe_br (decide (¬ x = 0)) off S st
    | _ => none
  | .tableswitch d lo hi os => if hi + 1 = lo + (os.toList.length : Int) then pe_jmp (d :: os.toList) (pe_sw d (pe_tbl lo os.toList)) S else none
  | .lookupswitch d ps => if (ps.toList.zip (ps.toList.drop 1)).all (fun (a, next) => decide (a.1 < next.1)) = true then pe_jmp (d :: ps.toList.map (·.2)) (pe_sw d ps.toList) S else none
  | .getfield k => pe_gf o k S
  | .putfield k => pe_pf o ini k S
  | .iaload => if Nat.blt o 19 then pe_al (fun k => k = 10) (fun σ r j => .inl (pe_I σ r j)) S else pe_al (fun k => k = 10 ∨ k = 25) (fun σ r j => .inl (pe_I σ r j)) S
  | .aaload => if Nat.blt o 19 then pe_al (fun k => 12 ≤ k ∧ k < 19) (fun σ r j => .inr (.inr (pe_R σ r j))) S else pe_al (fun k => 22 ≤ k ∧ k < 25) (fun σ r j => .inr (.inr (pe_R σ r j))) S
  | .iastore => pe_as S
  | .aastore => if Nat.blt o 19 then pe_rs S else pe_rsL S
  | .arraylength => match S.2.2.1 with
    | .inr (.inr r) :: st => if Nat.blt o 19 then some ([10 ≤ pe_K S.2.2.2 r ∧ pe_K S.2.2.2 r < 19], (S.1 + 1, S.2.1, .inl (pe_L S.2.2.2 r) :: st, S.2.2.2)) else some ([pe_K S.2.2.2 r = 10 ∨ (22 ≤ pe_K S.2.2.2 r ∧ pe_K S.2.2.2 r < 26)], (S.1 + 1, S.2.1, .inl (pe_L S.2.2.2 r) :: st, S.2.2.2))
    | _ => none
  | .new k => pe_nw o k S
  | .newarray .int => pe_na 10 2 S
  | .anewarray k => match pe_go (pe_cT o) k with
    | some (c, _) => if c < 7 then pe_na (pe_ak c) 3 S else if c = 19 then pe_na 22 3 S else if c = 20 then pe_na 23 3 S else none
    | none => if Nat.beq o 21 && Nat.beq k pe_xa.1 then pe_na 24 3 S else none
  | .multianewarray k n => if Nat.beq o 21 && (Nat.beq k pe_xm.1 && Nat.beq n 2) then pe_mna S else none
  | .getstatic k => if Nat.beq o 21 && Nat.beq k pe_xs.1 then pe_psh 3 (.inr (.inr 2)) S else none
  | .invokespecial k => match S.2.2.1, pe_go (pe_oT o) k with
    | .inr (.inr r) :: st, some _ => if pe_cat st ≤ 8 then some ([¬ r = 0], (S.1 + 3, S.2.1, st, S.2.2.2)) else none
    | _, _ => none
  | .invokestatic k => match pe_go (pe_bT o) k with
    | some _ => pe_min S
    | none => match pe_go (pe_aT o) k with
      | some _ => pe_acp S
      | none => none
  | .invokevirtual k => if Nat.beq o 13 && Nat.beq k 316 then pe_cln S else none
  | .checkcast k => if Nat.beq o 13 && Nat.beq k 317 then pe_cst S else none
  | _ => none
/-- a call: the method, its arguments (the receiver first), what is left on the stack, what is asked -/
def pe_pop : Nat → List pe_V → List pe_V → Option (List pe_V × List pe_V)
  | 0, acc, st => some (acc, st)
  | _ + 1, _, [] => none
  | n + 1, acc, v :: st => pe_pop n (v :: acc) st
def pe_ivk (tab : List (Nat × Nat × Nat)) (i : Nat) (S : pe_S) (sty : Nat → Bool) : Option (Nat × List pe_V × List pe_V) := match pe_go tab i with
  | some (m, _) => if sty (pe_me m).2.2.2.2.2.1 then match pe_pop (if (pe_me m).2.2.2.2.2.1 = 2 then (pe_me m).2.2.2.2.2.2.2.1 else (pe_me m).2.2.2.2.2.2.2.1 + 1) [] S.2.2.1 with
    | some (as, st) => if pe_cat st ≤ 8 then some (m, as, st) else none
    | none => none
    else none
  | none => none
def pe_call (o : Nat) (i : Instr) (S : pe_S) : Option (Nat × List pe_V × List pe_V) := match i with
  | .invokevirtual k => pe_ivk (pe_iT o) k S (fun t => Nat.beq t 0)
  | .invokespecial k => match pe_go (pe_jT o) k with
    | some _ => pe_ivk (pe_jT o) k S (fun t => Nat.beq t 1)
    | none => pe_ivk (pe_iT o) k S (fun t => Nat.beq t 1)
  | .invokestatic k => pe_ivk (pe_iT o) k S (fun t => Nat.beq t 2)
  | _ => none
/-- what a virtual call asks of its receiver -/
def pe_recv (m : Nat) (as : List pe_V) (σ : pe_H) : Prop := if (pe_me m).2.2.2.2.2.1 = 0 then match as with
    | .inr (.inr r) :: _ => pe_K σ r = (pe_me m).2.2.2.2.1 ∧ pe_kc (pe_me m).2.2.2.2.1 = true
    | _ => False
  else if (pe_me m).2.2.2.2.2.1 = 1 then match as with
    | .inr (.inr r) :: _ => ¬ r = 0
    | _ => False
  else True
/-- an answer -/
def pe_ret (rt : Option FieldType) (i : Instr) (S : pe_S) : Option (List Prop × Option pe_V) := match i, S.2.2.1, rt with
  | .return_, [], none => some ([], none)
  | .ireturn, [.inl x], some .int => some ([], some (.inl x))
  | .ireturn, [.inl x], some .boolean => some ([x = 0 ∨ x = 1], some (.inl x))
  | .lreturn, [.inr (.inl x)], some .long => some ([], some (.inr (.inl x)))
  | .areturn, [.inr (.inr x)], some (.object _) => some ([], some (.inr (.inr x)))
  | .areturn, [.inr (.inr x)], some (.array _) => some ([], some (.inr (.inr x)))
  | _, _, _ => none
def pe_ln (i : Instr) : Nat := match i with
  | .iload _ => 2
  | .lload _ => 2
  | .aload _ => 2
  | .istore _ => 2
  | .lstore _ => 2
  | .astore _ => 2
  | .bipush _ => 2
  | .ldc _ => 2
  | .sipush _ => 3
  | .ldc_w _ => 3
  | .ldc2_w _ => 3
  | .iinc _ _ => 3
  | .goto _ => 3
  | .if_icmp _ _ => 3
  | .ifCond _ _ => 3
  | .ifnull _ => 3
  | .ifnonnull _ => 3
  | .getfield _ => 3
  | .putfield _ => 3
  | .new _ => 3
  | .newarray _ => 2
  | .anewarray _ => 3
  | .checkcast _ => 3
  | .getstatic _ => 3
  | .multianewarray _ _ => 4
  | .invokevirtual _ => 3
  | .invokespecial _ => 3
  | .invokestatic _ => 3
  | .tableswitch _ _ _ _ => 0
  | .lookupswitch _ _ => 0
  | _ => 1
abbrev pe_CR : Type := Nat → List pe_V → pe_H → Option pe_V → pe_H → Prop
def pe_stp (C : pe_CR) (o : Nat) (ini : Bool) (rt : Option FieldType) (b : ByteArray) (S : pe_S) (P : pe_S → Prop) (Q : Option pe_V → pe_H → Prop) : Prop :=
  ∃ (i : Instr) (len : Nat), decode b S.1 = .ok (i, len) ∧ (pe_ln i = len ∨ pe_ln i = 0) ∧
    ((∃ φ S', pe_nx o ini i S = some (φ, S') ∧ pe_all φ ∧ P S') ∨
     (∃ m as st r σ', pe_call o i S = some (m, as, st) ∧ pe_recv m as S.2.2.2 ∧ C m as S.2.2.2 r σ' ∧ P (S.1 + 3, S.2.1, r.toList ++ st, σ')) ∨
     (∃ φ r, pe_ret rt i S = some (φ, r) ∧ pe_all φ ∧ Q r S.2.2.2))
/-- from S the method comes to its answer r with the heap σ' -/
def pe_Ev (C : pe_CR) (o : Nat) (ini : Bool) (rt : Option FieldType) (b : ByteArray) (S : pe_S) (r : Option pe_V) (σ' : pe_H) : Prop :=
  ∀ P : pe_S → Prop, (∀ S, pe_stp C o ini rt b S P (fun r0 σ0 => r0 = r ∧ σ0 = σ') → P S) → P S
/-- the first locals: longs take two -/
def pe_lc : List pe_V → List (Option pe_V)
  | [] => []
  | .inr (.inl x) :: l => some (.inr (.inl x)) :: none :: pe_lc l
  | v :: l => some v :: pe_lc l
def pe_lo (as : List pe_V) (n : Nat) : List (Option pe_V) := pe_lc as ++ List.replicate (n - (pe_lc as).length) none
def pe_C : Nat → pe_CR
  | 0 => fun _ _ _ _ _ => False
  | d + 1 => fun m as σ r σ' => (pe_lc as).length ≤ (pe_me m).2.2.1 ∧ m < pe_mn ∧ m ≠ pe_ml ∧ pe_Ev (pe_C d) (pe_me m).2.2.2.2.1 (pe_me m).2.2.2.2.2.2.1 (pe_me m).2.2.2.1 (pe_me m).2.1 (0, pe_lo as (pe_me m).2.2.1, [], σ) r σ'
