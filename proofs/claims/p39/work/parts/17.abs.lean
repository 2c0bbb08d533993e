/-! THE ABSTRACT MACHINE: what both sides come to.
Numbers of a coroutine: 0 program, 2 state, 3 acc, 4 out, 5 outs, 6 age, 7 waits for, 20 kind, 21 figure; of a frame: 1 program's number, 2 step, 3 count, 4 finishing; of the machine: 4 how many, 5 width, 6 round.
A frame: numbers, its program, what it holds (none; some []: a close; some l: a fault, its codes). A coroutine: numbers, its fault, its frames (the one on top first). The machine: numbers, coroutines, programs, queues (0 senders, 1 getters; channel). -/
abbrev pa_P : Type := List (Int × Int)
abbrev pa_F : Type := (Nat → Int) × pa_P × Option (List Int)
abbrev pa_C : Type := (Nat → Int) × List Int × List pa_F
abbrev pa_M : Type := (Nat → Int) × (Int → pa_C) × (Int → pa_P) × (Nat → Int → List Int)
def pa_s (f : Nat → Int) (j : Nat) (v : Int) : Nat → Int := fun k => if k = j then v else f k
theorem pa_ss {f : Nat → Int} {j : Nat} {v : Int} : pa_s f j v j = v := if_pos rfl
theorem pa_sn {f : Nat → Int} {j k : Nat} {v : Int} (h : k ≠ j) : pa_s f j v k = f k := if_neg h
/-- the place of the first 'f', counted from i -/
def pa_ff : pa_P → Int → Int
  | [], _ => -1
  | q :: l, i => if q.1 = 102 then i else pa_ff l (i + 1)
def pa_fin (p : pa_P) : Int := pa_ff p 0
def pa_at (p : pa_P) (i : Int) : Int × Int := p.getD i.toNat (0, 0)
def pa_weight (k f : Int) : Int := if k = 1 then f else if k = 2 then -f else if k = 3 then f + 2 else if k = 4 then Int.tdiv (-f) 2 else 0
def pa_yield (k f u : Int) : Int := if k = 3 then Int.tmod (u + f) 1000 else if k = 2 ∨ k = 4 then Int.tdiv u 2 else u
def pa_sent (k f v acc : Int) : Int := if k = 1 ∨ k = 3 then Int.tmod (v + f) 1000 else if k = 5 then (if v = 0 then acc else v) else v
def pa_take (c : pa_C) (v : Int) : pa_C := (pa_s (if c.1 2 = 2 then pa_s c.1 3 (pa_sent (c.1 20) (c.1 21) v (c.1 3)) else c.1) 2 1, c.2)
def pa_on (c : pa_C) : pa_C := (pa_s (pa_s c.1 2 1) 7 (-4), c.2)
def pa_wait (c : pa_C) (whom st : Int) : pa_C := (pa_s (pa_s c.1 2 st) 7 whom, c.2)
/-- a fault with what a frame that goes holds -/
def pa_add (φ : List Int) (h : Option (List Int)) : List Int := match h with
  | some (g :: gs) => if φ.length = 1 then φ ++ (g :: gs) else φ
  | _ => φ
def pa_catch (f : pa_F) (h : List Int) : pa_F := (pa_s (pa_s f.1 4 1) 2 (pa_fin f.2.1 + 1), f.2.1, some h)
def pa_throwF (n : Nat → Int) (e : List Int) : List pa_F → List Int → pa_C
  | [], φ => (pa_s n 2 7, φ, [])
  | f :: fs, φ => if f.1 4 = 0 ∧ f.1 2 ≤ pa_fin f.2.1 then (n, e, pa_catch f φ :: fs) else pa_throwF n e fs (pa_add φ f.2.2)
def pa_throw (c : pa_C) (φ : List Int) : pa_C := pa_throwF c.1 c.2.1 c.2.2 φ
def pa_closeF (n : Nat → Int) (e : List Int) : List pa_F → pa_C
  | [] => (pa_s n 2 8, e, [])
  | f :: fs => if f.1 4 = 1 then (n, e, (f.1, f.2.1, (if f.2.2 = none then some [] else f.2.2)) :: fs) else if f.1 2 ≤ pa_fin f.2.1 then (n, e, pa_catch f [] :: fs) else pa_closeF n e fs
def pa_close (c : pa_C) : pa_C := pa_closeF c.1 c.2.1 c.2.2
def pa_endTop (c : pa_C) : pa_C := match c.2.2 with
  | [] => c
  | f :: fs => match f.2.2 with
    | none => match fs with
      | [] => (pa_s c.1 2 6, c.2.1, [])
      | g :: gs => (c.1, c.2.1, g :: gs)
    | some [] => pa_closeF c.1 c.2.1 fs
    | some (g :: gs) => pa_throwF c.1 c.2.1 fs (g :: gs)
def pa_cw (a : pa_M) (c : Int) (v : pa_C) : pa_M := (a.1, (fun i => if i = c then v else a.2.1 i), a.2.2)
def pa_qw (a : pa_M) (w : Nat) (ch : Int) (l : List Int) : pa_M := (a.1, a.2.1, a.2.2.1, fun k i => if k = w ∧ i = ch then l else a.2.2.2 k i)
/-- one that joined o has o's end -/
def pa_have (c o : pa_C) : pa_C := if o.1 2 = 6 then (pa_s c.1 3 (o.1 3), c.2) else if o.1 2 = 7 then pa_throw c (8 :: o.2.1) else pa_throw c [5]
/-- who is told within n steps of another's end, and what becomes of it -/
def pa_told (a : pa_M) : Nat → Int → pa_C → Prop
  | 0, _, _ => False
  | n + 1, c, v => (0 ≤ c ∧ c < a.1 4 ∧ (a.2.1 c).1 2 = 5) ∧ ∃ o : pa_C, (o = a.2.1 ((a.2.1 c).1 7) ∨ pa_told a n ((a.2.1 c).1 7) o) ∧ 6 ≤ o.1 2 ∧ v = pa_have (pa_on (a.2.1 c)) o
def pa_isTold (a : pa_M) (c : Int) (v : pa_C) : Prop := ∃ n, pa_told a n c v
noncomputable def pa_settleC (a : pa_M) (c : Int) : pa_C := @dite _ (∃ v, pa_isTold a c v) (Classical.propDecidable _) (fun h => h.choose) (fun _ => a.2.1 c)
noncomputable def pa_settle (a : pa_M) : pa_M := (a.1, pa_settleC a, a.2.2)
def pa_nf (n : Int) (p : pa_P) : pa_F := (pa_s (fun _ => 0) 1 n, p, none)
def pa_into (a : pa_M) (c : pa_C) (n : Int) : pa_C := if 6 ≤ c.2.2.length then pa_throw c [7] else if 5 ≤ n then pa_throw c [6] else (c.1, c.2.1, pa_nf n (a.2.2.1 n) :: c.2.2)
def pa_sendAt (a : pa_M) (who : Int) (c : pa_C) (n : Int) : pa_M := if 3 ≤ n then pa_cw a who (pa_throw c [6]) else match a.2.2.2 1 n with
  | g :: l =>
    let b := pa_cw a who c
    pa_qw (pa_cw b g (pa_on (pa_s (b.2.1 g).1 3 (c.1 3), (b.2.1 g).2))) 1 n ((g :: l).filter (fun z => decide (z ≠ g)))
  | [] => pa_qw (pa_cw a who (pa_wait c n 3)) 0 n (a.2.2.2 0 n ++ [who])
def pa_getAt (a : pa_M) (who : Int) (c : pa_C) (n : Int) : pa_M := if 3 ≤ n then pa_cw a who (pa_throw c [6]) else match a.2.2.2 0 n with
  | s :: l =>
    let b := pa_cw a who c
    let b2 := pa_cw b who (pa_s c.1 3 ((b.2.1 s).1 3), c.2)
    pa_qw (pa_cw b2 s (pa_on (b2.2.1 s))) 0 n ((s :: l).filter (fun z => decide (z ≠ s)))
  | [] => pa_qw (pa_cw a who (pa_wait c n 4)) 1 n (a.2.2.2 1 n ++ [who])
def pa_join (a : pa_M) (who : Int) (c : pa_C) (n : Int) : pa_C := if n = who ∨ a.1 4 ≤ n then pa_throw c [6] else if 6 ≤ (a.2.1 n).1 2 then pa_have c (a.2.1 n) else pa_wait c n 5
def pa_yields (c : pa_C) (n : Int) : pa_C := (pa_s (pa_s (pa_s c.1 4 (pa_yield (c.1 20) (c.1 21) (Int.tmod (c.1 3 + n) 1000))) 5 (if c.1 5 < 999 then c.1 5 + 1 else 999)) 2 2, c.2)
def pa_again (c : pa_C) (n : Int) : pa_C := match c.2.2 with
  | f :: fs => if f.1 4 = 0 ∧ f.1 3 < n then (c.1, c.2.1, (pa_s (pa_s f.1 3 (f.1 3 + 1)) 2 0, f.2) :: fs) else c
  | [] => c
/-- the steps that do nothing while one is closing -/
def pa_live (a : pa_M) (who : Int) (l n : Int) (c : pa_C) : pa_M :=
  if l = 121 then pa_cw a who (pa_yields c n)
  else if l = 114 then pa_cw a who (pa_again c n)
  else if l = 100 then pa_cw a who (pa_into a c n)
  else if l = 115 then pa_sendAt a who c n
  else if l = 103 then pa_getAt a who c n
  else if l = 106 then pa_cw a who (pa_join a who c n)
  else pa_cw a who c
def pa_top (c : pa_C) (j : Nat) (v : pa_F → Int) : pa_C := match c.2.2 with
  | f :: fs => (c.1, c.2.1, (pa_s f.1 j (v f), f.2) :: fs)
  | [] => c
def pa_do (a : pa_M) (who : Int) (cl : Bool) (l n : Int) (c : pa_C) : pa_M :=
  if l = 97 then pa_cw a who (pa_s c.1 3 (Int.tmod (c.1 3 + n) 1000), c.2)
  else if l = 109 then pa_cw a who (pa_s c.1 3 (Int.tmod (c.1 3 * n) 1000), c.2)
  else if l = 122 then pa_cw a who (if c.1 3 = 0 then pa_top c 2 (fun f => f.1 2 + n) else c)
  else if l = 102 then pa_cw a who (pa_top c 4 (fun _ => 1))
  else if l = 116 then pa_cw a who (pa_throw c [n])
  else if cl = true then pa_cw a who c
  else pa_live a who l n c
def pa_st1 (a : pa_M) (who : Int) (cl : Bool) : pa_M := match (a.2.1 who).2.2 with
  | [] => a
  | f :: fs =>
    if (f.2.1.length : Int) ≤ f.1 2 then pa_cw a who (pa_endTop (a.2.1 who))
    else pa_do a who cl (pa_at f.2.1 (f.1 2)).1 (pa_at f.2.1 (f.1 2)).2 ((a.2.1 who).1, (a.2.1 who).2.1, (pa_s f.1 2 (f.1 2 + 1), f.2) :: fs)
noncomputable def pa_step (a : pa_M) (who : Int) (cl : Bool) : pa_M := if 6 ≤ ((pa_st1 a who cl).2.1 who).1 2 then pa_settle (pa_st1 a who cl) else pa_st1 a who cl
noncomputable def pa_loop : Nat → pa_M → Int → pa_M
  | 0, a, _ => a
  | n + 1, a, w => if (a.2.1 w).1 2 = 1 then pa_loop n (pa_step a w false) w else a
noncomputable def pa_send (a : pa_M) (w v : Int) : pa_M := pa_loop 40 (pa_cw a w (pa_take (a.2.1 w) v)) w
def pa_lv (a : pa_M) (w : Int) : pa_M := (a.1, a.2.1, a.2.2.1, fun k i => (a.2.2.2 k i).filter (fun z => decide (z ≠ w)))
noncomputable def pa_cl : Nat → pa_M → Int → pa_M
  | 0, a, _ => a
  | n + 1, a, w => if 6 ≤ (a.2.1 w).1 2 then a else pa_cl n (pa_step a w true) w
def pa_shut1 (a : pa_M) (w : Int) : pa_M := pa_cw (pa_lv a w) w (pa_close (pa_on (a.2.1 w)))
noncomputable def pa_shut2 (a : pa_M) (w : Int) : pa_M := if 6 ≤ ((pa_shut1 a w).2.1 w).1 2 then pa_settle (pa_shut1 a w) else pa_shut1 a w
noncomputable def pa_shut (a : pa_M) (w : Int) : pa_M := pa_cl 1000 (pa_shut2 a w) w
def pa_rk (a : pa_M) (c : Int) : Int := (a.2.1 c).1 6 + pa_weight ((a.2.1 c).1 20) ((a.2.1 c).1 21)
def pa_ins (rk : Int → Int) (c : Int) : List Int → List Int
  | [] => [c]
  | h :: t => if rk h < rk c then c :: h :: t else h :: pa_ins rk c t
def pa_lineN (a : pa_M) : Nat → List Int
  | 0 => []
  | n + 1 => if (a.2.1 (n : Int)).1 2 ≤ 2 then pa_ins (pa_rk a) (n : Int) (pa_lineN a n) else pa_lineN a n
def pa_line (a : pa_M) : List Int := pa_lineN a (a.1 4).toNat
def pa_young (c : pa_C) : pa_C := (pa_s c.1 6 0, c.2)
noncomputable def pa_go (a : pa_M) (c : Int) : pa_M := pa_step (pa_cw a c (pa_take (pa_young (a.2.1 c)) 0)) c false
def pa_old (c : pa_C) : pa_C := (pa_s c.1 6 (if c.1 6 < 999 then c.1 6 + 1 else c.1 6), c.2)
def pa_olds (a : pa_M) (l : List Int) : pa_M := (a.1, (fun i => if i ∈ l then pa_old (a.2.1 i) else a.2.1 i), a.2.2)
def pa_day (a : pa_M) : pa_M := (pa_s a.1 6 (a.1 6 + 1), a.2)
noncomputable def pa_round (a : pa_M) : pa_M := pa_olds (((pa_line a).take (a.1 5).toNat).foldl pa_go (pa_day a)) ((pa_line a).drop (a.1 5).toNat)
def pa_lose (a : pa_M) : pa_M := pa_olds (pa_day a) (pa_line a)
noncomputable def pa_rounds : Nat → pa_M → pa_M
  | 0, a => a
  | n + 1, a => pa_rounds n (pa_round a)
def pa_newC (p k f : Int) (prog : pa_P) : pa_C := (pa_s (pa_s (pa_s (pa_s (pa_s (fun _ => 0) 0 p) 4 (-4)) 7 (-4)) 20 k) 21 f, [], [pa_nf p prog])
/-- a coroutine more -/
def pa_more (a : pa_M) (p k f : Int) : pa_M := (pa_s a.1 4 (a.1 4 + 1), (fun i => if i = a.1 4 then pa_newC p k f (a.2.2.1 p) else a.2.1 i), a.2.2)
/-! how many with a property, and their bits -/
def pa_cnt (p : Int → Bool) : Nat → Int
  | 0 => 0
  | n + 1 => pa_cnt p n + (if p (n : Int) then 1 else 0)
def pa_bits (p : Int → Bool) : Nat → Int
  | 0 => 0
  | n + 1 => pa_bits p n + (if p (n : Int) then (2 : Int) ^ n else 0)
def pa_isEnd (a : pa_M) (c : Int) : Bool := decide (6 ≤ (a.2.1 c).1 2)
def pa_isDone (a : pa_M) (c : Int) : Bool := decide ((a.2.1 c).1 2 = 6)
def pa_isAble (a : pa_M) (c : Int) : Bool := decide ((a.2.1 c).1 2 ≤ 2)
def pa_sum (f : Int → Int) : Nat → Int
  | 0 => 0
  | n + 1 => pa_sum f n + f (n : Int)
/-! WHAT IS ALWAYS SO -/
def pa_okl (l : Int) : Prop := l = 121 ∨ l = 97 ∨ l = 109 ∨ l = 122 ∨ l = 114 ∨ l = 100 ∨ l = 116 ∨ l = 115 ∨ l = 103 ∨ l = 106 ∨ l = 102
def pa_wfp (p : pa_P) : Prop := p.length ≤ 16 ∧ (∀ q ∈ p, pa_okl q.1 ∧ 0 ≤ q.2 ∧ q.2 ≤ 9) ∧ ∀ i : Nat, i < p.length → (p.getD i (0, 0)).1 = 102 → pa_fin p = (i : Int)
def pa_wff (f : pa_F) : Prop := (0 ≤ f.1 1 ∧ f.1 1 ≤ 4) ∧ (0 ≤ f.1 2 ∧ f.1 2 ≤ 25) ∧ (0 ≤ f.1 3 ∧ f.1 3 ≤ 9) ∧ (f.1 4 = 0 ∨ f.1 4 = 1) ∧ pa_wfp f.2.1 ∧ (f.2.2 ≠ none → f.1 4 = 1)
def pa_wfn (n : Nat → Int) : Prop := (0 ≤ n 0 ∧ n 0 ≤ 4) ∧ (0 ≤ n 2 ∧ n 2 ≤ 8) ∧ (0 ≤ n 3 ∧ n 3 ≤ 999) ∧ (-4 ≤ n 4 ∧ n 4 ≤ 999) ∧ (0 ≤ n 5 ∧ n 5 ≤ 999) ∧ (0 ≤ n 6 ∧ n 6 ≤ 999) ∧ (0 ≤ n 20 ∧ n 20 ≤ 5) ∧ (0 ≤ n 21 ∧ n 21 ≤ 9) ∧ (n 2 < 3 ∨ 5 < n 2 → n 7 = -4)
def pa_wfc (c : pa_C) : Prop := pa_wfn c.1 ∧ c.2.2.length ≤ 6 ∧ (∀ f ∈ c.2.2, pa_wff f) ∧ (6 ≤ c.1 2 ↔ c.2.2 = []) ∧ (c.1 2 = 7 ↔ c.2.1 ≠ [])
/-- coroutines, programs, numbers -/
def pa_wf0 (a : pa_M) : Prop := (0 ≤ a.1 4 ∧ a.1 4 ≤ 8) ∧ (1 ≤ a.1 5 ∧ a.1 5 ≤ 8) ∧ (∀ c, 0 ≤ c → c < a.1 4 → pa_wfc (a.2.1 c)) ∧ (∀ p, 0 ≤ p → p < 5 → pa_wfp (a.2.2.1 p))
/-- who waits where -/
def pa_wfq (a : pa_M) : Prop := ∀ w : Nat, w < 2 → ∀ ch, 0 ≤ ch → ch < 3 → (a.2.2.2 w ch).Nodup ∧ ∀ c, c ∈ a.2.2.2 w ch ↔ (0 ≤ c ∧ c < a.1 4) ∧ (a.2.1 c).1 2 = 3 + w ∧ (a.2.1 c).1 7 = ch
def pa_wfw (a : pa_M) : Prop := ∀ c, 0 ≤ c → c < a.1 4 → ((a.2.1 c).1 2 = 3 ∨ (a.2.1 c).1 2 = 4 → 0 ≤ (a.2.1 c).1 7 ∧ (a.2.1 c).1 7 < 3) ∧ ((a.2.1 c).1 2 = 5 → (0 ≤ (a.2.1 c).1 7 ∧ (a.2.1 c).1 7 < a.1 4))
/-- nobody joins one that is ended -/
def pa_max (a : pa_M) : Prop := ∀ c, 0 ≤ c → c < a.1 4 → (a.2.1 c).1 2 = 5 → (a.2.1 ((a.2.1 c).1 7)).1 2 < 6
def pa_wf (a : pa_M) : Prop := pa_wf0 a ∧ pa_wfq a ∧ pa_wfw a ∧ pa_max a
/-! HOW MANY FAULTS MAY STILL COME -/
def pa_pt (f : pa_F) : Int := match f.2.2 with
  | some (_ :: _) => 1
  | _ => 2
def pa_pw (n : Nat) : Int := match n with
  | 0 => 32
  | 1 => 16
  | 2 => 8
  | 3 => 4
  | 4 => 2
  | 5 => 1
  | _ => 0
/-- of the frames below the one on top -/
def pa_pb : List pa_F → Int
  | [] => 0
  | f :: fs => (pa_pt f - 1) * pa_pw fs.length + pa_pb fs
def pa_pot : List pa_F → Int
  | [] => 0
  | f :: fs => pa_pt f * pa_pw fs.length + pa_pb fs
def pa_pots (a : pa_M) : Nat → Int := pa_sum (fun c => pa_pot (a.2.1 c).2.2)

