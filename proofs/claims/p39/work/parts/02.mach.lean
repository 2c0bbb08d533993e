/-! THE PURE MACHINE: values, heap, a step; what the rows of 03 show to be the machine's own -/
/-- an int, a long, a reference (0 null, else an object's number); ints and longs by any number that is alike modulo 2^32, 2^64 -/
abbrev pe_V : Type := Int ⊕ Int ⊕ Nat
/-- the next object's number, slots made, kinds, lengths, ints and longs, references -/
abbrev pe_H : Type := Nat × Nat × (Nat → Nat) × (Nat → Int) × (Nat → Int → Int) × (Nat → Int → Nat)
abbrev pe_S : Type := Nat × List (Option pe_V) × List pe_V × pe_H
def pe_n (σ : pe_H) : Nat := σ.1
def pe_u (σ : pe_H) : Nat := σ.2.1
def pe_K (σ : pe_H) : Nat → Nat := σ.2.2.1
def pe_L (σ : pe_H) : Nat → Int := σ.2.2.2.1
def pe_I (σ : pe_H) : Nat → Int → Int := σ.2.2.2.2.1
def pe_R (σ : pe_H) : Nat → Int → Nat := σ.2.2.2.2.2
def pe_wI (σ : pe_H) (r : Nat) (j : Int) (x : Int) : pe_H := (σ.1, σ.2.1, σ.2.2.1, σ.2.2.2.1, (fun a k => if a = r ∧ k = j then x else σ.2.2.2.2.1 a k), σ.2.2.2.2.2)
def pe_wR (σ : pe_H) (r : Nat) (j : Int) (x : Nat) : pe_H := (σ.1, σ.2.1, σ.2.2.1, σ.2.2.2.1, σ.2.2.2.2.1, (fun a k => if a = r ∧ k = j then x else σ.2.2.2.2.2 a k))
/-- a new object: its kind, its length, its slots -/
def pe_new (σ : pe_H) (c : Nat) (len : Int) (w : Nat) : pe_H := (σ.1 + 1, σ.2.1 + w, (fun a => if a = σ.1 then c else σ.2.2.1 a), (fun a => if a = σ.1 then len else σ.2.2.2.1 a), (fun a k => if a = σ.1 then 0 else σ.2.2.2.2.1 a k), (fun a k => if a = σ.1 then 0 else σ.2.2.2.2.2 a k))
def pe_w (x : Int) : Int := (Int32.ofInt x).toInt
def pe_wl (x : Int) : Int := (Int64.ofInt x).toInt
def pe_and (x y : Int) : Int := (Int32.ofInt x &&& Int32.ofInt y).toInt
def pe_or (x y : Int) : Int := (Int32.ofInt x ||| Int32.ofInt y).toInt
def pe_xor (x y : Int) : Int := (Int32.ofInt x ^^^ Int32.ofInt y).toInt
def pe_shl (x y : Int) : Int := (Int32.ofInt x <<< (Int32.ofInt y &&& 31)).toInt
def pe_shr (x y : Int) : Int := (Int32.ofInt x >>> (Int32.ofInt y &&& 31)).toInt
def pe_ushr (x y : Int) : Int := (((Int32.ofInt x).toUInt32 >>> ((Int32.ofInt y).toUInt32 &&& Int32.toUInt32 31)).toInt32).toInt
def pe_i2b (x : Int) : Int := ((Int32.ofInt x).toInt8.toInt32).toInt
def pe_i2s (x : Int) : Int := ((Int32.ofInt x).toInt16.toInt32).toInt
def pe_lcmp (x y : Int) : Int := if pe_wl x < pe_wl y then -1 else if pe_wl x = pe_wl y then 0 else 1
def pe_all : List Prop → Prop
  | [] => True
  | [a] => a
  | a :: b :: l => a ∧ pe_all (b :: l)
-- locals
def pe_nl (a : Option pe_V) : Option pe_V := match a with
  | some (.inr (.inl _)) => none
  | a => a
def pe_ld : List (Option pe_V) → Nat → Option pe_V
  | [], _ => none
  | a :: _, 0 => a
  | _ :: l, n + 1 => pe_ld l n
def pe_sto : List (Option pe_V) → Nat → Option pe_V → List (Option pe_V)
  | [], _, _ => []
  | _ :: l, 0, v => v :: l
  | a :: l, n + 1, v => a :: pe_sto l n v
/-- what is at i - 1 is no long any more -/
def pe_kil (ls : List (Option pe_V)) : Nat → List (Option pe_V)
  | 0 => ls
  | n + 1 => pe_sto ls n (pe_nl (pe_ld ls n))
def pe_st1 (ls : List (Option pe_V)) (i : Nat) (v : pe_V) : List (Option pe_V) := pe_sto (pe_kil ls i) i (some v)
def pe_st2 (ls : List (Option pe_V)) (i : Nat) (v : pe_V) : List (Option pe_V) := pe_sto (pe_sto (pe_kil ls i) (i + 1) none) i (some v)
def pe_cat (l : List pe_V) : Nat := match l with
  | [] => 0
  | .inr (.inl _) :: l => 2 + pe_cat l
  | _ :: l => 1 + pe_cat l
-- the classes: names, fields, how many, types
def pe_cl (c : Nat) : vw_C := match c with
  | 19 => (RX10, TX10, 8)
  | 20 => (RX11, TX11, 12)
  | 21 => (RL, TL, 9)
  | c => vwCl.getD c (RX0, TX0, 11)
/-- the kinds of objects: 0 .. 8 the class's, 9 the law's faults, 19 its frames, 20 its coroutines, 21 the law -/
def pe_kc (c : Nat) : Bool := Nat.blt c 10 || (Nat.ble 19 c && Nat.blt c 22)
/-- the kinds of arrays -/
def pe_ka (k : Nat) : Bool := (Nat.ble 10 k && Nat.blt k 19) || (Nat.ble 22 k && Nat.blt k 26)
def pe_ty (c : Nat) : Nat → FieldType := match c with
  | 0 => tyX0
  | 1 => tyX1
  | 2 => tyX2
  | 3 => tyX3
  | 4 => tyX4
  | 5 => tyX5
  | 6 => tyX6
  | 7 => tyX7
  | 8 => tyX8
  | 9 => tyX9
  | 19 => tyX10
  | 20 => tyX11
  | 21 => tyL
  | _ => tyX0
/-- an array kind's elements: 10 (and 11) ints, 12 .. 18 references to the class's objects, 22 to the law's frames, 23 to its coroutines, 24 to arrays of ints; 25 the law's static array of ints -/
def pe_aty (k : Nat) : FieldType := match k with
  | 10 => .int
  | 11 => .int
  | 12 => .object RX0
  | 13 => .object RX1
  | 14 => .object RX2
  | 15 => .object RX3
  | 16 => .object RX4
  | 17 => .object RX5
  | 22 => .object RX10
  | 23 => .object RX11
  | 24 => .array .int
  | 25 => .int
  | _ => .object RX6
/-- the kind of what stands in the law's arrays of references -/
def pe_ek (k : Nat) : Nat := match k with
  | 22 => 19
  | 23 => 20
  | _ => 10
/-- the kind of an array of a class's objects -/
def pe_ak (c : Nat) : Nat := 12 + c
/-- 0 an int, 1 a long, 2 a reference, 3 a boolean -/
def pe_tc (t : FieldType) : Nat := match t with
  | .int => 0
  | .boolean => 3
  | .long => 1
  | .object _ => 2
  | .array _ => 2
  | _ => 4
-- a field by the constant pool of a class: the class, the field's place, its type's code, final; printed by program in 04
def pe_lk (l : List (Nat × Nat × Nat)) (i : Nat) : Option (Nat × Nat) := match l with
  | [] => none
  | (a, b) :: l => if Nat.beq a i then some b else pe_lk l i
