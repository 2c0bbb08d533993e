/-! THE MODEL: what is read -/
def pa_outs (a : pa_M) : Int := pa_sum (fun c => (a.2.1 c).1 5) (a.1 4).toNat
def pa_isWait (a : pa_M) (c : Int) : Bool := decide (3 ≤ (a.2.1 c).1 2 ∧ (a.2.1 c).1 2 ≤ 5)
def pa_aCount (a : pa_M) (x : Int) : Int := if x = 0 then a.1 4 else if x = 1 then a.1 6 else if x = 2 then a.1 5 else if x = 3 then pa_bits (pa_isEnd a) (a.1 4).toNat else if x = 4 then pa_bits (pa_isWait a) (a.1 4).toNat else if x = 5 then pa_outs a else -1
def pa_aProg (a : pa_M) (p i x : Int) : Int := if ¬ ((0 ≤ p ∧ p ≤ 4) ∧ (-1 ≤ i ∧ i < ((a.2.2.1 p).length : Int)) ∧ 0 ≤ x ∧ x ≤ 1) then -1 else if i < 0 then ((a.2.2.1 p).length : Int) else if x = 0 then (pa_at (a.2.2.1 p) i).1 else (pa_at (a.2.2.1 p) i).2
def pa_aCo (a : pa_M) (c x : Int) : Int := if ¬ ((0 ≤ c ∧ c < a.1 4) ∧ 0 ≤ x ∧ x ≤ 11) then -1 else if x = 5 then (a.2.1 c).1 0 else if x = 6 then (a.2.1 c).1 20 else if x = 7 then (a.2.1 c).1 21 else if x = 8 then pa_weight ((a.2.1 c).1 20) ((a.2.1 c).1 21) + 100 else if x = 9 then ((a.2.1 c).2.2.length : Int) else if x = 10 then (a.2.1 c).1 7 else if x = 11 then ((a.2.1 c).2.1.length : Int) else pa_of (a.2.1 c) x
def pa_held (v : Option (List Int)) : Int := match v with
  | none => 0
  | some [] => 1
  | some (x :: _) => 10 + x
/-- the frame i, counted from the lowest -/
def pa_fr (l : List pa_F) (i : Int) : pa_F := l.getD (l.length - 1 - i.toNat) (pa_nf 0 [])
def pa_aFrame (a : pa_M) (c i x : Int) : Int := if ¬ ((0 ≤ c ∧ c < a.1 4) ∧ (0 ≤ x ∧ x ≤ 4) ∧ 0 ≤ i ∧ i < ((a.2.1 c).2.2.length : Int)) then -1 else if x = 0 then (pa_fr (a.2.1 c).2.2 i).1 1 else if x = 1 then (pa_fr (a.2.1 c).2.2 i).1 2 else if x = 2 then (pa_fr (a.2.1 c).2.2 i).1 3 else if x = 3 then (pa_fr (a.2.1 c).2.2 i).1 4 else pa_held (pa_fr (a.2.1 c).2.2 i).2.2
def pa_aCause (a : pa_M) (c i : Int) : Int := if ¬ ((0 ≤ c ∧ c < a.1 4) ∧ 0 ≤ i ∧ i < ((a.2.1 c).2.1.length : Int)) then -1 else (a.2.1 c).2.1.getD i.toNat 0
def pa_aChan (a : pa_M) (ch i x : Int) : Int := if ¬ ((0 ≤ ch ∧ ch ≤ 2) ∧ 0 ≤ x ∧ x ≤ 1) then -1 else if i = -1 then ((a.2.2.2 x.toNat ch).length : Int) else if 0 ≤ i ∧ i < ((a.2.2.2 x.toNat ch).length : Int) then (a.2.2.2 x.toNat ch).getD i.toNat 0 else -1
theorem pa_sum_b {f : Int → Int} {m : Int} (hm : 0 ≤ m) : ∀ n : Nat, n ≤ 8 → (∀ i : Nat, i < n → 0 ≤ f i ∧ f i ≤ 999) → 0 ≤ pa_sum f n ∧ pa_sum f n ≤ 999 * n
  | 0, _, _ => ⟨Int.le_refl _, Int.le_refl _⟩
  | n + 1, h8, h => by
    have h1 := pa_sum_b hm n (by omega) (fun i hi => h i (by omega))
    have h2 := h n (by omega)
    unfold pa_sum
    push_cast
    omega
theorem pa_outs_b {a : pa_M} (h : pa_wf0 a) : 0 ≤ pa_outs a ∧ pa_outs a ≤ 8000 := by
  have h8 := h.1
  have := pa_sum_b (f := fun c => (a.2.1 c).1 5) (m := 0) (Int.le_refl _) (a.1 4).toNat (by omega) (fun i hi => (h.2.2.1 i (by omega) (by omega)).1.2.2.2.2.1)
  unfold pa_outs
  omega
section
variable {d M q : Nat} {Φ : Option pe_V → pe_H → Prop} {σ : pe_H} {y : Nat → Int → Int} {a : pa_M} {c n : Int}
end

