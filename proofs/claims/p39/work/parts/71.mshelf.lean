/-! THE MODEL: shelves -/
/-- what a shelf holds: 0 nothing, 1 a manner, 2 a row; kind and figure, or sort; numbers -/
abbrev pa_Sh : Type := Int × (Int × Int) × List Int
def pa_rng (s v : Int) : Prop := (s = 0 → -128 ≤ v ∧ v ≤ 127) ∧ (s = 1 → -32768 ≤ v ∧ v ≤ 32767) ∧ -2147483648 ≤ v ∧ v < 2147483648
def pa_wfs (s : pa_Sh) : Prop := (s.1 = 0 ∨ s.1 = 1 ∨ s.1 = 2) ∧ (s.1 = 1 → (0 ≤ s.2.1.1 ∧ s.2.1.1 ≤ 5) ∧ 0 ≤ s.2.1.2 ∧ s.2.1.2 ≤ 9) ∧ (s.1 = 2 → (0 ≤ s.2.1.1 ∧ s.2.1.1 ≤ 2) ∧ s.2.2.length ≤ 100 ∧ ∀ i : Nat, i < s.2.2.length → pa_rng s.2.1.1 (s.2.2.getD i 0))
def pa_wfS (h : Int → pa_Sh) : Prop := ∀ d, 0 ≤ d → d < 8 → pa_wfs (h d)
def pa_shw (h : Int → pa_Sh) (d : Int) (s : pa_Sh) : Int → pa_Sh := fun i => if i = d then s else h i
def pa_K (h : Int → pa_Sh) (d : Int) : Int := if ¬ (0 ≤ d ∧ d ≤ 7) then -1 else if (h d).1 = 0 then -11 else if (h d).1 = 2 then -12 else 0
def pa_W (h : Int → pa_Sh) (d : Int) : Int := if ¬ (0 ≤ d ∧ d ≤ 7) then -1 else if (h d).1 = 0 then -11 else if (h d).1 ≠ 2 then -12 else 0
def pa_nar (v s : Int) : Int := if s = 0 then pe_i2b v else if s = 1 then pe_i2s v else pe_w v
def pa_least (s : Int) : Int := if s = 0 then -128 else if s = 1 then -32768 else -2147483648
def pa_doKeep (h : Int → pa_Sh) (d w k f : Int) : (Int → pa_Sh) × Int := if ¬ ((0 ≤ d ∧ d ≤ 7) ∧ (0 ≤ w ∧ w ≤ 1) ∧ (w = 1 → (0 ≤ k ∧ k ≤ 5) ∧ 0 ≤ f ∧ f ≤ 9)) then (h, -1) else (pa_shw h d (w, (k, f), []), 0)
def pa_doRow (h : Int → pa_Sh) (d s n : Int) : (Int → pa_Sh) × Int := if ¬ ((0 ≤ d ∧ d ≤ 7) ∧ (0 ≤ s ∧ s ≤ 2) ∧ n ≤ 100) then (h, -1) else if n < 0 then (h, -14) else (pa_shw h d (2, (s, 0), List.replicate n.toNat 0), 0)
def pa_doPut (h : Int → pa_Sh) (d i v : Int) : (Int → pa_Sh) × Int := if pa_W h d < 0 then (h, pa_W h d) else if ¬ (0 ≤ i ∧ i < ((h d).2.2.length : Int)) then (h, -13) else (pa_shw h d (2, (h d).2.1, (h d).2.2.set i.toNat (pa_nar v (h d).2.1.1)), 0)
/-- an element: what is thrown (0 nothing), its value -/
def pa_elem (h : Int → pa_Sh) (d i : Int) : Int × Int := if pa_W h d = -1 then (1, 0) else if pa_W h d < 0 ∨ ¬ (0 ≤ i ∧ i < ((h d).2.2.length : Int)) then (2, 0) else (0, (h d).2.2.getD i.toNat 0)
def pa_cpyL (le : List Int) (j : Int) (ld : List Int) (i n : Int) : List Int := (List.range le.length).map (fun (k : Nat) => if j ≤ (k : Int) ∧ (k : Int) < j + n then ld.getD (i + ((k : Int) - j)).toNat 0 else le.getD k 0)
def pa_doCopy (h : Int → pa_Sh) (d i e j n : Int) : (Int → pa_Sh) × Int := if ¬ ((0 ≤ d ∧ d ≤ 7) ∧ 0 ≤ e ∧ e ≤ 7) then (h, -1) else if (h d).1 = 0 ∨ (h e).1 = 0 then (h, -11) else if (h d).1 ≠ 2 ∨ (h e).1 ≠ 2 ∨ (h d).2.1.1 ≠ (h e).2.1.1 then (h, -12) else if n < 0 ∨ i < 0 ∨ j < 0 ∨ ((h d).2.2.length : Int) - n < i ∨ ((h e).2.2.length : Int) - n < j then (h, -13) else (pa_shw h e (2, (h e).2.1, pa_cpyL (h e).2.2 j (h d).2.2 i n), n)
def pa_cost (k f : Int) : Int := if k = 0 then f else if k = 1 then 1 else if k = 2 then 2 * f else if k = 3 then 4 else if k = 4 then 0 else 2 + f
def pa_aCost (h : Int → pa_Sh) (d : Int) : Int := if pa_K h d < 0 then pa_K h d else pa_cost (h d).2.1.1 (h d).2.1.2
def pa_aToss (h : Int → pa_Sh) (d : Int) : Int := if pa_K h d < 0 then pa_K h d else if (h d).2.1.1 = 2 ∨ (h d).2.1.1 = 4 ∨ (h d).2.1.2 = 0 then -15 else if (h d).2.1.1 = 0 then (h d).2.1.2 else if (h d).2.1.1 = 5 then 200 + pa_cost (h d).2.1.1 (h d).2.1.2 else 100 + (h d).2.1.2
def pm_RS1 (y : Nat → Int → Int) (d : Int) (s : pa_Sh) : Prop := y 27 d = s.1 ∧ (s.1 = 1 → y 28 d = s.2.1.1 ∧ y 29 d = s.2.1.2) ∧ (s.1 = 2 → y 30 d = s.2.1.1 ∧ y 31 d = s.2.2.length ∧ ∀ i : Nat, i < s.2.2.length → y 32 (100 * d + i) = s.2.2.getD i 0)
def pm_RS (y : Nat → Int → Int) (h : Int → pa_Sh) : Prop := ∀ d, 0 ≤ d → d < 8 → pm_RS1 y d (h d)
theorem pe_i2b_r (x : Int) : -128 ≤ pe_i2b x ∧ pe_i2b x ≤ 127 := by
  unfold pe_i2b
  rw [Int8.toInt_toInt32]
  have h1 := Int8.le_toInt (Int32.ofInt x).toInt8
  have h2 := Int8.toInt_lt (Int32.ofInt x).toInt8
  omega
theorem pe_i2s_r (x : Int) : -32768 ≤ pe_i2s x ∧ pe_i2s x ≤ 32767 := by
  unfold pe_i2s
  rw [Int16.toInt_toInt32]
  have h1 := Int16.le_toInt (Int32.ofInt x).toInt16
  have h2 := Int16.toInt_lt (Int32.ofInt x).toInt16
  omega
theorem pe_w_r (x : Int) : -2147483648 ≤ pe_w x ∧ pe_w x < 2147483648 := by
  unfold pe_w
  have h1 := Int32.le_toInt (Int32.ofInt x)
  have h2 := Int32.toInt_lt (Int32.ofInt x)
  omega
theorem pa_nar_r (v s : Int) : pa_rng s (pa_nar v s) := by
  unfold pa_rng pa_nar
  have h1 := pe_i2b_r v
  have h2 := pe_i2s_r v
  have h3 := pe_w_r v
  split
  · omega
  · split <;> omega
theorem pa_getD_set (l : List Int) (i j : Nat) (v : Int) (hi : i < l.length) : (l.set i v).getD j 0 = if j = i then v else l.getD j 0 := by
  rw [List.getD_eq_getElem?_getD, List.getD_eq_getElem?_getD, List.getElem?_set]
  by_cases e : i = j
  · subst e
    simp [hi]
  · rw [if_neg e, if_neg (fun q => e q.symm)]
theorem pa_cpyL_at {le ld : List Int} {j i n : Int} {k : Nat} (hk : k < le.length) : (pa_cpyL le j ld i n).getD k 0 = if j ≤ (k : Int) ∧ (k : Int) < j + n then ld.getD (i + ((k : Int) - j)).toNat 0 else le.getD k 0 := by
  unfold pa_cpyL
  rw [List.getD_eq_getElem?_getD, List.getElem?_map, List.getElem?_range hk]
  rfl
theorem pa_cpyL_len {le ld : List Int} {j i n : Int} : (pa_cpyL le j ld i n).length = le.length := by
  unfold pa_cpyL
  rw [List.length_map, List.length_range]
theorem pa_W_0 {h : Int → pa_Sh} {d : Int} (hw : ¬ pa_W h d < 0) : (0 ≤ d ∧ d < 8) ∧ (h d).1 = 2 ∧ pa_W h d = 0 := by
  unfold pa_W at hw ⊢
  split at hw
  · omega
  · split at hw
    · omega
    · split at hw
      · omega
      · rename_i q1 q2 q3
        rw [if_neg q1, if_neg q2, if_neg q3]
        omega
theorem pa_K_0 {h : Int → pa_Sh} {d : Int} (hs : pa_wfS h) (hw : ¬ pa_K h d < 0) : (0 ≤ d ∧ d < 8) ∧ (h d).1 = 1 ∧ pa_K h d = 0 := by
  unfold pa_K at hw ⊢
  split at hw
  · omega
  · rename_i q0
    have := (hs d (by omega) (by omega)).1
    split at hw
    · omega
    · split at hw
      · omega
      · rename_i q2 q3
        rw [if_neg q0, if_neg q2, if_neg q3]
        omega
theorem pa_W_r (h : Int → pa_Sh) (d : Int) : -12 ≤ pa_W h d ∧ pa_W h d ≤ 0 := by
  unfold pa_W
  split
  · omega
  · split
    · omega
    · split <;> omega
theorem pa_K_r (h : Int → pa_Sh) (d : Int) : -12 ≤ pa_K h d ∧ pa_K h d ≤ 0 := by
  unfold pa_K
  split
  · omega
  · split
    · omega
    · split <;> omega
section
variable {d M q : Nat} {Φ : Option pe_V → pe_H → Prop} {σ : pe_H} {y : Nat → Int → Int} {a : pa_M} {c n : Int} {h : Int → pa_Sh} {D : Int}
theorem pm_RS_fr {y2 : Nat → Int → Int} (hf : pm_fr pm_Zp y y2) (hS : pm_RS y h) : pm_RS y2 h := fun d d0 d8 => by
  obtain ⟨h1, h2, h3⟩ := hS d d0 d8
  have e : ∀ k, 27 ≤ k → k ≤ 32 → ∀ j, y2 k j = y k j := fun k k1 k2 j => hf k j (by unfold pm_Zp; omega)
  unfold pm_RS1
  rw [e 27 (by decide) (by decide), e 28 (by decide) (by decide), e 29 (by decide) (by decide), e 30 (by decide) (by decide), e 31 (by decide) (by decide)]
  refine ⟨h1, h2, fun q => ⟨(h3 q).1, (h3 q).2.1, fun i hi => ?_⟩⟩
  rw [e 32 (by decide) (by decide)]
  exact (h3 q).2.2 i hi
end

