/-! SOUND, 1: values, numbers, locals -/
def pe_rf (ad : Nat → Nat) (r : Nat) : Value := if r = 0 then .null else .ref (ad r)
def pe_e (ad : Nat → Nat) (v : pe_V) : Value := match v with
  | .inl x => .int (Int32.ofInt x)
  | .inr (.inl x) => .long (Int64.ofInt x)
  | .inr (.inr r) => pe_rf ad r
def pe_vt (ad : Nat → Nat) (t : Nat) (x : Int) (r : Nat) : Value := match t with
  | 1 => .long (Int64.ofInt x)
  | 2 => pe_rf ad r
  | _ => .int (Int32.ofInt x)
theorem pe_of_w (x : Int) : Int32.ofInt (pe_w x) = Int32.ofInt x := by unfold pe_w; exact Int32.ofInt_toInt _
theorem pe_of_wl (x : Int) : Int64.ofInt (pe_wl x) = Int64.ofInt x := by unfold pe_wl; exact Int64.ofInt_toInt _
theorem pe_w_id {x : Int} (h1 : -2147483648 ≤ x) (h2 : x < 2147483648) : pe_w x = x := by
  unfold pe_w
  exact Int32.toInt_ofInt_of_le (by simpa using h1) (by simpa using h2)
theorem pe_w_lt (x : Int) : -2147483648 ≤ pe_w x ∧ pe_w x < 2147483648 := by
  unfold pe_w
  have h1 := Int32.le_toInt (Int32.ofInt x)
  have h2 := Int32.toInt_lt (Int32.ofInt x)
  exact ⟨by simpa using h1, by simpa using h2⟩
theorem pe_add (x y : Int) : Int32.ofInt x + Int32.ofInt y = Int32.ofInt (x + y) := (Int32.ofInt_add x y).symm
theorem pe_sub (x y : Int) : Int32.ofInt x - Int32.ofInt y = Int32.ofInt (x - y) := (Int32.ofInt_sub x y).symm
theorem pe_mul (x y : Int) : Int32.ofInt x * Int32.ofInt y = Int32.ofInt (x * y) := (Int32.ofInt_mul x y).symm
theorem pe_neg (x : Int) : -Int32.ofInt x = Int32.ofInt (-x) := (Int32.ofInt_neg x).symm
theorem pe_div (x y : Int) : Int32.ofInt x / Int32.ofInt y = Int32.ofInt (Int.tdiv (pe_w x) (pe_w y)) := by
  unfold pe_w
  apply Int32.toInt_inj.mp
  rw [Int32.toInt_div, Int32.toInt_ofInt (n := Int.tdiv _ _)]
theorem pe_rem (x y : Int) : Int32.ofInt x - Int32.ofInt x / Int32.ofInt y * Int32.ofInt y = Int32.ofInt (Int.tmod (pe_w x) (pe_w y)) := by
  rw [pe_div, Int.tmod_def]
  have h1 : Int32.ofInt x = Int32.ofInt (pe_w x) := (pe_of_w x).symm
  have h2 : Int32.ofInt y = Int32.ofInt (pe_w y) := (pe_of_w y).symm
  rw [h1, h2, pe_mul, pe_sub, Int.mul_comm (pe_w y)]
theorem pe_addl (x y : Int) : Int64.ofInt x + Int64.ofInt y = Int64.ofInt (x + y) := (Int64.ofInt_add x y).symm
theorem pe_subl (x y : Int) : Int64.ofInt x - Int64.ofInt y = Int64.ofInt (x - y) := (Int64.ofInt_sub x y).symm
theorem pe_mull (x y : Int) : Int64.ofInt x * Int64.ofInt y = Int64.ofInt (x * y) := (Int64.ofInt_mul x y).symm
theorem pe_divl (x y : Int) : Int64.ofInt x / Int64.ofInt y = Int64.ofInt (Int.tdiv (pe_wl x) (pe_wl y)) := by
  unfold pe_wl
  apply Int64.toInt_inj.mp
  rw [Int64.toInt_div, Int64.toInt_ofInt (n := Int.tdiv _ _)]
theorem pe_reml (x y : Int) : Int64.ofInt x - Int64.ofInt x / Int64.ofInt y * Int64.ofInt y = Int64.ofInt (Int.tmod (pe_wl x) (pe_wl y)) := by
  rw [pe_divl, Int.tmod_def]
  have h1 : Int64.ofInt x = Int64.ofInt (pe_wl x) := (pe_of_wl x).symm
  have h2 : Int64.ofInt y = Int64.ofInt (pe_wl y) := (pe_of_wl y).symm
  rw [h1, h2, pe_mull, pe_subl, Int.mul_comm (pe_wl y)]
theorem pe_zero (y : Int) : Int32.ofInt y = 0 ↔ pe_w y = 0 := by
  unfold pe_w
  constructor
  · intro h; rw [h]; rfl
  · intro h
    rw [← Int32.ofInt_toInt (Int32.ofInt y), h]; rfl
theorem pe_zerol (y : Int) : Int64.ofInt y = 0 ↔ pe_wl y = 0 := by
  unfold pe_wl
  constructor
  · intro h; rw [h]; rfl
  · intro h
    rw [← Int64.ofInt_toInt (Int64.ofInt y), h]; rfl
theorem pe_eq (x y : Int) : Int32.ofInt x = Int32.ofInt y ↔ pe_w x = pe_w y := by
  unfold pe_w
  exact ⟨fun h => by rw [h], fun h => Int32.toInt_inj.mp h⟩
theorem pe_lt (x y : Int) : Int32.ofInt x < Int32.ofInt y ↔ pe_w x < pe_w y := Int32.lt_iff_toInt_lt
theorem pe_le (x y : Int) : Int32.ofInt x ≤ Int32.ofInt y ↔ pe_w x ≤ pe_w y := Int32.le_iff_toInt_le
theorem pe_clamp {x : Int} (h : 0 ≤ pe_w x) : ((Int32.ofInt x).toNatClampNeg : Int) = pe_w x := by
  unfold pe_w at h ⊢
  have h1 : (Int32.ofInt x).toNatClampNeg = (Int32.ofInt x).toInt.toNat := rfl
  rw [h1]
  omega
theorem pe_i2l_ok (x : Int) : (Int32.ofInt x).toInt64 = Int64.ofInt (pe_w x) := by
  unfold pe_w
  apply Int64.toInt_inj.mp
  rw [Int32.toInt_toInt64, Int64.toInt_ofInt_of_le]
  · have := Int32.le_toInt (Int32.ofInt x); simp at this ⊢; omega
  · have := Int32.toInt_lt (Int32.ofInt x); simp at this ⊢; omega
theorem pe_l2i_ok (x : Int) : (Int64.ofInt x).toInt32 = Int32.ofInt x := by
  apply Int32.toInt_inj.mp
  rw [Int64.toInt_toInt32, Int64.toInt_ofInt, Int32.toInt_ofInt]
  exact Int.bmod_bmod_of_dvd (by decide)

-- locals
theorem pe_ld_lt : ∀ (l : List (Option pe_V)) (i : Nat) (v : pe_V), pe_ld l i = some v → i < l.length
  | [], _, _, h => by simp [pe_ld] at h
  | _ :: _, 0, _, _ => by simp
  | _ :: l, n + 1, v, h => by
    have := pe_ld_lt l n v h
    simp only [List.length_cons]; omega
theorem pe_sto_len : ∀ (l : List (Option pe_V)) (i : Nat) (v : Option pe_V), (pe_sto l i v).length = l.length
  | [], _, _ => rfl
  | _ :: _, 0, _ => rfl
  | _ :: l, n + 1, v => by simp only [pe_sto, List.length_cons, pe_sto_len l n v]
theorem pe_ld_sto : ∀ (l : List (Option pe_V)) (i : Nat) (v : Option pe_V) (j : Nat), pe_ld (pe_sto l i v) j = if j = i then (if i < l.length then v else none) else pe_ld l j
  | [], i, v, j => by simp [pe_sto, pe_ld]
  | _ :: _, 0, v, 0 => by simp [pe_sto, pe_ld]
  | _ :: _, 0, v, j + 1 => by simp [pe_sto, pe_ld]
  | _ :: _, n + 1, v, 0 => by simp [pe_sto, pe_ld]
  | _ :: l, n + 1, v, j + 1 => by simp [pe_sto, pe_ld, pe_ld_sto l n v j]
theorem pe_kil_len (l : List (Option pe_V)) (i : Nat) : (pe_kil l i).length = l.length := by
  cases i with
  | zero => rfl
  | succ n => exact pe_sto_len _ _ _
theorem pe_nl_some {a : Option pe_V} {v : pe_V} (h : pe_nl a = some v) : a = some v ∧ ∀ x : Int, v ≠ .inr (.inl x) := by
  rcases a with _ | (x | (x | x))
  · simp [pe_nl] at h
  · simp [pe_nl] at h; subst h; exact ⟨rfl, fun y q => by simp at q⟩
  · simp [pe_nl] at h
  · simp [pe_nl] at h; subst h; exact ⟨rfl, fun y q => by simp at q⟩
theorem pe_ld_kil {l : List (Option pe_V)} {i j : Nat} {v : pe_V} (h : pe_ld (pe_kil l i) j = some v) : pe_ld l j = some v ∧ (j + 1 = i → ∀ x : Int, v ≠ .inr (.inl x)) := by
  cases i with
  | zero => exact ⟨h, fun q => by omega⟩
  | succ n =>
    unfold pe_kil at h
    rw [pe_ld_sto] at h
    by_cases hj : j = n
    · subst hj
      rw [if_pos rfl] at h
      split at h
      · obtain ⟨h1, h2⟩ := pe_nl_some h
        exact ⟨h1, fun _ => h2⟩
      · simp at h
    · rw [if_neg hj] at h
      exact ⟨h, fun q => by omega⟩
def pe_lv (ad : Nat → Nat) (Ls : Array Slot) (ls : List (Option pe_V)) : Prop := Ls.size = ls.length ∧ lv_wf Ls ∧ ∀ (i : Nat) (v : pe_V), pe_ld ls i = some v → Ls[i]? = some (.val (pe_e ad v))
def pe_kn (ad : Nat → Nat) (ls : List (Option pe_V)) : List (Nat × Value) := (List.range ls.length).filterMap (fun j => (pe_ld ls j).map (fun v => (j, pe_e ad v)))
theorem pe_kn_mem {ad : Nat → Nat} {ls : List (Option pe_V)} {j : Nat} {v : pe_V} (h : pe_ld ls j = some v) : (j, pe_e ad v) ∈ pe_kn ad ls := List.mem_filterMap.mpr ⟨j, List.mem_range.mpr (pe_ld_lt ls j v h), by simp [h]⟩
theorem pe_lv_has {ad : Nat → Nat} {Ls : Array Slot} {ls : List (Option pe_V)} (h : pe_lv ad Ls ls) : lv_has Ls ls.length (pe_kn ad ls) := by
  refine ⟨h.1, h.2.1, fun q hq => ?_⟩
  obtain ⟨j, -, hj⟩ := List.mem_filterMap.mp hq
  cases hv : pe_ld ls j with
  | none => rw [hv] at hj; simp at hj
  | some v =>
    rw [hv] at hj
    simp at hj
    subst hj
    exact h.2.2 j v hv
theorem pe_cat_e {ad : Nat → Nat} {v : pe_V} (h : ∀ x : Int, v ≠ .inr (.inl x)) : (pe_e ad v).category = 1 := by
  rcases v with x | (x | r)
  · rfl
  · exact absurd rfl (h x)
  · show (pe_rf ad r).category = 1
    unfold pe_rf; split <;> rfl
theorem pe_lv_st1 {ad : Nat → Nat} {Ls' : Array Slot} {ls : List (Option pe_V)} {i : Nat} {v : pe_V} (hi : i < ls.length)
    (h : lv_has Ls' ls.length ((i, pe_e ad v) :: (pe_kn ad ls).filter (fun q => !(q.1 == i) && !(q.1 + 1 == i && q.2.category == 2)))) : pe_lv ad Ls' (pe_st1 ls i v) := by
  unfold pe_st1
  refine ⟨by rw [pe_sto_len, pe_kil_len]; exact h.1, h.2.1, fun j w hj => ?_⟩
  rw [pe_ld_sto] at hj
  by_cases hji : j = i
  · subst hji
    rw [if_pos rfl, pe_kil_len, if_pos hi] at hj
    cases hj
    exact h.2.2 (j, pe_e ad v) List.mem_cons_self
  · rw [if_neg hji] at hj
    obtain ⟨h1, h2⟩ := pe_ld_kil hj
    refine h.2.2 (j, pe_e ad w) (List.mem_cons_of_mem _ (List.mem_filter.mpr ⟨pe_kn_mem h1, ?_⟩))
    by_cases hn : j + 1 = i
    · simp [hji, pe_cat_e (ad := ad) (h2 hn)]
    · simp [hji, hn]
theorem pe_lv_st2 {ad : Nat → Nat} {Ls' : Array Slot} {ls : List (Option pe_V)} {i : Nat} {v : pe_V} (hi : i + 1 < ls.length)
    (h : lv_has Ls' ls.length ((i, pe_e ad v) :: (pe_kn ad ls).filter (fun q => !(q.1 == i) && (!(q.1 == i + 1) && !(q.1 + 1 == i && q.2.category == 2))))) : pe_lv ad Ls' (pe_st2 ls i v) := by
  unfold pe_st2
  refine ⟨by rw [pe_sto_len, pe_sto_len, pe_kil_len]; exact h.1, h.2.1, fun j w hj => ?_⟩
  rw [pe_ld_sto] at hj
  by_cases hji : j = i
  · subst hji
    rw [if_pos rfl, pe_sto_len, pe_kil_len, if_pos (by omega)] at hj
    cases hj
    exact h.2.2 (j, pe_e ad v) List.mem_cons_self
  · rw [if_neg hji, pe_ld_sto] at hj
    by_cases hj1 : j = i + 1
    · rw [if_pos hj1] at hj
      split at hj <;> simp at hj
    · rw [if_neg hj1] at hj
      obtain ⟨h1, h2⟩ := pe_ld_kil hj
      refine h.2.2 (j, pe_e ad w) (List.mem_cons_of_mem _ (List.mem_filter.mpr ⟨pe_kn_mem h1, ?_⟩))
      by_cases hn : j + 1 = i
      · simp [hji, hj1, pe_cat_e (ad := ad) (h2 hn)]
      · simp [hji, hj1, hn]
theorem pe_cat_ok (ad : Nat → Nat) : ∀ st : List pe_V, ((st.map (pe_e ad)).map fun v => v.category).sum = pe_cat st
  | [] => rfl
  | .inl x :: l => by simp [pe_cat, pe_e, Value.category, ← pe_cat_ok ad l]
  | .inr (.inl x) :: l => by simp [pe_cat, pe_e, Value.category, ← pe_cat_ok ad l]
  | .inr (.inr r) :: l => by
    have h : (pe_e ad (.inr (.inr r))).category = 1 := pe_cat_e (fun x q => by simp at q)
    simp only [List.map_cons, List.sum_cons, h, pe_cat, ← pe_cat_ok ad l]
