/-! THE MODEL: shelves -/
/-- what a shelf holds: 0 nothing, 1 a manner, 2 a row; kind and figure, or sort; numbers -/
abbrev pa_Sh : Type := Int × (Int × Int) × List Int
def pa_rng (s v : Int) : Prop := (s = 0 → -128 ≤ v ∧ v ≤ 127) ∧ (s = 1 → -32768 ≤ v ∧ v ≤ 32767) ∧ -2147483648 ≤ v ∧ v < 2147483648
def pa_wfs (s : pa_Sh) : Prop := (s.1 = 0 ∨ s.1 = 1 ∨ s.1 = 2) ∧ (s.1 = 1 → (0 ≤ s.2.1.1 ∧ s.2.1.1 ≤ 5) ∧ 0 ≤ s.2.1.2 ∧ s.2.1.2 ≤ 9) ∧ (s.1 = 2 → (0 ≤ s.2.1.1 ∧ s.2.1.1 ≤ 2) ∧ s.2.2.length ≤ 100 ∧ ∀ i : Nat, i < s.2.2.length → pa_rng s.2.1.1 (s.2.2.getD i 0))
def pa_wfS (h : Int → pa_Sh) : Prop := ∀ d, 0 ≤ d → d < 8 → pa_wfs (h d)
def pa_shw (h : Int → pa_Sh) (d : Int) (s : pa_Sh) : Int → pa_Sh := fun i => if i = d then s else h i
def pa_K (h : Int → pa_Sh) (d : Int) : Int := if ¬ (0 ≤ d ∧ d ≤ 7) then -1 else if (h d).1 = 0 then -11 else if (h d).1 = 2 then -12 else 0
def pa_W (h : Int → pa_Sh) (d : Int) : Int := if ¬ (0 ≤ d ∧ d ≤ 7) then -1 else if (h d).1 = 0 then -11 else if (h d).1 ≠ 2 then -12 else 0
def pa_nar (v s : Int) : Int := if s = 0 then pe_i2b v else if s = 1 then pe_i2s v else pe_w v
def pa_least (s : Int) : Int := if s = 0 then -128 else if s = 1 then -32768 else -2147483648
def pa_doKeep (h : Int → pa_Sh) (d w k f : Int) : (Int → pa_Sh) × Int := if ¬ ((0 ≤ d ∧ d ≤ 7) ∧ (0 ≤ w ∧ w ≤ 1) ∧ (w = 1 → (0 ≤ k ∧ k ≤ 5) ∧ 0 ≤ f ∧ f ≤ 9)) then (h, -1) else (pa_shw h d (w, (k, f), []), 0)
def pa_doRow (h : Int → pa_Sh) (d s n : Int) : (Int → pa_Sh) × Int := if ¬ ((0 ≤ d ∧ d ≤ 7) ∧ (0 ≤ s ∧ s ≤ 2) ∧ n ≤ 100) then (h, -1) else if n < 0 then (h, -14) else (pa_shw h d (2, (s, 0), List.replicate n.toNat 0), 0)
def pa_doPut (h : Int → pa_Sh) (d i v : Int) : (Int → pa_Sh) × Int := if pa_W h d < 0 then (h, pa_W h d) else if ¬ (0 ≤ i ∧ i < ((h d).2.2.length : Int)) then (h, -13) else (pa_shw h d (2, (h d).2.1, (h d).2.2.set i.toNat (pa_nar v (h d).2.1.1)), 0)
/-- an element: what is thrown (0 nothing), its value -/
def pa_elem (h : Int → pa_Sh) (d i : Int) : Int × Int := if pa_W h d = -1 then (1, 0) else if pa_W h d < 0 ∨ ¬ (0 ≤ i ∧ i < ((h d).2.2.length : Int)) then (2, 0) else (0, (h d).2.2.getD i.toNat 0)
def pa_cpyL (le : List Int) (j : Int) (ld : List Int) (i n : Int) : List Int := (List.range le.length).map (fun (k : Nat) => if j ≤ (k : Int) ∧ (k : Int) < j + n then ld.getD (i + ((k : Int) - j)).toNat 0 else le.getD k 0)
def pa_doCopy (h : Int → pa_Sh) (d i e j n : Int) : (Int → pa_Sh) × Int := if ¬ ((0 ≤ d ∧ d ≤ 7) ∧ 0 ≤ e ∧ e ≤ 7) then (h, -1) else if (h d).1 = 0 ∨ (h e).1 = 0 then (h, -11) else if (h d).1 ≠ 2 ∨ (h e).1 ≠ 2 ∨ (h d).2.1.1 ≠ (h e).2.1.1 then (h, -12) else if n < 0 ∨ i < 0 ∨ j < 0 ∨ ((h d).2.2.length : Int) - n < i ∨ ((h e).2.2.length : Int) - n < j then (h, -13) else (pa_shw h e (2, (h e).2.1, pa_cpyL (h e).2.2 j (h d).2.2 i n), n)
def pa_cost (k f : Int) : Int := if k = 0 then f else if k = 1 then 1 else if k = 2 then 2 * f else if k = 3 then 4 else if k = 4 then 0 else 2 + f
def pa_aCost (h : Int → pa_Sh) (d : Int) : Int := if pa_K h d < 0 then pa_K h d else pa_cost (h d).2.1.1 (h d).2.1.2
def pa_aToss (h : Int → pa_Sh) (d : Int) : Int := if pa_K h d < 0 then pa_K h d else if (h d).2.1.1 = 2 ∨ (h d).2.1.1 = 4 ∨ (h d).2.1.2 = 0 then -15 else if (h d).2.1.1 = 0 then (h d).2.1.2 else if (h d).2.1.1 = 5 then 200 + pa_cost (h d).2.1.1 (h d).2.1.2 else 100 + (h d).2.1.2
def pm_RS1 (y : Nat → Int → Int) (d : Int) (s : pa_Sh) : Prop := y 27 d = s.1 ∧ (s.1 = 1 → y 28 d = s.2.1.1 ∧ y 29 d = s.2.1.2) ∧ (s.1 = 2 → y 30 d = s.2.1.1 ∧ y 31 d = s.2.2.length ∧ ∀ i : Nat, i < s.2.2.length → y 32 (100 * d + i) = s.2.2.getD i 0)
def pm_RS (y : Nat → Int → Int) (h : Int → pa_Sh) : Prop := ∀ d, 0 ≤ d → d < 8 → pm_RS1 y d (h d)
/-- what a shelf's calls change -/
def pm_Zh (k : Nat) (j : Int) : Prop := (27 ≤ k ∧ k ≤ 32) ∨ k = 42 ∨ (k = 0 ∧ j = 37)
theorem pe_i2b_r (x : Int) : -128 ≤ pe_i2b x ∧ pe_i2b x ≤ 127 := by
  unfold pe_i2b
  rw [Int8.toInt_toInt32]
  have h1 := Int8.le_toInt (Int32.ofInt x).toInt8
  have h2 := Int8.toInt_lt (Int32.ofInt x).toInt8
  omega
theorem pe_i2s_r (x : Int) : -32768 ≤ pe_i2s x ∧ pe_i2s x ≤ 32767 := by
  unfold pe_i2s
  rw [Int16.toInt_toInt32]
  have h1 := Int16.le_toInt (Int32.ofInt x).toInt16
  have h2 := Int16.toInt_lt (Int32.ofInt x).toInt16
  omega
theorem pe_w_r (x : Int) : -2147483648 ≤ pe_w x ∧ pe_w x < 2147483648 := by
  unfold pe_w
  have h1 := Int32.le_toInt (Int32.ofInt x)
  have h2 := Int32.toInt_lt (Int32.ofInt x)
  omega
theorem pa_nar_r (v s : Int) : pa_rng s (pa_nar v s) := by
  unfold pa_rng pa_nar
  have h1 := pe_i2b_r v
  have h2 := pe_i2s_r v
  have h3 := pe_w_r v
  split
  · omega
  · split <;> omega
theorem pa_getD_set (l : List Int) (i j : Nat) (v : Int) (hi : i < l.length) : (l.set i v).getD j 0 = if j = i then v else l.getD j 0 := by
  rw [List.getD_eq_getElem?_getD, List.getD_eq_getElem?_getD, List.getElem?_set]
  by_cases e : i = j
  · subst e
    simp [hi]
  · rw [if_neg e, if_neg (fun q => e q.symm)]
theorem pa_cpyL_at {le ld : List Int} {j i n : Int} {k : Nat} (hk : k < le.length) : (pa_cpyL le j ld i n).getD k 0 = if j ≤ (k : Int) ∧ (k : Int) < j + n then ld.getD (i + ((k : Int) - j)).toNat 0 else le.getD k 0 := by
  unfold pa_cpyL
  rw [List.getD_eq_getElem?_getD, List.getElem?_map, List.getElem?_range hk]
  rfl
theorem pa_cpyL_len {le ld : List Int} {j i n : Int} : (pa_cpyL le j ld i n).length = le.length := by
  unfold pa_cpyL
  rw [List.length_map, List.length_range]
theorem pa_W_0 {h : Int → pa_Sh} {d : Int} (hw : ¬ pa_W h d < 0) : (0 ≤ d ∧ d < 8) ∧ (h d).1 = 2 ∧ pa_W h d = 0 := by
  unfold pa_W at hw ⊢
  split at hw
  · omega
  · split at hw
    · omega
    · split at hw
      · omega
      · rename_i q1 q2 q3
        rw [if_neg q1, if_neg q2, if_neg q3]
        omega
theorem pa_K_0 {h : Int → pa_Sh} {d : Int} (hs : pa_wfS h) (hw : ¬ pa_K h d < 0) : (0 ≤ d ∧ d < 8) ∧ (h d).1 = 1 ∧ pa_K h d = 0 := by
  unfold pa_K at hw ⊢
  split at hw
  · omega
  · rename_i q0
    have := (hs d (by omega) (by omega)).1
    split at hw
    · omega
    · split at hw
      · omega
      · rename_i q2 q3
        rw [if_neg q0, if_neg q2, if_neg q3]
        omega
theorem pa_W_r (h : Int → pa_Sh) (d : Int) : -12 ≤ pa_W h d ∧ pa_W h d ≤ 0 := by
  unfold pa_W
  split
  · omega
  · split
    · omega
    · split <;> omega
theorem pa_K_r (h : Int → pa_Sh) (d : Int) : -12 ≤ pa_K h d ∧ pa_K h d ≤ 0 := by
  unfold pa_K
  split
  · omega
  · split
    · omega
    · split <;> omega
section
variable {d M q : Nat} {Φ : Option pe_V → pe_H → Prop} {σ : pe_H} {y : Nat → Int → Int} {a : pa_M} {c n : Int} {h : Int → pa_Sh} {D : Int}
theorem pm_RS_fr {y2 : Nat → Int → Int} (hf : pm_fr pm_Zp y y2) (hS : pm_RS y h) : pm_RS y2 h := fun d d0 d8 => by
  obtain ⟨h1, h2, h3⟩ := hS d d0 d8
  have e : ∀ k, 27 ≤ k → k ≤ 32 → ∀ j, y2 k j = y k j := fun k k1 k2 j => hf k j (by unfold pm_Zp; omega)
  unfold pm_RS1
  rw [e 27 (by decide) (by decide), e 28 (by decide) (by decide), e 29 (by decide) (by decide), e 30 (by decide) (by decide), e 31 (by decide) (by decide)]
  refine ⟨h1, h2, fun q => ⟨(h3 q).1, (h3 q).2.1, fun i hi => ?_⟩⟩
  rw [e 32 (by decide) (by decide)]
  exact (h3 q).2.2 i hi
theorem pm_RS_37 {v : Int} (hS : pm_RS y h) : pm_RS (pm_u y 0 37 v) h := pm_RS_fr (pm_fr_u (by unfold pm_Zp; omega)) hS
theorem pm_RS_w {y2 : Nat → Int → Int} {s : pa_Sh} (hS : pm_RS y h) (h0 : 0 ≤ D) (h8 : D < 8) (hf : ∀ k j, 27 ≤ k → k ≤ 31 → j ≠ D → y2 k j = y k j) (hf2 : ∀ j, (j < 100 * D ∨ 100 * D + 100 ≤ j) → y2 32 j = y 32 j) (hw : pa_wfS h) (hn : pm_RS1 y2 D s) : pm_RS y2 (pa_shw h D s) := fun d d0 d8 => by
  unfold pa_shw
  by_cases e : d = D
  · rw [if_pos e, e]; exact hn
  · rw [if_neg e]
    obtain ⟨h1, h2, h3⟩ := hS d d0 d8
    unfold pm_RS1
    rw [hf 27 d (by decide) (by decide) e, hf 28 d (by decide) (by decide) e, hf 29 d (by decide) (by decide) e, hf 30 d (by decide) (by decide) e, hf 31 d (by decide) (by decide) e]
    refine ⟨h1, h2, fun q => ⟨(h3 q).1, (h3 q).2.1, fun i hi => ?_⟩⟩
    have hl := ((hw d d0 d8).2.2 q).2.1
    rw [hf2 _ (by omega)]
    exact (h3 q).2.2 i hi
/-- wrongKept -/
theorem c233 (hF : pm_F M σ) (hS : pm_RS y h) (hw : pa_wfS h) (hD : -2147483648 ≤ D ∧ D < 2147483648) (k : Φ (some (.inl (pa_K h D))) (pm_h M σ q y)) : pe_M (d + 2) 233 [.inr (.inr M), .inl D] (pm_h M σ q y) Φ := by
  unfold pa_K at k
  refine pe_M_of ck233 (Nat.le_of_ble_eq_true rfl) ?_
  refine b233_0 hF (k := ?_)
  refine c134 hF (by omega) (by omega) (by omega) (fun r => ?_) (fun r => ?_)
  · rw [if_neg (by omega)] at k
    have e := (hS D (by omega) (by omega)).1
    have eb := (hw D (by omega) (by omega)).1
    refine b233_9 hF (k1 := fun _ => ?_) (k2 := fun r => by omega)
    refine b233_16 hF (k1 := fun r1 => ?_) (k2 := fun r1 => ?_)
    · rw [if_neg (by omega)] at k
      refine b233_30 hF (k1 := fun r2 => ?_) (k2 := fun r2 => ?_)
      · rw [if_neg (by omega)] at k
        refine b233_45 hF (k := ?_)
        refine b233_46 hF (k := ?_)
        exact k
      · rw [if_pos (by omega)] at k
        refine b233_40 hF (k := ?_)
        refine b233_46 hF (k := ?_)
        exact k
    · rw [if_pos (by omega)] at k
      refine b233_25 hF (k := ?_)
      refine b233_46 hF (k := ?_)
      exact k
  · rw [if_pos (by omega)] at k
    refine b233_9 hF (k1 := fun r => absurd rfl r) (k2 := fun _ => ?_)
    refine b233_12 hF (k := ?_)
    refine b233_46 hF (k := ?_)
    exact k
/-- wrongRow -/
theorem c235 (hF : pm_F M σ) (hS : pm_RS y h) (hw : pa_wfS h) (hD : -2147483648 ≤ D ∧ D < 2147483648) (k : Φ (some (.inl (pa_W h D))) (pm_h M σ q y)) : pe_M (d + 2) 235 [.inr (.inr M), .inl D] (pm_h M σ q y) Φ := by
  unfold pa_W at k
  refine pe_M_of ck235 (Nat.le_of_ble_eq_true rfl) ?_
  refine b235_0 hF (k := ?_)
  refine c134 hF (by omega) (by omega) (by omega) (fun r => ?_) (fun r => ?_)
  · rw [if_neg (by omega)] at k
    have e := (hS D (by omega) (by omega)).1
    have eb := (hw D (by omega) (by omega)).1
    refine b235_9 hF (k1 := fun _ => ?_) (k2 := fun r => by omega)
    refine b235_16 hF (k1 := fun r1 => ?_) (k2 := fun r1 => ?_)
    · rw [if_neg (by omega)] at k
      refine b235_30 hF (k1 := fun r2 => ?_) (k2 := fun r2 => ?_)
      · rw [if_neg (by omega)] at k
        refine b235_45 hF (k := ?_)
        refine b235_46 hF (k := ?_)
        exact k
      · rw [if_pos (by omega)] at k
        refine b235_40 hF (k := ?_)
        refine b235_46 hF (k := ?_)
        exact k
    · rw [if_pos (by omega)] at k
      refine b235_25 hF (k := ?_)
      refine b235_46 hF (k := ?_)
      exact k
  · rw [if_pos (by omega)] at k
    refine b235_9 hF (k1 := fun r => absurd rfl r) (k2 := fun _ => ?_)
    refine b235_12 hF (k := ?_)
    refine b235_46 hF (k := ?_)
    exact k
/-- keep -/
theorem c234 {w kk f : Int} (hF : pm_F M σ) (hS : pm_RS y h) (hwS : pa_wfS h) (hD : -2147483648 ≤ D ∧ D < 2147483648) (hw : -2147483648 ≤ w ∧ w < 2147483648) (hk : -2147483648 ≤ kk ∧ kk < 2147483648) (hf : -2147483648 ≤ f ∧ f < 2147483648) (k : ∀ y2, pm_fr pm_Zh y y2 → y2 0 37 = 0 → pm_RS y2 (pa_doKeep h D w kk f).1 → Φ (some (.inl (pa_doKeep h D w kk f).2)) (pm_h M σ q y2)) : pe_M (d + 2) 234 [.inr (.inr M), .inl D, .inl w, .inl kk, .inl f] (pm_h M σ q y) Φ := by
  unfold pa_doKeep at k
  have fz : pm_fr pm_Zh y (pm_u y 0 37 0) := pm_fr_u (by unfold pm_Zh; omega)
  have e37 : (pm_u y 0 37 0) 0 37 = 0 := pm_us
  have hS1 := pm_RS_37 (v := 0) hS
  have hno : ¬ ((0 ≤ D ∧ D ≤ 7) ∧ (0 ≤ w ∧ w ≤ 1) ∧ (w = 1 → (0 ≤ kk ∧ kk ≤ 5) ∧ 0 ≤ f ∧ f ≤ 9)) → pe_X (d + 1) 234 (57, [some (.inr (.inr M)), some (.inl D), some (.inl w), some (.inl kk), some (.inl f)], [], pm_h M σ q (pm_u y 0 37 0)) Φ := fun hh => by
    rw [if_pos hh] at k
    refine b234_57 hF (k := ?_)
    exact k _ fz e37 hS1
  have hyes : ((0 ≤ D ∧ D ≤ 7) ∧ (0 ≤ w ∧ w ≤ 1) ∧ (w = 1 → (0 ≤ kk ∧ kk ≤ 5) ∧ 0 ≤ f ∧ f ≤ 9)) → pe_X (d + 1) 234 (59, [some (.inr (.inr M)), some (.inl D), some (.inl w), some (.inl kk), some (.inl f)], [], pm_h M σ q (pm_u y 0 37 0)) Φ := fun hh => by
    rw [if_neg (fun q => q hh)] at k
    have fin : ∀ v1 v2, (w = 1 → v1 = kk ∧ v2 = f) → Φ (some (.inl 0)) (pm_h M σ q (pm_u (pm_u (pm_u (pm_u y 0 37 0) 27 D w) 28 D v1) 29 D v2)) := fun v1 v2 hv => by
      refine k _ (pm_fr_then (pm_fr_then (pm_fr_then fz (by unfold pm_Zh; omega)) (by unfold pm_Zh; omega)) (by unfold pm_Zh; omega)) (by simp [pm_u]) (pm_RS_w hS1 (by omega) (by omega) (fun k j k1 k2 hj => ?_) (fun j _ => ?_) hwS ⟨?_, fun q => ?_, fun q => ?_⟩)
      · simp [pm_u, hj]
      · simp [pm_u]
      · simp [pm_u]
      · have q : w = 1 := q
        simp [pm_u, hv q]
      · have q : w = 2 := q
        omega
    refine b234_59 hF (k1 := fun q1 => ?_) (k2 := fun q1 => ?_)
    · refine b234_80 hF (k := ?_)
      refine b234_81 hF (k1 := fun _ => ?_) (k2 := fun r => by omega)
      refine b234_97 hF (k := ?_)
      refine b234_98 hF (k := ?_)
      exact fin 0 0 (fun q => absurd q q1)
    · refine b234_76 hF (k := ?_)
      refine b234_81 hF (k1 := fun r => by omega) (k2 := fun _ => ?_)
      refine b234_92 hF (k := ?_)
      refine b234_98 hF (k := ?_)
      exact fin kk f (fun _ => ⟨rfl, rfl⟩)
  refine pe_M_of ck234 (Nat.le_of_ble_eq_true rfl) ?_
  refine b234_0 hF (k := ?_)
  generalize pm_u y 0 37 0 = z at *
  refine c134 hF (by omega) (by omega) (by omega) (fun r => ?_) (fun r => ?_)
  · refine b234_14 hF (k1 := fun r => by omega) (k2 := fun _ => ?_)
    refine b234_17 hF (k := ?_)
    refine c134 hF (by omega) (by omega) (by omega) (fun rw => ?_) (fun rw => ?_)
    · refine b234_24 hF (k1 := fun r => by omega) (k2 := fun _ => ?_)
      refine b234_27 hF (k1 := fun r1 => ?_) (k2 := fun r1 => ?_)
      · exact hyes (by omega)
      · refine b234_32 hF (k := ?_)
        refine c134 hF (by omega) (by omega) (by omega) (fun rk => ?_) (fun rk => ?_)
        · refine b234_41 hF (k1 := fun r => by omega) (k2 := fun _ => ?_)
          refine b234_44 hF (k := ?_)
          refine c134 hF (by omega) (by omega) (by omega) (fun rf => ?_) (fun rf => ?_)
          · refine b234_54 hF (k1 := fun _ => ?_) (k2 := fun r => by omega)
            exact hyes (by omega)
          · refine b234_54 hF (k1 := fun r => absurd rfl r) (k2 := fun _ => ?_)
            exact hno (by omega)
        · refine b234_41 hF (k1 := fun _ => ?_) (k2 := fun r => absurd rfl r)
          exact hno (by omega)
    · refine b234_24 hF (k1 := fun _ => ?_) (k2 := fun r => absurd rfl r)
      exact hno (by omega)
  · refine b234_14 hF (k1 := fun _ => ?_) (k2 := fun r => absurd rfl r)
    exact hno (by omega)
/-- narrowed -/
theorem c236 {v s : Int} (hF : pm_F M σ) (hv : -2147483648 ≤ v ∧ v < 2147483648) (hs : 0 ≤ s ∧ s ≤ 2) (k : Φ (some (.inr (.inl (pa_nar v s)))) (pm_h M σ q y)) : pe_M (d + 1) 236 [.inl v, .inl s] (pm_h M σ q y) Φ := by
  unfold pa_nar at k
  have h1 := pe_i2b_r v
  have h2 := pe_i2s_r v
  refine pe_M_of ck236 (Nat.le_of_ble_eq_true rfl) ?_
  refine b236_0 hF (k1 := fun r => ?_) (k2 := fun r => ?_)
  · rw [if_neg r] at k
    refine b236_10 hF (k1 := fun r1 => ?_) (k2 := fun r1 => ?_)
    · rw [if_neg r1, pe_w_id hv.1 hv.2] at k
      refine b236_21 hF (k := ?_)
      refine b236_23 hF (k := ?_)
      exact k
    · rw [if_pos r1] at k
      refine b236_15 hF (k := ?_)
      refine b236_23 hF (k := ?_)
      exact k
  · rw [if_pos r] at k
    refine b236_4 hF (k := ?_)
    refine b236_23 hF (k := ?_)
    exact k
/-- row -/
theorem c237 {s : Int} (hF : pm_F M σ) (hS : pm_RS y h) (hwS : pa_wfS h) (hD : -2147483648 ≤ D ∧ D < 2147483648) (hs : -2147483648 ≤ s ∧ s < 2147483648) (hn : -2147483648 ≤ n ∧ n < 2147483648) (k : ∀ y2, pm_fr pm_Zh y y2 → y2 0 37 = 0 → pm_RS y2 (pa_doRow h D s n).1 → Φ (some (.inl (pa_doRow h D s n).2)) (pm_h M σ q y2)) : pe_M (d + 2) 237 [.inr (.inr M), .inl D, .inl s, .inl n] (pm_h M σ q y) Φ := by
  unfold pa_doRow at k
  have fz : pm_fr pm_Zh y (pm_u y 0 37 0) := pm_fr_u (by unfold pm_Zh; omega)
  have e37 : (pm_u y 0 37 0) 0 37 = 0 := pm_us
  have hS1 := pm_RS_37 (v := 0) hS
  have hno : ¬ ((0 ≤ D ∧ D ≤ 7) ∧ (0 ≤ s ∧ s ≤ 2) ∧ n ≤ 100) → pe_X (d + 1) 237 (35, [some (.inr (.inr M)), some (.inl D), some (.inl s), some (.inl n), none], [], pm_h M σ q (pm_u y 0 37 0)) Φ := fun hh => by
    rw [if_pos hh] at k
    refine b237_35 hF (k := ?_)
    exact k _ fz e37 hS1
  refine pe_M_of ck237 (Nat.le_of_ble_eq_true rfl) ?_
  refine b237_0 hF (k := ?_)
  generalize pm_u y 0 37 0 = z at *
  refine c134 hF (by omega) (by omega) (by omega) (fun r => ?_) (fun r => ?_)
  · refine b237_14 hF (k1 := fun r => by omega) (k2 := fun _ => ?_)
    refine b237_17 hF (k := ?_)
    refine c134 hF (by omega) (by omega) (by omega) (fun rs => ?_) (fun rs => ?_)
    · refine b237_26 hF (k1 := fun r => by omega) (k2 := fun _ => ?_)
      refine b237_29 hF (k1 := fun rn => ?_) (k2 := fun rn => ?_)
      · rw [if_neg (by omega)] at k
        refine b237_37 hF (k1 := fun r0 => ?_) (k2 := fun r0 => ?_)
        · rw [if_neg (by omega)] at k
          have loop : ∀ (m i : Nat) (o2 o3 : Option pe_V) (y4 : Nat → Int → Int), i + m = 100 → pm_fr pm_Zh y y4 → y4 0 37 = 0 → (y4 27 D = 2 ∧ y4 30 D = s ∧ y4 31 D = n) → (∀ k j, 27 ≤ k → k ≤ 31 → j ≠ D → y4 k j = z k j) → (∀ j, (j < 100 * D ∨ 100 * D + 100 ≤ j) → y4 32 j = z 32 j) → (∀ j : Nat, j < i → y4 32 (100 * D + j) = 0) → pe_X (d + 1) 237 (68, [some (.inr (.inr M)), some (.inl D), o2, o3, some (.inl (i : Int))], [], pm_h M σ q y4) Φ := by
            intro m
            induction m with
            | zero =>
              intro i o2 o3 y4 hi g1 g2 g3 g4 g5 g6
              refine b237_68 hF (k1 := fun _ => ?_) (k2 := fun r => by omega)
              refine b237_94 hF (k := ?_)
              refine k _ g1 g2 (pm_RS_w hS1 (by omega) (by omega) g4 g5 hwS ⟨g3.1, fun q => ?_, fun _ => ⟨g3.2.1, ?_, fun j hj => ?_⟩⟩)
              · have q : (2 : Int) = 1 := q
                omega
              · show y4 31 D = ((List.replicate n.toNat (0 : Int)).length : Int)
                rw [List.length_replicate, g3.2.2]; omega
              · have hj : j < (List.replicate n.toNat (0 : Int)).length := hj
                rw [List.length_replicate] at hj
                rw [g6 j (by omega)]
                show 0 = (List.replicate n.toNat (0 : Int)).getD j 0
                rw [List.getD_eq_getElem?_getD, List.getElem?_replicate, if_pos hj]
                rfl
            | succ m ih =>
              intro i o2 o3 y4 hi g1 g2 g3 g4 g5 g6
              refine b237_68 hF (k1 := fun r => by omega) (k2 := fun _ => ?_)
              refine b237_75 hF (k := ?_)
              refine ih (i + 1) _ _ _ (by omega) (pm_fr_then g1 (by unfold pm_Zh; omega)) ?_ ?_ (fun k j k1 k2 hj => ?_) (fun j hj => ?_) (fun j hj => ?_)
              · simpa [pm_u] using g2
              · simpa [pm_u] using g3
              · rw [← g4 k j k1 k2 hj]
                simp only [pm_u]
                rw [if_neg (by omega)]
              · rw [← g5 j hj]
                simp only [pm_u]
                rw [if_neg (by omega)]
              · simp only [pm_u]
                by_cases e : j = i
                · rw [if_pos ⟨trivial, by omega⟩]
                · rw [if_neg (by omega)]
                  exact g6 j (by omega)
          refine b237_44 hF (k := ?_)
          refine loop 100 0 _ _ _ (by decide) (pm_fr_then (pm_fr_then (pm_fr_then fz (by unfold pm_Zh; omega)) (by unfold pm_Zh; omega)) (by unfold pm_Zh; omega)) ?_ ?_ (fun k j k1 k2 hj => ?_) (fun j hj => ?_) (fun j hj => absurd hj (Nat.not_lt_zero _))
          · simpa [pm_u] using e37
          · simp [pm_u]
          · simp [pm_u, hj]
          · simp [pm_u]
        · rw [if_pos (by omega)] at k
          refine b237_41 hF (k := ?_)
          exact k _ fz e37 hS1
      · exact hno (by omega)
    · refine b237_26 hF (k1 := fun _ => ?_) (k2 := fun r => absurd rfl r)
      exact hno (by omega)
  · refine b237_14 hF (k1 := fun _ => ?_) (k2 := fun r => absurd rfl r)
    exact hno (by omega)
/-- put -/
theorem c238 {i v : Int} (hF : pm_F M σ) (hS : pm_RS y h) (hwS : pa_wfS h) (hD : -2147483648 ≤ D ∧ D < 2147483648) (hi : -2147483648 ≤ i ∧ i < 2147483648) (hv : -2147483648 ≤ v ∧ v < 2147483648) (k : ∀ y2, pm_fr pm_Zh y y2 → y2 0 37 = 0 → pm_RS y2 (pa_doPut h D i v).1 → Φ (some (.inl (pa_doPut h D i v).2)) (pm_h M σ q y2)) : pe_M (d + 3) 238 [.inr (.inr M), .inl D, .inl i, .inl v] (pm_h M σ q y) Φ := by
  unfold pa_doPut at k
  have fz : pm_fr pm_Zh y (pm_u y 0 37 0) := pm_fr_u (by unfold pm_Zh; omega)
  have e37 : (pm_u y 0 37 0) 0 37 = 0 := pm_us
  have hS1 := pm_RS_37 (v := 0) hS
  have hr := pa_W_r h D
  refine pe_M_of ck238 (Nat.le_of_ble_eq_true rfl) ?_
  refine b238_0 hF (k := ?_)
  generalize pm_u y 0 37 0 = z at *
  refine c235 hF hS1 hwS hD ?_
  by_cases hw : pa_W h D < 0
  · rw [if_pos hw] at k
    refine b238_10 hF (k1 := fun r => by omega) (k2 := fun _ => ?_)
    refine b238_17 hF (k := ?_)
    exact k _ fz e37 hS1
  · rw [if_neg hw] at k
    obtain ⟨w1, w2, w3⟩ := pa_W_0 hw
    obtain ⟨s1, s2, s3⟩ := hS1 D w1.1 w1.2
    obtain ⟨s4, s5, s6⟩ := s3 w2
    obtain ⟨v1, v2, v3⟩ := (hwS D w1.1 w1.2).2.2 w2
    refine b238_10 hF (k1 := fun _ => ?_) (k2 := fun r => by omega)
    refine b238_20 hF (k := ?_)
    refine pe_M.up (c134 (d := 0) hF (by omega) (by omega) (by omega) (fun r => ?_) (fun r => ?_)) (by omega)
    · rw [if_neg (by omega)] at k
      refine b238_35 hF (k1 := fun _ => ?_) (k2 := fun r => by omega)
      refine b238_41 hF (k := ?_)
      rw [s4]
      refine pe_M.up (c236 (d := 0) hF hv v1 ?_) (by omega)
      refine b238_61 hF (k := ?_)
      refine k _ (pm_fr_then fz (by unfold pm_Zh; omega)) (by simpa [pm_u] using e37) (pm_RS_w hS1 w1.1 w1.2 (fun k j k1 k2 hj => ?_) (fun j hj => ?_) hwS ⟨?_, fun q => ?_, fun _ => ⟨?_, ?_, fun j hj => ?_⟩⟩)
      · simp only [pm_u]; rw [if_neg (by omega)]
      · simp only [pm_u]; rw [if_neg (by omega)]
      · show (pm_u z 32 (100 * D + i) _) 27 D = 2
        simp only [pm_u]; rw [if_neg (by omega), s1, w2]
      · have q : (2 : Int) = 1 := q
        omega
      · simp only [pm_u]; rw [if_neg (by omega)]; exact s4
      · show (pm_u z 32 (100 * D + i) _) 31 D = (((h D).2.2.set i.toNat (pa_nar v (h D).2.1.1)).length : Int)
        simp only [pm_u]; rw [if_neg (by omega), List.length_set]; exact s5
      · have hj : j < ((h D).2.2.set i.toNat (pa_nar v (h D).2.1.1)).length := hj
        rw [List.length_set] at hj
        show (pm_u z 32 (100 * D + i) _) 32 (100 * D + (j : Int)) = ((h D).2.2.set i.toNat (pa_nar v (h D).2.1.1)).getD j 0
        rw [pa_getD_set _ _ _ _ (by omega)]
        simp only [pm_u]
        by_cases e : j = i.toNat
        · rw [if_pos ⟨trivial, by omega⟩, if_pos e]
        · rw [if_neg (by omega), if_neg e]
          exact s6 j hj
    · rw [if_pos (by omega)] at k
      refine b238_35 hF (k1 := fun r => absurd rfl r) (k2 := fun _ => ?_)
      refine b238_38 hF (k := ?_)
      exact k _ fz e37 hS1
/-- element -/
theorem c239 {i : Int} (hF : pm_F M σ) (hS : pm_RS y h) (hwS : pa_wfS h) (hD : -2147483648 ≤ D ∧ D < 2147483648) (hi : -2147483648 ≤ i ∧ i < 2147483648) (k : Φ (some (.inr (.inl (pa_elem h D i).2))) (pm_h M σ q (pm_u y 0 37 (pa_elem h D i).1))) : pe_M (d + 3) 239 [.inr (.inr M), .inl D, .inl i] (pm_h M σ q y) Φ := by
  unfold pa_elem at k
  have hr := pa_W_r h D
  refine pe_M_of ck239 (Nat.le_of_ble_eq_true rfl) ?_
  refine b239_0 hF (k := ?_)
  refine c235 hF hS hwS hD ?_
  by_cases h1 : pa_W h D = -1
  · rw [if_pos h1] at k
    refine b239_5 hF (k1 := fun r => by omega) (k2 := fun _ => ?_)
    refine b239_12 hF (k := ?_)
    refine b239_43 hF (k1 := fun r => by omega) (k2 := fun _ => ?_)
    refine b239_53 hF (k := ?_)
    refine b239_68 hF (k := ?_)
    exact k
  · rw [if_neg h1] at k
    refine b239_5 hF (k1 := fun _ => ?_) (k2 := fun r => by omega)
    by_cases hw : pa_W h D < 0
    · rw [if_pos (Or.inl hw)] at k
      refine b239_16 hF (k1 := fun _ => ?_) (k2 := fun r => by omega)
      refine b239_38 hF (k := ?_)
      refine b239_43 hF (k1 := fun r => by omega) (k2 := fun _ => ?_)
      refine b239_53 hF (k := ?_)
      refine b239_68 hF (k := ?_)
      exact k
    · obtain ⟨w1, w2, w3⟩ := pa_W_0 hw
      obtain ⟨s1, s2, s3⟩ := hS D w1.1 w1.2
      obtain ⟨s4, s5, s6⟩ := s3 w2
      obtain ⟨v1, v2, v3⟩ := (hwS D w1.1 w1.2).2.2 w2
      refine b239_16 hF (k1 := fun r => by omega) (k2 := fun _ => ?_)
      refine b239_20 hF (k := ?_)
      refine pe_M.up (c134 (d := 0) hF (by omega) (by omega) (by omega) (fun r => ?_) (fun r => ?_)) (by omega)
      · rw [if_neg (by omega)] at k
        refine b239_35 hF (k1 := fun _ => ?_) (k2 := fun r => by omega)
        refine b239_42 hF (k := ?_)
        refine b239_43 hF (k1 := fun _ => ?_) (k2 := fun r => by omega)
        refine b239_57 hF (k := ?_)
        refine b239_68 hF (k := ?_)
        have := s6 i.toNat (by omega)
        rw [show 100 * D + ((i.toNat : Nat) : Int) = 100 * D + i by omega] at this
        rw [show (pm_u y 0 37 0) 32 (100 * D + i) = y 32 (100 * D + i) from if_neg (by omega), this]
        exact k
      · rw [if_pos (by omega)] at k
        refine b239_35 hF (k1 := fun r => absurd rfl r) (k2 := fun _ => ?_)
        refine b239_38 hF (k := ?_)
        refine b239_43 hF (k1 := fun r => by omega) (k2 := fun _ => ?_)
        refine b239_53 hF (k := ?_)
        refine b239_68 hF (k := ?_)
        exact k
/-- copy -/
theorem c240 {i e j : Int} (hF : pm_F M σ) (hS : pm_RS y h) (hwS : pa_wfS h) (hD : -2147483648 ≤ D ∧ D < 2147483648) (hi : -2147483648 ≤ i ∧ i < 2147483648) (he : -2147483648 ≤ e ∧ e < 2147483648) (hj : -2147483648 ≤ j ∧ j < 2147483648) (hn : -2147483648 ≤ n ∧ n < 2147483648) (k : ∀ y2, pm_fr pm_Zh y y2 → y2 0 37 = 0 → pm_RS y2 (pa_doCopy h D i e j n).1 → Φ (some (.inl (pa_doCopy h D i e j n).2)) (pm_h M σ q y2)) : pe_M (d + 2) 240 [.inr (.inr M), .inl D, .inl i, .inl e, .inl j, .inl n] (pm_h M σ q y) Φ := by
  unfold pa_doCopy at k
  have fz : pm_fr pm_Zh y (pm_u y 0 37 0) := pm_fr_u (by unfold pm_Zh; omega)
  have e37 : (pm_u y 0 37 0) 0 37 = 0 := pm_us
  have hS1 := pm_RS_37 (v := 0) hS
  have hno : ¬ ((0 ≤ D ∧ D ≤ 7) ∧ 0 ≤ e ∧ e ≤ 7) → pe_X (d + 1) 240 (29, [some (.inr (.inr M)), some (.inl D), some (.inl i), some (.inl e), some (.inl j), some (.inl n), none], [], pm_h M σ q (pm_u y 0 37 0)) Φ := fun hh => by
    rw [if_pos hh] at k
    refine b240_29 hF (k := ?_)
    exact k _ fz e37 hS1
  refine pe_M_of ck240 (Nat.le_of_ble_eq_true rfl) ?_
  refine b240_0 hF (k := ?_)
  generalize pm_u y 0 37 0 = z at *
  refine c134 hF (by omega) (by omega) (by omega) (fun r => ?_) (fun r => ?_)
  · refine b240_14 hF (k1 := fun r => by omega) (k2 := fun _ => ?_)
    refine b240_17 hF (k := ?_)
    refine c134 hF (by omega) (by omega) (by omega) (fun re => ?_) (fun re => ?_)
    · refine b240_26 hF (k1 := fun _ => ?_) (k2 := fun r => by omega)
      rw [if_neg (by omega)] at k
      obtain ⟨s1, s2, s3⟩ := hS1 D (by omega) (by omega)
      obtain ⟨t1, t2, t3⟩ := hS1 e (by omega) (by omega)
      have bD := (hwS D (by omega) (by omega)).1
      have be := (hwS e (by omega) (by omega)).1
      by_cases q0 : (h D).1 = 0 ∨ (h e).1 = 0
      · rw [if_pos q0] at k
        refine b240_31 hF (k1 := fun r1 => ?_) (k2 := fun r1 => ?_)
        · refine b240_49 hF (k := ?_)
          exact k _ fz e37 hS1
        · refine b240_40 hF (k1 := fun r => by omega) (k2 := fun _ => ?_)
          refine b240_49 hF (k := ?_)
          exact k _ fz e37 hS1
      · rw [if_neg q0] at k
        refine b240_31 hF (k1 := fun r => by omega) (k2 := fun _ => ?_)
        refine b240_40 hF (k1 := fun _ => ?_) (k2 := fun r => by omega)
        by_cases q1 : (h D).1 = 2 ∧ (h e).1 = 2
        · obtain ⟨s4, s5, s6⟩ := s3 q1.1
          obtain ⟨t4, t5, t6⟩ := t3 q1.2
          obtain ⟨v1, v2, v3⟩ := (hwS D (by omega) (by omega)).2.2 q1.1
          obtain ⟨u1, u2, u3⟩ := (hwS e (by omega) (by omega)).2.2 q1.2
          refine b240_52 hF (k1 := fun r => by omega) (k2 := fun _ => ?_)
          refine b240_62 hF (k1 := fun r => by omega) (k2 := fun _ => ?_)
          refine b240_72 hF (k1 := fun r2 => ?_) (k2 := fun r2 => ?_)
          · rw [if_neg (by omega)] at k
            have hbad : (n < 0 ∨ i < 0 ∨ j < 0 ∨ ((h D).2.2.length : Int) - n < i ∨ ((h e).2.2.length : Int) - n < j) → pe_X (d + 1) 240 (131, [some (.inr (.inr M)), some (.inl D), some (.inl i), some (.inl e), some (.inl j), some (.inl n), none], [], pm_h M σ q z) Φ := fun hb => by
              rw [if_pos hb] at k
              refine b240_131 hF (k := ?_)
              exact k _ fz e37 hS1
            refine b240_90 hF (k1 := fun r3 => ?_) (k2 := fun r3 => ?_)
            · exact hbad (by omega)
            · refine b240_95 hF (k1 := fun r4 => ?_) (k2 := fun r4 => ?_)
              · exact hbad (by omega)
              · refine b240_99 hF (k1 := fun r5 => ?_) (k2 := fun r5 => ?_)
                · exact hbad (by omega)
                · refine b240_104 hF (k1 := fun r6 => ?_) (k2 := fun r6 => ?_)
                  · exact hbad (by omega)
                  · refine b240_117 hF (k1 := fun r7 => ?_) (k2 := fun r7 => ?_)
                    · rw [if_neg (by omega)] at k
                      have loop2 : ∀ (m x : Nat) (o1 o2 : Option pe_V) (y4 : Nat → Int → Int), (x : Int) + m = n → pm_fr pm_Zh y y4 → y4 0 37 = 0 → (∀ k j, 27 ≤ k → k ≤ 31 → y4 k j = z k j) → (∀ x : Nat, (x : Int) < n → y4 42 x = z 32 (100 * D + i + x)) → (∀ a, y4 32 a = if 100 * e + j ≤ a ∧ a < 100 * e + j + x then z 32 (100 * D + i + (a - (100 * e + j))) else z 32 a) → pe_X (d + 1) 240 (174, [some (.inr (.inr M)), o1, o2, some (.inl e), some (.inl j), some (.inl n), some (.inl (x : Int))], [], pm_h M σ q y4) Φ := by
                        intro m
                        induction m with
                        | zero =>
                          intro x o1 o2 y4 hx g1 g2 g3 g4 g5
                          refine b240_174 hF (k1 := fun _ => ?_) (k2 := fun r => by omega)
                          refine b240_209 hF (k := ?_)
                          refine k _ g1 g2 (pm_RS_w hS1 (by omega) (by omega) (fun k j k1 k2 _ => g3 k j k1 k2) (fun b hb => ?_) hwS ⟨?_, fun q => ?_, fun _ => ⟨?_, ?_, fun b hb => ?_⟩⟩)
                          · rw [g5 b, if_neg (by omega)]
                          · rw [g3 27 e (by decide) (by decide), t1, q1.2]
                          · have q : (2 : Int) = 1 := q
                            omega
                          · rw [g3 30 e (by decide) (by decide)]; exact t4
                          · show y4 31 e = ((pa_cpyL (h e).2.2 j (h D).2.2 i n).length : Int)
                            rw [pa_cpyL_len, g3 31 e (by decide) (by decide)]; exact t5
                          · have hb : b < (pa_cpyL (h e).2.2 j (h D).2.2 i n).length := hb
                            rw [pa_cpyL_len] at hb
                            show y4 32 (100 * e + (b : Int)) = (pa_cpyL (h e).2.2 j (h D).2.2 i n).getD b 0
                            rw [pa_cpyL_at hb, g5]
                            by_cases qq : j ≤ (b : Int) ∧ (b : Int) < j + n
                            · rw [if_pos (by omega), if_pos qq, ← s6 (i + ((b : Int) - j)).toNat (by omega)]
                              congr 1
                              omega
                            · rw [if_neg (by omega), if_neg qq]
                              exact t6 b hb
                        | succ m ih =>
                          intro x o1 o2 y4 hx g1 g2 g3 g4 g5
                          refine b240_174 hF (k1 := fun r => by omega) (k2 := fun _ => ?_)
                          refine b240_181 hF (k := ?_)
                          refine ih (x + 1) _ _ _ (by push_cast; omega) (pm_fr_then g1 (by unfold pm_Zh; omega)) (by simpa [pm_u] using g2) (fun k j k1 k2 => ?_) (fun x hx => ?_) (fun b => ?_)
                          · rw [← g3 k j k1 k2]
                            simp only [pm_u]; rw [if_neg (by omega)]
                          · rw [← g4 x hx]
                            simp only [pm_u]; rw [if_neg (by omega)]
                          · simp only [pm_u, true_and]
                            rw [g5 b, g4 x (by omega)]
                            by_cases eb : b = 100 * e + j + x
                            · rw [if_pos eb, if_pos (by push_cast; omega)]
                              congr 1
                              omega
                            · rw [if_neg eb]
                              by_cases qq : 100 * e + j ≤ b ∧ b < 100 * e + j + x
                              · rw [if_pos qq, if_pos (by push_cast; omega)]
                              · rw [if_neg qq, if_neg (by push_cast; omega)]
                      have loop1 : ∀ (m x : Nat) (y4 : Nat → Int → Int), (x : Int) + m = n → pm_fr pm_Zh y y4 → y4 0 37 = 0 → (∀ k j, 27 ≤ k → k ≤ 32 → y4 k j = z k j) → (∀ b : Nat, b < x → y4 42 b = z 32 (100 * D + i + b)) → pe_X (d + 1) 240 (137, [some (.inr (.inr M)), some (.inl D), some (.inl i), some (.inl e), some (.inl j), some (.inl n), some (.inl (x : Int))], [], pm_h M σ q y4) Φ := by
                        intro m
                        induction m with
                        | zero =>
                          intro x y4 hx g1 g2 g3 g4
                          refine b240_137 hF (k1 := fun _ => ?_) (k2 := fun r => by omega)
                          refine b240_171 hF (k := ?_)
                          refine loop2 n.toNat 0 _ _ y4 (by omega) g1 g2 (fun k j k1 k2 => g3 k j k1 (by omega)) (fun b hb => g4 b (by omega)) (fun b => ?_)
                          rw [if_neg (by omega), g3 32 b (by decide) (by decide)]
                        | succ m ih =>
                          intro x y4 hx g1 g2 g3 g4
                          refine b240_137 hF (k1 := fun r => by omega) (k2 := fun _ => ?_)
                          refine b240_144 hF (k := ?_)
                          refine ih (x + 1) _ (by push_cast; omega) (pm_fr_then g1 (by unfold pm_Zh; omega)) (by simpa [pm_u] using g2) (fun k j k1 k2 => ?_) (fun b hb => ?_)
                          · rw [← g3 k j k1 k2]
                            simp only [pm_u]; rw [if_neg (by omega)]
                          · simp only [pm_u, true_and]
                            by_cases eb : b = x
                            · subst eb
                              rw [if_pos rfl, g3 32 _ (by decide) (by decide)]
                            · rw [if_neg (by omega)]
                              exact g4 b (by omega)
                      refine b240_134 hF (k := ?_)
                      exact loop1 n.toNat 0 z (by omega) fz e37 (fun _ _ _ _ => rfl) (fun b hb => absurd hb (Nat.not_lt_zero _))
                    · exact hbad (by omega)
          · rw [if_pos (by omega)] at k
            refine b240_87 hF (k := ?_)
            exact k _ fz e37 hS1
        · rw [if_pos (by omega)] at k
          refine b240_52 hF (k1 := fun r2 => ?_) (k2 := fun r2 => ?_)
          · refine b240_87 hF (k := ?_)
            exact k _ fz e37 hS1
          · refine b240_62 hF (k1 := fun _ => ?_) (k2 := fun r => by omega)
            refine b240_87 hF (k := ?_)
            exact k _ fz e37 hS1
    · refine b240_26 hF (k1 := fun r => absurd rfl r) (k2 := fun _ => ?_)
      exact hno (by omega)
  · refine b240_14 hF (k1 := fun _ => ?_) (k2 := fun r => absurd rfl r)
    exact hno (by omega)
/-- costOf -/
theorem c241 {kk f : Int} (hF : pm_F M σ) (hk : 0 ≤ kk ∧ kk ≤ 5) (k : Φ (some (.inl (pa_cost kk f))) (pm_h M σ q y)) : pe_M (d + 1) 241 [.inl kk, .inl f] (pm_h M σ q y) Φ := by
  unfold pa_cost at k
  refine pe_M_of ck241 (Nat.le_of_ble_eq_true rfl) ?_
  refine b241_0 hF (k0 := fun r => ?_) (k1 := fun r => ?_) (k2 := fun r => ?_) (k3 := fun r => ?_) (k4 := fun r => ?_) (kd := fun r0 r1 r2 r3 r4 => ?_)
  · refine b241_36 hF (k := ?_)
    rw [if_pos r] at k
    exact k
  · refine b241_38 hF (k := ?_)
    rw [if_neg (by omega), if_pos r] at k
    exact k
  · refine b241_40 hF (k := ?_)
    rw [if_neg (by omega), if_neg (by omega), if_pos r] at k
    exact k
  · refine b241_44 hF (k := ?_)
    rw [if_neg (by omega), if_neg (by omega), if_neg (by omega), if_pos r] at k
    exact k
  · refine b241_46 hF (k := ?_)
    rw [if_neg (by omega), if_neg (by omega), if_neg (by omega), if_neg (by omega), if_pos r] at k
    exact k
  · refine b241_48 hF (k := ?_)
    rw [if_neg r0, if_neg r1, if_neg r2, if_neg r3, if_neg r4] at k
    exact k
/-- cost -/
theorem c242 (hF : pm_F M σ) (hS : pm_RS y h) (hwS : pa_wfS h) (hD : -2147483648 ≤ D ∧ D < 2147483648) (k : Φ (some (.inl (pa_aCost h D))) (pm_h M σ q (pm_u y 0 37 0))) : pe_M (d + 3) 242 [.inr (.inr M), .inl D] (pm_h M σ q y) Φ := by
  unfold pa_aCost at k
  have hS1 := pm_RS_37 (v := 0) hS
  have hr := pa_K_r h D
  refine pe_M_of ck242 (Nat.le_of_ble_eq_true rfl) ?_
  refine b242_0 hF (k := ?_)
  refine c233 hF hS1 hwS hD ?_
  by_cases hw : pa_K h D < 0
  · rw [if_pos hw] at k
    refine b242_10 hF (k1 := fun r => by omega) (k2 := fun _ => ?_)
    refine b242_13 hF (k := ?_)
    refine c233 hF hS1 hwS hD ?_
    refine b242_18 hF (k := ?_)
    refine b242_36 hF (k := ?_)
    exact k
  · rw [if_neg hw] at k
    obtain ⟨w1, w2, w3⟩ := pa_K_0 hwS hw
    obtain ⟨s1, s2, s3⟩ := hS1 D w1.1 w1.2
    have hb := (hwS D w1.1 w1.2).2.1 w2
    refine b242_10 hF (k1 := fun _ => ?_) (k2 := fun r => by omega)
    refine b242_21 hF (k := ?_)
    rw [(s2 w2).1, (s2 w2).2]
    refine pe_M.up (c241 (d := 0) hF hb.1 ?_) (by omega)
    refine b242_36 hF (k := ?_)
    exact k
/-- toss -/
theorem c243 (hF : pm_F M σ) (hS : pm_RS y h) (hwS : pa_wfS h) (hD : -2147483648 ≤ D ∧ D < 2147483648) (k : Φ (some (.inl (pa_aToss h D))) (pm_h M σ q (pm_u y 0 37 0))) : pe_M (d + 3) 243 [.inr (.inr M), .inl D] (pm_h M σ q y) Φ := by
  unfold pa_aToss at k
  have hS1 := pm_RS_37 (v := 0) hS
  have hr := pa_K_r h D
  refine pe_M_of ck243 (Nat.le_of_ble_eq_true rfl) ?_
  refine b243_0 hF (k := ?_)
  refine c233 hF hS1 hwS hD ?_
  by_cases hw : pa_K h D < 0
  · rw [if_pos hw] at k
    refine b243_10 hF (k1 := fun r => by omega) (k2 := fun _ => ?_)
    refine b243_13 hF (k := ?_)
    refine c233 hF hS1 hwS hD ?_
    refine b243_18 hF (k := ?_)
    exact k
  · rw [if_neg hw] at k
    obtain ⟨w1, w2, w3⟩ := pa_K_0 hwS hw
    obtain ⟨s1, s2, s3⟩ := hS1 D w1.1 w1.2
    have hb := (hwS D w1.1 w1.2).2.1 w2
    obtain ⟨e1, e2⟩ := s2 w2
    refine b243_10 hF (k1 := fun _ => ?_) (k2 := fun r => by omega)
    refine b243_19 hF (k1 := fun r1 => ?_) (k2 := fun r1 => ?_)
    · rw [if_pos (by omega)] at k
      refine b243_47 hF (k := ?_)
      exact k
    · refine b243_38 hF (k1 := fun r2 => ?_) (k2 := fun r2 => ?_)
      · rw [if_pos (by omega)] at k
        refine b243_47 hF (k := ?_)
        exact k
      · refine b243_43 hF (k1 := fun r3 => ?_) (k2 := fun r3 => ?_)
        · rw [if_neg (by omega)] at k
          refine b243_50 hF (k1 := fun r4 => ?_) (k2 := fun r4 => ?_)
          · rw [if_neg (by omega)] at k
            refine b243_58 hF (k1 := fun r5 => ?_) (k2 := fun r5 => ?_)
            · rw [if_neg (by omega)] at k
              refine b243_75 hF (k := ?_)
              refine b243_79 hF (k := ?_)
              rw [e2]; exact k
            · rw [if_pos (by omega)] at k
              refine b243_63 hF (k := ?_)
              rw [e1, e2]
              refine pe_M.up (c241 (d := 0) hF hb.1 ?_) (by omega)
              refine b243_71 hF (k := ?_)
              refine b243_79 hF (k := ?_)
              exact k
          · rw [if_pos (by omega)] at k
            refine b243_54 hF (k := ?_)
            refine b243_79 hF (k := ?_)
            rw [e2]; exact k
        · rw [if_pos (by omega)] at k
          refine b243_47 hF (k := ?_)
          exact k
end
