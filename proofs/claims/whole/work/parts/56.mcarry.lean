/-! THE MODEL: its state carried to and fro -/
def pm_c1 (t : Bool) (kq : Nat) (c : Nat × Int) (y : Nat → Int → Int) : Nat → Int → Int := if t = true then pm_u (pm_u y kq (y 0 51) (y c.1 c.2)) 0 51 (y 0 51 + 1) else pm_u (pm_u y 0 51 (y 0 51 + 1)) c.1 c.2 (y kq (y 0 51))
def pm_cr (t : Bool) (kq : Nat) (l : List (Nat × Int)) (y : Nat → Int → Int) : Nat → Int → Int := l.foldl (fun y c => pm_c1 t kq c y) y
def pm_ok (kq : Nat) (c : Nat × Int) : Prop := c.1 ≠ kq ∧ ¬ (c.1 = 0 ∧ (c.2 = 51 ∨ c.2 = 52))
theorem pm_cr_app {t : Bool} {kq : Nat} {l : List (Nat × Int)} {c : Nat × Int} {y : Nat → Int → Int} : pm_cr t kq (l ++ [c]) y = pm_c1 t kq c (pm_cr t kq l y) := by
  unfold pm_cr
  rw [List.foldl_append]
  rfl
theorem pm_c1_0 {t : Bool} {kq : Nat} {c : Nat × Int} {y : Nat → Int → Int} (hkq : kq ≠ 0) (hc : pm_ok kq c) : (pm_c1 t kq c y) 0 51 = y 0 51 + 1 ∧ (pm_c1 t kq c y) 0 52 = y 0 52 := by
  obtain ⟨k, j⟩ := c
  obtain ⟨h1, h2⟩ := hc
  dsimp only at h1 h2
  unfold pm_c1
  cases t with
  | true => simp [pm_u, Ne.symm hkq]
  | false =>
    have e1 : ¬ ((0 : Nat) = k ∧ (51 : Int) = j) := fun e => h2 ⟨e.1.symm, Or.inl e.2.symm⟩
    have e2 : ¬ ((0 : Nat) = k ∧ (52 : Int) = j) := fun e => h2 ⟨e.1.symm, Or.inr e.2.symm⟩
    show (pm_u (pm_u y 0 51 (y 0 51 + 1)) k j (y kq (y 0 51))) 0 51 = _ ∧ (pm_u (pm_u y 0 51 (y 0 51 + 1)) k j (y kq (y 0 51))) 0 52 = _
    constructor
    · simp only [pm_u]; rw [if_neg e1]; simp
    · simp only [pm_u]; rw [if_neg e2]; simp
theorem pm_cr_0 {t : Bool} {kq : Nat} {y : Nat → Int → Int} (hkq : kq ≠ 0) : ∀ (l : List (Nat × Int)) (y : Nat → Int → Int), (∀ c ∈ l, pm_ok kq c) → (pm_cr t kq l y) 0 51 = y 0 51 + l.length ∧ (pm_cr t kq l y) 0 52 = y 0 52
  | [], y, _ => by simp [pm_cr]
  | c :: l, y, h => by
    have h1 := pm_c1_0 (t := t) (y := y) hkq (h c List.mem_cons_self)
    have h2 := pm_cr_0 (t := t) (y := y) hkq l (pm_c1 t kq c y) (fun x hx => h x (List.mem_cons_of_mem _ hx))
    have e : pm_cr t kq (c :: l) y = pm_cr t kq l (pm_c1 t kq c y) := rfl
    rw [e, h2.1, h2.2, h1.1, h1.2, List.length_cons]
    push_cast
    exact ⟨by omega, rfl⟩
def pm_sg (n : Nat) (g : Int → List (Nat × Int)) : List (Nat × Int) := (List.range n).flatMap (fun (i : Nat) => g (i : Int))
theorem pm_sg_0 {g : Int → List (Nat × Int)} : pm_sg 0 g = [] := rfl
theorem pm_sg_s {n : Nat} {g : Int → List (Nat × Int)} : pm_sg (n + 1) g = pm_sg n g ++ g (n : Int) := by
  unfold pm_sg
  rw [List.range_succ, List.flatMap_append]
  simp
theorem pm_sg_len {m : Nat} {g : Int → List (Nat × Int)} (h : ∀ i, (g i).length = m) : ∀ n : Nat, (pm_sg n g).length = n * m
  | 0 => by simp [pm_sg_0]
  | n + 1 => by rw [pm_sg_s, List.length_append, pm_sg_len h n, h, Nat.succ_mul]
theorem pm_sg_mem {n : Nat} {g : Int → List (Nat × Int)} {c : Nat × Int} : c ∈ pm_sg n g ↔ ∃ i : Nat, i < n ∧ c ∈ g (i : Int) := by
  unfold pm_sg
  rw [List.mem_flatMap]
  constructor
  · rintro ⟨i, hi, h⟩; exact ⟨i, List.mem_range.mp hi, h⟩
  · rintro ⟨i, hi, h⟩; exact ⟨i, List.mem_range.mpr hi, h⟩
section
variable {d M q : Nat} {Φ : Option pe_V → pe_H → Prop} {σ : pe_H} {y y1 y2 : Nat → Int → Int} {t : Bool} {kq : Nat} {l : List (Nat × Int)}
/-- carry -/
theorem c184 {k : Nat} {j : Int} (hF : pm_F M σ) (hkq : kq = 38 ∨ kq = 39) (h51 : y1 0 51 = 0) (h52 : y1 0 52 = if t = true then 1 else 0) (hl : l.length < 3200) (hok : ∀ c ∈ l, pm_ok kq c) (hc : pm_ok kq (k, j)) (kk : ∀ r y2, pm_u y2 k j r = pm_cr t kq (l ++ [(k, j)]) y1 → Φ (some (.inl r)) (pm_h M σ (M + kq) y2)) : pe_M (d + 1) 184 [.inr (.inr M), .inl ((pm_cr t kq l y1) k j)] (pm_h M σ (M + kq) (pm_cr t kq l y1)) Φ := by
  obtain ⟨p1, p2⟩ := pm_cr_0 (t := t) (kq := kq) (y := y1) (by omega) l y1 hok
  rw [h51] at p1
  rw [h52] at p2
  rw [pm_cr_app] at kk
  generalize pm_cr t kq l y1 = z at *
  have hKq : pe_K σ (M + kq) = 10 := by rcases hkq with rfl | rfl; exact pm_K38 hF; exact pm_K39 hF
  have hLq : pe_L σ (M + kq) = 3200 := by rcases hkq with rfl | rfl; exact pm_L38 hF; exact pm_L39 hF
  have hk0 : kq ≠ 0 := by omega
  have hp : 0 ≤ z 0 51 ∧ z 0 51 < 3200 := by omega
  have he : z 0 51 + 1 - 1 = z 0 51 := by omega
  have hne : ¬ (k = kq ∧ j = z 0 51) := fun e => hc.1 e.1
  refine pe_M_of ck184 (Nat.le_of_ble_eq_true rfl) ?_
  cases t with
  | true =>
    rw [if_pos rfl] at p2
    refine b184_0 hF (by omega) (by omega) hKq hLq (k1 := fun r => by omega) (k2 := fun _ => ?_)
    refine b184_7 hF (by omega) (by omega) hKq hLq (k := ?_)
    have e5 : (pm_u z kq (z 0 51) (z k j)) 0 51 = z 0 51 := by simp [pm_u, Ne.symm hk0]
    refine b184_17 hF (by omega) (by omega) hKq hLq (w0 := by rw [e5]; unfold pe_in; omega) (h0 := by rw [e5]; omega) (h1 := by rw [e5]; omega) (k := ?_)
    rw [e5, he]
    refine kk _ _ ?_
    unfold pm_c1
    rw [if_pos rfl]
    refine pm_u_id ?_
    simp only [pm_u]
    have e1 : ¬ (k = 0 ∧ j = 51) := fun e => hc.2 ⟨e.1, Or.inl e.2⟩
    simp [hk0, e1, hne]
  | false =>
    rw [if_neg (by simp)] at p2
    refine b184_0 hF (by omega) (by omega) hKq hLq (k1 := fun _ => ?_) (k2 := fun r => absurd p2 r)
    refine b184_17 hF (by omega) (by omega) hKq hLq (w0 := by unfold pe_in; omega) (k := ?_)
    rw [he]
    refine kk _ _ ?_
    unfold pm_c1
    rw [if_neg (by simp)]
theorem c184n {k k0 : Nat} {j j0 r0 : Int} (hF : pm_F M σ) (hkq : kq = 38 ∨ kq = 39) (h51 : y1 0 51 = 0) (h52 : y1 0 52 = if t = true then 1 else 0) (e : pm_u y2 k0 j0 r0 = pm_cr t kq l y1) (hne : ¬ (k = k0 ∧ j = j0)) (hl : l.length < 3200) (hok : ∀ c ∈ l, pm_ok kq c) (hc : pm_ok kq (k, j)) (kk : ∀ r y2, pm_u y2 k j r = pm_cr t kq (l ++ [(k, j)]) y1 → Φ (some (.inl r)) (pm_h M σ (M + kq) y2)) : pe_M (d + 1) 184 [.inr (.inr M), .inl (y2 k j)] (pm_h M σ (M + kq) (pm_u y2 k0 j0 r0)) Φ := by
  have e2 : y2 k j = (pm_u y2 k0 j0 r0) k j := by simp only [pm_u]; rw [if_neg hne]
  rw [e2, e]
  exact c184 hF hkq h51 h52 hl hok hc kk
end
