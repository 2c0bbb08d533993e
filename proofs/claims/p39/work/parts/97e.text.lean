/-! THE TEXT OF PROGRAMS THAT THE LAW TELLS, as the class reads it -/
def ll_ltr (q : Int × Int) : List Int := if q.1 = 102 then [102] else [q.1, 48 + q.2]
def ll_flat : pa_P → List Int
  | [] => []
  | q :: P => ll_ltr q ++ ll_flat P
def ll_tx (q : Int × pa_P) : List Int := 112 :: (48 + q.1) :: (ll_flat q.2 ++ [59])
def ll_txs : List (Int × pa_P) → List Int
  | [] => []
  | q :: L => ll_tx q ++ ll_txs L
def ll_gd (P : pa_P) : Prop := (∀ q ∈ P, (q.1 = 102 ∧ q.2 = 0) ∨ (pt_ns q.1 ∧ 0 ≤ q.2 ∧ q.2 ≤ 9)) ∧ P.length ≤ 7 ∧ pt_fs P ≤ 1
def ll_gdq (q : Int × pa_P) : Prop := (0 ≤ q.1 ∧ q.1 < 5) ∧ ll_gd q.2
def ll_progs : List (Int × pa_P) → pa_M → pa_M
  | [], s => s
  | q :: L, s => ll_progs L (pa_prog s q.1 q.2)
section
variable {l pre post : List Int} {x : Int} {P : pa_P} {s : pa_M}
theorem pt_at_app (j : Int) (hj : j = pre.length) : pt_at (pre ++ x :: post) j = x := by
  subst hj
  unfold pt_at
  rw [if_pos ⟨by omega, by rw [List.length_append, List.length_cons]; push_cast; omega⟩, List.getD_eq_getElem?_getD, show ((pre.length : Int)).toNat = pre.length by omega, List.getElem?_append_right (Nat.le_refl _)]
  simp
theorem ll_flat_app (P Q : pa_P) : ll_flat (P ++ Q) = ll_flat P ++ ll_flat Q := by
  induction P with
  | nil => rfl
  | cons q P ih =>
    show ll_ltr q ++ ll_flat (P ++ Q) = (ll_ltr q ++ ll_flat P) ++ ll_flat Q
    rw [ih, List.append_assoc]
theorem ll_flat_read : ∀ (P : pa_P) (pre : List Int) (f : Nat) (j : Int), (∀ q ∈ P, (q.1 = 102 ∧ q.2 = 0) ∨ (pt_ns q.1 ∧ 0 ≤ q.2 ∧ q.2 ≤ 9)) → P.length < f → j = pre.length → pt_pend (pre ++ (ll_flat P ++ 59 :: post)) f j = pre.length + (ll_flat P).length + 1 ∧ pt_steps (pre ++ (ll_flat P ++ 59 :: post)) f j = P
  | [], pre, 0, j, _, hf, _ => by cases hf
  | [], pre, f + 1, j, _, _, hj => by
    have e : pt_at (pre ++ (ll_flat [] ++ 59 :: post)) j = 59 := pt_at_app j hj
    unfold pt_pend pt_steps
    rw [e, if_pos rfl, if_neg (by decide), if_neg (by decide)]
    exact ⟨by rw [hj]; simp [ll_flat], rfl⟩
  | q :: P, pre, 0, j, _, hf, _ => by cases hf
  | q :: P, pre, f + 1, j, hg, hf, hj => by
    rw [List.length_cons] at hf
    have hq := hg q List.mem_cons_self
    have hg' : ∀ z ∈ P, (z.1 = 102 ∧ z.2 = 0) ∨ (pt_ns z.1 ∧ 0 ≤ z.2 ∧ z.2 ≤ 9) := fun z hz => hg z (List.mem_cons_of_mem _ hz)
    by_cases h102 : q.1 = 102
    · have ef : ll_flat (q :: P) = 102 :: ll_flat P := by
        show ll_ltr q ++ ll_flat P = _
        unfold ll_ltr
        rw [if_pos h102]
        rfl
      have el : pre ++ (ll_flat (q :: P) ++ 59 :: post) = (pre ++ [102]) ++ (ll_flat P ++ 59 :: post) := by rw [ef]; simp
      have e : pt_at (pre ++ (ll_flat (q :: P) ++ 59 :: post)) j = 102 := by
        rw [ef]
        exact pt_at_app j hj
      obtain ⟨i1, i2⟩ := ll_flat_read P (pre ++ [102]) f (j + 1) hg' (by omega) (by rw [List.length_append, List.length_singleton]; push_cast; omega)
      rw [← el] at i1 i2
      unfold pt_pend pt_steps
      rw [e, if_neg (by decide), if_pos rfl, if_pos rfl, i1, i2]
      refine ⟨?_, ?_⟩
      · rw [ef, List.length_append, List.length_cons, List.length_cons]; simp; omega
      · have : q = (102, 0) := Prod.ext h102 (hq.elim (fun h => h.2) (fun h => by have := h.1; rw [h102] at this; exact absurd this (by decide)))
        rw [this]
    · have hns : pt_ns q.1 ∧ 0 ≤ q.2 ∧ q.2 ≤ 9 := hq.elim (fun h => absurd h.1 h102) (fun h => h)
      have ef : ll_flat (q :: P) = q.1 :: (48 + q.2) :: ll_flat P := by
        show ll_ltr q ++ ll_flat P = _
        unfold ll_ltr
        rw [if_neg h102]
        rfl
      have el : pre ++ (ll_flat (q :: P) ++ 59 :: post) = (pre ++ [q.1, 48 + q.2]) ++ (ll_flat P ++ 59 :: post) := by rw [ef]; simp
      have e : pt_at (pre ++ (ll_flat (q :: P) ++ 59 :: post)) j = q.1 := by
        rw [ef]
        exact pt_at_app j hj
      have e2 : pt_at (pre ++ (ll_flat (q :: P) ++ 59 :: post)) (j + 1) = 48 + q.2 := by
        have : pre ++ (ll_flat (q :: P) ++ 59 :: post) = (pre ++ [q.1]) ++ (48 + q.2) :: (ll_flat P ++ 59 :: post) := by rw [ef]; simp
        rw [this]
        exact pt_at_app (j + 1) (by rw [List.length_append, List.length_singleton]; push_cast; omega)
      obtain ⟨i1, i2⟩ := ll_flat_read P (pre ++ [q.1, 48 + q.2]) f (j + 2) hg' (by omega) (by rw [List.length_append]; simp; omega)
      rw [← el] at i1 i2
      have n59 : ¬ q.1 = 59 := fun h => by rw [h] at hns; exact absurd hns.1 (by decide)
      have hdg : pt_dg (pre ++ (ll_flat (q :: P) ++ 59 :: post)) (j + 1) := by unfold pt_dg; rw [e2]; omega
      unfold pt_pend pt_steps
      rw [e, if_neg n59, if_neg h102, if_pos hns.1, if_pos hdg, if_neg h102, if_pos hns.1, i1, i2]
      refine ⟨?_, ?_⟩
      · rw [ef, List.length_append, List.length_cons, List.length_cons]; simp; omega
      · unfold pt_d
        rw [e2]
        have : (q.1, 48 + q.2 - 48) = q := Prod.ext rfl (by omega)
        rw [this]
theorem ll_tx_read (q : Int × pa_P) (hq : ll_gdq q) (k : Int) (hk : k = pre.length) : pt_stmt (pre ++ (ll_tx q ++ post)) k = pre.length + (ll_tx q).length ∧ pt_do (pre ++ (ll_tx q ++ post)) k s = some (pa_prog s q.1 q.2) := by
  have ef : ll_tx q ++ post = 112 :: (48 + q.1) :: (ll_flat q.2 ++ 59 :: post) := by simp [ll_tx]
  have e : pt_at (pre ++ (ll_tx q ++ post)) k = 112 := by rw [ef]; exact pt_at_app k hk
  have e2 : pt_at (pre ++ (ll_tx q ++ post)) (k + 1) = 48 + q.1 := by
    have : pre ++ (ll_tx q ++ post) = (pre ++ [112]) ++ (48 + q.1) :: (ll_flat q.2 ++ 59 :: post) := by rw [ef]; simp
    rw [this]
    exact pt_at_app (k + 1) (by rw [List.length_append, List.length_singleton]; push_cast; omega)
  have el : pre ++ (ll_tx q ++ post) = (pre ++ [112, 48 + q.1]) ++ (ll_flat q.2 ++ 59 :: post) := by rw [ef]; simp
  have h7 := hq.2.2.1
  obtain ⟨i1, i2⟩ := ll_flat_read (post := post) q.2 (pre ++ [112, 48 + q.1]) 101 (k + 2) hq.2.1 (by omega) (by rw [List.length_append]; simp; omega)
  rw [← el] at i1 i2
  have hb := hq.1
  have hdg : pt_dg (pre ++ (ll_tx q ++ post)) (k + 1) := by unfold pt_dg; rw [e2]; omega
  have hd : pt_d (pre ++ (ll_tx q ++ post)) (k + 1) = q.1 := by unfold pt_d; rw [e2]; omega
  refine ⟨?_, ?_⟩
  · unfold pt_stmt
    rw [if_pos e, if_pos hdg, i1]
    simp [ll_tx]
    omega
  · unfold pt_do
    rw [if_pos e, hd, i2, if_pos ⟨hb.2, by omega, hq.2.2.2⟩]
theorem ll_tx_pos (q : Int × pa_P) : 0 < (ll_tx q).length := by simp [ll_tx]
theorem ll_txs_cnt : ∀ (L : List (Int × pa_P)) (pre : List Int) (f : Nat) (i k : Int), (∀ q ∈ L, ll_gdq q) → L.length ≤ f → k = pre.length → pt_cnt (pre ++ ll_txs L) f i k = i + L.length
  | [], pre, 0, i, k, _, _, _ => by simp [pt_cnt]
  | [], pre, f + 1, i, k, _, _, hk => by
    unfold pt_cnt
    rw [if_pos (by simp [ll_txs]; omega)]
    simp
  | q :: L, pre, 0, i, k, _, hf, _ => by simp at hf
  | q :: L, pre, f + 1, i, k, hg, hf, hk => by
    rw [List.length_cons] at hf
    obtain ⟨r1, -⟩ := ll_tx_read (post := ll_txs L) (s := pa_0) q (hg q List.mem_cons_self) k hk
    have hp := ll_tx_pos q
    have el : pre ++ ll_txs (q :: L) = pre ++ (ll_tx q ++ ll_txs L) := rfl
    have el2 : pre ++ ll_txs (q :: L) = (pre ++ ll_tx q) ++ ll_txs L := by rw [el, List.append_assoc]
    unfold pt_cnt
    rw [if_neg (by rw [el]; simp; omega), el, r1, if_neg (by omega), ← el, el2, ll_txs_cnt L (pre ++ ll_tx q) f (i + 1) _ (fun z hz => hg z (List.mem_cons_of_mem _ hz)) (by omega) (by rw [List.length_append]; push_cast; omega)]
    rw [List.length_cons]
    push_cast
    omega
theorem ll_txs_run : ∀ (L : List (Int × pa_P)) (pre : List Int) (k : Int) (s : pa_M), (∀ q ∈ L, ll_gdq q) → k = pre.length → pt_run (pre ++ ll_txs L) L.length k s = (ll_progs L s, 0)
  | [], _, _, _, _, _ => rfl
  | q :: L, pre, k, s, hg, hk => by
    obtain ⟨r1, r2⟩ := ll_tx_read (post := ll_txs L) (s := s) q (hg q List.mem_cons_self) k hk
    have el : pre ++ ll_txs (q :: L) = pre ++ (ll_tx q ++ ll_txs L) := rfl
    have el2 : pre ++ ll_txs (q :: L) = (pre ++ ll_tx q) ++ ll_txs L := by rw [el, List.append_assoc]
    rw [List.length_cons]
    unfold pt_run
    rw [el, r2]
    dsimp only
    rw [r1, ← el, el2, ll_txs_run L (pre ++ ll_tx q) _ _ (fun z hz => hg z (List.mem_cons_of_mem _ hz)) (by rw [List.length_append]; push_cast; omega)]
    rfl
/-- a text of programs is taken -/
theorem ll_doText {a : pa_M} {h : Int → pa_Sh} {L : List (Int × pa_P)} (hg : ∀ q ∈ L, ll_gdq q) (hL : L.length ≤ 100) (hne : L ≠ []) (h1 : (h 7).1 = 2) (h2 : (h 7).2.1.1 = 0) (h3 : (h 7).2.2 = ll_txs L) : pa_doText a h 7 = (ll_progs L a, (L.length : Int)) := by
  have hW : pa_W h 7 = 0 := by
    unfold pa_W
    rw [if_neg (by omega), if_neg (by omega), if_neg (by omega)]
  have hc := ll_txs_cnt L [] 100 0 0 hg hL rfl
  have hr := ll_txs_run L [] 0 a hg rfl
  rw [List.nil_append] at hc hr
  have hl : ¬ (ll_txs L).length = 0 := by
    cases L with
    | nil => exact absurd rfl hne
    | cons q L =>
      have := ll_tx_pos q
      show ¬ (ll_tx q ++ ll_txs L).length = 0
      rw [List.length_append]
      omega
  unfold pa_doText
  rw [hW, if_neg (by decide), if_neg (by omega), h3, if_neg hl, hc, if_neg (by omega)]
  have e : ((0 : Int) + (L.length : Int)).toNat = L.length := by omega
  rw [e, hr, if_neg (show ¬ ((0 : Int) < 0) by decide), Int.zero_add]
theorem ll_gd.wfp (h : ll_gd P) : pa_wfp P := by
  obtain ⟨h1, h2, h3⟩ := h
  refine ⟨by omega, fun q hq => ?_, fun i hi he => ?_⟩
  · rcases h1 q hq with h | h
    · unfold pa_okl
      omega
    · unfold pa_okl
      have := h.1
      unfold pt_ns at this
      omega
  · unfold pa_fin
    rw [pt_ff_at _ 0 i h3 hi he]
    omega
end
