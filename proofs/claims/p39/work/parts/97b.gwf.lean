/-! WHAT IS ALWAYS SO IS KEPT BY EVERY CALL -/
section
variable {a : pa_M} {h : Int → pa_Sh} {im : Option pa_M} {c v n p D i e j w kk f : Int} {l : List Int}
def pa_w6 (a : pa_M) : Prop := pa_wf a ∧ 0 ≤ a.1 6 ∧ a.1 6 ≤ 999
theorem pw_send (h : pa_w6 a) : pa_w6 (pa_doSend a c v).1 := by
  unfold pa_doSend
  by_cases q : ¬ ((0 ≤ c ∧ c < a.1 4) ∧ 0 ≤ v ∧ v ≤ 999)
  · rw [if_pos q]; exact h
  · rw [if_neg q]
    by_cases r : 2 < (a.2.1 c).1 2
    · rw [if_pos r]; exact h
    · rw [if_neg r]
      obtain ⟨w1, w2⟩ := pa_send_wf (v := v) h.1 (by omega) (by omega) (c := c) (by omega) (by omega)
      exact ⟨w1, by show 0 ≤ (pa_send a c v).1 6 ∧ (pa_send a c v).1 6 ≤ 999; rw [w2]; exact h.2⟩
theorem pw_close (h : pa_w6 a) : pa_w6 (pa_doClose a c).1 := by
  unfold pa_doClose
  by_cases q : ¬ (0 ≤ c ∧ c < a.1 4)
  · rw [if_pos q]; exact h
  · rw [if_neg q]
    by_cases r : 6 ≤ (a.2.1 c).1 2
    · rw [if_pos r]; exact h
    · rw [if_neg r]
      obtain ⟨w1, w2⟩ := pa_shut_wf h.1 (c := c) (by omega) (by omega) (by omega)
      exact ⟨w1, by show 0 ≤ (pa_shut a c).1 6 ∧ (pa_shut a c).1 6 ≤ 999; rw [w2]; exact h.2⟩
theorem pw_width (h : pa_w6 a) : pa_w6 (pa_doWidth a w).1 := by
  unfold pa_doWidth
  by_cases q : ¬ (1 ≤ w ∧ w ≤ 8)
  · rw [if_pos q]; exact h
  · rw [if_neg q]
    exact ⟨pa_wid_wf h.1 (by omega) (by omega), h.2⟩
theorem pw_rounds (h : pa_w6 a) : pa_w6 (pa_doRounds a n).1 := by
  unfold pa_doRounds
  by_cases q : ¬ (1 ≤ n ∧ n ≤ 60)
  · rw [if_pos q]; exact h
  · rw [if_neg q]
    by_cases r : 999 < a.1 6 + n
    · rw [if_pos r]; exact h
    · rw [if_neg r]
      have := pa_rounds6 n.toNat a h.1
      have := h.2
      exact ⟨pa_rounds_wf _ _ h.1, by show 0 ≤ (pa_rounds n.toNat a).1 6 ∧ (pa_rounds n.toNat a).1 6 ≤ 999; omega⟩
theorem pw_comes (h1 : pa_w6 a) (hS : pa_wfS h) : pa_w6 (pa_doComes a h p D).1 := by
  unfold pa_doComes
  by_cases q : ¬ (0 ≤ p ∧ p ≤ 4)
  · rw [if_pos q]; exact h1
  · rw [if_neg q]
    by_cases r : pa_K h D < 0
    · rw [if_pos r]; exact h1
    · rw [if_neg r]
      by_cases t : 8 ≤ a.1 4
      · rw [if_pos t]; exact h1
      · rw [if_neg t]
        obtain ⟨⟨d0, d8⟩, k1, -⟩ := pa_K_0 hS r
        obtain ⟨f1, f2⟩ := (hS D d0 d8).2.1 k1
        exact ⟨(pa_more_wf h1.1 (by omega) (by omega) f1 f2).1, h1.2⟩
theorem pw_run : ∀ (m f : Nat) (i k : Int) (s : pa_M), 0 ≤ k → i + m = pt_cnt l f i k → 0 ≤ i → i + f = 100 → k ≤ (l.length : Int) → pa_w6 s → pa_w6 (pt_run l m k s).1
  | 0, _, _, _, s, _, _, _, _, _, h => h
  | m + 1, f, i, k, s, hk, hm, hi, hf, hl, h => by
    cases f with
    | zero => unfold pt_cnt at hm; omega
    | succ f =>
      unfold pt_cnt at hm
      by_cases q : (l.length : Int) ≤ k
      · rw [if_pos q] at hm; omega
      · rw [if_neg q] at hm
        by_cases r : pt_stmt l k < 0
        · rw [if_pos r] at hm; omega
        · rw [if_neg r] at hm
          unfold pt_run
          cases hd : pt_do l k s with
          | none => exact h
          | some s' => exact pw_run m f (i + 1) (pt_stmt l k) s' (by omega) (by omega) (by omega) (by omega) (by rcases pt_stmt_r (l := l) hk with q | q; omega; exact q.2.1) (pt_do_wf hk (by omega) h.1 h.2 hd)
theorem pw_text (h1 : pa_w6 a) : pa_w6 (pa_doText a h D).1 := by
  unfold pa_doText
  by_cases q : pa_W h D < 0
  · rw [if_pos q]; exact h1
  · rw [if_neg q]
    by_cases r : (h D).2.1.1 ≠ 0
    · rw [if_pos r]; exact h1
    · rw [if_neg r]
      by_cases t : (h D).2.2.length = 0
      · rw [if_pos t]; exact h1
      · rw [if_neg t]
        by_cases u : pt_cnt (h D).2.2 100 0 0 < 0
        · rw [if_pos u]; exact h1
        · rw [if_neg u]
          split
          · exact h1
          · exact pw_run (l := (h D).2.2) (pt_cnt (h D).2.2 100 0 0).toNat 100 0 0 a (by decide) (by omega) (by decide) (by decide) (by omega) h1
theorem pw_restore (h1 : pa_w6 a) (hi : ∀ b, im = some b → pa_wf b ∧ 0 ≤ b.1 6 ∧ b.1 6 ≤ 999) : pa_w6 (pa_doRestore a im).1 := by
  unfold pa_doRestore
  cases im with
  | none => exact h1
  | some b => exact hi b rfl
theorem pw_shw {s : pa_Sh} (hS : pa_wfS h) (hs : pa_wfs s) : pa_wfS (pa_shw h D s) := fun d d0 d8 => by
  unfold pa_shw
  by_cases q : d = D
  · rw [if_pos q]; exact hs
  · rw [if_neg q]; exact hS d d0 d8
theorem pw_keep (hS : pa_wfS h) : pa_wfS (pa_doKeep h D w kk f).1 := by
  unfold pa_doKeep
  by_cases q : ¬ ((0 ≤ D ∧ D ≤ 7) ∧ (0 ≤ w ∧ w ≤ 1) ∧ (w = 1 → (0 ≤ kk ∧ kk ≤ 5) ∧ 0 ≤ f ∧ f ≤ 9))
  · rw [if_pos q]; exact hS
  · rw [if_neg q]
    exact pw_shw hS ⟨by show w = 0 ∨ w = 1 ∨ w = 2; omega, fun (z : w = 1) => by show (0 ≤ kk ∧ kk ≤ 5) ∧ 0 ≤ f ∧ f ≤ 9; omega, fun (z : w = 2) => by omega⟩
theorem pw_row (hS : pa_wfS h) : pa_wfS (pa_doRow h D w n).1 := by
  unfold pa_doRow
  by_cases q : ¬ ((0 ≤ D ∧ D ≤ 7) ∧ (0 ≤ w ∧ w ≤ 2) ∧ n ≤ 100)
  · rw [if_pos q]; exact hS
  · rw [if_neg q]
    by_cases r : n < 0
    · rw [if_pos r]; exact hS
    · rw [if_neg r]
      refine pw_shw hS ⟨Or.inr (Or.inr rfl), fun z => absurd (show (2 : Int) = 1 from z) (by decide), fun _ => ⟨by show 0 ≤ w ∧ w ≤ 2; omega, ?_, fun i hi => ?_⟩⟩
      · show (List.replicate n.toNat (0 : Int)).length ≤ 100
        rw [List.length_replicate]; omega
      · have e : (List.replicate n.toNat (0 : Int)).getD i 0 = 0 := by
          rw [List.getD_eq_getElem?_getD, List.getElem?_replicate]
          split <;> rfl
        show pa_rng w ((List.replicate n.toNat (0 : Int)).getD i 0)
        rw [e]
        unfold pa_rng; omega
theorem pw_put (hS : pa_wfS h) : pa_wfS (pa_doPut h D i v).1 := by
  unfold pa_doPut
  by_cases q : pa_W h D < 0
  · rw [if_pos q]; exact hS
  · rw [if_neg q]
    by_cases r : ¬ (0 ≤ i ∧ i < ((h D).2.2.length : Int))
    · rw [if_pos r]; exact hS
    · rw [if_neg r]
      obtain ⟨w1, w2, w3⟩ := pg_W.row (a := pa_0) (im := none) (h := h) ⟨pg_W_0.1, pg_W_0.2.1, hS⟩ q
      refine pw_shw hS ⟨Or.inr (Or.inr rfl), fun z => absurd (show (2 : Int) = 1 from z) (by decide), fun _ => ⟨w1, ?_, fun t ht => ?_⟩⟩
      · show ((h D).2.2.set i.toNat _).length ≤ 100
        rw [List.length_set]; exact w2
      · have ht : t < ((h D).2.2.set i.toNat (pa_nar v (h D).2.1.1)).length := ht
        rw [List.length_set] at ht
        show pa_rng (h D).2.1.1 (((h D).2.2.set i.toNat (pa_nar v (h D).2.1.1)).getD t 0)
        rw [List.getD_eq_getElem?_getD, List.getElem?_set]
        by_cases e : i.toNat = t
        · rw [if_pos e, if_pos (by omega)]
          exact pa_nar_r _ _
        · rw [if_neg e, ← List.getD_eq_getElem?_getD]
          exact w3 t ht
end
