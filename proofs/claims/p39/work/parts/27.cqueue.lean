/-! THE CLASS: queues -/
def pk_Zq (r a : Nat) : Prop := a = r ∨ a = r + 1
theorem k54 {d r : Nat} {Φ : Option pe_V → pe_H → Prop} {σ : pe_H} {l : List Int} {x : Int} (hq : pk_Fq r σ) (hQ : pk_RQ σ r l) (hl : l.length < 8) (k : ∀ σ', pk_frI (pk_Zq r) σ σ' → pk_RQ σ' r (l ++ [x]) → Φ none σ') : pe_M (d + 1) 54 [.inr (.inr r), .inl x] σ Φ := by
  have h1 := hQ.1
  refine pe_M_of ck54 (Nat.le_of_ble_eq_true rfl) ?_
  refine b54_0 (k1 := fun q => by omega) (k2 := fun _ => ?_)
  refine b54_9 (k := ?_)
  refine b54_29 (k := ?_)
  refine k _ (pk_frI_then (pk_frI_wI (Or.inr rfl)) (Or.inl rfl)) ⟨?_, fun i hi => ?_⟩
  · rw [pe_I_same, List.length_append, h1]; rfl
  · rw [pe_I_ner (by omega), pe_I_w, h1]
    rw [List.length_append, List.length_singleton] at hi
    by_cases e : i = l.length
    · subst e; simp
    · rw [if_neg (by omega), hQ.2 i (by omega)]
      simp only [List.getD_eq_getElem?_getD]
      rw [List.getElem?_append_left (by omega)]
def pk_wo (x : Int) (l : List Int) : List Int := l.filter (fun z => decide (z ≠ x))
theorem pk_wo_app (x : Int) (l m : List Int) : pk_wo x (l ++ m) = pk_wo x l ++ pk_wo x m := List.filter_append _ _
theorem k55_loop {d r : Nat} {Φ : Option pe_V → pe_H → Prop} {x : Int} (hx : 0 ≤ x ∧ x < 8) : ∀ (suf pre : List Int) (σ : pe_H), pk_Fq r σ → pe_I σ r 1 = (pre.length : Int) + suf.length → (∀ j : Nat, j < (pk_wo x pre).length → pe_I σ (r + 1) j = (pk_wo x pre).getD j 0) → (∀ j : Nat, j < suf.length → pe_I σ (r + 1) ((pre.length : Int) + j) = suf.getD j 0) → pre.length + suf.length ≤ 8 → (∀ z ∈ suf, 0 ≤ z ∧ z < 8) →
    (∀ σ', pk_frI (pk_Zq r) σ σ' → pk_RQ σ' r (pk_wo x (pre ++ suf)) → Φ none σ') → pe_X d 55 (4, [some (.inr (.inr r)), some (.inl x), some (.inl ((pk_wo x pre).length : Int)), some (.inl (pre.length : Int))], [], σ) Φ
  | [], pre, σ, hq, h1, hk, hs, hl, hz, k => by
    rw [List.length_nil] at h1 hl
    refine b55_4 (k1 := fun _ => ?_) (k2 := fun q => by omega)
    refine b55_43 (k := ?_)
    rw [List.append_nil] at k
    exact k _ (pk_frI_wI (Or.inl rfl)) ⟨pe_I_same, fun i hi => by rw [pe_I_ner (by omega)]; exact hk i hi⟩
  | z :: suf, pre, σ, hq, h1, hk, hs, hl, hz, k => by
    have hle : (pk_wo x pre).length ≤ pre.length := List.length_filter_le _ _
    rw [List.length_cons] at h1 hl
    have hz0 := hz z List.mem_cons_self
    have e0 : pe_I σ (r + 1) (pre.length : Int) = z := by
      have := hs 0 (by simp)
      simpa using this
    have happ : pre ++ z :: suf = (pre ++ [z]) ++ suf := by simp
    rw [happ] at k
    have e1 : ((pre ++ [z]).length : Int) = (pre.length : Int) + 1 := by simp
    refine b55_4 (k1 := fun q => by omega) (k2 := fun _ => ?_)
    refine b55_12 (k1 := fun q => ?_) (k2 := fun q => ?_)
    · refine b55_37 (k := ?_)
      have e2 : pk_wo x (pre ++ [z]) = pk_wo x pre := by
        rw [pk_wo_app]
        have : pk_wo x [z] = [] := by unfold pk_wo; rw [List.filter_cons_of_neg (by simp; omega)]; rfl
        rw [this, List.append_nil]
      have := k55_loop (d := d) (Φ := Φ) hx suf (pre ++ [z]) σ hq (by rw [h1, e1]; push_cast; omega) (by rw [e2]; exact hk) (fun j hj => ?_) (by simp; omega) (fun y hy => hz y (List.mem_cons_of_mem _ hy)) k
      · rw [e1, e2] at this; exact this
      · have := hs (j + 1) (by simp; omega)
        rw [e1, show (pre.length : Int) + 1 + (j : Int) = (pre.length : Int) + ((j + 1 : Nat) : Int) by push_cast; omega, this]
        simp
    · refine b55_22 (k := ?_)
      refine b55_37 (k := ?_)
      rw [e0]
      have e2 : pk_wo x (pre ++ [z]) = pk_wo x pre ++ [z] := by
        rw [pk_wo_app]
        have : pk_wo x [z] = [z] := by unfold pk_wo; rw [List.filter_cons_of_pos (by simp; omega)]; rfl
        rw [this]
      have e3 : ((pk_wo x (pre ++ [z])).length : Int) = ((pk_wo x pre).length : Int) + 1 := by rw [e2]; simp
      have hfr : pk_frI (pk_Zq r) σ (pe_wI σ (r + 1) ((pk_wo x pre).length : Int) z) := pk_frI_wI (Or.inr rfl)
      have := k55_loop (d := d) (Φ := Φ) hx suf (pre ++ [z]) _ (pk_Fq_frI hfr hq) (by rw [pe_I_ner (by omega), h1, e1]; push_cast; omega) (fun j hj => ?_) (fun j hj => ?_) (by simp; omega) (fun y hy => hz y (List.mem_cons_of_mem _ hy)) (fun σ' g1 g2 => k σ' (pk_frI_trans hfr g1) g2)
      · rw [e1, e3] at this; exact this
      · rw [e2] at hj ⊢
        rw [List.length_append, List.length_singleton] at hj
        rw [pe_I_w]
        by_cases e : j = (pk_wo x pre).length
        · subst e; simp
        · rw [if_neg (by omega), hk j (by omega)]
          simp only [List.getD_eq_getElem?_getD]
          rw [List.getElem?_append_left (by omega)]
      · have := hs (j + 1) (by simp; omega)
        rw [pe_I_w, if_neg (by omega), e1, show (pre.length : Int) + 1 + (j : Int) = (pre.length : Int) + ((j + 1 : Nat) : Int) by push_cast; omega, this]
        simp
theorem k55 {d r : Nat} {Φ : Option pe_V → pe_H → Prop} {σ : pe_H} {l : List Int} {x : Int} (hx : 0 ≤ x ∧ x < 8) (hq : pk_Fq r σ) (hQ : pk_RQ σ r l) (hl : l.length ≤ 8) (hz : ∀ z ∈ l, 0 ≤ z ∧ z < 8) (k : ∀ σ', pk_frI (pk_Zq r) σ σ' → pk_RQ σ' r (pk_wo x l) → Φ none σ') : pe_M (d + 1) 55 [.inr (.inr r), .inl x] σ Φ := by
  refine pe_M_of ck55 (Nat.le_of_ble_eq_true rfl) ?_
  refine b55_0 (k := ?_)
  exact k55_loop hx l [] σ hq (by rw [hQ.1]; simp) (fun j hj => by simp [pk_wo] at hj) (fun j hj => by rw [← hQ.2 j hj]; simp) (by simp; exact hl) hz k
section
variable {B : Nat} {T : Nat → Prop} {σ σ' : pe_H} {w : Int → Int × List Int} {n ch : Int} {a : pa_M} {l : List Int}
theorem pk_Zq_Z {ch : Int} (h0 : 0 ≤ ch) (h3 : ch < 3) (x : Nat) (h : pk_Zq (pk_q B ch) x ∨ pk_Zq (pk_g B ch) x) : pk_Z B x ∧ B + 75 ≤ x := by
  unfold pk_Zq pk_q pk_g at h
  unfold pk_Z
  omega
/-- a queue has changed -/
theorem pk_RMx_q {k : Nat} (hR : pk_RMx B T σ w n a) (hw9 : pa_wf9 a) (h0 : 0 ≤ ch) (h3 : ch < 3) (hf : pk_frI (fun x => pk_Zq (if k = 0 then pk_q B ch else pk_g B ch) x) σ σ') (hk : k < 2) (hQ : pk_RQ σ' (if k = 0 then pk_q B ch else pk_g B ch) l) : pk_RMx B T σ' w n (pa_qw a k ch l) := by
  obtain ⟨a1, a2, a3, a4, a5, a6, a7⟩ := hR
  have hz : ∀ x, pk_Zq (if k = 0 then pk_q B ch else pk_g B ch) x → pk_Z B x ∧ B + 75 ≤ x := fun x hx => by
    by_cases e : k = 0
    · rw [if_pos e] at hx; exact pk_Zq_Z h0 h3 x (Or.inl hx)
    · rw [if_neg e] at hx; exact pk_Zq_Z h0 h3 x (Or.inr hx)
  have hT : ∀ x, T x → ¬ pk_Zq (if k = 0 then pk_q B ch else pk_g B ch) x := fun x hx q => a2 x hx (hz x q).1
  have hB : ∀ x, x < B + 75 → ¬ pk_Zq (if k = 0 then pk_q B ch else pk_g B ch) x := fun x hx q => by have := (hz x q).2; omega
  have e : ∀ x, x < B + 75 → ∀ j, pe_I σ' x j = pe_I σ x j := fun x hx j => (hf.1.2 x (hB x hx) j).1
  refine ⟨pk_Fm_frI hf a1, a2, ?_, ?_, fun i hi0 hi1 => ?_, fun p hp0 hp1 => ?_, fun c hc0 hc3 => ?_⟩
  · rw [e B (by omega), e B (by omega), e B (by omega), e B (by omega)]; exact a3
  · rw [funext (e (B + 7) (by omega)), funext (e (B + 8) (by omega))]; exact a4
  · have hi1 : i < a.1 4 := hi1
    have := hw9.1
    exact pk_RCo_keep hf.1 hT (fun x h1 h2 => hB x (by unfold pk_c at h1 h2; omega)) (Int.le_refl _) (fun _ _ => rfl) (hw9.2 i hi0 hi1) (a5 i hi0 hi1)
  · rw [(hf.1.2 (B + 1) (hB _ (by omega)) p).2]
    exact pk_RPr_fr hf.1 hT (a6 p hp0 hp1)
  · obtain ⟨b1, b2⟩ := a7 c hc0 hc3
    have key : ∀ (k' : Nat) (l' : List Int), k' < 2 → ¬ (k' = k ∧ c = ch) → pk_RQ σ (if k' = 0 then pk_q B c else pk_g B c) l' → pk_RQ σ' (if k' = 0 then pk_q B c else pk_g B c) l' := fun k' l' hk' hne h => by
      have : ∀ x, pk_Zq (if k' = 0 then pk_q B c else pk_g B c) x → ¬ pk_Zq (if k = 0 then pk_q B ch else pk_g B ch) x := fun x => by
        unfold pk_Zq pk_q pk_g
        split <;> split <;> omega
      exact pk_RQ_keep (hf.1.2 _ (this _ (Or.inl rfl)) 1).1 (fun j => (hf.1.2 _ (this _ (Or.inr rfl)) j).1) h
    constructor
    · show pk_RQ σ' (pk_q B c) (if 0 = k ∧ c = ch then l else a.2.2.2 0 c)
      by_cases q : 0 = k ∧ c = ch
      · rw [if_pos q]; obtain ⟨rfl, rfl⟩ := q; exact hQ
      · rw [if_neg q]; exact key 0 _ (by decide) q b1
    · show pk_RQ σ' (pk_g B c) (if 1 = k ∧ c = ch then l else a.2.2.2 1 c)
      by_cases q : 1 = k ∧ c = ch
      · rw [if_pos q]; obtain ⟨rfl, rfl⟩ := q; exact hQ
      · rw [if_neg q]; exact key 1 _ (by decide) q b2
end

