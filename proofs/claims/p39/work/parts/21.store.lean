/-! THE STORE OF FAULTS: codes, causes, how many; w: of each its owner (frame 6 c + i; -1 for good; -2 on its way) and its list -/
def pr_st (cd cs : Int → Int) (n : Int) (w : Int → Int × List Int) : Prop := 0 ≤ n ∧ ∀ i, 0 ≤ i → i < n → (cs i = -1 ∧ (w i).2 = [cd i]) ∨ (0 ≤ cs i ∧ cs i < i ∧ (w (cs i)).1 = -1 ∧ (w i).2 = cd i :: (w (cs i)).2)
/-- what a frame holds: h -2 nothing, -1 a close, else a fault's number, below ub -/
def pr_hl (w : Int → Int × List Int) (own h ub : Int) (v : Option (List Int)) : Prop := (h = -2 ∧ v = none) ∨ (h = -1 ∧ v = some []) ∨ (0 ≤ h ∧ h < ub ∧ (w h).1 = own ∧ v = some (w h).2 ∧ (w h).2 ≠ [])
def pr_nb (h ub : Int) : Int := if 0 ≤ h then h else ub
def pr_w (w : Int → Int × List Int) (i o : Int) (l : List Int) : Int → Int × List Int := fun k => if k = i then (o, l) else w k
/-- all that c's frames don't hold and that isn't on its way stays -/
def pr_wk (c : Int) (w w' : Int → Int × List Int) : Prop := ∀ i, (w i).1 ≠ -2 → ((w i).1 < 6 * c ∨ 6 * c + 6 ≤ (w i).1) → w' i = w i
theorem pr_ws {w : Int → Int × List Int} {i o : Int} {l : List Int} : pr_w w i o l i = (o, l) := if_pos rfl
theorem pr_wn {w : Int → Int × List Int} {i k o : Int} {l : List Int} (h : k ≠ i) : pr_w w i o l k = w k := if_neg h
theorem pr_wk_refl (c : Int) (w : Int → Int × List Int) : pr_wk c w w := fun _ _ _ => rfl
theorem pr_wk_own {c i o : Int} {w w' : Int → Int × List Int} (h : pr_wk c w w') (hi : (w i).1 = -2 ∨ (6 * c ≤ (w i).1 ∧ (w i).1 < 6 * c + 6)) (l : List Int) : pr_wk c w (pr_w w' i o l) := fun k h1 h2 => by
  have : k ≠ i := fun e => by subst e; omega
  rw [pr_wn this]; exact h k h1 h2
theorem pr_wk_trans {c : Int} {w w' w'' : Int → Int × List Int} (h : pr_wk c w w') (h' : pr_wk c w' w'') : pr_wk c w w'' := fun i h1 h2 => by
  have e := h i h1 h2
  rw [h' i (by rw [e]; exact h1) (by rw [e]; exact h2), e]
section
variable {cd cs : Int → Int} {n : Int} {w : Int → Int × List Int}
/-- one's owner changes, who isn't there for good -/
theorem pr_st_own {i o : Int} (h : pr_st cd cs n w) (hi : (w i).1 ≠ -1) : pr_st cd cs n (pr_w w i o (w i).2) := by
  refine ⟨h.1, fun k h0 h1 => ?_⟩
  have e2 : ∀ k, (pr_w w i o (w i).2 k).2 = (w k).2 := fun k => by
    by_cases e : k = i
    · subst e; rw [pr_ws]
    · rw [pr_wn e]
  rcases h.2 k h0 h1 with ⟨a, b⟩ | ⟨a, b, c, d⟩
  · exact Or.inl ⟨a, by rw [e2]; exact b⟩
  · refine Or.inr ⟨a, b, ?_, by rw [e2, e2]; exact d⟩
    rw [pr_wn (fun e => hi (by rw [← e]; exact c))]; exact c
/-- a new one -/
theorem pr_st_new {cd' cs' : Int → Int} {x f : Int} {l : List Int} (h : pr_st cd cs n w) (h1 : ∀ i, 0 ≤ i → i < n → cd' i = cd i ∧ cs' i = cs i) (h2 : cd' n = x ∧ cs' n = f) (hf : (f = -1 ∧ l = []) ∨ (0 ≤ f ∧ f < n ∧ (w f).1 = -1 ∧ l = (w f).2)) : pr_st cd' cs' (n + 1) (pr_w w n (-2) (x :: l)) := by
  refine ⟨by have := h.1; omega, fun k h0 hk => ?_⟩
  by_cases e : k = n
  · subst e
    rw [pr_ws, h2.1, h2.2]
    rcases hf with ⟨rfl, rfl⟩ | ⟨a, b, c, rfl⟩
    · exact Or.inl ⟨rfl, rfl⟩
    · refine Or.inr ⟨a, b, ?_, ?_⟩
      · rw [pr_wn (by omega)]; exact c
      · rw [pr_wn (by omega)]
  · obtain ⟨q1, q2⟩ := h1 k h0 (by omega)
    rw [pr_wn e, q1, q2]
    rcases h.2 k h0 (by omega) with ⟨a, b⟩ | ⟨a, b, c, d⟩
    · exact Or.inl ⟨a, b⟩
    · refine Or.inr ⟨a, b, ?_, ?_⟩
      · rw [pr_wn (by omega)]; exact c
      · rw [pr_wn (by omega)]; exact d
theorem pr_st_ne (h : pr_st cd cs n w) {i : Int} (h0 : 0 ≤ i) (h1 : i < n) : (w i).2 ≠ [] := by
  rcases h.2 i h0 h1 with ⟨a, b⟩ | ⟨a, b, c, d⟩
  · rw [b]; simp
  · rw [d]; simp
/-- without a cause just if its list has one -/
theorem pr_st_one (h : pr_st cd cs n w) {i : Int} (h0 : 0 ≤ i) (h1 : i < n) : (cs i = -1 ↔ (w i).2.length = 1) := by
  rcases h.2 i h0 h1 with ⟨a, b⟩ | ⟨a, b, c, d⟩
  · rw [b, a]; simp
  · have := pr_st_ne h a (by omega)
    rw [d]
    constructor
    · intro q; omega
    · intro q
      rw [List.length_cons] at q
      exact absurd (List.length_eq_zero_iff.mp (by omega)) this
theorem pr_st_len (h : pr_st cd cs n w) : ∀ (m : Nat) (i : Int), i < m → 0 ≤ i → i < n → ((w i).2.length : Int) ≤ i + 1 := by
  intro m
  induction m with
  | zero => intro i h1 h2; omega
  | succ m ih =>
    intro i h1 h2 h3
    rcases h.2 i h2 h3 with ⟨a, b⟩ | ⟨a, b, c, d⟩
    · rw [b]; simp; omega
    · have := ih (cs i) (by omega) a (by omega)
      rw [d, List.length_cons]; omega
/-- what is held becomes the cause of one on its way that has none -/
theorem pr_st_link {cs' : Int → Int} {φ g : Int} (h : pr_st cd cs n w) (hφ0 : 0 ≤ φ) (hφn : φ < n) (hφ : (w φ).1 = -2) (hc : cs φ = -1) (hg0 : 0 ≤ g) (hg : g < φ) (hgw : (w g).1 ≠ -1) (hcs : ∀ i, 0 ≤ i → i < n → i ≠ φ → cs' i = cs i) (hcφ : cs' φ = g) : pr_st cd cs' n (pr_w (pr_w w g (-1) (w g).2) φ (-2) ((w φ).2 ++ (w g).2)) := by
  refine ⟨h.1, fun k h0 hk => ?_⟩
  have e3 : (w φ).2 = [cd φ] := by
    rcases h.2 φ hφ0 hφn with ⟨a, b⟩ | ⟨a, b, c, d⟩
    · exact b
    · omega
  by_cases e : k = φ
  · subst e
    right
    rw [hcφ, pr_ws, pr_wn (show g ≠ k by omega), pr_ws]
    exact ⟨hg0, hg, rfl, by rw [e3]; rfl⟩
  · rw [hcs k h0 hk e, pr_wn e]
    have e2 : (pr_w w g (-1) (w g).2 k).2 = (w k).2 := by
      by_cases q : k = g
      · subst q; rw [pr_ws]
      · rw [pr_wn q]
    rcases h.2 k h0 hk with ⟨a, b⟩ | ⟨a, b, c, d⟩
    · exact Or.inl ⟨a, by rw [e2]; exact b⟩
    · have n1 : cs k ≠ φ := fun q => by rw [q, hφ] at c; omega
      have n2 : cs k ≠ g := fun q => hgw (by rw [← q]; exact c)
      refine Or.inr ⟨a, b, ?_, ?_⟩
      · rw [pr_wn n1, pr_wn n2]; exact c
      · rw [e2, pr_wn n1, pr_wn n2]; exact d
end
theorem pr_hl_w {w w' : Int → Int × List Int} {own h ub : Int} {v : Option (List Int)} (H : pr_hl w own h ub v) (hw : 0 ≤ h → (w h).1 = own → w' h = w h) : pr_hl w' own h ub v := by
  rcases H with q | q | ⟨a, b, c, d, e⟩
  · exact Or.inl q
  · exact Or.inr (Or.inl q)
  · have := hw a c
    exact Or.inr (Or.inr ⟨a, b, by rw [this]; exact c, by rw [this]; exact d, by rw [this]; exact e⟩)
theorem pr_hl_ub {w : Int → Int × List Int} {own h ub ub' : Int} {v : Option (List Int)} (H : pr_hl w own h ub v) (hu : ub ≤ ub') : pr_hl w own h ub' v := by
  rcases H with q | q | ⟨a, b, c, d, e⟩
  · exact Or.inl q
  · exact Or.inr (Or.inl q)
  · exact Or.inr (Or.inr ⟨a, by omega, c, d, e⟩)
/-! sums -/
theorem pa_sum_eq {f g : Int → Int} : ∀ n : Nat, (∀ c : Int, 0 ≤ c → c < n → f c = g c) → pa_sum f n = pa_sum g n
  | 0, _ => rfl
  | n + 1, h => by
    unfold pa_sum
    rw [pa_sum_eq n (fun c h0 h1 => h c h0 (by omega)), h n (by omega) (by omega)]
theorem pa_sum_upd {f g : Int → Int} {c : Int} : ∀ n : Nat, 0 ≤ c → c < n → (∀ i, i ≠ c → g i = f i) → pa_sum g n = pa_sum f n - f c + g c
  | 0, h0, h1, _ => by omega
  | n + 1, h0, h1, h => by
    unfold pa_sum
    by_cases e : c = n
    · subst e
      rw [pa_sum_eq (f := g) (g := f) n (fun i _ hi => h i (by omega))]
      omega
    · rw [pa_sum_upd n h0 (by omega) h, h n (by omega)]
      omega
theorem pa_pots_cw {a : pa_M} {c : Int} {v : pa_C} {n : Nat} (h0 : 0 ≤ c) (h1 : c < n) : pa_pots (pa_cw a c v) n = pa_pots a n - pa_pot (a.2.1 c).2.2 + pa_pot v.2.2 := by
  unfold pa_pots
  rw [pa_sum_upd (f := fun c => pa_pot (a.2.1 c).2.2) n h0 h1 (fun i hi => by rw [pa_cw_ne hi]), pa_cw_same]
theorem pa_sum_0 {f : Int → Int} : ∀ n : Nat, (∀ c : Int, 0 ≤ f c) → 0 ≤ pa_sum f n
  | 0, _ => Int.le_refl _
  | n + 1, h => by
    unfold pa_sum
    have := pa_sum_0 n h
    have := h n
    omega
theorem pa_sum_ge {f : Int → Int} {c : Int} : ∀ n : Nat, (∀ c : Int, 0 ≤ f c) → 0 ≤ c → c < n → f c ≤ pa_sum f n
  | 0, _, _, _ => by omega
  | n + 1, h, h0, h1 => by
    unfold pa_sum
    by_cases e : c = n
    · subst e
      have := pa_sum_0 n h
      omega
    · have := pa_sum_ge n h h0 (by omega)
      have := h n
      omega

