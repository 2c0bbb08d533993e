/-- bounds alone -/
def pa_wf9 (a : pa_M) : Prop := (0 ≤ a.1 4 ∧ a.1 4 ≤ 8) ∧ ∀ c, 0 ≤ c → c < a.1 4 → (a.2.1 c).2.2.length ≤ 6
theorem pa_wf0.w9 {a : pa_M} (h : pa_wf0 a) : pa_wf9 a := ⟨h.1, fun c h0 h1 => (h.2.2.1 c h0 h1).2.1⟩
theorem pa_wf9_cw {a : pa_M} {c : Int} {v : pa_C} (h : pa_wf9 a) (hv : v.2.2.length ≤ 6) : pa_wf9 (pa_cw a c v) := ⟨h.1, fun i h0 h1 => by
  by_cases e : i = c
  · rw [e, pa_cw_same]; exact hv
  · rw [pa_cw_ne e]; exact h.2 i h0 h1⟩
/-! THE CLASS'S STATE IN THE HEAP; T: what never changes (programs, their codes, manners) -/
def pk_Z (B a : Nat) : Prop := B ≤ a ∧ a < B + 87 ∧ a ≠ B + 9 ∧ a ≠ B + 10
/-- nothing is made, outside of Z nothing changes -/
def pk_fr (Z : Nat → Prop) (σ σ' : pe_H) : Prop := (σ'.1 = σ.1 ∧ σ'.2.1 = σ.2.1 ∧ σ'.2.2.1 = σ.2.2.1 ∧ σ'.2.2.2.1 = σ.2.2.2.1) ∧ ∀ a, ¬ Z a → ∀ j, pe_I σ' a j = pe_I σ a j ∧ pe_R σ' a j = pe_R σ a j
/-- so, and no reference changes -/
def pk_frI (Z : Nat → Prop) (σ σ' : pe_H) : Prop := pk_fr Z σ σ' ∧ σ'.2.2.2.2.2 = σ.2.2.2.2.2
theorem pk_fr_refl (Z : Nat → Prop) (σ : pe_H) : pk_fr Z σ σ := ⟨⟨rfl, rfl, rfl, rfl⟩, fun _ _ _ => ⟨rfl, rfl⟩⟩
theorem pk_frI_refl (Z : Nat → Prop) (σ : pe_H) : pk_frI Z σ σ := ⟨pk_fr_refl Z σ, rfl⟩
theorem pk_fr_trans {Z : Nat → Prop} {σ σ' σ'' : pe_H} (h : pk_fr Z σ σ') (h' : pk_fr Z σ' σ'') : pk_fr Z σ σ'' := by
  obtain ⟨⟨a1, a2, a3, a4⟩, a5⟩ := h
  obtain ⟨⟨b1, b2, b3, b4⟩, b5⟩ := h'
  exact ⟨⟨b1.trans a1, b2.trans a2, b3.trans a3, b4.trans a4⟩, fun a ha j => ⟨(b5 a ha j).1.trans (a5 a ha j).1, (b5 a ha j).2.trans (a5 a ha j).2⟩⟩
theorem pk_frI_trans {Z : Nat → Prop} {σ σ' σ'' : pe_H} (h : pk_frI Z σ σ') (h' : pk_frI Z σ' σ'') : pk_frI Z σ σ'' := ⟨pk_fr_trans h.1 h'.1, h'.2.trans h.2⟩
theorem pk_fr_mono {Z Z' : Nat → Prop} {σ σ' : pe_H} (h : pk_fr Z σ σ') (hz : ∀ a, Z a → Z' a) : pk_fr Z' σ σ' := ⟨h.1, fun a ha j => h.2 a (fun q => ha (hz a q)) j⟩
theorem pk_frI_mono {Z Z' : Nat → Prop} {σ σ' : pe_H} (h : pk_frI Z σ σ') (hz : ∀ a, Z a → Z' a) : pk_frI Z' σ σ' := ⟨pk_fr_mono h.1 hz, h.2⟩
theorem pk_frI_wI {Z : Nat → Prop} {σ : pe_H} {r : Nat} {j v : Int} (h : Z r) : pk_frI Z σ (pe_wI σ r j v) := ⟨⟨⟨rfl, rfl, rfl, rfl⟩, fun a ha k => ⟨pe_I_ner (fun e => ha (by rw [e]; exact h)), rfl⟩⟩, rfl⟩
theorem pk_fr_wR {Z : Nat → Prop} {σ : pe_H} {r x : Nat} {j : Int} (h : Z r) : pk_fr Z σ (pe_wR σ r j x) := ⟨⟨rfl, rfl, rfl, rfl⟩, fun a ha k => ⟨rfl, pe_R_ner (fun e => ha (by rw [e]; exact h))⟩⟩
theorem pk_frI_then {Z : Nat → Prop} {σ σ' : pe_H} {r : Nat} {j v : Int} (h : pk_frI Z σ σ') (hr : Z r) : pk_frI Z σ (pe_wI σ' r j v) := pk_frI_trans h (pk_frI_wI hr)
section
variable {Z : Nat → Prop} {σ σ' : pe_H}
theorem pk_frK (h : pk_fr Z σ σ') (a : Nat) : pe_K σ' a = pe_K σ a := by unfold pe_K; rw [h.1.2.2.1]
theorem pk_frL (h : pk_fr Z σ σ') (a : Nat) : pe_L σ' a = pe_L σ a := by unfold pe_L; rw [h.1.2.2.2]
theorem pk_frR (h : pk_frI Z σ σ') (a : Nat) (j : Int) : pe_R σ' a j = pe_R σ a j := by unfold pe_R; rw [h.2]
theorem pk_Fo_eq {r : Nat} (hK : ∀ a, pe_K σ' a = pe_K σ a) (hL : ∀ a, pe_L σ' a = pe_L σ a) (hR : ∀ j, pe_R σ' r 10 = pe_R σ r 10 ∧ pe_R σ' (r + 1) j = pe_R σ (r + 1) j) (h : pk_Fo r σ) : pk_Fo r σ' := by
  obtain ⟨a1, a2, a3, a4, a5, a6⟩ := h
  exact ⟨a1, by rw [hK]; exact a2, by rw [(hR 0).1]; exact a3, by rw [hK]; exact a4, by rw [hL]; exact a5, fun i h0 h1 => ⟨by rw [(hR i).2]; exact (a6 i h0 h1).1, by rw [hK]; exact (a6 i h0 h1).2⟩⟩
theorem pk_Fq_eq {r : Nat} (hK : ∀ a, pe_K σ' a = pe_K σ a) (hL : ∀ a, pe_L σ' a = pe_L σ a) (hR : pe_R σ' r 0 = pe_R σ r 0) (h : pk_Fq r σ) : pk_Fq r σ' := by
  obtain ⟨a1, a2, a3, a4, a5⟩ := h
  exact ⟨a1, by rw [hK]; exact a2, by rw [hR]; exact a3, by rw [hK]; exact a4, by rw [hL]; exact a5⟩
/-- the shape of a machine stands, if its references but programs and manners stay -/
theorem pk_Fm_eq {B : Nat} (hK : ∀ a, pe_K σ' a = pe_K σ a) (hL : ∀ a, pe_L σ' a = pe_L σ a) (hR : ∀ (a : Nat) (j : Int), (a = B ∨ a = B + 2 ∨ a = B + 3 ∨ a = B + 4 ∨ (∃ i : Int, 0 ≤ i ∧ i < 8 ∧ ((a = pk_c B i ∧ j = 10) ∨ a = pk_c B i + 1)) ∨ (∃ i : Int, 0 ≤ i ∧ i < 3 ∧ (a = pk_q B i ∨ a = pk_g B i))) → pe_R σ' a j = pe_R σ a j) (h : pk_Fm B σ) : pk_Fm B σ' := by
  obtain ⟨⟨a1, a2⟩, a3, a4, a5, a6⟩ := h
  have hB : ∀ j, pe_R σ' B j = pe_R σ B j := fun j => hR B j (Or.inl rfl)
  refine ⟨⟨a1, by rw [hK]; exact a2⟩, ?_, ?_, ?_, ?_⟩
  · simp only [hB, hK, hL]; exact a3
  · intro i h0 h1
    obtain ⟨b1, b2⟩ := a4 i h0 h1
    exact ⟨by rw [hR _ _ (Or.inr (Or.inl rfl))]; exact b1, pk_Fo_eq hK hL (fun j => ⟨hR _ _ (Or.inr (Or.inr (Or.inr (Or.inr (Or.inl ⟨i, h0, h1, Or.inl ⟨rfl, rfl⟩⟩))))), hR _ _ (Or.inr (Or.inr (Or.inr (Or.inr (Or.inl ⟨i, h0, h1, Or.inr rfl⟩)))))⟩) b2⟩
  · intro i h0 h1
    obtain ⟨b1, b2⟩ := a5 i h0 h1
    exact ⟨by rw [hR _ _ (Or.inr (Or.inr (Or.inl rfl)))]; exact b1, pk_Fq_eq hK hL (hR _ _ (Or.inr (Or.inr (Or.inr (Or.inr (Or.inr ⟨i, h0, h1, Or.inl rfl⟩)))))) b2⟩
  · intro i h0 h1
    obtain ⟨b1, b2⟩ := a6 i h0 h1
    exact ⟨by rw [hR _ _ (Or.inr (Or.inr (Or.inr (Or.inl rfl))))]; exact b1, pk_Fq_eq hK hL (hR _ _ (Or.inr (Or.inr (Or.inr (Or.inr (Or.inr ⟨i, h0, h1, Or.inr rfl⟩)))))) b2⟩
theorem pk_Fm_frI {B : Nat} (h : pk_frI Z σ σ') (hF : pk_Fm B σ) : pk_Fm B σ' := pk_Fm_eq (pk_frK h.1) (pk_frL h.1) (fun a j _ => pk_frR h a j) hF
theorem pk_Fo_frI {r : Nat} (h : pk_frI Z σ σ') (hF : pk_Fo r σ) : pk_Fo r σ' := pk_Fo_eq (pk_frK h.1) (pk_frL h.1) (fun j => ⟨pk_frR h _ _, pk_frR h _ _⟩) hF
theorem pk_Fq_frI {r : Nat} (h : pk_frI Z σ σ') (hF : pk_Fq r σ) : pk_Fq r σ' := pk_Fq_eq (pk_frK h.1) (pk_frL h.1) (pk_frR h _ _) hF
end
def pk_RPr (T : Nat → Prop) (σ : pe_H) (P : Nat) (p : pa_P) : Prop := (T P ∧ T (pe_R σ P 0)) ∧ pe_K σ P = 4 ∧ pe_I σ P 1 = pa_fin p ∧ pe_K σ (pe_R σ P 0) = 10 ∧ pe_L σ (pe_R σ P 0) = p.length ∧ ∀ i, 0 ≤ i → i < (p.length : Int) → pe_I σ (pe_R σ P 0) i = 10 * (pa_at p i).1 + (pa_at p i).2
def pk_RFr (T : Nat → Prop) (σ : pe_H) (w : Int → Int × List Int) (r : Nat) (own ub : Int) (f : pa_F) : Prop := (pe_I σ r 1 = f.1 1 ∧ pe_I σ r 2 = f.1 2 ∧ pe_I σ r 3 = f.1 3 ∧ pe_I σ r 4 = f.1 4) ∧ pk_RPr T σ (pe_R σ r 0) f.2.1 ∧ pr_hl w own (pe_I σ r 5) ub f.2.2
def pk_RFs (T : Nat → Prop) (σ : pe_H) (w : Int → Int × List Int) (r : Nat) (own : Int) : List pa_F → Int → Prop
  | [], _ => True
  | f :: fs, ub => pk_RFr T σ w (pk_f r fs.length) (own + fs.length) ub f ∧ pk_RFs T σ w r own fs (pr_nb (pe_I σ (pk_f r fs.length) 5) ub)
def pk_RCn (T : Nat → Prop) (σ : pe_H) (r : Nat) (nu : Nat → Int) : Prop := (pe_I σ r 0 = nu 0 ∧ pe_I σ r 2 = nu 2 ∧ pe_I σ r 3 = nu 3 ∧ pe_I σ r 4 = nu 4 ∧ pe_I σ r 5 = nu 5 ∧ pe_I σ r 6 = nu 6 ∧ pe_I σ r 7 = nu 7) ∧ T (pe_R σ r 1) ∧ pe_K σ (pe_R σ r 1) = 3 ∧ pe_I σ (pe_R σ r 1) 0 = nu 20 ∧ pe_I σ (pe_R σ r 1) 1 = nu 21
def pk_RCe (σ : pe_H) (w : Int → Int × List Int) (r : Nat) (n : Int) (e : List Int) : Prop := (e = [] ∧ pe_I σ r 8 = -1) ∨ (e ≠ [] ∧ 0 ≤ pe_I σ r 8 ∧ pe_I σ r 8 < n ∧ (w (pe_I σ r 8)).1 = -1 ∧ (w (pe_I σ r 8)).2 = e)
def pk_RCo (T : Nat → Prop) (σ : pe_H) (w : Int → Int × List Int) (r : Nat) (own n : Int) (c : pa_C) : Prop := pk_RCn T σ r c.1 ∧ pe_I σ r 9 = c.2.2.length ∧ pk_RCe σ w r n c.2.1 ∧ pk_RFs T σ w r own c.2.2 n
def pk_RQ (σ : pe_H) (r : Nat) (l : List Int) : Prop := pe_I σ r 1 = l.length ∧ ∀ i : Nat, i < l.length → pe_I σ (r + 1) i = l.getD i 0
def pk_RMx (B : Nat) (T : Nat → Prop) (σ : pe_H) (w : Int → Int × List Int) (n : Int) (a : pa_M) : Prop := pk_Fm B σ ∧ (∀ x, T x → ¬ pk_Z B x) ∧ (pe_I σ B 4 = a.1 4 ∧ pe_I σ B 5 = a.1 5 ∧ pe_I σ B 6 = a.1 6 ∧ pe_I σ B 12 = n) ∧ pr_st (pe_I σ (B + 7)) (pe_I σ (B + 8)) n w ∧
  (∀ c, 0 ≤ c → c < a.1 4 → pk_RCo T σ w (pk_c B c) (6 * c) n (a.2.1 c)) ∧ (∀ p, 0 ≤ p → p < 5 → pk_RPr T σ (pe_R σ (B + 1) p) (a.2.2.1 p)) ∧ (∀ ch, 0 ≤ ch → ch < 3 → pk_RQ σ (pk_q B ch) (a.2.2.2 0 ch) ∧ pk_RQ σ (pk_g B ch) (a.2.2.2 1 ch))
/-- a machine at B -/
def pk_RM (B : Nat) (T : Nat → Prop) (σ : pe_H) (a : pa_M) : Prop := ∃ w n, pk_RMx B T σ w n a ∧ n + pa_pots a (a.1 4).toNat ≤ 64 * a.1 4
section
variable {T Z : Nat → Prop} {σ σ' : pe_H}
theorem pk_RPr_fr {P : Nat} {p : pa_P} (hf : pk_fr Z σ σ') (hT : ∀ a, T a → ¬ Z a) (h : pk_RPr T σ P p) : pk_RPr T σ' P p := by
  obtain ⟨⟨a1, a2⟩, a3, a4, a5, a6, a7⟩ := h
  have e : pe_R σ' P 0 = pe_R σ P 0 := (hf.2 P (hT P a1) 0).2
  unfold pk_RPr
  rw [e]
  exact ⟨⟨a1, a2⟩, by rw [pk_frK hf]; exact a3, by rw [(hf.2 P (hT P a1) 1).1]; exact a4, by rw [pk_frK hf]; exact a5, by rw [pk_frL hf]; exact a6, fun i h0 h1 => by rw [(hf.2 _ (hT _ a2) i).1]; exact a7 i h0 h1⟩
theorem pr_nb_mono {h ub ub' : Int} (hu : ub ≤ ub') : pr_nb h ub ≤ pr_nb h ub' := by unfold pr_nb; split <;> omega
theorem pk_RFs_keep {w w' : Int → Int × List Int} {r r' m : Nat} {own : Int} (hI : ∀ i : Nat, i < m → ∀ j, pe_I σ' (pk_f r' i) j = pe_I σ (pk_f r i) j ∧ pe_R σ' (pk_f r' i) j = pe_R σ (pk_f r i) j) (hP : ∀ P p, pk_RPr T σ P p → pk_RPr T σ' P p) : ∀ (fs : List pa_F) (ub ub' : Int), fs.length ≤ m → ub ≤ ub' → (∀ h, own ≤ (w h).1 → (w h).1 < own + fs.length → w' h = w h) → pk_RFs T σ w r own fs ub → pk_RFs T σ' w' r' own fs ub'
  | [], _, _, _, _, _, _ => trivial
  | f :: fs, ub, ub', hl, hu, hw, h => by
    rw [List.length_cons] at hl hw
    obtain ⟨⟨⟨b1, b2, b3, b4⟩, b5, b6⟩, b7⟩ := h
    have hi := hI fs.length (by omega)
    refine ⟨⟨⟨by rw [(hi 1).1]; exact b1, by rw [(hi 2).1]; exact b2, by rw [(hi 3).1]; exact b3, by rw [(hi 4).1]; exact b4⟩, by rw [(hi 0).2]; exact hP _ _ b5, ?_⟩, ?_⟩
    · rw [(hi 5).1]
      exact pr_hl_ub (pr_hl_w b6 (fun h0 h1 => hw _ (by omega) (by omega))) hu
    · rw [(hi 5).1]
      exact pk_RFs_keep hI hP fs _ _ (by omega) (pr_nb_mono hu) (fun h h1 h2 => hw h h1 (by omega)) b7
theorem pk_RCe_keep {w w' : Int → Int × List Int} {r : Nat} {n n' : Int} {e : List Int} (h8 : pe_I σ' r 8 = pe_I σ r 8) (hn : n ≤ n') (hw : ∀ h, (w h).1 = -1 → w' h = w h) (h : pk_RCe σ w r n e) : pk_RCe σ' w' r n' e := by
  unfold pk_RCe
  rw [h8]
  rcases h with q | ⟨q1, q2, q3, q4, q5⟩
  · exact Or.inl q
  · have := hw _ q4
    exact Or.inr ⟨q1, q2, by omega, by rw [this]; exact q4, by rw [this]; exact q5⟩
theorem pk_RCn_keep {r : Nat} {nu : Nat → Int} (hf : pk_fr Z σ σ') (hT : ∀ a, T a → ¬ Z a) (hr : ¬ Z r) (h : pk_RCn T σ r nu) : pk_RCn T σ' r nu := by
  obtain ⟨⟨a0, a2, a3, a4, a5, a6, a7⟩, b1, b2, b3, b4⟩ := h
  have g := hf.2 r hr
  unfold pk_RCn
  rw [(g 1).2]
  exact ⟨⟨by rw [(g 0).1]; exact a0, by rw [(g 2).1]; exact a2, by rw [(g 3).1]; exact a3, by rw [(g 4).1]; exact a4, by rw [(g 5).1]; exact a5, by rw [(g 6).1]; exact a6, by rw [(g 7).1]; exact a7⟩, b1, by rw [pk_frK hf]; exact b2, by rw [(hf.2 _ (hT _ b1) 0).1]; exact b3, by rw [(hf.2 _ (hT _ b1) 1).1]; exact b4⟩
/-- a coroutine that nobody touches -/
theorem pk_RCo_keep {w w' : Int → Int × List Int} {r : Nat} {own n n' : Int} {c : pa_C} (hf : pk_fr Z σ σ') (hT : ∀ a, T a → ¬ Z a) (hr : ∀ x, r ≤ x → x < r + 8 → ¬ Z x) (hn : n ≤ n') (hw : ∀ h, (w h).1 = -1 ∨ (own ≤ (w h).1 ∧ (w h).1 < own + 6) → w' h = w h) (hl : c.2.2.length ≤ 6) (h : pk_RCo T σ w r own n c) : pk_RCo T σ' w' r own n' c := by
  obtain ⟨h1, h2, h3, h4⟩ := h
  have hr0 := hr r (Nat.le_refl _) (by omega)
  refine ⟨pk_RCn_keep hf hT hr0 h1, by rw [(hf.2 r hr0 9).1]; exact h2, pk_RCe_keep (hf.2 r hr0 8).1 hn (fun h q => hw h (Or.inl q)) h3, ?_⟩
  exact pk_RFs_keep (m := 6) (fun i hi j => hf.2 _ (hr _ (by unfold pk_f; omega) (by unfold pk_f; omega)) j) (fun P p q => pk_RPr_fr hf hT q) _ _ _ hl hn (fun h q1 q2 => hw h (Or.inr ⟨q1, by omega⟩)) h4
theorem pk_RQ_keep {r : Nat} {l : List Int} (h0 : pe_I σ' r 1 = pe_I σ r 1) (h1 : ∀ j, pe_I σ' (r + 1) j = pe_I σ (r + 1) j) (h : pk_RQ σ r l) : pk_RQ σ' r l := ⟨by rw [h0]; exact h.1, fun i hi => by rw [h1]; exact h.2 i hi⟩
end
/-- what one coroutine's own methods may touch -/
def pk_Zc (B : Nat) (c : Int) (a : Nat) : Prop := (pk_c B c ≤ a ∧ a < pk_c B c + 8) ∨ a = B + 8
theorem pk_Zc_Z {B : Nat} {c : Int} (h0 : 0 ≤ c) (h8 : c < 8) (a : Nat) (h : pk_Zc B c a) : pk_Z B a := by
  unfold pk_Z
  rcases h with ⟨h1, h2⟩ | h
  · unfold pk_c at h1 h2; omega
  · omega
/-- one coroutine has changed, all others stand -/
theorem pk_RMx_co' {B : Nat} {T : Nat → Prop} {σ σ' : pe_H} {w w' : Int → Int × List Int} {n n' : Int} {a : pa_M} {c : Int} {v : pa_C} (h : pk_RMx B T σ w n a) (hwf : pa_wf9 a) (h0 : 0 ≤ c) (h1 : c < a.1 4) (hf : pk_fr (pk_Zc B c) σ σ') (hF' : pk_Fm B σ') (hn : n ≤ n') (h12 : n' = n) (hs : pr_st (pe_I σ' (B + 7)) (pe_I σ' (B + 8)) n' w') (hw : pr_wk c w w') (hv : pk_RCo T σ' w' (pk_c B c) (6 * c) n' v) : pk_RMx B T σ' w' n' (pa_cw a c v) := by
  obtain ⟨a1, a2, a3, a4, a5, a6, a7⟩ := h
  have h8 : c < 8 := by have := hwf.1; omega
  have hT : ∀ x, T x → ¬ pk_Zc B c x := fun x hx q => a2 x hx (pk_Zc_Z h0 h8 x q)
  have hB : ¬ pk_Zc B c B := by unfold pk_Zc pk_c; omega
  have hB1 : ¬ pk_Zc B c (B + 1) := by unfold pk_Zc pk_c; omega
  refine ⟨hF', a2, ?_, hs, fun i hi0 hi1 => ?_, fun p hp0 hp1 => ?_, fun ch hc0 hc3 => ?_⟩
  · rw [(hf.2 B hB 4).1, (hf.2 B hB 5).1, (hf.2 B hB 6).1, (hf.2 B hB 12).1, h12]; exact a3
  · by_cases e : i = c
    · rw [e, pa_cw_same]; exact hv
    · rw [pa_cw_ne e]
      have hi1 : i < a.1 4 := hi1
      refine pk_RCo_keep hf hT (fun x h1 h2 => ?_) hn (fun h q => hw h (by omega) (by omega)) (hwf.2 i hi0 hi1) (a5 i hi0 hi1)
      have := hwf.1
      unfold pk_Zc
      unfold pk_c at h1 h2 ⊢
      omega
  · rw [(hf.2 _ hB1 p).2]
    exact pk_RPr_fr hf hT (a6 p hp0 hp1)
  · obtain ⟨b1, b2⟩ := a7 ch hc0 hc3
    have f1 : ∀ x, B + 75 ≤ x → ¬ pk_Zc B c x := fun x hx => by unfold pk_Zc pk_c; omega
    exact ⟨pk_RQ_keep (hf.2 _ (f1 _ (by unfold pk_q; omega)) 1).1 (fun j => (hf.2 _ (f1 _ (by unfold pk_q; omega)) j).1) b1, pk_RQ_keep (hf.2 _ (f1 _ (by unfold pk_g; omega)) 1).1 (fun j => (hf.2 _ (f1 _ (by unfold pk_g; omega)) j).1) b2⟩
theorem pk_RMx_co {B : Nat} {T : Nat → Prop} {σ σ' : pe_H} {w w' : Int → Int × List Int} {n n' : Int} {a : pa_M} {c : Int} {v : pa_C} (h : pk_RMx B T σ w n a) (hwf : pa_wf9 a) (h0 : 0 ≤ c) (h1 : c < a.1 4) (hf : pk_frI (pk_Zc B c) σ σ') (hn : n ≤ n') (h12 : n' = n) (hs : pr_st (pe_I σ' (B + 7)) (pe_I σ' (B + 8)) n' w') (hw : pr_wk c w w') (hv : pk_RCo T σ' w' (pk_c B c) (6 * c) n' v) : pk_RMx B T σ' w' n' (pa_cw a c v) := pk_RMx_co' h hwf h0 h1 hf.1 (pk_Fm_frI hf h.1) hn h12 hs hw hv

