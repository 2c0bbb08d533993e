/-! THE LAW: a round -/
section
variable {d o r q x y : Nat} {Z : Int → Prop} {Φ : Option pe_V → pe_H → Prop} {σ σ' : pe_H} {g g' : Nat → Int} {c e v n : Int} {a s : pa_M} {w : pa_C} {nu : Nat → Int} {k0 : Nat} {l : List Int} {f : pa_F} {fs : List pa_F}
/-- width, round, who has said -/
theorem ll_R.lw {j : Int} {a' : pa_M} (h : ll_R σ g a) (hj : j = 4 ∨ j = 5 ∨ j = 8) (h2 : a'.2 = a.2) (e4 : a'.1 4 = a.1 4) (e5 : pe_I (pe_wI σ 3 j v) 3 4 = a'.1 5) (e6 : pe_I (pe_wI σ 3 j v) 3 5 = a'.1 6) : ll_fr ll_Zs 0 0 σ g (pe_wI σ 3 j v) g ∧ ll_R (pe_wI σ 3 j v) g a' := by
  have hg := h.1.2
  have hf : ll_fr (fun z => z = -2) 0 0 σ g (pe_wI σ 3 j v) g := ll_fr_wI h.gg hg.1
  obtain ⟨x1, x2⟩ := a'
  dsimp only at h2 e4 e5 e6
  subst h2
  obtain ⟨hB, a4, a5, a6, a7⟩ := h
  have n1 : ¬ ((-1 : Int) = -2) := by decide
  refine ⟨ll_fr_mono hf (fun z hz => by unfold ll_Zs; omega), hB.fr0 hf (fun _ _ => rfl), ⟨by rw [pe_I_nej (by omega)]; exact a4.1.trans e4.symm, e5, e6⟩, fun p p0 p5 => ⟨(a5 p p0 p5).1.fr hf n1, (a5 p p0 p5).2.fr hf n1⟩, fun q q0 q3 => ⟨(a6 q q0 q3).1.fr hf n1, (a6 q q0 q3).2.fr hf n1⟩, fun c c0 c1 => ?_⟩
  have c1 : c < a.1 4 := by rw [← e4]; exact c1
  obtain ⟨⟨p1, p2⟩, ⟨⟨b0, b1, b2, b3, b4, b5, b6, b7⟩, b8⟩, cc, dd, ee, ff⟩ := a7 c c0 c1
  have hne : pe_R σ 891 c ≠ 3 := fun e => by rw [e, hg.1] at p2; omega
  refine ⟨⟨p1, p2⟩, ⟨⟨?_, ?_, ?_, ?_, ?_, ?_, ?_, ?_⟩, fun q1 q2 => ?_⟩, cc, ?_, fun q => ll_fa.fr hf n1 _ _ (ee q), ff.fr hf n1 _ (fun i _ => by omega) (fun _ _ => rfl) c0⟩
  all_goals first
    | (rw [pe_I_ner hne]; assumption)
    | (rw [pe_R_wI, pe_I_ner hne]; assumption)
    | (rw [pe_R_wI, pe_I_ner hne]; exact b8 q1 q2)
theorem k162_could (hwf : pa_wf a) (hR : ll_R σ g (pa_day a)) (k : ∀ o3, pe_X (d + 1) 162 (51, [some (.inr (.inr 3)), some (.inl 0), some (.inl (pa_bits (pa_isAble a) (a.1 4).toNat)), o3, none, none, none, none, none], [], σ) Φ) : pe_X (d + 1) 162 (19, [some (.inr (.inr 3)), some (.inl 0), some (.inl 0), some (.inl 0), none, none, none, none, none], [], σ) Φ := by
  have h8 := hwf.1.1
  have hL := hR.L
  have hcnt : pe_I σ 3 3 = a.1 4 := hR.mn.trans (pa_day4 a).1
  have loop : ∀ (m i : Nat), (i : Int) + m = a.1 4 → pe_X (d + 1) 162 (19, [some (.inr (.inr 3)), some (.inl 0), some (.inl (pa_bits (pa_isAble a) i)), some (.inl (i : Int)), none, none, none, none, none], [], σ) Φ := by
    intro m
    induction m with
    | zero =>
      intro i hi
      refine b162_19 (w0 := by rw [hcnt]; unfold pe_in; omega) (k1 := fun _ => ?_) (k2 := fun r => by omega)
      have := k (some (.inl (i : Int)))
      rw [show (a.1 4).toNat = i by omega] at this
      exact this
    | succ m ih =>
      intro i hi
      have hb := pa_bits_b (pa_isAble a) i
      have hb5 := pa_bits_255 (pa_isAble a) (n := i) (by omega)
      refine b162_19 (w0 := by rw [hcnt]; unfold pe_in; omega) (k1 := fun r => by omega) (k2 := fun _ => ?_)
      refine b162_27 (k := ?_)
      refine k159 hR (pa_day_wf hwf).1 (by omega) (by rw [(pa_day4 a).1]; omega) (fun r => ?_) (fun r => ?_)
      · have r : (a.2.1 i).1 2 ≤ 2 := r
        refine b162_33 (k1 := fun r => by omega) (k2 := fun _ => ?_)
        refine b162_36 (k := ?_)
        refine b162_43 (k := ?_)
        rw [(pb_or (by omega) hb.1 hb.2).1]
        have := ih (i + 1) (by push_cast; omega)
        rw [pa_bits, show pa_isAble a (i : Int) = true from by unfold pa_isAble; simp; omega, if_pos rfl] at this
        exact this
      · have r : ¬ (a.2.1 i).1 2 ≤ 2 := r
        refine b162_33 (k1 := fun _ => ?_) (k2 := fun r => absurd rfl r)
        refine b162_42 (k := ?_)
        refine b162_43 (k := ?_)
        rw [pb_or_z hb5.1 hb5.2]
        have := ih (i + 1) (by push_cast; omega)
        rw [pa_bits, show pa_isAble a (i : Int) = false from by unfold pa_isAble; simp; omega, if_neg (by simp), Int.add_zero] at this
        exact this
  exact loop (a.1 4).toNat 0 (by omega)
/-- who is next -/
theorem k162_best {can gone kk : Int} {R : List Int} (hR : ll_R σ g s) (hws : pa_wf0 s) (hc0 : 0 ≤ can ∧ can ≤ 255) (hg0 : 0 ≤ gone ∧ gone ≤ 255) (hub : ∀ i : Nat, i < 8 → ((pb_h can i = true ∧ ¬ pb_h gone i = true) ↔ (i : Int) ∈ R)) (hin : ∀ z ∈ R, 0 ≤ z ∧ z < s.1 4) (hbef : R.Pairwise (pa_bef (pa_rk s))) (k : ∀ (σ' : pe_H) (g' : Nat → Int) (v : Int) (o6 o7 o8 : Option pe_V), ll_fr (fun _ => False) 8 48 σ g σ' g' → ((R = [] ∧ v = -1) ∨ ∃ x l2, R = x :: l2 ∧ v = x) → pe_X (d + 2) 162 (151, [some (.inr (.inr 3)), some (.inl 0), some (.inl can), some (.inl gone), some (.inl kk), some (.inl v), o6, o7, o8], [], σ') Φ) (o8 : Option pe_V) : pe_X (d + 2) 162 (80, [some (.inr (.inr 3)), some (.inl 0), some (.inl can), some (.inl gone), some (.inl kk), some (.inl (-1)), some (.inl (-9999)), some (.inl 0), o8], [], σ) Φ := by
  have h8 := hws.1
  have hw9 := hws.w9
  have loop : ∀ (m i : Nat) (v most : Int) (σ1 : pe_H) (g1 : Nat → Int) (o8 : Option pe_V), (i : Int) + m = s.1 4 → ll_fr (fun _ => False) i (6 * i) σ g σ1 g1 → ((v = -1 ∧ most = -9999 ∧ ∀ j : Int, j < i → j ∉ R) ∨ (v ∈ R ∧ v < i ∧ most = pa_rk s v ∧ ∀ j : Int, j < i → j ∈ R → j = v ∨ pa_bef (pa_rk s) v j)) → pe_X (d + 2) 162 (80, [some (.inr (.inr 3)), some (.inl 0), some (.inl can), some (.inl gone), some (.inl kk), some (.inl v), some (.inl most), some (.inl (i : Int)), o8], [], σ1) Φ := by
    intro m
    induction m with
    | zero =>
      intro i v most σ1 g1 o8 hi hf hv
      have hR1 := hR.fr hw9 hf (fun _ h => h.elim)
      have hL1 := hR1.L
      have hc := hR1.mn
      refine b162_80 (w0 := by rw [hc]; unfold pe_in; omega) (k1 := fun _ => ?_) (k2 := fun r => by omega)
      refine k σ1 g1 v _ _ _ (ll_fr_mono hf (fun _ h => h)) ?_
      cases R with
      | nil =>
        rcases hv with ⟨h, -, -⟩ | ⟨h1, -, -⟩
        · exact Or.inl ⟨rfl, h⟩
        · cases h1
      | cons x l2 =>
        have hx := hin x List.mem_cons_self
        refine Or.inr ⟨x, l2, rfl, ?_⟩
        rcases hv with ⟨-, -, h⟩ | ⟨h1, h2, -, h3⟩
        · exact absurd List.mem_cons_self (h x (by omega))
        · rcases List.mem_cons.mp h1 with h | h
          · exact h
          · have g1 := (List.pairwise_cons.mp hbef).1 v h
            rcases h3 x (by omega) List.mem_cons_self with g | g
            · exact g.symm
            · unfold pa_bef at g1 g; omega
    | succ m ih =>
      intro i v most σ1 g1 o8 hi hf hv
      have hR1 := hR.fr hw9 hf (fun _ h => h.elim)
      have hL1 := hR1.L
      have hc := hR1.mn
      have i0 : 0 ≤ (i : Int) := by omega
      have i1 : (i : Int) < s.1 4 := by omega
      have hCi := hR1.co i0 i1
      have hK := hCi.1.1
      obtain ⟨⟨b0, b1, b2, b3, b4, b5, b6, b7⟩, b8⟩ := hCi.2.1
      obtain ⟨w0, w2, w3, w4, w5, w6, w20, w21, -⟩ := (hws.2.2.1 i i0 i1).1
      have hn3' : 3 < pe_n σ1 := ll_lt hR1.gg (by rw [hR1.B.2.1]; decide)
      have hwt := pa_weight_b (k := (s.2.1 i).1 20) w21
      refine b162_80 (w0 := by rw [hc]; unfold pe_in; omega) (k1 := fun r => by omega) (k2 := fun _ => ?_)
      refine b162_89 (k := ?_)
      rw [b7]
      refine pe_M.up (k138 (d := 0) hR1.gg (by omega) hK (by rw [hCi.1.2]; omega) b1 b2 w20 w21 (fun σ2 g2 p2 => ?_)) (by omega)
      have hR2 := hR1.fr hw9 p2 (fun _ h => h.elim)
      have hL2 := hR2.L
      have hf2 : ll_fr (fun _ => False) (i + 1) (6 * (i + 1)) σ g σ2 g2 := ll_fr_mono (ll_fr_trans hf p2) (fun _ h => h)
      have hrk : pa_rk s i = (s.2.1 i).1 6 + pa_weight ((s.2.1 i).1 20) ((s.2.1 i).1 21) := rfl
      refine b162_109 (k := ?_)
      rw [← hrk]
      have hrb : -9 ≤ pa_rk s i ∧ pa_rk s i ≤ 1010 := by omega
      have hmostb : -9999 ≤ most ∧ most ≤ 1010 := by
        rcases hv with ⟨-, h, -⟩ | ⟨h1, -, h3, -⟩
        · omega
        · have hvN := hin v h1
          have wv := (hws.2.2.1 v hvN.1 hvN.2).1
          have := pa_weight_b (k := (s.2.1 v).1 20) wv.2.2.2.2.2.2.2.1
          have a6 := wv.2.2.2.2.2.1
          have : pa_rk s v = (s.2.1 v).1 6 + pa_weight ((s.2.1 v).1 20) ((s.2.1 v).1 21) := rfl
          omega
      have hno : (i : Int) ∉ R → ∀ o8, pe_X (d + 2) 162 (145, [some (.inr (.inr 3)), some (.inl 0), some (.inl can), some (.inl gone), some (.inl kk), some (.inl v), some (.inl most), some (.inl (i : Int)), o8], [], σ2) Φ := fun hmi o8 => by
        refine b162_145 (k := ?_)
        refine ih (i + 1) v most σ2 g2 _ (by push_cast; omega) hf2 ?_
        rcases hv with ⟨h, h0, h2⟩ | ⟨h1, h2, h0, h3⟩
        · refine Or.inl ⟨h, h0, fun j hj => ?_⟩
          by_cases e : j = (i : Int)
          · subst e; exact hmi
          · exact h2 j (by omega)
        · refine Or.inr ⟨h1, by omega, h0, fun j hj hjm => ?_⟩
          have e : j ≠ (i : Int) := fun e => by subst e; exact hmi hjm
          exact h3 j (by omega) hjm
      refine pe_M.up (k148 (d := 0) hc0 ⟨i0, by omega⟩ (fun rb => ?_) (fun rb => ?_)) (by omega)
      · refine b162_118 (k1 := fun r => by omega) (k2 := fun _ => ?_)
        refine b162_121 (k := ?_)
        refine pe_M.up (k148 (d := 0) hg0 ⟨i0, by omega⟩ (fun rg => ?_) (fun rg => ?_)) (by omega)
        · refine b162_127 (k1 := fun _ => ?_) (k2 := fun r => by omega)
          refine hno (fun h => ?_) _
          have := ((hub i (by omega)).mpr h).2
          exact this (by simpa using rg)
        · refine b162_127 (k1 := fun r => absurd rfl r) (k2 := fun _ => ?_)
          have hmi : (i : Int) ∈ R := (hub i (by omega)).mp ⟨by simpa using rb, by simpa using rg⟩
          refine b162_130 (k1 := fun rr => ?_) (k2 := fun rr => ?_)
          · refine b162_145 (k := ?_)
            refine ih (i + 1) v most σ2 g2 _ (by push_cast; omega) hf2 ?_
            rcases hv with ⟨h, h0, h2⟩ | ⟨h1, h2, h0, h3⟩
            · omega
            · refine Or.inr ⟨h1, by omega, h0, fun j hj hjm => ?_⟩
              by_cases e : j = (i : Int)
              · right
                subst e
                unfold pa_bef
                omega
              · exact h3 j (by omega) hjm
          · refine b162_137 (k := ?_)
            refine b162_145 (k := ?_)
            refine ih (i + 1) i (pa_rk s i) σ2 g2 _ (by push_cast; omega) hf2 (Or.inr ⟨hmi, by omega, rfl, fun j hj hjm => ?_⟩)
            by_cases e : j = (i : Int)
            · exact Or.inl e
            · right
              rcases hv with ⟨h, h0, h2⟩ | ⟨h1, h2, h0, h3⟩
              · exact absurd hjm (h2 j (by omega))
              · rcases h3 j (by omega) hjm with g | g
                · subst g
                  unfold pa_bef
                  omega
                · unfold pa_bef at g ⊢
                  omega
      · refine b162_118 (k1 := fun _ => ?_) (k2 := fun r => absurd rfl r)
        refine hno (fun h => ?_) _
        have := ((hub i (by omega)).mpr h).1
        exact rb (by simpa using this)
  exact loop (s.1 4).toNat 0 (-1) (-9999) σ g o8 (by omega) (ll_fr_mono (ll_fr_refl _ hR.gg) (fun _ h => h)) (Or.inl ⟨rfl, rfl, fun j hj hm => by have := hin j hm; omega⟩)
/-- who goes -/
theorem k162_go {can : Int} (hwf : pa_wf a) (hc0 : 0 ≤ can ∧ can ≤ 255) (hcb : ∀ i : Nat, i < 8 → (pb_h can i = true ↔ (i : Int) ∈ pa_line a)) : ∀ (m : Nat) (r l1 : List Int) (kk : Int) (σ1 : pe_H) (g1 : Nat → Int) (gone : Int) (o5 o6 o7 o8 : Option pe_V), pa_line a = l1 ++ r → kk + m = a.1 5 → 0 ≤ kk → ((l1.length : Int) = kk ∨ (r = [] ∧ (l1.length : Int) ≤ kk)) → (0 ≤ gone ∧ gone ≤ 255) → (∀ i : Nat, i < 8 → (pb_h gone i = true ↔ (i : Int) ∈ l1)) → ll_R σ1 g1 (pa_A (fun i => (a.2.1 i).1 6) (l1.foldl pa_go (pa_day a))) →
    (∀ (r l1 : List Int) (σ2 : pe_H) (g2 : Nat → Int) (gone : Int) (o4 o5 o6 o7 o8 : Option pe_V), pa_line a = l1 ++ r → (l1.length : Int) ≤ a.1 5 → ((l1.length : Int) = a.1 5 ∨ r = []) → (0 ≤ gone ∧ gone ≤ 255) → (∀ i : Nat, i < 8 → (pb_h gone i = true ↔ (i : Int) ∈ l1)) → ll_fr ll_Zs (70 * m) (250 * m) σ1 g1 σ2 g2 → ll_R σ2 g2 (pa_A (fun i => (a.2.1 i).1 6) (l1.foldl pa_go (pa_day a))) → pe_X (d + 14) 162 (187, [some (.inr (.inr 3)), some (.inl 0), some (.inl can), some (.inl gone), o4, o5, o6, o7, o8], [], σ2) Φ) →
    pe_X (d + 14) 162 (56, [some (.inr (.inr 3)), some (.inl 0), some (.inl can), some (.inl gone), some (.inl kk), o5, o6, o7, o8], [], σ1) Φ := by
  have h8 := hwf.1.1
  have h5w := hwf.1.2.1
  have hmem := fun z => pa_line_mem h8.1 z
  have hdn := (pa_lineN_ok a (a.1 4).toNat).1
  have ageb : ∀ i, 0 ≤ i → i < a.1 4 → 0 ≤ (a.2.1 i).1 6 ∧ (a.2.1 i).1 6 ≤ 999 := fun i i0 i1 => (hwf.1.2.2.1 i i0 i1).1.2.2.2.2.2.1
  intro m
  induction m with
  | zero =>
    intro r l1 kk σ1 g1 gone o5 o6 o7 o8 hL hk hk0 hlk hg hgb hR k
    obtain ⟨p1, p2⟩ := pa_line_go h8.1 l1.length
    have et : (pa_line a).take l1.length = l1 := by rw [hL]; simp
    rw [et] at p1 p2
    obtain ⟨w1, w2, w3, w4⟩ := pa_goes_wf _ _ (pa_day_wf hwf) p1 p2
    have hL1 := hR.L
    have hwid : pe_I σ1 3 4 = a.1 5 := by
      have := hR.2.1.2.1
      rw [this]
      show (l1.foldl pa_go (pa_day a)).1 5 = a.1 5
      rw [w2, (pa_day4 a).2]
    refine b162_56 (w0 := by rw [hwid]; unfold pe_in; omega) (k1 := fun _ => ?_) (k2 := fun r => by omega)
    exact k r l1 σ1 g1 gone _ _ _ _ _ hL (by omega) (hlk.elim (fun h => Or.inl (by omega)) (fun h => Or.inr h.1)) hg hgb (ll_fr_mono (ll_fr_refl _ hR.gg) (fun _ h => h)) hR
  | succ m ih =>
    intro r l1 kk σ1 g1 gone o5 o6 o7 o8 hL hk hk0 hlk hg hgb hR k
    obtain ⟨p1, p2⟩ := pa_line_go h8.1 l1.length
    have et : (pa_line a).take l1.length = l1 := by rw [hL]; simp
    rw [et] at p1 p2
    obtain ⟨w1, w2, w3, w4⟩ := pa_goes_wf _ _ (pa_day_wf hwf) p1 p2
    have hs4 : (l1.foldl pa_go (pa_day a)).1 4 = a.1 4 := by rw [w2, (pa_day4 a).1]
    have hL1 := hR.L
    have hwid : pe_I σ1 3 4 = a.1 5 := by
      have := hR.2.1.2.1
      rw [this]
      show (l1.foldl pa_go (pa_day a)).1 5 = a.1 5
      rw [w2, (pa_day4 a).2]
    have hnd : (l1 ++ r).Nodup := by rw [← hL]; exact hdn
    have hnot1 : ∀ z ∈ r, z ∉ l1 := fun z hz h => (List.nodup_append.mp hnd).2.2 z h z hz rfl
    have hinL : ∀ z ∈ r, z ∈ pa_line a := fun z hz => by rw [hL]; exact List.mem_append_right _ hz
    have hsame : ∀ z ∈ r, (l1.foldl pa_go (pa_day a)).2.1 z = a.2.1 z := fun z hz => w4 z (hnot1 z hz) ((hmem z).mp (hinL z hz)).2
    have hwA := pa_A_wf (e := fun i => (a.2.1 i).1 6) w1 (fun i i0 i1 => ageb i i0 (by omega))
    have hrkA : ∀ z ∈ r, pa_rk (pa_A (fun i => (a.2.1 i).1 6) (l1.foldl pa_go (pa_day a))) z = pa_rk a z := fun z hz => by
      unfold pa_rk
      rw [pa_A_co, hsame z hz, pa_a6_id rfl]
    have hbefL : r.Pairwise (pa_bef (pa_rk (pa_A (fun i => (a.2.1 i).1 6) (l1.foldl pa_go (pa_day a))))) := by
      have := pa_line_bef a
      rw [hL] at this
      have := (List.pairwise_append.mp this).2.1
      refine this.imp_of_mem (fun {x z} hx hz h => ?_)
      unfold pa_bef at h ⊢
      rw [hrkA x hx, hrkA z hz]
      exact h
    refine b162_56 (w0 := by rw [hwid]; unfold pe_in; omega) (k1 := fun r => by omega) (k2 := fun _ => ?_)
    refine b162_65 (k1 := fun r => absurd rfl r) (k2 := fun _ => ?_)
    refine b162_69 (k := ?_)
    refine k162_best (d := d + 12) hR hwA.1 hc0 hg (fun i hi => ?_) (fun z hz => by have := (hmem z).mp (hinL z hz); show 0 ≤ z ∧ z < (l1.foldl pa_go (pa_day a)).1 4; omega) hbefL (fun σ2 g2 v o6 o7 o8 f2 hv => ?_) _
    · have h1 := hcb i hi
      have h2 := hgb i hi
      rw [h1, h2, hL, List.mem_append]
      constructor
      · rintro ⟨h | h, h'⟩
        · exact absurd h h'
        · exact h
      · intro h
        exact ⟨Or.inr h, hnot1 _ h⟩
    · have hR2 := hR.fr hwA.1.w9 f2 (fun _ h => h.elim)
      have hL2 := hR2.L
      have f2z : ll_fr ll_Zs 8 48 σ1 g1 σ2 g2 := ll_fr_mono f2 (fun _ h => h.elim)
      rcases hv with ⟨hr, hv⟩ | ⟨x, l2, hr, hv⟩
      · subst hv hr
        refine b162_151 (k1 := fun _ => ?_) (k2 := fun r => by omega)
        refine b162_181 (k := ?_)
        refine ih [] l1 (kk + 1) σ2 g2 gone _ _ _ _ hL (by omega) (by omega) (Or.inr ⟨rfl, by omega⟩) hg hgb hR2 (fun r' l1' σ3 g3 gone' o4 o5 o6 o7 o8 q1 q2 q3 q4 q5 q6 q7 => k r' l1' σ3 g3 gone' o4 o5 o6 o7 o8 q1 q2 q3 q4 q5 (ll_fr_mono (ll_fr_trans f2z q6) (fun _ h => h)) q7)
      · subst hv hr
        have hxL := (hmem v).mp (hinL v List.mem_cons_self)
        have hlk : (l1.length : Int) = kk := by
          rcases hlk with h | ⟨h, -⟩
          · exact h
          · cases h
        have hK2 := hR2.K hxL.1.1 (show v < (l1.foldl pa_go (pa_day a)).1 4 by omega)
        have h1A : v < (pa_A (fun i => (a.2.1 i).1 6) (l1.foldl pa_go (pa_day a))).1 4 := by show v < (l1.foldl pa_go (pa_day a)).1 4; omega
        refine b162_151 (k1 := fun r => by omega) (k2 := fun _ => ?_)
        refine b162_156 (k := ?_)
        refine pe_M.up (k142 (d := 0) (v := 0) hxL.1.1 hR2.gg (hR2.co hxL.1.1 h1A) (hwA.1.2.2.1 v hxL.1.1 h1A).1 (by decide) (fun σ3 p3 C3 => ?_)) (by omega)
        have hR3 := hR2.one hwA.1.w9 hxL.1.1 h1A p3 C3
        have eA : pa_cw (pa_A (fun i => (a.2.1 i).1 6) (l1.foldl pa_go (pa_day a))) v (pa_take ((pa_A (fun i => (a.2.1 i).1 6) (l1.foldl pa_go (pa_day a))).2.1 v) 0) = pa_A (fun i => (a.2.1 i).1 6) (pa_cw (l1.foldl pa_go (pa_day a)) v (pa_take (pa_young ((l1.foldl pa_go (pa_day a)).2.1 v)) 0)) := by
          rw [pa_A_cw, pa_A_co, pa_take_a6, pa_young_a6, pa_take_a6, pa_a6_a6]
        rw [eA] at hR3
        have hL3 := hR3.L
        have hx2 : ((l1.foldl pa_go (pa_day a)).2.1 v).1 2 ≤ 2 := by rw [hsame v List.mem_cons_self]; exact hxL.2
        have hwr := pa_ready_wf w1 hxL.1.1 (by omega) hx2
        have hwr2 := pa_A_wf (e := fun i => (a.2.1 i).1 6) hwr (fun i i0 i1 => ageb i i0 (by rw [← hs4]; exact i1))
        have hg2 := pb_or_255 (c := v.toNat) hg.1 hg.2 (by omega)
        have hxn : ((v.toNat : Nat) : Int) = v := by omega
        rw [hxn] at hg2
        have hgb2 : ∀ i : Nat, i < 8 → (pb_h (pe_or gone (pe_shl 1 v)) i = true ↔ (i : Int) ∈ l1 ++ [v]) := fun i hi => by
          have h3 := pb_h_shl ⟨v.toNat, by omega⟩ ⟨i, hi⟩
          dsimp only at h3
          rw [hxn] at h3
          rw [pb_h_or, h3, List.mem_append, List.mem_singleton]
          have h2 := hgb i hi
          rw [Bool.or_eq_true, h2]
          simp
          constructor
          · rintro (h | h)
            · exact Or.inl h
            · exact Or.inr (by omega)
          · rintro (h | h)
            · exact Or.inl h
            · exact Or.inr (by omega)
        refine b162_174 (k := ?_)
        refine k157 (b := false) hR3 hwr2 hxL.1.1 h1A (by rw [pa_A_co, pa_a6_n 2 (by decide), pa_cw_same, pa_take2]) (fun σ4 g4 p4 hR4 => ?_)
        rw [pa_step_A] at hR4
        have hL4 := hR4.L
        refine b162_181 (k := ?_)
        have hlen1 : ((l1 ++ [v]).length : Int) = (l1.length : Int) + 1 := by simp
        have p3z : ll_fr ll_Zs 0 0 σ2 g2 σ3 g2 := ll_fr_mono p3 (fun z hz => ll_Zc_s hxL.1.1 hz)
        refine ih l2 (l1 ++ [v]) (kk + 1) σ4 g4 (pe_or gone (pe_shl 1 v)) _ _ _ _ (by rw [hL]; simp) (by omega) (by omega) (Or.inl (by omega)) hg2 hgb2 (by rw [List.foldl_append]; exact hR4) (fun r' l1' σ5 g5 gone' o4 o5 o6 o7 o8 q1 q2 q3 q4 q5 q6 q7 => k r' l1' σ5 g5 gone' o4 o5 o6 o7 o8 q1 q2 q3 q4 q5 (ll_fr_mono (ll_fr_trans (ll_fr_trans (ll_fr_trans f2z p3z) p4) q6) (fun _ h => h)) q7)
end
