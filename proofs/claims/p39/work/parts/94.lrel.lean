/-! THE LAW'S STATE IN THE HEAP. g tells whose a cell is: 16 c + i coroutine c's (0 itself, 1 its frames' array, 2 + k its frame k), -1 what never changes, -2 the law's object, -3 its coroutines' array, -4 its lines, -5 its letters and numbers, -6 what only begin and holds write, -7 the class's, -9 not made -/
def ll_g (σ : pe_H) (g : Nat → Int) : Prop := ∀ r, pe_n σ ≤ r → g r = -9
def ll_u (g : Nat → Int) (r : Nat) (z : Int) : Nat → Int := fun a => if a = r then z else g a
/-- of the cells that were there only those of Z have changed; at most x cells of y slots more -/
def ll_fr (Z : Int → Prop) (x y : Nat) (σ : pe_H) (g : Nat → Int) (σ' : pe_H) (g' : Nat → Int) : Prop := ((pe_n σ ≤ pe_n σ' ∧ pe_n σ' ≤ pe_n σ + x ∧ pe_u σ' ≤ pe_u σ + y ∧ (4 < pe_n σ → pe_K σ' 4 = pe_K σ 4)) ∧ ll_g σ' g') ∧ ∀ r, g r ≠ -9 → g' r = g r ∧ (pe_K σ' r = pe_K σ r ∧ pe_L σ' r = pe_L σ r) ∧ (¬ Z (g r) → ∀ j, pe_I σ' r j = pe_I σ r j ∧ pe_R σ' r j = pe_R σ r j)
section
variable {Z Z' : Int → Prop} {x y x' y' : Nat} {σ σ' σ'' : pe_H} {g g' g'' : Nat → Int} {r q : Nat} {z c : Int}
theorem ll_lt (h : ll_g σ g) (hr : g r ≠ -9) : r < pe_n σ := Nat.not_le.mp fun q => hr (h r q)
theorem ll_fr.gg (h : ll_fr Z x y σ g σ' g') : ll_g σ' g' := h.1.2
theorem ll_fr.K (h : ll_fr Z x y σ g σ' g') (hr : g r ≠ -9) : pe_K σ' r = pe_K σ r := (h.2 r hr).2.1.1
theorem ll_fr.L (h : ll_fr Z x y σ g σ' g') (hr : g r ≠ -9) : pe_L σ' r = pe_L σ r := (h.2 r hr).2.1.2
theorem ll_fr.G (h : ll_fr Z x y σ g σ' g') (hr : g r ≠ -9) : g' r = g r := (h.2 r hr).1
theorem ll_fr.I (h : ll_fr Z x y σ g σ' g') (hr : g r ≠ -9) (hz : ¬ Z (g r)) (j : Int) : pe_I σ' r j = pe_I σ r j := ((h.2 r hr).2.2 hz j).1
theorem ll_fr.R (h : ll_fr Z x y σ g σ' g') (hr : g r ≠ -9) (hz : ¬ Z (g r)) (j : Int) : pe_R σ' r j = pe_R σ r j := ((h.2 r hr).2.2 hz j).2
theorem ll_fr.same (h : ll_fr Z x y σ g σ' g') (hr : g r ≠ -9) (hz : ¬ Z (g r)) : pg_same σ σ' r := ⟨h.K hr, h.L hr, fun j => ⟨h.I hr hz j, h.R hr hz j⟩⟩
theorem ll_fr_refl (Z : Int → Prop) (h : ll_g σ g) : ll_fr Z 0 0 σ g σ g := ⟨⟨⟨Nat.le_refl _, Nat.le_refl _, Nat.le_refl _, fun _ => rfl⟩, h⟩, fun _ _ => ⟨rfl, ⟨rfl, rfl⟩, fun _ _ => ⟨rfl, rfl⟩⟩⟩
theorem ll_fr_trans (h : ll_fr Z x y σ g σ' g') (h' : ll_fr Z x' y' σ' g' σ'' g'') : ll_fr Z (x + x') (y + y') σ g σ'' g'' := by
  obtain ⟨⟨⟨a1, a2, a3, a6⟩, -⟩, a5⟩ := h
  obtain ⟨⟨⟨b1, b2, b3, b6⟩, b4⟩, b5⟩ := h'
  refine ⟨⟨⟨by omega, by omega, by omega, fun h4 => (b6 (by omega)).trans (a6 h4)⟩, b4⟩, fun r hr => ?_⟩
  obtain ⟨p1, ⟨p2, p3⟩, p4⟩ := a5 r hr
  obtain ⟨q1, ⟨q2, q3⟩, q4⟩ := b5 r (by rw [p1]; exact hr)
  refine ⟨q1.trans p1, ⟨q2.trans p2, q3.trans p3⟩, fun hz j => ?_⟩
  have u := p4 hz j
  have v := q4 (by rw [p1]; exact hz) j
  exact ⟨v.1.trans u.1, v.2.trans u.2⟩
theorem ll_fr_mono (h : ll_fr Z x y σ g σ' g') (hz : ∀ z, Z z → Z' z) (hx : x ≤ x' := by omega) (hy : y ≤ y' := by omega) : ll_fr Z' x' y' σ g σ' g' := by
  obtain ⟨⟨⟨a1, a2, a3, a6⟩, a4⟩, a5⟩ := h
  exact ⟨⟨⟨a1, by omega, by omega, a6⟩, a4⟩, fun r hr => ⟨(a5 r hr).1, (a5 r hr).2.1, fun q => (a5 r hr).2.2 (fun w => q (hz _ w))⟩⟩
theorem ll_fr_wI {j v : Int} (h : ll_g σ g) (hr : Z (g r)) : ll_fr Z 0 0 σ g (pe_wI σ r j v) g := ⟨⟨⟨Nat.le_refl _, Nat.le_refl _, Nat.le_refl _, fun _ => rfl⟩, h⟩, fun a _ => ⟨rfl, ⟨rfl, rfl⟩, fun hz k => ⟨pe_I_ner (fun e => hz (by rw [e]; exact hr)), rfl⟩⟩⟩
theorem ll_fr_wR {j : Int} {v : Nat} (h : ll_g σ g) (hr : Z (g r)) : ll_fr Z 0 0 σ g (pe_wR σ r j v) g := ⟨⟨⟨Nat.le_refl _, Nat.le_refl _, Nat.le_refl _, fun _ => rfl⟩, h⟩, fun a _ => ⟨rfl, ⟨rfl, rfl⟩, fun hz k => ⟨rfl, pe_R_ner (fun e => hz (by rw [e]; exact hr))⟩⟩⟩
theorem ll_u_n (h : ll_g σ g) {a : Nat} (ha : g a ≠ -9) : ll_u g (pe_n σ) z a = g a := if_neg (fun e => ha (h a (by omega)))
theorem ll_u_s {a : Nat} : ll_u g a z a = z := if_pos rfl
theorem ll_fr_new {k w : Nat} {len : Int} (h : ll_g σ g) : ll_fr Z 1 w σ g (pe_new σ k len w) (ll_u g (pe_n σ) z) := by
  refine ⟨⟨⟨Nat.le_succ _, Nat.le_refl _, Nat.le_refl _, fun h4 => if_neg (by have : σ.1 = pe_n σ := rfl; omega)⟩, fun a ha => ?_⟩, fun a ha => ⟨ll_u_n h ha, ?_⟩⟩
  · have ha : pe_n σ + 1 ≤ a := ha
    unfold ll_u
    rw [if_neg (by omega)]
    exact h a (by omega)
  · have hlt := ll_lt h ha
    have hne : a ≠ σ.1 := by have : σ.1 = pe_n σ := rfl; omega
    exact ⟨⟨if_neg hne, if_neg hne⟩, fun _ j => ⟨if_neg hne, if_neg hne⟩⟩
theorem ll_fr_cpy {s d : Nat} {sp dp n : Int} (h : ll_g σ g) (hr : Z (g d)) : ll_fr Z 0 0 σ g (pe_cpy σ s sp d dp n) g := ⟨⟨⟨Nat.le_refl _, Nat.le_refl _, Nat.le_refl _, fun _ => rfl⟩, h⟩, fun a _ => ⟨rfl, ⟨rfl, rfl⟩, fun hz k => ⟨if_neg (fun e => hz (by rw [e.1]; exact hr)), rfl⟩⟩⟩
/-- an array of ints that holds l -/
def ll_A (σ : pe_H) (g : Nat → Int) (r : Nat) (l : List Int) : Prop := (pe_K σ r = 10 ∧ g r = -1) ∧ pe_L σ r = l.length ∧ ∀ i : Nat, i < l.length → pe_I σ r i = l.getD i 0
/-- a fault and its causes, by their codes -/
def ll_fa (σ : pe_H) (g : Nat → Int) : List Int → Nat → Prop
  | [], r => r = 0
  | v :: l, r => (r ≠ 0 ∧ pe_K σ r = 9 ∧ g r = -1) ∧ pe_I σ r 0 = v ∧ ll_fa σ g l (pe_R σ r 1)
/-- what a frame holds -/
def ll_H (σ : pe_H) (g : Nat → Int) (r : Nat) (h : Option (List Int)) : Prop := match h with
  | none => pe_I σ r 6 = 0 ∧ pe_R σ r 7 = 0
  | some [] => pe_I σ r 6 = 1 ∧ pe_R σ r 7 = 0
  | some (v :: l) => (pe_I σ r 6 = 0 ∨ pe_I σ r 6 = 1) ∧ ll_fa σ g (v :: l) (pe_R σ r 7)
def ll_F (σ : pe_H) (g : Nat → Int) (k : Int) (r : Nat) (f : pa_F) : Prop := (pe_K σ r = 19 ∧ g r = k) ∧ (pe_I σ r 0 = f.1 1 ∧ pe_I σ r 3 = f.1 2 ∧ pe_I σ r 4 = f.1 3 ∧ pe_I σ r 5 = f.1 4) ∧ (ll_A σ g (pe_R σ r 1) (f.2.1.map Prod.fst) ∧ ll_A σ g (pe_R σ r 2) (f.2.1.map Prod.snd)) ∧ ll_H σ g r f.2.2
def ll_Fs (σ : pe_H) (g : Nat → Int) (c : Int) (fa : Nat) : List pa_F → Prop
  | [] => True
  | f :: fs => ll_F σ g (16 * c + 2 + fs.length) (pe_R σ fa fs.length) f ∧ ll_Fs σ g c fa fs
def ll_N (σ : pe_H) (o : Nat) (nu : Nat → Int) : Prop := (pe_I σ o 0 = nu 0 ∧ pe_I σ o 1 = nu 20 ∧ pe_I σ o 2 = nu 21 ∧ pe_I σ o 3 = nu 2 ∧ pe_I σ o 4 = nu 3 ∧ pe_I σ o 5 = nu 4 ∧ pe_I σ o 6 = nu 5 ∧ pe_I σ o 7 = nu 6) ∧ (3 ≤ nu 2 → nu 2 ≤ 5 → pe_I σ o 8 = nu 7)
/-- a coroutine of the law's -/
def ll_C (σ : pe_H) (g : Nat → Int) (c : Int) (o : Nat) (v : pa_C) : Prop := (pe_K σ o = 20 ∧ g o = 16 * c) ∧ ll_N σ o v.1 ∧ (pe_K σ (pe_R σ o 10) = 22 ∧ pe_L σ (pe_R σ o 10) = 6 ∧ g (pe_R σ o 10) = 16 * c + 1) ∧ pe_I σ o 11 = v.2.2.length ∧ (v.1 2 = 7 → ll_fa σ g v.2.1 (pe_R σ o 9)) ∧ ll_Fs σ g c (pe_R σ o 10) v.2.2
/-- a coroutine's own cells -/
def ll_Zc (c z : Int) : Prop := 16 * c ≤ z ∧ z < 16 * c + 16
theorem ll_A.fr {l : List Int} (hf : ll_fr Z x y σ g σ' g') (hz : ¬ Z (-1)) (h : ll_A σ g r l) : ll_A σ' g' r l := by
  obtain ⟨⟨a1, a2⟩, a3, a4⟩ := h
  have hr : g r ≠ -9 := by rw [a2]; decide
  have hn : ¬ Z (g r) := by rw [a2]; exact hz
  exact ⟨⟨by rw [hf.K hr]; exact a1, by rw [hf.G hr]; exact a2⟩, by rw [hf.L hr]; exact a3, fun i hi => by rw [hf.I hr hn]; exact a4 i hi⟩
theorem ll_fa.fr (hf : ll_fr Z x y σ g σ' g') (hz : ¬ Z (-1)) : ∀ (l : List Int) (r : Nat), ll_fa σ g l r → ll_fa σ' g' l r
  | [], _, h => h
  | v :: l, r, h => by
    obtain ⟨⟨a0, a1, a2⟩, a3, a4⟩ := h
    have hr : g r ≠ -9 := by rw [a2]; decide
    have hn : ¬ Z (g r) := by rw [a2]; exact hz
    exact ⟨⟨a0, by rw [hf.K hr]; exact a1, by rw [hf.G hr]; exact a2⟩, by rw [hf.I hr hn]; exact a3, by rw [hf.R hr hn]; exact ll_fa.fr hf hz l _ a4⟩
theorem ll_H.fr {h : Option (List Int)} (hf : ll_fr Z x y σ g σ' g') (hz : ¬ Z (-1)) (h6 : pe_I σ' r 6 = pe_I σ r 6) (h7 : pe_R σ' r 7 = pe_R σ r 7) (hh : ll_H σ g r h) : ll_H σ' g' r h := by
  unfold ll_H at hh ⊢
  rw [h6, h7]
  split at hh
  · exact hh
  · exact hh
  · exact ⟨hh.1, ll_fa.fr hf hz _ _ hh.2⟩
theorem ll_F.fr {k : Int} {f : pa_F} (hf : ll_fr Z x y σ g σ' g') (hz : ¬ Z (-1)) (hk : ¬ Z k) (h9 : k ≠ -9) (h : ll_F σ g k r f) : ll_F σ' g' k r f := by
  obtain ⟨⟨a1, a2⟩, ⟨b1, b2, b3, b4⟩, ⟨c1, c2⟩, d⟩ := h
  have hr : g r ≠ -9 := by rw [a2]; exact h9
  have hn : ¬ Z (g r) := by rw [a2]; exact hk
  exact ⟨⟨by rw [hf.K hr]; exact a1, by rw [hf.G hr]; exact a2⟩, ⟨by rw [hf.I hr hn]; exact b1, by rw [hf.I hr hn]; exact b2, by rw [hf.I hr hn]; exact b3, by rw [hf.I hr hn]; exact b4⟩, ⟨by rw [hf.R hr hn]; exact c1.fr hf hz, by rw [hf.R hr hn]; exact c2.fr hf hz⟩, d.fr hf hz (hf.I hr hn 6) (hf.R hr hn 7)⟩
theorem ll_Fs.fr {fa : Nat} (hf : ll_fr Z x y σ g σ' g') (hz : ¬ Z (-1)) : ∀ (fs : List pa_F), (∀ i : Nat, i < fs.length → ¬ Z (16 * c + 2 + i)) → (∀ i : Nat, i < fs.length → pe_R σ' fa i = pe_R σ fa i) → 0 ≤ c → ll_Fs σ g c fa fs → ll_Fs σ' g' c fa fs
  | [], _, _, _, _ => trivial
  | f :: fs, hk, hR, hc, h => by
    rw [List.length_cons] at hk hR
    exact ⟨by rw [hR _ (by omega)]; exact h.1.fr hf hz (hk _ (by omega)) (by omega), ll_Fs.fr hf hz fs (fun i hi => hk i (by omega)) (fun i hi => hR i (by omega)) hc h.2⟩
/-- a coroutine that nobody touches -/
theorem ll_C.fr {o : Nat} {v : pa_C} (hf : ll_fr Z x y σ g σ' g') (hz : ¬ Z (-1)) (hc : 0 ≤ c) (hk : ∀ z, ll_Zc c z → ¬ Z z) (hl : v.2.2.length ≤ 6) (h : ll_C σ g c o v) : ll_C σ' g' c o v := by
  obtain ⟨⟨a1, a2⟩, ⟨⟨b0, b1, b2, b3, b4, b5, b6, b7⟩, b8⟩, ⟨c1, c2, c3⟩, d, e, f⟩ := h
  have hr : g o ≠ -9 := by rw [a2]; omega
  have hn : ¬ Z (g o) := by rw [a2]; exact hk _ ⟨by omega, by omega⟩
  have hr1 : g (pe_R σ o 10) ≠ -9 := by rw [c3]; omega
  have hn1 : ¬ Z (g (pe_R σ o 10)) := by rw [c3]; exact hk _ ⟨by omega, by omega⟩
  have I := hf.I hr hn
  refine ⟨⟨by rw [hf.K hr]; exact a1, by rw [hf.G hr]; exact a2⟩, ⟨⟨by rw [I]; exact b0, by rw [I]; exact b1, by rw [I]; exact b2, by rw [I]; exact b3, by rw [I]; exact b4, by rw [I]; exact b5, by rw [I]; exact b6, by rw [I]; exact b7⟩, fun q1 q2 => by rw [I]; exact b8 q1 q2⟩, ?_, by rw [I]; exact d, fun q => ?_, ?_⟩
  · rw [hf.R hr hn]
    exact ⟨by rw [hf.K hr1]; exact c1, by rw [hf.L hr1]; exact c2, by rw [hf.G hr1]; exact c3⟩
  · rw [hf.R hr hn]
    exact ll_fa.fr hf hz _ _ (e q)
  · rw [hf.R hr hn]
    exact ll_Fs.fr hf hz _ (fun i hi => hk _ ⟨by omega, by omega⟩) (fun i _ => hf.R hr1 hn1 _) hc f
end
