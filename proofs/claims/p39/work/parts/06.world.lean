/-! SOUND, 2: the pure heap in the machine's -/
/-- numbers: 1 the script, 2 the law's static array, from 3 on what is made -/
def pe_ad (b : Nat × Nat) (n0 r : Nat) : Nat := if r = 1 then b.1 else if r = 2 then b.2 else n0 + (r - 3)
theorem pe_ad_inj {b : Nat × Nat} {n0 r q : Nat} (hb : b.1 < n0 ∧ b.2 < n0 ∧ True) (hr : 3 ≤ r) (hq : 0 < q) (h : pe_ad b n0 r = pe_ad b n0 q) : r = q := by
  unfold pe_ad at h
  obtain ⟨h1, h2, -⟩ := hb
  rw [if_neg (by omega), if_neg (by omega)] at h
  split at h
  · omega
  · split at h <;> omega
/-- the script's class may be another than that of the arrays made here -/
def pe_ca (r k : Nat) : Nat := if r = 1 then 9 else k
theorem pe_ca2 {r k : Nat} (h : 2 ≤ r) : pe_ca r k = k := if_neg (by omega)
/-- an array of arrays of ints can be made, the law's static array is where it is -/
def pe_G2 (cA : Nat → ClassId) (b : Nat × Nat) (n0 : Nat) (H0 : Heap) (s : State) : Prop := (ArrOfT s (cA 25) .int ∧ (∀ c, c = 19 ∨ c = 20 → va_AO (pe_cl c).1 s)) ∧ (∃ k : Class, s.vm.classes[cA 24]? = some k ∧ k.kind = .array (cA 10) (.array .int)) ∧ (Cond.arrayOver (.array .int)).before #[] s = true ∧ va_Z RL "SIGNS" "[I" (.ref b.2) (fun q => n0 ≤ q) s H0
def pe_G (D : va_G) (cA : Nat → ClassId) (b : Nat × Nat) (n0 : Nat) (H0 : Heap) (s : State) : Prop := (∀ c, pe_kc c = true → u_Kn s (pe_cl c).1 (pe_cl c).2.1 (pe_cl c).2.2 (D.1 c) (D.2 c)) ∧ (∀ k, pe_ka k = true → k ≠ 25 → ArrOfT s (cA k) (pe_aty k) ∧ va_RA s (cA k) (pe_aty k)) ∧ (∀ c, c < 7 → va_AO (pe_cl c).1 s) ∧ va_Nw (.castable "[I" "java/lang/Cloneable") s ∧ ArrOfT s (cA 9) .int ∧ pe_G2 cA b n0 H0 s
theorem pe_AOA.moved {t : FieldType} {u U : State} (hvm : u.vm.Alike U.vm) (h : (Cond.arrayOver (.array t)).before #[] u = true) : (Cond.arrayOver (.array t)).before #[] U = true := by
  obtain ⟨comp, c, k, h1, h2, h3, h4, h5⟩ := arrayOverA_spec h
  obtain ⟨k', hk', he⟩ := hvm.2.2 _ _ h3
  have hb : U.vm.bare = u.vm.bare := by first | exact hvm.bare_eq | exact hvm.bare_eq.symm
  have e1 := va_idx_bare U.vm comp
  have e2 := va_idx_bare u.vm comp
  rw [hb] at e1
  have hi := e1.symm.trans (e2.trans h2)
  have hn : U.vm.findClass ("[" ++ (FieldType.array t).toString) = some c := by rw [hvm.findClass]; exact h5
  have hc : U.vm.findClass (FieldType.array t).toString = some comp := by rw [hvm.findClass]; exact h1
  simp only [Cond.before, Cond.holds, Cond.value, hc, Option.bind_some, beq_iff_eq]
  rw [Option.bind_eq_some_iff]
  refine ⟨c, hi, ?_⟩
  rw [Option.map_eq_some_iff]
  exact ⟨k', hk', by rw [he]; simp [h4, hn]⟩
theorem pe_G2.moved {cA : Nat → ClassId} {b : Nat × Nat} {n0 : Nat} {H0 : Heap} {u U : State} (hvm : u.vm.Alike U.vm) (h : pe_G2 cA b n0 H0 u) : pe_G2 cA b n0 H0 U := by
  obtain ⟨⟨h1, h2⟩, ⟨k, h3, h4⟩, h5, h6⟩ := h
  obtain ⟨k', hk', he⟩ := hvm.2.2 _ _ h3
  exact ⟨⟨arrOfT_moved hvm h1, fun c hc => va_AO.moved hvm (h2 c hc)⟩, ⟨k', hk', by rw [he]; exact h4⟩, pe_AOA.moved hvm h5, va_Z.moved hvm h6⟩
theorem pe_G.moved {D : va_G} {cA : Nat → ClassId} {b : Nat × Nat} {n0 : Nat} {H0 : Heap} {u U : State} (hvm : u.vm.Alike U.vm) (h : pe_G D cA b n0 H0 u) : pe_G D cA b n0 H0 U := ⟨fun c hc => u_Kn_moved hvm (h.1 c hc), fun k h1 h2 => ⟨arrOfT_moved hvm (h.2.1 k h1 h2).1, (h.2.1 k h1 h2).2.moved hvm⟩, fun c hc => va_AO.moved hvm (h.2.2.1 c hc), va_tabs rfl (rfl : (u.setVm U.vm).vm = U.vm) (by rw [Cond.castable_setVm hvm]; exact h.2.2.2.1), arrOfT_moved hvm h.2.2.2.2.1, h.2.2.2.2.2.moved hvm⟩
def pe_ce (D : va_G) (cA : Nat → ClassId) (ad : Nat → Nat) (σ : pe_H) (H : Heap) (r : Nat) : Prop :=
  (pe_kc (pe_K σ r) = true → t_OB (ad r) (D.1 (pe_K σ r)) (pe_cl (pe_K σ r)).2.2 (D.2 (pe_K σ r)) H (fun j => pe_vt ad (pe_fty (pe_K σ r) j) (pe_I σ r j) (pe_R σ r j))) ∧
  (pe_ka (pe_K σ r) = true → ∃ cell : Cell, H[ad r]? = some cell ∧ cell.cls = cA (pe_ca r (pe_K σ r)) ∧ cell.vm ≠ .unknown ∧ (∀ q, cell.vm ≠ .statics q) ∧ (cell.slots.size : Int) = pe_L σ r ∧ ∀ j : Nat, j < cell.slots.size → cell.slots[j]? = some (pe_vt ad (pe_tc (pe_aty (pe_K σ r))) (pe_I σ r j) (pe_R σ r j)))
def pe_Hd (D : va_G) (cA : Nat → ClassId) (b : Nat × Nat) (n0 : Nat) (H0 : Heap) (σ : pe_H) (H : Heap) : Prop :=
  ((b.1 < n0 ∧ b.2 < n0 ∧ True) ∧ pe_K σ 2 = 25) ∧ 3 ≤ pe_n σ ∧ H.size = n0 + (pe_n σ - 3) ∧ (∀ q : Nat, q < n0 → H[q]? = H0[q]?) ∧ pe_K σ 1 = 10 ∧ (∀ r, pe_K σ r < 26 → 0 < r ∧ r < pe_n σ ∧ pe_ce D cA (pe_ad b n0) σ H r)
theorem pe_ce.congr {D : va_G} {cA : Nat → ClassId} {ad : Nat → Nat} {σ σ' : pe_H} {H H' : Heap} {r : Nat} (h : pe_ce D cA ad σ H r) (hk : pe_K σ' r = pe_K σ r) (hl : pe_L σ' r = pe_L σ r) (hi : ∀ j, pe_I σ' r j = pe_I σ r j) (hr : ∀ j, pe_R σ' r j = pe_R σ r j) (hH : H'[ad r]? = H[ad r]?) : pe_ce D cA ad σ' H' r := by
  refine ⟨fun hc => ?_, fun hc => ?_⟩
  · rw [hk] at hc ⊢
    have h1 := (h.1 hc).kept hH
    exact h1.to (fun j _ => by rw [hi, hr])
  · rw [hk] at hc ⊢
    obtain ⟨cell, h1, h2, h3, h4, h5, h6⟩ := h.2 hc
    exact ⟨cell, by rw [hH]; exact h1, h2, h3, h4, by rw [hl]; exact h5, fun j hj => by rw [hi, hr]; exact h6 j hj⟩
/-- one cell written -/
theorem pe_Hd.upd {D : va_G} {cA : Nat → ClassId} {b : Nat × Nat} {n0 : Nat} {H0 H H' : Heap} {σ σ' : pe_H} {r : Nat} (h : pe_Hd D cA b n0 H0 σ H) (hn : pe_n σ' = pe_n σ) (hK : pe_K σ' = pe_K σ) (hL : pe_L σ' = pe_L σ) (hI : ∀ q, q ≠ r → ∀ j, pe_I σ' q j = pe_I σ q j) (hR : ∀ q, q ≠ r → ∀ j, pe_R σ' q j = pe_R σ q j)
    (h2 : 3 ≤ r) (hz : H'.size = H.size) (ho : ∀ q, q ≠ pe_ad b n0 r → H'[q]? = H[q]?) (hc : pe_ce D cA (pe_ad b n0) σ' H' r) : pe_Hd D cA b n0 H0 σ' H' := by
  obtain ⟨g1, g2, g3, g4, g5, g6⟩ := h
  refine ⟨⟨g1.1, by rw [hK]; exact g1.2⟩, by rw [hn]; exact g2, by rw [hz, hn]; exact g3, fun q hq => ?_, by rw [hK]; exact g5, fun q hq => ?_⟩
  · have : q ≠ pe_ad b n0 r := by unfold pe_ad; rw [if_neg (by omega), if_neg (by omega)]; omega
    rw [ho q this]; exact g4 q hq
  · rw [hK] at hq
    obtain ⟨k1, k2, k3⟩ := g6 q hq
    refine ⟨k1, by rw [hn]; exact k2, ?_⟩
    by_cases hqr : q = r
    · rw [hqr]; exact hc
    · exact k3.congr (by rw [hK]) (by rw [hL]) (hI q hqr) (hR q hqr) (ho _ (fun e => hqr (pe_ad_inj g1.1 h2 k1 e.symm).symm))
/-- one cell more -/
theorem pe_Hd.new {D : va_G} {cA : Nat → ClassId} {b : Nat × Nat} {n0 : Nat} {H0 H H' : Heap} {σ σ' : pe_H} (h : pe_Hd D cA b n0 H0 σ H) (hn : pe_n σ' = pe_n σ + 1) (hK : ∀ q, q ≠ pe_n σ → pe_K σ' q = pe_K σ q) (hL : ∀ q, q ≠ pe_n σ → pe_L σ' q = pe_L σ q) (hI : ∀ q, q ≠ pe_n σ → ∀ j, pe_I σ' q j = pe_I σ q j) (hR : ∀ q, q ≠ pe_n σ → ∀ j, pe_R σ' q j = pe_R σ q j)
    (hz : H'.size = H.size + 1) (ho : ∀ q, q < H.size → H'[q]? = H[q]?) (hc : pe_ce D cA (pe_ad b n0) σ' H' (pe_n σ)) : pe_Hd D cA b n0 H0 σ' H' := by
  obtain ⟨g1, g2, g3, g4, g5, g6⟩ := h
  refine ⟨⟨g1.1, by rw [hK 2 (by omega)]; exact g1.2⟩, by omega, by omega, fun q hq => ?_, by rw [hK 1 (by omega)]; exact g5, fun q hq => ?_⟩
  · rw [ho q (by omega)]; exact g4 q hq
  · by_cases hqr : q = pe_n σ
    · subst hqr; exact ⟨by omega, by omega, hc⟩
    · rw [hK q hqr] at hq
      obtain ⟨k1, k2, k3⟩ := g6 q hq
      refine ⟨k1, by omega, k3.congr (hK q hqr) (hL q hqr) (hI q hqr) (hR q hqr) (ho _ ?_)⟩
      obtain ⟨⟨g11, g12, -⟩, -⟩ := g1
      unfold pe_ad
      split
      · omega
      · split <;> omega
theorem pe_ad_n {D : va_G} {cA : Nat → ClassId} {b : Nat × Nat} {n0 : Nat} {H0 H : Heap} {σ : pe_H} (h : pe_Hd D cA b n0 H0 σ H) : pe_ad b n0 (pe_n σ) = H.size := by
  obtain ⟨g1, g2, g3, -⟩ := h
  unfold pe_ad; rw [if_neg (by omega), if_neg (by omega)]; exact g3.symm
-- the tables' words that hold for every call
def pe_TB : List Cond := lw_tbl.filter goodWord
theorem pe_tb {pl : Nat} {w : Cond} (h : lw_tbl[pl]? = some w) (hg : goodWord w = true) : w ∈ pe_TB := List.mem_filter.mpr ⟨List.mem_of_getElem? h, hg⟩
theorem pe_u_in10 : ∀ c, c < 10 → (u_ws (pe_cl c).1 (pe_cl c).2.1 (pe_cl c).2.2).all (fun w => decide (w ∈ lw_tbl) && goodWord w) = true := by decide +kernel
theorem pe_u_inL : (u_ws (pe_cl 19).1 (pe_cl 19).2.1 (pe_cl 19).2.2).all (fun w => decide (w ∈ lw_tbl) && goodWord w) = true ∧ (u_ws (pe_cl 20).1 (pe_cl 20).2.1 (pe_cl 20).2.2).all (fun w => decide (w ∈ lw_tbl) && goodWord w) = true ∧ (u_ws (pe_cl 21).1 (pe_cl 21).2.1 (pe_cl 21).2.2).all (fun w => decide (w ∈ lw_tbl) && goodWord w) = true := by decide +kernel
theorem pe_kcs {c : Nat} (h : pe_kc c = true) : c < 10 ∨ c = 19 ∨ c = 20 ∨ c = 21 := by
  unfold pe_kc at h
  simp only [Bool.or_eq_true, Bool.and_eq_true, Nat.blt_eq, Nat.ble_eq] at h
  omega
/-- what holds of all kinds of objects -/
theorem pe_kall {P : Nat → Prop} (h : ∀ c, c < 10 → P c) (h1 : P 19) (h2 : P 20) (h3 : P 21) : ∀ c, pe_kc c = true → P c := fun c hc => by
  rcases pe_kcs hc with q | q | q | q
  · exact h c q
  · rw [q]; exact h1
  · rw [q]; exact h2
  · rw [q]; exact h3
theorem pe_u_in : ∀ c, pe_kc c = true → (u_ws (pe_cl c).1 (pe_cl c).2.1 (pe_cl c).2.2).all (fun w => decide (w ∈ lw_tbl) && goodWord w) = true := pe_kall pe_u_in10 pe_u_inL.1 pe_u_inL.2.1 pe_u_inL.2.2
theorem pe_u_tb {c : Nat} (hc : pe_kc c = true) : ∀ w ∈ u_ws (pe_cl c).1 (pe_cl c).2.1 (pe_cl c).2.2, w ∈ pe_TB := fun w hw => by
  have h := List.all_eq_true.mp (pe_u_in c hc) w hw
  simp only [Bool.and_eq_true, decide_eq_true_eq] at h
  exact List.mem_filter.mpr h
theorem pe_tyok : ∀ c, pe_kc c = true → ∀ k, k < (pe_cl c).2.2 → parseFieldDescriptor ((pe_cl c).2.1 k).2.2.1 = some (pe_ty c k) := pe_kall (by decide +kernel) (by decide +kernel) (by decide +kernel) (by decide +kernel)
theorem pe_nmok : ∀ c, pe_kc c = true → ∀ a, a < (pe_cl c).2.2 → ∀ b, b < (pe_cl c).2.2 → a ≠ b → ((pe_cl c).2.1 a).2.1 ≠ ((pe_cl c).2.1 b).2.1 := pe_kall (by decide +kernel) (by decide +kernel) (by decide +kernel) (by decide +kernel)
theorem pe_dcok : ∀ c, pe_kc c = true → ∀ k, k < (pe_cl c).2.2 → ((pe_cl c).2.1 k).1 = pe_rn c ∧ (pe_cl c).1 = pe_rn c := pe_kall (by decide +kernel) (by decide +kernel) (by decide +kernel) (by decide +kernel)
theorem pe_fok : ∀ o i c j pl, pe_go (pe_fT o) i = some (c, j, pl) → pe_kc c = true ∧ j < (pe_cl c).2.2 ∧ lw_tbl[pl]? = some (.fieldLink (pe_rn o) i ((pe_cl c).2.1 j).1 ((pe_cl c).2.1 j).2.1 ((pe_cl c).2.1 j).2.2.1) := by
  intro o i c j pl h
  have hm := pe_go_mem _ _ _ h
  have key : ∀ o, ∀ q ∈ pe_fT o, lw_tbl[q.2.2.2]? = some (.fieldLink (pe_rn o) q.1 ((pe_cl q.2.1).2.1 q.2.2.1).1 ((pe_cl q.2.1).2.1 q.2.2.1).2.1 ((pe_cl q.2.1).2.1 q.2.2.1).2.2.1) ∧ pe_kc q.2.1 = true ∧ q.2.2.1 < (pe_cl q.2.1).2.2 := by
    intro o
    match o with
    | 0 => exact pe_f0_ok
    | 1 => exact pe_f1_ok
    | 2 => exact pe_f2_ok
    | 3 => exact pe_f3_ok
    | 4 => exact pe_f4_ok
    | 5 => exact pe_f5_ok
    | 6 => exact pe_f6_ok
    | 7 => exact pe_f7_ok
    | 8 => exact pe_f8_ok
    | 9 => exact pe_f9_ok
    | 10 => exact pe_f21_ok
    | 11 => exact pe_f11_ok
    | 12 => exact pe_f12_ok
    | 13 => exact pe_f13_ok
    | 14 => exact pe_f21_ok
    | 15 => exact pe_f21_ok
    | 16 => exact pe_f21_ok
    | 17 => exact pe_f21_ok
    | 18 => exact pe_f21_ok
    | 19 => exact pe_f19_ok
    | 20 => exact pe_f20_ok
    | 21 => exact pe_f21_ok
    | n + 22 => exact pe_f21_ok
  obtain ⟨h1, h2, h3⟩ := key o _ hm
  exact ⟨h2, h3, h1⟩
theorem pe_gok : ∀ o i c j pl, pe_go (pe_gT o) i = some (c, j, pl) → pe_kc c = true ∧ j < (pe_cl c).2.2 ∧ lw_tbl[pl]? = some (.fieldLinkNest (pe_rn o) i ((pe_cl c).2.1 j).1 ((pe_cl c).2.1 j).2.1 ((pe_cl c).2.1 j).2.2.1 (pe_ho o)) := by
  intro o i c j pl h
  have hm := pe_go_mem _ _ _ h
  have key : ∀ o, ∀ q ∈ pe_gT o, lw_tbl[q.2.2.2]? = some (.fieldLinkNest (pe_rn o) q.1 ((pe_cl q.2.1).2.1 q.2.2.1).1 ((pe_cl q.2.1).2.1 q.2.2.1).2.1 ((pe_cl q.2.1).2.1 q.2.2.1).2.2.1 (pe_ho o)) ∧ pe_kc q.2.1 = true ∧ q.2.2.1 < (pe_cl q.2.1).2.2 := by
    intro o
    match o with
    | 0 => exact pe_g0_ok
    | 1 => exact pe_g1_ok
    | 2 => exact pe_g2_ok
    | 3 => exact pe_g3_ok
    | 4 => exact pe_g4_ok
    | 5 => exact pe_g5_ok
    | 6 => exact pe_g6_ok
    | 7 => exact pe_g7_ok
    | 8 => exact pe_g8_ok
    | 9 => exact pe_g9_ok
    | 10 => exact pe_g21_ok
    | 11 => exact pe_g11_ok
    | 12 => exact pe_g12_ok
    | 13 => exact pe_g13_ok
    | 14 => exact pe_g21_ok
    | 15 => exact pe_g21_ok
    | 16 => exact pe_g21_ok
    | 17 => exact pe_g21_ok
    | 18 => exact pe_g21_ok
    | 19 => exact pe_g19_ok
    | 20 => exact pe_g20_ok
    | 21 => exact pe_g21_ok
    | n + 22 => exact pe_g21_ok
  obtain ⟨h1, h2, h3⟩ := key o _ hm
  exact ⟨h2, h3, h1⟩
/-- the words of links in a nest: of methods, of fields -/
def pe_N (s : State) : Prop := (∀ o i m pl, pe_go (pe_jT o) i = some (m, pl) → va_Nw (.methodLinkNest (pe_rn o) i (pe_me m).1 (pe_ho o)) s) ∧ ∀ o i c j pl, pe_go (pe_gT o) i = some (c, j, pl) → va_Nw (.fieldLinkNest (pe_rn o) i ((pe_cl c).2.1 j).1 ((pe_cl c).2.1 j).2.1 ((pe_cl c).2.1 j).2.2.1 (pe_ho o)) s
theorem pe_N.warm {s U : State} (hW : s.WarmedH U.vm) (h : pe_N s) : pe_N U := ⟨fun o i m pl hg => (h.1 o i m pl hg).warmM hW, fun o i c j pl hg => (h.2 o i c j pl hg).warmF hW⟩
theorem pe_N.same {s U : State} (hv : s.vm = U.vm) (h : pe_N s) : pe_N U := ⟨fun o i m pl hg => (h.1 o i m pl hg).same rfl hv, fun o i c j pl hg => (h.2 o i c j pl hg).same rfl hv⟩
/-- a field's link: of the class itself, or of its nest -/
theorem pe_fdk {args : Array Value} {s : State} {o i c j pl : Nat} (hts : ∀ w ∈ pe_TB, w.before args s = true) (hN : pe_N s) (h : pe_fd o i = some (c, j, pl)) : pe_kc c = true ∧ j < (pe_cl c).2.2 ∧ ((Cond.fieldLink (pe_rn o) i ((pe_cl c).2.1 j).1 ((pe_cl c).2.1 j).2.1 ((pe_cl c).2.1 j).2.2.1).before args s = true ∨ va_Nw (.fieldLinkNest (pe_rn o) i ((pe_cl c).2.1 j).1 ((pe_cl c).2.1 j).2.1 ((pe_cl c).2.1 j).2.2.1 (pe_ho o)) s) := by
  unfold pe_fd at h
  split at h
  · rename_i x hx
    cases h
    obtain ⟨h1, h2, h3⟩ := pe_fok _ _ _ _ _ hx
    exact ⟨h1, h2, Or.inl (hts _ (pe_tb h3 rfl))⟩
  · obtain ⟨h1, h2, h3⟩ := pe_gok _ _ _ _ _ h
    exact ⟨h1, h2, Or.inr (hN.2 _ _ _ _ _ h)⟩
