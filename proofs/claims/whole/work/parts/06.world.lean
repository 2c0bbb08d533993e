/-! SOUND, 2: the pure heap in the machine's -/
def pe_ad (b n0 r : Nat) : Nat := if r = 1 then b else n0 + (r - 2)
theorem pe_ad_inj {b n0 r q : Nat} (hb : b < n0) (hr : 0 < r) (hq : 0 < q) (h : pe_ad b n0 r = pe_ad b n0 q) : r = q := by
  unfold pe_ad at h
  split at h <;> split at h <;> omega
/-- the script's class may be another than that of the arrays made here -/
def pe_ca (r k : Nat) : Nat := if r = 1 then 9 else k
theorem pe_ca2 {r k : Nat} (h : 2 ≤ r) : pe_ca r k = k := if_neg (by omega)
def pe_G (D : va_G) (cA : Nat → ClassId) (s : State) : Prop := (∀ c, c < 10 → u_Kn s (pe_cl c).1 (pe_cl c).2.1 (pe_cl c).2.2 (D.1 c) (D.2 c)) ∧ (∀ k, 10 ≤ k → k < 19 → ArrOfT s (cA k) (pe_aty k) ∧ va_RA s (cA k) (pe_aty k)) ∧ (∀ c, c < 7 → va_AO (pe_cl c).1 s) ∧ va_Nw (.castable "[I" "java/lang/Cloneable") s ∧ ArrOfT s (cA 9) .int
theorem pe_G.moved {D : va_G} {cA : Nat → ClassId} {u U : State} (hvm : u.vm.Alike U.vm) (h : pe_G D cA u) : pe_G D cA U := ⟨fun c hc => u_Kn_moved hvm (h.1 c hc), fun k h1 h2 => ⟨arrOfT_moved hvm (h.2.1 k h1 h2).1, (h.2.1 k h1 h2).2.moved hvm⟩, fun c hc => va_AO.moved hvm (h.2.2.1 c hc), va_tabs rfl (rfl : (u.setVm U.vm).vm = U.vm) (by rw [Cond.castable_setVm hvm]; exact h.2.2.2.1), arrOfT_moved hvm h.2.2.2.2⟩
def pe_ce (D : va_G) (cA : Nat → ClassId) (ad : Nat → Nat) (σ : pe_H) (H : Heap) (r : Nat) : Prop :=
  (pe_K σ r < 10 → t_OB (ad r) (D.1 (pe_K σ r)) (pe_cl (pe_K σ r)).2.2 (D.2 (pe_K σ r)) H (fun j => pe_vt ad (pe_fty (pe_K σ r) j) (pe_I σ r j) (pe_R σ r j))) ∧
  (10 ≤ pe_K σ r → ∃ cell : Cell, H[ad r]? = some cell ∧ cell.cls = cA (pe_ca r (pe_K σ r)) ∧ cell.vm ≠ .unknown ∧ (∀ q, cell.vm ≠ .statics q) ∧ (cell.slots.size : Int) = pe_L σ r ∧ ∀ j : Nat, j < cell.slots.size → cell.slots[j]? = some (pe_vt ad (pe_tc (pe_aty (pe_K σ r))) (pe_I σ r j) (pe_R σ r j)))
def pe_Hd (D : va_G) (cA : Nat → ClassId) (b n0 : Nat) (H0 : Heap) (σ : pe_H) (H : Heap) : Prop :=
  b < n0 ∧ 2 ≤ pe_n σ ∧ H.size = n0 + (pe_n σ - 2) ∧ (∀ q : Nat, q < n0 → H[q]? = H0[q]?) ∧ pe_K σ 1 = 10 ∧ (∀ r, pe_K σ r < 19 → 0 < r ∧ r < pe_n σ ∧ pe_ce D cA (pe_ad b n0) σ H r)
theorem pe_ce.congr {D : va_G} {cA : Nat → ClassId} {ad : Nat → Nat} {σ σ' : pe_H} {H H' : Heap} {r : Nat} (h : pe_ce D cA ad σ H r) (hk : pe_K σ' r = pe_K σ r) (hl : pe_L σ' r = pe_L σ r) (hi : ∀ j, pe_I σ' r j = pe_I σ r j) (hr : ∀ j, pe_R σ' r j = pe_R σ r j) (hH : H'[ad r]? = H[ad r]?) : pe_ce D cA ad σ' H' r := by
  refine ⟨fun hc => ?_, fun hc => ?_⟩
  · rw [hk] at hc ⊢
    have h1 := (h.1 hc).kept hH
    exact h1.to (fun j _ => by rw [hi, hr])
  · rw [hk] at hc ⊢
    obtain ⟨cell, h1, h2, h3, h4, h5, h6⟩ := h.2 hc
    exact ⟨cell, by rw [hH]; exact h1, h2, h3, h4, by rw [hl]; exact h5, fun j hj => by rw [hi, hr]; exact h6 j hj⟩
/-- one cell written -/
theorem pe_Hd.upd {D : va_G} {cA : Nat → ClassId} {b n0 : Nat} {H0 H H' : Heap} {σ σ' : pe_H} {r : Nat} (h : pe_Hd D cA b n0 H0 σ H) (hn : pe_n σ' = pe_n σ) (hK : pe_K σ' = pe_K σ) (hL : pe_L σ' = pe_L σ) (hI : ∀ q, q ≠ r → ∀ j, pe_I σ' q j = pe_I σ q j) (hR : ∀ q, q ≠ r → ∀ j, pe_R σ' q j = pe_R σ q j)
    (h2 : 2 ≤ r) (hz : H'.size = H.size) (ho : ∀ q, q ≠ pe_ad b n0 r → H'[q]? = H[q]?) (hc : pe_ce D cA (pe_ad b n0) σ' H' r) : pe_Hd D cA b n0 H0 σ' H' := by
  obtain ⟨g1, g2, g3, g4, g5, g6⟩ := h
  refine ⟨g1, by rw [hn]; exact g2, by rw [hz, hn]; exact g3, fun q hq => ?_, by rw [hK]; exact g5, fun q hq => ?_⟩
  · have : q ≠ pe_ad b n0 r := by unfold pe_ad; split <;> omega
    rw [ho q this]; exact g4 q hq
  · rw [hK] at hq
    obtain ⟨k1, k2, k3⟩ := g6 q hq
    refine ⟨k1, by rw [hn]; exact k2, ?_⟩
    by_cases hqr : q = r
    · rw [hqr]; exact hc
    · exact k3.congr (by rw [hK]) (by rw [hL]) (hI q hqr) (hR q hqr) (ho _ (fun e => hqr (pe_ad_inj g1 k1 (by omega) e)))
/-- one cell more -/
theorem pe_Hd.new {D : va_G} {cA : Nat → ClassId} {b n0 : Nat} {H0 H H' : Heap} {σ σ' : pe_H} (h : pe_Hd D cA b n0 H0 σ H) (hn : pe_n σ' = pe_n σ + 1) (hK : ∀ q, q ≠ pe_n σ → pe_K σ' q = pe_K σ q) (hL : ∀ q, q ≠ pe_n σ → pe_L σ' q = pe_L σ q) (hI : ∀ q, q ≠ pe_n σ → ∀ j, pe_I σ' q j = pe_I σ q j) (hR : ∀ q, q ≠ pe_n σ → ∀ j, pe_R σ' q j = pe_R σ q j)
    (hz : H'.size = H.size + 1) (ho : ∀ q, q < H.size → H'[q]? = H[q]?) (hc : pe_ce D cA (pe_ad b n0) σ' H' (pe_n σ)) : pe_Hd D cA b n0 H0 σ' H' := by
  obtain ⟨g1, g2, g3, g4, g5, g6⟩ := h
  refine ⟨g1, by omega, by omega, fun q hq => ?_, by rw [hK 1 (by omega)]; exact g5, fun q hq => ?_⟩
  · rw [ho q (by omega)]; exact g4 q hq
  · by_cases hqr : q = pe_n σ
    · subst hqr; exact ⟨by omega, by omega, hc⟩
    · rw [hK q hqr] at hq
      obtain ⟨k1, k2, k3⟩ := g6 q hq
      refine ⟨k1, by omega, k3.congr (hK q hqr) (hL q hqr) (hI q hqr) (hR q hqr) (ho _ ?_)⟩
      unfold pe_ad; split <;> omega
theorem pe_ad_n {D : va_G} {cA : Nat → ClassId} {b n0 : Nat} {H0 H : Heap} {σ : pe_H} (h : pe_Hd D cA b n0 H0 σ H) : pe_ad b n0 (pe_n σ) = H.size := by
  obtain ⟨g1, g2, g3, -⟩ := h
  unfold pe_ad; rw [if_neg (by omega)]; exact g3.symm
-- the tables' words that hold for every call
def pe_TB : List Cond := lw_tbl.filter goodWord
theorem pe_tb {pl : Nat} {w : Cond} (h : lw_tbl[pl]? = some w) (hg : goodWord w = true) : w ∈ pe_TB := List.mem_filter.mpr ⟨List.mem_of_getElem? h, hg⟩
theorem pe_u_in : ∀ c, c < 10 → (u_ws (pe_cl c).1 (pe_cl c).2.1 (pe_cl c).2.2).all (fun w => decide (w ∈ lw_tbl) && goodWord w) = true := by decide +kernel
theorem pe_u_tb {c : Nat} (hc : c < 10) : ∀ w ∈ u_ws (pe_cl c).1 (pe_cl c).2.1 (pe_cl c).2.2, w ∈ pe_TB := fun w hw => by
  have h := List.all_eq_true.mp (pe_u_in c hc) w hw
  simp only [Bool.and_eq_true, decide_eq_true_eq] at h
  exact List.mem_filter.mpr h
theorem pe_tyok : ∀ c, c < 10 → ∀ k, k < (pe_cl c).2.2 → parseFieldDescriptor ((pe_cl c).2.1 k).2.2.1 = some (pe_ty c k) := by decide +kernel
theorem pe_nmok : ∀ c, c < 10 → ∀ a, a < (pe_cl c).2.2 → ∀ b, b < (pe_cl c).2.2 → a ≠ b → ((pe_cl c).2.1 a).2.1 ≠ ((pe_cl c).2.1 b).2.1 := by decide +kernel
theorem pe_dcok : ∀ c, c < 10 → ∀ k, k < (pe_cl c).2.2 → ((pe_cl c).2.1 k).1 = pe_rn c ∧ (pe_cl c).1 = pe_rn c := by decide +kernel
theorem pe_fok : ∀ o i c j pl, pe_fd o i = some (c, j, pl) → c < 10 ∧ j < (pe_cl c).2.2 ∧ (Cond.fieldLink (pe_rn o) i ((pe_cl c).2.1 j).1 ((pe_cl c).2.1 j).2.1 ((pe_cl c).2.1 j).2.2.1) ∈ pe_TB := by
  intro o i c j pl h
  have hm := pe_go_mem _ _ _ h
  have key : ∀ o, ∀ q ∈ pe_fT o, lw_tbl[q.2.2.2]? = some (.fieldLink (pe_rn o) q.1 ((pe_cl q.2.1).2.1 q.2.2.1).1 ((pe_cl q.2.1).2.1 q.2.2.1).2.1 ((pe_cl q.2.1).2.1 q.2.2.1).2.2.1) ∧ q.2.1 < 10 ∧ q.2.2.1 < (pe_cl q.2.1).2.2 := by
    intro o
    match o with
    | 0 => exact pe_f0_ok
    | 1 => exact pe_f1_ok
    | 2 => exact pe_f2_ok
    | 3 => exact pe_f3_ok
    | 4 => exact pe_f4_ok
    | 5 => exact pe_f5_ok
    | 6 => exact pe_f6_ok
    | 7 => exact pe_f7_ok
    | 8 => exact pe_f8_ok
    | 9 => exact pe_f9_ok
    | 10 => exact pe_f10_ok
    | 11 => exact pe_f11_ok
    | 12 => exact pe_f12_ok
    | 13 => exact pe_f13_ok
    | n + 14 => exact pe_f13_ok
  obtain ⟨h1, h2, h3⟩ := key o _ hm
  exact ⟨h2, h3, pe_tb h1 rfl⟩
