/-! SOUND, 9: answers, and all that runs in the pure machine runs -/
theorem pe_e_cat2 (ad : Nat → Nat) (v : pe_V) : (pe_e ad v).category = 2 ↔ ∃ x : Int, v = .inr (.inl x) := by
  constructor
  · intro h
    rcases v with x | (x | r)
    · cases h
    · exact ⟨x, rfl⟩
    · have := pe_cat_e (ad := ad) (v := .inr (.inr r)) (fun y q => by simp at q)
      omega
  · rintro ⟨x, rfl⟩; rfl
theorem pe_lc_cons (v : pe_V) (l : List pe_V) (h : ∀ x : Int, v ≠ .inr (.inl x)) : pe_lc (v :: l) = some v :: pe_lc l := by
  rcases v with x | (x | r)
  · rfl
  · exact absurd rfl (h x)
  · rfl
theorem pe_sl_len (ad : Nat → Nat) : ∀ as : List pe_V, (lg_sl (as.map (pe_e ad))).length = (pe_lc as).length
  | [] => rfl
  | v :: l => by
    have ih := pe_sl_len ad l
    unfold lg_sl at ih ⊢
    rw [List.map_cons, List.flatMap_cons, List.length_append, ih]
    by_cases hv : ∃ x : Int, v = .inr (.inl x)
    · rw [if_pos ((pe_e_cat2 ad v).mpr hv)]
      obtain ⟨x, rfl⟩ := hv
      simp only [pe_lc, List.length_cons, List.length_nil]; omega
    · rw [if_neg (fun q => hv ((pe_e_cat2 ad v).mp q)), pe_lc_cons v l (fun x q => hv ⟨x, q⟩)]
      simp only [List.length_cons, List.length_nil]; omega
theorem pe_ld_rep (n i : Nat) : pe_ld (List.replicate n none) i = none := by
  induction n generalizing i with
  | zero => rfl
  | succ n ih =>
    rw [List.replicate_succ]
    cases i with
    | zero => rfl
    | succ i => exact ih i
theorem pe_ld_args (ad : Nat → Nat) (n : Nat) : ∀ (as : List pe_V) (k i : Nat) (v : pe_V), pe_ld (pe_lc as ++ List.replicate n none) i = some v → (k + i, pe_e ad v) ∈ lv_args k (as.map (pe_e ad))
  | [], k, i, v, h => by
    rw [show pe_lc [] ++ List.replicate n none = List.replicate n none from rfl, pe_ld_rep] at h
    cases h
  | w :: l, k, i, v, h => by
    rw [List.map_cons]
    unfold lv_args
    by_cases hv : ∃ x : Int, w = .inr (.inl x)
    · rw [if_pos ((pe_e_cat2 ad w).mpr hv)]
      obtain ⟨x, rfl⟩ := hv
      match i, h with
      | 0, h =>
        cases h
        exact List.mem_cons_self
      | 1, h => cases h
      | i + 2, h =>
        have h2 := pe_ld_args ad n l (k + 2) i v h
        rw [show k + (i + 2) = k + 2 + i by omega]
        exact List.mem_cons_of_mem _ h2
    · rw [if_neg (fun q => hv ((pe_e_cat2 ad w).mp q))]
      rw [pe_lc_cons w l (fun x q => hv ⟨x, q⟩)] at h
      match i, h with
      | 0, h =>
        cases h
        exact List.mem_cons_self
      | i + 1, h =>
        have h2 := pe_ld_args ad n l (k + 1) i v h
        rw [show k + (i + 1) = k + 1 + i by omega]
        exact List.mem_cons_of_mem _ h2
theorem pe_entry (ad : Nat → Nat) (as : List pe_V) (n : Nat) (h : (pe_lc as).length ≤ n) : pe_lv ad ((lg_sl (as.map (pe_e ad)) ++ List.replicate (n - (lg_sl (as.map (pe_e ad))).length) Slot.unset).toArray) (pe_lo as n) := by
  have hl := lv_entry (as.map (pe_e ad)) (n := n) (by rw [pe_sl_len]; exact h)
  refine ⟨by rw [hl.1]; unfold pe_lo; simp; omega, hl.2.1, fun i v hv => ?_⟩
  have := pe_ld_args ad _ as 0 i v hv
  rw [Nat.zero_add] at this
  exact hl.2.2 _ this
theorem pe_lo_len (as : List pe_V) (n : Nat) (h : (pe_lc as).length ≤ n) : (pe_lo as n).length = n := by unfold pe_lo; simp; omega
section PEW7
variable {p : Program} {l : Launch} {e : Env} {R : Room} {s : State} {m : MethodId} {args : Array Value} {below : List Frame} {meth : Method} {c : Code} {Q : State → Prop} {cc : ByteArray}
variable {D : va_G} {cA : Nat → ClassId} {b : Nat × Nat} {n0 : Nat} {H0 : Heap} {nS uS nF uF nL : Nat}
theorem pe_r_ret {S : pe_S} {φ : List Prop} {r : Option pe_V} {rt : Option FieldType} {i : Instr} {len : Nat} (hx : p.tables.exec = Jvm.exec) (hb : c.code = cc) (hr : meth.sig.returnType = rt) (hlocks : meth.locks = false) (hs : pe_ret rt i S = some (φ, r)) (hφ : pe_all φ) (hd0 : decode cc S.1 = .ok (i, len)) (hlen : pe_ln i = len ∨ pe_ln i = 0) :
    pe_PW p l e R s m args below meth c (MQ below (pe_Qc D cA b n0 H0 r S.2.2.2) args s (pe_n S.2.2.2 - nS) (pe_u S.2.2.2 - uS) (fun q => n0 ≤ q)) D cA b n0 H0 nS uS (pe_n S.2.2.2) (pe_u S.2.2.2) nL S := by
  have len_of : ∀ k, pe_ln i = k + 1 → decode cc S.1 = .ok (i, k + 1) := fun k hk => by
    rcases hlen with q | q
    · rw [← hk, q]; exact hd0
    · rw [hk] at q; exact absurd q (by omega)
  obtain ⟨pc, ls, st, σ⟩ := S
  refine ⟨Nat.le_refl _, Nat.le_refl _, fun h1 h2 h3 H Ls locs hH hL hlocs => ?_⟩
  dsimp only at len_of
  unfold pe_ret at hs
  split at hs
  · rename_i he
    cases hs
    have hd := len_of 0 rfl
    dsimp only at he
    subst he
    exact W.vret hx hb hr (fun t ht hW => ⟨rfl, by rw [ht]; exact hH⟩) hlocs hd
  · rename_i x he
    cases hs
    have hd := len_of 0 rfl
    dsimp only at he
    subst he
    exact W.iret (v := Int32.ofInt x) hx hb hr (fun t ht hW => ⟨rfl, by rw [ht]; exact hH⟩) hlocs hd
  · rename_i x he
    cases hs
    have hd := len_of 0 rfl
    dsimp only at he
    subst he
    have hφ : x = 0 ∨ x = 1 := hφ
    exact W.zret (v := Int32.ofInt x) (ty := .boolean) hx hb hr (by rcases hφ with q | q <;> subst q <;> rfl) (fun t ht hW => ⟨rfl, by rw [ht]; exact hH⟩) hlocs hd
  · rename_i x he
    cases hs
    have hd := len_of 0 rfl
    dsimp only at he
    subst he
    exact W.lret (v := Int64.ofInt x) hx hb hr (fun t ht hW => ⟨rfl, by rw [ht]; exact hH⟩) hlocs hd
  · rename_i x C he
    cases hs
    have hd := len_of 0 rfl
    dsimp only at he
    subst he
    exact W.aret (v := pe_rf (pe_ad b n0) x) hx hb hr (Or.inl ⟨_, rfl⟩) (pe_rf_or _ _) (fun t ht hW => ⟨rfl, by rw [ht]; exact hH⟩) hlocs hd
  · rename_i x C he
    cases hs
    have hd := len_of 0 rfl
    dsimp only at he
    subst he
    exact W.aret (v := pe_rf (pe_ad b n0) x) hx hb hr (Or.inr ⟨_, rfl⟩) (pe_rf_or _ _) (fun t ht hW => ⟨rfl, by rw [ht]; exact hH⟩) hlocs hd
  · cases hs
end PEW7
set_option maxRecDepth 10000 in
/-- ALL THAT THE PURE MACHINE COMES TO, THE MACHINE COMES TO -/
theorem pe_sound (l : Launch) : ∀ (d mi : Nat) (as : List pe_V) (σ : pe_H) (r : Option pe_V) (σ' : pe_H), pe_C d mi as σ r σ' → (pe_n σ ≤ pe_n σ' ∧ pe_u σ ≤ pe_u σ') ∧ pe_Mt l d mi as σ r σ' := by
  intro d
  induction d with
  | zero => intro mi as σ r σ' h; exact h.elim
  | succ d ih =>
    intro mi as σ r σ' h
    obtain ⟨hlen, hmn, hml, hEv⟩ := h
    have hmono : pe_n σ ≤ pe_n σ' ∧ pe_u σ ≤ pe_u σ' := by
      have := hEv (fun S => pe_n S.2.2.2 ≤ pe_n σ' ∧ pe_u S.2.2.2 ≤ pe_u σ') (fun S hS => by
        obtain ⟨i, len, -, -, h⟩ := hS
        rcases h with ⟨φ, S', hnx, -, hP⟩ | ⟨m2, as2, st, r2, σ2, -, -, hC, hP⟩ | ⟨φ, r0, -, -, -, hσ⟩
        · have h1 := pe_mono hnx
          exact ⟨Nat.le_trans h1.1 hP.1, Nat.le_trans h1.2 hP.2⟩
        · have h1 := (ih _ _ _ _ _ hC).1
          exact ⟨Nat.le_trans h1.1 hP.1, Nat.le_trans h1.2 hP.2⟩
        · rw [hσ]; exact ⟨Nat.le_refl _, Nat.le_refl _⟩)
      exact this
    refine ⟨hmono, fun D cA b n0 H0 => ?_⟩
    have hok := pe_mok_all mi hmn hml
    obtain ⟨k1, k2, k3, k4, k5, k6, k7, k8, k9, k10, k11⟩ := pe_mokP hok
    refine Met.ofW (cc := (pe_me mi).2.1) (maxL := (pe_me mi).2.2.1) (ret := (pe_me mi).2.2.2.1) k8 rfl ?_
    intro p e s m args below meth c s₁ B hml0 hPc
    obtain ⟨hargs, hH, hG, hN⟩ := hPc
    have hx := B.exec
    have hb := B.bytes
    have hr := B.returns
    have hlocks := B.notSynchronized
    have hts0 := atoms_spec (ws := pe_ws mi) B.pre
    have hts : ∀ w ∈ pe_TB, w.before args s = true := fun w h => hts0 w (List.mem_cons_of_mem _ h)
    have hown : s.vm.findClass (pe_rn (pe_me mi).2.2.2.2.1) = some m.cls := by rw [← k5]; exact findClass_of_methodNamed B.named
    have hini : (pe_me mi).2.2.2.2.2.2.1 = true → meth.name = "<init>" := fun h => by
      rw [(name_of_methodNamed B.named B.method).1]
      exact (k6 ((pe_ini_ok mi hmn).mp h)).1
    have key := hEv (pe_PW p l e (headSpec (pe_ws mi) (pe_rm (d + 1) σ σ')).room s m args below meth c (MQ below (pe_Qc D cA b n0 H0 r σ') args s (pe_n σ' - pe_n σ) (pe_u σ' - pe_u σ) (fun q => n0 ≤ q)) D cA b n0 H0 (pe_n σ) (pe_u σ) (pe_n σ') (pe_u σ') (pe_me mi).2.2.1) (fun S hS => by
      obtain ⟨i, len, hd, hln, h⟩ := hS
      rcases h with ⟨φ, S', hnx, hφ, hP⟩ | ⟨m2, as2, st, r2, σ2, hcl, hrc, hC, hP⟩ | ⟨φ, r0, hrt, hφ, hr0, hσ⟩
      · exact pe_row (o := (pe_me mi).2.2.2.2.1) (ini := (pe_me mi).2.2.2.2.2.2.1) hx hb (by show 1 ≤ d + 1; omega) (by show 60 ≤ 40 * (d + 1) + 60; omega) hml0 (Nat.le_refl _) (Nat.le_refl _) hts hown hN hini hG hnx hφ hd hln hP
      · obtain ⟨⟨q1, q2⟩, q3⟩ := ih _ _ _ _ _ hC
        have hm2 : m2 ≠ pe_ml := by
          intro q
          subst q
          cases d with
          | zero => exact hC.elim
          | succ d => exact hC.2.2.1 rfl
        exact pe_r_call (o := (pe_me mi).2.2.2.2.1) (d := d) hx hb (Nat.le_refl _) (by show 40 * d + 100 ≤ 40 * (d + 1) + 60; omega) hml0 (Nat.le_refl _) (Nat.le_refl _) hts hown hG hN hcl hrc hd hln hm2 q3 q1 q2 hP
      · subst hr0
        subst hσ
        exact pe_r_ret hx hb hr hlocks hrt hφ hd hln)
    have hw := key.2.2 (Nat.le_refl _) (Nat.le_refl _) (pe_lo_len _ _ hlen) s.heap _ [] hH (pe_entry (pe_ad b n0) as (pe_me mi).2.2.1 hlen) (fun q hq => by cases hq)
    rw [hargs, lg_entry_eq]
    rw [hargs] at hw
    simp only [Nat.sub_self] at hw
    exact hw

