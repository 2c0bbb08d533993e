/-! SOUND, 6c: an array of ints made like another; the cast behind it -/
theorem pe_beq2 {o k x y : Nat} (h : (Nat.beq o x && Nat.beq k y) = true) : o = x ∧ k = y := by
  rw [Bool.and_eq_true] at h
  exact ⟨Nat.eq_of_beq_eq_true h.1, Nat.eq_of_beq_eq_true h.2⟩
theorem pe_clnok : Cond.methodLink "java/util/Arrays" 316 ⟨"[I", "clone", "()Ljava/lang/Object;"⟩ ∈ lw_tbl ∧ Cond.sameMethod "[I" "java/lang/Object" "clone" "()Ljava/lang/Object;" ∈ lw_tbl ∧ Cond.native ⟨"java/lang/Object", "clone", "()Ljava/lang/Object;"⟩ ∈ lw_tbl ∧ Cond.instanceMethod ⟨"java/lang/Object", "clone", "()Ljava/lang/Object;"⟩ ∈ lw_tbl ∧ Cond.selects "[I" ⟨"[I", "clone", "()Ljava/lang/Object;"⟩ ⟨"java/lang/Object", "clone", "()Ljava/lang/Object;"⟩ ∈ lw_tbl ∧ Cond.classLink "java/util/Arrays" 317 "[I" ∈ lw_tbl := by decide +kernel
theorem pe_clngd : goodWord (Cond.methodLink "java/util/Arrays" 316 ⟨"[I", "clone", "()Ljava/lang/Object;"⟩) = true ∧ goodWord (Cond.sameMethod "[I" "java/lang/Object" "clone" "()Ljava/lang/Object;") = true ∧ goodWord (Cond.native ⟨"java/lang/Object", "clone", "()Ljava/lang/Object;"⟩) = true ∧ goodWord (Cond.instanceMethod ⟨"java/lang/Object", "clone", "()Ljava/lang/Object;"⟩) = true ∧ goodWord (Cond.selects "[I" ⟨"[I", "clone", "()Ljava/lang/Object;"⟩ ⟨"java/lang/Object", "clone", "()Ljava/lang/Object;"⟩) = true ∧ goodWord (Cond.classLink "java/util/Arrays" 317 "[I") = true := by decide +kernel
section PEW4C
variable {p : Program} {l : Launch} {e : Env} {R : Room} {s : State} {m : MethodId} {args : Array Value} {below : List Frame} {meth : Method} {c : Code} {Q : State → Prop} {cc : ByteArray}
variable {D : va_G} {cA : Nat → ClassId} {b : Nat × Nat} {n0 : Nat} {H0 : Heap} {nS uS nF uF nL : Nat}
theorem pe_r_cst {S S' : pe_S} {φ : List Prop} (hx : p.tables.exec = Jvm.exec) (hb : c.code = cc) (hs : pe_cst S = some (φ, S')) (hφ : pe_all φ) (hts : ∀ w ∈ pe_TB, w.before args s = true) (hown : s.vm.findClass (pe_rn 13) = some m.cls) (hG : pe_G D cA b n0 H0 s) (hd : decode cc S.1 = .ok (.checkcast 317, 3))
    (h : pe_PW p l e R s m args below meth c Q D cA b n0 H0 nS uS nF uF nL S') : pe_PW p l e R s m args below meth c Q D cA b n0 H0 nS uS nF uF nL S := by
  obtain ⟨pc, ls, st, σ⟩ := S
  unfold pe_cst at hs
  split at hs
  · rename_i r st' he
    cases hs
    dsimp only at he hd
    subst he
    obtain ⟨kr, r2⟩ := hφ
    have kr : pe_K σ r = 10 := kr
    refine ⟨h.1, h.2.1, fun h1 h2 h3 H Ls locs hH hL hlocs => ?_⟩
    have hH : pe_Hd D cA b n0 H0 σ H := hH
    obtain ⟨r0, -, hcr⟩ := hH.2.2.2.2.2 r (by omega)
    obtain ⟨cr, a1, a2, a3, a4, a5, a6⟩ := hcr.2 (by rw [kr]; rfl)
    rw [kr, pe_ca2 r2] at a2
    have hfc := va_nm_int (hG.2.1 10 (by decide) (by decide)).2
    have hw := h.2.2 h1 h2 h3 H Ls locs hH hL hlocs
    show W p l e R s m args below meth c H locs _ _ Q (F0 m pc Ls (pe_rf (pe_ad b n0) r :: st'.map (pe_e (pe_ad b n0))))
    have hw : W p l e R s m args below meth c H locs _ _ Q (F0 m (pc + 3) Ls (pe_rf (pe_ad b n0) r :: st'.map (pe_e (pe_ad b n0)))) := hw
    rw [pe_rf_pos _ r0] at hw ⊢
    intro T hT X
    obtain ⟨vm', X', stp⟩ := X.checkcastYes hx (own := "java/util/Arrays") (name := "[I") hown (hts _ (pe_in_tb pe_clnok.2.2.2.2.2 pe_clngd.2.2.2.2.2)) (a := pe_ad b n0 r) (cell := cr) (by rw [hT]; exact a1) (by
        cases hv : cr.vm with
        | statics q => exact absurd hv (a4 q)
        | _ => rfl) hfc (by rw [a2]; exact va_asg _ _) (g := F0 m pc Ls (.ref (pe_ad b n0 r) :: st'.map (pe_e (pe_ad b n0)))) rfl rfl (by rw [hb]; exact hd)
    obtain ⟨t, b1, b2⟩ := hw (T.setVm vm') hT X'
    exact ⟨t, stp t b1, b2⟩
  · cases hs
theorem pe_r_cln {S S' : pe_S} {φ : List Prop} (hx : p.tables.exec = Jvm.exec) (hb : c.code = cc) (hs : pe_cln S = some (φ, S')) (hf : 1 ≤ R.frames) (hlo : 60 ≤ R.locals) (hml : c.maxLocals = nL) (hRc : nF - nS ≤ R.cells) (hRs : uF - uS ≤ R.slots) (hφ : pe_all φ) (hts : ∀ w ∈ pe_TB, w.before args s = true) (hown : s.vm.findClass (pe_rn 13) = some m.cls) (hG : pe_G D cA b n0 H0 s) (hd : decode cc S.1 = .ok (.invokevirtual 316, 3))
    (h : pe_PW p l e R s m args below meth c Q D cA b n0 H0 nS uS nF uF nL S') : pe_PW p l e R s m args below meth c Q D cA b n0 H0 nS uS nF uF nL S := by
  obtain ⟨pc, ls, st, σ⟩ := S
  unfold pe_cln at hs
  split at hs
  · rename_i r st' he
    split at hs
    · rename_i hq
      cases hs
      dsimp only at he hd
      subst he
      obtain ⟨kr, r2⟩ := hφ
      have kr : pe_K σ r = 10 := kr
      have r2 : 2 ≤ r := r2
      have hf1 : pe_n σ + 1 ≤ nF := h.1
      have hf2 : pe_u σ + (pe_L σ r).toNat ≤ uF := h.2.1
      refine ⟨Nat.le_trans (Nat.le_succ _) hf1, Nat.le_trans (Nat.le_add_right _ _) hf2, fun h1 h2 h3 H Ls locs hH hL hlocs => ?_⟩
      have hH : pe_Hd D cA b n0 H0 σ H := hH
      have h1 : nS ≤ pe_n σ := h1
      have h2 : uS ≤ pe_u σ := h2
      have hn2 : 2 ≤ pe_n σ := by have := hH.2.1; omega
      obtain ⟨r0, rn, hcr⟩ := hH.2.2.2.2.2 r (by omega)
      obtain ⟨cr, a1, a2, a3, a4, a5, a6⟩ := hcr.2 (by rw [kr]; rfl)
      rw [kr, pe_ca2 r2] at a2
      rw [kr] at a6
      have hfc := va_nm_int (hG.2.1 10 (by decide) (by decide)).2
      obtain ⟨c0, t0', f1, f2, f3⟩ := Cond.castable_spec (va_Nw.use (A := args) rfl hG.2.2.2.1)
      cases hfc.symm.trans f1
      have hrs := pe_arr hG (k := 10) (r := r) (by decide) (by rw [pe_ca2 r2]; exact a2) a4 (fun _ => rfl)
      obtain ⟨-, kS, hkS, cmS, hkindS⟩ := hrs
      show W p l e R s m args below meth c H locs _ _ Q (F0 m pc Ls (pe_rf (pe_ad b n0) r :: st'.map (pe_e (pe_ad b n0))))
      rw [pe_rf_pos _ r0]
      intro T hT X
      have hvmk : T.vm.classes[cr.cls]? = T.vm.classes[cr.cls]? := rfl
      have hrT : T.isArrayOf cr (pe_aty 10) := State.isArrayOf_alike X.warmed.alike (pe_arr hG (k := 10) (r := r) (by decide) (by rw [pe_ca2 r2]; exact a2) a4 (fun _ => rfl))
      obtain ⟨-, kT, hkT, cmT, hkindT⟩ := hrT
      obtain ⟨vm', X', stp⟩ := X.cloneArray hx (own := "java/util/Arrays") (ad := "[I") hown (hts _ (pe_in_tb pe_clnok.1 pe_clngd.1)) (hts _ (pe_in_tb pe_clnok.2.1 pe_clngd.2.1)) (hts _ (pe_in_tb pe_clnok.2.2.1 pe_clngd.2.2.1)) (hts _ (pe_in_tb pe_clnok.2.2.2.1 pe_clngd.2.2.2.1)) (hts _ (pe_in_tb pe_clnok.2.2.2.2.1 pe_clngd.2.2.2.2.1)) (a := pe_ad b n0 r) (cell := cr) (by rw [hT]; exact a1) a4 a3 (by rw [a2]; exact hfc) f2 (by rw [a2]; exact f3)
        (fun i v hv => by
          have hi : i < cr.slots.size := (Array.getElem?_eq_some_iff.mp hv).1
          have e := (a6 i hi).symm.trans hv
          cases e
          simp [State.fitsSlot, State.slotType?, hkT, hkindT, pe_aty, pe_tc, pe_vt, fits])
        (g := F0 m pc Ls (.ref (pe_ad b n0 r) :: st'.map (pe_e (pe_ad b n0)))) rfl (by rw [hml]; exact hL.1.trans h3) (rest := st'.map (pe_e (pe_ad b n0))) rfl (by rw [hb]; exact hd) hf (by rw [pe_cat_ok]; show 2 * 0 + _ + 14 ≤ _; omega) (by show pe_n σ - nS + 1 ≤ _; omega) (by show pe_u σ - uS + cr.slots.size ≤ _; omega) (hloader := Vm.clonesLoader_of_array hkS hkindS)
      generalize hH1 : H.push ({ cls := cr.cls, slots := cr.slots } : Cell) = H1
      have z1 : H1.size = H.size + 1 := by rw [← hH1, Array.size_push]
      have e1 : H1[H.size]? = some ({ cls := cr.cls, slots := cr.slots } : Cell) := by rw [← hH1, Array.getElem?_push_size]
      have o1 : ∀ q : Nat, q < H.size → H1[q]? = H[q]? := fun q hq => by rw [← hH1, Array.getElem?_push, if_neg (Nat.ne_of_lt hq)]
      generalize hσ' : pe_cpy (pe_new σ 10 (pe_L σ r) (pe_L σ r).toNat) r 0 (pe_n σ) 0 (pe_L σ r) = σ' at h
      have en : pe_n σ' = pe_n σ + 1 := by rw [← hσ']; rfl
      have eu : pe_u σ' = pe_u σ + (pe_L σ r).toNat := by rw [← hσ']; rfl
      have hrne : r ≠ pe_n σ := by omega
      have hres := h.2.2 (by show nS ≤ pe_n σ'; omega) (by show uS ≤ pe_u σ'; omega) h3 H1 Ls locs (hH.new en (fun q hq => by rw [← hσ']; exact if_neg hq) (fun q hq => by rw [← hσ']; exact if_neg hq) (fun q hq j => by rw [← hσ']; exact (if_neg (fun w => hq w.1)).trans (if_neg hq)) (fun q hq j => by rw [← hσ']; exact if_neg hq) z1 o1 ⟨fun q => ?_, fun q => ⟨_, by rw [pe_ad_n hH]; exact e1, ?_, (by show Cell.vm _ ≠ _; exact fun w => by cases w), (fun q w => by cases w), ?_, fun j hj => ?_⟩⟩) hL hlocs ((T.setVm vm').pushCell { cls := cr.cls, slots := cr.slots }) (by rw [← hH1, ← hT]; rfl) (by
          show Stand p l e R s m args below meth c _ locs (pe_n σ' - nS) (pe_u σ' - uS)
          rw [show pe_n σ' - nS = pe_n σ - nS + 1 by omega, show pe_u σ' - uS = pe_u σ - uS + cr.slots.size by omega]
          exact X')
      · obtain ⟨t2, b1, b2⟩ := hres
        refine ⟨t2, stp t2 ?_, b2⟩
        rw [hT]
        have b1 : Steps p.tables e below (((T.setVm vm').pushCell { cls := cr.cls, slots := cr.slots }).setTop (F0 m (pc + 3) Ls (pe_rf (pe_ad b n0) (pe_n σ) :: st'.map (pe_e (pe_ad b n0))))) t2 := b1
        rw [pe_rf_pos _ (by omega), pe_ad_n hH] at b1
        exact b1
      · have ek : pe_K σ' (pe_n σ) = 10 := by rw [← hσ']; exact if_pos rfl
        rw [ek] at q
        cases q
      · have : pe_K σ' (pe_n σ) = 10 := by rw [← hσ']; exact if_pos rfl
        rw [this, pe_ca2 hn2]; exact a2
      · have : pe_L σ' (pe_n σ) = pe_L σ r := by rw [← hσ']; exact if_pos rfl
        rw [this]; exact a5
      · have hj : j < cr.slots.size := hj
        have ek : pe_K σ' (pe_n σ) = 10 := by rw [← hσ']; exact if_pos rfl
        have ei : pe_I σ' (pe_n σ) j = pe_I σ r j := by
          rw [← hσ']
          show (if pe_n σ = pe_n σ ∧ 0 ≤ (j : Int) ∧ (j : Int) < 0 + pe_L σ r then (if r = pe_n σ then 0 else pe_I σ r (0 + ((j : Int) - 0))) else _) = _
          rw [if_pos ⟨rfl, by omega, by omega⟩, if_neg hrne]
          simp
        rw [ek, ei]
        have := a6 j hj
        simpa [pe_aty, pe_tc, pe_vt] using this
    · cases hs
  · cases hs
end PEW4C
