/-! SOUND, 6b: System.arraycopy of ints, Math.min -/
theorem pe_aok : ∀ o i pl, pe_go (pe_aT o) i = some pl → Cond.methodLink (pe_rn o) i arraycopyName ∈ pe_TB := by
  intro o i pl h
  have hm := pe_go_mem _ _ _ h
  have key : ∀ o, ∀ q ∈ pe_aT o, lw_tbl[q.2]? = some (.methodLink (pe_rn o) q.1 arraycopyName) := by
    intro o
    match o with
    | 0 => exact pe_a0_ok
    | 1 => exact pe_a1_ok
    | 2 => exact pe_a2_ok
    | 3 => exact pe_a3_ok
    | 4 => exact pe_a4_ok
    | 5 => exact pe_a5_ok
    | 6 => exact pe_a6_ok
    | 7 => exact pe_a7_ok
    | 8 => exact pe_a8_ok
    | 9 => exact pe_a9_ok
    | 10 => exact pe_a21_ok
    | 11 => exact pe_a11_ok
    | 12 => exact pe_a12_ok
    | 13 => exact pe_a13_ok
    | 14 => exact pe_a21_ok
    | 15 => exact pe_a21_ok
    | 16 => exact pe_a21_ok
    | 17 => exact pe_a21_ok
    | 18 => exact pe_a21_ok
    | 19 => exact pe_a19_ok
    | 20 => exact pe_a20_ok
    | 21 => exact pe_a21_ok
    | n + 22 => exact pe_a21_ok
  exact pe_tb (key o _ hm) rfl
theorem pe_bok : ∀ o i pl, pe_go (pe_bT o) i = some pl → Cond.methodLink (pe_rn o) i Lib.Math.min.name ∈ pe_TB := by
  intro o i pl h
  have hm := pe_go_mem _ _ _ h
  have key : ∀ o, ∀ q ∈ pe_bT o, lw_tbl[q.2]? = some (.methodLink (pe_rn o) q.1 Lib.Math.min.name) := by
    intro o
    match o with
    | 0 => exact pe_b0_ok
    | 1 => exact pe_b1_ok
    | 2 => exact pe_b2_ok
    | 3 => exact pe_b3_ok
    | 4 => exact pe_b4_ok
    | 5 => exact pe_b5_ok
    | 6 => exact pe_b6_ok
    | 7 => exact pe_b7_ok
    | 8 => exact pe_b8_ok
    | 9 => exact pe_b9_ok
    | 10 => exact pe_b21_ok
    | 11 => exact pe_b11_ok
    | 12 => exact pe_b12_ok
    | 13 => exact pe_b13_ok
    | 14 => exact pe_b21_ok
    | 15 => exact pe_b21_ok
    | 16 => exact pe_b21_ok
    | 17 => exact pe_b21_ok
    | 18 => exact pe_b21_ok
    | 19 => exact pe_b19_ok
    | 20 => exact pe_b20_ok
    | 21 => exact pe_b21_ok
    | n + 22 => exact pe_b21_ok
  exact pe_tb (key o _ hm) rfl
theorem pe_acpok : Cond.native arraycopyName ∈ lw_tbl ∧ Cond.static arraycopyName ∈ lw_tbl ∧ Cond.initialized "java/lang/System" ∈ lw_tbl ∧ goodWord (Cond.native arraycopyName) = true := by decide +kernel
theorem pe_minok : Cond.static Lib.Math.min.name ∈ lw_tbl ∧ Cond.initialized "java/lang/Math" ∈ lw_tbl ∧ Cond.code Lib.Math.min.name Lib.Math.min.code 2 (some .int) ∈ lw_tbl := by decide +kernel
section PEW4B
variable {p : Program} {l : Launch} {e : Env} {R : Room} {s : State} {m : MethodId} {args : Array Value} {below : List Frame} {meth : Method} {c : Code} {Q : State → Prop} {cc : ByteArray}
variable {D : va_G} {cA : Nat → ClassId} {b : Nat × Nat} {n0 : Nat} {H0 : Heap} {nS uS nF uF nL : Nat}
theorem pe_r_min {S S' : pe_S} {φ : List Prop} {o i pl : Nat} (hx : p.tables.exec = Jvm.exec) (hb : c.code = cc) (hs : pe_min S = some (φ, S')) (hf : 1 ≤ R.frames) (hlo : 60 ≤ R.locals) (hml : c.maxLocals = nL) (hRc : nF - nS ≤ R.cells) (hRs : uF - uS ≤ R.slots) (hg : pe_go (pe_bT o) i = some pl) (hts : ∀ w ∈ pe_TB, w.before args s = true) (hown : s.vm.findClass (pe_rn o) = some m.cls) (hd : decode cc S.1 = .ok (.invokestatic i, 3))
    (h : pe_PW p l e R s m args below meth c Q D cA b n0 H0 nS uS nF uF nL S') : pe_PW p l e R s m args below meth c Q D cA b n0 H0 nS uS nF uF nL S := by
  obtain ⟨pc, ls, st, σ⟩ := S
  unfold pe_min at hs
  split at hs
  · rename_i y x st' he
    split at hs
    · rename_i hq
      cases hs
      dsimp only at he hd
      subst he
      refine ⟨h.1, h.2.1, fun h1 h2 h3 H Ls locs hH hL hlocs => ?_⟩
      have hf1 : pe_n σ ≤ nF := h.1
      have hf2 : pe_u σ ≤ uF := h.2.1
      refine va_mmin (x := Int32.ofInt x) (y := Int32.ofInt y) hx hb (by rw [hml]; exact (hL.1.trans h3).symm) hown (hts _ (pe_bok _ _ _ hg)) (hts _ (pe_in_tb pe_minok.1 rfl)) (hts _ (pe_in_tb pe_minok.2.1 rfl)) (hts _ (pe_in_tb pe_minok.2.2 rfl)) hf (by rw [pe_cat_ok]; omega) (by show pe_n σ - nS ≤ _; omega) (by show pe_u σ - uS ≤ _; omega) hd ?_
      have hw := h.2.2 h1 h2 h3 H Ls locs hH hL hlocs
      have e : (if Int32.ofInt y < Int32.ofInt x then Int32.ofInt y else Int32.ofInt x) = Int32.ofInt (if pe_w y < pe_w x then y else x) := by
        by_cases q : pe_w y < pe_w x
        · rw [if_pos q, if_pos ((pe_lt y x).mpr q)]
        · rw [if_neg q, if_neg (fun w => q ((pe_lt y x).mp w))]
      rw [e]
      exact hw
    · cases hs
  · cases hs
theorem pe_r_acp {S S' : pe_S} {φ : List Prop} {o i pl : Nat} (hx : p.tables.exec = Jvm.exec) (hb : c.code = cc) (hs : pe_acp S = some (φ, S')) (hf : 1 ≤ R.frames) (hlo : 60 ≤ R.locals) (hml : c.maxLocals = nL) (hφ : pe_all φ) (hg : pe_go (pe_aT o) i = some pl) (hts : ∀ w ∈ pe_TB, w.before args s = true) (hown : s.vm.findClass (pe_rn o) = some m.cls) (hG : pe_G D cA b n0 H0 s) (hd : decode cc S.1 = .ok (.invokestatic i, 3))
    (h : pe_PW p l e R s m args below meth c Q D cA b n0 H0 nS uS nF uF nL S') : pe_PW p l e R s m args below meth c Q D cA b n0 H0 nS uS nF uF nL S := by
  obtain ⟨pc, ls, st, σ⟩ := S
  unfold pe_acp at hs
  split at hs
  · rename_i n dp d sp sr st' he
    split at hs
    · rename_i hq
      cases hs
      dsimp only at he hd
      subst he
      obtain ⟨ks, kd, d2, hsp, hdp, hn, hL1, hL2⟩ := hφ
      have ks : pe_K σ sr = 10 := ks
      have kd : pe_K σ d = 10 := kd
      have hL1 : pe_w sp + pe_w n ≤ pe_L σ sr := hL1
      have hL2 : pe_w dp + pe_w n ≤ pe_L σ d := hL2
      refine ⟨h.1, h.2.1, fun h1 h2 h3 H Ls locs hH hL hlocs => ?_⟩
      have hH : pe_Hd D cA b n0 H0 σ H := hH
      have d2 : 2 ≤ d := d2
      have d3 : 3 ≤ d := pe_r3 hH (by omega) (Or.inr d2) (by omega)
      obtain ⟨s0, -, hcs⟩ := hH.2.2.2.2.2 sr (by omega)
      obtain ⟨d0, -, hcd⟩ := hH.2.2.2.2.2 d (by omega)
      obtain ⟨cs, a1, a2, a3, a4, a5, a6⟩ := hcs.2 (by rw [ks]; rfl)
      obtain ⟨cd, g1, g2, g3, g4, g5, g6⟩ := hcd.2 (by rw [kd]; rfl)
      have hrs := pe_arr hG (k := 10) (by decide) (by rw [← ks]; exact a2) a4 (fun _ => rfl)
      have hrd := pe_arr hG (k := 10) (by decide) (by rw [← kd]; exact g2) g4 (fun _ => rfl)
      obtain ⟨-, k0, hk0, cm0, hkk0⟩ := hrs
      obtain ⟨-, k1, hk1, cm1, hkk1⟩ := hrd
      rw [ks] at a6
      rw [kd] at g6
      have e1 := pe_clamp hsp
      have e2 := pe_clamp hdp
      have e3 := pe_clamp hn
      show W p l e R s m args below meth c H locs _ _ Q (F0 m pc Ls (.int (Int32.ofInt n) :: .int (Int32.ofInt dp) :: pe_rf (pe_ad b n0) d :: .int (Int32.ofInt sp) :: pe_rf (pe_ad b n0) sr :: st'.map (pe_e (pe_ad b n0))))
      rw [pe_rf_pos _ s0, pe_rf_pos _ d0]
      intro T hT X
      have gd : ∀ j : Nat, j < (Int32.ofInt n).toNatClampNeg → cs.slots.getD ((Int32.ofInt sp).toNatClampNeg + j) .null = .int (Int32.ofInt (pe_I σ sr (pe_w sp + j))) := by
        intro j hj
        rw [Array.getD_eq_getD_getElem?, a6 _ (by omega)]
        rw [show (((Int32.ofInt sp).toNatClampNeg + j : Nat) : Int) = pe_w sp + j by omega]
        rfl
      obtain ⟨vm', X', step⟩ := X.arraycopy hx hown (hts _ (pe_aok _ _ _ hg)) (hts _ (pe_in_tb pe_acpok.1 pe_acpok.2.2.2)) (hts _ (pe_in_tb pe_acpok.2.1 rfl)) (hts _ (pe_in_tb pe_acpok.2.2.1 rfl)) (src := pe_ad b n0 sr) (dst := pe_ad b n0 d) (cs := cs) (cd := cd) (srcPos := Int32.ofInt sp) (destPos := Int32.ofInt dp) (n := Int32.ofInt n) (by rw [hT]; exact a1) (by rw [hT]; exact g1)
        a4 g4 a3 g3 hk0 hk1 hkk0 hkk1 rfl (fun q => by have := (pe_lt0 sp).mp q; omega) (fun q => by have := (pe_lt0 dp).mp q; omega) (fun q => by have := (pe_lt0 n).mp q; omega)
        (by show ¬ pe_w sp + pe_w n > _; omega) (by show ¬ pe_w dp + pe_w n > _; omega)
        (fun vm₁ _ j hj => by rw [gd j hj]; exact ⟨rfl, trivial⟩)
        (g := F0 m pc Ls (.int (Int32.ofInt n) :: .int (Int32.ofInt dp) :: .ref (pe_ad b n0 d) :: .int (Int32.ofInt sp) :: .ref (pe_ad b n0 sr) :: st'.map (pe_e (pe_ad b n0)))) rfl (by rw [hml]; exact hL.1.trans h3) (rest := st'.map (pe_e (pe_ad b n0))) rfl (by rw [hb]; exact hd) hf (by rw [pe_cat_ok]; show 2 * 0 + _ + (5 + 2 + 11) ≤ _; omega)
      have hlen : (cs.stretch (Int32.ofInt sp).toNatClampNeg (Int32.ofInt n).toNatClampNeg).length = (Int32.ofInt n).toNatClampNeg := by simp [Cell.stretch]
      have hcopied : copied cs cd (Int32.ofInt sp) (Int32.ofInt dp) (Int32.ofInt n) = cd.storeRun (Int32.ofInt dp).toNatClampNeg (cs.stretch (Int32.ofInt sp).toNatClampNeg (Int32.ofInt n).toNatClampNeg) := rfl
      obtain ⟨f1, f2, f3, -⟩ := cd.storeRun_facts (Int32.ofInt dp).toNatClampNeg (cs.stretch (Int32.ofInt sp).toNatClampNeg (Int32.ofInt n).toNatClampNeg)
      rw [hcopied] at X' step
      generalize hcell : cd.storeRun (Int32.ofInt dp).toNatClampNeg (cs.stretch (Int32.ofInt sp).toNatClampNeg (Int32.ofInt n).toNatClampNeg) = ce at X' step f1 f2 f3
      have hl : pe_ad b n0 d < H.size := (Array.getElem?_eq_some_iff.mp g1).1
      have hheap : ((T.setVm vm').setCell (pe_ad b n0 d) ce).heap = H.setIfInBounds (pe_ad b n0 d) ce := by rw [← hT]; rfl
      have hres := h.2.2 h1 h2 h3 (H.setIfInBounds (pe_ad b n0 d) ce) Ls _ (hH.upd (σ' := pe_cpy σ sr (pe_w sp) d (pe_w dp) (pe_w n)) (r := d) rfl rfl rfl (fun q hq j => if_neg (fun a => hq a.1)) (fun q hq j => rfl) d3 (by simp) (fun q hq => by simp [Array.getElem?_setIfInBounds, Ne.symm hq]) ⟨fun q => ?_, fun q => ⟨ce, by simp [Array.getElem?_setIfInBounds, hl], by rw [f1]; exact g2, by rw [f2]; exact g3, by rw [f2]; exact g4, by rw [f3]; exact g5, fun j hj => ?_⟩⟩) hL (fun q hq => ?_) _ hheap X'
      · obtain ⟨t2, b1, b2⟩ := hres
        exact ⟨t2, step t2 b1, b2⟩
      · have e9 : pe_K (pe_cpy σ sr (pe_w sp) d (pe_w dp) (pe_w n)) d = 10 := kd
        rw [e9] at q
        cases q
      · have hj' : j < cd.slots.size := by rw [← f3]; exact hj
        have hget := cd.storeRun_get (Int32.ofInt dp).toNatClampNeg (cs.stretch (Int32.ofInt sp).toNatClampNeg (Int32.ofInt n).toNatClampNeg) j (by rw [hlen]; omega)
        rw [hcell, hlen] at hget
        rw [hget]
        have ek : pe_K (pe_cpy σ sr (pe_w sp) d (pe_w dp) (pe_w n)) d = 10 := kd
        rw [ek]
        by_cases hin : (Int32.ofInt dp).toNatClampNeg ≤ j ∧ j < (Int32.ofInt dp).toNatClampNeg + (Int32.ofInt n).toNatClampNeg
        · rw [if_pos hin]
          have ei : pe_I (pe_cpy σ sr (pe_w sp) d (pe_w dp) (pe_w n)) d j = pe_I σ sr (pe_w sp + ((j : Int) - pe_w dp)) := if_pos ⟨rfl, by omega, by omega⟩
          rw [ei]
          unfold Cell.stretch
          rw [List.getElem?_map, List.getElem?_range (by omega)]
          simp only [Option.map_some]
          rw [gd _ (by omega)]
          rw [show ((j - (Int32.ofInt dp).toNatClampNeg : Nat) : Int) = (j : Int) - pe_w dp by omega]
          rfl
        · rw [if_neg hin]
          have ei : pe_I (pe_cpy σ sr (pe_w sp) d (pe_w dp) (pe_w n)) d j = pe_I σ d j := if_neg (fun a => hin ⟨by omega, by omega⟩)
          rw [ei]
          exact g6 j hj'
      · rcases List.mem_append.mp hq with w | w
        · exact hlocs q w
        · obtain ⟨z, -, hz⟩ := List.mem_map.mp w
          rw [← hz]
          show n0 ≤ pe_ad b n0 d
          unfold pe_ad; rw [if_neg (by omega), if_neg (by omega)]; omega
    · cases hs
  · cases hs
end PEW4B
