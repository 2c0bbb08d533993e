/-! METHODS THAT THROW: Manner.fail, StepMachines.element -/
def px_Pc (D : va_G) (cA : Nat → ClassId) (b n0 : Nat) (H0 : Heap) (as : List pe_V) (σ : pe_H) : Array Value → State → Prop := fun v U => pe_Pc D cA b n0 H0 as σ v U ∧ px_E n0 H0 U ∧ H0.size = n0
theorem px_blind {D : va_G} {cA : Nat → ClassId} {b n0 : Nat} {H0 : Heap} {as : List pe_V} {σ : pe_H} : FrameBlind (px_Pc D cA b n0 H0 as σ) := fun a U g mk h => ⟨pe_blind a U g mk h.1, px_E.same (s := U) (U := U.calling g mk a) rfl h.2.1, h.2.2⟩
def px_Qc (D : va_G) (cA : Nat → ClassId) (b n0 : Nat) (H0 : Heap) (r : Option pe_V) (σ' : pe_H) (φ : Prop) : Array Value → State → Outcome → State → Prop := fun a s o t => pe_Qc D cA b n0 H0 r σ' a s o t ∧ φ
def px_A (mi : Nat) (p : Program) (s : State) (m : MethodId) (args : Array Value) (meth : Method) (c : Code) (D : va_G) (cA : Nat → ClassId) (b n0 : Nat) (H0 : Heap) (σ : pe_H) : Prop := p.tables.exec = Jvm.exec ∧ c.code = (pe_me mi).2.1 ∧ meth.sig.returnType = (pe_me mi).2.2.2.1 ∧ meth.locks = false ∧ (∀ w ∈ pe_TB, w.before args s = true) ∧ s.vm.findClass (pe_rn (pe_me mi).2.2.2.2.1) = some m.cls ∧ c.maxLocals = (pe_me mi).2.2.1 ∧ (∀ x ∈ c.exceptionTable.toList, False) ∧ pe_Hd D cA b n0 H0 σ s.heap ∧ px_E n0 H0 s ∧ H0.size = n0
theorem vx_mono {p : Program} {l : Launch} {e : Env} {R : Room} {s : State} {m : MethodId} {args : Array Value} {below : List Frame} {meth : Method} {c : Code} {D : va_G} {cA : Nat → ClassId} {b n0 : Nat} {H0 : Heap} {nS uS nF uF nL : Nat} {S : pe_S} {Q Q' : State → Prop} (hq : ∀ t, Q t → Q' t) (h : pe_PW p l e R s m args below meth c Q D cA b n0 H0 nS uS nF uF nL S) : pe_PW p l e R s m args below meth c Q' D cA b n0 H0 nS uS nF uF nL S := ⟨h.1, h.2.1, fun h1 h2 h3 H Ls locs hH hL hlocs T hT X => by
  obtain ⟨t, a1, a2⟩ := h.2.2 h1 h2 h3 H Ls locs hH hL hlocs T hT X
  exact ⟨t, a1, hq t a2⟩⟩
/-- an answer of such a method -/
theorem px_ret {p : Program} {l : Launch} {e : Env} {R : Room} {s : State} {m : MethodId} {args : Array Value} {below : List Frame} {meth : Method} {c : Code} {cc : ByteArray} {D : va_G} {cA : Nat → ClassId} {b n0 : Nat} {H0 : Heap} {nL : Nat} {S : pe_S} {φ0 : List Prop} {r : Option pe_V} {rt : Option FieldType} {i : Instr} {len : Nat} {φ : Prop} {XC : String → State → State → Prop} (hx : p.tables.exec = Jvm.exec) (hb : c.code = cc) (hr : meth.sig.returnType = rt) (hlocks : meth.locks = false) (hs : pe_ret rt i S = some (φ0, r)) (hφ : pe_all φ0) (hd0 : decode cc S.1 = .ok (i, len)) (hlen : pe_ln i = len ∨ pe_ln i = 0) (hq : φ) :
    pe_PW p l e R s m args below meth c (vx_MQ below (px_Qc D cA b n0 H0 r S.2.2.2 φ) XC args s 1 6 (fun q => n0 ≤ q)) D cA b n0 H0 (pe_n S.2.2.2) (pe_u S.2.2.2) (pe_n S.2.2.2) (pe_u S.2.2.2) nL S := by
  refine vx_mono (fun t ht => ?_) (pe_r_ret (nS := pe_n S.2.2.2) (uS := pe_u S.2.2.2) hx hb hr hlocks hs hφ hd0 hlen)
  obtain ⟨o, b1, b2, b3, L, ⟨c1, c2, c3⟩, b5⟩ := ht
  exact ⟨o, b1, b2, Or.inl ⟨⟨b3, hq⟩, L, ⟨c1, c2, c3.mono (by omega) (by omega)⟩, b5⟩⟩
set_option maxRecDepth 10000 in
theorem px_met (l : Launch) {mi d : Nat} (hd : d ≤ 5) (hmn : mi < pe_mn) (hml : mi ≠ pe_ml) (hi0 : (pe_me mi).2.2.2.2.2.2.1 = false) {as : List pe_V} {σ : pe_H} (hlen : (pe_lc as).length ≤ (pe_me mi).2.2.1) {G : pe_S → Prop} {XC : String → State → State → Prop} {Qc : Array Value → State → Outcome → State → Prop} {D : va_G} {cA : Nat → ClassId} {b n0 : Nat} {H0 : Heap} (walk : py_X d (pe_me mi).2.2.2.2.1 false (pe_me mi).2.1 (0, pe_lo as (pe_me mi).2.2.1, [], σ) G)
    (ends : ∀ (p : Program) (e : Env) (s : State) (m : MethodId) (args : Array Value) (below : List Frame) (meth : Method) (c : Code), px_A mi p s m args meth c D cA b n0 H0 σ → ∀ S, G S → pe_PW p l e px_rm s m args below meth c (vx_MQ below Qc XC args s 1 6 (fun q => n0 ≤ q)) D cA b n0 H0 (pe_n σ) (pe_u σ) (pe_n σ) (pe_u σ) (pe_me mi).2.2.1 S) :
    vx_Met l (pe_me mi).1 (pe_ws mi) px_rm (px_Pc D cA b n0 H0 as σ) Qc XC 1 6 (fun q => n0 ≤ q) := by
  have hok := pe_mok_all mi hmn hml
  obtain ⟨k1, k2, k3, k4, k5, k6, k7, k8, k9, k10, k11⟩ := pe_mokP hok
  refine vx_ofW (cc := (pe_me mi).2.1) (maxL := (pe_me mi).2.2.1) (ret := (pe_me mi).2.2.2.1) k8 rfl ?_
  intro p e s m args below meth c s₁ B hml0 htab hPc
  obtain ⟨⟨hargs, hH, hG, hN⟩, hE, h0⟩ := hPc
  have hts0 := atoms_spec (ws := pe_ws mi) B.pre
  have hts : ∀ w ∈ pe_TB, w.before args s = true := fun w h => hts0 w (List.mem_cons_of_mem _ h)
  have hown : s.vm.findClass (pe_rn (pe_me mi).2.2.2.2.1) = some m.cls := by rw [← k5]; exact findClass_of_methodNamed B.named
  have key := py_PW (ini := false) (nS := pe_n σ) (uS := pe_u σ) (nF := pe_n σ) (uF := pe_u σ) (R := (headSpec (pe_ws mi) px_rm).room) (Q := vx_MQ below Qc XC args s 1 6 (fun q => n0 ≤ q)) B.exec B.bytes (by show d + 1 ≤ 10; omega) (by show 40 * d + 100 ≤ 400; omega) hml0 (by omega) (by omega) hts hown (fun h => absurd h (by decide)) hG hN walk (ends p e s m args below meth c ⟨B.exec, B.bytes, B.returns, B.notSynchronized, hts, hown, hml0, htab, hH, hE, h0⟩)
  have hw := key.2.2 (Nat.le_refl _) (Nat.le_refl _) (pe_lo_len _ _ hlen) s.heap _ [] hH (pe_entry (pe_ad b n0) as (pe_me mi).2.2.1 hlen) (fun q hq => by cases hq)
  rw [hargs, lg_entry_eq]
  rw [hargs] at hw
  simp only [Nat.sub_self] at hw
  exact hw
def px_f (σ : pe_H) (r : Nat) : Prop := ¬ pe_I σ r 1 = 0 ∧ ¬ pe_I σ r 0 = 2 ∧ ¬ pe_I σ r 0 = 4
theorem px_TBk : Cond.classLink RX3 18 px_ISE ∈ pe_TB ∧ Cond.initialized px_ISE ∈ pe_TB ∧ Cond.classLink RX8 295 px_IAE ∈ pe_TB ∧ Cond.initialized px_IAE ∈ pe_TB ∧ Cond.classLink RX8 302 px_ISE ∈ pe_TB := by
  unfold pe_TB
  simp only [List.mem_filter]
  decide +kernel
theorem dx46_33 : decode cX3_fail 33 = .ok (.return_, 1) := by decide +kernel
theorem dx46_23 : decode cX3_fail 23 = .ok (.new 18, 3) := by decide +kernel
theorem dx46_26 : decode cX3_fail (23 + 3) = .ok (.dup, 1) := by decide +kernel
theorem dx46_27 : decode cX3_fail (23 + 4) = .ok (.ldc 20, 2) := by decide +kernel
theorem dx46_29 : decode cX3_fail (23 + 6) = .ok (.invokespecial 22, 3) := by decide +kernel
theorem dx46_32 : decode cX3_fail (23 + 9) = .ok (.athrow, 1) := by decide +kernel
/-- Manner.fail -/
theorem px_fail (l : Launch) (hl : l.stackTraces = false) {D : va_G} {cA : Nat → ClassId} {b n0 : Nat} {H0 : Heap} {σ : pe_H} {r : Nat} (hK : pe_K σ r = 3) (h1 : -2147483648 ≤ pe_I σ r 1 ∧ pe_I σ r 1 < 2147483648) (h2 : -2147483648 ≤ pe_I σ r 0 ∧ pe_I σ r 0 < 2147483648) :
    vx_Met l (pe_me 46).1 (pe_ws 46) px_rm (px_Pc D cA b n0 H0 [.inr (.inr r)] σ) (px_Qc D cA b n0 H0 none σ (¬ px_f σ r)) (px_XC D cA b n0 H0 σ px_ISE (px_f σ r)) 1 6 (fun q => n0 ≤ q) := by
  refine px_met l (d := 0) (by decide) (by decide) (by decide) rfl (Nat.le_of_ble_eq_true rfl) (G := fun S => (S = (33, [some (.inr (.inr r))], [], σ) ∧ ¬ px_f σ r) ∨ (S = (23, [some (.inr (.inr r))], [], σ) ∧ px_f σ r)) ?_ ?_
  · show py_X 0 3 false cX3_fail (0, [some (.inr (.inr r))], [], σ) _
    refine pb46_0 (k1 := fun q => py_end (Or.inl ⟨rfl, fun w => w.1 q⟩)) (k2 := fun q => ?_)
    refine pb46_7 (k1 := fun q2 => py_end (Or.inl ⟨rfl, fun w => w.2.1 q2⟩)) (k2 := fun q2 => ?_)
    exact pb46_15 (k1 := fun q3 => py_end (Or.inl ⟨rfl, fun w => w.2.2 q3⟩)) (k2 := fun q3 => py_end (Or.inr ⟨rfl, q, q2, q3⟩))
  · intro p e s m args below meth c ⟨hx, hb, hr, hlk, hts, hown, hml, htab, hH, hE, h0⟩ S hS
    rcases hS with ⟨rfl, w⟩ | ⟨rfl, w⟩
    · exact px_ret (S := (33, [some (.inr (.inr r))], [], σ)) hx hb hr hlk (show pe_ret none .return_ _ = some ([], none) from rfl) trivial dx46_33 (Or.inl rfl) w
    · exact px_thrS hx hb hl hown hml (by decide) hts hE h0 hH px_1 px_TBk.1 px_TBk.2.1 hE.2.2.1.1 dx46_23 dx46_26 dx46_27 dx46_29 dx46_32 htab (by decide) (by decide) (by decide) (by decide) hlk w
theorem dx112_7 : decode cX8_element 7 = .ok (.new 295, 3) ∧ decode cX8_element (7 + 3) = .ok (.dup, 1) ∧ decode cX8_element (7 + 4) = .ok (.ldc_w 297, 3) ∧ decode cX8_element (7 + 7) = .ok (.invokespecial 299, 3) ∧ decode cX8_element (7 + 10) = .ok (.athrow, 1) := by decide +kernel
theorem dx112_27 : decode cX8_element 27 = .ok (.new 302, 3) ∧ decode cX8_element (27 + 3) = .ok (.dup, 1) ∧ decode cX8_element (27 + 4) = .ok (.ldc_w 304, 3) ∧ decode cX8_element (27 + 7) = .ok (.invokespecial 306, 3) ∧ decode cX8_element (27 + 10) = .ok (.athrow, 1) := by decide +kernel
theorem dx112_51 : decode cX8_element 51 = .ok (.new 302, 3) ∧ decode cX8_element (51 + 3) = .ok (.dup, 1) ∧ decode cX8_element (51 + 4) = .ok (.ldc_w 307, 3) ∧ decode cX8_element (51 + 7) = .ok (.invokespecial 306, 3) ∧ decode cX8_element (51 + 10) = .ok (.athrow, 1) := by decide +kernel
theorem dx112_73 : decode cX8_element 73 = .ok (.lreturn, 1) := by decide +kernel
/-- StepMachines.element: kd is what it throws (0 nothing, 1 IllegalArgumentException, 2 IllegalStateException) -/
def px_EX (D : va_G) (cA : Nat → ClassId) (b n0 : Nat) (H0 : Heap) (σ : pe_H) (kd : Int) : String → State → State → Prop := fun E s t => px_XC D cA b n0 H0 σ px_IAE (kd = 1) E s t ∨ px_XC D cA b n0 H0 σ px_ISE (kd = 2) E s t
theorem px_MQx {below : List Frame} {Qc : Array Value → State → Outcome → State → Prop} {XC XC' : String → State → State → Prop} {args : Array Value} {s : State} {mc ms : Nat} {free : Addr → Prop} (h : ∀ E s t, XC E s t → XC' E s t) (t : State) (hq : vx_MQ below Qc XC args s mc ms free t) : vx_MQ below Qc XC' args s mc ms free t := by
  obtain ⟨o, b1, b2, b3⟩ := hq
  refine ⟨o, b1, b2, ?_⟩
  rcases b3 with w | ⟨q, w1, E, ce, L, w2, w3⟩
  · exact Or.inl w
  · exact Or.inr ⟨q, w1, E, ce, L, h _ _ _ w2, w3⟩
theorem px_elem (l : Launch) (hl : l.stackTraces = false) {D : va_G} {cA : Nat → ClassId} {b n0 : Nat} {H0 : Heap} {T U : Nat → Prop} {C : Nat} {σ : pe_H} {a : pa_M} {im : Option pa_M} {h : Int → pa_Sh} {z i : Int} (hG : pg_G C T U σ a im h) (hw : pg_W a im h) (hD : -2147483648 ≤ z ∧ z < 2147483648) (hi : -2147483648 ≤ i ∧ i < 2147483648) :
    vx_Met l (pe_me 112).1 (pe_ws 112) px_rm (px_Pc D cA b n0 H0 [.inr (.inr C), .inl z, .inl i] σ) (px_Qc D cA b n0 H0 (some (.inr (.inl (pa_elem h z i).2))) σ ((pa_elem h z i).1 = 0)) (px_EX D cA b n0 H0 σ (pa_elem h z i).1) 1 6 (fun q => n0 ≤ q) := by
  have hF := hG.F
  have ls : List (Option pe_V) := [some (.inr (.inr C)), some (.inl z), some (.inl i)]
  refine px_met l (d := 4) (by decide) (by decide) (by decide) rfl (Nat.le_of_ble_eq_true rfl) (G := fun S => (∃ o0 o1 o2, S = (73, [o0, o1, o2], [.inr (.inl (pa_elem h z i).2)], σ) ∧ (pa_elem h z i).1 = 0) ∨ (S = (7, [some (.inr (.inr C)), some (.inl z), some (.inl i)], [], σ) ∧ (pa_elem h z i).1 = 1) ∨ (S = (27, [some (.inr (.inr C)), some (.inl z), some (.inl i)], [], σ) ∧ (pa_elem h z i).1 = 2) ∨ (S = (51, [some (.inr (.inr C)), some (.inl z), some (.inl i)], [], σ) ∧ (pa_elem h z i).1 = 2)) ?_ ?_
  · show py_X 4 8 false cX8_element (0, [some (.inr (.inr C)), some (.inl z), some (.inl i)], [], σ) _
    refine pb112_0 (k := ?_)
    refine pe_M.up (k115 (d := 0) hD (fun rd => ?_) (fun rd => ?_)) (by omega)
    · refine pb112_4 (k1 := fun _ => ?_) (k2 := fun q => absurd q (by decide))
      have o4 : pe_R σ C 4 = C + 177 := pk_sR4 hF
      obtain ⟨o1, o2⟩ := hG.S.on hw.2.2 rd.1 rd.2
      refine pb112_18 (h0 := pk_sK hF) (h1 := by rw [o4, pk_sK4 hF]; omega) (h2 := rd.1) (h3 := by rw [o4, pk_sL4 hF]; omega) (k1 := fun q => ?_) (k2 := fun q => ?_)
      · rw [o4] at q
        have h2 : (h z).1 = 2 := by
          by_cases e : (h z).1 = 2
          · exact e
          · exact absurd (o1.mpr e) q
        have hW : pa_W h z = 0 := by
          unfold pa_W
          rw [if_neg (by omega), if_neg (by omega), if_neg (by omega)]
        obtain ⟨r1, -⟩ := hG.S.row (D := z) (by omega)
        obtain ⟨-, w2, -⟩ := hw.row (D := z) (by omega)
        have rK := r1.1.1
        refine pb112_38 (h0 := pk_sK hF) (h1 := by rw [o4, pk_sK4 hF]; omega) (h2 := rd.1) (h3 := by rw [o4, pk_sL4 hF]; omega) (h4 := by rw [o4]; exact rK) (k := ?_)
        rw [o4]
        refine pe_M.up (k58 (d := 0) r1 w2 hi (fun i0 i1 => ?_) (fun i1 => ?_)) (by omega)
        · refine pb112_48 (k1 := fun _ => ?_) (k2 := fun q => absurd q (by decide))
          refine pb112_62 (h0 := pk_sK hF) (h1 := by rw [o4, pk_sK4 hF]; omega) (h2 := rd.1) (h3 := by rw [o4, pk_sL4 hF]; omega) (h4 := by rw [o4]; exact rK) (k := ?_)
          rw [o4]
          refine pe_M.up (k60 (d := 0) r1 w2 hi ?_) (by omega)
          have ev : pt_at (h z).2.2 i = (h z).2.2.getD i.toNat 0 := by
            unfold pt_at
            rw [if_pos ⟨i0, i1⟩]
          have ee : pa_elem h z i = (0, (h z).2.2.getD i.toNat 0) := by
            unfold pa_elem
            rw [if_neg (by omega), if_neg (by omega)]
          have er := ((hw.2.2 z rd.1 rd.2).2.2 h2).2.2 i.toNat (by omega)
          refine pb112_72 (w0 := by rw [ev]; exact er.2.2) (k := ?_)
          exact py_end (Or.inl ⟨_, _, _, by rw [ev, ee], by rw [ee]⟩)
        · refine pb112_48 (k1 := fun q => absurd rfl q) (k2 := fun _ => ?_)
          refine py_end (Or.inr (Or.inr (Or.inr ⟨rfl, ?_⟩)))
          unfold pa_elem
          rw [if_neg (by omega), if_pos (Or.inr i1)]
      · rw [o4] at q
        refine py_end (Or.inr (Or.inr (Or.inl ⟨rfl, ?_⟩)))
        have h2 := o1.mp q
        have hW : pa_W h z = -11 ∨ pa_W h z = -12 := by
          unfold pa_W
          rw [if_neg (by omega)]
          by_cases e : (h z).1 = 0
          · rw [if_pos e]; exact Or.inl rfl
          · rw [if_neg e, if_pos h2]; exact Or.inr rfl
        unfold pa_elem
        rw [if_neg (by omega), if_pos (Or.inl (by omega))]
    · refine pb112_4 (k1 := fun q => absurd rfl q) (k2 := fun _ => ?_)
      refine py_end (Or.inr (Or.inl ⟨rfl, ?_⟩))
      unfold pa_elem pa_W
      rw [if_pos (show ¬ (0 ≤ z ∧ z ≤ 7) by omega), if_pos rfl]
  · intro p e s m args below meth c ⟨hx, hb, hr, hlk, hts, hown, hml, htab, hH, hE, h0⟩ S hS
    rcases hS with ⟨p0, p1, p2, rfl, w⟩ | ⟨rfl, w⟩ | ⟨rfl, w⟩ | ⟨rfl, w⟩
    · exact px_ret (S := (73, [p0, p1, p2], [.inr (.inl (pa_elem h z i).2)], σ)) hx hb hr hlk (show pe_ret (some .long) .lreturn _ = some ([], _) from rfl) trivial dx112_73 (Or.inl rfl) w
    · exact vx_mono (px_MQx (fun _ _ _ q => Or.inl q)) (px_thrSW hx hb hl hown hml (by decide) hts hE h0 hH px_2 px_TBk.2.2.1 px_TBk.2.2.2.1 hE.2.2.1.2.1 dx112_7.1 dx112_7.2.1 dx112_7.2.2.1 dx112_7.2.2.2.1 dx112_7.2.2.2.2 htab (by decide) (by decide) (by decide) (by decide) hlk w)
    · exact vx_mono (px_MQx (fun _ _ _ q => Or.inr q)) (px_thrSW hx hb hl hown hml (by decide) hts hE h0 hH px_3 px_TBk.2.2.2.2 px_TBk.2.1 hE.2.2.1.2.2.1 dx112_27.1 dx112_27.2.1 dx112_27.2.2.1 dx112_27.2.2.2.1 dx112_27.2.2.2.2 htab (by decide) (by decide) (by decide) (by decide) hlk w)
    · exact vx_mono (px_MQx (fun _ _ _ q => Or.inr q)) (px_thrSW hx hb hl hown hml (by decide) hts hE h0 hH px_3 px_TBk.2.2.2.2 px_TBk.2.1 hE.2.2.1.2.2.2 dx112_51.1 dx112_51.2.1 dx112_51.2.2.1 dx112_51.2.2.2.1 dx112_51.2.2.2.2 htab (by decide) (by decide) (by decide) (by decide) hlk w)
