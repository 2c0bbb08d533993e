/-! The law's element: catches what StepMachines.element throws -/
def px_hE : List (Nat × Nat × Nat × Nat) := [(0, 9, 12, 13), (0, 9, 16, 15)]
def px_wsE : List Cond := Cond.codeWith yL_element cL_element 5 (some .int) px_hE :: pe_TB
def px_Qr (D : va_G) (cA : Nat → ClassId) (b n0 : Nat) (H0 : Heap) (v : pe_V) (Rl : pe_H → Prop) : Array Value → State → Outcome → State → Prop := fun _ _ o t => o = .returned (some (pe_e (pe_ad b n0) v)) ∧ ∃ τ, Rl τ ∧ pe_Hd D cA b n0 H0 τ t.heap
theorem met_mono {l : Launch} {y : MethodName} {ws : List Cond} {rm : Room} {Pc : Array Value → State → Prop} {Qc Qc' : Array Value → State → Outcome → State → Prop} {mc ms : Nat} {free : Addr → Prop} (hq : ∀ a s o t, Qc a s o t → Qc' a s o t) (h : Met l y ws rm Pc Qc mc ms free) : Met l y ws rm Pc Qc' mc ms free := by
  intro p e a1 a2 a3 s m args below b1 b2 b3 b4
  obtain ⟨n, o, h1, h2, h3, h4, h5⟩ := h p e a1 a2 a3 s m args below b1 b2 b3 b4
  exact ⟨n, o, h1, h2, h3, hq _ _ _ _ h4, h5⟩
section
variable {p : Program} {l : Launch} {e : Env} {R : Room} {s : State} {m : MethodId} {args : Array Value} {below : List Frame} {meth : Method} {c : Code} {cc : ByteArray}
variable {D : va_G} {cA : Nat → ClassId} {b n0 : Nat} {H0 : Heap} {nL : Nat}
theorem px_retr {σ τ : pe_H} {pc : Nat} {ls : List (Option pe_V)} {st : List pe_V} {φ0 : List Prop} {v : pe_V} {rt : Option FieldType} {i : Instr} {len : Nat} {Rl : pe_H → Prop} (hx : p.tables.exec = Jvm.exec) (hb : c.code = cc) (hr : meth.sig.returnType = rt) (hlocks : meth.locks = false) (hs : pe_ret rt i (pc, ls, st, τ) = some (φ0, some v)) (hφ : pe_all φ0) (hd0 : decode cc pc = .ok (i, len)) (hlen : pe_ln i = len ∨ pe_ln i = 0) (hn : pe_n τ ≤ pe_n σ + 1) (hu : pe_u τ ≤ pe_u σ + 6) (hR : Rl τ) :
    pe_PW p l e R s m args below meth c (vx_MQ below (px_Qr D cA b n0 H0 v Rl) (fun _ _ _ => False) args s 1 6 (fun q => n0 ≤ q)) D cA b n0 H0 (pe_n σ) (pe_u σ) (pe_n σ + 1) (pe_u σ + 6) nL (pc, ls, st, τ) := by
  refine (vx_mono (fun t ht => ?_) (pe_r_ret (S := (pc, ls, st, τ)) (nS := pe_n σ) (uS := pe_u σ) hx hb hr hlocks hs hφ hd0 hlen)).wide hn hu
  obtain ⟨o, b1, b2, ⟨b3, b4⟩, L, ⟨c1, c2, c3⟩, b5⟩ := ht
  refine ⟨o, b1, b2, Or.inl ⟨⟨b3, τ, hR, b4⟩, L, ⟨c1, c2, c3.mono ?_ ?_⟩, b5⟩⟩
  · show pe_n τ - pe_n σ ≤ 1; omega
  · show pe_u τ - pe_u σ ≤ 6; omega
end
theorem dx302 : decode cL_element 5 = .ok (.invokevirtual 7, 3) ∧ decode cL_element 12 = .ok (.astore 4, 2) ∧ decode cL_element 15 = .ok (.ireturn, 1) ∧ decode cL_element 16 = .ok (.astore 4, 2) ∧ decode cL_element 19 = .ok (.ireturn, 1) ∧ decode cL_element 21 = .ok (.ireturn, 1) := by decide +kernel
theorem px_TBl : Cond.classLink RL 13 px_IAE ∈ pe_TB ∧ Cond.classLink RL 15 px_ISE ∈ pe_TB := by
  unfold pe_TB
  simp only [List.mem_filter]
  decide +kernel
/-- what is left behind by the law's element -/
def px_Re (σ : pe_H) (O : Nat) (x : Int × Int) : pe_H → Prop := fun τ => (x.1 = 0 ∧ τ = pe_wI (pe_mo σ 0 6) O 0 x.2) ∨ (x.1 ≠ 0 ∧ ∃ k, k ≤ 1 ∧ τ = pe_mo σ k 6)
set_option maxRecDepth 10000 in
theorem px_lel (l : Launch) (hl : l.stackTraces = false) {D : va_G} {cA : Nat → ClassId} {b n0 : Nat} {H0 : Heap} {T U : Nat → Prop} {C O : Nat} {σ : pe_H} {a : pa_M} {im : Option pa_M} {h : Int → pa_Sh} {z i : Int} (hG : pg_G C T U σ a im h) (hw : pg_W a im h) (hD : -2147483648 ≤ z ∧ z < 2147483648) (hi : -2147483648 ≤ i ∧ i < 2147483648) (hO : pe_K σ O = 11 ∧ pe_L σ O = 1) (hO2 : 2 ≤ O ∧ O < σ.1) :
    Met l yL_element px_wsE px_rm2 (px_Pc D cA b n0 H0 [.inr (.inr C), .inl z, .inl i, .inr (.inr O)] σ) (px_Qr D cA b n0 H0 (.inl (pa_elem h z i).1) (px_Re σ O (pa_elem h z i))) 1 6 (fun q => n0 ≤ q) := by
  have hF := hG.F
  refine met_of_vx (vx_ofWH (cc := cL_element) (maxL := 5) (ret := some .int) (hh := px_hE) (by decide +kernel) rfl ?_)
  intro p e s m args below meth c s₁ B hml0 hPc
  obtain ⟨⟨hargs, hH, hGe, hN⟩, hE, h0⟩ := hPc
  have hts0 := atoms_spec (ws := px_wsE) B.pre
  have hts : ∀ w ∈ pe_TB, w.before args s = true := fun w h => hts0 w (List.mem_cons_of_mem _ h)
  have htab := vx_table (x := yL_element) B (hts0 _ List.mem_cons_self)
  have hown : s.vm.findClass (pe_rn 10) = some m.cls := findClass_of_methodNamed B.named
  have hx := B.exec
  have hb := B.bytes
  have hr := B.returns
  have hlk := B.notSynchronized
  have hs0 : s.heap.size + 2 = n0 + pe_n σ := by have := hH.2.1; have := hH.2.2.1; omega
  obtain ⟨X, hX⟩ : ∃ X, X = pa_elem h z i := ⟨_, rfl⟩
  have hfe := px_elem l hl (D := D) (cA := cA) (b := b) (n0 := n0) (H0 := H0) hG hw hD hi
  rw [← hX] at hfe ⊢
  have py {S : pe_S} {G : pe_S → Prop} (w : py_X 0 10 false cL_element S G) (k : ∀ S, G S → pe_PW p l e (headSpec px_wsE px_rm2).room s m args below meth c (vx_MQ below (px_Qr D cA b n0 H0 (.inl X.1) (px_Re σ O X)) (fun _ _ _ => False) args s 1 6 (fun q => n0 ≤ q)) D cA b n0 H0 (pe_n σ) (pe_u σ) (pe_n σ + 1) (pe_u σ + 6) 5 S) := py_PW (ini := false) (nS := pe_n σ) (uS := pe_u σ) (R := (headSpec px_wsE px_rm2).room) hx hb (show 1 ≤ 20 by omega) (show 100 ≤ 1000 by omega) hml0 (show pe_n σ + 1 - pe_n σ ≤ 1 by omega) (show pe_u σ + 6 - pe_u σ ≤ 6 by omega) hts hown (fun h => absurd h (by decide)) hGe hN w k
  have key : pe_PW p l e (headSpec px_wsE px_rm2).room s m args below meth c (vx_MQ below (px_Qr D cA b n0 H0 (.inl X.1) (px_Re σ O X)) (fun _ _ _ => False) args s 1 6 (fun q => n0 ≤ q)) D cA b n0 H0 (pe_n σ) (pe_u σ) (pe_n σ + 1) (pe_u σ + 6) 5 (0, [some (.inr (.inr C)), some (.inl z), some (.inl i), some (.inr (.inr O)), none], [], σ) := by
    refine py (G := fun S => S = (5, [some (.inr (.inr C)), some (.inl z), some (.inl i), some (.inr (.inr O)), none], [.inl i, .inl z, .inr (.inr C), .inl 0, .inr (.inr O)], σ)) (pb302_0 (k := py_end rfl)) ?_
    intro S hS
    subst hS
    refine px_callX (o := 10) (index := 7) (mi := 112) (pl := 992) (rb := C) (As := [.inl z, .inl i]) (st := [.inl 0, .inr (.inr O)]) (ψ := fun E => (E = px_IAE ∧ X.1 = 1) ∨ (E = px_ISE ∧ X.1 = 2)) hx hb hml0 hts hown hGe hN hE h0 rfl (by decide) rfl (by decide) (pk_sK hF) rfl (Nat.le_of_ble_eq_true rfl) (by decide) hfe (fun E s t q => ?_) (by decide) (by decide) dx302.1 ⟨(show pe_n σ - pe_n σ + 1 ≤ 1 by omega), (show pe_u σ - pe_u σ + 6 ≤ 6 by omega)⟩ hs0 (Nat.le_succ _) (Nat.le_add_right _ _) (fun e0 => ?_) (fun _ _ _ E hE9 => ?_)
    · rcases q with ⟨q1, q2, q3⟩ | ⟨q1, q2, q3⟩
      · exact ⟨Or.inl ⟨q1, q2⟩, q3⟩
      · exact ⟨Or.inr ⟨q1, q2⟩, q3⟩
    · have sO := pg_same_mo (k := 0) (u := 6) hO2.2
      refine py (G := fun S => S = (21, [some (.inr (.inr C)), some (.inl z), some (.inl i), some (.inr (.inr O)), none], [.inl 0], pe_wI (pe_mo σ 0 6) O 0 X.2)) (pb302_8 (h0 := by rw [sO.1]; exact hO.1) (h2 := by rw [sO.2.1, hO.2]; omega) (h3 := hO2.1) (k := pb302_20 (k := py_end rfl))) ?_
      intro S hS
      subst hS
      exact px_retr hx hb hr hlk (show pe_ret (some .int) .ireturn _ = some ([], some (.inl X.1)) by rw [e0]; rfl) trivial dx302.2.2.2.2.2 (Or.inl rfl) (Nat.le_succ _) (Nat.le_refl _) (Or.inl ⟨e0, rfl⟩)
    · rcases hE9 with ⟨rfl, f1⟩ | ⟨rfl, f1⟩
      · intro k H Ls locs q ce hk hHk hLs hlocs hce hcv hcl
        have K : pe_PW p l e (headSpec px_wsE px_rm2).room s m args below meth c (vx_MQ below (px_Qr D cA b n0 H0 (.inl X.1) (px_Re σ O X)) (fun _ _ _ => False) args s 1 6 (fun q => n0 ≤ q)) D cA b n0 H0 (pe_n σ) (pe_u σ) (pe_n σ + 1) (pe_u σ + 6) 5 (14, [some (.inr (.inr C)), some (.inl z), some (.inl i), some (.inr (.inr O)), none], [], pe_mo σ k 6) := by
          refine py (G := fun S => S = (15, [some (.inr (.inr C)), some (.inl z), some (.inl i), some (.inr (.inr O)), none], [.inl 1], pe_mo σ k 6)) (pb302_14 (k := py_end rfl)) ?_
          intro S hS
          subst hS
          exact px_retr hx hb hr hlk (show pe_ret (some .int) .ireturn _ = some ([], some (.inl X.1)) by rw [f1]; rfl) trivial dx302.2.2.1 (Or.inl rfl) (show pe_n σ + k ≤ pe_n σ + 1 by omega) (Nat.le_refl _) (Or.inr ⟨by omega, k, hk, rfl⟩)
        refine vx_catch (own := RL) (name := px_IAE) hown [] ⟨0, 9, 12, 13⟩ [⟨0, 9, 16, 15⟩] htab (fun z hz => by cases hz) (by decide) (by decide) (hts _ px_TBl.1) (va_Nw.use (px_Bok _ px_cast.2).2 (hE.1 _ px_cast.2)) hce hcv hcl ?_
        refine lv_astore hx hb (i := 4) (nL := 5) dx302.2.1 (pe_lv_has hLs) (by decide) rfl (fun ls' hl' => ?_)
        exact K.2.2 (Nat.le_add_right _ _) (Nat.le_add_right _ _) rfl H ls' locs hHk (pe_lv_stN (ls := [some (.inr (.inr C)), some (.inl z), some (.inl i), some (.inr (.inr O)), none]) (i := 4) hl') hlocs
      · intro k H Ls locs q ce hk hHk hLs hlocs hce hcv hcl
        have K : pe_PW p l e (headSpec px_wsE px_rm2).room s m args below meth c (vx_MQ below (px_Qr D cA b n0 H0 (.inl X.1) (px_Re σ O X)) (fun _ _ _ => False) args s 1 6 (fun q => n0 ≤ q)) D cA b n0 H0 (pe_n σ) (pe_u σ) (pe_n σ + 1) (pe_u σ + 6) 5 (18, [some (.inr (.inr C)), some (.inl z), some (.inl i), some (.inr (.inr O)), none], [], pe_mo σ k 6) := by
          refine py (G := fun S => S = (19, [some (.inr (.inr C)), some (.inl z), some (.inl i), some (.inr (.inr O)), none], [.inl 2], pe_mo σ k 6)) (pb302_18 (k := py_end rfl)) ?_
          intro S hS
          subst hS
          exact px_retr hx hb hr hlk (show pe_ret (some .int) .ireturn _ = some ([], some (.inl X.1)) by rw [f1]; rfl) trivial dx302.2.2.2.2.1 (Or.inl rfl) (show pe_n σ + k ≤ pe_n σ + 1 by omega) (Nat.le_refl _) (Or.inr ⟨by omega, k, hk, rfl⟩)
        refine vx_catch (own := RL) (name := px_ISE) hown [⟨0, 9, 12, 13⟩] ⟨0, 9, 16, 15⟩ [] htab (fun z hz => ?_) (by decide) (by decide) (hts _ px_TBl.2) (va_Nw.use (px_Bok _ px_cast.1).2 (hE.1 _ px_cast.1)) hce hcv hcl ?_
        · rw [List.mem_singleton] at hz
          subst hz
          exact Or.inr ⟨by decide, px_IAE, hts _ px_TBl.1, hE.2.1⟩
        refine lv_astore hx hb (i := 4) (nL := 5) dx302.2.2.2.1 (pe_lv_has hLs) (by decide) rfl (fun ls' hl' => ?_)
        exact K.2.2 (Nat.le_add_right _ _) (Nat.le_add_right _ _) rfl H ls' locs hHk (pe_lv_stN (ls := [some (.inr (.inr C)), some (.inl z), some (.inl i), some (.inr (.inr O)), none]) (i := 4) hl') hlocs
  have hw0 := key.2.2 (Nat.le_refl _) (Nat.le_refl _) rfl s.heap _ [] hH (pe_entry (pe_ad b n0) [.inr (.inr C), .inl z, .inl i, .inr (.inr O)] 5 (Nat.le_of_ble_eq_true rfl)) (fun q hq => by cases hq)
  rw [hargs, lg_entry_eq]
  rw [hargs] at hw0
  simp only [Nat.sub_self] at hw0
  exact hw0
