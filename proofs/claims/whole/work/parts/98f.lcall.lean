/-! THE LAW's calls of toss and of its element -/
theorem px_tossQ (l : Launch) (hl : l.stackTraces = false) {D : va_G} {cA : Nat → ClassId} {b n0 : Nat} {H0 : Heap} {T U : Nat → Prop} {C : Nat} {σ : pe_H} {a : pa_M} {im : Option pa_M} {h : Int → pa_Sh} {z : Int} (hG : pg_G C T U σ a im h) (hw : pg_W a im h) (hD : -2147483648 ≤ z ∧ z < 2147483648) :
    Met l yX8_toss px_wsT px_rm2 (px_Pc D cA b n0 H0 [.inr (.inr C), .inl z] σ) (px_Qr D cA b n0 H0 (.inl (pa_aToss h z)) (fun τ => ∃ k, k ≤ 1 ∧ τ = pe_mo σ k 6)) 1 6 (fun q => n0 ≤ q) := met_mono (fun a s o t q => ⟨q.1, by obtain ⟨k, k1, k2⟩ := q.2; exact ⟨_, ⟨k, k1, rfl⟩, k2⟩⟩) (px_toss l hl hG hw hD)
section
variable {p : Program} {l : Launch} {e : Env} {R : Room} {s : State} {m : MethodId} {args : Array Value} {below : List Frame} {meth : Method} {c : Code} {Q : State → Prop} {cc : ByteArray}
variable {D : va_G} {cA : Nat → ClassId} {b n0 : Nat} {H0 : Heap} {nS uS nF uF nL : Nat}
theorem px_fin {H : Heap} {locs : List Loc} {σ : pe_H} {pc : Nat} {Ls : Array Slot} {ls : List (Option pe_V)} {st0 : List Value} {st : List pe_V} {v : pe_V} {Rl : pe_H → Prop} {a : Array Value} (run : va_Run p l e R s m args below meth c H locs (pe_n σ - nS) (pe_u σ - uS) 1 6 (F0 m pc Ls st0) (st.map (pe_e (pe_ad b n0))) (px_Qr D cA b n0 H0 v Rl a) (fun q => n0 ≤ q)) (h1 : nS ≤ pe_n σ) (h2 : uS ≤ pe_u σ) (h3 : ls.length = nL) (hs0 : s.heap.size + 2 = n0 + nS) (hL : pe_lv (pe_ad b n0) Ls ls) (hlocs : ∀ q ∈ locs, n0 ≤ q.base) (hR : ∀ τ, Rl τ → pe_n σ ≤ pe_n τ ∧ pe_u τ = pe_u σ + 6) (kk : ∀ τ, Rl τ → pe_PW p l e R s m args below meth c Q D cA b n0 H0 nS uS nF uF nL (pc + 3, ls, v :: st, τ)) : W p l e R s m args below meth c H locs (pe_n σ - nS) (pe_u σ - uS) Q (F0 m pc Ls st0) := by
  intro T hT X
  obtain ⟨v2, st₀, t, T', L, e0, X', hLL, e1, e2, ⟨hv, τ, hτ, hh⟩, go⟩ := run T hT X
  cases hv
  obtain ⟨r1, r2⟩ := hR τ hτ
  have hw := (kk τ hτ).2.2 (show nS ≤ pe_n τ by omega) (show uS ≤ pe_u τ by omega) h3 T'.heap Ls (locs ++ L) (by rw [e1]; exact hh) hL (fun q hq => by
    rcases List.mem_append.mp hq with w | w
    · exact hlocs q w
    · exact hLL q w)
  have hz := hh.2.2.1
  have hz2 := hh.2.1
  have X2 := stand_fit X' (k := pe_n τ - nS) (by rw [e1, hz]; omega)
  rw [show pe_u σ - uS + 6 = pe_u τ - uS by omega] at X2
  obtain ⟨t2, a1, a2⟩ := hw T' rfl X2
  exact ⟨t2, go t2 a1, a2⟩
theorem px_TBt0 : ([Cond.methodLink (pe_rn 10) 174 yX8_toss, Cond.instanceMethod yX8_toss, Cond.selects RX8 yX8_toss yX8_toss, Cond.initialized RX8, Cond.codeWith yX8_toss cX8_toss 4 (some .int) [(12, 23, 24, 302)], Cond.methodLink (pe_rn 10) 156 yL_element, Cond.static yL_element, Cond.initialized yL_element.cls, Cond.codeWith yL_element cL_element 5 (some .int) px_hE]).all (fun w => decide (w ∈ lw_tbl) && goodWord w) = true := by decide +kernel
theorem px_TBt1 {w : Cond} (h : w ∈ [Cond.methodLink (pe_rn 10) 174 yX8_toss, Cond.instanceMethod yX8_toss, Cond.selects RX8 yX8_toss yX8_toss, Cond.initialized RX8, Cond.codeWith yX8_toss cX8_toss 4 (some .int) [(12, 23, 24, 302)], Cond.methodLink (pe_rn 10) 156 yL_element, Cond.static yL_element, Cond.initialized yL_element.cls, Cond.codeWith yL_element cL_element 5 (some .int) px_hE]) : w ∈ pe_TB := by
  have h1 := List.all_eq_true.mp px_TBt0 w h
  simp only [Bool.and_eq_true, decide_eq_true_eq] at h1
  exact List.mem_filter.mpr h1
theorem px_gd {ws : List Cond} (h : ∀ w ∈ ws, w ∈ pe_TB) : GoodIn pe_TB ws := fun w hw => ⟨h w hw, good_of_word (List.mem_filter.mp (h w hw)).2⟩
theorem px_TBt : ∀ w ∈ wsV (pe_rn 10) 174 RX8 yX8_toss px_wsT, w ∈ pe_TB := fun w hw => by
  rcases List.mem_append.mp hw with q | q
  · exact px_TBt1 (by simp only [List.mem_cons, List.not_mem_nil, or_false] at q ⊢; rcases q with q | q | q | q <;> simp [q])
  · rcases List.mem_cons.mp q with q | q
    · exact px_TBt1 (by rw [q]; simp)
    · exact q
theorem px_TBe : ∀ w ∈ va_wsS (pe_rn 10) 156 yL_element px_wsE, w ∈ pe_TB := fun w hw => by
  rcases List.mem_append.mp hw with q | q
  · exact px_TBt1 (by simp only [List.mem_cons, List.not_mem_nil, or_false] at q ⊢; rcases q with q | q | q <;> simp [q])
  · rcases List.mem_cons.mp q with q | q
    · exact px_TBt1 (by rw [q]; simp)
    · exact q
theorem px_callT {rb : Nat} {v z : Int} {st : List pe_V} {σ : pe_H} {pc : Nat} {ls : List (Option pe_V)} {Rl : pe_H → Prop} (hx : p.tables.exec = Jvm.exec) (hb : c.code = cc) (hml : c.maxLocals = nL) (hts : ∀ w ∈ pe_TB, w.before args s = true) (hown : s.vm.findClass (pe_rn 10) = some m.cls) (hG : pe_G D cA s) (hN : pe_N s) (hE : px_E n0 H0 s) (h0 : H0.size = n0)
    (hK : pe_K σ rb = 8) (hq : pe_cat st ≤ 8) (hM : Met l yX8_toss px_wsT px_rm2 (px_Pc D cA b n0 H0 [.inr (.inr rb), .inl z] σ) (px_Qr D cA b n0 H0 (.inl v) Rl) 1 6 (fun q => n0 ≤ q)) (hfr : 21 ≤ R.frames) (hlo : 1100 ≤ R.locals)
    (hd : decode cc pc = .ok (.invokevirtual 174, 3)) (hc : pe_n σ - nS + 1 ≤ R.cells ∧ pe_u σ - uS + 6 ≤ R.slots) (hs0 : s.heap.size + 2 = n0 + nS) (hnF : pe_n σ ≤ nF) (huF : pe_u σ ≤ uF) (hR : ∀ τ, Rl τ → pe_n σ ≤ pe_n τ ∧ pe_u τ = pe_u σ + 6)
    (kk : ∀ τ, Rl τ → pe_PW p l e R s m args below meth c Q D cA b n0 H0 nS uS nF uF nL (pc + 3, ls, .inl v :: st, τ)) :
    pe_PW p l e R s m args below meth c Q D cA b n0 H0 nS uS nF uF nL (pc, ls, .inl z :: .inr (.inr rb) :: st, σ) := by
  refine ⟨hnF, huF, fun h1 h2 h3 H Ls locs hH hL hlocs => ?_⟩
  have hH : pe_Hd D cA b n0 H0 σ H := hH
  have hsz : Ls.size = nL := hL.1.trans h3
  obtain ⟨r0, -, hce⟩ := hH.2.2.2.2.2 rb (by rw [hK]; decide)
  obtain ⟨cell, g1, g2, g3, -⟩ := hce.1 (by rw [hK]; decide)
  have eb : pe_e (pe_ad b n0) (.inr (.inr rb)) = .ref (pe_ad b n0 rb) := pe_rf_pos _ r0
  have hPc : ∀ U : State, U.heap = H → s.WarmedH U.vm → px_Pc D cA b n0 H0 [.inr (.inr rb), .inl z] σ (Value.ref (pe_ad b n0 rb) :: [pe_e (pe_ad b n0) (.inl z)]).toArray U := fun U hU hW => ⟨⟨by rw [← eb]; rfl, by rw [hU]; exact hH, hG.moved hW.alike, hN.warm hW⟩, hE.warm hW, h0⟩
  have hcat : 2 * (F0 m pc Ls ((.inl z :: .inr (.inr rb) :: st : List pe_V).map (pe_e (pe_ad b n0)))).monitorRoom + ((st.map (pe_e (pe_ad b n0))).map fun v => v.category).sum ≤ 8 := by
    rw [pe_cat_ok]
    show 2 * 0 + _ ≤ 8
    omega
  have S0 : CallFix p m c cc nL s args pe_TB (pe_rn 10) := ⟨hx, hb, hml, hown, hts⟩
  have run := vx_runVW (e := e) (meth := meth) (below := below) (locs := locs) (cells := pe_n σ - nS) (slots := pe_u σ - uS) S0 hM (vx_cwVW (R := R) (C := RX8) (hh := [(12, 23, 24, 302)]) 1 hts (px_gd px_TBt) rfl rfl rfl ⟨rfl, by decide, by decide, by decide +kernel⟩ ⟨hfr, by show 8 + (4 + 11) + 1000 ≤ R.locals; omega⟩) (b := pe_ad b n0 rb) (As := [pe_e (pe_ad b n0) (.inl z)]) (rest := st.map (pe_e (pe_ad b n0))) ⟨px_blind, ⟨cell, g1, by rw [g3]; rfl, by rw [g2, hK]; exact (hG.1 8 (by decide)).2.1⟩, hPc⟩ rfl rfl hsz (by show List.map _ _ = _; rw [List.map_cons, List.map_cons, eb]; rfl) hcat hd hc
  exact px_fin run h1 h2 h3 hs0 hL hlocs hR kk
theorem px_callE {v : Int} {st as : List pe_V} {σ : pe_H} {pc : Nat} {ls : List (Option pe_V)} {Rl : pe_H → Prop} (hx : p.tables.exec = Jvm.exec) (hb : c.code = cc) (hml : c.maxLocals = nL) (hts : ∀ w ∈ pe_TB, w.before args s = true) (hown : s.vm.findClass (pe_rn 10) = some m.cls) (hG : pe_G D cA s) (hN : pe_N s) (hE : px_E n0 H0 s) (h0 : H0.size = n0)
    (hn : as.length = 4) (hq : pe_cat st ≤ 8) (hM : Met l yL_element px_wsE px_rm2 (px_Pc D cA b n0 H0 as σ) (px_Qr D cA b n0 H0 (.inl v) Rl) 1 6 (fun q => n0 ≤ q)) (hfr : 21 ≤ R.frames) (hlo : 1100 ≤ R.locals)
    (hd : decode cc pc = .ok (.invokestatic 156, 3)) (hc : pe_n σ - nS + 1 ≤ R.cells ∧ pe_u σ - uS + 6 ≤ R.slots) (hs0 : s.heap.size + 2 = n0 + nS) (hnF : pe_n σ ≤ nF) (huF : pe_u σ ≤ uF) (hR : ∀ τ, Rl τ → pe_n σ ≤ pe_n τ ∧ pe_u τ = pe_u σ + 6)
    (kk : ∀ τ, Rl τ → pe_PW p l e R s m args below meth c Q D cA b n0 H0 nS uS nF uF nL (pc + 3, ls, .inl v :: st, τ)) :
    pe_PW p l e R s m args below meth c Q D cA b n0 H0 nS uS nF uF nL (pc, ls, as.reverse ++ st, σ) := by
  refine ⟨hnF, huF, fun h1 h2 h3 H Ls locs hH hL hlocs => ?_⟩
  have hH : pe_Hd D cA b n0 H0 σ H := hH
  have hsz : Ls.size = nL := hL.1.trans h3
  have hPc : ∀ U : State, U.heap = H → s.WarmedH U.vm → px_Pc D cA b n0 H0 as σ (as.map (pe_e (pe_ad b n0))).toArray U := fun U hU hW => ⟨⟨rfl, by rw [hU]; exact hH, hG.moved hW.alike, hN.warm hW⟩, hE.warm hW, h0⟩
  have hcat : 2 * (F0 m pc Ls ((as.reverse ++ st : List pe_V).map (pe_e (pe_ad b n0)))).monitorRoom + ((st.map (pe_e (pe_ad b n0))).map fun v => v.category).sum ≤ 8 := by
    rw [pe_cat_ok]
    show 2 * 0 + _ ≤ 8
    omega
  have S0 : CallFix p m c cc nL s args pe_TB (pe_rn 10) := ⟨hx, hb, hml, hown, hts⟩
  have run := vx_runSW (e := e) (meth := meth) (below := below) (locs := locs) (cells := pe_n σ - nS) (slots := pe_u σ - uS) S0 hM (vx_cwSW (R := R) (hh := px_hE) 4 hts (px_gd px_TBe) rfl rfl rfl ⟨by decide, by decide, by decide +kernel⟩ ⟨hfr, by show 8 + (5 + 11) + 1000 ≤ R.locals; omega⟩) (As := as.map (pe_e (pe_ad b n0))) (rest := st.map (pe_e (pe_ad b n0))) ⟨px_blind, hPc⟩ rfl (by rw [List.length_map]; exact hn) hsz (by show List.map _ _ = _; rw [List.map_append, List.map_reverse]) hcat hd hc
  exact px_fin run h1 h2 h3 hs0 hL hlocs hR kk
end
