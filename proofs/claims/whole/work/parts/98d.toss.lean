/-! StepMachines.toss: catches what fail throws -/
def px_rm2 : Room := { frames := 20, cells := 1, slots := 6, locals := 1000 }
def px_wsT : List Cond := Cond.codeWith yX8_toss cX8_toss 4 (some .int) [(12, 23, 24, 302)] :: pe_TB
def px_Qk (D : va_G) (cA : Nat → ClassId) (b n0 : Nat) (H0 : Heap) (v : pe_V) (σ : pe_H) : Array Value → State → Outcome → State → Prop := fun _ _ o t => o = .returned (some (pe_e (pe_ad b n0) v)) ∧ ∃ k, k ≤ 1 ∧ pe_Hd D cA b n0 H0 (pe_mo σ k 6) t.heap
theorem pe_PW.wide {p : Program} {l : Launch} {e : Env} {R : Room} {s : State} {m : MethodId} {args : Array Value} {below : List Frame} {meth : Method} {c : Code} {D : va_G} {cA : Nat → ClassId} {b n0 : Nat} {H0 : Heap} {nS uS nF uF nF' uF' nL : Nat} {S : pe_S} {Q : State → Prop} (h1 : nF ≤ nF') (h2 : uF ≤ uF') (h : pe_PW p l e R s m args below meth c Q D cA b n0 H0 nS uS nF uF nL S) : pe_PW p l e R s m args below meth c Q D cA b n0 H0 nS uS nF' uF' nL S := ⟨Nat.le_trans h.1 h1, Nat.le_trans h.2.1 h2, h.2.2⟩
section
variable {p : Program} {l : Launch} {e : Env} {R : Room} {s : State} {m : MethodId} {args : Array Value} {below : List Frame} {meth : Method} {c : Code} {cc : ByteArray}
variable {D : va_G} {cA : Nat → ClassId} {b n0 : Nat} {H0 : Heap} {nL : Nat}
/-- an answer of such a method -/
theorem px_retk {σ τ : pe_H} {pc : Nat} {ls : List (Option pe_V)} {st : List pe_V} {φ0 : List Prop} {v : pe_V} {rt : Option FieldType} {i : Instr} {len : Nat} (hx : p.tables.exec = Jvm.exec) (hb : c.code = cc) (hr : meth.sig.returnType = rt) (hlocks : meth.locks = false) (hs : pe_ret rt i (pc, ls, st, τ) = some (φ0, some v)) (hφ : pe_all φ0) (hd0 : decode cc pc = .ok (i, len)) (hlen : pe_ln i = len ∨ pe_ln i = 0) (hn : pe_n τ ≤ pe_n σ + 1) (hu : pe_u τ ≤ pe_u σ + 6) (hH : ∀ H, pe_Hd D cA b n0 H0 τ H → ∃ k, k ≤ 1 ∧ pe_Hd D cA b n0 H0 (pe_mo σ k 6) H) :
    pe_PW p l e R s m args below meth c (vx_MQ below (px_Qk D cA b n0 H0 v σ) (fun _ _ _ => False) args s 1 6 (fun q => n0 ≤ q)) D cA b n0 H0 (pe_n σ) (pe_u σ) (pe_n σ + 1) (pe_u σ + 6) nL (pc, ls, st, τ) := by
  refine (vx_mono (fun t ht => ?_) (pe_r_ret (S := (pc, ls, st, τ)) (nS := pe_n σ) (uS := pe_u σ) hx hb hr hlocks hs hφ hd0 hlen)).wide hn hu
  obtain ⟨o, b1, b2, ⟨b3, b4⟩, L, ⟨c1, c2, c3⟩, b5⟩ := ht
  refine ⟨o, b1, b2, Or.inl ⟨⟨b3, hH _ b4⟩, L, ⟨c1, c2, c3.mono ?_ ?_⟩, b5⟩⟩
  · show pe_n τ - pe_n σ ≤ 1; omega
  · show pe_u τ - pe_u σ ≤ 6; omega
end
theorem pe_Hd.mo0 {D : va_G} {cA : Nat → ClassId} {b n0 : Nat} {H0 H : Heap} {σ : pe_H} (h : pe_Hd D cA b n0 H0 σ H) : ∃ k, k ≤ 1 ∧ pe_Hd D cA b n0 H0 (pe_mo σ k 6) H := ⟨0, by decide, h.mo rfl (fun _ _ => rfl)⟩
theorem pg_same_mo {σ : pe_H} {k u x : Nat} (hx : x < σ.1) : pg_same σ (pe_mo σ k u) x := ⟨if_neg (by omega), rfl, fun _ => ⟨rfl, rfl⟩⟩
theorem dx301 : decode cX8_toss 11 = .ok (.ireturn, 1) ∧ decode cX8_toss 18 = .ok (.invokevirtual 328, 3) ∧ decode cX8_toss 23 = .ok (.ireturn, 1) ∧ decode cX8_toss 24 = .ok (.astore_n 3, 1) ∧ decode cX8_toss 34 = .ok (.ireturn, 1) := by decide +kernel
theorem px_cast : Cond.castable px_ISE px_ISE ∈ px_B ∧ Cond.castable px_IAE px_IAE ∈ px_B := by
  unfold px_B
  simp only [List.mem_filter]
  decide +kernel
set_option maxRecDepth 10000 in
theorem px_toss (l : Launch) (hl : l.stackTraces = false) {D : va_G} {cA : Nat → ClassId} {b n0 : Nat} {H0 : Heap} {T U : Nat → Prop} {C : Nat} {σ : pe_H} {a : pa_M} {im : Option pa_M} {h : Int → pa_Sh} {z : Int} (hG : pg_G C T U σ a im h) (hw : pg_W a im h) (hD : -2147483648 ≤ z ∧ z < 2147483648) :
    Met l yX8_toss px_wsT px_rm2 (px_Pc D cA b n0 H0 [.inr (.inr C), .inl z] σ) (px_Qk D cA b n0 H0 (.inl (pa_aToss h z)) σ) 1 6 (fun q => n0 ≤ q) := by
  have hF := hG.F
  have hCn : C + 875 ≤ σ.1 := hG.2.1.2.2
  have o3 : pe_R σ C 3 = C + 176 := pk_sR3 hF
  refine met_of_vx (vx_ofWH (cc := cX8_toss) (maxL := 4) (ret := some .int) (hh := [(12, 23, 24, 302)]) (by decide +kernel) rfl ?_)
  intro p e s m args below meth c s₁ B hml0 hPc
  obtain ⟨⟨hargs, hH, hGe, hN⟩, hE, h0⟩ := hPc
  have hts0 := atoms_spec (ws := px_wsT) B.pre
  have hts : ∀ w ∈ pe_TB, w.before args s = true := fun w h => hts0 w (List.mem_cons_of_mem _ h)
  have htab := vx_table (x := yX8_toss) B (hts0 _ List.mem_cons_self)
  have hown : s.vm.findClass (pe_rn 8) = some m.cls := findClass_of_methodNamed B.named
  have hx := B.exec
  have hb := B.bytes
  have hr := B.returns
  have hlk := B.notSynchronized
  have hs0 : s.heap.size + 2 = n0 + pe_n σ := by have := hH.2.1; have := hH.2.2.1; omega
  have py {d : Nat} {S : pe_S} {G : pe_S → Prop} (hd : d ≤ 8) (w : py_X d 8 false cX8_toss S G) (k : ∀ S, G S → pe_PW p l e (headSpec px_wsT px_rm2).room s m args below meth c (vx_MQ below (px_Qk D cA b n0 H0 (.inl (pa_aToss h z)) σ) (fun _ _ _ => False) args s 1 6 (fun q => n0 ≤ q)) D cA b n0 H0 (pe_n σ) (pe_u σ) (pe_n σ + 1) (pe_u σ + 6) 4 S) := py_PW (ini := false) (nS := pe_n σ) (uS := pe_u σ) (R := (headSpec px_wsT px_rm2).room) hx hb (show d + 1 ≤ 20 by omega) (show 40 * d + 100 ≤ 1000 by omega) hml0 (show pe_n σ + 1 - pe_n σ ≤ 1 by omega) (show pe_u σ + 6 - pe_u σ ≤ 6 by omega) hts hown (fun h => absurd h (by decide)) hGe hN w k
  have key : pe_PW p l e (headSpec px_wsT px_rm2).room s m args below meth c (vx_MQ below (px_Qk D cA b n0 H0 (.inl (pa_aToss h z)) σ) (fun _ _ _ => False) args s 1 6 (fun q => n0 ≤ q)) D cA b n0 H0 (pe_n σ) (pe_u σ) (pe_n σ + 1) (pe_u σ + 6) 4 (0, [some (.inr (.inr C)), some (.inl z), none, none], [], σ) := by
    refine py (d := 4) (by decide) (G := fun S => (S = (11, [some (.inr (.inr C)), some (.inl z), some (.inl (pa_K h z)), none], [.inl (pa_K h z)], σ) ∧ pa_K h z < 0) ∨ (S = (18, [some (.inr (.inr C)), some (.inl z), some (.inl (pa_K h z)), none], [.inr (.inr (pe_R σ (C + 176) z))], σ) ∧ ¬ pa_K h z < 0)) ?_ ?_
    · refine pb301_0 (h0 := pk_sK hF) (k := ?_)
      refine pe_M.up (k120 (d := 0) hF hG.S hw.2.2 hD ?_) (by omega)
      have hb2 : -12 ≤ pa_K h z ∧ pa_K h z ≤ 0 := by
        unfold pa_K
        split
        · omega
        · split
          · omega
          · split <;> omega
      refine pb301_5 (k1 := fun q => ?_) (k2 := fun q => ?_)
      · obtain ⟨⟨d0, d8⟩, -⟩ := pa_K_0 (h := h) (d := z) hw.2.2 (by omega)
        refine pb301_12 (h0 := pk_sK hF) (h1 := by rw [o3, pk_sK3 hF]; omega) (h2 := d0) (h3 := by rw [o3, pk_sL3 hF]; omega) (k := ?_)
        rw [o3]
        exact py_end (Or.inr ⟨rfl, by omega⟩)
      · refine pb301_10 (k := ?_)
        exact py_end (Or.inl ⟨rfl, by omega⟩)
    · intro S hS
      rcases hS with ⟨rfl, hK⟩ | ⟨rfl, hK⟩
      · have e1 : pa_aToss h z = pa_K h z := by unfold pa_aToss; rw [if_pos hK]
        rw [e1]
        exact px_retk hx hb hr hlk (show pe_ret (some .int) .ireturn _ = some ([], _) from rfl) trivial dx301.1 (Or.inl rfl) (Nat.le_succ _) (Nat.le_add_right _ _) (fun H hq => hq.mo0)
      · obtain ⟨⟨d0, d8⟩, m1, m2, m3, m4, m5⟩ := hG.S.man hw.2.2 hK
        have hP := hG.2.1.1 _ m1
        have ex : pa_aToss h z = if (h z).2.1.1 = 2 ∨ (h z).2.1.1 = 4 ∨ (h z).2.1.2 = 0 then -15 else if (h z).2.1.1 = 0 then (h z).2.1.2 else if (h z).2.1.1 = 5 then 200 + pa_cost (h z).2.1.1 (h z).2.1.2 else 100 + (h z).2.1.2 := by unfold pa_aToss; rw [if_neg hK]
        refine px_callX (o := 8) (index := 328) (mi := 46) (pl := 911) (rb := pe_R σ (C + 176) z) (As := []) (st := []) (r := none) (ψ := fun E => E = px_ISE ∧ px_f σ (pe_R σ (C + 176) z)) hx hb hml0 hts hown hGe hN hE h0 rfl (by decide) rfl (by decide) m2 rfl (by decide) (by decide) (px_fail l hl m2 (by omega) (by omega)) (fun E s t q => ⟨⟨q.1, q.2.1⟩, q.2.2⟩) (by decide) (by decide) dx301.2.1 ⟨(show pe_n σ - pe_n σ + 1 ≤ 1 by omega), (show pe_u σ - pe_u σ + 6 ≤ 6 by omega)⟩ hs0 (Nat.le_succ _) (Nat.le_add_right _ _) (fun nf => ?_) (fun _ _ _ E hE9 => ?_)
        · have e1 : pa_aToss h z = -15 := by
            rw [ex, if_pos]
            by_cases u1 : (h z).2.1.1 = 2
            · exact Or.inl u1
            · by_cases u2 : (h z).2.1.1 = 4
              · exact Or.inr (Or.inl u2)
              · by_cases u3 : (h z).2.1.2 = 0
                · exact Or.inr (Or.inr u3)
                · exact absurd ⟨by omega, by omega, by omega⟩ nf
          rw [e1] at py ⊢
          refine py (d := 0) (by decide) (G := fun S => S = (23, [some (.inr (.inr C)), some (.inl z), some (.inl (pa_K h z)), none], [.inl (-15)], pe_mo σ 0 6)) (pb301_21 (k := py_end rfl)) ?_
          intro S hS
          subst hS
          exact px_retk hx hb hr hlk (show pe_ret (some .int) .ireturn _ = some ([], _) from rfl) trivial dx301.2.2.1 (Or.inl rfl) (Nat.le_succ _) (Nat.le_refl _) (fun H hq => ⟨0, by decide, hq⟩)
        · obtain ⟨rfl, f1, f2, f3⟩ := hE9
          intro k H Ls locs q ce hk hHk hLs hlocs hce hcv hcl
          have e1 : pa_aToss h z = (if (h z).2.1.1 = 1 ∨ (h z).2.1.1 = 3 then (h z).2.1.2 + 100 else if (h z).2.1.1 = 5 then 200 + pa_cost (h z).2.1.1 (h z).2.1.2 else (h z).2.1.2) := by
            rw [ex, if_neg (by omega)]
            by_cases u0 : (h z).2.1.1 = 0
            · rw [if_pos u0, if_neg (by omega), if_neg (by omega)]
            · rw [if_neg u0]
              by_cases u5 : (h z).2.1.1 = 5
              · rw [if_pos u5, if_neg (by omega), if_pos u5]
              · rw [if_neg u5, if_pos (by omega)]; omega
          have sm : ∀ x, x < σ.1 → pg_same σ (pe_mo σ k 6) x := fun x hx => pg_same_mo hx
          have sC := sm C (by omega)
          have s6 := sm (C + 176) (by omega)
          have sP := sm _ hP.2
          have o3' : pe_R (pe_mo σ k 6) C 3 = C + 176 := ((sC.2.2 3).2).trans o3
          have oP : pe_R (pe_mo σ k 6) (C + 176) z = pe_R σ (C + 176) z := (s6.2.2 z).2
          have K : pe_PW p l e (headSpec px_wsT px_rm2).room s m args below meth c (vx_MQ below (px_Qk D cA b n0 H0 (.inl (pa_aToss h z)) σ) (fun _ _ _ => False) args s 1 6 (fun q => n0 ≤ q)) D cA b n0 H0 (pe_n σ) (pe_u σ) (pe_n σ + 1) (pe_u σ + 6) 4 (25, [some (.inr (.inr C)), some (.inl z), some (.inl (pa_K h z)), none], [], pe_mo σ k 6) := by
            rw [e1] at py ⊢
            refine py (d := 4) (by decide) (G := fun S => S = (34, [some (.inr (.inr C)), some (.inl z), some (.inl (pa_K h z)), none], [.inl (if (h z).2.1.1 = 1 ∨ (h z).2.1.1 = 3 then (h z).2.1.2 + 100 else if (h z).2.1.1 = 5 then 200 + pa_cost (h z).2.1.1 (h z).2.1.2 else (h z).2.1.2)], pe_mo σ k 6)) ?_ ?_
            · refine pb301_25 (h0 := by rw [sC.1]; exact pk_sK hF) (h1 := by rw [o3', s6.1, pk_sK3 hF]; omega) (h2 := d0) (h3 := by rw [o3', s6.2.1, pk_sL3 hF]; omega) (h4 := by rw [o3', oP, sP.1]; exact m2) (k := ?_)
              rw [o3', oP]
              refine pe_M.up (k47 (d := 0) (by rw [sP.1]; exact m2) (((sP.2.2 0).1).trans m3) (((sP.2.2 1).1).trans m4) ⟨m5.1, m5.2.1, m5.2.2.1, m5.2.2.2⟩ ?_) (by omega)
              exact py_end rfl
            · intro S hS
              subst hS
              exact px_retk hx hb hr hlk (show pe_ret (some .int) .ireturn _ = some ([], _) from rfl) trivial dx301.2.2.2.2 (Or.inl rfl) (show pe_n σ + k ≤ pe_n σ + 1 by omega) (Nat.le_refl _) (fun H hq => ⟨k, hk, hq⟩)
          refine vx_catch (own := RX8) (name := px_ISE) hown [] ⟨12, 23, 24, 302⟩ [] htab (fun z hz => by cases hz) (by decide) (by decide) (hts _ px_TBk.2.2.2.2) (va_Nw.use (px_Bok _ px_cast.1).2 (hE.1 _ px_cast.1)) hce hcv hcl ?_
          refine lv_astore_n hx hb (k := 3) (i := 3) (nL := 4) dx301.2.2.2.1 rfl (pe_lv_has hLs) (by decide) rfl (fun ls' hl' => ?_)
          exact K.2.2 (Nat.le_add_right _ _) (Nat.le_add_right _ _) rfl H ls' locs hHk (pe_lv_stN (ls := [some (.inr (.inr C)), some (.inl z), some (.inl (pa_K h z)), none]) (i := 3) hl') hlocs
  have hw0 := key.2.2 (Nat.le_refl _) (Nat.le_refl _) rfl s.heap _ [] hH (pe_entry (pe_ad b n0) [.inr (.inr C), .inl z] 4 (Nat.le_of_ble_eq_true rfl)) (fun q hq => by cases hq)
  rw [hargs, lg_entry_eq]
  rw [hargs] at hw0
  simp only [Nat.sub_self] at hw0
  exact hw0
