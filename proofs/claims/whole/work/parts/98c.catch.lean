/-! CALLING WHAT MAY THROW, CATCHING -/
theorem pe_lv_stN {ad : Nat → Nat} {Ls' : Array Slot} {ls : List (Option pe_V)} {i : Nat} {w0 : Value}
    (h : lv_has Ls' ls.length ((i, w0) :: (pe_kn ad ls).filter (fun q => !(q.1 == i) && !(q.1 + 1 == i && q.2.category == 2)))) : pe_lv ad Ls' (pe_sto (pe_kil ls i) i none) := by
  refine ⟨by rw [pe_sto_len, pe_kil_len]; exact h.1, h.2.1, fun j w hj => ?_⟩
  rw [pe_ld_sto] at hj
  by_cases hji : j = i
  · subst hji
    rw [if_pos rfl] at hj
    split at hj <;> cases hj
  · rw [if_neg hji] at hj
    obtain ⟨h1, h2⟩ := pe_ld_kil hj
    refine h.2.2 (j, pe_e ad w) (List.mem_cons_of_mem _ (List.mem_filter.mpr ⟨pe_kn_mem h1, ?_⟩))
    by_cases hn : j + 1 = i
    · simp [hji, pe_cat_e (ad := ad) (h2 hn)]
    · simp [hji, hn]
theorem met_of_vx {l : Launch} {y : MethodName} {ws : List Cond} {rm : Room} {Pc : Array Value → State → Prop} {Qc : Array Value → State → Outcome → State → Prop} {mc ms : Nat} {free : Addr → Prop} (h : vx_Met l y ws rm Pc Qc (fun _ _ _ => False) mc ms free) : Met l y ws rm Pc Qc mc ms free := by
  intro p e a1 a2 a3 s m args below b1 b2 b3 b4
  obtain ⟨n, o, h1, h2, h3, h4⟩ := h p e a1 a2 a3 s m args below b1 b2 b3 b4
  rcases h4 with w | ⟨q, -, E, ce, L, w, -⟩
  · exact ⟨n, o, h1, h2, h3, w⟩
  · exact w.elim
section
variable {p : Program} {l : Launch} {e : Env} {R : Room} {s : State} {m : MethodId} {args : Array Value} {below : List Frame} {meth : Method} {c : Code} {Q : State → Prop} {cc : ByteArray}
variable {D : va_G} {cA : Nat → ClassId} {b n0 : Nat} {H0 : Heap} {nS uS nF uF nL : Nat}
/-- what a throwing call leaves -/
def px_Thr (p : Program) (l : Launch) (e : Env) (R : Room) (s : State) (m : MethodId) (args : Array Value) (below : List Frame) (meth : Method) (c : Code) (Q : State → Prop) (D : va_G) (cA : Nat → ClassId) (b n0 : Nat) (H0 : Heap) (nS uS : Nat) (E : String) (pc : Nat) (ls : List (Option pe_V)) (st : List pe_V) (σ : pe_H) : Prop := ∀ (k : Nat) (H : Heap) (Ls : Array Slot) (locs : List Loc) (q : Addr) (ce : Cell), k ≤ 1 → pe_Hd D cA b n0 H0 (pe_mo σ k 6) H → pe_lv (pe_ad b n0) Ls ls → (∀ q ∈ locs, n0 ≤ q.base) → H[q]? = some ce → ce.vm = .none → s.vm.findClass E = some ce.cls → vx_W p l e R s m args below meth c H locs (pe_n σ + k - nS) (pe_u σ + 6 - uS) Q (F0 m pc Ls (st.map (pe_e (pe_ad b n0)))) q
set_option maxRecDepth 10000 in
theorem px_callX {o index mi pl : Nat} {rb : Nat} {As st : List pe_V} {σ : pe_H} {r : Option pe_V} {φr : Prop} {XC : String → State → State → Prop} {ψ : String → Prop} {pc : Nat} {ls : List (Option pe_V)} (hx : p.tables.exec = Jvm.exec) (hb : c.code = cc) (hml : c.maxLocals = nL) (hts : ∀ w ∈ pe_TB, w.before args s = true) (hown : s.vm.findClass (pe_rn o) = some m.cls) (hG : pe_G D cA s) (hN : pe_N s) (hE : px_E n0 H0 s) (h0 : H0.size = n0)
    (hg : pe_go (pe_iT o) index = some (mi, pl)) (hmi : mi ≠ pe_ml) (ht : (pe_me mi).2.2.2.2.2.1 = 0) (ho : (pe_me mi).2.2.2.2.1 < 10) (hK : pe_K σ rb = (pe_me mi).2.2.2.2.1) (hn : As.length = (pe_me mi).2.2.2.2.2.2.2.1) (hq : pe_cat st ≤ 8) (hmax : (pe_me mi).2.2.1 ≤ 10)
    (hM : vx_Met l (pe_me mi).1 (pe_ws mi) px_rm (px_Pc D cA b n0 H0 (.inr (.inr rb) :: As) σ) (px_Qc D cA b n0 H0 r σ φr) XC 1 6 (fun q => n0 ≤ q)) (hXC : ∀ E s t, XC E s t → ψ E ∧ ∃ k, pe_Hd D cA b n0 H0 (pe_mo σ k 6) t.heap) (hfr : 11 ≤ R.frames) (hlo : 500 ≤ R.locals)
    (hd : decode cc pc = .ok (.invokevirtual index, 3)) (hc : pe_n σ - nS + 1 ≤ R.cells ∧ pe_u σ - uS + 6 ≤ R.slots) (hs0 : s.heap.size + 2 = n0 + nS) (hnF : pe_n σ ≤ nF) (huF : pe_u σ ≤ uF)
    (ok : φr → pe_PW p l e R s m args below meth c Q D cA b n0 H0 nS uS nF uF nL (pc + 3, ls, r.toList ++ st, pe_mo σ 0 6)) (thr : ls.length = nL → nS ≤ pe_n σ → uS ≤ pe_u σ → ∀ E, ψ E → px_Thr p l e R s m args below meth c Q D cA b n0 H0 nS uS E pc ls st σ) :
    pe_PW p l e R s m args below meth c Q D cA b n0 H0 nS uS nF uF nL (pc, ls, (.inr (.inr rb) :: As).reverse ++ st, σ) := by
  refine ⟨hnF, huF, fun h1 h2 h3 H Ls locs hH hL hlocs => ?_⟩
  have h1 : nS ≤ pe_n σ := h1
  have h2 : uS ≤ pe_u σ := h2
  have hH : pe_Hd D cA b n0 H0 σ H := hH
  have hsz : Ls.size = nL := hL.1.trans h3
  obtain ⟨hlk, hmn⟩ := pe_iok _ _ _ _ hg
  have hok := pe_mok_all mi hmn hmi
  obtain ⟨k1, k2, k3, k4, k5, k6, k7, k8, k9, k10, k11⟩ := pe_mokP hok
  rw [if_neg (by omega)] at k2
  obtain ⟨r0, -, hce⟩ := hH.2.2.2.2.2 rb (by rw [hK]; exact Nat.lt_trans ho (by decide))
  obtain ⟨cell, g1, g2, g3, -⟩ := hce.1 (by rw [hK]; exact ho)
  have hC : (pe_me mi).1.cls = (pe_cl (pe_me mi).2.2.2.2.1).1 := by
    rw [k5]
    have hz : ∀ q, q < 10 → (pe_cl q).1 = pe_rn q := by decide +kernel
    exact (hz _ ho).symm
  have hstk : (F0 m pc Ls (((.inr (.inr rb) :: As).reverse ++ st).map (pe_e (pe_ad b n0)))).stack = (As.map (pe_e (pe_ad b n0))).reverse ++ .ref (pe_ad b n0 rb) :: st.map (pe_e (pe_ad b n0)) := by
    show List.map _ _ = _
    simp only [List.reverse_cons, List.map_append, List.map_cons, List.map_nil, List.append_assoc, List.singleton_append, List.map_reverse]
    rw [show pe_e (pe_ad b n0) (.inr (.inr rb)) = .ref (pe_ad b n0 rb) from pe_rf_pos _ r0]
  have hargs : ((.inr (.inr rb) :: As : List pe_V).map (pe_e (pe_ad b n0))) = .ref (pe_ad b n0 rb) :: As.map (pe_e (pe_ad b n0)) := by
    rw [List.map_cons, show pe_e (pe_ad b n0) (.inr (.inr rb)) = .ref (pe_ad b n0 rb) from pe_rf_pos _ r0]
  have hPc : ∀ U : State, U.heap = H → s.WarmedH U.vm → px_Pc D cA b n0 H0 (.inr (.inr rb) :: As) σ ((.inr (.inr rb) :: As : List pe_V).map (pe_e (pe_ad b n0))).toArray U := fun U hU hW => ⟨⟨rfl, by rw [hU]; exact hH, hG.moved hW.alike, hN.warm hW⟩, hE.warm hW, h0⟩
  have hcb : CallB R s args (pe_rn o) index (pe_me mi).1 (pe_me mi).2.1 (pe_me mi).2.2.1 (pe_me mi).2.2.2.1 (pe_ws mi) px_rm 1 6 (pe_me mi).2.2.2.2.2.2.2.1 := by
    refine ⟨rfl, rfl, hfr, ?_, pay_in hts (pe_wsgood hok), List.mem_cons_self, hts _ (pe_tb k1 rfl), hts _ (pe_tb k4 rfl), k9, fun sig h => ?_, hts _ hlk⟩
    · show 8 + ((pe_me mi).2.2.1 + 11) + 400 ≤ _
      omega
    · rw [h] at k10
      exact (Option.some.inj k10).symm
  have S0 : CallFix p m c cc nL s args pe_TB (pe_rn o) := ⟨hx, hb, hml, hown, hts⟩
  have hcat : 2 * (F0 m pc Ls (((.inr (.inr rb) :: As).reverse ++ st).map (pe_e (pe_ad b n0)))).monitorRoom + ((st.map (pe_e (pe_ad b n0))).map fun v => v.category).sum ≤ 8 := by
    rw [pe_cat_ok]
    show 2 * 0 + _ ≤ 8
    omega
  rw [hargs] at hPc
  have run := vx_runV (e := e) (meth := meth) (below := below) (locs := locs) (cells := pe_n σ - nS) (slots := pe_u σ - uS) S0 hM (C := (pe_me mi).1.cls) (b := pe_ad b n0 rb) (As := As.map (pe_e (pe_ad b n0))) (rest := st.map (pe_e (pe_ad b n0))) ⟨hcb, hts _ (pe_tb k2 rfl), hts _ (pe_tb (k3 ht) rfl)⟩ ⟨px_blind, ⟨cell, g1, by rw [g3]; rfl, by rw [hC, g2, hK]; exact (hG.1 _ ho).2.1⟩, hPc⟩ rfl (by rw [List.length_map]; exact hn) hsz hstk hcat hd hc
  have hHs := hH.2.2.1
  have hH2 := hH.2.1
  intro T hT X
  rcases run T hT X with ⟨v, st₀, t, T', L, e0, X', hLL, e1, e2, ⟨⟨hv, hh⟩, hφ⟩, go⟩ | ⟨q, st₀, t, T', L, E, ce, e0, X', hLL, e1, e2, hxc, hce', hcv, hcl, go⟩
  · cases hv
    have hw := (ok hφ).2.2 h1 (Nat.le_trans h2 (Nat.le_add_right _ _)) h3 T'.heap Ls (locs ++ L) (by rw [e1]; exact hh.mo (k := 0) rfl (fun _ _ => rfl)) hL (fun q hq => by
      rcases List.mem_append.mp hq with w | w
      · exact hlocs q w
      · exact hLL q w)
    have hz : T'.heap.size = H.size := by
      rw [e1, hh.2.2.1, hHs]
    have X2 := stand_fit X' (k := pe_n (pe_mo σ 0 6) - nS) (by rw [hz, hHs]; show _ ≤ s.heap.size + (pe_n σ + 0 - nS); omega)
    rw [show pe_u σ - uS + 6 = pe_u (pe_mo σ 0 6) - uS by show _ = pe_u σ + 6 - uS; omega] at X2
    obtain ⟨t2, a1, a2⟩ := hw T' rfl X2
    rw [show List.map (pe_e (pe_ad b n0)) (r.toList ++ st) = (r.map (pe_e (pe_ad b n0))).toList ++ st.map (pe_e (pe_ad b n0)) by cases r <;> simp] at a1
    exact ⟨t2, go t2 a1, a2⟩
  · obtain ⟨hψ, k, hk⟩ := hXC _ _ _ hxc
    have hz : T'.heap.size = H.size + k := by
      rw [e1, hk.2.2.1, hHs]
      show n0 + (pe_n σ + k - 2) = _
      omega
    have hk1 : k ≤ 1 := by
      have := X'.same.2.2.1
      have hq2 : (T'.setVm s.vm).heap.size = T'.heap.size := rfl
      omega
    have X2 := stand_fit X' (k := pe_n σ + k - nS) (by omega)
    rw [show pe_u σ - uS + 6 = pe_u σ + 6 - uS by omega] at X2
    obtain ⟨t2, a1, a2⟩ := thr h3 h1 h2 E hψ k T'.heap Ls (locs ++ L) q ce hk1 (by rw [e1]; exact hk) hL (fun q hq => by
      rcases List.mem_append.mp hq with w | w
      · exact hlocs q w
      · exact hLL q w) (by rw [e1]; exact hce') hcv hcl T' rfl X2
    exact ⟨t2, go.trans a1, a2⟩
end
