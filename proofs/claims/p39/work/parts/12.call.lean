/-! SOUND, 8: calls, answers, and all that runs in the pure machine runs -/
theorem pe_iok : ∀ o i m pl, pe_go (pe_iT o) i = some (m, pl) → Cond.methodLink (pe_rn o) i (pe_me m).1 ∈ pe_TB ∧ m < pe_mn := by
  intro o i m pl h
  have hm := pe_go_mem _ _ _ h
  have key : ∀ o, ∀ q ∈ pe_iT o, lw_tbl[q.2.2]? = some (.methodLink (pe_rn o) q.1 (pe_me q.2.1).1) ∧ q.2.1 < pe_mn := by
    intro o
    match o with
    | 0 => exact pe_i0_ok
    | 1 => exact pe_i1_ok
    | 2 => exact pe_i2_ok
    | 3 => exact pe_i3_ok
    | 4 => exact pe_i4_ok
    | 5 => exact pe_i5_ok
    | 6 => exact pe_i6_ok
    | 7 => exact pe_i7_ok
    | 8 => exact pe_i8_ok
    | 9 => exact pe_i9_ok
    | 10 => exact pe_i21_ok
    | 11 => exact pe_i11_ok
    | 12 => exact pe_i12_ok
    | 13 => exact pe_i13_ok
    | 14 => exact pe_i21_ok
    | 15 => exact pe_i21_ok
    | 16 => exact pe_i21_ok
    | 17 => exact pe_i21_ok
    | 18 => exact pe_i21_ok
    | 19 => exact pe_i19_ok
    | 20 => exact pe_i20_ok
    | 21 => exact pe_i21_ok
    | n + 22 => exact pe_i21_ok
  obtain ⟨h1, h2⟩ := key o _ hm
  exact ⟨pe_tb h1 rfl, h2⟩
theorem pe_jok : ∀ o i m pl, pe_go (pe_jT o) i = some (m, pl) → m < pe_mn := by
  intro o i m pl h
  have hm := pe_go_mem _ _ _ h
  have key : ∀ o, ∀ q ∈ pe_jT o, lw_tbl[q.2.2]? = some (.methodLinkNest (pe_rn o) q.1 (pe_me q.2.1).1 (pe_ho o)) ∧ q.2.1 < pe_mn := by
    intro o
    match o with
    | 0 => exact pe_j0_ok
    | 1 => exact pe_j1_ok
    | 2 => exact pe_j2_ok
    | 3 => exact pe_j3_ok
    | 4 => exact pe_j4_ok
    | 5 => exact pe_j5_ok
    | 6 => exact pe_j6_ok
    | 7 => exact pe_j7_ok
    | 8 => exact pe_j8_ok
    | 9 => exact pe_j9_ok
    | 10 => exact pe_j21_ok
    | 11 => exact pe_j11_ok
    | 12 => exact pe_j12_ok
    | 13 => exact pe_j13_ok
    | 14 => exact pe_j21_ok
    | 15 => exact pe_j21_ok
    | 16 => exact pe_j21_ok
    | 17 => exact pe_j21_ok
    | 18 => exact pe_j21_ok
    | 19 => exact pe_j19_ok
    | 20 => exact pe_j20_ok
    | 21 => exact pe_j21_ok
    | n + 22 => exact pe_j21_ok
  exact (key o _ hm).2
theorem pe_mokP {i : Nat} (h : pe_mok i) : lw_tbl[(pe_me i).2.2.2.2.2.2.2.2.1]? = some (.code (pe_me i).1 (pe_me i).2.1 (pe_me i).2.2.1 (pe_me i).2.2.2.1) ∧ lw_tbl[(pe_me i).2.2.2.2.2.2.2.2.2.1]? = some (if (pe_me i).2.2.2.2.2.1 = 2 then .static (pe_me i).1 else .instanceMethod (pe_me i).1) ∧ ((pe_me i).2.2.2.2.2.1 = 0 → lw_tbl[(pe_me i).2.2.2.2.2.2.2.2.2.2]? = some (.selects (pe_me i).1.cls (pe_me i).1 (pe_me i).1)) ∧ lw_tbl[pe_ip.getD (pe_me i).2.2.2.2.1 0]? = some (.initialized (pe_me i).1.cls) ∧ (pe_me i).1.cls = pe_rn (pe_me i).2.2.2.2.1 ∧ ((pe_me i).2.2.2.2.2.1 = 1 → (pe_me i).1.name = "<init>" ∧ (pe_me i).2.2.2.1 = none) ∧ (pe_me i).2.2.2.2.2.1 < 3 ∧ plainName (pe_me i).1.cls = true ∧ ((pe_me i).1.cls ≠ "java/lang/invoke/MethodHandle" ∧ (pe_me i).1.cls ≠ "java/lang/invoke/VarHandle") ∧ (parseMethodDescriptor (pe_me i).1.desc).map (fun d => d.parameters.length) = some (pe_me i).2.2.2.2.2.2.2.1 ∧ (pe_me i).2.2.1 ≤ 20 := by
  unfold pe_mok at h
  generalize pe_me i = t at h ⊢
  obtain ⟨y, b, ml, rt, o, sty, ini, na, pc, pi, ps⟩ := t
  obtain ⟨h1, h2, h3, h4, h5, h6, h7, h8, h9, h10, h11, -⟩ := h
  exact ⟨h1, h2, h3, h4, h5, h6, h7, h8, h9, h10, h11⟩
def pe_ws (m : Nat) : List Cond := Cond.code (pe_me m).1 (pe_me m).2.1 (pe_me m).2.2.1 (pe_me m).2.2.2.1 :: pe_TB
def pe_rm (d : Nat) (σ σ' : pe_H) : Room := { frames := d, cells := pe_n σ' - pe_n σ, slots := pe_u σ' - pe_u σ, locals := 40 * d + 60 }
def pe_Pc (D : va_G) (cA : Nat → ClassId) (b : Nat × Nat) (n0 : Nat) (H0 : Heap) (as : List pe_V) (σ : pe_H) : Array Value → State → Prop := fun v U => v = (as.map (pe_e (pe_ad b n0))).toArray ∧ pe_Hd D cA b n0 H0 σ U.heap ∧ pe_G D cA b n0 H0 U ∧ pe_N U
def pe_Qc (D : va_G) (cA : Nat → ClassId) (b : Nat × Nat) (n0 : Nat) (H0 : Heap) (r : Option pe_V) (σ' : pe_H) : Array Value → State → Outcome → State → Prop := fun _ _ o t => o = .returned (r.map (pe_e (pe_ad b n0))) ∧ pe_Hd D cA b n0 H0 σ' t.heap
def pe_Mt (l : Launch) (d m : Nat) (as : List pe_V) (σ : pe_H) (r : Option pe_V) (σ' : pe_H) : Prop := ∀ (D : va_G) (cA : Nat → ClassId) (b : Nat × Nat) (n0 : Nat) (H0 : Heap), Met l (pe_me m).1 (pe_ws m) (pe_rm d σ σ') (pe_Pc D cA b n0 H0 as σ) (pe_Qc D cA b n0 H0 r σ') (pe_n σ' - pe_n σ) (pe_u σ' - pe_u σ) (fun q => n0 ≤ q)
theorem pe_pop_ok : ∀ (n : Nat) (acc st as rest : List pe_V), pe_pop n acc st = some (as, rest) → ∃ xs : List pe_V, xs.length = n ∧ as = xs.reverse ++ acc ∧ st = xs ++ rest
  | 0, acc, st, as, rest, h => by
    unfold pe_pop at h
    cases h
    exact ⟨[], rfl, rfl, rfl⟩
  | n + 1, acc, [], as, rest, h => by unfold pe_pop at h; cases h
  | n + 1, acc, v :: st, as, rest, h => by
    unfold pe_pop at h
    obtain ⟨xs, h1, h2, h3⟩ := pe_pop_ok n (v :: acc) st as rest h
    exact ⟨v :: xs, by simp [h1], by rw [h2]; simp, by rw [h3]; rfl⟩
section PEW6
variable {p : Program} {l : Launch} {e : Env} {R : Room} {s : State} {m : MethodId} {args : Array Value} {below : List Frame} {meth : Method} {c : Code} {Q : State → Prop} {cc : ByteArray}
variable {D : va_G} {cA : Nat → ClassId} {b : Nat × Nat} {n0 : Nat} {H0 : Heap} {nS uS nF uF nL : Nat}
theorem pe_blind {as : List pe_V} {σ : pe_H} : FrameBlind (pe_Pc D cA b n0 H0 as σ) := fun a U g mk h => ⟨h.1, h.2.1, pe_G.moved (u := U) (U := U.calling g mk a) (Vm.Alike.refl U.vm) h.2.2.1, pe_N.same (s := U) (U := U.calling g mk a) rfl h.2.2.2⟩
set_option maxRecDepth 10000 in
theorem pe_wsgood {i : Nat} (hi : pe_mok i) : GoodIn pe_TB (pe_ws i) := by
  intro w hw
  have h1 : ∀ w ∈ pe_TB, w ∈ pe_TB ∧ ((w.onTables && w.keeps) = true ∨ ∃ ty, w = .arrayClass ty) := fun w h => ⟨h, good_of_word (List.mem_filter.mp h).2⟩
  rcases List.mem_cons.mp hw with h | h
  · rw [h]
    refine h1 _ ?_
    exact pe_tb (pe_mokP hi).1 rfl
  · exact h1 w h
theorem pe_finc {H : Heap} {locs : List Loc} {cells slots mc ms : Nat} {g : JFrame} {rest : List Value} {r : Option pe_V} {σ' : pe_H} {a : Array Value} (run : CallRun p l e R s m args below meth c H locs cells slots mc ms g rest (pe_Qc D cA b n0 H0 r σ' a) (fun q => n0 ≤ q)) (hlocs : ∀ q ∈ locs, n0 ≤ q.base)
    (kk : ∀ (H' : Heap) (locs' : List Loc), pe_Hd D cA b n0 H0 σ' H' → (∀ q ∈ locs', n0 ≤ q.base) → W p l e R s m args below meth c H' locs' (cells + mc) (slots + ms) Q { g with pc := g.pc + 3, stack := (r.map (pe_e (pe_ad b n0))).toList ++ rest }) : W p l e R s m args below meth c H locs cells slots Q g := by
  intro T hT X
  obtain ⟨v, st₀, t, T', L, h0, X', hL, e1, ⟨hv, hh⟩, st⟩ := run T hT X
  cases hv
  obtain ⟨t2, a1, b1⟩ := kk T'.heap (locs ++ L) (by rw [e1]; exact hh) (fun q hq => by
    rcases List.mem_append.mp hq with h | h
    · exact hlocs q h
    · exact hL q h) T' rfl X'
  exact ⟨t2, st t2 a1, b1⟩
/-- what every call needs of the tables -/
theorem pe_cb_ok {o i mi d : Nat} {σ σ' : pe_H} (hts : ∀ w ∈ pe_TB, w.before args s = true) (hmi : mi < pe_mn) (hml : mi ≠ pe_ml) (hl : Cond.methodLink (pe_rn o) i (pe_me mi).1 ∈ pe_TB) (hfr : d + 1 ≤ R.frames) (hlo : 40 * d + 100 ≤ R.locals) :
    CallB R s args (pe_rn o) i (pe_me mi).1 (pe_me mi).2.1 (pe_me mi).2.2.1 (pe_me mi).2.2.2.1 (pe_ws mi) (pe_rm d σ σ') (pe_n σ' - pe_n σ) (pe_u σ' - pe_u σ) (pe_me mi).2.2.2.2.2.2.2.1 := by
  have hok := pe_mok_all mi hmi hml
  have hg := pe_wsgood hok
  obtain ⟨k1, k2, k3, k4, k5, k6, k7, k8, k9, k10, k11⟩ := pe_mokP hok
  refine ⟨rfl, rfl, hfr, ?_, pay_in hts hg, List.mem_cons_self, hts _ (pe_tb k1 rfl), hts _ (pe_tb k4 rfl), k9, fun sig h => ?_, hts _ hl⟩
  · show 8 + ((pe_me mi).2.2.1 + 11) + (40 * d + 60) ≤ _
    omega
  · rw [h] at k10
    exact (Option.some.inj k10).symm
set_option maxRecDepth 10000 in
theorem pe_r_call {o d mi : Nat} {S : pe_S} {i : Instr} {len : Nat} {as st : List pe_V} {r : Option pe_V} {σ' : pe_H} (hx : p.tables.exec = Jvm.exec) (hb : c.code = cc) (hfr : d + 1 ≤ R.frames) (hlo : 40 * d + 100 ≤ R.locals) (hml : c.maxLocals = nL) (hRc : nF - nS ≤ R.cells) (hRs : uF - uS ≤ R.slots)
    (hts : ∀ w ∈ pe_TB, w.before args s = true) (hown : s.vm.findClass (pe_rn o) = some m.cls) (hG : pe_G D cA b n0 H0 s) (hN : pe_N s) (hc : pe_call o i S = some (mi, as, st)) (hr : pe_recv mi as S.2.2.2) (hd0 : decode cc S.1 = .ok (i, len)) (hlen : pe_ln i = len ∨ pe_ln i = 0)
    (hmi : mi ≠ pe_ml) (hM : pe_Mt l d mi as S.2.2.2 r σ') (hn : pe_n S.2.2.2 ≤ pe_n σ') (hu : pe_u S.2.2.2 ≤ pe_u σ')
    (h : pe_PW p l e R s m args below meth c Q D cA b n0 H0 nS uS nF uF nL (S.1 + 3, S.2.1, r.toList ++ st, σ')) : pe_PW p l e R s m args below meth c Q D cA b n0 H0 nS uS nF uF nL S := by
  have len_of : ∀ k, pe_ln i = k + 1 → decode cc S.1 = .ok (i, k + 1) := fun k hk => by
    rcases hlen with q | q
    · rw [← hk, q]; exact hd0
    · rw [hk] at q; exact absurd q (by omega)
  obtain ⟨pc, ls, st0, σ⟩ := S
  dsimp only at hr hd0 len_of hM hn hu h
  have hf1 : pe_n σ' ≤ nF := h.1
  have hf2 : pe_u σ' ≤ uF := h.2.1
  refine ⟨Nat.le_trans hn hf1, Nat.le_trans hu hf2, fun h1 h2 h3 H Ls locs hH hL hlocs => ?_⟩
  have h1 : nS ≤ pe_n σ := h1
  have h2 : uS ≤ pe_u σ := h2
  have hH : pe_Hd D cA b n0 H0 σ H := hH
  have hsz : Ls.size = nL := hL.1.trans h3
  have hPc : ∀ U : State, U.heap = H → s.WarmedH U.vm → pe_Pc D cA b n0 H0 as σ (as.map (pe_e (pe_ad b n0))).toArray U := fun U hU hW => ⟨rfl, by rw [hU]; exact hH, hG.moved hW.alike, hN.warm hW⟩
  have hfin : ∀ (run : CallRun p l e R s m args below meth c H locs (pe_n σ - nS) (pe_u σ - uS) (pe_n σ' - pe_n σ) (pe_u σ' - pe_u σ) (F0 m pc Ls (st0.map (pe_e (pe_ad b n0)))) (st.map (pe_e (pe_ad b n0))) (pe_Qc D cA b n0 H0 r σ' (as.map (pe_e (pe_ad b n0))).toArray) (fun q => n0 ≤ q)), W p l e R s m args below meth c H locs (pe_n σ - nS) (pe_u σ - uS) Q (F0 m pc Ls (st0.map (pe_e (pe_ad b n0)))) := fun run =>
    pe_finc run hlocs (fun H' locs' hH' hl' => by
      have hw := h.2.2 (Nat.le_trans h1 hn) (Nat.le_trans h2 hu) h3 H' Ls locs' hH' hL hl'
      dsimp only at hw
      rw [show pe_n σ' - nS = pe_n σ - nS + (pe_n σ' - pe_n σ) by omega, show pe_u σ' - uS = pe_u σ - uS + (pe_u σ' - pe_u σ) by omega] at hw
      rw [show List.map (pe_e (pe_ad b n0)) (r.toList ++ st) = (r.map (pe_e (pe_ad b n0))).toList ++ st.map (pe_e (pe_ad b n0)) by cases r <;> simp] at hw
      exact hw)
  have hroom : pe_n σ - nS + (pe_n σ' - pe_n σ) ≤ R.cells ∧ pe_u σ - uS + (pe_u σ' - pe_u σ) ≤ R.slots := ⟨by omega, by omega⟩
  have hcat : pe_cat st ≤ 8 → 2 * (F0 m pc Ls (st0.map (pe_e (pe_ad b n0)))).monitorRoom + ((st.map (pe_e (pe_ad b n0))).map fun v => v.category).sum ≤ 8 := fun hq => by
    rw [pe_cat_ok]
    show 2 * 0 + _ ≤ 8
    omega
  have S0 : CallFix p m c cc nL s args pe_TB (pe_rn o) := ⟨hx, hb, hml, hown, hts⟩
  have hMd := hM D cA b n0 H0
  have hivk : ∀ (tab : List (Nat × Nat × Nat)) (k t : Nat), t < 3 → pe_ivk tab k (pc, ls, st0, σ) (fun z => Nat.beq z t) = some (mi, as, st) → ∃ pl, pe_go tab k = some (mi, pl) ∧ (pe_me mi).2.2.2.2.2.1 = t ∧ pe_cat st ≤ 8 ∧ as.length = (if t = 2 then (pe_me mi).2.2.2.2.2.2.2.1 else (pe_me mi).2.2.2.2.2.2.2.1 + 1) ∧ st0 = as.reverse ++ st := by
    intro tab k t ht hk
    unfold pe_ivk at hk
    split at hk
    · rename_i m2 pl hg
      split at hk
      · rename_i ht2
        split at hk
        · rename_i as2 st2 hp
          split at hk
          · rename_i hq
            cases hk
            obtain ⟨xs, q1, q2, q3⟩ := pe_pop_ok _ _ _ _ _ hp
            have ht3 := Nat.eq_of_beq_eq_true ht2
            rw [ht3] at q1
            refine ⟨pl, hg, ht3, hq, ?_, ?_⟩
            · rw [q2]; simpa using q1
            · rw [q2]; simpa using q3
          · cases hk
        · cases hk
      · cases hk
    · cases hk
  cases i with
  | invokevirtual k =>
    have hd := len_of 2 rfl
    obtain ⟨pl, hg, ht, hq, hal, hst⟩ := hivk _ k 0 (by omega) hc
    obtain ⟨hlk, hmn⟩ := pe_iok _ _ _ _ hg
    have hok := pe_mok_all mi hmn hmi
    obtain ⟨k1, k2, k3, k4, k5, k6, k7, k8, k9, k10, k11⟩ := pe_mokP hok
    rw [if_neg (by omega)] at k2
    unfold pe_recv at hr
    rw [if_pos ht] at hr
    rcases as with _ | ⟨x | (x | rb), As⟩
    · exact hr.elim
    · exact hr.elim
    · exact hr.elim
    · have hr : pe_K σ rb = (pe_me mi).2.2.2.2.1 ∧ pe_kc (pe_me mi).2.2.2.2.1 = true := hr
      subst hst
      obtain ⟨r0, -, hce⟩ := hH.2.2.2.2.2 rb (by rw [hr.1]; exact pe_kc_lt hr.2)
      obtain ⟨cell, g1, g2, g3, -⟩ := hce.1 (by rw [hr.1]; exact hr.2)
      have hC : (pe_me mi).1.cls = (pe_cl (pe_me mi).2.2.2.2.1).1 := by
        rw [k5]
        have hz : ∀ q, pe_kc q = true → (pe_cl q).1 = pe_rn q := pe_kall (by decide +kernel) (by decide +kernel) (by decide +kernel) (by decide +kernel)
        exact (hz _ hr.2).symm
      have hstk : (F0 m pc Ls (((.inr (.inr rb) :: As).reverse ++ st).map (pe_e (pe_ad b n0)))).stack = (As.map (pe_e (pe_ad b n0))).reverse ++ .ref (pe_ad b n0 rb) :: st.map (pe_e (pe_ad b n0)) := by
        show List.map _ _ = _
        simp only [List.reverse_cons, List.map_append, List.map_cons, List.map_nil, List.append_assoc, List.singleton_append, List.map_reverse]
        rw [show pe_e (pe_ad b n0) (.inr (.inr rb)) = .ref (pe_ad b n0 rb) from pe_rf_pos _ r0]
      have hargs : ((.inr (.inr rb) :: As : List pe_V).map (pe_e (pe_ad b n0))) = .ref (pe_ad b n0 rb) :: As.map (pe_e (pe_ad b n0)) := by
        rw [List.map_cons, show pe_e (pe_ad b n0) (.inr (.inr rb)) = .ref (pe_ad b n0 rb) from pe_rf_pos _ r0]
      refine hfin ?_
      rw [hargs] at hPc ⊢
      exact W.runV S0 hMd (C := (pe_me mi).1.cls) (b := pe_ad b n0 rb) (As := As.map (pe_e (pe_ad b n0))) ⟨pe_cb_ok (σ := σ) (σ' := σ') hts hmn hmi hlk hfr hlo, hts _ (pe_tb k2 rfl), hts _ (pe_tb (k3 ht) rfl)⟩ ⟨pe_blind, ⟨cell, g1, by rw [g3]; rfl, by rw [hC, g2, hr.1]; exact (hG.1 _ hr.2).2.1⟩, hPc⟩ rfl (by rw [List.length_map]; simp at hal; exact hal) hsz hstk (hcat hq) hd hroom
  | invokespecial k =>
    have hd := len_of 2 rfl
    have key : ∀ (tab : List (Nat × Nat × Nat)), pe_ivk tab k (pc, ls, st0, σ) (fun z => Nat.beq z 1) = some (mi, as, st) → mi < pe_mn → (∀ pl, pe_go tab k = some (mi, pl) → (Cond.methodLink (pe_rn o) k (pe_me mi).1 ∈ pe_TB ∨ va_Nw (.methodLinkNest (pe_rn o) k (pe_me mi).1 (pe_ho o)) s)) → W p l e R s m args below meth c H locs (pe_n σ - nS) (pe_u σ - uS) Q (F0 m pc Ls (st0.map (pe_e (pe_ad b n0)))) := by
      intro tab hc hmn hlnk
      obtain ⟨pl, hg, ht, hq, hal, hst⟩ := hivk _ k 1 (by omega) hc
      have hlk := hlnk pl hg
      have hok := pe_mok_all mi hmn hmi
      have hgood := pe_wsgood hok
      obtain ⟨k1, k2, k3, k4, k5, k6, k7, k8, k9, k10, k11⟩ := pe_mokP hok
      rw [if_neg (by omega)] at k2
      unfold pe_recv at hr
      rw [if_neg (by omega), if_pos ht] at hr
      rcases as with _ | ⟨x | (x | rb), As⟩
      · exact hr.elim
      · exact hr.elim
      · exact hr.elim
      · have hr : ¬ rb = 0 := hr
        subst hst
        have r0 : 0 < rb := by omega
        have hstk : (F0 m pc Ls (((.inr (.inr rb) :: As).reverse ++ st).map (pe_e (pe_ad b n0)))).stack = (As.map (pe_e (pe_ad b n0))).reverse ++ .ref (pe_ad b n0 rb) :: st.map (pe_e (pe_ad b n0)) := by
          show List.map _ _ = _
          simp only [List.reverse_cons, List.map_append, List.map_cons, List.map_nil, List.append_assoc, List.singleton_append, List.map_reverse]
          rw [show pe_e (pe_ad b n0) (.inr (.inr rb)) = .ref (pe_ad b n0 rb) from pe_rf_pos _ r0]
        have hargs : ((.inr (.inr rb) :: As : List pe_V).map (pe_e (pe_ad b n0))) = .ref (pe_ad b n0 rb) :: As.map (pe_e (pe_ad b n0)) := by
          rw [List.map_cons, show pe_e (pe_ad b n0) (.inr (.inr rb)) = .ref (pe_ad b n0 rb) from pe_rf_pos _ r0]
        refine hfin ?_
        rw [hargs] at hPc ⊢
        obtain ⟨k61, k62⟩ := k6 ht
        rcases hlk with hlk | hlk
        · have hcb := pe_cb_ok (σ := σ) (σ' := σ') hts hmn hmi hlk hfr hlo
          rw [k62] at hcb
          exact W.runI S0 hMd (b := pe_ad b n0 rb) (As := As.map (pe_e (pe_ad b n0))) ⟨hcb, k61, hts _ (pe_tb k2 rfl)⟩ ⟨pe_blind, hPc⟩ rfl (by rw [List.length_map]; simp at hal; exact hal) hsz hstk (hcat hq) hd hroom
        · have hcn := va_cnB (own := pe_rn o) (host := pe_ho o) (index := k) (Ts := pe_TB) (rm := pe_rm d σ σ') (R := R) (maxL := (pe_me mi).2.2.1) (ws' := pe_TB) (y := (pe_me mi).1) (bytes := (pe_me mi).2.1) (ret := (pe_me mi).2.2.2.1) (ws := pe_ws mi) (mc := pe_n σ' - pe_n σ) (ms := pe_u σ' - pe_u σ) (pe_me mi).2.2.2.2.2.2.2.1 hts hgood rfl rfl rfl hlk (hts _ (pe_tb k4 rfl)) ⟨k9.1, k9.2, k10⟩ ⟨hfr, by show 8 + ((pe_me mi).2.2.1 + 11) + (40 * d + 60) ≤ _; omega⟩
          rw [k62] at hcn
          have run := va_runIN (e := e) (meth := meth) (below := below) (locs := locs) (H := H) S0 hMd (b := pe_ad b n0 rb) (As := As.map (pe_e (pe_ad b n0))) (rest := st.map (pe_e (pe_ad b n0))) (g := F0 m pc Ls (((.inr (.inr rb) :: As).reverse ++ st).map (pe_e (pe_ad b n0)))) ⟨hcn, k61, hts _ (pe_tb k2 rfl)⟩ ⟨pe_blind, hPc⟩ rfl (by rw [List.length_map]; simp at hal; exact hal) hsz hstk (hcat hq) hd hroom
          intro T hT X
          obtain ⟨v, st₀, t, T', L, a1, a2, a3, a4, -, a6, a7⟩ := run T hT X
          exact ⟨v, st₀, t, T', L, a1, a2, a3, a4, a6, a7⟩
    unfold pe_call at hc
    dsimp only at hc
    split at hc
    · rename_i x hj
      obtain ⟨pl, hg, -⟩ := hivk _ k 1 (by omega) hc
      exact key _ hc (pe_jok _ _ _ _ hg) (fun pl hg => Or.inr (hN.1 _ _ _ _ hg))
    · obtain ⟨pl, hg, -⟩ := hivk _ k 1 (by omega) hc
      exact key _ hc (pe_iok _ _ _ _ hg).2 (fun pl hg => Or.inl (pe_iok _ _ _ _ hg).1)
  | invokestatic k =>
    have hd := len_of 2 rfl
    obtain ⟨pl, hg, ht, hq, hal, hst⟩ := hivk _ k 2 (by omega) hc
    obtain ⟨hlk, hmn⟩ := pe_iok _ _ _ _ hg
    have hok := pe_mok_all mi hmn hmi
    obtain ⟨k1, k2, k3, k4, k5, k6, k7, k8, k9, k10, k11⟩ := pe_mokP hok
    rw [if_pos ht] at k2
    subst hst
    refine hfin ?_
    exact W.runS S0 hMd (As := as.map (pe_e (pe_ad b n0))) ⟨pe_cb_ok (σ := σ) (σ' := σ') hts hmn hmi hlk hfr hlo, hts _ (pe_tb k2 rfl)⟩ ⟨pe_blind, hPc⟩ rfl (by rw [List.length_map]; simpa using hal) hsz (by show List.map _ _ = _; simp) (hcat hq) hd hroom
  | _ => exact absurd hc (by unfold pe_call; simp)
end PEW6
