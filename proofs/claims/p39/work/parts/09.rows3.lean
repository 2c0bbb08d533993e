/-! SOUND, 5: switches, fields, arrays, what is new -/
section PEW3
variable {p : Program} {l : Launch} {e : Env} {R : Room} {s : State} {m : MethodId} {args : Array Value} {below : List Frame} {meth : Method} {c : Code} {Q : State → Prop} {cc : ByteArray}
variable {D : va_G} {cA : Nat → ClassId} {b : Nat × Nat} {n0 : Nat} {H0 : Heap} {nS uS nF uF nL : Nat}

theorem pe_sw_mem : ∀ (d : Int) (ps : List (Int × Int)) (x : Int), pe_sw d ps x = d ∨ pe_sw d ps x ∈ ps.map (·.2)
  | d, [], x => Or.inl rfl
  | d, (a, o) :: ps, x => by
    unfold pe_sw
    split
    · exact Or.inr (by simp)
    · rcases pe_sw_mem d ps x with h | h
      · exact Or.inl h
      · exact Or.inr (List.mem_cons_of_mem _ h)
theorem pe_tbl_snd : ∀ (lo : Int) (os : List Int), (pe_tbl lo os).map (·.2) = os
  | _, [] => rfl
  | lo, o :: os => by simp [pe_tbl, pe_tbl_snd (lo + 1) os]
theorem pe_tbl_out : ∀ (d lo : Int) (os : List Int) (x : Int), (x < lo ∨ lo + os.length ≤ x) → pe_sw d (pe_tbl lo os) x = d
  | _, _, [], _, _ => rfl
  | d, lo, o :: os, x, h => by
    simp only [List.length_cons] at h
    unfold pe_tbl pe_sw
    rw [if_neg (by omega)]
    exact pe_tbl_out d (lo + 1) os x (by omega)
theorem pe_tbl_in : ∀ (d lo : Int) (os : List Int) (x : Int), lo ≤ x → x < lo + os.length → os[(x - lo).toNat]? = some (pe_sw d (pe_tbl lo os) x)
  | _, lo, [], x, h1, h2 => by simp at h2; omega
  | d, lo, o :: os, x, h1, h2 => by
    simp only [List.length_cons] at h2
    unfold pe_tbl pe_sw
    by_cases hx : x = lo
    · rw [if_pos hx, hx]; simp
    · rw [if_neg hx]
      have h3 := pe_tbl_in d (lo + 1) os x (by omega) (by omega)
      have e : (x - lo).toNat = (x - (lo + 1)).toNat + 1 := by omega
      rw [e, List.getElem?_cons_succ]
      exact h3
theorem pe_lsw : ∀ (q : List (Int × Int)) (d k : Int), Op.lookupswitch.offset q d k = pe_sw d q k
  | [], _, _ => rfl
  | (a, o) :: r, d, k => by
    rw [Op.lookupswitch.offset_cons]
    unfold pe_sw
    rw [pe_lsw r d k]
    by_cases h : a = k
    · rw [if_pos h, if_pos h.symm]
    · rw [if_neg h, if_neg (fun q => h q.symm)]
theorem pe_ok_ge {pc : Nat} {os : List Int} {o : Int} (h : pe_ok pc os = true) (ho : o ∈ os) : (pc : Int) + o = (((pc : Int) + o).toNat : Int) := by
  have h1 := List.all_eq_true.mp h o ho
  have h2 : 0 ≤ (pc : Int) + o := of_decide_eq_true h1
  omega
theorem pe_r_tsw {S S' : pe_S} {φ : List Prop} {d lo hi : Int} {os : Array Int} {len : Nat} (hx : p.tables.exec = Jvm.exec) (hb : c.code = cc) (hs : pe_jmp (d :: os.toList) (pe_sw d (pe_tbl lo os.toList)) S = some (φ, S')) (hl : hi + 1 = lo + (os.toList.length : Int)) (hd : decode cc S.1 = .ok (.tableswitch d lo hi os, len))
    (h : pe_PW p l e R s m args below meth c Q D cA b n0 H0 nS uS nF uF nL S') : pe_PW p l e R s m args below meth c Q D cA b n0 H0 nS uS nF uF nL S := by
  obtain ⟨pc, ls, st, σ⟩ := S
  unfold pe_jmp at hs
  split at hs
  · rename_i x st' he
    split at hs
    · rename_i hok
      cases hs
      dsimp only at he h hok hd
      subst he
      refine pe_sm (fun H Ls locs k0 z hL kk => ?_) h
      have hxx : (Int32.ofInt x).toInt = pe_w x := rfl
      by_cases hin : pe_w x < lo ∨ hi < pe_w x
      · have hsw : pe_sw d (pe_tbl lo os.toList) (pe_w x) = d := pe_tbl_out d lo os.toList (pe_w x) (by rcases hin with q | q; exact Or.inl q; exact Or.inr (by omega))
        rw [hsw] at kk
        exact lv_tableOut hx hb hd hin (pe_ok_ge hok List.mem_cons_self) kk
      · have h1 : ¬ pe_w x < lo := fun q => hin (Or.inl q)
        have h2 : ¬ hi < pe_w x := fun q => hin (Or.inr q)
        have h3 := pe_tbl_in d lo os.toList (pe_w x) (by omega) (by omega)
        refine lv_tableIn (off := pe_sw d (pe_tbl lo os.toList) (pe_w x)) hx hb hd h1 h2 ?_ (pe_ok_ge hok (List.mem_cons_of_mem _ (List.mem_of_getElem? h3))) kk
        rw [← Array.getElem?_toList]; exact h3
    · cases hs
  · cases hs

theorem pe_r_lsw {S S' : pe_S} {φ : List Prop} {d : Int} {ps : Array (Int × Int)} {len : Nat} (hx : p.tables.exec = Jvm.exec) (hb : c.code = cc) (hs : pe_jmp (d :: ps.toList.map (·.2)) (pe_sw d ps.toList) S = some (φ, S')) (hl : (ps.toList.zip (ps.toList.drop 1)).all (fun (a, next) => decide (a.1 < next.1)) = true) (hd : decode cc S.1 = .ok (.lookupswitch d ps, len))
    (h : pe_PW p l e R s m args below meth c Q D cA b n0 H0 nS uS nF uF nL S') : pe_PW p l e R s m args below meth c Q D cA b n0 H0 nS uS nF uF nL S := by
  obtain ⟨pc, ls, st, σ⟩ := S
  unfold pe_jmp at hs
  split at hs
  · rename_i x st' he
    split at hs
    · rename_i hok
      cases hs
      dsimp only at he h hok hd
      subst he
      refine pe_sm (fun H Ls locs k0 z hL kk => ?_) h
      refine lv_lookup (off := pe_sw d ps.toList (pe_w x)) hx hb hd hl ?_ (pe_ok_ge hok ?_) kk
      · show Op.lookupswitch.offset ps.toList d (pe_w x) = _
        exact pe_lsw _ _ _
      · rcases pe_sw_mem d ps.toList (pe_w x) with q | q
        · rw [q]; exact List.mem_cons_self
        · exact List.mem_cons_of_mem _ q
    · cases hs
  · cases hs

theorem pe_tc0 {t : FieldType} (h : pe_tc t = 0) : t = .int := by cases t <;> simp [pe_tc] at h ⊢
theorem pe_tc3 {t : FieldType} (h : pe_tc t = 3) : t = .boolean := by cases t <;> simp [pe_tc] at h ⊢
theorem pe_tc2 {t : FieldType} (h : pe_tc t = 2) : t.isReference = true := by cases t <;> simp [pe_tc] at h <;> rfl
theorem pe_nar2 {t : FieldType} (h : pe_tc t = 2) (ad : Nat → Nat) (r : Nat) : narrow t (pe_rf ad r) = pe_rf ad r ∧ fits t (pe_rf ad r) = true := by
  unfold pe_rf
  cases t <;> simp [pe_tc] at h <;> split <;> exact ⟨rfl, rfl⟩
theorem pe_kc_lt {c : Nat} (h : pe_kc c = true) : c < 26 := by have := pe_kcs h; omega
theorem pe_kc_10 {c : Nat} (h : c < 10) : pe_kc c = true := by unfold pe_kc; simp [Nat.blt_eq, h]
theorem pe_kas {k : Nat} (h : pe_ka k = true) : (10 ≤ k ∧ k < 19) ∨ (22 ≤ k ∧ k < 26) := by
  unfold pe_ka at h
  simp only [Bool.or_eq_true, Bool.and_eq_true, Nat.blt_eq, Nat.ble_eq] at h
  omega
theorem pe_ka_of {k : Nat} (h : (10 ≤ k ∧ k < 19) ∨ (22 ≤ k ∧ k < 26)) : pe_ka k = true := by
  unfold pe_ka
  simp only [Bool.or_eq_true, Bool.and_eq_true, Nat.blt_eq, Nat.ble_eq]
  omega
theorem pe_kca {k : Nat} (h : pe_kc k = true) (h' : pe_ka k = true) : False := by
  have := pe_kcs h
  have := pe_kas h'
  omega
/-- what is written has number 3 or more -/
theorem pe_r3 {D : va_G} {cA : Nat → ClassId} {b : Nat × Nat} {n0 : Nat} {H0 H : Heap} {σ : pe_H} {r : Nat} (hH : pe_Hd D cA b n0 H0 σ H) (h : pe_K σ r < 26) (h1 : pe_K σ r ≠ 10 ∨ 2 ≤ r) (h2 : pe_K σ r ≠ 25) : 3 ≤ r := by
  have r0 := (hH.2.2.2.2.2 r h).1
  have e1 := hH.2.2.2.2.1
  have e2 := hH.1.2
  rcases Nat.lt_or_ge r 3 with q | q
  · exfalso
    have : r = 1 ∨ r = 2 := by omega
    rcases this with rfl | rfl
    · rcases h1 with w | w
      · exact w e1
      · omega
    · exact h2 e2
  · exact q
theorem pe_rf_pos (ad : Nat → Nat) {r : Nat} (h : 0 < r) : pe_rf ad r = .ref (ad r) := by unfold pe_rf; rw [if_neg (by omega)]
theorem pe_w_getf (hx : p.tables.exec = Jvm.exec) (hb : c.code = cc) (hts : ∀ w ∈ pe_TB, w.before args s = true) {o i cI j pl : Nat} (hN : pe_N s) (hown : s.vm.findClass (pe_rn o) = some m.cls) (hG : pe_G D cA b n0 H0 s) {σ : pe_H} {H : Heap} (hH : pe_Hd D cA b n0 H0 σ H) (hf : pe_fd o i = some (cI, j, pl)) {r : Nat} (hk : pe_K σ r = cI)
    {pc : Nat} {Ls : Array Slot} {rest : List Value} {locs : List Loc} {k z : Nat} (hd : decode cc pc = .ok (.getfield i, 3)) (kk : W p l e R s m args below meth c H locs k z Q (F0 m (pc + 3) Ls (pe_vt (pe_ad b n0) (pe_fty cI j) (pe_I σ r j) (pe_R σ r j) :: rest))) : W p l e R s m args below meth c H locs k z Q (F0 m pc Ls (pe_rf (pe_ad b n0) r :: rest)) := by
  obtain ⟨hc10, hjN, hlk⟩ := pe_fdk hts hN hf
  obtain ⟨r0, -, hce⟩ := hH.2.2.2.2.2 r (by rw [hk]; exact pe_kc_lt hc10)
  have h1 := hce.1 (by rw [hk]; exact hc10)
  rw [hk] at h1
  obtain ⟨cell, q1, q2, q3, q4⟩ := h1
  obtain ⟨hS, hfc, kC, hkC, hkind⟩ := hG.1 cI hc10
  obtain ⟨cf, kf, fi, f, hi, hsl⟩ := hS j hjN
  rw [pe_rf_pos _ r0]
  rcases hlk with hlk | hlk
  · refine W.getf hx hb hown hlk hi (u_facts hfc hkC (u_lays hts (pe_u_tb hc10) hjN) hi).1 q1 (by rw [q3]; exact fun h => by cases h) (v := pe_vt (pe_ad b n0) (pe_fty cI j) (pe_I σ r j) (pe_R σ r j)) ?_ rfl rfl hd kk
    rw [hsl, q4 j hjN]
  · refine va_Wgetf hx hb hown (va_tabs (A' := args) rfl (rfl : s.vm = s.vm) hlk) hi (u_facts hfc hkC (u_lays hts (pe_u_tb hc10) hjN) hi).1 q1 (by rw [q3]; exact fun h => by cases h) (v := pe_vt (pe_ad b n0) (pe_fty cI j) (pe_I σ r j) (pe_R σ r j)) ?_ rfl rfl hd kk
    rw [hsl, q4 j hjN]
theorem pe_apart (hts : ∀ w ∈ pe_TB, w.before args s = true) (hG : pe_G D cA b n0 H0 s) {cI : Nat} (hc : pe_kc cI = true) : ∀ x y, x < (pe_cl cI).2.2 → y < (pe_cl cI).2.2 → x ≠ y → (D.2 cI) x ≠ (D.2 cI) y := by
  intro x y hx hy hne
  obtain ⟨hS, -⟩ := hG.1 cI hc
  obtain ⟨_, _, _, fa, hia, ea⟩ := hS x hx
  obtain ⟨_, _, _, fb, hib, eb⟩ := hS y hy
  rw [← ea, ← eb]
  refine u_apart (u_lays hts (pe_u_tb hc) hx) (u_lays hts (pe_u_tb hc) hy) hia hib ?_
  rw [(State.fieldFound?_type hia (pe_tyok cI hc x hx)).1, (State.fieldFound?_type hib (pe_tyok cI hc y hy)).1]
  exact pe_nmok cI hc x hx y hy hne
theorem pe_w_putf (hx : p.tables.exec = Jvm.exec) (hb : c.code = cc) (hts : ∀ w ∈ pe_TB, w.before args s = true) {o i cI j pl : Nat} {ini : Bool} (hN : pe_N s) (hown : s.vm.findClass (pe_rn o) = some m.cls) (hini : ini = true → meth.name = "<init>") (hG : pe_G D cA b n0 H0 s) {σ σ' : pe_H} {H : Heap} (hH : pe_Hd D cA b n0 H0 σ H) (hf : pe_fd o i = some (cI, j, pl)) {r : Nat} (hk : pe_K σ r = cI)
    (hfin : ¬ (pe_fin cI j && !(ini && Nat.beq o cI)) = true) {v : Value} (hn : narrow (pe_ty cI j) v = v) (hfit : fits (pe_ty cI j) v = true) (hn' : pe_n σ' = pe_n σ) (hK' : pe_K σ' = pe_K σ) (hL' : pe_L σ' = pe_L σ) (hI' : ∀ q (w : Int), ¬ (q = r ∧ w = (j : Int)) → pe_I σ' q w = pe_I σ q w) (hR' : ∀ q (w : Int), ¬ (q = r ∧ w = (j : Int)) → pe_R σ' q w = pe_R σ q w) (hv' : pe_vt (pe_ad b n0) (pe_fty cI j) (pe_I σ' r j) (pe_R σ' r j) = v)
    {pc : Nat} {Ls : Array Slot} {rest : List Value} {locs : List Loc} {k z : Nat} (hlocs : ∀ q ∈ locs, n0 ≤ q.base) (hd : decode cc pc = .ok (.putfield i, 3)) (kk : ∀ (H' : Heap) (locs' : List Loc), pe_Hd D cA b n0 H0 σ' H' → (∀ q ∈ locs', n0 ≤ q.base) → W p l e R s m args below meth c H' locs' k z Q (F0 m (pc + 3) Ls rest)) : W p l e R s m args below meth c H locs k z Q (F0 m pc Ls (v :: pe_rf (pe_ad b n0) r :: rest)) := by
  obtain ⟨hc10, hjN, hlk⟩ := pe_fdk hts hN hf
  have hc26 := pe_kc_lt hc10
  obtain ⟨r0, -, hce⟩ := hH.2.2.2.2.2 r (by rw [hk]; exact hc26)
  have hr2 : 3 ≤ r := pe_r3 hH (by rw [hk]; exact hc26) (Or.inl (by rw [hk]; exact fun q => pe_kca hc10 (pe_ka_of (by omega)))) (by rw [hk]; exact fun q => pe_kca hc10 (pe_ka_of (by omega)))
  have h1 := hce.1 (by rw [hk]; exact hc10)
  rw [hk] at h1
  obtain ⟨cell, q1, q2, q3, q4⟩ := h1
  have hap := pe_apart (args := args) hts hG hc10
  obtain ⟨hS, hfc, kC, hkC, hkind⟩ := hG.1 cI hc10
  obtain ⟨cf, kf, fi, f, hi, hsl⟩ := hS j hjN
  have hlay := hts _ (pe_u_tb hc10 _ (u_in_lay hjN))
  have hst := (u_facts hfc hkC (u_lays hts (pe_u_tb hc10) hjN) hi).1
  have hty := pe_tyok cI hc10 j hjN
  have hend : ∀ H' : Heap, H'[pe_ad b n0 r]? = some (cell.setSlot f.slot v) → H'.size = H.size → (∀ q, q ≠ pe_ad b n0 r → H'[q]? = H[q]?) → pe_Hd D cA b n0 H0 σ' H' := by
    intro H' e1 e2 e3
    refine hH.upd hn' hK' hL' (fun q hq w => hI' q w (fun a => hq a.1)) (fun q hq w => hR' q w (fun a => hq a.1)) hr2 e2 e3 ⟨fun _ => ?_, fun h10 => ?_⟩
    · rw [hK', hk]
      rw [hsl] at e1
      have h2 : t_OB (pe_ad b n0 r) (D.1 cI) (pe_cl cI).2.2 (D.2 cI) H' (updV (fun w : Nat => pe_vt (pe_ad b n0) (pe_fty cI w) (pe_I σ r w) (pe_R σ r w)) j v) := ⟨_, e1, q2, q3, t_set q4 hap hjN v⟩
      refine h2.to (fun w _ => ?_)
      unfold updV
      by_cases hw : w = j
      · rw [if_pos hw, hw, hv']
      · rw [if_neg hw, hI' r w (fun a => hw (by have := a.2; omega)), hR' r w (fun a => hw (by have := a.2; omega))]
    · rw [hK', hk] at h10; exact (pe_kca hc10 h10).elim
  have hbase : ∀ q ∈ locs ++ [(⟨pe_ad b n0 r, f.slot⟩ : Loc)], n0 ≤ q.base := by
    intro q hq
    rcases List.mem_append.mp hq with h | h
    · exact hlocs q h
    · rw [List.mem_singleton.mp h]
      show n0 ≤ pe_ad b n0 r
      unfold pe_ad; rw [if_neg (by omega), if_neg (by omega)]; omega
  rw [pe_rf_pos _ r0]
  by_cases hff : ((pe_cl cI).2.1 j).2.2.2 = true
  · unfold u_lay at hlay
    rw [if_pos hff] at hlay
    have hb2 : ini = true ∧ o = cI := by
      have e : pe_fin cI j = true := hff
      rw [e] at hfin
      simp only [Bool.true_and, Bool.not_eq_true', Bool.and_eq_false_iff, not_or, Bool.not_eq_false] at hfin
      exact ⟨hfin.1, Nat.eq_of_beq_eq_true hfin.2⟩
    have hcf : m.cls = cf := by
      obtain ⟨_, _, c', _, _, _, -, -, hf', -, -, -, hown2, -⟩ := Cond.laysFinal_spec hlay
      have e1 : c' = cf := by have := hi.symm.trans hf'; simp at this; exact this.1.symm
      rw [(pe_dcok cI hc10 j hjN).1, ← hb2.2] at hown2
      rw [← e1]; exact Option.some.inj (hown.symm.trans hown2)
    have h6 := u_fits hfc hkC hkind (Or.inr hlay) hi hty hn hfit
    rcases hlk with hlk | hlk
    · refine W.putFinK hx hb hown hlk hi hst hcf (hini hb2.1) (by rw [q2]; exact h6) q1 q3 (by rw [hsl]; exact k2_hasslot (q4 j hjN)) rfl rfl hd fun H' e1 e2 e3 => ?_
      exact kk H' _ (hend H' e1 e2 e3) hbase
    · have ha : pe_ad b n0 r < H.size := (Array.getElem?_eq_some_iff.mp q1).1
      refine va_Wputf hx hb hown (va_tabs (A' := args) rfl (rfl : s.vm = s.vm) hlk) hi hst (Or.inr ⟨hcf, hini hb2.1⟩) q1 (by rw [q3]; exact fun h => by cases h) (by rw [hsl]; exact k2_hasslot (q4 j hjN)) h6.1 (by rw [q2, q3]; exact h6.2) rfl rfl hd ?_
      exact kk _ _ (hend _ (by simp [Array.getElem?_setIfInBounds, ha]) (by simp) (fun q hq => by simp [Array.getElem?_setIfInBounds, Ne.symm hq])) hbase
  · unfold u_lay at hlay
    rw [if_neg hff] at hlay
    have h6 := u_store hfc hkC hkind hlay hi hty hn hfit
    rcases hlk with hlk | hlk
    · refine W.putK hx hb (f := f) ⟨hown, hlk, ⟨_, _, _, hi⟩, hst⟩ (by rw [q2]; exact h6) q1 q3 (by rw [hsl]; exact k2_hasslot (q4 j hjN)) rfl rfl hd fun H' e1 e2 e3 => ?_
      exact kk H' _ (hend H' e1 e2 e3) hbase
    · refine va_WputK hx hb (f := f) hown (va_tabs (A' := args) rfl (rfl : s.vm = s.vm) hlk) hi hst (by rw [q2]; exact h6) q1 q3 (by rw [hsl]; exact k2_hasslot (q4 j hjN)) rfl rfl hd fun H' e1 e2 e3 => ?_
      exact kk H' _ (hend H' e1 e2 e3) hbase
theorem pe_r_gf {S S' : pe_S} {φ : List Prop} {o i : Nat} (hx : p.tables.exec = Jvm.exec) (hb : c.code = cc) (hs : pe_gf o i S = some (φ, S')) (hφ : pe_all φ) (hts : ∀ w ∈ pe_TB, w.before args s = true) (hN : pe_N s) (hown : s.vm.findClass (pe_rn o) = some m.cls) (hG : pe_G D cA b n0 H0 s) (hd : decode cc S.1 = .ok (.getfield i, 3))
    (h : pe_PW p l e R s m args below meth c Q D cA b n0 H0 nS uS nF uF nL S') : pe_PW p l e R s m args below meth c Q D cA b n0 H0 nS uS nF uF nL S := by
  obtain ⟨pc, ls, st, σ⟩ := S
  unfold pe_gf at hs
  split at hs
  · rename_i r st' cI j pl he hf
    dsimp only at he hd
    subst he
    have fin : ∀ (v : pe_V) (hv : pe_vt (pe_ad b n0) (pe_fty cI j) (pe_I σ r j) (pe_R σ r j) = pe_e (pe_ad b n0) v) (hk : pe_K σ r = cI) (h' : pe_PW p l e R s m args below meth c Q D cA b n0 H0 nS uS nF uF nL (pc + 3, ls, v :: st', σ)), pe_PW p l e R s m args below meth c Q D cA b n0 H0 nS uS nF uF nL (pc, ls, .inr (.inr r) :: st', σ) :=
      fun v hv hk h' => ⟨h'.1, h'.2.1, fun h1 h2 h3 H Ls locs hH hL hlocs => pe_w_getf hx hb hts hN hown hG hH hf hk hd (by rw [hv]; exact h'.2.2 h1 h2 h3 H Ls locs hH hL hlocs)⟩
    split at hs
    · rename_i ht
      cases hs
      exact fin (.inl (pe_I σ r j)) (by rw [ht]; rfl) hφ h
    · rename_i ht
      cases hs
      exact fin (.inl (pe_I σ r j)) (by rw [ht]; rfl) hφ h
    · rename_i ht
      cases hs
      exact fin (.inr (.inr (pe_R σ r j))) (by rw [ht]; rfl) hφ h
    · cases hs
  · cases hs

theorem pe_r_pf {S S' : pe_S} {φ : List Prop} {o i : Nat} {ini : Bool} (hx : p.tables.exec = Jvm.exec) (hb : c.code = cc) (hs : pe_pf o ini i S = some (φ, S')) (hφ : pe_all φ) (hts : ∀ w ∈ pe_TB, w.before args s = true) (hN : pe_N s) (hown : s.vm.findClass (pe_rn o) = some m.cls) (hini : ini = true → meth.name = "<init>") (hG : pe_G D cA b n0 H0 s) (hd : decode cc S.1 = .ok (.putfield i, 3))
    (h : pe_PW p l e R s m args below meth c Q D cA b n0 H0 nS uS nF uF nL S') : pe_PW p l e R s m args below meth c Q D cA b n0 H0 nS uS nF uF nL S := by
  obtain ⟨pc, ls, st, σ⟩ := S
  unfold pe_pf at hs
  split at hs
  · rename_i x r st' cI j pl he hf
    dsimp only at he hd
    subst he
    split at hs
    · cases hs
    · rename_i hfin
      split at hs
      · rename_i ht
        cases hs
        exact ⟨h.1, h.2.1, fun h1 h2 h3 H Ls locs hH hL hlocs => pe_w_putf (σ' := pe_wI σ r j x) hx hb hts hN hown hini hG hH hf hφ hfin (by rw [pe_tc0 ht]; rfl) (by rw [pe_tc0 ht]; rfl) rfl rfl rfl (fun q w hq => if_neg hq) (fun q w hq => rfl) (by rw [ht, show pe_I (pe_wI σ r j x) r j = x from if_pos ⟨rfl, rfl⟩]; rfl) hlocs hd (fun H' locs' hH' hl' => h.2.2 h1 h2 h3 H' Ls locs' hH' hL hl')⟩
      · rename_i ht
        cases hs
        refine ⟨h.1, h.2.1, fun h1 h2 h3 H Ls locs hH hL hlocs => pe_w_putf (σ' := pe_wI σ r j x) hx hb hts hN hown hini hG hH hf hφ.1 hfin ?_ (by rw [pe_tc3 ht]; rcases hφ.2 with q | q <;> subst q <;> rfl) rfl rfl rfl (fun q w hq => if_neg hq) (fun q w hq => rfl) (by rw [ht, show pe_I (pe_wI σ r j x) r j = x from if_pos ⟨rfl, rfl⟩]; rfl) hlocs hd (fun H' locs' hH' hl' => h.2.2 h1 h2 h3 H' Ls locs' hH' hL hl')⟩
        rw [pe_tc3 ht]
        rcases hφ.2 with q | q <;> subst q <;> rfl
      · cases hs
  · rename_i x r st' cI j pl he hf
    dsimp only at he hd
    subst he
    split at hs
    · cases hs
    · rename_i hfin
      split at hs
      · rename_i ht
        cases hs
        exact ⟨h.1, h.2.1, fun h1 h2 h3 H Ls locs hH hL hlocs => pe_w_putf (σ' := pe_wR σ r j x) hx hb hts hN hown hini hG hH hf hφ hfin (pe_nar2 ht _ _).1 (pe_nar2 ht _ _).2 rfl rfl rfl (fun q w hq => rfl) (fun q w hq => if_neg hq) (by rw [ht, show pe_R (pe_wR σ r j x) r j = x from if_pos ⟨rfl, rfl⟩]; rfl) hlocs hd (fun H' locs' hH' hl' => h.2.2 h1 h2 h3 H' Ls locs' hH' hL hl')⟩
      · cases hs
  · cases hs

end PEW3
