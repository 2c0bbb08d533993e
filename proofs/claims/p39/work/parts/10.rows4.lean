/-! SOUND, 6: arrays, what is new -/
theorem pe_insok : ∀ c, pe_kc c = true → Cond.instantiable (pe_cl c).1 (pe_cl c).2.2 ∈ lw_tbl ∧ Cond.initialized (pe_cl c).1 ∈ lw_tbl := pe_kall (by decide +kernel) (by decide +kernel) (by decide +kernel) (by decide +kernel)
theorem pe_tcok : ∀ c, pe_kc c = true → ∀ k, k < (pe_cl c).2.2 → pe_tc (pe_ty c k) ≠ 4 := pe_kall (by decide +kernel) (by decide +kernel) (by decide +kernel) (by decide +kernel)
theorem pe_akok : ∀ c, c < 7 → pe_aty (pe_ak c) = .object (pe_cl c).1 ∧ Cond.arrayOver (.object (pe_cl c).1) ∈ lw_tbl := by decide +kernel
theorem pe_acok : Cond.arrayClass .int ∈ lw_tbl := by decide +kernel
theorem pe_akL : (pe_aty 22 = .object (pe_cl 19).1 ∧ pe_aty 23 = .object (pe_cl 20).1) ∧ Cond.arrayOver (.object (pe_cl 19).1) ∈ lw_tbl ∧ Cond.arrayOver (.object (pe_cl 20).1) ∈ lw_tbl ∧ Cond.arrayOver (.array .int) ∈ lw_tbl := by decide +kernel
theorem pe_oiok : Cond.instanceMethod objectInit ∈ lw_tbl ∧ Cond.code objectInit ⟨#[0xb1]⟩ 1 none ∈ lw_tbl := by decide +kernel
theorem pe_cok : ∀ o i c pl, pe_go (pe_cT o) i = some (c, pl) → pe_kc c = true ∧ Cond.classLink (pe_rn o) i (pe_cl c).1 ∈ pe_TB := by
  intro o i c pl h
  have hm := pe_go_mem _ _ _ h
  have key : ∀ o, ∀ q ∈ pe_cT o, lw_tbl[q.2.2]? = some (.classLink (pe_rn o) q.1 (pe_cl q.2.1).1) ∧ pe_kc q.2.1 = true := by
    intro o
    match o with
    | 0 => exact pe_c0_ok
    | 1 => exact pe_c1_ok
    | 2 => exact pe_c2_ok
    | 3 => exact pe_c3_ok
    | 4 => exact pe_c4_ok
    | 5 => exact pe_c5_ok
    | 6 => exact pe_c6_ok
    | 7 => exact pe_c7_ok
    | 8 => exact pe_c8_ok
    | 9 => exact pe_c9_ok
    | 10 => exact pe_c21_ok
    | 11 => exact pe_c11_ok
    | 12 => exact pe_c12_ok
    | 13 => exact pe_c13_ok
    | 14 => exact pe_c21_ok
    | 15 => exact pe_c21_ok
    | 16 => exact pe_c21_ok
    | 17 => exact pe_c21_ok
    | 18 => exact pe_c21_ok
    | 19 => exact pe_c19_ok
    | 20 => exact pe_c20_ok
    | 21 => exact pe_c21_ok
    | n + 22 => exact pe_c21_ok
  obtain ⟨h1, h2⟩ := key o _ hm
  exact ⟨h2, pe_tb h1 rfl⟩
theorem pe_ook : ∀ o i pl, pe_go (pe_oT o) i = some pl → Cond.methodLink (pe_rn o) i objectInit ∈ pe_TB := by
  intro o i pl h
  have hm := pe_go_mem _ _ _ h
  have key : ∀ o, ∀ q ∈ pe_oT o, lw_tbl[q.2]? = some (.methodLink (pe_rn o) q.1 objectInit) := by
    intro o
    match o with
    | 0 => exact pe_o0_ok
    | 1 => exact pe_o1_ok
    | 2 => exact pe_o2_ok
    | 3 => exact pe_o3_ok
    | 4 => exact pe_o4_ok
    | 5 => exact pe_o5_ok
    | 6 => exact pe_o6_ok
    | 7 => exact pe_o7_ok
    | 8 => exact pe_o8_ok
    | 9 => exact pe_o9_ok
    | 10 => exact pe_o21_ok
    | 11 => exact pe_o11_ok
    | 12 => exact pe_o12_ok
    | 13 => exact pe_o13_ok
    | 14 => exact pe_o21_ok
    | 15 => exact pe_o21_ok
    | 16 => exact pe_o21_ok
    | 17 => exact pe_o21_ok
    | 18 => exact pe_o21_ok
    | 19 => exact pe_o19_ok
    | 20 => exact pe_o20_ok
    | 21 => exact pe_o21_ok
    | n + 22 => exact pe_o21_ok
  exact pe_tb (key o _ hm) rfl
theorem pe_kok : ∀ o i v pl, pe_go (pe_kT o) i = some (v, pl) → Cond.constant (pe_rn o) i (Int32.ofInt v) ∈ pe_TB := by
  intro o i v pl h
  have hm := pe_go_mem _ _ _ h
  have key : ∀ o, ∀ q ∈ pe_kT o, lw_tbl[q.2.2]? = some (.constant (pe_rn o) q.1 (Int32.ofInt q.2.1)) := by
    intro o
    match o with
    | 0 => exact pe_k0_ok
    | 1 => exact pe_k1_ok
    | 2 => exact pe_k2_ok
    | 3 => exact pe_k3_ok
    | 4 => exact pe_k4_ok
    | 5 => exact pe_k5_ok
    | 6 => exact pe_k6_ok
    | 7 => exact pe_k7_ok
    | 8 => exact pe_k8_ok
    | 9 => exact pe_k9_ok
    | 10 => exact pe_k21_ok
    | 11 => exact pe_k11_ok
    | 12 => exact pe_k12_ok
    | 13 => exact pe_k13_ok
    | 14 => exact pe_k21_ok
    | 15 => exact pe_k21_ok
    | 16 => exact pe_k21_ok
    | 17 => exact pe_k21_ok
    | 18 => exact pe_k21_ok
    | 19 => exact pe_k19_ok
    | 20 => exact pe_k20_ok
    | 21 => exact pe_k21_ok
    | n + 22 => exact pe_k21_ok
  exact pe_tb (key o _ hm) rfl
theorem pe_lok : ∀ o i v pl, pe_go (pe_lT o) i = some (v, pl) → Cond.constantLong (pe_rn o) i (Int64.ofInt v) ∈ pe_TB := by
  intro o i v pl h
  have hm := pe_go_mem _ _ _ h
  have key : ∀ o, ∀ q ∈ pe_lT o, lw_tbl[q.2.2]? = some (.constantLong (pe_rn o) q.1 (Int64.ofInt q.2.1)) := by
    intro o
    match o with
    | 0 => exact pe_l0_ok
    | 1 => exact pe_l1_ok
    | 2 => exact pe_l2_ok
    | 3 => exact pe_l3_ok
    | 4 => exact pe_l4_ok
    | 5 => exact pe_l5_ok
    | 6 => exact pe_l6_ok
    | 7 => exact pe_l7_ok
    | 8 => exact pe_l8_ok
    | 9 => exact pe_l9_ok
    | 10 => exact pe_l21_ok
    | 11 => exact pe_l11_ok
    | 12 => exact pe_l12_ok
    | 13 => exact pe_l13_ok
    | 14 => exact pe_l21_ok
    | 15 => exact pe_l21_ok
    | 16 => exact pe_l21_ok
    | 17 => exact pe_l21_ok
    | 18 => exact pe_l21_ok
    | 19 => exact pe_l19_ok
    | 20 => exact pe_l20_ok
    | 21 => exact pe_l21_ok
    | n + 22 => exact pe_l21_ok
  exact pe_tb (key o _ hm) rfl
theorem pe_in_tb {w : Cond} (h : w ∈ lw_tbl) (hg : goodWord w = true) : w ∈ pe_TB := List.mem_filter.mpr ⟨h, hg⟩
section PEW4
variable {p : Program} {l : Launch} {e : Env} {R : Room} {s : State} {m : MethodId} {args : Array Value} {below : List Frame} {meth : Method} {c : Code} {Q : State → Prop} {cc : ByteArray}
variable {D : va_G} {cA : Nat → ClassId} {b : Nat × Nat} {n0 : Nat} {H0 : Heap} {nS uS nF uF nL : Nat}
theorem pe_arr (hG : pe_G D cA b n0 H0 s) {k : Nat} (hk : pe_ka k = true) {cell : Cell} {r : Nat} (hc : cell.cls = cA (pe_ca r k)) (hv : ∀ q, cell.vm ≠ .statics q) (hr : r = 1 → k = 10) : s.isArrayOf cell (pe_aty k) := by
  refine ⟨hv, ?_⟩
  rw [hc]
  unfold pe_ca
  by_cases e : r = 1
  · rw [if_pos e, hr e]
    exact (hG.2.2.2.2.1 0 (fun _ => .null)).2
  · rw [if_neg e]
    by_cases e2 : k = 25
    · rw [e2]
      exact (hG.2.2.2.2.2.1.1 0 (fun _ => .null)).2
    · exact ((hG.2.1 k hk e2).1 0 (fun _ => .null)).2
theorem pe_idx {cell : Cell} {x : Int} {L : Int} (hz : (cell.slots.size : Int) = L) (h1 : 0 ≤ pe_w x) (h2 : pe_w x < L) : ¬ (Int32.ofInt x < 0 ∨ cell.slots.size ≤ (Int32.ofInt x).toNatClampNeg) ∧ ((Int32.ofInt x).toNatClampNeg : Int) = pe_w x ∧ (Int32.ofInt x).toNatClampNeg < cell.slots.size := by
  have h3 := pe_clamp h1
  refine ⟨fun h => ?_, h3, by omega⟩
  rcases h with h | h
  · have := (pe_lt0 x).mp h; omega
  · omega
theorem pe_vt2 (ad : Nat → Nat) (k : Nat) (h1 : (12 ≤ k ∧ k < 19) ∨ (22 ≤ k ∧ k < 25)) (x : Int) (r : Nat) : pe_vt ad (pe_tc (pe_aty k)) x r = pe_rf ad r := by
  unfold pe_aty
  split <;> first | omega | rfl
/-- an array's cell written -/
theorem pe_Hd.arr {σ σ' : pe_H} {H H' : Heap} {r : Nat} {cell : Cell} {i : Nat} {v : Value} (hH : pe_Hd D cA b n0 H0 σ H) (hka : pe_ka (pe_K σ r) = true) (h2 : 3 ≤ r) (hcell : H[pe_ad b n0 r]? = some cell) (g2 : cell.cls = cA (pe_ca r (pe_K σ r))) (g3 : cell.vm ≠ .unknown) (g4 : ∀ q, cell.vm ≠ .statics q) (g5 : (cell.slots.size : Int) = pe_L σ r) (g6 : ∀ j : Nat, j < cell.slots.size → cell.slots[j]? = some (pe_vt (pe_ad b n0) (pe_tc (pe_aty (pe_K σ r))) (pe_I σ r j) (pe_R σ r j)))
    (e1 : H'[pe_ad b n0 r]? = some (cell.setSlot i v)) (e2 : H'.size = H.size) (e3 : ∀ q, q ≠ pe_ad b n0 r → H'[q]? = H[q]?) (hi : i < cell.slots.size)
    (hn' : pe_n σ' = pe_n σ) (hK' : pe_K σ' = pe_K σ) (hL' : pe_L σ' = pe_L σ) (hI' : ∀ q (w : Int), ¬ (q = r ∧ w = (i : Int)) → pe_I σ' q w = pe_I σ q w) (hR' : ∀ q (w : Int), ¬ (q = r ∧ w = (i : Int)) → pe_R σ' q w = pe_R σ q w) (hv' : pe_vt (pe_ad b n0) (pe_tc (pe_aty (pe_K σ r))) (pe_I σ' r i) (pe_R σ' r i) = v) : pe_Hd D cA b n0 H0 σ' H' := by
  refine hH.upd hn' hK' hL' (fun q hq w => hI' q w (fun a => hq a.1)) (fun q hq w => hR' q w (fun a => hq a.1)) h2 e2 e3 ⟨fun h => ?_, fun _ => ⟨_, e1, by rw [hK']; exact g2, g3, g4, by rw [hL']; show ((cell.slots.setIfInBounds i v).size : Int) = _; rw [Array.size_setIfInBounds]; exact g5, fun j hj => ?_⟩⟩
  · rw [hK'] at h; exact (pe_kca h hka).elim
  · show (cell.slots.setIfInBounds i v)[j]? = _
    have hj' : j < cell.slots.size := by have : j < (cell.slots.setIfInBounds i v).size := hj; rw [Array.size_setIfInBounds] at this; exact this
    rw [hK']
    by_cases hji : j = i
    · subst hji
      rw [hv']
      simp [hi]
    · rw [Array.getElem?_setIfInBounds_ne (fun q => hji q.symm), hI' r j (fun a => hji (by have := a.2; omega)), hR' r j (fun a => hji (by have := a.2; omega))]
      exact g6 j hj'
theorem pe_base {locs : List Loc} {r i : Nat} (hlocs : ∀ q ∈ locs, n0 ≤ q.base) (h2 : 3 ≤ r) : ∀ q ∈ locs ++ [(⟨pe_ad b n0 r, i⟩ : Loc)], n0 ≤ q.base := by
  intro q hq
  rcases List.mem_append.mp hq with h | h
  · exact hlocs q h
  · rw [List.mem_singleton.mp h]
    show n0 ≤ pe_ad b n0 r
    unfold pe_ad; rw [if_neg (by omega), if_neg (by omega)]; omega

theorem pe_r_iaload {S S' : pe_S} {φ : List Prop} (hx : p.tables.exec = Jvm.exec) (hb : c.code = cc) {gk : Nat → Prop} (hgk : ∀ k, gk k → k = 10 ∨ k = 25) (hs : pe_al gk (fun σ r j => .inl (pe_I σ r j)) S = some (φ, S')) (hφ : pe_all φ) (hG : pe_G D cA b n0 H0 s) (hd : decode cc S.1 = .ok (.iaload, 1))
    (h : pe_PW p l e R s m args below meth c Q D cA b n0 H0 nS uS nF uF nL S') : pe_PW p l e R s m args below meth c Q D cA b n0 H0 nS uS nF uF nL S := by
  obtain ⟨pc, ls, st, σ⟩ := S
  unfold pe_al at hs
  split at hs
  · rename_i x r st' he
    cases hs
    dsimp only at he hd
    subst he
    obtain ⟨hk, hi1, hi2⟩ := hφ
    have hk : pe_K σ r = 10 ∨ pe_K σ r = 25 := hgk _ hk
    have hka : pe_ka (pe_K σ r) = true := pe_ka_of (by omega)
    refine ⟨h.1, h.2.1, fun h1 h2 h3 H Ls locs hH hL hlocs => ?_⟩
    have h19 : pe_K σ r < 26 := by omega
    obtain ⟨r0, -, hce⟩ := hH.2.2.2.2.2 r h19
    obtain ⟨cell, g1, g2, g3, g4, g5, g6⟩ := hce.2 hka
    obtain ⟨q1, q2, q3⟩ := pe_idx g5 hi1 hi2
    have hr := pe_arr hG hka g2 g4 (fun e => by rw [e]; exact hH.2.2.2.2.1)
    have hv := g6 _ q3
    rw [q2] at hv
    have hty : pe_aty (pe_K σ r) = .int := by rcases hk with q | q <;> rw [q] <;> rfl
    rw [hty] at hr hv
    show W p l e R s m args below meth c H locs _ _ Q (F0 m pc Ls (.int (Int32.ofInt x) :: pe_rf (pe_ad b n0) r :: st'.map (pe_e (pe_ad b n0))))
    rw [pe_rf_pos _ r0]
    exact W.iald hx hb g1 hr g3 q1 hv rfl rfl hd (h.2.2 h1 h2 h3 H Ls locs hH hL hlocs)
  · cases hs

theorem pe_r_aaload {S S' : pe_S} {φ : List Prop} (hx : p.tables.exec = Jvm.exec) (hb : c.code = cc) {gk : Nat → Prop} (hgk : ∀ k, gk k → (12 ≤ k ∧ k < 19) ∨ (22 ≤ k ∧ k < 25)) (hs : pe_al gk (fun σ r j => .inr (.inr (pe_R σ r j))) S = some (φ, S')) (hφ : pe_all φ) (hG : pe_G D cA b n0 H0 s) (hd : decode cc S.1 = .ok (.aaload, 1))
    (h : pe_PW p l e R s m args below meth c Q D cA b n0 H0 nS uS nF uF nL S') : pe_PW p l e R s m args below meth c Q D cA b n0 H0 nS uS nF uF nL S := by
  obtain ⟨pc, ls, st, σ⟩ := S
  unfold pe_al at hs
  split at hs
  · rename_i x r st' he
    cases hs
    dsimp only at he hd
    subst he
    obtain ⟨hk, hi1, hi2⟩ := hφ
    have hk : (12 ≤ pe_K σ r ∧ pe_K σ r < 19) ∨ (22 ≤ pe_K σ r ∧ pe_K σ r < 25) := hgk _ hk
    have hka : pe_ka (pe_K σ r) = true := pe_ka_of (by omega)
    refine ⟨h.1, h.2.1, fun h1 h2 h3 H Ls locs hH hL hlocs => ?_⟩
    have h19 : pe_K σ r < 26 := by omega
    obtain ⟨r0, -, hce⟩ := hH.2.2.2.2.2 r h19
    obtain ⟨cell, g1, g2, g3, g4, g5, g6⟩ := hce.2 hka
    obtain ⟨q1, q2, q3⟩ := pe_idx g5 hi1 hi2
    have hr := pe_arr hG hka g2 g4 (fun e => by rw [e]; exact hH.2.2.2.2.1)
    have hv := g6 _ q3
    rw [q2] at hv
    rw [pe_vt2 _ _ hk] at hv
    show W p l e R s m args below meth c H locs _ _ Q (F0 m pc Ls (.int (Int32.ofInt x) :: pe_rf (pe_ad b n0) r :: st'.map (pe_e (pe_ad b n0))))
    rw [pe_rf_pos _ r0]
    exact W.aald hx hb g1 hr (by unfold pe_aty; split <;> first | omega | rfl) g3 q1 hv rfl rfl hd (h.2.2 h1 h2 h3 H Ls locs hH hL hlocs)
  · cases hs

theorem pe_r_iastore {S S' : pe_S} {φ : List Prop} (hx : p.tables.exec = Jvm.exec) (hb : c.code = cc) (hs : pe_as S = some (φ, S')) (hφ : pe_all φ) (hG : pe_G D cA b n0 H0 s) (hd : decode cc S.1 = .ok (.iastore, 1))
    (h : pe_PW p l e R s m args below meth c Q D cA b n0 H0 nS uS nF uF nL S') : pe_PW p l e R s m args below meth c Q D cA b n0 H0 nS uS nF uF nL S := by
  obtain ⟨pc, ls, st, σ⟩ := S
  unfold pe_as at hs
  split at hs
  · rename_i y x r st' he
    cases hs
    dsimp only at he hd
    subst he
    obtain ⟨hk, hi1, hi2, hr2⟩ := hφ
    have hk : pe_K σ r = 10 := hk
    refine ⟨h.1, h.2.1, fun h1 h2 h3 H Ls locs hH hL hlocs => ?_⟩
    have h19 : pe_K σ r < 26 := by omega
    have hka : pe_ka (pe_K σ r) = true := pe_ka_of (by omega)
    have hH : pe_Hd D cA b n0 H0 σ H := hH
    have hr2 : 2 ≤ r := hr2
    have hr2 : 3 ≤ r := pe_r3 hH h19 (Or.inr hr2) (by omega)
    obtain ⟨r0, -, hce⟩ := hH.2.2.2.2.2 r h19
    obtain ⟨cell, g1, g2, g3, g4, g5, g6⟩ := hce.2 hka
    obtain ⟨q1, q2, q3⟩ := pe_idx g5 hi1 hi2
    have hr := pe_arr hG hka g2 g4 (fun e => by rw [e]; exact hH.2.2.2.2.1)
    show W p l e R s m args below meth c H locs _ _ Q (F0 m pc Ls (.int (Int32.ofInt y) :: .int (Int32.ofInt x) :: pe_rf (pe_ad b n0) r :: st'.map (pe_e (pe_ad b n0))))
    rw [pe_rf_pos _ r0]
    refine W.iast hx hb g1 (by rw [hk] at hr; exact hr) g3 q1 rfl rfl hd (fun H' e1 e2 e3 => ?_)
    exact h.2.2 h1 h2 h3 H' Ls _ (hH.arr (σ' := pe_wI σ r (pe_w x) y) hka hr2 g1 g2 g3 g4 g5 g6 e1 e2 e3 q3 rfl rfl rfl (fun q w hq => if_neg (by rw [← q2]; exact hq)) (fun q w hq => rfl) (by rw [hk, q2, show pe_I (pe_wI σ r (pe_w x) y) r (pe_w x) = y from if_pos ⟨rfl, rfl⟩]; rfl)) hL (pe_base hlocs hr2)
  · cases hs

theorem pe_aastN0 {locs : List Loc} {cells slots : Nat} {T : State} (X : Stand p l e R s m args below meth c T locs cells slots) (hexec : p.tables.exec = Jvm.exec) {a : Addr} {cell : Cell} {t : FieldType} {j : Int32} (hcell : T.heap[a]? = some cell) (harr : s.isArrayOf cell t) (href : t.isReference = true) (hknown : cell.vm ≠ .unknown)
    (hin : ¬ (j < 0 ∨ cell.slots.size ≤ j.toNatClampNeg)) {g : JFrame} (hg : g.method = m) {rest : List Value} (hstack : g.stack = .null :: .int j :: .ref a :: rest) (hdg : decode c.code g.pc = .ok (.aastore, 1)) :
    Stand p l e R s m args below meth c (T.setCell a (cell.setSlot j.toNatClampNeg .null)) (locs ++ [⟨a, j.toNatClampNeg⟩]) cells slots ∧
      ∀ target, Steps p.tables e below ((T.setCell a (cell.setSlot j.toNatClampNeg .null)).setTop { g with pc := g.pc + 1, stack := rest }) target → Steps p.tables e below (T.setTop g) target := by
  have hT := State.isArrayOf_alike X.warmed.alike harr
  have hf0 : fits t .null = true := by cases t <;> simp [FieldType.isReference] at href <;> rfl
  have hfit : T.fitsSlot cell.cls cell.vm j.toNatClampNeg .null = true := by
    obtain ⟨hobj, k, hk, comp, hkind⟩ := hT
    cases hvm : cell.vm <;> first | exact absurd hvm (hobj _) | simp [State.fitsSlot, State.slotType?, hk, hkind, hf0]
  refine ⟨X.stored hcell _ _, fun target hrest => ?_⟩
  subst hg
  jvm_step X.here [hexec, hdg]
  refine aastore.wp_of_null (c := cell) (t := t) X.here.top hstack hcell hT hin hknown (Nat.not_le.mp fun q => hin (Or.inr q)) hfit ?_
  intro acts
  rw [afterInstr_ok]
  exact hrest
theorem pe_WaastN {H : Heap} {locs : List Loc} {cells slots : Nat} (hexec : p.tables.exec = Jvm.exec) (hb : c.code = cc) {a : Addr} {cell : Cell} {t : FieldType} {j : Int32} (hcell : H[a]? = some cell) (harr : s.isArrayOf cell t) (href : t.isReference = true) (hknown : cell.vm ≠ .unknown) (hin : ¬ (j < 0 ∨ cell.slots.size ≤ j.toNatClampNeg))
    {g : JFrame} (hg : g.method = m) {rest : List Value} (hstack : g.stack = .null :: .int j :: .ref a :: rest) (hdg : decode cc g.pc = .ok (.aastore, 1))
    (kk : ∀ H' : Heap, H'[a]? = some (cell.setSlot j.toNatClampNeg .null) → H'.size = H.size → (∀ q, q ≠ a → H'[q]? = H[q]?) → W p l e R s m args below meth c H' (locs ++ [⟨a, j.toNatClampNeg⟩]) cells slots Q { g with pc := g.pc + 1, stack := rest }) : W p l e R s m args below meth c H locs cells slots Q g := by
  intro T hT X
  have hT' : T.heap[a]? = some cell := by rw [hT]; exact hcell
  obtain ⟨X', st⟩ := pe_aastN0 X hexec hT' harr href hknown hin hg hstack (by rw [hb]; exact hdg)
  have hlt : a < T.heap.size := (Array.getElem?_eq_some_iff.mp hT').1
  obtain ⟨t', a1, b1⟩ := kk _ (heapAt_setCell_self _ hlt) (by rw [size_setCell, hT]) (fun q hq => by rw [heapAt_setCell_ne _ (Ne.symm hq), hT]) (T.setCell a (cell.setSlot j.toNatClampNeg .null)) rfl X'
  exact ⟨t', st t' a1, b1⟩
theorem pe_r_aastore {S S' : pe_S} {φ : List Prop} (hx : p.tables.exec = Jvm.exec) (hb : c.code = cc) (hs : pe_rs S = some (φ, S')) (hφ : pe_all φ) (hG : pe_G D cA b n0 H0 s) (hd : decode cc S.1 = .ok (.aastore, 1))
    (h : pe_PW p l e R s m args below meth c Q D cA b n0 H0 nS uS nF uF nL S') : pe_PW p l e R s m args below meth c Q D cA b n0 H0 nS uS nF uF nL S := by
  obtain ⟨pc, ls, st, σ⟩ := S
  unfold pe_rs at hs
  split at hs
  · rename_i y x r st' he
    cases hs
    dsimp only at he hd
    subst he
    obtain ⟨⟨hk, h19⟩, hkq, hi1, hi2, hr2⟩ := hφ
    have hk : 12 ≤ pe_K σ r := hk
    have h19 : pe_K σ r < 19 := h19
    have hkq : y = 0 ∨ pe_K σ r = pe_ak (pe_K σ y) := hkq
    refine ⟨h.1, h.2.1, fun h1 h2 h3 H Ls locs hH hL hlocs => ?_⟩
    have hka : pe_ka (pe_K σ r) = true := pe_ka_of (by omega)
    have hH : pe_Hd D cA b n0 H0 σ H := hH
    have hr2 : 2 ≤ r := hr2
    have hr2 : 3 ≤ r := pe_r3 hH (by omega) (Or.inr hr2) (by omega)
    obtain ⟨r0, -, hce⟩ := hH.2.2.2.2.2 r (by omega)
    obtain ⟨cell, g1, g2, g3, g4, g5, g6⟩ := hce.2 hka
    obtain ⟨q1, q2, q3⟩ := pe_idx g5 hi1 hi2
    have hr := pe_arr hG hka g2 g4 (fun e => by rw [e]; exact hH.2.2.2.2.1)
    show W p l e R s m args below meth c H locs _ _ Q (F0 m pc Ls (pe_rf (pe_ad b n0) y :: .int (Int32.ofInt x) :: pe_rf (pe_ad b n0) r :: st'.map (pe_e (pe_ad b n0))))
    rw [pe_rf_pos _ r0]
    have hc7 : pe_K σ r - 12 < 7 := by omega
    have hak := (pe_akok (pe_K σ r - 12) hc7).1
    have hak2 : pe_ak (pe_K σ r - 12) = pe_K σ r := by unfold pe_ak; omega
    rw [hak2] at hak
    have hend : ∀ H' : Heap, H'[pe_ad b n0 r]? = some (cell.setSlot (Int32.ofInt x).toNatClampNeg (pe_rf (pe_ad b n0) y)) → H'.size = H.size → (∀ q, q ≠ pe_ad b n0 r → H'[q]? = H[q]?) → W p l e R s m args below meth c H' (locs ++ [(⟨pe_ad b n0 r, (Int32.ofInt x).toNatClampNeg⟩ : Loc)]) (pe_n σ - nS) (pe_u σ - uS) Q (F0 m (pc + 1) Ls (st'.map (pe_e (pe_ad b n0)))) := fun H' e1 e2 e3 =>
      h.2.2 h1 h2 h3 H' Ls _ (hH.arr (σ' := pe_wR σ r (pe_w x) y) hka hr2 g1 g2 g3 g4 g5 g6 e1 e2 e3 q3 rfl rfl rfl (fun q w hq => rfl) (fun q w hq => if_neg (by rw [← q2]; exact hq)) (by rw [pe_vt2 _ _ (Or.inl ⟨hk, h19⟩), q2, show pe_R (pe_wR σ r (pe_w x) y) r (pe_w x) = y from if_pos ⟨rfl, rfl⟩])) hL (pe_base hlocs hr2)
    by_cases hy : y = 0
    · have e0 : pe_rf (pe_ad b n0) y = .null := by unfold pe_rf; rw [if_pos hy]
      rw [e0] at hend ⊢
      exact va_WaastN hx hb g1 (by rw [hak] at hr; exact hr) g3 q1 rfl rfl hd (fun H' e1 e2 e3 => hend H' e1 e2 e3)
    · have hkq : pe_K σ r = pe_ak (pe_K σ y) := by rcases hkq with q | q; exact absurd q hy; exact q
      have hky : pe_K σ y = pe_K σ r - 12 := by unfold pe_ak at hkq; omega
      have hH : pe_Hd D cA b n0 H0 σ H := hH
      obtain ⟨y0, -, hcy⟩ := hH.2.2.2.2.2 y (by omega)
      obtain ⟨cv, v1, v2, v3, -⟩ := hcy.1 (pe_kc_10 (by omega))
      have e0 : pe_rf (pe_ad b n0) y = .ref (pe_ad b n0 y) := pe_rf_pos _ y0
      rw [e0] at hend ⊢
      have hcls := (hG.1 (pe_K σ r - 12) (pe_kc_10 (by omega))).2
      have hra := (hG.2.1 (pe_K σ r) hka (by omega)).2
      rw [hak] at hra
      obtain ⟨kA, comp, k1, k2, k3, -⟩ := hra
      have hcomp : comp = D.1 (pe_K σ r - 12) := Option.some.inj (k3.symm.trans hcls.1)
      subst hcomp
      obtain ⟨kC, hkC, -⟩ := hcls.2
      exact W.aast hx hb g1 g4 g3 (by rw [g2]; show s.vm.classes[cA (pe_ca r (pe_K σ r))]? = some kA; rw [pe_ca2 (by omega)]; exact k1) k2 rfl hkC ⟨fun q => q1 (Or.inl q), q3⟩ v1 (fun q h => by rw [v3] at h; cases h) (by rw [v2, hky]; exact hkC) (by rw [v2, hky]; exact va_assign hcls) rfl rfl hd (fun H' e1 e2 e3 => hend H' e1 e2 e3)
  · cases hs

theorem pe_r_aastoreL {S S' : pe_S} {φ : List Prop} (hx : p.tables.exec = Jvm.exec) (hb : c.code = cc) (hs : pe_rsL S = some (φ, S')) (hφ : pe_all φ) (hG : pe_G D cA b n0 H0 s) (hd : decode cc S.1 = .ok (.aastore, 1))
    (h : pe_PW p l e R s m args below meth c Q D cA b n0 H0 nS uS nF uF nL S') : pe_PW p l e R s m args below meth c Q D cA b n0 H0 nS uS nF uF nL S := by
  obtain ⟨pc, ls, st, σ⟩ := S
  unfold pe_rsL at hs
  split at hs
  · rename_i y x r st' he
    cases hs
    dsimp only at he hd
    subst he
    obtain ⟨⟨hk, h19⟩, hkq, hi1, hi2, hr2⟩ := hφ
    have hk : 22 ≤ pe_K σ r := hk
    have h19 : pe_K σ r < 25 := h19
    have hkq : y = 0 ∨ (3 ≤ y ∧ pe_K σ y = pe_ek (pe_K σ r)) := hkq
    refine ⟨h.1, h.2.1, fun h1 h2 h3 H Ls locs hH hL hlocs => ?_⟩
    have hka : pe_ka (pe_K σ r) = true := pe_ka_of (by omega)
    have hH : pe_Hd D cA b n0 H0 σ H := hH
    have hr2 : 3 ≤ r := hr2
    obtain ⟨r0, -, hce⟩ := hH.2.2.2.2.2 r (by omega)
    obtain ⟨cell, g1, g2, g3, g4, g5, g6⟩ := hce.2 hka
    obtain ⟨q1, q2, q3⟩ := pe_idx g5 hi1 hi2
    have hr := pe_arr hG hka g2 g4 (fun e => by rw [e]; exact hH.2.2.2.2.1)
    show W p l e R s m args below meth c H locs _ _ Q (F0 m pc Ls (pe_rf (pe_ad b n0) y :: .int (Int32.ofInt x) :: pe_rf (pe_ad b n0) r :: st'.map (pe_e (pe_ad b n0))))
    rw [pe_rf_pos _ r0]
    have hend : ∀ H' : Heap, H'[pe_ad b n0 r]? = some (cell.setSlot (Int32.ofInt x).toNatClampNeg (pe_rf (pe_ad b n0) y)) → H'.size = H.size → (∀ q, q ≠ pe_ad b n0 r → H'[q]? = H[q]?) → W p l e R s m args below meth c H' (locs ++ [(⟨pe_ad b n0 r, (Int32.ofInt x).toNatClampNeg⟩ : Loc)]) (pe_n σ - nS) (pe_u σ - uS) Q (F0 m (pc + 1) Ls (st'.map (pe_e (pe_ad b n0)))) := fun H' e1 e2 e3 =>
      h.2.2 h1 h2 h3 H' Ls _ (hH.arr (σ' := pe_wR σ r (pe_w x) y) hka hr2 g1 g2 g3 g4 g5 g6 e1 e2 e3 q3 rfl rfl rfl (fun q w hq => rfl) (fun q w hq => if_neg (by rw [← q2]; exact hq)) (by rw [pe_vt2 _ _ (Or.inr ⟨hk, h19⟩), q2, show pe_R (pe_wR σ r (pe_w x) y) r (pe_w x) = y from if_pos ⟨rfl, rfl⟩])) hL (pe_base hlocs hr2)
    by_cases hy : y = 0
    · have e0 : pe_rf (pe_ad b n0) y = .null := by unfold pe_rf; rw [if_pos hy]
      rw [e0] at hend ⊢
      have h3k : pe_K σ r = 22 ∨ pe_K σ r = 23 ∨ pe_K σ r = 24 := by omega
      rcases h3k with q | q | q
      · rw [q, pe_akL.1.1] at hr
        exact va_WaastN hx hb g1 hr g3 q1 rfl rfl hd (fun H' e1 e2 e3 => hend H' e1 e2 e3)
      · rw [q, pe_akL.1.2] at hr
        exact va_WaastN hx hb g1 hr g3 q1 rfl rfl hd (fun H' e1 e2 e3 => hend H' e1 e2 e3)
      · rw [q] at hr
        exact pe_WaastN hx hb g1 (t := .array .int) hr rfl g3 q1 rfl rfl hd (fun H' e1 e2 e3 => hend H' e1 e2 e3)
    · obtain ⟨hy3, hkq⟩ : 3 ≤ y ∧ pe_K σ y = pe_ek (pe_K σ r) := by
        rcases hkq with q | q
        · exact absurd q hy
        · exact q
      have hH : pe_Hd D cA b n0 H0 σ H := hH
      have key : ∀ (cI : Nat), pe_kc cI = true → pe_K σ y = cI → pe_aty (pe_K σ r) = .object (pe_cl cI).1 → W p l e R s m args below meth c H locs (pe_n σ - nS) (pe_u σ - uS) Q (F0 m pc Ls (pe_rf (pe_ad b n0) y :: .int (Int32.ofInt x) :: .ref (pe_ad b n0 r) :: st'.map (pe_e (pe_ad b n0)))) := fun cI hcI hky hak => by
        obtain ⟨y0, -, hcy⟩ := hH.2.2.2.2.2 y (by rw [hky]; exact pe_kc_lt hcI)
        obtain ⟨cv, v1, v2, v3, -⟩ := hcy.1 (by rw [hky]; exact hcI)
        have e0 : pe_rf (pe_ad b n0) y = .ref (pe_ad b n0 y) := pe_rf_pos _ y0
        rw [e0] at hend ⊢
        have hcls := (hG.1 cI hcI).2
        have hra := (hG.2.1 (pe_K σ r) hka (by omega)).2
        rw [hak] at hra
        obtain ⟨kA, comp, k1, k2, k3, -⟩ := hra
        have hcomp : comp = D.1 cI := Option.some.inj (k3.symm.trans hcls.1)
        subst hcomp
        obtain ⟨kC, hkC, -⟩ := hcls.2
        exact W.aast hx hb g1 g4 g3 (by rw [g2]; show s.vm.classes[cA (pe_ca r (pe_K σ r))]? = some kA; rw [pe_ca2 (by omega)]; exact k1) k2 rfl hkC ⟨fun q => q1 (Or.inl q), q3⟩ v1 (fun q h => by rw [v3] at h; cases h) (by rw [v2, hky]; exact hkC) (by rw [v2, hky]; exact va_assign hcls) rfl rfl hd (fun H' e1 e2 e3 => hend H' e1 e2 e3)
      have h3k : pe_K σ r = 22 ∨ pe_K σ r = 23 ∨ pe_K σ r = 24 := by omega
      rcases h3k with q | q | q
      · exact key 19 (by decide) (by rw [hkq, q]; rfl) (by rw [q]; exact pe_akL.1.1)
      · exact key 20 (by decide) (by rw [hkq, q]; rfl) (by rw [q]; exact pe_akL.1.2)
      · have hky : pe_K σ y = 10 := by rw [hkq, q]; rfl
        obtain ⟨y0, -, hcy⟩ := hH.2.2.2.2.2 y (by omega)
        obtain ⟨cv, v1, v2, v3, v4, -⟩ := hcy.2 (by rw [hky]; rfl)
        have e0 : pe_rf (pe_ad b n0) y = .ref (pe_ad b n0 y) := pe_rf_pos _ y0
        rw [e0] at hend ⊢
        obtain ⟨k, c1, c2⟩ := hG.2.2.2.2.2.2.1
        obtain ⟨-, kC, hkC, -⟩ := (hG.2.1 10 (by decide) (by decide)).1 0 (fun _ => .null)
        rw [hky, pe_ca2 (by omega)] at v2
        rw [q, pe_ca2 (by omega)] at g2
        exact W.aast hx hb g1 g4 g3 (by rw [g2]; exact c1) c2 rfl hkC ⟨fun q => q1 (Or.inl q), q3⟩ v1 v4 (by rw [v2]; exact hkC) (by rw [v2]; exact va_asg _ _) rfl rfl hd (fun H' e1 e2 e3 => hend H' e1 e2 e3)
  · cases hs

theorem pe_r_alen {S S' : pe_S} {φ : List Prop} (hx : p.tables.exec = Jvm.exec) (hb : c.code = cc) {gk : Nat → Prop} (hgk : ∀ k, gk k → pe_ka k = true) (hs : (match S.2.2.1 with | .inr (.inr r) :: st => some ([gk (pe_K S.2.2.2 r)], (S.1 + 1, S.2.1, .inl (pe_L S.2.2.2 r) :: st, S.2.2.2)) | _ => none) = some (φ, S')) (hφ : pe_all φ) (hG : pe_G D cA b n0 H0 s) (hd : decode cc S.1 = .ok (.arraylength, 1))
    (h : pe_PW p l e R s m args below meth c Q D cA b n0 H0 nS uS nF uF nL S') : pe_PW p l e R s m args below meth c Q D cA b n0 H0 nS uS nF uF nL S := by
  obtain ⟨pc, ls, st, σ⟩ := S
  split at hs
  · rename_i r st' he
    cases hs
    dsimp only at he hd
    subst he
    have hka : pe_ka (pe_K σ r) = true := hgk _ hφ
    have h19 : pe_K σ r < 26 := by have := pe_kas hka; omega
    refine ⟨h.1, h.2.1, fun h1 h2 h3 H Ls locs hH hL hlocs => ?_⟩
    obtain ⟨r0, -, hce⟩ := hH.2.2.2.2.2 r h19
    obtain ⟨cell, g1, g2, g3, g4, g5, g6⟩ := hce.2 hka
    show W p l e R s m args below meth c H locs _ _ Q (F0 m pc Ls (pe_rf (pe_ad b n0) r :: st'.map (pe_e (pe_ad b n0))))
    rw [pe_rf_pos _ r0]
    refine W.alen (n := Int32.ofInt (pe_L σ r)) hx hb g1 (pe_arr hG hka g2 g4 (fun e => by rw [e]; exact hH.2.2.2.2.1)) ?_ rfl rfl hd (h.2.2 h1 h2 h3 H Ls locs hH hL hlocs)
    rw [← g5]
    rfl
  · cases hs

theorem pe_r_nw {S S' : pe_S} {φ : List Prop} {o i : Nat} (hx : p.tables.exec = Jvm.exec) (hb : c.code = cc) (hs : pe_nw o i S = some (φ, S')) (hRc : nF - nS ≤ R.cells) (hRs : uF - uS ≤ R.slots) (hts : ∀ w ∈ pe_TB, w.before args s = true) (hown : s.vm.findClass (pe_rn o) = some m.cls) (hG : pe_G D cA b n0 H0 s) (hd : decode cc S.1 = .ok (.new i, 3))
    (h : pe_PW p l e R s m args below meth c Q D cA b n0 H0 nS uS nF uF nL S') : pe_PW p l e R s m args below meth c Q D cA b n0 H0 nS uS nF uF nL S := by
  obtain ⟨pc, ls, st, σ⟩ := S
  unfold pe_nw at hs
  split at hs
  · rename_i cI pl hc
    cases hs
    dsimp only at hd
    obtain ⟨hc10, hlk⟩ := pe_cok _ _ _ _ hc
    have hn1 : pe_n (pe_new σ cI 0 (pe_cl cI).2.2) = pe_n σ + 1 := rfl
    have hu1 : pe_u (pe_new σ cI 0 (pe_cl cI).2.2) = pe_u σ + (pe_cl cI).2.2 := rfl
    have hf1 : pe_n σ + 1 ≤ nF := h.1
    have hf2 : pe_u σ + (pe_cl cI).2.2 ≤ uF := h.2.1
    refine ⟨Nat.le_trans (Nat.le_succ _) hf1, Nat.le_trans (Nat.le_add_right _ _) hf2, fun h1 h2 h3 H Ls locs hH hL hlocs => ?_⟩
    have hH : pe_Hd D cA b n0 H0 σ H := hH
    have h1 : nS ≤ pe_n σ := h1
    have h2 : uS ≤ pe_u σ := h2
    have hKn := hG.1 cI hc10
    refine W.newcK hx hb hown (hts _ hlk) (hts _ (pe_in_tb (pe_insok cI hc10).1 rfl)) (hts _ (pe_in_tb (pe_insok cI hc10).2 rfl)) rfl hd (by show pe_n σ - nS + 1 ≤ _; omega) (by show pe_u σ - uS + _ ≤ _; omega) hKn.2.1 rfl fun H1 kC hkC e1 z1 o1 => ?_
    have hw := h.2.2 (by show nS ≤ pe_n σ + 1; omega) (by show uS ≤ pe_u σ + _; omega) h3 H1 Ls locs (hH.new (σ' := pe_new σ cI 0 (pe_cl cI).2.2) rfl (fun q hq => if_neg hq) (fun q hq => if_neg hq) (fun q hq j => if_neg hq) (fun q hq j => if_neg hq) z1 o1 ⟨fun _ => ?_, fun h10 => ?_⟩) hL hlocs
    · have e2 : pe_n (pe_new σ cI 0 (pe_cl cI).2.2) - nS = pe_n σ - nS + 1 := by rw [hn1]; omega
      have e3 : pe_u (pe_new σ cI 0 (pe_cl cI).2.2) - uS = pe_u σ - uS + (pe_cl cI).2.2 := by rw [hu1]; omega
      have hw : W p l e R s m args below meth c H1 locs (pe_n (pe_new σ cI 0 (pe_cl cI).2.2) - nS) (pe_u (pe_new σ cI 0 (pe_cl cI).2.2) - uS) Q (F0 m (pc + 3) Ls (pe_rf (pe_ad b n0) (pe_n σ) :: st.map (pe_e (pe_ad b n0)))) := hw
      rw [e2, e3, pe_rf_pos _ (by have := hH.2.1; omega), pe_ad_n hH] at hw
      exact hw
    · have ek : pe_K (pe_new σ cI 0 (pe_cl cI).2.2) (pe_n σ) = cI := if_pos rfl
      rw [ek]
      have hborn := u_born (H := H1) (o := H.size) (pe_ty cI) hts (pe_u_tb hc10) hKn hkC e1 (pe_tyok cI hc10)
      rw [← pe_ad_n hH] at hborn
      refine hborn.to (fun j hj => ?_)
      have ei : pe_I (pe_new σ cI 0 (pe_cl cI).2.2) (pe_n σ) j = 0 := if_pos rfl
      have er : pe_R (pe_new σ cI 0 (pe_cl cI).2.2) (pe_n σ) j = 0 := if_pos rfl
      rw [ei, er]
      have h4 := pe_tcok cI hc10 j hj
      unfold pe_fty
      generalize pe_ty cI j = ty at h4 ⊢
      cases ty <;> first | rfl | exact absurd rfl h4
    · have ek : pe_K (pe_new σ cI 0 (pe_cl cI).2.2) (pe_n σ) = cI := if_pos rfl
      rw [ek] at h10; exact (pe_kca hc10 h10).elim
  · cases hs

theorem pe_arrnew {σ : pe_H} {H H' : Heap} {k N : Nat} {cell : Cell} {x : Int} (hH : pe_Hd D cA b n0 H0 σ H) (hka : pe_ka k = true) (hx : x = (N : Int)) (e1 : H'[H.size]? = some cell) (z1 : H'.size = H.size + 1) (o1 : ∀ q, q < H.size → H'[q]? = H[q]?) (hc : cell.cls = cA k) (hv : cell.vm = .none) (hz : cell.slots.size = N) (hval : ∀ j : Nat, j < N → cell.slots[j]? = some (pe_vt (pe_ad b n0) (pe_tc (pe_aty k)) 0 0)) : pe_Hd D cA b n0 H0 (pe_new σ k x N) H' := by
  refine hH.new (σ' := pe_new σ k x N) rfl (fun q hq => if_neg hq) (fun q hq => if_neg hq) (fun q hq j => if_neg hq) (fun q hq j => if_neg hq) z1 o1 ⟨fun h => ?_, fun _ => ?_⟩
  · have ek : pe_K (pe_new σ k x N) (pe_n σ) = k := if_pos rfl
    rw [ek] at h; exact (pe_kca h hka).elim
  · have ek : pe_K (pe_new σ k x N) (pe_n σ) = k := if_pos rfl
    have el : pe_L (pe_new σ k x N) (pe_n σ) = x := if_pos rfl
    rw [ek, el]
    refine ⟨cell, by rw [pe_ad_n hH]; exact e1, (by rw [pe_ca2 (by have := hH.2.1; omega)]; exact hc), (by rw [hv]; exact fun h => by cases h), (fun q h => by rw [hv] at h; cases h), (by rw [hz, hx]), fun j hj => ?_⟩
    have ei : pe_I (pe_new σ k x N) (pe_n σ) j = 0 := if_pos rfl
    have er : pe_R (pe_new σ k x N) (pe_n σ) j = 0 := if_pos rfl
    rw [ei, er]
    exact hval j (by rw [← hz]; exact hj)
theorem pe_w_na (hx : p.tables.exec = Jvm.exec) (hb : c.code = cc) (hRc : nF - nS ≤ R.cells) (hRs : uF - uS ≤ R.slots) {pc len k : Nat} {ls : List (Option pe_V)} {st : List pe_V} {σ : pe_H} {x : Int} (hx0 : 0 ≤ pe_w x) (hx1 : pe_w x ≤ 10000) (hka : pe_ka k = true)
    (row : ∀ (H : Heap) (Ls : Array Slot) (locs : List Loc) (a z : Nat) (rest : List Value), a + 1 ≤ R.cells → z + (pe_w x).toNat ≤ R.slots → (∀ (H' : Heap) (cell : Cell), H'[H.size]? = some cell → H'.size = H.size + 1 → (∀ q, q < H.size → H'[q]? = H[q]?) → cell.cls = cA k → cell.vm = .none → cell.slots.size = (pe_w x).toNat → (∀ j : Nat, j < (pe_w x).toNat → cell.slots[j]? = some (pe_vt (pe_ad b n0) (pe_tc (pe_aty k)) 0 0)) → W p l e R s m args below meth c H' locs (a + 1) (z + (pe_w x).toNat) Q (F0 m (pc + len) Ls (.ref H.size :: rest))) → W p l e R s m args below meth c H locs a z Q (F0 m pc Ls (.int (Int32.ofInt x) :: rest)))
    (h : pe_PW p l e R s m args below meth c Q D cA b n0 H0 nS uS nF uF nL (pc + len, ls, .inr (.inr (pe_n σ)) :: st, pe_new σ k (pe_w x) (pe_w x).toNat)) : pe_PW p l e R s m args below meth c Q D cA b n0 H0 nS uS nF uF nL (pc, ls, .inl x :: st, σ) := by
  have hf1 : pe_n σ + 1 ≤ nF := h.1
  have hf2 : pe_u σ + (pe_w x).toNat ≤ uF := h.2.1
  refine ⟨Nat.le_trans (Nat.le_succ _) hf1, Nat.le_trans (Nat.le_add_right _ _) hf2, fun h1 h2 h3 H Ls locs hH hL hlocs => ?_⟩
  have hH : pe_Hd D cA b n0 H0 σ H := hH
  have h1 : nS ≤ pe_n σ := h1
  have h2 : uS ≤ pe_u σ := h2
  refine row H Ls locs _ _ _ (by show pe_n σ - nS + 1 ≤ _; omega) (by show pe_u σ - uS + _ ≤ _; omega) (fun H' cell e1 z1 o1 hc hv hz hval => ?_)
  have hw := h.2.2 (by show nS ≤ pe_n σ + 1; omega) (by show uS ≤ pe_u σ + _; omega) h3 H' Ls locs (pe_arrnew hH hka (by omega) e1 z1 o1 hc hv hz hval) hL hlocs
  have e2 : pe_n (pe_new σ k (pe_w x) (pe_w x).toNat) - nS = pe_n σ - nS + 1 := by show pe_n σ + 1 - nS = _; omega
  have e3 : pe_u (pe_new σ k (pe_w x) (pe_w x).toNat) - uS = pe_u σ - uS + (pe_w x).toNat := by show pe_u σ + _ - uS = _; omega
  have hw : W p l e R s m args below meth c H' locs (pe_n (pe_new σ k (pe_w x) (pe_w x).toNat) - nS) (pe_u (pe_new σ k (pe_w x) (pe_w x).toNat) - uS) Q (F0 m (pc + len) Ls (pe_rf (pe_ad b n0) (pe_n σ) :: st.map (pe_e (pe_ad b n0)))) := hw
  rw [e2, e3, pe_rf_pos _ (by have := hH.2.1; omega), pe_ad_n hH] at hw
  exact hw
theorem pe_r_na_int {S S' : pe_S} {φ : List Prop} (hx : p.tables.exec = Jvm.exec) (hb : c.code = cc) (hs : pe_na 10 2 S = some (φ, S')) (hRc : nF - nS ≤ R.cells) (hRs : uF - uS ≤ R.slots) (hφ : pe_all φ) (hts : ∀ w ∈ pe_TB, w.before args s = true) (hG : pe_G D cA b n0 H0 s) (hd : decode cc S.1 = .ok (.newarray .int, 2))
    (h : pe_PW p l e R s m args below meth c Q D cA b n0 H0 nS uS nF uF nL S') : pe_PW p l e R s m args below meth c Q D cA b n0 H0 nS uS nF uF nL S := by
  obtain ⟨pc, ls, st, σ⟩ := S
  unfold pe_na at hs
  split at hs
  · rename_i x st' he
    cases hs
    dsimp only at hd he
    subst he
    obtain ⟨hx0, hx1⟩ := hφ
    have hx0 : 0 ≤ pe_w x := hx0
    have hx1 : pe_w x ≤ 10000 := hx1
    refine pe_w_na hx hb hRc hRs hx0 hx1 (by decide) (fun H Ls locs a z rest ha hz kk => ?_) h
    have hN : (Int32.ofInt x).toNatClampNeg = (pe_w x).toNat := rfl
    refine va_newaK (atype := .int) hx hb (hts _ (pe_in_tb pe_acok rfl)) rfl hd rfl (fun q => by have := (pe_lt0 x).mp q; omega) hN (by show _ * 4 ≤ _; omega) ha hz rfl (fun H' cA' e1 z1 o1 hAr hfc => ?_)
    have hca : cA' = cA 10 := by
      have h4 := (hG.2.1 10 (by decide) (by decide)).2
      exact Option.some.inj (hfc.symm.trans h4)
    refine kk H' _ e1 z1 o1 hca rfl (arrV_size _ _ _) (fun j hj => ?_)
    rw [arrV_read _ _ hj]
    rfl
  · cases hs

theorem pe_r_an {S S' : pe_S} {φ : List Prop} {o i cI pl : Nat} (hx : p.tables.exec = Jvm.exec) (hb : c.code = cc) (hs : pe_na (pe_ak cI) 3 S = some (φ, S')) (hRc : nF - nS ≤ R.cells) (hRs : uF - uS ≤ R.slots) (hcI : pe_go (pe_cT o) i = some (cI, pl)) (hc7 : cI < 7) (hφ : pe_all φ) (hts : ∀ w ∈ pe_TB, w.before args s = true) (hown : s.vm.findClass (pe_rn o) = some m.cls) (hG : pe_G D cA b n0 H0 s) (hd : decode cc S.1 = .ok (.anewarray i, 3))
    (h : pe_PW p l e R s m args below meth c Q D cA b n0 H0 nS uS nF uF nL S') : pe_PW p l e R s m args below meth c Q D cA b n0 H0 nS uS nF uF nL S := by
  obtain ⟨pc, ls, st, σ⟩ := S
  unfold pe_na at hs
  split at hs
  · rename_i x st' he
    cases hs
    dsimp only at hd he
    subst he
    obtain ⟨hx0, hx1⟩ := hφ
    have hx0 : 0 ≤ pe_w x := hx0
    have hx1 : pe_w x ≤ 10000 := hx1
    refine pe_w_na hx hb hRc hRs hx0 hx1 (pe_ka_of (by unfold pe_ak; omega)) (fun H Ls locs a z rest ha hz kk => ?_) h
    have hN : (Int32.ofInt x).toNatClampNeg = (pe_w x).toNat := rfl
    refine W.anew (C := (pe_cl cI).1) hx hb hown (hts _ (pe_cok _ _ _ _ hcI).2) (va_AO.use (hG.2.2.1 cI hc7)) rfl hd rfl (fun q => by have := (pe_lt0 x).mp q; omega) (by rw [hN]; omega) ha (by rw [hN]; exact hz) (fun cA' kA comp h1 h2 h3 h4 => ?_)
    have hca : cA' = cA (pe_ak cI) := by
      have h5 := (hG.2.1 (pe_ak cI) (pe_ka_of (by unfold pe_ak; omega)) (by unfold pe_ak; omega)).2
      rw [(pe_akok cI hc7).1] at h5
      obtain ⟨_, _, -, -, -, h6⟩ := h5
      exact Option.some.inj (h1.symm.trans h6)
    have e := kk (H.push { cls := cA', slots := Array.replicate (Int32.ofInt x).toNatClampNeg .null, vm := .none }) ({ cls := cA', slots := Array.replicate (Int32.ofInt x).toNatClampNeg .null, vm := .none } : Cell) (by simp) (by simp) (fun q hq => by rw [Array.getElem?_push, if_neg (Nat.ne_of_lt hq)]) hca rfl (by rw [Array.size_replicate]; exact hN) (fun j hj => by
      rw [pe_vt2 _ _ (Or.inl (by unfold pe_ak; omega))]
      rw [← hN] at hj
      simp [hj, pe_rf])
    rw [← hN] at e
    exact e
  · cases hs

theorem pe_r_anL {S S' : pe_S} {φ : List Prop} {o i cI pl ak : Nat} (hx : p.tables.exec = Jvm.exec) (hb : c.code = cc) (hs : pe_na ak 3 S = some (φ, S')) (hRc : nF - nS ≤ R.cells) (hRs : uF - uS ≤ R.slots) (hcI : pe_go (pe_cT o) i = some (cI, pl)) (hc7 : (cI = 19 ∧ ak = 22) ∨ (cI = 20 ∧ ak = 23)) (hφ : pe_all φ) (hts : ∀ w ∈ pe_TB, w.before args s = true) (hown : s.vm.findClass (pe_rn o) = some m.cls) (hG : pe_G D cA b n0 H0 s) (hd : decode cc S.1 = .ok (.anewarray i, 3))
    (h : pe_PW p l e R s m args below meth c Q D cA b n0 H0 nS uS nF uF nL S') : pe_PW p l e R s m args below meth c Q D cA b n0 H0 nS uS nF uF nL S := by
  obtain ⟨pc, ls, st, σ⟩ := S
  unfold pe_na at hs
  split at hs
  · rename_i x st' he
    cases hs
    dsimp only at hd he
    subst he
    obtain ⟨hx0, hx1⟩ := hφ
    have hx0 : 0 ≤ pe_w x := hx0
    have hx1 : pe_w x ≤ 10000 := hx1
    refine pe_w_na hx hb hRc hRs hx0 hx1 (pe_ka_of (by omega)) (fun H Ls locs a z rest ha hz kk => ?_) h
    have hN : (Int32.ofInt x).toNatClampNeg = (pe_w x).toNat := rfl
    refine W.anew (C := (pe_cl cI).1) hx hb hown (hts _ (pe_cok _ _ _ _ hcI).2) (va_AO.use (hG.2.2.2.2.2.1.2 cI (by omega))) rfl hd rfl (fun q => by have := (pe_lt0 x).mp q; omega) (by rw [hN]; omega) ha (by rw [hN]; exact hz) (fun cA' kA comp h1 h2 h3 h4 => ?_)
    have hca : cA' = cA ak := by
      have h5 := (hG.2.1 ak (pe_ka_of (by omega)) (by omega)).2
      have hak : pe_aty ak = .object (pe_cl cI).1 := by
        rcases hc7 with ⟨q1, q2⟩ | ⟨q1, q2⟩
        · rw [q1, q2]; exact pe_akL.1.1
        · rw [q1, q2]; exact pe_akL.1.2
      rw [hak] at h5
      obtain ⟨_, _, -, -, -, h6⟩ := h5
      exact Option.some.inj (h1.symm.trans h6)
    have e := kk (H.push { cls := cA', slots := Array.replicate (Int32.ofInt x).toNatClampNeg .null, vm := .none }) ({ cls := cA', slots := Array.replicate (Int32.ofInt x).toNatClampNeg .null, vm := .none } : Cell) (by simp) (by simp) (fun q hq => by rw [Array.getElem?_push, if_neg (Nat.ne_of_lt hq)]) hca rfl (by rw [Array.size_replicate]; exact hN) (fun j hj => by
      rw [pe_vt2 _ _ (Or.inr (by omega))]
      rw [← hN] at hj
      simp [hj, pe_rf])
    rw [← hN] at e
    exact e
  · cases hs

theorem pe_r_anA {S S' : pe_S} {φ : List Prop} {i : Nat} (hx : p.tables.exec = Jvm.exec) (hb : c.code = cc) (hs : pe_na 24 3 S = some (φ, S')) (hRc : nF - nS ≤ R.cells) (hRs : uF - uS ≤ R.slots) (hi : i = pe_xa.1) (hφ : pe_all φ) (hts : ∀ w ∈ pe_TB, w.before args s = true) (hown : s.vm.findClass (pe_rn 21) = some m.cls) (hG : pe_G D cA b n0 H0 s) (hd : decode cc S.1 = .ok (.anewarray i, 3))
    (h : pe_PW p l e R s m args below meth c Q D cA b n0 H0 nS uS nF uF nL S') : pe_PW p l e R s m args below meth c Q D cA b n0 H0 nS uS nF uF nL S := by
  obtain ⟨pc, ls, st, σ⟩ := S
  unfold pe_na at hs
  split at hs
  · rename_i x st' he
    cases hs
    dsimp only at hd he
    subst he
    obtain ⟨hx0, hx1⟩ := hφ
    have hx0 : 0 ≤ pe_w x := hx0
    have hx1 : pe_w x ≤ 10000 := hx1
    refine pe_w_na hx hb hRc hRs hx0 hx1 (by decide) (fun H Ls locs a z rest ha hz kk => ?_) h
    have hN : (Int32.ofInt x).toNatClampNeg = (pe_w x).toNat := rfl
    refine W.anewA (t := .int) hx hb hown (hts _ (pe_tb (by rw [hi]; exact pe_x_ok.1) rfl)) hG.2.2.2.2.2.2.2.1 rfl hd rfl (fun q => by have := (pe_lt0 x).mp q; omega) (by rw [hN]; omega) ha (by rw [hN]; exact hz) (fun cA' kA comp h1 h2 h3 h4 => ?_)
    have hca : cA' = cA 24 := by
      exact Option.some.inj (h1.symm.trans (hG.2.1 24 (by decide) (by decide)).2)
    have e := kk (H.push { cls := cA', slots := Array.replicate (Int32.ofInt x).toNatClampNeg .null, vm := .none }) ({ cls := cA', slots := Array.replicate (Int32.ofInt x).toNatClampNeg .null, vm := .none } : Cell) (by simp) (by simp) (fun q hq => by rw [Array.getElem?_push, if_neg (Nat.ne_of_lt hq)]) hca rfl (by rw [Array.size_replicate]; exact hN) (fun j hj => by
      rw [pe_vt2 _ _ (Or.inr ⟨by decide, by decide⟩)]
      rw [← hN] at hj
      simp [hj, pe_rf])
    rw [← hN] at e
    exact e
  · cases hs

theorem pe_r_oi {S S' : pe_S} {φ : List Prop} {o i : Nat} (hx : p.tables.exec = Jvm.exec) (hb : c.code = cc) (hs : (match S.2.2.1, pe_go (pe_oT o) i with | .inr (.inr r) :: st, some _ => if pe_cat st ≤ 8 then some ([¬ r = 0], (S.1 + 3, S.2.1, st, S.2.2.2)) else none | _, _ => none) = some (φ, S')) (hf : 1 ≤ R.frames) (hlo : 20 ≤ R.locals) (hml : c.maxLocals = nL) (hφ : pe_all φ) (hts : ∀ w ∈ pe_TB, w.before args s = true) (hown : s.vm.findClass (pe_rn o) = some m.cls) (hd : decode cc S.1 = .ok (.invokespecial i, 3))
    (h : pe_PW p l e R s m args below meth c Q D cA b n0 H0 nS uS nF uF nL S') : pe_PW p l e R s m args below meth c Q D cA b n0 H0 nS uS nF uF nL S := by
  obtain ⟨pc, ls, st, σ⟩ := S
  split at hs
  · rename_i r st' pl he hg
    split at hs
    · rename_i hcat
      cases hs
      dsimp only at hd he
      subst he
      refine ⟨h.1, h.2.1, fun h1 h2 h3 H Ls locs hH hL hlocs => ?_⟩
      show W p l e R s m args below meth c H locs _ _ Q (F0 m pc Ls (pe_rf (pe_ad b n0) r :: st'.map (pe_e (pe_ad b n0))))
      have hφ : ¬ r = 0 := hφ
      rw [pe_rf_pos _ (by omega)]
      refine W.objInit hx hb hown (hts _ (pe_ook _ _ _ hg)) (hts _ (pe_in_tb pe_oiok.1 rfl)) (hts _ (pe_in_tb pe_oiok.2 rfl)) rfl (by rw [hml]; exact hL.1.trans h3) rfl hd hf ?_ ?_
      · rw [pe_cat_ok]
        show 2 * 0 + _ + 12 ≤ _
        omega
      · exact h.2.2 h1 h2 h3 H Ls locs hH hL hlocs
    · cases hs
  · cases hs

/-- the law's static array -/
theorem pe_r_gs {S S' : pe_S} {φ : List Prop} {k : Nat} (hx : p.tables.exec = Jvm.exec) (hb : c.code = cc) (hs : pe_psh 3 (.inr (.inr 2)) S = some (φ, S')) (hk : k = pe_xs.1) (hts : ∀ w ∈ pe_TB, w.before args s = true) (hown : s.vm.findClass (pe_rn 21) = some m.cls) (hG : pe_G D cA b n0 H0 s) (hd : decode cc S.1 = .ok (.getstatic k, 3))
    (h : pe_PW p l e R s m args below meth c Q D cA b n0 H0 nS uS nF uF nL S') : pe_PW p l e R s m args below meth c Q D cA b n0 H0 nS uS nF uF nL S := by
  obtain ⟨pc, ls, st, σ⟩ := S
  unfold pe_psh at hs
  cases hs
  refine ⟨h.1, h.2.1, fun h1 h2 h3 H Ls locs hH hL hlocs => ?_⟩
  obtain ⟨cf, kf, fi, f, a, cell, z1, z2, z3, z4, z5, z6, z7, z8⟩ := hG.2.2.2.2.2.2.2.2
  have hH : pe_Hd D cA b n0 H0 σ H := hH
  have za : H[a]? = some cell := by rw [hH.2.2.2.1 a (Nat.not_le.mp z8)]; exact z5
  have hw := h.2.2 h1 h2 h3 H Ls locs hH hL hlocs
  exact W.gets hx hb hown (hts _ (pe_tb (by rw [hk]; exact pe_x_ok.2.2) rfl)) z1 z2 z3 z4 za (fun e => by rw [e] at z6; cases z6) z7 rfl hd hw
end PEW4
