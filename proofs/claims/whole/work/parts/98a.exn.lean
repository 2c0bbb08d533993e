/-! EXCEPTIONS: what they rest on -/
abbrev px_ISE : String := "java/lang/IllegalStateException"
abbrev px_IAE : String := "java/lang/IllegalArgumentException"
abbrev px_nm : List String := ["java/lang/RuntimeException", "java/lang/Exception"]
def px_L1 : List Cond := vx_atS RX3 22 px_ISE px_nm
def px_L2 : List Cond := vx_atS RX8 299 px_IAE px_nm
def px_L3 : List Cond := vx_atS RX8 306 px_ISE px_nm
def px_B : List Cond := (px_L1 ++ (px_L2 ++ px_L3)).filter (fun w => !goodWord w)
def px_E (n0 : Nat) (H0 : Heap) (U : State) : Prop := (∀ w ∈ px_B, va_Nw w U) ∧ va_Nc px_ISE px_IAE U ∧ ((∃ sa, vk_R RX3 20 "a failure" sa U) ∧ (∃ sa, vk_R RX8 297 "no such shelf" sa U) ∧ (∃ sa, vk_R RX8 304 "no row" sa U) ∧ (∃ sa, vk_R RX8 307 "no such place" sa U)) ∧ vx_Zq Bundle.tN "UNASSIGNED_STACK" Bundle.steD (fun q => n0 ≤ q) U H0 ∧ vx_Zq Bundle.tN "SUPPRESSED_SENTINEL" Bundle.listD (fun q => n0 ≤ q) U H0
theorem px_Bok : ∀ w ∈ px_B, w.faceAtom = true ∧ w.onTables = true := by decide +kernel
theorem px_E.warm {n0 : Nat} {H0 : Heap} {s U : State} (hW : s.WarmedH U.vm) (h : px_E n0 H0 s) : px_E n0 H0 U := by
  obtain ⟨h1, h2, ⟨⟨a1, g1⟩, ⟨a2, g2⟩, ⟨a3, g3⟩, ⟨a4, g4⟩⟩, h4, h5⟩ := h
  refine ⟨fun w hw => ?_, va_Nc.moved hW.alike h2, ⟨⟨a1, vk_R.warm hW g1⟩, ⟨a2, vk_R.warm hW g2⟩, ⟨a3, vk_R.warm hW g3⟩, ⟨a4, vk_R.warm hW g4⟩⟩, vx_Zq.moved hW.alike h4, vx_Zq.moved hW.alike h5⟩
  obtain ⟨q1, q2⟩ := px_Bok w hw
  exact va_tabs q2 (rfl : (s.setVm U.vm).vm = U.vm) (Cond.faceAtom_setVm hW.alike w q1 (h1 w hw))
theorem px_E.same {n0 : Nat} {H0 : Heap} {s U : State} (hv : s.vm = U.vm) (h : px_E n0 H0 s) : px_E n0 H0 U := h.warm (by rw [← hv]; exact State.WarmedH.refl s)
theorem px_in : (px_L1 ++ (px_L2 ++ px_L3)).all (fun w => decide (w ∈ lw_tbl) && vx_ot w) = true := by decide +kernel
theorem px_hat {n0 : Nat} {H0 : Heap} {s : State} {args : Array Value} (hts : ∀ w ∈ pe_TB, w.before args s = true) (hE : px_E n0 H0 s) {L : List Cond} (hL : ∀ w ∈ L, w ∈ px_L1 ++ (px_L2 ++ px_L3)) : ∀ w ∈ L, w.before args s = true := fun w hw => by
  have h1 := List.all_eq_true.mp px_in w (hL w hw)
  simp only [Bool.and_eq_true, decide_eq_true_eq] at h1
  by_cases g : goodWord w = true
  · exact hts w (List.mem_filter.mpr ⟨h1.1, g⟩)
  · have hb : w ∈ px_B := List.mem_filter.mpr ⟨hL w hw, by cases hg : goodWord w; rfl; exact absurd hg g⟩
    exact va_Nw.use (px_Bok w hb).2 (hE.1 w hb)
theorem px_ot {L : List Cond} (hL : ∀ w ∈ L, w ∈ px_L1 ++ (px_L2 ++ px_L3)) : ∀ w ∈ L, vx_ot w = true := fun w hw => by
  have h1 := List.all_eq_true.mp px_in w (hL w hw)
  simp only [Bool.and_eq_true, decide_eq_true_eq] at h1
  exact h1.2
theorem px_1 : ∀ w ∈ px_L1, w ∈ px_L1 ++ (px_L2 ++ px_L3) := fun w h => List.mem_append_left _ h
theorem px_2 : ∀ w ∈ px_L2, w ∈ px_L1 ++ (px_L2 ++ px_L3) := fun w h => List.mem_append_right _ (List.mem_append_left _ h)
theorem px_3 : ∀ w ∈ px_L3, w ∈ px_L1 ++ (px_L2 ++ px_L3) := fun w h => List.mem_append_right _ (List.mem_append_right _ h)
/-- the heap with k cells more, of which nothing is known -/
def pe_mo (σ : pe_H) (k u : Nat) : pe_H := (σ.1 + k, σ.2.1 + u, (fun a => if σ.1 ≤ a then 99 else σ.2.2.1 a), σ.2.2.2)
theorem pe_Hd.mo {D : va_G} {cA : Nat → ClassId} {b n0 : Nat} {H0 H H' : Heap} {σ : pe_H} {k u : Nat} (h : pe_Hd D cA b n0 H0 σ H) (hz : H'.size = H.size + k) (ho : ∀ q : Nat, q < H.size → H'[q]? = H[q]?) : pe_Hd D cA b n0 H0 (pe_mo σ k u) H' := by
  obtain ⟨g1, g2, g3, g4, g5, g6⟩ := h
  have hn : pe_n (pe_mo σ k u) = pe_n σ + k := rfl
  have hK : ∀ a, pe_K (pe_mo σ k u) a = if pe_n σ ≤ a then 99 else pe_K σ a := fun _ => rfl
  refine ⟨g1, by omega, by omega, fun q hq => ?_, by rw [hK, if_neg (by omega)]; exact g5, fun q hq => ?_⟩
  · rw [ho q (by omega)]; exact g4 q hq
  · rw [hK] at hq
    by_cases e : pe_n σ ≤ q
    · rw [if_pos e] at hq; omega
    · rw [if_neg e] at hq
      obtain ⟨k1, k2, k3⟩ := g6 q hq
      refine ⟨k1, by omega, k3.congr (by rw [hK, if_neg e]) rfl (fun _ => rfl) (fun _ => rfl) (ho _ ?_)⟩
      unfold pe_ad; split <;> omega
/-- what holds when a method has thrown: a cell more at most -/
def px_XC (D : va_G) (cA : Nat → ClassId) (b n0 : Nat) (H0 : Heap) (σ : pe_H) (E0 : String) (φ : Prop) : String → State → State → Prop := fun E _ t => E = E0 ∧ φ ∧ ∃ k, pe_Hd D cA b n0 H0 (pe_mo σ k 6) t.heap
def px_rm : Room := { frames := 10, cells := 1, slots := 6, locals := 400 }
section
variable {p : Program} {l : Launch} {e : Env} {R : Room} {s : State} {m : MethodId} {args : Array Value} {below : List Frame} {meth : Method} {c : Code} {Q : State → Prop} {cc : ByteArray}
variable {D : va_G} {cA : Nat → ClassId} {b n0 : Nat} {H0 : Heap} {nL : Nat} {Qc : Array Value → State → Outcome → State → Prop}
theorem stand_fit {T : State} {locs : List Loc} {cells slots k : Nat} (X : Stand p l e R s m args below meth c T locs cells slots) (h : T.heap.size ≤ s.heap.size + k) : Stand p l e R s m args below meth c T locs k slots := ⟨X.admits, X.cas, X.clock, X.frames, X.room, X.hears, X.method, X.code, X.here, X.tail, X.warmed, X.limits, X.bytes, ⟨X.same.1, X.same.2.1, h, X.same.2.2.2⟩⟩
theorem px_S {σ σ' : pe_H} {H H' : Heap} {locs : List Loc} (h : pe_Hd D cA b n0 H0 σ H) (h' : pe_Hd D cA b n0 H0 σ' H') (hn : pe_n σ ≤ pe_n σ') (hl : ∀ q ∈ locs, n0 ≤ q.base) : va_S (fun q => n0 ≤ q) H H' locs := by
  obtain ⟨g1, g2, g3, g4, -⟩ := h
  obtain ⟨-, k2, k3, k4, -⟩ := h'
  exact ⟨by omega, fun q _ hq => by rw [k4 q (by omega), g4 q (by omega)], hl⟩
theorem px_zq {C n d : String} {σ : pe_H} {H : Heap} (hz : vx_Zq C n d (fun q => n0 ≤ q) s H0) (h : pe_Hd D cA b n0 H0 σ H) (h0 : H0.size = n0) : vx_Zq C n d (fun q => n0 ≤ q) s H := hz.kept (fun q hq _ => h.2.2.2.1 q (by omega))
/-- throw new E("text") -/
theorem px_thrS {pc ik is ic : Nat} {own cls text : String} {ls : List (Option pe_V)} {σ : pe_H} {φ : Prop} (hx : p.tables.exec = Jvm.exec) (hb : c.code = cc) (hl : l.stackTraces = false) (hown : s.vm.findClass own = some m.cls) (hml : c.maxLocals = nL) (hcls : Bundle.fit cls = true) (hts : ∀ w ∈ pe_TB, w.before args s = true) (hE : px_E n0 H0 s) (h0 : H0.size = n0) (hs0 : pe_Hd D cA b n0 H0 σ s.heap) (hL : ∀ w ∈ vx_atS own ic cls px_nm, w ∈ px_L1 ++ (px_L2 ++ px_L3)) (hk : Cond.classLink own ik cls ∈ pe_TB) (hini : Cond.initialized cls ∈ pe_TB) (hstr : ∃ sa, vk_R own is text sa s)
    (d0 : decode cc pc = .ok (.new ik, 3)) (d3 : decode cc (pc + 3) = .ok (.dup, 1)) (d4 : decode cc (pc + 4) = .ok (.ldc is, 2)) (d6 : decode cc (pc + 6) = .ok (.invokespecial ic, 3)) (d9 : decode cc (pc + 9) = .ok (.athrow, 1)) (hout : ∀ x ∈ c.exceptionTable.toList, False) (hRf : 5 < R.frames) (hRl : 100 ≤ R.locals) (hRc : 1 ≤ R.cells) (hRs : 6 ≤ R.slots) (hlocks : meth.locks = false) (hφ : φ) :
    pe_PW p l e R s m args below meth c (vx_MQ below Qc (px_XC D cA b n0 H0 σ cls φ) args s 1 6 (fun q => n0 ≤ q)) D cA b n0 H0 (pe_n σ) (pe_u σ) (pe_n σ) (pe_u σ) nL (pc, ls, [], σ) := by
  obtain ⟨sa, hsa⟩ := hstr
  refine ⟨Nat.le_refl _, Nat.le_refl _, fun h1 h2 h3 H Ls locs hH hLs hlocs => ?_⟩
  rw [Nat.sub_self, Nat.sub_self]
  refine vx_throwS hx hb hl (names := px_nm) (sa := sa) (A := fun q => n0 ≤ q) hown hcls (by decide) (hts _ hk) (hts _ hini) hsa (px_hat hts hE hL) ?_ (px_zq hE.2.2.2.1 hs0 h0) (px_zq hE.2.2.2.2 hs0 h0) (px_S hs0 hH (Nat.le_refl _) hlocs) (by rw [hml]; exact hLs.1.trans h3) d0 d3 d4 d6 d9 (fun x hx => (hout x hx).elim) hRf (by show 0 + (13 * 3 + 43) ≤ R.locals; omega) (by omega) (by omega) hlocks (fun t _ hz hq => ⟨rfl, hφ, t.heap.size - H.size, hH.mo (by omega) hq⟩) hlocs (by omega) (by omega)
  intro w hw
  rcases List.mem_cons.mp hw with q | q
  · rw [q]; unfold vx_ot; rw [(List.mem_filter.mp hk).2]; simp
  · rcases List.mem_cons.mp q with q | q
    · rw [q]; unfold vx_ot; rw [(List.mem_filter.mp hini).2]; simp
    · exact px_ot hL w q
theorem px_thrSW {pc ik is ic : Nat} {own cls text : String} {ls : List (Option pe_V)} {σ : pe_H} {φ : Prop} (hx : p.tables.exec = Jvm.exec) (hb : c.code = cc) (hl : l.stackTraces = false) (hown : s.vm.findClass own = some m.cls) (hml : c.maxLocals = nL) (hcls : Bundle.fit cls = true) (hts : ∀ w ∈ pe_TB, w.before args s = true) (hE : px_E n0 H0 s) (h0 : H0.size = n0) (hs0 : pe_Hd D cA b n0 H0 σ s.heap) (hL : ∀ w ∈ vx_atS own ic cls px_nm, w ∈ px_L1 ++ (px_L2 ++ px_L3)) (hk : Cond.classLink own ik cls ∈ pe_TB) (hini : Cond.initialized cls ∈ pe_TB) (hstr : ∃ sa, vk_R own is text sa s)
    (d0 : decode cc pc = .ok (.new ik, 3)) (d3 : decode cc (pc + 3) = .ok (.dup, 1)) (d4 : decode cc (pc + 4) = .ok (.ldc_w is, 3)) (d7 : decode cc (pc + 7) = .ok (.invokespecial ic, 3)) (d10 : decode cc (pc + 10) = .ok (.athrow, 1)) (hout : ∀ x ∈ c.exceptionTable.toList, False) (hRf : 5 < R.frames) (hRl : 100 ≤ R.locals) (hRc : 1 ≤ R.cells) (hRs : 6 ≤ R.slots) (hlocks : meth.locks = false) (hφ : φ) :
    pe_PW p l e R s m args below meth c (vx_MQ below Qc (px_XC D cA b n0 H0 σ cls φ) args s 1 6 (fun q => n0 ≤ q)) D cA b n0 H0 (pe_n σ) (pe_u σ) (pe_n σ) (pe_u σ) nL (pc, ls, [], σ) := by
  obtain ⟨sa, hsa⟩ := hstr
  refine ⟨Nat.le_refl _, Nat.le_refl _, fun h1 h2 h3 H Ls locs hH hLs hlocs => ?_⟩
  rw [Nat.sub_self, Nat.sub_self]
  refine vx_throwSW hx hb hl (names := px_nm) (sa := sa) (A := fun q => n0 ≤ q) hown hcls (by decide) (hts _ hk) (hts _ hini) hsa (px_hat hts hE hL) ?_ (px_zq hE.2.2.2.1 hs0 h0) (px_zq hE.2.2.2.2 hs0 h0) (px_S hs0 hH (Nat.le_refl _) hlocs) (by rw [hml]; exact hLs.1.trans h3) d0 d3 d4 d7 d10 (fun x hx => (hout x hx).elim) hRf (by show 0 + (13 * 3 + 43) ≤ R.locals; omega) (by omega) (by omega) hlocks (fun t _ hz hq => ⟨rfl, hφ, t.heap.size - H.size, hH.mo (by omega) hq⟩) hlocs (by omega) (by omega)
  intro w hw
  rcases List.mem_cons.mp hw with q | q
  · rw [q]; unfold vx_ot; rw [(List.mem_filter.mp hk).2]; simp
  · rcases List.mem_cons.mp q with q | q
    · rw [q]; unfold vx_ot; rw [(List.mem_filter.mp hini).2]; simp
    · exact px_ot hL w q
end
