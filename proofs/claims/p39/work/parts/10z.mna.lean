/-! SOUND, 6d: an array of arrays of ints -/
/-- the outer array when i inner ones stand in it -/
def pe_oc (c : ClassId) (N h0 i : Nat) : Cell := arrV c N (fun j => if j < i then .ref (h0 + 1 + j) else .null)
theorem pe_oc0 (c : ClassId) (N h0 : Nat) : ({ cls := c, slots := Array.replicate N .null, vm := .none } : Cell) = pe_oc c N h0 0 := by
  rw [arrV_new]
  exact congrArg (arrV c N) (funext fun j => by simp)
theorem pe_ocs (c : ClassId) (N h0 i : Nat) : (pe_oc c N h0 i).setSlot i (.ref (h0 + 1 + i)) = pe_oc c N h0 (i + 1) := by
  unfold pe_oc
  rw [arrV_store]
  refine congrArg (arrV c N) (funext fun j => ?_)
  unfold updV
  by_cases e : j = i
  · subst e
    simp
  · rw [if_neg e]
    show (if j < i then Value.ref (h0 + 1 + j) else Value.null) = _
    by_cases h : j < i
    · rw [if_pos h, if_pos (by omega)]
    · rw [if_neg h, if_neg (by omega)]
/-- the machine's state when i inner arrays are made -/
def pe_fl (s : State) (cO cI : ClassId) (N M : Nat) : Nat → State
  | 0 => s.pushCell (pe_oc cO N s.heap.size 0)
  | i + 1 => ((pe_fl s cO cI N M i).pushCell (arrV cI M (fun _ => .int 0))).setCell s.heap.size (pe_oc cO N s.heap.size (i + 1))
theorem pe_fl_0 (s : State) (cO cI : ClassId) (N M : Nat) : ∀ i, (pe_fl s cO cI N M i).heap.size = s.heap.size + 1 + i ∧ (pe_fl s cO cI N M i).heap[s.heap.size]? = some (pe_oc cO N s.heap.size i) ∧ (pe_fl s cO cI N M i).vm = s.vm ∧ (pe_fl s cO cI N M i).slotsUsed = s.slotsUsed + N + i * M
  | 0 => ⟨by simp [pe_fl], by simp [pe_fl], rfl, by simp [pe_fl, pe_oc, arrV_size]⟩
  | i + 1 => by
    obtain ⟨a1, a2, a3, a4⟩ := pe_fl_0 s cO cI N M i
    have a0 : s.heap.size < (pe_fl s cO cI N M i).heap.size := by omega
    have a5 : ((pe_fl s cO cI N M i).pushCell (arrV cI M (fun _ => .int 0))).heap[s.heap.size]? = some (pe_oc cO N s.heap.size i) := by rw [State.heap_pushCell_of_lt (h := a0)]; exact a2
    refine ⟨?_, State.heap_setCell_self a5, by simp [pe_fl, a3], ?_⟩
    · simp [pe_fl, State.setCell, a1]; omega
    · simp [pe_fl, a4, arrV_size, Nat.succ_mul]; omega
theorem pe_fl_top (s : State) (f : JFrame) (cO cI : ClassId) (N M : Nat) : ∀ i, pe_fl (s.setTop f) cO cI N M i = (pe_fl s cO cI N M i).setTop f
  | 0 => rfl
  | i + 1 => by
    unfold pe_fl
    rw [pe_fl_top s f cO cI N M i, State.heap_setTop, State.pushCell_setTop, State.setCell_setTop]
theorem pe_fl_old (s : State) (cO cI : ClassId) (N M : Nat) {a : Nat} (ha : a < s.heap.size) : ∀ i, (pe_fl s cO cI N M i).heap[a]? = s.heap[a]?
  | 0 => State.heap_pushCell_of_lt _ _ ha
  | i + 1 => by
    have f1 := (pe_fl_0 s cO cI N M i).1
    show (((pe_fl s cO cI N M i).pushCell _).setCell s.heap.size _).heap[a]? = _
    have h1 : s.heap.size ≠ a := by omega
    have h2 : a < (pe_fl s cO cI N M i).heap.size := by omega
    rw [State.heap_setCell_other h1, State.heap_pushCell_of_lt (h := h2)]
    exact pe_fl_old s cO cI N M ha i
theorem pe_fl_in (s : State) (cO cI : ClassId) (N M : Nat) : ∀ i j, j < i → (pe_fl s cO cI N M i).heap[s.heap.size + 1 + j]? = some (arrV cI M (fun _ => .int 0))
  | 0, _, h => by omega
  | i + 1, j, h => by
    have f1 := (pe_fl_0 s cO cI N M i).1
    show (((pe_fl s cO cI N M i).pushCell _).setCell s.heap.size _).heap[s.heap.size + 1 + j]? = _
    have h1 : s.heap.size ≠ s.heap.size + 1 + j := by omega
    rw [State.heap_setCell_other h1]
    by_cases hj : j = i
    · subst hj
      rw [← f1]
      exact State.heap_pushCell_size _ _
    · have h2 : s.heap.size + 1 + j < (pe_fl s cO cI N M i).heap.size := by omega
      rw [State.heap_pushCell_of_lt (h := h2)]
      exact pe_fl_in s cO cI N M i j (by omega)
section
variable {E : CtlPost} {e : Env} {d : Bool} {acts : List Action} {s : State}
/-- one array of len alike defaults -/
theorem pe_wpa {c comp : ClassId} {k : Class} {type : FieldType} {len : Nat} {init : Value} (hk : s.vm.classes[c]? = some k) (hkind : k.kind = .array comp type) (hl : len ≤ e.platform.arrayLengthLimit) (hh : len * componentBytes type ≤ e.platform.maxHeapBytes) (hfit : fits type init = true) (hdef : init.isDefault = true) {Q : Addr → Pre}
    (h1 : s.heap.size < e.platform.maxCells) (h2 : s.slotsUsed + len ≤ e.platform.maxSlots) (hq : Q s.heap.size d acts (s.pushCell (arrV c len (fun _ => init)))) : wp (Jvm.newArray c len init) Q E e d acts s := by
  rw [← arrV_new] at hq
  have hf : ∀ i v, (Array.replicate len init)[i]? = some v → s.fitsSlot c .none i v = true := fun i v hv => by
    simp only [Array.getElem?_replicate] at hv
    split at hv
    · cases hv; simp [State.fitsSlot, State.slotType?, hk, hkind, hfit]
    · cases hv
  have ha : allocActs (Array.replicate len init) s.heap.size acts = acts := by
    unfold allocActs
    rw [if_pos]
    rw [Array.all_replicate]; split <;> simp [hdef]
  have hl' : ¬ len > e.platform.arrayLengthLimit := by omega
  have hh' : ¬ len * componentBytes type > e.platform.maxHeapBytes := by omega
  simp only [Jvm.newArray, Jvm.arrayFits, wp_bind', W.ask, W.ite, hl', if_false, wp_pure', W.theClass, hk, hkind, hh', W.alloc, W.stop, Option.some.injEq, exists_eq_left', Array.size_replicate, ha]
  rw [if_neg (by omega)]
  exact ⟨h1, h2, hf, hq⟩
/-- new int[n][m] -/
theorem pe_wpm {c comp cc : ClassId} {k kc : Class} {n m : Int32} {N M : Nat} (hk : s.vm.classes[c]? = some k) (hkind : k.kind = .array comp (.array .int)) (hkc : s.vm.classes[comp]? = some kc) (hkindc : kc.kind = .array cc .int) (hn : ¬ n < 0) (hm : ¬ m < 0) (hN : n.toNatClampNeg = N) (hM : m.toNatClampNeg = M)
    (hl1 : N ≤ e.platform.arrayLengthLimit) (hh1 : N * 4 ≤ e.platform.maxHeapBytes) (hl2 : M ≤ e.platform.arrayLengthLimit) (hh2 : M * 4 ≤ e.platform.maxHeapBytes) (hc : s.heap.size + 1 + N ≤ e.platform.maxCells) (hs : s.slotsUsed + N + N * M ≤ e.platform.maxSlots)
    {Q : Addr → Pre} (hq : ∀ d' acts', Q s.heap.size d' acts' (pe_fl s c comp N M N)) : wp (multianewarray.make c [n, m]) Q E e d acts s := by
  have hfind : ([m].find? (· < 0)) = none := by simp [hm]
  rw [multianewarray.make]
  simp only [wp_bind', W.ite, hn, if_false, wp_pure', W.theClass, hk, hkind, Option.some.injEq, exists_eq_left']
  rw [hN]
  refine pe_wpa hk hkind hl1 hh1 rfl rfl (by omega) (by omega) ?_
  rw [show arrV c N (fun _ => Value.null) = pe_oc c N s.heap.size 0 by rw [← arrV_new, pe_oc0 c N s.heap.size]]
  simp only [hfind]
  rw [ite_self, wp_bind', Std.Legacy.Range.forIn_eq_forIn_range']
  have hsz : ([:N] : Std.Legacy.Range).size = N := by simp [Std.Legacy.Range.size]
  rw [hsz]
  show wp (forIn (List.range' 0 N 1) PUnit.unit _) _ E e d acts _
  have hmul : ∀ i, i < N → i * M + M ≤ N * M := fun i hi => by
    have := Nat.mul_le_mul_right M (show i + 1 ≤ N from hi)
    rw [Nat.succ_mul] at this
    exact this
  refine wp_forIn_inv (fun rest s' => ∃ i, i ≤ N ∧ rest = List.range' i (N - i) ∧ s' = pe_fl s c comp N M i) _ _ ⟨0, Nat.zero_le _, rfl, rfl⟩ ?_ ?_
  · rintro x rest s' d' acts' Q' ⟨i, hi, hl, rfl⟩ hnext
    obtain ⟨f1, f2, f3, f4⟩ := pe_fl_0 s c comp N M i
    have hlt : i < N := by
      refine Nat.lt_of_le_of_ne hi (fun q => ?_)
      rw [q, Nat.sub_self] at hl
      cases hl
    rw [show N - i = (N - (i + 1)) + 1 by omega, List.range'_succ] at hl
    obtain ⟨rfl, hrest⟩ := List.cons.inj hl
    have h9 := hmul x hlt
    simp only [wp_bind']
    rw [multianewarray.make]
    simp only [wp_bind', W.ite, hm, if_false, wp_pure', W.theClass, f3, hkc, hkindc, Option.some.injEq, exists_eq_left']
    rw [hM]
    refine pe_wpa (by rw [f3]; exact hkc) hkindc hl2 hh2 rfl rfl (by omega) (by omega) ?_
    have a0 : s.heap.size < (pe_fl s c comp N M x).heap.size := by omega
    simp only [wp_bind', W.writeLoc, wp_pure']
    refine ⟨pe_oc c N s.heap.size x, by rw [State.heap_pushCell_of_lt (h := a0)]; exact f2, (fun q => by cases q), (by show x < (arrV _ _ _).slots.size; rw [arrV_size]; exact hlt), ?_, hnext _ _ _ ⟨x + 1, hlt, hrest, ?_⟩⟩
    · show State.fitsSlot _ c .none x _ = true
      simp [State.fitsSlot, State.slotType?, f3, hk, hkind, fits]
    · rw [f1, pe_ocs]
      rfl
  · rintro s' d' acts' ⟨i, hi, hl, rfl⟩
    have hiN : i = N := by
      refine Nat.le_antisymm hi (Nat.not_lt.mp fun q => ?_)
      rw [show N - i = (N - (i + 1)) + 1 by omega, List.range'_succ] at hl
      cases hl
    subst hiN
    simp only [wp_pure']
    exact hq _ _
end
section PEW4D
variable {p : Program} {l : Launch} {e : Env} {R : Room} {s : State} {m : MethodId} {args : Array Value} {below : List Frame} {meth : Method} {c : Code} {Q : State → Prop} {cc : ByteArray}
variable {D : va_G} {cA : Nat → ClassId} {b : Nat × Nat} {n0 : Nat} {H0 : Heap} {nS uS nF uF nL : Nat}
/-- 1 + N cells more: the outer array, the inner ones -/
theorem pe_Hd.mna {σ : pe_H} {H H' : Heap} {N M : Nat} {cO : Cell} {cI : Nat → Cell} (h : pe_Hd D cA b n0 H0 σ H) (hz : H'.size = H.size + 1 + N) (ho : ∀ q, q < H.size → H'[q]? = H[q]?)
    (eO : H'[H.size]? = some cO) (eI : ∀ i, i < N → H'[H.size + 1 + i]? = some (cI i)) (oc : cO.cls = cA 24) (ov : cO.vm = .none) (os : cO.slots.size = N) (of : ∀ j, j < N → cO.slots[j]? = some (.ref (H.size + 1 + j)))
    (ic : ∀ i, i < N → (cI i).cls = cA 10) (iv : ∀ i, i < N → (cI i).vm = .none) (is : ∀ i, i < N → (cI i).slots.size = M) (jf : ∀ i j, i < N → j < M → (cI i).slots[j]? = some (.int 0)) : pe_Hd D cA b n0 H0 (pe_mn2 σ N M) H' := by
  have hn := pe_ad_n h
  obtain ⟨⟨g0, g1⟩, g2, g3, g4, g5, g6⟩ := h
  obtain ⟨g01, g02, g03⟩ := g0
  have es : σ.1 = pe_n σ := rfl
  have kO : pe_K (pe_mn2 σ N M) (pe_n σ) = 24 := if_pos rfl
  have kI : ∀ r, pe_n σ < r → r < pe_n σ + 1 + N → pe_K (pe_mn2 σ N M) r = 10 := fun r h1 h2 => (if_neg (by omega)).trans (if_pos ⟨h1, by rw [Int.toNat_natCast]; omega⟩)
  have kE : ∀ r, r < pe_n σ ∨ pe_n σ + 1 + N ≤ r → pe_K (pe_mn2 σ N M) r = pe_K σ r := fun r hr => (if_neg (by have : σ.1 = pe_n σ := rfl; omega)).trans (if_neg (by have : σ.1 = pe_n σ := rfl; rw [Int.toNat_natCast]; omega))
  have hn' : pe_n (pe_mn2 σ N M) = pe_n σ + 1 + N := by show σ.1 + 1 + (N : Int).toNat = _; rw [Int.toNat_natCast]; rfl
  have hadI : ∀ i, pe_ad b n0 (pe_n σ + 1 + i) = H.size + 1 + i := fun i => by unfold pe_ad; rw [if_neg (by omega), if_neg (by omega)]; omega
  refine ⟨⟨⟨g01, g02, g03⟩, by rw [kE 2 (by omega)]; exact g1⟩, by omega, by rw [hn']; omega, fun q hq => by rw [ho q (by omega)]; exact g4 q hq, by rw [kE 1 (by omega)]; exact g5, fun r hr => ?_⟩
  by_cases e1 : r = pe_n σ
  · subst e1
    refine ⟨by omega, by omega, fun q => ?_, fun _ => ?_⟩
    · rw [kO] at q; cases q
    · rw [kO]
      refine ⟨cO, by rw [hn]; exact eO, by rw [oc, pe_ca2 (by omega)], (by rw [ov]; exact fun q => by cases q), (fun q w => by rw [ov] at w; cases w), ?_, fun j hj => ?_⟩
      · rw [os]
        exact (show pe_L (pe_mn2 σ N M) (pe_n σ) = (N : Int) from if_pos rfl).symm
      · have er : pe_R (pe_mn2 σ N M) (pe_n σ) j = pe_n σ + 1 + j := by
          show (if pe_n σ = σ.1 then σ.1 + 1 + (j : Int).toNat else _) = _
          rw [if_pos es.symm, Int.toNat_natCast]; rfl
        rw [of j (by omega), er]
        show _ = some (pe_rf (pe_ad b n0) (pe_n σ + 1 + j))
        unfold pe_rf
        rw [if_neg (by omega), hadI]
  · by_cases e2 : pe_n σ < r ∧ r < pe_n σ + 1 + N
    · have ek := kI r e2.1 e2.2
      obtain ⟨i, hi⟩ : ∃ i, r = pe_n σ + 1 + i := ⟨r - (pe_n σ + 1), by omega⟩
      subst hi
      have hiN : i < N := by omega
      refine ⟨by omega, by omega, fun q => ?_, fun _ => ?_⟩
      · rw [ek] at q; cases q
      · rw [ek]
        refine ⟨cI i, by rw [hadI]; exact eI i hiN, by rw [ic i hiN, pe_ca2 (by omega)], (by rw [iv i hiN]; exact fun q => by cases q), (fun q w => by rw [iv i hiN] at w; cases w), ?_, fun j hj => ?_⟩
        · rw [is i hiN]
          exact (show pe_L (pe_mn2 σ N M) (pe_n σ + 1 + i) = (M : Int) from (if_neg (by show ¬ _ = pe_n σ; omega)).trans (if_pos ⟨by show pe_n σ < _; omega, by show _ < pe_n σ + 1 + (N : Int).toNat; rw [Int.toNat_natCast]; omega⟩)).symm
        · have ei : pe_I (pe_mn2 σ N M) (pe_n σ + 1 + i) j = 0 := if_pos ⟨by show pe_n σ ≤ _; omega, by show _ < pe_n σ + 1 + (N : Int).toNat; rw [Int.toNat_natCast]; omega⟩
          rw [jf i j hiN (by rw [is i hiN] at hj; exact hj), ei]
          rfl
    · have hr2 : r < pe_n σ ∨ pe_n σ + 1 + N ≤ r := by omega
      rw [kE r hr2] at hr
      obtain ⟨k1, k2, k3⟩ := g6 r hr
      have hlt : pe_ad b n0 r < H.size := by
        unfold pe_ad
        split
        · omega
        · split <;> omega
      refine ⟨k1, by omega, k3.congr (kE r hr2) ?_ (fun j => ?_) (fun j => ?_) (ho _ hlt)⟩
      · exact (if_neg (by show ¬ r = pe_n σ; omega)).trans (if_neg (by show ¬ (pe_n σ < r ∧ r < pe_n σ + 1 + (N : Int).toNat); rw [Int.toNat_natCast]; omega))
      · exact if_neg (by show ¬ (pe_n σ ≤ r ∧ r < pe_n σ + 1 + (N : Int).toNat); rw [Int.toNat_natCast]; omega)
      · exact (if_neg (by show ¬ r = pe_n σ; omega)).trans (if_neg (by show ¬ (pe_n σ < r ∧ r < pe_n σ + 1 + (N : Int).toNat); rw [Int.toNat_natCast]; omega))
theorem pe_flX {locs : List Loc} {cells slots : Nat} {T : State} (X : Stand p l e R s m args below meth c T locs cells slots) (cO cI : ClassId) (N M : Nat) : ∀ i, Stand p l e R s m args below meth c (pe_fl T cO cI N M i) (locs ++ (List.range i).map fun j => ⟨T.heap.size, j⟩) (cells + 1 + i) (slots + N + i * M)
  | 0 => by
    have h := X.pushed (pe_oc cO N T.heap.size 0)
    rw [show (pe_oc cO N T.heap.size 0).slots.size = N from arrV_size _ _ _] at h
    simpa [pe_fl] using h
  | i + 1 => by
    have Xi := pe_flX X cO cI N M i
    obtain ⟨f1, f2, -, -⟩ := pe_fl_0 T cO cI N M i
    have a0 : T.heap.size < (pe_fl T cO cI N M i).heap.size := by omega
    have hcell : ((pe_fl T cO cI N M i).pushCell (arrV cI M (fun _ => .int 0))).heap[T.heap.size]? = some (pe_oc cO N T.heap.size i) := by rw [State.heap_pushCell_of_lt (h := a0)]; exact f2
    have h := (Xi.pushed (arrV cI M (fun _ => .int 0))).stored hcell i (.ref (T.heap.size + 1 + i))
    rw [arrV_size, pe_ocs] at h
    rw [show (locs ++ (List.range (i + 1)).map fun j => (⟨T.heap.size, j⟩ : Loc)) = (locs ++ (List.range i).map fun j => (⟨T.heap.size, j⟩ : Loc)) ++ [⟨T.heap.size, i⟩] by simp [List.range_succ, List.append_assoc], show slots + N + (i + 1) * M = slots + N + i * M + M by rw [Nat.succ_mul]; omega]
    exact h
theorem pe_mnaX {locs : List Loc} {cells slots : Nat} {T : State} (X : Stand p l e R s m args below meth c T locs cells slots) (hexec : p.tables.exec = Jvm.exec) {own : String} {index : Nat} (hown : s.vm.findClass own = some m.cls) {cO cI cc : ClassId} {kO kI : Class} (hlk : (Cond.classLink own index "[[I").before args s = true) (hfO : s.vm.findClass "[[I" = some cO) (hO : s.vm.classes[cO]? = some kO) (hOk : kO.kind = .array cI (.array .int)) (hI : s.vm.classes[cI]? = some kI) (hIk : kI.kind = .array cc .int)
    {g : JFrame} (hg : g.method = m) (hdg : decode c.code g.pc = .ok (.multianewarray index 2, 4)) {n k : Int32} {N M : Nat} {rest : List Value} (hstack : g.stack = .int k :: .int n :: rest) (hn : ¬ n < 0) (hk : ¬ k < 0) (hN : n.toNatClampNeg = N) (hM : k.toNatClampNeg = M) (hN1 : N ≤ 1000) (hM1 : M ≤ 1000) (hcells : cells + (1 + N) ≤ R.cells) (hslots : slots + (N + N * M) ≤ R.slots) :
    ∃ vm₁ : Vm, Stand p l e R s m args below meth c (pe_fl (T.setVm vm₁) cO cI N M N) locs (cells + 1 + N) (slots + N + N * M) ∧ ∀ target, Steps p.tables e below ((pe_fl (T.setVm vm₁) cO cI N M N).setTop { g with pc := g.pc + 4, stack := .ref T.heap.size :: rest }) target → Steps p.tables e below (T.setTop g) target := by
  subst hg
  have hpl : e.platform.magicAccessors = ({} : Platform).magicAccessors := by rw [X.admits.platform]
  obtain ⟨c0, hfc0, hcl⟩ := Cond.classLink_spec hown hlk e.platform hpl
  cases hfO.symm.trans hfc0
  obtain ⟨hg₁, hwarm₁, hready₁⟩ := State.classEntry (e := e) X.warmed hcl
  generalize T.vm.noted g.method.cls index (.cls cO) = vm₁ at hg₁ hwarm₁ hready₁
  have hal : s.vm.Alike vm₁ := hwarm₁.alike
  obtain ⟨kO', hO', eO⟩ := hal.2.2 _ _ hO
  obtain ⟨kI', hI', eI⟩ := hal.2.2 _ _ hI
  have X₁ := X.noted hwarm₁
  obtain ⟨hr1, hr2⟩ := X.roomAbove hcells hslots
  have XF := pe_flX X₁ cO cI N M N
  refine ⟨vm₁, XF.dropFresh (fun x hx => ?_), fun target hrest => ?_⟩
  · obtain ⟨j, -, rfl⟩ := List.mem_map.mp hx
    exact X.heapGrown
  have hl1 := Launch.admits_arrayLengthLimit X.admits
  have hl2 := Launch.admits_maxHeapBytes X.admits
  jvm_step X.here [hexec, hdg]
  simp only [multianewarray.sem, wp_bind', W.resolveClassAt_links (State.method?_setTop g X.here.top) hg₁]
  rw [W.popN, if_neg (by decide)]
  refine ⟨g, State.topJava?_setTop' (s := T.setVm vm₁) g X.here.top, [.int n, .int k], rest, rfl, hstack, ?_⟩
  simp only [List.mapM_cons, List.mapM_nil, wp_bind', wp_pure']
  refine pe_wpm (N := N) (M := M) (k := kO') (kc := kI') hO' (by rw [eO]; exact hOk) hI' (by rw [eI]; exact hIk) hn hk hN hM (by rw [hl1]; omega) (by rw [hl2]; omega) (by rw [hl1]; omega) (by rw [hl2]; omega) (by show T.heap.size + 1 + N ≤ _; omega) (by show T.slotsUsed + N + N * M ≤ _; omega) (fun d' acts' => ?_)
  have eS : ((T.setTop g).setVm vm₁).setTop { g with stack := rest } = (T.setVm vm₁).setTop { g with stack := rest } := by
    show ((T.setVm vm₁).setTop g).setTop _ = _
    rw [State.setTop_setTop]
  rw [eS, pe_fl_top]
  simp only [wp_bind', W.mark, W.pushRef, State.topJava?_setTop' _ XF.here.top, Option.some.injEq, exists_eq_left', State.setTop_setTop, State.heap_setTop]
  intro acts
  simp [jvm, XF.here.top]
  exact hrest
theorem pe_r_mna {S S' : pe_S} {φ : List Prop} {k : Nat} (hx : p.tables.exec = Jvm.exec) (hb : c.code = cc) (hs : pe_mna S = some (φ, S')) (hk : k = pe_xm.1) (hRc : nF - nS ≤ R.cells) (hRs : uF - uS ≤ R.slots) (hφ : pe_all φ) (hts : ∀ w ∈ pe_TB, w.before args s = true) (hown : s.vm.findClass (pe_rn 21) = some m.cls) (hG : pe_G D cA b n0 H0 s) (hd : decode cc S.1 = .ok (.multianewarray k 2, 4))
    (h : pe_PW p l e R s m args below meth c Q D cA b n0 H0 nS uS nF uF nL S') : pe_PW p l e R s m args below meth c Q D cA b n0 H0 nS uS nF uF nL S := by
  obtain ⟨pc, ls, st, σ⟩ := S
  unfold pe_mna at hs
  split at hs
  · rename_i y x st' he
    cases hs
    dsimp only at he hd
    subst he
    obtain ⟨hx0, hx1, hy0, hy1⟩ := hφ
    have hx0 : 0 ≤ pe_w x := hx0
    have hx1 : pe_w x ≤ 1000 := hx1
    have hy0 : 0 ≤ pe_w y := hy0
    have hy1 : pe_w y ≤ 1000 := hy1
    obtain ⟨N, hN⟩ : ∃ N : Nat, pe_w x = N := ⟨(pe_w x).toNat, by omega⟩
    obtain ⟨M, hM⟩ : ∃ M : Nat, pe_w y = M := ⟨(pe_w y).toNat, by omega⟩
    have cN : (Int32.ofInt x).toNatClampNeg = N := by have := pe_clamp hx0; omega
    have cM : (Int32.ofInt y).toNatClampNeg = M := by have := pe_clamp hy0; omega
    rw [hN, hM] at h
    have en : pe_n (pe_mn2 σ N M) = pe_n σ + 1 + N := by show σ.1 + 1 + (N : Int).toNat = _; rw [Int.toNat_natCast]; rfl
    have eu : pe_u (pe_mn2 σ N M) = pe_u σ + N + N * M := by show σ.2.1 + (N : Int).toNat + (N : Int).toNat * (M : Int).toNat = _; rw [Int.toNat_natCast, Int.toNat_natCast]; rfl
    have hf1 : pe_n (pe_mn2 σ N M) ≤ nF := h.1
    have hf2 : pe_u (pe_mn2 σ N M) ≤ uF := h.2.1
    refine ⟨by show pe_n σ ≤ nF; omega, by show pe_u σ ≤ uF; omega, fun h1 h2 h3 H Ls locs hH hL hlocs => ?_⟩
    have h1 : nS ≤ pe_n σ := h1
    have h2 : uS ≤ pe_u σ := h2
    have hH : pe_Hd D cA b n0 H0 σ H := hH
    show W p l e R s m args below meth c H locs (pe_n σ - nS) (pe_u σ - uS) Q (F0 m pc Ls (.int (Int32.ofInt y) :: .int (Int32.ofInt x) :: st'.map (pe_e (pe_ad b n0))))
    intro T hT X
    have hlk : (Cond.classLink (pe_rn 21) k "[[I").before args s = true := hts _ (pe_tb (by rw [hk]; exact pe_x_ok.2.1) rfl)
    obtain ⟨kO, c1, c2⟩ := hG.2.2.2.2.2.2.1
    obtain ⟨-, kC, hkC, cmC, hkCk⟩ := (hG.2.1 10 (by decide) (by decide)).1 0 (fun _ => .null)
    obtain ⟨vm₁, X', step⟩ := pe_mnaX X hx hown hlk (hG.2.1 24 (by decide) (by decide)).2 c1 c2 hkC hkCk (g := F0 m pc Ls (.int (Int32.ofInt y) :: .int (Int32.ofInt x) :: st'.map (pe_e (pe_ad b n0)))) rfl (by rw [hb]; exact hd) rfl (fun q => by have := (pe_lt0 x).mp q; omega) (fun q => by have := (pe_lt0 y).mp q; omega) cN cM (by omega) (by omega) (by omega) (by omega)
    generalize hF : pe_fl (T.setVm vm₁) (cA 24) (cA 10) N M N = F at X' step
    have hTh : (T.setVm vm₁).heap = H := hT
    obtain ⟨f1, f2, -, -⟩ := pe_fl_0 (T.setVm vm₁) (cA 24) (cA 10) N M N
    rw [hF, hTh] at f1 f2
    have hHd : pe_Hd D cA b n0 H0 (pe_mn2 σ N M) F.heap := by
      refine pe_Hd.mna (cI := fun _ => arrV (cA 10) M (fun _ => .int 0)) hH f1 (fun q hq => ?_) f2 (fun i hi => ?_) rfl rfl (arrV_size _ _ _) (fun j hj => ?_) (fun i _ => rfl) (fun i _ => rfl) (fun i _ => arrV_size _ _ _) (fun i j _ hj => arrV_read _ _ hj)
      · have := pe_fl_old (T.setVm vm₁) (cA 24) (cA 10) N M (a := q) (by rw [hTh]; exact hq) N
        rw [hF, hTh] at this
        exact this
      · have := pe_fl_in (T.setVm vm₁) (cA 24) (cA 10) N M N i hi
        rw [hF, hTh] at this
        exact this
      · have := arrV_read (cA 24) (fun j => if j < N then Value.ref (H.size + 1 + j) else .null) hj
        rw [if_pos hj] at this
        exact this
    have hw := h.2.2 (by show nS ≤ pe_n (pe_mn2 σ N M); omega) (by show uS ≤ pe_u (pe_mn2 σ N M); omega) h3 F.heap Ls locs hHd hL hlocs
    have hw : W p l e R s m args below meth c F.heap locs (pe_n (pe_mn2 σ N M) - nS) (pe_u (pe_mn2 σ N M) - uS) Q (F0 m (pc + 4) Ls (pe_rf (pe_ad b n0) (pe_n σ) :: st'.map (pe_e (pe_ad b n0)))) := hw
    rw [show pe_n (pe_mn2 σ N M) - nS = pe_n σ - nS + 1 + N by omega, show pe_u (pe_mn2 σ N M) - uS = pe_u σ - uS + N + N * M by omega, pe_rf_pos _ (by have := hH.2.1; omega), pe_ad_n hH] at hw
    obtain ⟨t, a1, b1⟩ := hw F rfl X'
    refine ⟨t, step t ?_, b1⟩
    rw [hT]
    exact a1
  · cases hs
end PEW4D
