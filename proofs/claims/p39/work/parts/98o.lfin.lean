/-! THE LAW's end -/
theorem stand_none {p : Program} {l : Launch} {e : Env} {R : Room} {s : State} {m : MethodId} {args : Array Value} {below : List Frame} {meth : Method} {c : Code} {T : State} {locs : List Loc} {cells slots : Nat} (X : Stand p l e R s m args below meth c T locs cells slots) (h : ∀ q ∈ locs, s.heap.size ≤ q.base) : Stand p l e R s m args below meth c T [] cells slots := ⟨X.admits, X.cas, X.clock, X.frames, X.room, X.hears, X.method, X.code, X.here, X.tail, X.warmed, X.limits, X.bytes, ⟨X.same.1, X.same.2.1, X.same.2.2.1, X.same.2.2.2.1, X.same.2.2.2.2.1, fun a c hc => by
  obtain ⟨c', h1, h2, h3, h4⟩ := X.same.2.2.2.2.2 a c hc
  have hl : a < s.heap.size := (Array.getElem?_eq_some_iff.mp hc).1
  exact ⟨c', h1, h2, h3, fun i _ => h4 i (fun hm => by have := h _ hm; exact absurd this (Nat.not_le.mpr hl))⟩⟩⟩
theorem dx244 : decode code 11 = .ok (.ireturn, 1) := by decide +kernel
theorem lw_fin {p : Program} {l : Launch} {e : Env} {s : State} {m : MethodId} {below : List Frame} {meth : Method} {c : Code} {b : Nat} {bb : Nat × Nat} {D : va_G} {cA : Nat → ClassId} (hx : p.tables.exec = Jvm.exec) (hb : c.code = code) (hr : meth.sig.returnType = ret) (hlocks : meth.locks = false) {σ : pe_H} {ls : List (Option pe_V)} (hn : pe_n σ ≤ room_1.cells + 3) (hu : pe_u σ ≤ room_1.slots) : pe_PW p l e room_1 s m #[Value.ref b] below meth c (lw_Z below #[Value.ref b] s) D cA bb s.heap.size s.heap 3 0 (room_1.cells + 3) room_1.slots 1 (11, ls, [.inl 1], σ) := by
  refine ⟨hn, hu, fun h1 h2 h3 H Ls locs hH hL hlocs T hT X => ?_⟩
  have X2 := stand_widen (stand_none X hlocs) (show pe_n σ - 3 ≤ room_1.cells by omega) (show pe_u σ - 0 ≤ room_1.slots by omega)
  exact lw_ret (pc := 11) (ls := Ls) (H := H) hx hb hr hlocks dx244 T hT X2
/-! THE START: the script's cell, the static array's cell (they may be one cell: neither is written), and nothing else known -/
theorem lw_h9 {s : State} {scr : Cell} (h : s.isArrayOf scr .int) : ArrOfT s scr.cls .int := fun N z => ⟨(fun k h => by cases h), h.2⟩
theorem lw_Hd0 {D : va_G} {cA : Nat → ClassId} {b t L : Nat} {xs : Nat → Int32} {s : State} {scr sgn : Cell} (hb : b < s.heap.size) (h1 : s.heap[b]? = some scr) (h9 : cA 9 = scr.cls) (hof : s.isArrayOf scr .int) (hk : scr.vm ≠ .unknown) (hz : scr.slots.size = L) (hv : ∀ j : Nat, j < L → scr.slots[j]? = some (.int (xs j)))
    (g1 : s.heap[t]? = some sgn) (g25 : cA 25 = sgn.cls) (gof : s.isArrayOf sgn .int) (gk : sgn.vm ≠ .unknown) (gz : sgn.slots.size = 16) (gv : ∀ j : Nat, j < 16 → sgn.slots[j]? = some (.int (sg_v.getD j 0))) : pe_Hd D cA (b, t) s.heap.size s.heap (lw_s0 L xs) s.heap := by
  have hK1 : pe_K (lw_s0 L xs) 1 = 10 := rfl
  have hK2 : pe_K (lw_s0 L xs) 2 = 25 := rfl
  have hK : ∀ r, r ≠ 1 → r ≠ 2 → pe_K (lw_s0 L xs) r = 99 := fun r a1 a2 => by
    show (if r = 1 then 10 else if r = 2 then 25 else 99) = 99
    rw [if_neg a1, if_neg a2]
  refine ⟨⟨⟨hb, (Array.getElem?_eq_some_iff.mp g1).1, trivial⟩, rfl⟩, Nat.le_refl 3, rfl, fun _ _ => rfl, rfl, fun r hr => ?_⟩
  have e : r = 1 ∨ r = 2 := by
    by_cases q : r = 1
    · exact Or.inl q
    · by_cases q2 : r = 2
      · exact Or.inr q2
      · rw [hK r q q2] at hr
        omega
  rcases e with e | e <;> subst e
  · have had : pe_ad (b, t) s.heap.size 1 = b := if_pos rfl
    refine ⟨by omega, (by decide : 1 < 3), fun h => absurd h (by rw [hK1]; decide), fun _ => ⟨scr, by rw [had]; exact h1, h9.symm, hk, hof.1, by rw [hz]; rfl, fun j hj => ?_⟩⟩
    rw [hv j (by omega)]
    have e1 : pe_I (lw_s0 L xs) 1 j = (xs (j : Int).toNat).toInt := rfl
    rw [e1, Int.toNat_natCast]
    show some (Value.int (xs j)) = some (Value.int (Int32.ofInt (xs j).toInt))
    rw [Int32.ofInt_toInt]
  · have had : pe_ad (b, t) s.heap.size 2 = t := rfl
    refine ⟨by omega, (by decide : 2 < 3), fun h => absurd h (by rw [hK2]; decide), fun _ => ⟨sgn, by rw [had]; exact g1, g25.symm, gk, gof.1, by rw [gz]; rfl, fun j hj => ?_⟩⟩
    rw [gv j (by omega)]
    have e1 : pe_I (lw_s0 L xs) 2 j = (sg_v.getD (j : Int).toNat 0).toInt := rfl
    rw [e1, Int.toNat_natCast]
    show some (Value.int (sg_v.getD j 0)) = some (Value.int (Int32.ofInt (sg_v.getD j 0).toInt))
    rw [Int32.ofInt_toInt]
/-! YOUR PART: from the entry to the end -/
theorem sg_ns : ∀ j : Nat, j < 16 → pt_ns (sg_v.getD j 0).toInt := by decide +kernel
theorem whole_start {p : Program} {e : Env} {s : State} {m : MethodId} {below : List Frame} {meth : Method} {c : Code} (l : Launch) (hflags : l.flags = flags0) {b L : Nat} {xs : Nat → Int32} (hL : L ≤ 260) (C0 : lw_At p s m meth c b L xs) : W p l e room_1 s m #[Value.ref b] below meth c s.heap [] 0 0 (lw_Z below #[Value.ref b] s) (entryFrame m ([Value.ref b] : List Value).toArray 1) := by
  obtain ⟨hx, hb, hr, hml, hown, hts, ⟨scr, h1, hof, hk, hz, hv⟩, hbl, hlk, hgv⟩ := C0
  obtain ⟨t, sgn, hZ, g1, gof, gk, gz, gv⟩ := sg_of hts hgv
  obtain ⟨D, cA, hG, h9, h25⟩ := pe_G_of (b := (b, t)) (lw_h9 hof) (lw_h9 gof) hZ hts
  have hTB : ∀ w ∈ pe_TB, w.before #[Value.ref b] s = true := fun w h => hts w (List.mem_filter.mp h).1
  have hsc : ll_sc (lw_s0 L xs) := by
    refine ⟨rfl, ?_⟩
    show pe_in (L : Int)
    unfold pe_in
    omega
  have hsg : ll_sg (lw_s0 L xs) := ⟨rfl, rfl, fun i i1 i2 => sg_ns i.toNat (by omega)⟩
  have key := py_PW (l := l) (e := e) (R := room_1) (below := below) (meth := meth) (Q := lw_Z below #[Value.ref b] s) (b := (b, t)) (nS := 3) (uS := 0) (nF := room_1.cells + 3) (uF := room_1.slots) (nL := 1) (o := 21) (ini := false) hx (show c.code = (pe_me 244).2.1 from hb) (by decide) (by decide) hml (by decide) (by decide) hTB hown (fun h => by cases h) hG (pe_N_of hts) (lw_all (G := fun S => ∃ ls σ', S = (11, ls, [.inl 1], σ') ∧ pe_n σ' ≤ 78916 ∧ pe_u σ' ≤ 266743) (σ := lw_s0 L xs) rfl hsc hsg (fun σ' ls hn hu => ⟨ls, σ', rfl, hn, by
    have : pe_u (lw_s0 L xs) = 0 := rfl
    omega⟩)) (fun S hS => by
    obtain ⟨ls, σ', rfl, hn, hu⟩ := hS
    have q1 : 78916 ≤ room_1.cells := Nat.le_of_ble_eq_true rfl
    have q2 : 266743 ≤ room_1.slots := Nat.le_of_ble_eq_true rfl
    exact lw_fin hx hb hr hlk (by omega) (by omega))
  have hw := key.2.2 (Nat.le_refl _) (Nat.zero_le _) rfl s.heap _ [] (lw_Hd0 hbl h1 h9 hof hk hz hv g1 h25 gof gk gz gv) (pe_entry (pe_ad (b, t) s.heap.size) [.inr (.inr 1)] 1 (Nat.le_of_ble_eq_true rfl)) (fun q hq => by cases hq)
  have ea : (([.inr (.inr 1)] : List pe_V).map (pe_e (pe_ad (b, t) s.heap.size))) = [Value.ref b] := rfl
  rw [lg_entry_eq]
  rw [ea] at hw
  exact hw
