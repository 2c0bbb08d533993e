/-! THE LAW's end -/
theorem stand_none {p : Program} {l : Launch} {e : Env} {R : Room} {s : State} {m : MethodId} {args : Array Value} {below : List Frame} {meth : Method} {c : Code} {T : State} {locs : List Loc} {cells slots : Nat} (X : Stand p l e R s m args below meth c T locs cells slots) (h : ∀ q ∈ locs, s.heap.size ≤ q.base) : Stand p l e R s m args below meth c T [] cells slots := ⟨X.admits, X.cas, X.clock, X.frames, X.room, X.hears, X.method, X.code, X.here, X.tail, X.warmed, X.limits, X.bytes, ⟨X.same.1, X.same.2.1, X.same.2.2.1, X.same.2.2.2.1, X.same.2.2.2.2.1, fun a c hc => by
  obtain ⟨c', h1, h2, h3, h4⟩ := X.same.2.2.2.2.2 a c hc
  have hl : a < s.heap.size := (Array.getElem?_eq_some_iff.mp hc).1
  exact ⟨c', h1, h2, h3, fun i _ => h4 i (fun hm => by have := h _ hm; exact absurd this (Nat.not_le.mpr hl))⟩⟩⟩
theorem dx244 : decode cL_law 1511 = .ok (.ireturn, 1) := by decide +kernel
theorem lw_fin {p : Program} {l : Launch} {e : Env} {s : State} {m : MethodId} {below : List Frame} {meth : Method} {c : Code} {b : Nat} {D : va_G} {cA : Nat → ClassId} (hx : p.tables.exec = Jvm.exec) (hb : c.code = code) (hr : meth.sig.returnType = ret) (hlocks : meth.locks = false) {σ : pe_H} {ls : List (Option pe_V)} (hn : pe_n σ ≤ 601026) (hu : pe_u σ ≤ 7293034) : pe_PW p l e room_1 s m #[Value.ref b] below meth c (lw_Z below #[Value.ref b] s) D cA b s.heap.size s.heap 2 0 601026 7293034 8 (1511, ls, [.inl 1], σ) := by
  refine ⟨hn, hu, fun h1 h2 h3 H Ls locs hH hL hlocs T hT X => ?_⟩
  have X2 := stand_widen (stand_none X hlocs) (show pe_n σ - 2 ≤ 601024 by omega) (show pe_u σ - 0 ≤ 7293034 by omega)
  exact lw_ret (pc := 1511) (ls := Ls) (H := H) hx hb hr hlocks dx244 T hT X2
