/-! THE CLASS'S CALLS as holds uses them; the last part of holds: least width, same -/
section
variable {d o r q x y x' y' N M : Nat} {Z Z' : Int → Prop} {Φ : Option pe_V → pe_H → Prop} {σ σ' σ'' : pe_H} {g g' g'' : Nat → Int} {c e v n p : Int} {a b s s' : pa_M} {T U T' U' : Nat → Prop} {im im' : Option pa_M} {h h' : Int → pa_Sh}
def ll_k7 (z : Int) : Prop := z = -7
theorem q83 {x : Int} (hq : ll_Q T U σ g a s im h) (hc : -2147483648 ≤ c ∧ c < 2147483648) (hx : 0 ≤ x ∧ x ≤ 11) (k : Φ (some (.inl (pa_aCo s c x))) σ) : pe_M (d + 3) 83 [.inr (.inr 4), .inl c, .inl x] σ Φ := k83 hq.G hq.W hc (by omega) k
theorem q91 {x : Int} (hq : ll_Q T U σ g a s im h) (hw : pa_wf9 a) (h0 : 0 ≤ c) (h1 : c < s.1 4) (n0 : 0 ≤ n) (n60 : n ≤ 60) (x0 : 0 ≤ x) (x4 : x ≤ 4) (k : ∀ σ2, ll_fz ll_k7 0 0 σ g σ2 g → ll_Q T U σ2 g a s im h → Φ (some (.inl (pa_of ((pa_rounds n.toNat s).2.1 c) x))) σ2) : pe_M (d + 16) 91 [.inr (.inr 4), .inl c, .inl n, .inl x] σ Φ := by
  have h8 := hq.W.1.1.1.1
  refine k91 hq.G hq.W (by omega) (by omega) (by omega) (fun σ2 f hG => ?_)
  obtain ⟨p, hq2⟩ := hq.cls hw f hG hq.W
  rw [ll_then h0 h1 n0 n60 x0 x4]
  exact k σ2 p hq2
theorem q92 (hq : ll_Q T U σ g a s im h) (hw : pa_wf9 a) (h0 : 0 ≤ c) (h1 : c < s.1 4) (k : ∀ σ2, ll_fz ll_k7 0 0 σ g σ2 g → ll_Q T U σ2 g a s im h → Φ (some (.inl (pa_endsN c 61 0 s))) σ2) : pe_M (d + 15) 92 [.inr (.inr 4), .inl c] σ Φ := by
  have h8 := hq.W.1.1.1.1
  refine k92 hq.G hq.W (by omega) (fun σ2 f hG => ?_)
  obtain ⟨p, hq2⟩ := hq.cls hw f hG hq.W
  unfold pa_aEnds
  rw [if_neg (by omega)]
  exact k σ2 p hq2
theorem q93 {x : Int} (hq : ll_Q T U σ g a s im h) (hw : pa_wf9 a) (hx : x = 0 ∨ x = 1) (k : ∀ σ2, ll_fz ll_k7 0 0 σ g σ2 g → ll_Q T U σ2 g a s im h → Φ (some (.inl (if x = 0 then (pa_stuckN 61 0 s).1 else (pa_stuckN 61 0 s).2))) σ2) : pe_M (d + 15) 93 [.inr (.inr 4), .inl x] σ Φ := by
  refine k93 hq.G hq.W (by omega) (fun σ2 f hG => ?_)
  obtain ⟨p, hq2⟩ := hq.cls hw f hG hq.W
  unfold pa_aStuck
  rw [if_neg (by omega)]
  exact k σ2 p hq2
theorem q94 (hq : ll_Q T U σ g a s im h) (hw : pa_wf9 a) (n0 : 0 ≤ n) (n60 : n ≤ 60) (k : ∀ σ2, ll_fz ll_k7 0 0 σ g σ2 g → ll_Q T U σ2 g a s im h → Φ (some (.inl (pa_lwN s n 8 1))) σ2) : pe_M (d + 16) 94 [.inr (.inr 4), .inl n] σ Φ := by
  refine k94 hq.G hq.W (by omega) (fun σ2 f hG => ?_)
  obtain ⟨p, hq2⟩ := hq.cls hw f hG hq.W
  unfold pa_aLeast
  rw [if_neg (by omega)]
  exact k σ2 p hq2
theorem q96 {x : Int} (hq : ll_Q T U σ g a s im h) (hw : pa_wf9 a) (h0 : 0 ≤ c) (h1 : c < s.1 4) (h2 : (s.2.1 c).1 2 ≤ 2) (hx : x = 0 ∨ x = 1) (k : ∀ σ2, ll_fz ll_k7 0 0 σ g σ2 g → ll_Q T U σ2 g a s im h → Φ (some (.inl (if x = 0 then (pa_sbN s c 21 0 (0, -4)).1 else (pa_sbN s c 21 0 (0, -4)).2))) σ2) : pe_M (d + 15) 96 [.inr (.inr 4), .inl c, .inl x] σ Φ := by
  have h8 := hq.W.1.1.1.1
  refine k96 hq.G hq.W (by omega) (by omega) (fun σ2 f hG => ?_)
  obtain ⟨p, hq2⟩ := hq.cls hw f hG hq.W
  unfold pa_aSendBest
  rw [if_neg (by omega), if_neg (by omega)]
  exact k σ2 p hq2
theorem q87 (hq : ll_Q T U σ g a s im h) (hw : pa_wf9 a) (h0 : 0 ≤ c) (h1 : c < s.1 4) (h2 : (s.2.1 c).1 2 ≤ 2) (hv : 0 ≤ v ∧ v ≤ 999) (k : ∀ σ2, ll_fz ll_k7 0 0 σ g σ2 g → ll_Q T U σ2 g a (pa_send s c v) im h → Φ (some (.inl (((pa_send s c v).2.1 c).1 2))) σ2) : pe_M (d + 15) 87 [.inr (.inr 4), .inl c, .inl v] σ Φ := by
  have h8 := hq.W.1.1.1.1
  have hd : pa_doSend s c v = (pa_send s c v, ((pa_send s c v).2.1 c).1 2) := by
    unfold pa_doSend
    rw [if_neg (by omega), if_neg (by omega)]
  have hwr := pw_send (c := c) (v := v) (a := s) ⟨hq.W.1.1, hq.W.1.2⟩
  refine k87 hq.G hq.W (by omega) (by omega) (fun σ2 f hG => ?_)
  rw [hd] at hG hwr ⊢
  obtain ⟨p, hq2⟩ := hq.cls hw f hG ⟨⟨hwr.1, hwr.2⟩, hq.W.2⟩
  exact k σ2 p hq2
theorem q87n (hq : ll_Q T U σ g a s im h) (hw : pa_wf9 a) (h0 : 0 ≤ c) (h1 : c < s.1 4) (h2 : ¬ (s.2.1 c).1 2 ≤ 2) (hv : 0 ≤ v ∧ v ≤ 999) (k : ∀ σ2, ll_fz ll_k7 0 0 σ g σ2 g → ll_Q T U σ2 g a s im h → Φ (some (.inl (-3))) σ2) : pe_M (d + 15) 87 [.inr (.inr 4), .inl c, .inl v] σ Φ := by
  have h8 := hq.W.1.1.1.1
  have hd : pa_doSend s c v = (s, -3) := by
    unfold pa_doSend
    rw [if_neg (by omega), if_pos (by omega)]
  refine k87 hq.G hq.W (by omega) (by omega) (fun σ2 f hG => ?_)
  rw [hd] at hG ⊢
  obtain ⟨p, hq2⟩ := hq.cls hw f hG hq.W
  exact k σ2 p hq2
theorem q88 (hq : ll_Q T U σ g a s im h) (hw : pa_wf9 a) (h0 : 0 ≤ c) (h1 : c < s.1 4) (h2 : (s.2.1 c).1 2 < 6) (k : ∀ σ2, ll_fz ll_k7 0 0 σ g σ2 g → ll_Q T U σ2 g a (pa_shut s c) im h → Φ (some (.inl (((pa_shut s c).2.1 c).1 2))) σ2) : pe_M (d + 15) 88 [.inr (.inr 4), .inl c] σ Φ := by
  have h8 := hq.W.1.1.1.1
  have hd : pa_doClose s c = (pa_shut s c, ((pa_shut s c).2.1 c).1 2) := by
    unfold pa_doClose
    rw [if_neg (by omega), if_neg (by omega)]
  have hwr := pw_close (c := c) (a := s) ⟨hq.W.1.1, hq.W.1.2⟩
  refine k88 hq.G hq.W (by omega) (fun σ2 f hG => ?_)
  rw [hd] at hG hwr ⊢
  obtain ⟨p, hq2⟩ := hq.cls hw f hG ⟨⟨hwr.1, hwr.2⟩, hq.W.2⟩
  exact k σ2 p hq2
theorem q88n (hq : ll_Q T U σ g a s im h) (hw : pa_wf9 a) (h0 : 0 ≤ c) (h1 : c < s.1 4) (h2 : ¬ (s.2.1 c).1 2 < 6) (k : ∀ σ2, ll_fz ll_k7 0 0 σ g σ2 g → ll_Q T U σ2 g a s im h → Φ (some (.inl (-3))) σ2) : pe_M (d + 15) 88 [.inr (.inr 4), .inl c] σ Φ := by
  have h8 := hq.W.1.1.1.1
  have hd : pa_doClose s c = (s, -3) := by
    unfold pa_doClose
    rw [if_neg (by omega), if_pos (by omega)]
  refine k88 hq.G hq.W (by omega) (fun σ2 f hG => ?_)
  rw [hd] at hG ⊢
  obtain ⟨p, hq2⟩ := hq.cls hw f hG hq.W
  exact k σ2 p hq2
theorem q89 {w : Int} (hq : ll_Q T U σ g a s im h) (hw : pa_wf9 a) (w1 : 1 ≤ w) (w8 : w ≤ 8) (k : ∀ σ2, ll_fz ll_k7 0 0 σ g σ2 g → ll_Q T U σ2 g a (pa_wid s w) im h → Φ (some (.inl (s.1 5))) σ2) : pe_M (d + 1) 89 [.inr (.inr 4), .inl w] σ Φ := by
  have hd : pa_doWidth s w = (pa_wid s w, s.1 5) := by
    unfold pa_doWidth
    rw [if_neg (by omega)]
    rfl
  have hwr := pw_width (w := w) (a := s) ⟨hq.W.1.1, hq.W.1.2⟩
  refine k89 hq.G hq.W (by omega) (fun σ2 f hG => ?_)
  rw [hd] at hG hwr ⊢
  obtain ⟨p, hq2⟩ := hq.cls hw f hG ⟨⟨hwr.1, hwr.2⟩, hq.W.2⟩
  exact k σ2 p hq2
theorem q90 (hq : ll_Q T U σ g a s im h) (hw : pa_wf9 a) (n1 : 1 ≤ n) (n60 : n ≤ 60) (h6 : s.1 6 + n ≤ 999) (k : ∀ σ2, ll_fz ll_k7 0 0 σ g σ2 g → ll_Q T U σ2 g a (pa_rounds n.toNat s) im h → Φ (some (.inl (pb_c (pa_bits (pa_isEnd (pa_rounds n.toNat s)) ((pa_rounds n.toNat s).1 4).toNat)))) σ2) : pe_M (d + 15) 90 [.inr (.inr 4), .inl n] σ Φ := by
  have hd : pa_doRounds s n = (pa_rounds n.toNat s, pb_c (pa_bits (pa_isEnd (pa_rounds n.toNat s)) ((pa_rounds n.toNat s).1 4).toNat)) := by
    unfold pa_doRounds
    rw [if_neg (by omega), if_neg (by omega)]
  have hwr := pw_rounds (n := n) (a := s) ⟨hq.W.1.1, hq.W.1.2⟩
  refine k90 hq.G hq.W (by omega) (fun σ2 f hG => ?_)
  rw [hd] at hG hwr ⊢
  obtain ⟨p, hq2⟩ := hq.cls hw f hG ⟨⟨hwr.1, hwr.2⟩, hq.W.2⟩
  exact k σ2 p hq2
theorem q106 (hq : ll_Q T U σ g a s im h) (hw : pa_wf9 a) (k : ∀ σ2, ll_fz ll_k7 0 0 σ g σ2 g → ll_Q T U σ2 g a s (some s) h → Φ (some (.inl (s.1 6))) σ2) : pe_M (d + 4) 106 [.inr (.inr 4)] σ Φ := by
  refine k106 hq.G hq.W (fun σ2 f hG => ?_)
  obtain ⟨p, hq2⟩ := hq.cls hw f hG ⟨hq.W.1, fun b hb => by cases hb; exact hq.W.1, hq.W.2.2⟩
  exact k σ2 p hq2
theorem q107 (hq : ll_Q T U σ g a s (some b) h) (hw : pa_wf9 a) (k : ∀ σ2, ll_fz ll_k7 0 0 σ g σ2 g → ll_Q T U σ2 g a b (some b) h → Φ (some (.inl (b.1 6))) σ2) : pe_M (d + 4) 107 [.inr (.inr 4)] σ Φ := by
  refine k107 hq.G hq.W (fun σ2 f hG => ?_)
  obtain ⟨p, hq2⟩ := hq.cls hw f hG ⟨hq.W.2.1 b rfl, hq.W.2⟩
  exact k σ2 p hq2
/-- least width, same -/
def ll_nb (σ : pe_H) (N M : Nat) : Prop := pe_n σ ≤ N ∧ pe_u σ ≤ M
theorem ll_nb.z (hb : ll_nb σ N M) (hf : ll_fz Z 0 0 σ g σ' g') : ll_nb σ' N M := ⟨by have := hf.1.1.2.1; have := hb.1; omega, by have := hf.1.1.2.2; have := hb.2; omega⟩
theorem k172_8 {mm : Int} (hq : ll_Q T U σ g a a (some a) h) (hb : ll_nb σ N M) (hm : 0 ≤ mm ∧ mm ≤ 60) (k : ∀ σ', ll_nb σ' (N + 8) (M + 48) → Φ (some (.inl 1)) σ') : ∀ (m : Nat) (w : Int) (σ1 : pe_H) (o1 o2 o3 o4 o5 o9 o10 : Option pe_V), w + m = 9 → 1 ≤ w → (pa_lwN a mm 8 1 < 0 ∨ w ≤ pa_lwN a mm 8 1 + 1) → ll_nb σ1 N M → ll_Q T U σ1 g a a (some a) h → pe_X (d + 18) 172 (1246, [some (.inr (.inr 3)), o1, o2, o3, o4, o5, some (.inl mm), some (.inl (pa_lwN a mm 8 1)), some (.inl w), o9, o10], [], σ1) Φ := by
  have hwf := hq.W.1.1
  have hw9 := hwf.1.w9
  have h8 := hwf.1.1
  have h5 := hwf.1.2.1
  have h6 := hq.W.1.2
  have hlw := ll_lwN a mm 8 1
  have hlb : -4 ≤ pa_lwN a mm 8 1 ∧ pa_lwN a mm 8 1 ≤ 8 := by
    rcases hlw with ⟨e, -⟩ | ⟨j, e1, e2, -⟩ <;> omega
  have last : ∀ (σ1 : pe_H) (o1 o2 o3 o4 o5 o6 o7 o8 o9 o10 : Option pe_V), ll_nb σ1 N M → ll_Q T U σ1 g a a (some a) h → pe_X (d + 18) 172 (1381, [some (.inr (.inr 3)), o1, o2, o3, o4, o5, o6, o7, o8, o9, o10], [], σ1) Φ := fun σ1 o1 o2 o3 o4 o5 o6 o7 o8 o9 o10 hb1 hq1 => by
    have hL1 := hq1.R.L
    refine b172_1381 (k := ?_)
    refine pe_M.up (k171 (d := 0) hq1 (fun σ2 g2 p2 => ?_)) (by omega)
    have hR2 := hq1.R.fr hw9 p2 (fun _ h => h.elim)
    have hL2 := hR2.L
    refine b172_1385 (k := ?_)
    exact k σ2 ⟨by have := p2.1.1.2.1; have := hb1.1; omega, by have := p2.1.1.2.2.1; have := hb1.2; omega⟩
  intro m
  induction m with
  | zero =>
    intro w σ1 o1 o2 o3 o4 o5 o9 o10 hw hw1 hlw' hb1 hq1
    have hL1 := hq1.R.L
    refine b172_1246 (k1 := fun _ => ?_) (k2 := fun r => by omega)
    exact last σ1 _ _ _ _ _ _ _ _ _ _ hb1 hq1
  | succ m ih =>
    intro w σ1 o1 o2 o3 o4 o5 o9 o10 hw hw1 hlw' hb1 hq1
    have hL1 := hq1.R.L
    have go : (pa_lwN a mm 8 1 < 0 ∨ w ≤ pa_lwN a mm 8 1) → pe_X (d + 18) 172 (1265, [some (.inr (.inr 3)), o1, o2, o3, o4, o5, some (.inl mm), some (.inl (pa_lwN a mm 8 1)), some (.inl w), o9, o10], [], σ1) Φ := fun hle => by
      -- all are ended just at the least
      have hall : pb_c (pa_bits (pa_isEnd (pa_lwR a mm w)) ((pa_lwR a mm w).1 4).toNat) = (pa_lwR a mm w).1 4 ↔ w = pa_lwN a mm 8 1 := by
        have ew : (1 : Int) + ((w - 1).toNat : Nat) = w := by omega
        rcases hlw with ⟨e1, e2⟩ | ⟨j, e1, e2, e3, e4⟩
        · have := e2 (w - 1).toNat (by omega)
          rw [ew] at this
          exact ⟨fun q => absurd q this, fun q => by omega⟩
        · by_cases e : w = pa_lwN a mm 8 1
          · have ej : (1 : Int) + (j : Int) = w := by omega
            rw [ej] at e3
            exact ⟨fun _ => e, fun _ => e3⟩
          · have := e4 (w - 1).toNat (by omega)
            rw [ew] at this
            exact ⟨fun q => absurd q this, fun q => absurd q e⟩
      have hww := pa_wid_wf hwf hw1 (by omega : w ≤ 8)
      have hRw := pa_rounds_wf mm.toNat (pa_wid a w) hww
      have h4R : (pa_lwR a mm w).1 4 = a.1 4 := (pa_rounds4 _ _ hww).trans (by simp [pa_wid, pa_s])
      rw [pb_c_bits _ _ (by rw [h4R]; omega), h4R] at hall
      refine b172_1265 (k := ?_)
      refine pe_M.up (q89 (d := 0) hq1 hw9 hw1 (by omega) (fun σ2 p2 hq2 => ?_)) (by omega)
      have hb2 := hb1.z p2
      have hL2 := hq2.R.L
      have e34 := hq2.R.2.1.2.1
      refine b172_1274 (w0 := by rw [e34]; unfold pe_in; omega) (k1 := fun _ => ?_) (k2 := fun r => by omega)
      refine b172_1283 (k := ?_)
      have h4w : (pa_wid a w).1 4 = a.1 4 := by simp [pa_wid, pa_s]
      have loop : ∀ (m i : Nat) (σ3 : pe_H), (i : Int) + m = a.1 4 → ll_nb σ3 N M → ll_Q T U σ3 g a (pa_wid a w) (some a) h → pe_X (d + 18) 172 (1289, [some (.inr (.inr 3)), o1, o2, o3, o4, o5, some (.inl mm), some (.inl (pa_lwN a mm 8 1)), some (.inl w), some (.inl (pa_cnt (pa_isEnd (pa_lwR a mm w)) i)), some (.inl (i : Int))], [], σ3) Φ := by
        intro m'
        induction m' with
        | zero =>
          intro i σ3 hi hb3 hq3
          have hL3 := hq3.R.L
          have e33 := hq3.R.mn
          have hcb := pa_cnt_b (pa_isEnd (pa_lwR a mm w)) i
          refine b172_1289 (w0 := by rw [e33]; unfold pe_in; omega) (k1 := fun _ => ?_) (k2 := fun r => by omega)
          have fin : ∀ (z : Int) o10, ((z = 1 ∧ w = pa_lwN a mm 8 1) ∨ (z = 0 ∧ ¬ w = pa_lwN a mm 8 1)) → pe_X (d + 18) 172 (1344, [some (.inr (.inr 3)), o1, o2, o3, o4, o5, some (.inl mm), some (.inl (pa_lwN a mm 8 1)), some (.inl w), some (.inl (pa_cnt (pa_isEnd (pa_lwR a mm w)) i)), o10], [.inl z], σ3) Φ := fun z o10 hz => by
            have rest : ∀ o10, pe_X (d + 18) 172 (1359, [some (.inr (.inr 3)), o1, o2, o3, o4, o5, some (.inl mm), some (.inl (pa_lwN a mm 8 1)), some (.inl w), some (.inl (pa_cnt (pa_isEnd (pa_lwR a mm w)) i)), o10], [], σ3) Φ := fun o10 => by
              refine b172_1359 (k := ?_)
              refine pe_M.up (q107 (d := 0) hq3 hw9 (fun σ4 p4 hq4 => ?_)) (by omega)
              have hL4 := hq4.R.L
              have e35 := hq4.R.2.1.2.2
              refine b172_1366 (w0 := by rw [e35]; unfold pe_in; omega) (k1 := fun _ => ?_) (k2 := fun r => by omega)
              refine b172_1375 (k := ?_)
              exact ih (w + 1) σ4 _ _ _ _ _ _ _ (by omega) (by omega) (by omega) (hb3.z p4) hq4
            rcases hz with ⟨rfl, e⟩ | ⟨rfl, e⟩
            · refine b172_1344 (k1 := fun r => by omega) (k2 := fun _ => ?_)
              refine b172_1351 (k := ?_)
              refine b172_1356 (k1 := fun r => by omega) (k2 := fun _ => ?_)
              exact rest _
            · refine b172_1344 (k1 := fun _ => ?_) (k2 := fun r => by omega)
              refine b172_1355 (k := ?_)
              refine b172_1356 (k1 := fun r => by omega) (k2 := fun _ => ?_)
              exact rest _
          have hi' : (i : Int) = a.1 4 := by omega
          have hti : (a.1 4).toNat = i := by omega
          rw [hti, ← hi'] at hall
          refine b172_1330 (w0 := by rw [e33]; unfold pe_in; omega) (k1 := fun r1 => ?_) (k2 := fun r1 => ?_)
          · refine b172_1343 (k := ?_)
            exact fin 0 _ (Or.inr ⟨rfl, fun e => by have := hall.mpr e; omega⟩)
          · refine b172_1339 (k := ?_)
            exact fin 1 _ (Or.inl ⟨rfl, hall.mp (by omega)⟩)
        | succ m' ih' =>
          intro i σ3 hi hb3 hq3
          have hL3 := hq3.R.L
          have e33 := hq3.R.mn
          have hcb := pa_cnt_b (pa_isEnd (pa_lwR a mm w)) i
          refine b172_1289 (w0 := by rw [e33]; unfold pe_in; omega) (k1 := fun r => by omega) (k2 := fun _ => ?_)
          refine b172_1298 (k := ?_)
          refine pe_M.up (q91 (d := 0) hq3 hw9 (by omega) (by rw [h4w]; omega) hm.1 hm.2 (by decide) (by decide) (fun σ4 p4 hq4 => ?_)) (by omega)
          have hL4 := hq4.R.L
          have hst : pa_of ((pa_rounds mm.toNat (pa_wid a w)).2.1 (i : Int)) 0 = ((pa_lwR a mm w).2.1 i).1 2 := rfl
          rw [hst]
          have hb2' := (hRw.1.2.2.1 (i : Int) (by omega) (by have := h4R; unfold pa_lwR at this; omega)).1.2.1
          have hb2'' : 0 ≤ ((pa_lwR a mm w).2.1 (i : Int)).1 2 ∧ ((pa_lwR a mm w).2.1 (i : Int)).1 2 ≤ 8 := hb2'
          have hnx := ih' (i + 1) σ4 (by push_cast; omega) (hb3.z p4) hq4
          refine b172_1312 (k1 := fun r1 => ?_) (k2 := fun r1 => ?_)
          · refine b172_1320 (k := ?_)
            refine b172_1321 (k := ?_)
            rw [pa_cnt, show pa_isEnd (pa_lwR a mm w) (i : Int) = false from by unfold pa_isEnd; simp; omega, if_neg (by simp)] at hnx
            exact hnx
          · refine b172_1316 (k := ?_)
            refine b172_1321 (k := ?_)
            rw [pa_cnt, show pa_isEnd (pa_lwR a mm w) (i : Int) = true from by unfold pa_isEnd; simp; omega, if_pos rfl] at hnx
            exact hnx
      exact loop (a.1 4).toNat 0 σ2 (by omega) hb2 hq2
    refine b172_1246 (k1 := fun r => by omega) (k2 := fun _ => ?_)
    refine b172_1253 (k1 := fun r1 => ?_) (k2 := fun r1 => ?_)
    · exact go (Or.inl r1)
    · refine b172_1258 (k1 := fun r2 => ?_) (k2 := fun r2 => ?_)
      · exact last σ1 _ _ _ _ _ _ _ _ _ _ hb1 hq1
      · exact go (Or.inr (by omega))
end
