/-! THE MODEL: all of its state carried to and fro -/
theorem pm_ok_k {kq k : Nat} {j : Int} (hkq : 27 ≤ kq) (h1 : 1 ≤ k) (h2 : k ≤ 26) : pm_ok kq (k, j) := ⟨by show k ≠ kq; omega, fun e => by have : k = 0 := e.1; omega⟩
theorem pm_ok_0 {kq : Nat} {j : Int} (hkq : 27 ≤ kq) (h1 : j ≠ 51) (h2 : j ≠ 52) : pm_ok kq (0, j) := ⟨by show 0 ≠ kq; omega, fun e => by have := e.2; dsimp only at this; omega⟩
theorem pm_ok_app {kq : Nat} {l : List (Nat × Int)} {x : Nat × Int} (h : ∀ c ∈ l, pm_ok kq c) (hx : pm_ok kq x) : ∀ c ∈ l ++ [x], pm_ok kq c := fun c hc => by
  rcases List.mem_append.mp hc with e | e
  · exact h c e
  · rw [List.mem_singleton.mp e]; exact hx
theorem pm_ok_sg {kq n : Nat} {l : List (Nat × Int)} {g : Int → List (Nat × Int)} (hg : ∀ i, ∀ c ∈ g i, pm_ok kq c) (h : ∀ c ∈ l, pm_ok kq c) : ∀ c ∈ l ++ pm_sg n g, pm_ok kq c := fun c hc => by
  rcases List.mem_append.mp hc with e | e
  · exact h c e
  · obtain ⟨i, -, hi⟩ := pm_sg_mem.mp e
    exact hg _ c hi

def pm_gA (i : Int) : List (Nat × Int) := [(15, i), (16, i), (17, i), (18, i), (19, i), (20, i), (26, i)]
theorem pm_gA_ok {kq : Nat} (hkq : 27 ≤ kq) : ∀ i, ∀ c ∈ pm_gA i, pm_ok kq c := fun i c hc => by
  unfold pm_gA at hc
  simp only [List.mem_cons, List.not_mem_nil, or_false] at hc
  rcases hc with rfl | rfl | rfl | rfl | rfl | rfl | rfl <;> exact pm_ok_k (by omega) (by decide) (by decide)
def pm_gB (i : Int) : List (Nat × Int) := [(21, i), (22, i)]
theorem pm_gB_ok {kq : Nat} (hkq : 27 ≤ kq) : ∀ i, ∀ c ∈ pm_gB i, pm_ok kq c := fun i c hc => by
  unfold pm_gB at hc
  simp only [List.mem_cons, List.not_mem_nil, or_false] at hc
  rcases hc with rfl | rfl <;> exact pm_ok_k (by omega) (by decide) (by decide)
def pm_gC (i : Int) : List (Nat × Int) := [(24, i)]
theorem pm_gC_ok {kq : Nat} (hkq : 27 ≤ kq) : ∀ i, ∀ c ∈ pm_gC i, pm_ok kq c := fun i c hc => by
  unfold pm_gC at hc
  simp only [List.mem_cons, List.not_mem_nil, or_false] at hc
  subst hc; exact pm_ok_k (by omega) (by decide) (by decide)
def pm_gD (i : Int) : List (Nat × Int) := [(1, i)]
theorem pm_gD_ok {kq : Nat} (hkq : 27 ≤ kq) : ∀ i, ∀ c ∈ pm_gD i, pm_ok kq c := fun i c hc => by
  unfold pm_gD at hc
  simp only [List.mem_cons, List.not_mem_nil, or_false] at hc
  subst hc; exact pm_ok_k (by omega) (by decide) (by decide)
def pm_gE (i : Int) : List (Nat × Int) := [(2, i), (3, i)]
theorem pm_gE_ok {kq : Nat} (hkq : 27 ≤ kq) : ∀ i, ∀ c ∈ pm_gE i, pm_ok kq c := fun i c hc => by
  unfold pm_gE at hc
  simp only [List.mem_cons, List.not_mem_nil, or_false] at hc
  rcases hc with rfl | rfl <;> exact pm_ok_k (by omega) (by decide) (by decide)
def pm_gF (i : Int) : List (Nat × Int) := [(4, i), (5, i), (6, i), (7, i), (8, i), (9, i), (10, i), (11, i), (12, i), (13, i), (14, i)]
theorem pm_gF_ok {kq : Nat} (hkq : 27 ≤ kq) : ∀ i, ∀ c ∈ pm_gF i, pm_ok kq c := fun i c hc => by
  unfold pm_gF at hc
  simp only [List.mem_cons, List.not_mem_nil, or_false] at hc
  rcases hc with rfl | rfl | rfl | rfl | rfl | rfl | rfl | rfl | rfl | rfl | rfl <;> exact pm_ok_k (by omega) (by decide) (by decide)
def pm_gG (i : Int) : List (Nat × Int) := [(25, i)]
theorem pm_gG_ok {kq : Nat} (hkq : 27 ≤ kq) : ∀ i, ∀ c ∈ pm_gG i, pm_ok kq c := fun i c hc => by
  unfold pm_gG at hc
  simp only [List.mem_cons, List.not_mem_nil, or_false] at hc
  subst hc; exact pm_ok_k (by omega) (by decide) (by decide)
section
variable {d M q : Nat} {Φ : Option pe_V → pe_H → Prop} {σ : pe_H} {y y1 y2 : Nat → Int → Int} {t : Bool} {kq : Nat} {A : List (Nat × Int)}
theorem c185_A (hF : pm_F M σ) (hkq : kq = 38 ∨ kq = 39) (h51 : y1 0 51 = 0) (h52 : y1 0 52 = if t = true then 1 else 0) (hA : ∀ c ∈ A, pm_ok kq c) (hAl : A.length + 336 < 3200) (k : pe_X (d + 1) 185 (126, [some (.inr (.inr M)), some (.inl 48)], [], pm_h M σ (M + kq) (pm_cr t kq (A ++ pm_sg 48 pm_gA) y1)) Φ) : pe_X (d + 1) 185 (2, [some (.inr (.inr M)), some (.inl 0)], [], pm_h M σ (M + kq) (pm_cr t kq A y1)) Φ := by
  have loop : ∀ (m i : Nat), i + m = 48 → pe_X (d + 1) 185 (2, [some (.inr (.inr M)), some (.inl (i : Int))], [], pm_h M σ (M + kq) (pm_cr t kq (A ++ pm_sg i pm_gA) y1)) Φ := by
    intro m
    induction m with
    | zero =>
      intro i hi
      have e : i = 48 := by omega
      subst e
      refine b185_2 hF (k1 := fun _ => ?_) (k2 := fun r => by omega)
      exact k
    | succ m ih =>
      intro i hi
      have hl : (A ++ pm_sg i pm_gA).length = A.length + i * 7 := by rw [List.length_append, pm_sg_len (m := 7) (fun _ => rfl)]
      have h0 := pm_ok_sg (n := i) (pm_gA_ok (by omega)) hA
      have hs : A ++ pm_sg (i + 1) pm_gA = A ++ pm_sg i pm_gA ++ [(15, (i : Int))] ++ [(16, (i : Int))] ++ [(17, (i : Int))] ++ [(18, (i : Int))] ++ [(19, (i : Int))] ++ [(20, (i : Int))] ++ [(26, (i : Int))] := by rw [pm_sg_s, ← List.append_assoc]; simp [pm_gA]
      generalize A ++ pm_sg i pm_gA = L at *
      refine b185_2 hF (k1 := fun r => by omega) (k2 := fun _ => ?_)
      have h1 := pm_ok_app h0 (pm_ok_k (k := 15) (j := (i : Int)) (by omega) (by decide) (by decide))
      refine b185_8 hF (k := ?_)
      refine c184 hF hkq h51 h52 (by omega) h0 (pm_ok_k (by omega) (by decide) (by decide)) (fun r0 z0 e0 => ?_)
      have h2 := pm_ok_app h1 (pm_ok_k (k := 16) (j := (i : Int)) (by omega) (by decide) (by decide))
      refine b185_23 hF (k := ?_)
      refine c184n hF hkq h51 h52 e0 (fun e => by have := e.1; omega) (by simp only [List.length_append, List.length_singleton]; omega) h1 (pm_ok_k (by omega) (by decide) (by decide)) (fun r1 z1 e1 => ?_)
      have h3 := pm_ok_app h2 (pm_ok_k (k := 17) (j := (i : Int)) (by omega) (by decide) (by decide))
      refine b185_39 hF (k := ?_)
      refine c184n hF hkq h51 h52 e1 (fun e => by have := e.1; omega) (by simp only [List.length_append, List.length_singleton]; omega) h2 (pm_ok_k (by omega) (by decide) (by decide)) (fun r2 z2 e2 => ?_)
      have h4 := pm_ok_app h3 (pm_ok_k (k := 18) (j := (i : Int)) (by omega) (by decide) (by decide))
      refine b185_55 hF (k := ?_)
      refine c184n hF hkq h51 h52 e2 (fun e => by have := e.1; omega) (by simp only [List.length_append, List.length_singleton]; omega) h3 (pm_ok_k (by omega) (by decide) (by decide)) (fun r3 z3 e3 => ?_)
      have h5 := pm_ok_app h4 (pm_ok_k (k := 19) (j := (i : Int)) (by omega) (by decide) (by decide))
      refine b185_71 hF (k := ?_)
      refine c184n hF hkq h51 h52 e3 (fun e => by have := e.1; omega) (by simp only [List.length_append, List.length_singleton]; omega) h4 (pm_ok_k (by omega) (by decide) (by decide)) (fun r4 z4 e4 => ?_)
      have h6 := pm_ok_app h5 (pm_ok_k (k := 20) (j := (i : Int)) (by omega) (by decide) (by decide))
      refine b185_87 hF (k := ?_)
      refine c184n hF hkq h51 h52 e4 (fun e => by have := e.1; omega) (by simp only [List.length_append, List.length_singleton]; omega) h5 (pm_ok_k (by omega) (by decide) (by decide)) (fun r5 z5 e5 => ?_)
      have h7 := pm_ok_app h6 (pm_ok_k (k := 26) (j := (i : Int)) (by omega) (by decide) (by decide))
      refine b185_103 hF (k := ?_)
      refine c184n hF hkq h51 h52 e5 (fun e => by have := e.1; omega) (by simp only [List.length_append, List.length_singleton]; omega) h6 (pm_ok_k (by omega) (by decide) (by decide)) (fun r6 z6 e6 => ?_)
      refine b185_119 hF (k := ?_)
      rw [e6]
      have := ih (i + 1) (by omega)
      rw [hs] at this
      exact this
  have := loop 48 0 (by omega)
  rw [pm_sg_0, List.append_nil] at this
  exact this
theorem c185_B (hF : pm_F M σ) (hkq : kq = 38 ∨ kq = 39) (h51 : y1 0 51 = 0) (h52 : y1 0 52 = if t = true then 1 else 0) (hA : ∀ c ∈ A, pm_ok kq c) (hAl : A.length + 1536 < 3200) (k : pe_X (d + 1) 185 (173, [some (.inr (.inr M)), some (.inl 768)], [], pm_h M σ (M + kq) (pm_cr t kq (A ++ pm_sg 768 pm_gB) y1)) Φ) : pe_X (d + 1) 185 (128, [some (.inr (.inr M)), some (.inl 0)], [], pm_h M σ (M + kq) (pm_cr t kq A y1)) Φ := by
  have loop : ∀ (m i : Nat), i + m = 768 → pe_X (d + 1) 185 (128, [some (.inr (.inr M)), some (.inl (i : Int))], [], pm_h M σ (M + kq) (pm_cr t kq (A ++ pm_sg i pm_gB) y1)) Φ := by
    intro m
    induction m with
    | zero =>
      intro i hi
      have e : i = 768 := by omega
      subst e
      refine b185_128 hF (k1 := fun _ => ?_) (k2 := fun r => by omega)
      exact k
    | succ m ih =>
      intro i hi
      have hl : (A ++ pm_sg i pm_gB).length = A.length + i * 2 := by rw [List.length_append, pm_sg_len (m := 2) (fun _ => rfl)]
      have h0 := pm_ok_sg (n := i) (pm_gB_ok (by omega)) hA
      have hs : A ++ pm_sg (i + 1) pm_gB = A ++ pm_sg i pm_gB ++ [(21, (i : Int))] ++ [(22, (i : Int))] := by rw [pm_sg_s, ← List.append_assoc]; simp [pm_gB]
      generalize A ++ pm_sg i pm_gB = L at *
      refine b185_128 hF (k1 := fun r => by omega) (k2 := fun _ => ?_)
      have h1 := pm_ok_app h0 (pm_ok_k (k := 21) (j := (i : Int)) (by omega) (by decide) (by decide))
      refine b185_135 hF (k := ?_)
      refine c184 hF hkq h51 h52 (by omega) h0 (pm_ok_k (by omega) (by decide) (by decide)) (fun r0 z0 e0 => ?_)
      have h2 := pm_ok_app h1 (pm_ok_k (k := 22) (j := (i : Int)) (by omega) (by decide) (by decide))
      refine b185_150 hF (k := ?_)
      refine c184n hF hkq h51 h52 e0 (fun e => by have := e.1; omega) (by simp only [List.length_append, List.length_singleton]; omega) h1 (pm_ok_k (by omega) (by decide) (by decide)) (fun r1 z1 e1 => ?_)
      refine b185_166 hF (k := ?_)
      rw [e1]
      have := ih (i + 1) (by omega)
      rw [hs] at this
      exact this
  have := loop 768 0 (by omega)
  rw [pm_sg_0, List.append_nil] at this
  exact this
theorem c185_C (hF : pm_F M σ) (hkq : kq = 38 ∨ kq = 39) (h51 : y1 0 51 = 0) (h52 : y1 0 52 = if t = true then 1 else 0) (hA : ∀ c ∈ A, pm_ok kq c) (hAl : A.length + 600 < 3200) (k : pe_X (d + 1) 185 (204, [some (.inr (.inr M)), some (.inl 600)], [], pm_h M σ (M + kq) (pm_cr t kq (A ++ pm_sg 600 pm_gC) y1)) Φ) : pe_X (d + 1) 185 (175, [some (.inr (.inr M)), some (.inl 0)], [], pm_h M σ (M + kq) (pm_cr t kq A y1)) Φ := by
  have loop : ∀ (m i : Nat), i + m = 600 → pe_X (d + 1) 185 (175, [some (.inr (.inr M)), some (.inl (i : Int))], [], pm_h M σ (M + kq) (pm_cr t kq (A ++ pm_sg i pm_gC) y1)) Φ := by
    intro m
    induction m with
    | zero =>
      intro i hi
      have e : i = 600 := by omega
      subst e
      refine b185_175 hF (k1 := fun _ => ?_) (k2 := fun r => by omega)
      exact k
    | succ m ih =>
      intro i hi
      have hl : (A ++ pm_sg i pm_gC).length = A.length + i * 1 := by rw [List.length_append, pm_sg_len (m := 1) (fun _ => rfl)]
      have h0 := pm_ok_sg (n := i) (pm_gC_ok (by omega)) hA
      have hs : A ++ pm_sg (i + 1) pm_gC = A ++ pm_sg i pm_gC ++ [(24, (i : Int))] := by rw [pm_sg_s, ← List.append_assoc]; simp [pm_gC]
      generalize A ++ pm_sg i pm_gC = L at *
      refine b185_175 hF (k1 := fun r => by omega) (k2 := fun _ => ?_)
      have h1 := pm_ok_app h0 (pm_ok_k (k := 24) (j := (i : Int)) (by omega) (by decide) (by decide))
      refine b185_182 hF (k := ?_)
      refine c184 hF hkq h51 h52 (by omega) h0 (pm_ok_k (by omega) (by decide) (by decide)) (fun r0 z0 e0 => ?_)
      refine b185_197 hF (k := ?_)
      rw [e0]
      have := ih (i + 1) (by omega)
      rw [hs] at this
      exact this
  have := loop 600 0 (by omega)
  rw [pm_sg_0, List.append_nil] at this
  exact this
theorem c186_D {o1 : Option pe_V} (hF : pm_F M σ) (hkq : kq = 38 ∨ kq = 39) (h51 : y1 0 51 = 0) (h52 : y1 0 52 = if t = true then 1 else 0) (hA : ∀ c ∈ A, pm_ok kq c) (hAl : A.length + 5 < 3200) (o2 : Option pe_V) (k : ∀ o2, pe_X (d + 1) 186 (92, [some (.inr (.inr M)), o1, o2, some (.inl 5)], [], pm_h M σ (M + kq) (pm_cr t kq (A ++ pm_sg 5 pm_gD) y1)) Φ) : pe_X (d + 1) 186 (65, [some (.inr (.inr M)), o1, o2, some (.inl 0)], [], pm_h M σ (M + kq) (pm_cr t kq A y1)) Φ := by
  have loop : ∀ (m i : Nat) (o2 : Option pe_V), i + m = 5 → pe_X (d + 1) 186 (65, [some (.inr (.inr M)), o1, o2, some (.inl (i : Int))], [], pm_h M σ (M + kq) (pm_cr t kq (A ++ pm_sg i pm_gD) y1)) Φ := by
    intro m
    induction m with
    | zero =>
      intro i o2 hi
      have e : i = 5 := by omega
      subst e
      refine b186_65 hF (k1 := fun _ => ?_) (k2 := fun r => by omega)
      exact k _
    | succ m ih =>
      intro i o2 hi
      have hl : (A ++ pm_sg i pm_gD).length = A.length + i * 1 := by rw [List.length_append, pm_sg_len (m := 1) (fun _ => rfl)]
      have h0 := pm_ok_sg (n := i) (pm_gD_ok (by omega)) hA
      have hs : A ++ pm_sg (i + 1) pm_gD = A ++ pm_sg i pm_gD ++ [(1, (i : Int))] := by rw [pm_sg_s, ← List.append_assoc]; simp [pm_gD]
      generalize A ++ pm_sg i pm_gD = L at *
      refine b186_65 hF (k1 := fun r => by omega) (k2 := fun _ => ?_)
      have h1 := pm_ok_app h0 (pm_ok_k (k := 1) (j := (i : Int)) (by omega) (by decide) (by decide))
      refine b186_70 hF (k := ?_)
      refine c184 hF hkq h51 h52 (by omega) h0 (pm_ok_k (by omega) (by decide) (by decide)) (fun r0 z0 e0 => ?_)
      refine b186_85 hF (k := ?_)
      rw [e0]
      have := ih (i + 1) (pe_nl o2) (by omega)
      rw [hs] at this
      exact this
  have := loop 5 0 o2 (by omega)
  rw [pm_sg_0, List.append_nil] at this
  exact this
theorem c186_E {o1 : Option pe_V} (hF : pm_F M σ) (hkq : kq = 38 ∨ kq = 39) (h51 : y1 0 51 = 0) (h52 : y1 0 52 = if t = true then 1 else 0) (hA : ∀ c ∈ A, pm_ok kq c) (hAl : A.length + 160 < 3200) (o2 : Option pe_V) (k : ∀ o2, pe_X (d + 1) 186 (138, [some (.inr (.inr M)), o1, o2, some (.inl 80)], [], pm_h M σ (M + kq) (pm_cr t kq (A ++ pm_sg 80 pm_gE) y1)) Φ) : pe_X (d + 1) 186 (94, [some (.inr (.inr M)), o1, o2, some (.inl 0)], [], pm_h M σ (M + kq) (pm_cr t kq A y1)) Φ := by
  have loop : ∀ (m i : Nat) (o2 : Option pe_V), i + m = 80 → pe_X (d + 1) 186 (94, [some (.inr (.inr M)), o1, o2, some (.inl (i : Int))], [], pm_h M σ (M + kq) (pm_cr t kq (A ++ pm_sg i pm_gE) y1)) Φ := by
    intro m
    induction m with
    | zero =>
      intro i o2 hi
      have e : i = 80 := by omega
      subst e
      refine b186_94 hF (k1 := fun _ => ?_) (k2 := fun r => by omega)
      exact k _
    | succ m ih =>
      intro i o2 hi
      have hl : (A ++ pm_sg i pm_gE).length = A.length + i * 2 := by rw [List.length_append, pm_sg_len (m := 2) (fun _ => rfl)]
      have h0 := pm_ok_sg (n := i) (pm_gE_ok (by omega)) hA
      have hs : A ++ pm_sg (i + 1) pm_gE = A ++ pm_sg i pm_gE ++ [(2, (i : Int))] ++ [(3, (i : Int))] := by rw [pm_sg_s, ← List.append_assoc]; simp [pm_gE]
      generalize A ++ pm_sg i pm_gE = L at *
      refine b186_94 hF (k1 := fun r => by omega) (k2 := fun _ => ?_)
      have h1 := pm_ok_app h0 (pm_ok_k (k := 2) (j := (i : Int)) (by omega) (by decide) (by decide))
      refine b186_100 hF (k := ?_)
      refine c184 hF hkq h51 h52 (by omega) h0 (pm_ok_k (by omega) (by decide) (by decide)) (fun r0 z0 e0 => ?_)
      have h2 := pm_ok_app h1 (pm_ok_k (k := 3) (j := (i : Int)) (by omega) (by decide) (by decide))
      refine b186_115 hF (k := ?_)
      refine c184n hF hkq h51 h52 e0 (fun e => by have := e.1; omega) (by simp only [List.length_append, List.length_singleton]; omega) h1 (pm_ok_k (by omega) (by decide) (by decide)) (fun r1 z1 e1 => ?_)
      refine b186_131 hF (k := ?_)
      rw [e1]
      have := ih (i + 1) (pe_nl o2) (by omega)
      rw [hs] at this
      exact this
  have := loop 80 0 o2 (by omega)
  rw [pm_sg_0, List.append_nil] at this
  exact this
theorem c186_F {o1 : Option pe_V} (hF : pm_F M σ) (hkq : kq = 38 ∨ kq = 39) (h51 : y1 0 51 = 0) (h52 : y1 0 52 = if t = true then 1 else 0) (hA : ∀ c ∈ A, pm_ok kq c) (hAl : A.length + 88 < 3200) (o2 : Option pe_V) (k : ∀ o2, pe_X (d + 1) 186 (328, [some (.inr (.inr M)), o1, o2, some (.inl 8)], [], pm_h M σ (M + kq) (pm_cr t kq (A ++ pm_sg 8 pm_gF) y1)) Φ) : pe_X (d + 1) 186 (140, [some (.inr (.inr M)), o1, o2, some (.inl 0)], [], pm_h M σ (M + kq) (pm_cr t kq A y1)) Φ := by
  have loop : ∀ (m i : Nat) (o2 : Option pe_V), i + m = 8 → pe_X (d + 1) 186 (140, [some (.inr (.inr M)), o1, o2, some (.inl (i : Int))], [], pm_h M σ (M + kq) (pm_cr t kq (A ++ pm_sg i pm_gF) y1)) Φ := by
    intro m
    induction m with
    | zero =>
      intro i o2 hi
      have e : i = 8 := by omega
      subst e
      refine b186_140 hF (k1 := fun _ => ?_) (k2 := fun r => by omega)
      exact k _
    | succ m ih =>
      intro i o2 hi
      have hl : (A ++ pm_sg i pm_gF).length = A.length + i * 11 := by rw [List.length_append, pm_sg_len (m := 11) (fun _ => rfl)]
      have h0 := pm_ok_sg (n := i) (pm_gF_ok (by omega)) hA
      have hs : A ++ pm_sg (i + 1) pm_gF = A ++ pm_sg i pm_gF ++ [(4, (i : Int))] ++ [(5, (i : Int))] ++ [(6, (i : Int))] ++ [(7, (i : Int))] ++ [(8, (i : Int))] ++ [(9, (i : Int))] ++ [(10, (i : Int))] ++ [(11, (i : Int))] ++ [(12, (i : Int))] ++ [(13, (i : Int))] ++ [(14, (i : Int))] := by rw [pm_sg_s, ← List.append_assoc]; simp [pm_gF]
      generalize A ++ pm_sg i pm_gF = L at *
      refine b186_140 hF (k1 := fun r => by omega) (k2 := fun _ => ?_)
      have h1 := pm_ok_app h0 (pm_ok_k (k := 4) (j := (i : Int)) (by omega) (by decide) (by decide))
      refine b186_146 hF (k := ?_)
      refine c184 hF hkq h51 h52 (by omega) h0 (pm_ok_k (by omega) (by decide) (by decide)) (fun r0 z0 e0 => ?_)
      have h2 := pm_ok_app h1 (pm_ok_k (k := 5) (j := (i : Int)) (by omega) (by decide) (by decide))
      refine b186_161 hF (k := ?_)
      refine c184n hF hkq h51 h52 e0 (fun e => by have := e.1; omega) (by simp only [List.length_append, List.length_singleton]; omega) h1 (pm_ok_k (by omega) (by decide) (by decide)) (fun r1 z1 e1 => ?_)
      have h3 := pm_ok_app h2 (pm_ok_k (k := 6) (j := (i : Int)) (by omega) (by decide) (by decide))
      refine b186_177 hF (k := ?_)
      refine c184n hF hkq h51 h52 e1 (fun e => by have := e.1; omega) (by simp only [List.length_append, List.length_singleton]; omega) h2 (pm_ok_k (by omega) (by decide) (by decide)) (fun r2 z2 e2 => ?_)
      have h4 := pm_ok_app h3 (pm_ok_k (k := 7) (j := (i : Int)) (by omega) (by decide) (by decide))
      refine b186_193 hF (k := ?_)
      refine c184n hF hkq h51 h52 e2 (fun e => by have := e.1; omega) (by simp only [List.length_append, List.length_singleton]; omega) h3 (pm_ok_k (by omega) (by decide) (by decide)) (fun r3 z3 e3 => ?_)
      have h5 := pm_ok_app h4 (pm_ok_k (k := 8) (j := (i : Int)) (by omega) (by decide) (by decide))
      refine b186_209 hF (k := ?_)
      refine c184n hF hkq h51 h52 e3 (fun e => by have := e.1; omega) (by simp only [List.length_append, List.length_singleton]; omega) h4 (pm_ok_k (by omega) (by decide) (by decide)) (fun r4 z4 e4 => ?_)
      have h6 := pm_ok_app h5 (pm_ok_k (k := 9) (j := (i : Int)) (by omega) (by decide) (by decide))
      refine b186_225 hF (k := ?_)
      refine c184n hF hkq h51 h52 e4 (fun e => by have := e.1; omega) (by simp only [List.length_append, List.length_singleton]; omega) h5 (pm_ok_k (by omega) (by decide) (by decide)) (fun r5 z5 e5 => ?_)
      have h7 := pm_ok_app h6 (pm_ok_k (k := 10) (j := (i : Int)) (by omega) (by decide) (by decide))
      refine b186_241 hF (k := ?_)
      refine c184n hF hkq h51 h52 e5 (fun e => by have := e.1; omega) (by simp only [List.length_append, List.length_singleton]; omega) h6 (pm_ok_k (by omega) (by decide) (by decide)) (fun r6 z6 e6 => ?_)
      have h8 := pm_ok_app h7 (pm_ok_k (k := 11) (j := (i : Int)) (by omega) (by decide) (by decide))
      refine b186_257 hF (k := ?_)
      refine c184n hF hkq h51 h52 e6 (fun e => by have := e.1; omega) (by simp only [List.length_append, List.length_singleton]; omega) h7 (pm_ok_k (by omega) (by decide) (by decide)) (fun r7 z7 e7 => ?_)
      have h9 := pm_ok_app h8 (pm_ok_k (k := 12) (j := (i : Int)) (by omega) (by decide) (by decide))
      refine b186_273 hF (k := ?_)
      refine c184n hF hkq h51 h52 e7 (fun e => by have := e.1; omega) (by simp only [List.length_append, List.length_singleton]; omega) h8 (pm_ok_k (by omega) (by decide) (by decide)) (fun r8 z8 e8 => ?_)
      have h10 := pm_ok_app h9 (pm_ok_k (k := 13) (j := (i : Int)) (by omega) (by decide) (by decide))
      refine b186_289 hF (k := ?_)
      refine c184n hF hkq h51 h52 e8 (fun e => by have := e.1; omega) (by simp only [List.length_append, List.length_singleton]; omega) h9 (pm_ok_k (by omega) (by decide) (by decide)) (fun r9 z9 e9 => ?_)
      have h11 := pm_ok_app h10 (pm_ok_k (k := 14) (j := (i : Int)) (by omega) (by decide) (by decide))
      refine b186_305 hF (k := ?_)
      refine c184n hF hkq h51 h52 e9 (fun e => by have := e.1; omega) (by simp only [List.length_append, List.length_singleton]; omega) h10 (pm_ok_k (by omega) (by decide) (by decide)) (fun r10 z10 e10 => ?_)
      refine b186_321 hF (k := ?_)
      rw [e10]
      have := ih (i + 1) (pe_nl o2) (by omega)
      rw [hs] at this
      exact this
  have := loop 8 0 o2 (by omega)
  rw [pm_sg_0, List.append_nil] at this
  exact this
theorem c186_G {o1 : Option pe_V} (hF : pm_F M σ) (hkq : kq = 38 ∨ kq = 39) (h51 : y1 0 51 = 0) (h52 : y1 0 52 = if t = true then 1 else 0) (hA : ∀ c ∈ A, pm_ok kq c) (hAl : A.length + 6 < 3200) (o2 : Option pe_V) (k : ∀ o2, pe_X (d + 1) 186 (358, [some (.inr (.inr M)), o1, o2, some (.inl 6)], [], pm_h M σ (M + kq) (pm_cr t kq (A ++ pm_sg 6 pm_gG) y1)) Φ) : pe_X (d + 1) 186 (330, [some (.inr (.inr M)), o1, o2, some (.inl 0)], [], pm_h M σ (M + kq) (pm_cr t kq A y1)) Φ := by
  have loop : ∀ (m i : Nat) (o2 : Option pe_V), i + m = 6 → pe_X (d + 1) 186 (330, [some (.inr (.inr M)), o1, o2, some (.inl (i : Int))], [], pm_h M σ (M + kq) (pm_cr t kq (A ++ pm_sg i pm_gG) y1)) Φ := by
    intro m
    induction m with
    | zero =>
      intro i o2 hi
      have e : i = 6 := by omega
      subst e
      refine b186_330 hF (k1 := fun _ => ?_) (k2 := fun r => by omega)
      exact k _
    | succ m ih =>
      intro i o2 hi
      have hl : (A ++ pm_sg i pm_gG).length = A.length + i * 1 := by rw [List.length_append, pm_sg_len (m := 1) (fun _ => rfl)]
      have h0 := pm_ok_sg (n := i) (pm_gG_ok (by omega)) hA
      have hs : A ++ pm_sg (i + 1) pm_gG = A ++ pm_sg i pm_gG ++ [(25, (i : Int))] := by rw [pm_sg_s, ← List.append_assoc]; simp [pm_gG]
      generalize A ++ pm_sg i pm_gG = L at *
      refine b186_330 hF (k1 := fun r => by omega) (k2 := fun _ => ?_)
      have h1 := pm_ok_app h0 (pm_ok_k (k := 25) (j := (i : Int)) (by omega) (by decide) (by decide))
      refine b186_336 hF (k := ?_)
      refine c184 hF hkq h51 h52 (by omega) h0 (pm_ok_k (by omega) (by decide) (by decide)) (fun r0 z0 e0 => ?_)
      refine b186_351 hF (k := ?_)
      rw [e0]
      have := ih (i + 1) (pe_nl o2) (by omega)
      rw [hs] at this
      exact this
  have := loop 6 0 o2 (by omega)
  rw [pm_sg_0, List.append_nil] at this
  exact this
/-- carryFrames -/
theorem c185 (hF : pm_F M σ) (hkq : kq = 38 ∨ kq = 39) (h51 : y1 0 51 = 0) (h52 : y1 0 52 = if t = true then 1 else 0) (hA : ∀ c ∈ A, pm_ok kq c) (hAl : A.length < 400) (k : Φ none (pm_h M σ (M + kq) (pm_cr t kq (A ++ pm_sg 48 pm_gA ++ pm_sg 768 pm_gB ++ pm_sg 600 pm_gC) y1))) : pe_M (d + 2) 185 [.inr (.inr M)] (pm_h M σ (M + kq) (pm_cr t kq A y1)) Φ := by
  have l1 : (pm_sg 48 pm_gA).length = 48 * 7 := pm_sg_len (g := pm_gA) (m := 7) (fun _ => rfl) 48
  have l2 : (pm_sg 768 pm_gB).length = 768 * 2 := pm_sg_len (g := pm_gB) (m := 2) (fun _ => rfl) 768
  have o1 := pm_ok_sg (n := 48) (pm_gA_ok (by omega)) hA
  have o2 := pm_ok_sg (n := 768) (pm_gB_ok (by omega)) o1
  refine pe_M_of ck185 (Nat.le_of_ble_eq_true rfl) ?_
  refine b185_0 hF (k := ?_)
  refine c185_A hF hkq h51 h52 hA (by omega) ?_
  refine b185_126 hF (k := ?_)
  refine c185_B hF hkq h51 h52 o1 (by rw [List.length_append]; omega) ?_
  refine b185_173 hF (k := ?_)
  refine c185_C hF hkq h51 h52 o2 (by rw [List.length_append, List.length_append]; omega) ?_
  refine b185_204 hF (k := ?_)
  exact k
def pm_cl : List (Nat × Int) := [] ++ [(0, 3)] ++ [(0, 23)] ++ [(0, 28)] ++ [(0, 29)] ++ pm_sg 5 pm_gD ++ pm_sg 80 pm_gE ++ pm_sg 8 pm_gF ++ pm_sg 6 pm_gG ++ pm_sg 48 pm_gA ++ pm_sg 768 pm_gB ++ pm_sg 600 pm_gC
/-- carryAll -/
theorem c186 (hF : pm_F M σ) (hkq : kq = 38 ∨ kq = 39) (k : Φ none (pm_h M σ (M + kq) (pm_cr t kq pm_cl (pm_u (pm_u y 0 52 (if t = true then 1 else 0)) 0 51 0)))) : pe_M (d + 3) 186 [.inr (.inr M), .inr (.inr (M + kq)), .inl (if t = true then 1 else 0)] (pm_h M σ q y) Φ := by
  have ht : (if t = true then (1 : Int) else 0) = 0 ∨ (if t = true then (1 : Int) else 0) = 1 := by cases t <;> simp
  have h51 : (pm_u (pm_u y 0 52 (if t = true then 1 else 0)) 0 51 0) 0 51 = 0 := pm_us
  have h52 : (pm_u (pm_u y 0 52 (if t = true then 1 else 0)) 0 51 0) 0 52 = if t = true then 1 else 0 := by simp [pm_u]
  refine pe_M_of ck186 (Nat.le_of_ble_eq_true rfl) ?_
  refine b186_0 hF (k := ?_)
  rw [show y 0 3 = (pm_u (pm_u y 0 52 (if t = true then 1 else 0)) 0 51 0) 0 3 by simp [pm_u]]
  generalize pm_u (pm_u y 0 52 (if t = true then 1 else 0)) 0 51 0 = y1 at *
  have h0 : ∀ c ∈ ([] : List (Nat × Int)), pm_ok kq c := fun c hc => by cases hc
  have h1 := pm_ok_app h0 (pm_ok_0 (j := 3) (by omega) (by decide) (by decide))
  have h2 := pm_ok_app h1 (pm_ok_0 (j := 23) (by omega) (by decide) (by decide))
  have h3 := pm_ok_app h2 (pm_ok_0 (j := 28) (by omega) (by decide) (by decide))
  have h4 := pm_ok_app h3 (pm_ok_0 (j := 29) (by omega) (by decide) (by decide))
  have o1 := pm_ok_sg (n := 5) (pm_gD_ok (by omega)) h4
  have o2 := pm_ok_sg (n := 80) (pm_gE_ok (by omega)) o1
  have o3 := pm_ok_sg (n := 8) (pm_gF_ok (by omega)) o2
  have o4 := pm_ok_sg (n := 6) (pm_gG_ok (by omega)) o3
  have l1 : (pm_sg 5 pm_gD).length = 5 * 1 := pm_sg_len (g := pm_gD) (m := 1) (fun _ => rfl) 5
  have l2 : (pm_sg 80 pm_gE).length = 80 * 2 := pm_sg_len (g := pm_gE) (m := 2) (fun _ => rfl) 80
  have l3 : (pm_sg 8 pm_gF).length = 8 * 11 := pm_sg_len (g := pm_gF) (m := 11) (fun _ => rfl) 8
  have l4 : (pm_sg 6 pm_gG).length = 6 * 1 := pm_sg_len (g := pm_gG) (m := 1) (fun _ => rfl) 6
  show pe_M (d + 2) 184 [.inr (.inr M), .inl ((pm_cr t kq [] y1) 0 3)] (pm_h M σ (M + kq) (pm_cr t kq [] y1)) _
  refine pe_M.up (c184 (d := 0) (l := []) (k := 0) (j := 3) hF hkq h51 h52 (by decide) h0 (pm_ok_0 (by omega) (by decide) (by decide)) (fun r0 z0 e0 => ?_)) (by omega)
  refine b186_24 hF (k := ?_)
  refine pe_M.up (c184n (d := 0) hF hkq h51 h52 e0 (by decide) (by decide) h1 (pm_ok_0 (by omega) (by decide) (by decide)) (fun r1 z1 e1 => ?_)) (by omega)
  refine b186_36 hF (k := ?_)
  refine pe_M.up (c184n (d := 0) hF hkq h51 h52 e1 (by decide) (by decide) h2 (pm_ok_0 (by omega) (by decide) (by decide)) (fun r2 z2 e2 => ?_)) (by omega)
  refine b186_48 hF (k := ?_)
  refine pe_M.up (c184n (d := 0) hF hkq h51 h52 e2 (by decide) (by decide) h3 (pm_ok_0 (by omega) (by decide) (by decide)) (fun r3 z3 e3 => ?_)) (by omega)
  refine b186_60 hF (k := ?_)
  rw [e3]
  refine c186_D (d := d + 1) hF hkq h51 h52 h4 (by decide) _ (fun o2' => ?_)
  refine b186_92 hF (k := ?_)
  refine c186_E (d := d + 1) hF hkq h51 h52 o1 (by simp only [List.length_append, List.length_singleton, List.length_nil, l1]; omega) _ (fun o2' => ?_)
  refine b186_138 hF (k := ?_)
  refine c186_F (d := d + 1) hF hkq h51 h52 o2 (by simp only [List.length_append, List.length_singleton, List.length_nil, l1, l2]; omega) _ (fun o2' => ?_)
  refine b186_328 hF (k := ?_)
  refine c186_G (d := d + 1) hF hkq h51 h52 o3 (by simp only [List.length_append, List.length_singleton, List.length_nil, l1, l2, l3]; omega) _ (fun o2' => ?_)
  refine b186_358 hF (k := ?_)
  refine pe_M.up (c185 (d := 0) hF hkq h51 h52 o4 (by simp only [List.length_append, List.length_singleton, List.length_nil, l1, l2, l3, l4]; omega) ?_) (by omega)
  refine b186_362 hF (k := ?_)
  exact k
end
