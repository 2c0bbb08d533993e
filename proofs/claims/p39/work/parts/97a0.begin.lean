/-! THE CLASS'S BEGINNING (the rest of part 92) -/
section
variable {d r B C : Nat} {Φ : Option pe_V → pe_H → Prop} {σ τ : pe_H}
theorem pk_N.F (h : pk_N B σ) : pk_Fm B σ := by
  obtain ⟨⟨⟨b1, b2, b3⟩, b, -⟩, a1, a2, a3, -⟩ := h
  exact ⟨⟨b1, b2⟩, b, a2, fun i i0 i3 => ⟨(a3 i i0 i3).1.1, (a3 i i0 i3).1.2.1⟩, fun i i0 i3 => ⟨(a3 i i0 i3).2.1, (a3 i i0 i3).2.2.1⟩⟩
theorem pg_W_0 : pg_W pa_0 none pa_h0 := by
  refine ⟨⟨⟨⟨⟨by decide, by decide⟩, ⟨by decide, by decide⟩, fun c c0 c1 => ?_, fun p _ _ => ?_⟩, fun w hw ch _ _ => ⟨List.nodup_nil, fun c => ⟨fun q => absurd q List.not_mem_nil, fun q => ?_⟩⟩, fun c c0 c1 => ?_, fun c c0 c1 => ?_⟩, by decide, by decide⟩, ⟨fun b hb => (by cases hb), fun d _ _ => ?_⟩⟩
  · have : c < 0 := c1; omega
  · exact ⟨Nat.zero_le _, fun q hq => absurd hq List.not_mem_nil, fun i hi => absurd hi (Nat.not_lt_zero _)⟩
  · have : c < 0 := q.1.2; have := q.1.1; omega
  · have : c < 0 := c1; omega
  · have : c < 0 := c1; omega
  · exact ⟨Or.inl rfl, fun q => absurd (show (0 : Int) = 1 from q) (by decide), fun q => absurd (show (0 : Int) = 2 from q) (by decide)⟩
theorem pk_N.RM {T : Nat → Prop} (h : pk_N B σ) (h9 : T (B + 9)) (h10 : T (B + 10)) (hT : ∀ x, T x → ¬ pk_Z B x) : pk_RM B T σ pa_0 := by
  have hF := h.F
  obtain ⟨⟨-, -, ⟨c1, c2, c3, c4⟩, ⟨d1, d2, d3, d4, d5⟩⟩, a1, a2, a3, -⟩ := h
  refine ⟨fun _ => (0, []), 0, ⟨hF, hT, ⟨c1, c2, c3, c4⟩, ⟨by decide, fun i i0 i1 => absurd i1 (by omega)⟩, fun c c0 c1 => ?_, fun p p0 p5 => ?_, fun ch h0 h3 => ?_⟩, ?_⟩
  · have : c < 0 := c1; omega
  · rw [a1 p p0 p5]
    exact ⟨⟨h9, by rw [d3]; exact h10⟩, d1, d2, by rw [d3]; exact d4, by rw [d3]; exact d5, fun i i0 i1 => absurd i1 (by show ¬ i < (0 : Int); omega)⟩
  · exact ⟨⟨(a3 ch h0 h3).1.2.2, fun i hi => absurd hi (Nat.not_lt_zero _)⟩, (a3 ch h0 h3).2.2.2, fun i hi => absurd hi (Nat.not_lt_zero _)⟩
  · exact Int.le_refl _
def pk_T0 (C x : Nat) : Prop := x = C + 178 ∨ x = C + 10 ∨ x = C + 11
theorem pk_S0.G (h : pk_S0 C σ τ 8) (hn : C + 875 ≤ pe_n τ) : pg_G C (pk_T0 C) (fun _ => False) τ pa_0 none pa_h0 := by
  obtain ⟨a1, a2, a3, a4, a5, a6, ⟨a7, a8, a9⟩, b1, ⟨b2, b3⟩, b4, -⟩ := h
  have hT : ∀ x, pk_T0 C x → ¬ pg_Z C x := fun x hx q => by
    rcases q with q | q | q | q | ⟨i, i0, i8, q⟩ <;> (try unfold pk_Z at q) <;> (try unfold pk_m at q) <;> rcases hx with e | e | e <;> omega
  refine ⟨⟨a1, a2, a3, a4, a5, a6, ⟨b2.F, b3.F⟩, fun i i0 i8 => ⟨(b4 i i0 i8).1, (b4 i i0 i8).2.F⟩⟩, ⟨fun x hx => ⟨hT x hx, ?_⟩, fun x hx => hx.elim, hn⟩, ⟨Or.inl rfl, a7, a8⟩, b2.RM (Or.inr (Or.inl rfl)) (Or.inr (Or.inr rfl)) (fun x hx q => hT x hx (Or.inr (Or.inr (Or.inl q)))), ⟨fun _ => a9, fun b hb => (by cases hb)⟩, fun D D0 D8 => ⟨fun _ => ⟨(b1 D).2, (b1 D).1⟩, fun q => absurd (show (0 : Int) = 1 from q) (by decide), fun q => absurd (show (0 : Int) = 2 from q) (by decide)⟩, fun D e _ _ _ _ _ q => absurd (show (0 : Int) = 2 from q) (by decide)⟩
  have hn' : C + 875 ≤ τ.1 := hn
  rcases hx with e | e | e <;> omega
end
