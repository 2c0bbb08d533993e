/-! THE MODEL: what is told is done -/
def pt_fsN (p : pa_P) : Nat → Int
  | 0 => 0
  | n + 1 => pt_fsN p n + (if (p.getD n (0, 0)).1 = 102 then 1 else 0)
theorem pt_fsN_cons (x : Int × Int) (p : pa_P) : ∀ n, pt_fsN (x :: p) (n + 1) = (if x.1 = 102 then 1 else 0) + pt_fsN p n
  | 0 => by show 0 + _ = _ + 0; simp
  | n + 1 => by
    show pt_fsN (x :: p) (n + 1) + _ = _
    rw [pt_fsN_cons x p n]
    show _ = _ + (pt_fsN p n + _)
    rw [List.getD_cons_succ]
    omega
theorem pt_fsN_all : ∀ p : pa_P, pt_fsN p p.length = pt_fs p
  | [] => rfl
  | x :: p => by
    rw [List.length_cons, pt_fsN_cons, pt_fsN_all p]
    rfl
section
variable {d M q : Nat} {Φ : Option pe_V → pe_H → Prop} {σ : pe_H} {y : Nat → Int → Int} {a s : pa_M} {c i k o S p : Int} {l : List Int} {h : Int → pa_Sh} {D : Int}
theorem pt_steps_len : ∀ (f : Nat) (j : Int), 0 ≤ j → 0 ≤ pt_pend l f j → j + (pt_steps l f j).length ≤ pt_pend l f j
  | 0, j, h, hg => by unfold pt_pend at hg; omega
  | f + 1, j, h, hg => by
    unfold pt_pend at hg
    unfold pt_pend pt_steps
    by_cases q1 : pt_at l j = 59
    · rw [if_pos q1, if_neg (by omega), if_neg (by unfold pt_ns; omega)]
      simp
      omega
    · rw [if_neg q1] at hg ⊢
      by_cases q2 : pt_at l j = 102
      · rw [if_pos q2] at hg ⊢
        rw [if_pos q2]
        have := pt_steps_len f (j + 1) (by omega) hg
        rw [List.length_cons]
        push_cast
        omega
      · rw [if_neg q2] at hg ⊢
        by_cases q3 : pt_ns (pt_at l j)
        · rw [if_pos q3] at hg ⊢
          by_cases q4 : pt_dg l (j + 1)
          · rw [if_pos q4] at hg ⊢
            rw [if_neg q2, if_pos q3]
            have := pt_steps_len f (j + 2) (by omega) hg
            rw [List.length_cons]
            push_cast
            omega
          · rw [if_neg q4] at hg; omega
        · rw [if_neg q3] at hg; omega
/-- where the statement i begins -/
def pt_pl (l : List Int) : Nat → Int
  | 0 => 0
  | i + 1 => pt_stmt l (pt_pl l i)
end

