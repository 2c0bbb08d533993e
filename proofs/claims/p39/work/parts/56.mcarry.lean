/-! THE MODEL: its state carried to and fro -/
def pm_sg (n : Nat) (g : Int → List (Nat × Int)) : List (Nat × Int) := (List.range n).flatMap (fun (i : Nat) => g (i : Int))
section
variable {d M q : Nat} {Φ : Option pe_V → pe_H → Prop} {σ : pe_H} {y y1 y2 : Nat → Int → Int} {t : Bool} {kq : Nat} {l : List (Nat × Int)}
end

