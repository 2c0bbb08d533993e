/-! THE MODEL: all of its state carried to and fro -/

def pm_gA (i : Int) : List (Nat × Int) := [(15, i), (16, i), (17, i), (18, i), (19, i), (20, i), (26, i)]
def pm_gB (i : Int) : List (Nat × Int) := [(21, i), (22, i)]
def pm_gC (i : Int) : List (Nat × Int) := [(24, i)]
def pm_gD (i : Int) : List (Nat × Int) := [(1, i)]
def pm_gE (i : Int) : List (Nat × Int) := [(2, i), (3, i)]
def pm_gF (i : Int) : List (Nat × Int) := [(4, i), (5, i), (6, i), (7, i), (8, i), (9, i), (10, i), (11, i), (12, i), (13, i), (14, i)]
def pm_gG (i : Int) : List (Nat × Int) := [(25, i)]
section
variable {d M q : Nat} {Φ : Option pe_V → pe_H → Prop} {σ : pe_H} {y y1 y2 : Nat → Int → Int} {t : Bool} {kq : Nat} {A : List (Nat × Int)}
def pm_cl : List (Nat × Int) := [] ++ [(0, 3)] ++ [(0, 23)] ++ [(0, 28)] ++ [(0, 29)] ++ pm_sg 5 pm_gD ++ pm_sg 80 pm_gE ++ pm_sg 8 pm_gF ++ pm_sg 6 pm_gG ++ pm_sg 48 pm_gA ++ pm_sg 768 pm_gB ++ pm_sg 600 pm_gC
end

