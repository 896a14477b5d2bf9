/-! ===== determinants: by the last row, and by fraction-free elimination ===== -/
def d2 (x : Nat → Nat → Int) (a b : Nat) : Int := x 1 b * x 0 a - x 1 a * x 0 b
def d3 (x : Nat → Nat → Int) (r a b c : Nat) : Int := x r c * d2 x a b - x r b * d2 x a c + x r a * d2 x b c
def d4 (x : Nat → Nat → Int) (r a b c d : Nat) : Int := x r d * d3 x 2 a b c - x r c * d3 x 2 a b d + x r b * d3 x 2 a c d - x r a * d3 x 2 b c d
def d5 (x : Nat → Nat → Int) (r a b c d e : Nat) : Int := x r e * d4 x 3 a b c d - x r d * d4 x 3 a b c e + x r c * d4 x 3 a b d e - x r b * d4 x 3 a c d e + x r a * d4 x 3 b c d e
theorem id2 (x : Nat → Nat → Int) (i j : Nat) : (x i j * x 0 0 - x i 0 * x 0 j) * (x 1 1 * x 0 0 - x 1 0 * x 0 1) - (x i 1 * x 0 0 - x i 0 * x 0 1) * (x 1 j * x 0 0 - x 1 0 * x 0 j) = d3 x i 0 1 j * x 0 0 := by
  unfold d3 d2
  grind
theorem id3 (x : Nat → Nat → Int) (i j : Nat) : d3 x i 0 1 j * d3 x 2 0 1 2 - d3 x i 0 1 2 * d3 x 2 0 1 j = d4 x i 0 1 2 j * (x 1 1 * x 0 0 - x 1 0 * x 0 1) := by
  unfold d4 d3 d2
  grind
theorem pl1 (x : Nat → Nat → Int) : d3 x 2 0 1 2 * d3 x 2 0 3 4 - d3 x 2 0 1 3 * d3 x 2 0 2 4 + d3 x 2 0 1 4 * d3 x 2 0 2 3 = 0 := by
  unfold d3 d2
  grind
theorem pl2 (x : Nat → Nat → Int) : d3 x 2 0 1 2 * d3 x 2 1 3 4 - d3 x 2 0 1 3 * d3 x 2 1 2 4 + d3 x 2 0 1 4 * d3 x 2 1 2 3 = 0 := by
  unfold d3 d2
  grind
theorem pl3 (x : Nat → Nat → Int) : d3 x 2 0 1 2 * d3 x 2 2 3 4 - d3 x 2 0 2 3 * d3 x 2 1 2 4 + d3 x 2 0 2 4 * d3 x 2 1 2 3 = 0 := by
  unfold d3 d2
  grind
theorem id4r (x3 x4 : Nat → Int) (A B C D E F G H I J : Int) (h1 : A * F - B * E + C * D = 0) (h2 : A * I - B * H + C * G = 0) (h3 : A * J - D * H + E * G = 0) :
    (x4 4 * A - x4 2 * C + x4 1 * E - x4 0 * H) * (x3 3 * A - x3 2 * B + x3 1 * D - x3 0 * G) - (x4 3 * A - x4 2 * B + x4 1 * D - x4 0 * G) * (x3 4 * A - x3 2 * C + x3 1 * E - x3 0 * H)
      = (x4 4 * (x3 3 * A - x3 2 * B + x3 1 * D - x3 0 * G) - x4 3 * (x3 4 * A - x3 2 * C + x3 1 * E - x3 0 * H) + x4 2 * (x3 4 * B - x3 3 * C + x3 1 * F - x3 0 * I) - x4 1 * (x3 4 * D - x3 3 * E + x3 2 * F - x3 0 * J) + x4 0 * (x3 4 * G - x3 3 * H + x3 2 * I - x3 1 * J)) * A := by
  grind
theorem id4 (x : Nat → Nat → Int) : d4 x 4 0 1 2 4 * d4 x 3 0 1 2 3 - d4 x 4 0 1 2 3 * d4 x 3 0 1 2 4 = d5 x 4 0 1 2 3 4 * d3 x 2 0 1 2 := by
  unfold d5 d4
  exact id4r (x 3) (x 4) _ _ _ _ _ _ _ _ _ _ (pl1 x) (pl2 x) (pl3 x)
