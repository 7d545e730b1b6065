/-! The given arrays, and the start of the law. -/
def am_HA : List Int32 := [30, 2880, 2880, 2880, 2880]
def am_HB : List Int32 := [0, 2880, 600, 0, 20000]
def am_MS : List Int32 := [0, 31, 59, 90, 120, 151, 181, 212, 243, 273, 304, 334, 365, 396, 424, 455, 485, 516, 546, 577, 608, 638, 669, 699, 730, 761, 790, 821, 851, 882, 912, 943, 974, 1004, 1035, 1065, 1096]
def am_E0 (L : Nat) (xs : Nat → Int32) : am_E := fun e => match e with
  | 0 => (L, xs)
  | 1 => (5, fun j => am_HA.getD j 0)
  | 2 => (5, fun j => am_HB.getD j 0)
  | _ => (37, fun j => am_MS.getD j 0)
def am_M0 : am_M := (0, fun _ => none)
