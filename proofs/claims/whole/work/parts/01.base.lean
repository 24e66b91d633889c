theorem zz_try (a b c : Int) (h : a * b = c) : (a + 1) * b = c + b := by grind
theorem zz_try2 (x y : Int32) : (x + y).toInt = (x.toInt + y.toInt).bmod (2 ^ 32) := Int32.toInt_add x y
theorem zz_try3 (x y : Int64) : (x / y).toInt = (x.toInt.tdiv y.toInt).bmod (2 ^ 64) := Int64.toInt_div x y
