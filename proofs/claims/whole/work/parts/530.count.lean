/-- the same, as a number -/
def bN (D : Nat → Int32) (x y : Int32) : Nat → Nat
  | 0 => 0
  | n + 1 => if D (46 + 6 * n + 2) = x ∧ D (46 + 6 * n + 3) = y then 2 ^ n + bN D x y n else bN D x y n
def pc (v : Nat) : Nat := (List.range 10).foldl (fun a i => a + if v.testBit i then 1 else 0) 0
theorem orpow : ∀ n, n < 10 → ∀ v, v < 1024 → v < 2 ^ n → nI v ||| ((1 : Int32) <<< (nI n &&& 31)) = nI (2 ^ n + v) := by
  decide +kernel
theorem many_all : ∀ v, v < 1024 → f_X12_many (nI v) (fun _ _ => 0) = some (nI (pc v)) ∧ pc v ≤ 10 := by
  decide +kernel
theorem bc_all : ∀ t, t < 10 → ∀ v, v < 1024 → f_J6_bitCount_0f7a4 (nI v &&& (((1 : Int32) <<< (nI t &&& 31)) ^^^ (-1 : Int32))) (fun _ _ => 0) = some (nI (pc v - if v.testBit t then 1 else 0)) ∧ (v.testBit t = true → 1 ≤ pc v) := by
  decide +kernel
