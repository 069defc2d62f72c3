/-- has as many of each GROUND; together no more than 3 of any -/
def st_in (b a : Nat) : Bool := Nat.ble (b % 4) (a % 4) && (Nat.ble (b / 4 % 4) (a / 4 % 4) && (Nat.ble (b / 16 % 4) (a / 16 % 4) && Nat.ble (b / 64 % 4) (a / 64 % 4)))
def st_fit (a b : Nat) : Bool := Nat.ble (a % 4 + b % 4) 3 && (Nat.ble (a / 4 % 4 + b / 4 % 4) 3 && (Nat.ble (a / 16 % 4 + b / 16 % 4) 3 && Nat.ble (a / 64 % 4 + b / 64 % 4) 3))
theorem st_carry : ∀ a, a < 256 → ∀ b, b < 256 → ((((a &&& b) ||| ((a ||| b) &&& ((a + b) ^^^ 4294967295))) &&& 170) == 0) = st_fit a b := by decide +kernel
theorem st_fit255 : ∀ a, a < 256 → ∀ b, b < 256 → st_fit b (255 - a) = st_in b a := by decide +kernel
theorem st_inle : ∀ a, a < 256 → ∀ b, b < 256 → st_in b a = true → b ≤ a := by decide +kernel
theorem st_fitlt : ∀ a, a < 256 → ∀ b, b < 256 → st_fit a b = true → a + b < 256 := by decide +kernel
