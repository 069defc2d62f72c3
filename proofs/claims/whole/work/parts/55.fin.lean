/-! Finite facts of numbers of STOCKS and sets. -/
theorem st_subI : ∀ c, c < 8 → ∀ b, b < 8 → (nI c &&& (nI b ^^^ (-1)) = 0 ↔ sb_in c b = true) := by decide +kernel
/-- behind one, the next with as many of each -/
def st_lg (a : Nat) : Nat := if a % 4 ≠ 3 then 1 else if a / 4 % 4 ≠ 3 then 4 else if a / 16 % 4 ≠ 3 then 16 else if a / 64 % 4 ≠ 3 then 64 else 256
def st_nxa (a f : Nat) : Nat := (a + 1) ||| (f &&& (st_lg a - 1))
theorem st_lg_ok : ∀ a, a < 256 → (((nI a + 1) &&& (-(nI a + 1))) &&& 1431655765 = 0 → ((nI a + 1) &&& (-(nI a + 1))) >>> (1 &&& 31) = nI (st_lg a)) ∧ (¬ ((nI a + 1) &&& (-(nI a + 1))) &&& 1431655765 = 0 → ((nI a + 1) &&& (-(nI a + 1))) = nI (st_lg a)) := by decide +kernel
theorem st_lg_1 : ∀ a, a < 256 → 1 ≤ st_lg a := by decide +kernel
theorem st_nx : ∀ a, a < 256 → ∀ f, f < 256 → st_in f a = true → min (st_nxa a f) 256 = tk_run (fun x => !st_in f x) (255 - a) (a + 1) := by decide +kernel
theorem st_nxlt : ∀ a, a < 256 → ∀ f, f < 256 → st_nxa a f < 512 := by decide +kernel
