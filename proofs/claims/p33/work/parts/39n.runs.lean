/-! How many runs 13 bits have -/
def rlN (r f : Nat) : Nat → Nat → Nat
  | 0, _ => 0
  | k + 1, n => if r.testBit ((f + (n - 1)) % 13) = true then (if 3 ≤ n then 1 else 0) + rlN r f k (n + 1) else 0
def cRN (r : Nat) : Nat → Nat → Nat
  | 0, _ => 0
  | k + 1, f => rlN r f (if f = 0 then 13 else 12) 1 + cRN r k (f + 1)
def runsOk (r : Nat) : Bool := decide (11 < cnt (fun c => r.testBit c) 13) || decide (11 * cRN r 13 0 ≤ 45 * cnt (fun c => r.testBit c) 13)
theorem runs_0 : ∀ l : Nat, l < 1024 → runsOk (1024 * 0 + l) = true := by decide +kernel
theorem runs_1 : ∀ l : Nat, l < 1024 → runsOk (1024 * 1 + l) = true := by decide +kernel
theorem runs_2 : ∀ l : Nat, l < 1024 → runsOk (1024 * 2 + l) = true := by decide +kernel
theorem runs_3 : ∀ l : Nat, l < 1024 → runsOk (1024 * 3 + l) = true := by decide +kernel
theorem runs_4 : ∀ l : Nat, l < 1024 → runsOk (1024 * 4 + l) = true := by decide +kernel
theorem runs_5 : ∀ l : Nat, l < 1024 → runsOk (1024 * 5 + l) = true := by decide +kernel
theorem runs_6 : ∀ l : Nat, l < 1024 → runsOk (1024 * 6 + l) = true := by decide +kernel
theorem runs_7 : ∀ l : Nat, l < 1024 → runsOk (1024 * 7 + l) = true := by decide +kernel
