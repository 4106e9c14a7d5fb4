/-! ===== the lowest bit ===== -/
def tz (n : Nat) : Nat := ((List.range 12).find? (fun k => n.testBit k)).getD 0
def z62 (x0 x1 : Int) : Int := if 4 < x0 then (x1 + 2) + (zush (zush x0 2) 1) else x1 + (zush x0 1)
def z49 (x0 x1 : Int) : Int := if 16 < x0 then z62 (zush x0 4) (x1 + 4) else z62 x0 x1
def z34 (x0 x1 : Int) : Int := if 256 < x0 then z49 (zush x0 8) (x1 + 8) else z49 x0 x1
def z92 (x0 : Int) : Int := if 0 < zand (zxor x0 (-1)) (x0 - 1) then (if 65536 < zand (zxor x0 (-1)) (x0 - 1) then z34 (zush (zand (zxor x0 (-1)) (x0 - 1)) 16) (1 + 16) else z34 (zand (zxor x0 (-1)) (x0 - 1)) 1) else zand (zand (zxor x0 (-1)) (x0 - 1)) 32
theorem z92_tz0 : ∀ a : Nat, a < 64 → ∀ b : Nat, b < 64 → ¬ 64 * a + b = 0 → z92 ((64 * a + b : Nat) : Int) = ((tz (64 * a + b) : Nat) : Int) := by decide +kernel
theorem tz_lt0 : ∀ a : Nat, a < 64 → ∀ b : Nat, b < 64 → ¬ 64 * a + b = 0 → tz (64 * a + b) < 12 ∧ (64 * a + b).testBit (tz (64 * a + b)) = true ∧ ∀ k, k < tz (64 * a + b) → (64 * a + b).testBit k = false := by decide +kernel
theorem z92_tz {n : Nat} (h : n < 4096) (h0 : ¬ n = 0) : z92 ((n : Nat) : Int) = ((tz n : Nat) : Int) := by
  have e : n = 64 * (n / 64) + n % 64 := by omega
  have := z92_tz0 (n / 64) (by omega) (n % 64) (by omega) (by omega)
  rw [← e] at this
  exact this
theorem tz_lt {n : Nat} (h : n < 4096) (h0 : ¬ n = 0) : tz n < 12 ∧ n.testBit (tz n) = true ∧ ∀ k, k < tz n → n.testBit k = false := by
  have e : n = 64 * (n / 64) + n % 64 := by omega
  have := tz_lt0 (n / 64) (by omega) (n % 64) (by omega) (by omega)
  rw [← e] at this
  exact this
